def yP_physicalOf : MethodName := ⟨"MeshedSpans$Spans", "physicalOf", "(I)I"⟩
def wP_physicalOf : List Cond := .code yP_physicalOf prog_6_method_2_code 2 (some .int) :: gw
theorem kP_physicalOf {R : Room} {s : State} {args : Array Value} {own : String} {ix : Nat} (hts : ∀ w ∈ gw, w.before args s = true) (hl : (Cond.methodLink own ix yP_physicalOf).before args s = true) (hR : 1 + 1 ≤ R.frames ∧ 8 + (2 + 11) + 20 ≤ R.locals) : CallW R s args own "MeshedSpans$Spans" ix yP_physicalOf prog_6_method_2_code 2 (some .int) wP_physicalOf { frames := 1, cells := 0, slots := 0, locals := 20 } 0 0 1 := ⟨callB_of (rm := { frames := 1, cells := 0, slots := 0, locals := 20 }) 1 hts (gw_c (ct := .code yP_physicalOf prog_6_method_2_code 2 (some .int)) gm_326) rfl rfl rfl (hts _ gm_43) hl (by decide +kernel) hR, hts _ gm_324, hts _ gm_325⟩
theorem dP_physicalOf_0 : decode prog_6_method_2_code 0 = .ok (.iload_n 1, 1) := by decide +kernel
theorem dP_physicalOf_1 : decode prog_6_method_2_code 1 = .ok (.invokestatic 21, 3) := by decide +kernel
theorem dP_physicalOf_4 : decode prog_6_method_2_code 4 = .ok (.ifCond .eq 12, 3) := by decide +kernel
theorem dP_physicalOf_7 : decode prog_6_method_2_code 7 = .ok (.aload_n 0, 1) := by decide +kernel
theorem dP_physicalOf_8 : decode prog_6_method_2_code 8 = .ok (.getfield 15, 3) := by decide +kernel
theorem dP_physicalOf_11 : decode prog_6_method_2_code 11 = .ok (.iload_n 1, 1) := by decide +kernel
theorem dP_physicalOf_12 : decode prog_6_method_2_code 12 = .ok (.iaload, 1) := by decide +kernel
theorem dP_physicalOf_13 : decode prog_6_method_2_code 13 = .ok (.goto 4, 3) := by decide +kernel
theorem dP_physicalOf_16 : decode prog_6_method_2_code 16 = .ok (.iconst (-1), 1) := by decide +kernel
theorem dP_physicalOf_17 : decode prog_6_method_2_code 17 = .ok (.ireturn, 1) := by decide +kernel
def fP_physicalOf (a0 : Int32) (g : fl_G) : Option (Int32 × fl_G) :=
  fl_bd (fS_isVirtual a0 g) (fun r1 g2 => if r1 = 0 then (some ((-1), g2)) else (fl_ck (fl_in a0 24) (some ((g2 4 (Int32.toNatClampNeg a0)), g2))))
set_option maxHeartbeats 4000000 in
set_option maxRecDepth 100000 in
theorem cP_physicalOf (l : Launch) (dC : Nat → ClassId) (dI : Nat → Nat → Nat) (ca : Nat → ClassId) (ad : Nat → Nat) (hI : fl_inj 32 ad) (a0 : Int32) {g g1 : fl_G} {r : Int32} (h : fP_physicalOf a0 g = some (r, g1)) : Met l yP_physicalOf wP_physicalOf ({ frames := 1, cells := 0, slots := 0, locals := 20 }) (va_Pc [.ref (ad 2), .int a0] (fl_Pre (dC, dI) al_cl 32 (mc_sh ca ad) ad (mc_ty ca) mc_ns g)) (fl_QI (dC, dI) al_cl 32 (mc_sh ca ad) ad r g1) 0 0 (fl_A 32 ad) := by
  refine fl_of (cc := prog_6_method_2_code) (maxL := 2) (ret := (some .int)) (by decide) rfl (Nat.le_of_ble_eq_true rfl) ?_
  intro p e s m below meth c ls hx hb hr hml hts hown hlocks hP hK hN hl
  have hown : s.vm.findClass "MeshedSpans$Spans" = some m.cls := hown
  have hS : va_S (fl_A 32 ad) s.heap s.heap [] := va_S.rf
  have hl : lv_has ls 2 [(0, .ref (ad 2)), (1, .int a0)] := hl
  unfold fP_physicalOf at h
  refine lv_iload_n hx hb dP_physicalOf_0 rfl (lv_at hl 1 rfl) ?_
  replace h := fl_bd_some h
  obtain ⟨r1, g2, hc3, h⟩ := h
  refine fl_calli (va_runSN (As := [.int a0]) (rest := []) ⟨hx, hb, hml, hown, hts⟩ (cS_isVirtual l dC dI ca ad hI a0 hc3) (kS_isVirtual_N hts (hN.use _ nm_5) ⟨Nat.le_of_ble_eq_true rfl, Nat.le_of_ble_eq_true rfl⟩) (fl_preS hK hP hN) rfl rfl hl.1 rfl (lv_room (Nat.le_of_ble_eq_true rfl)) dP_physicalOf_1 ⟨Nat.le_refl 0, Nat.le_refl 0⟩) hS (fun H locs hP hS => ?_)
  refine lv_if_eq (tgt := 16) hx hb dP_physicalOf_4 (by decide) (fun c4 => ?_) (fun c4 => ?_)
  · replace h := fl_pos c4 h
    refine lv_iconst (v := (-1)) hx hb dP_physicalOf_16 (by decide) ?_
    exact fl_iret hx hb hr hlocks hP hS h dP_physicalOf_17
  · replace h := fl_neg c4 h
    refine lv_aload_n hx hb dP_physicalOf_7 rfl (lv_at hl 0 rfl) ?_
    refine mc_get2 (v := .ref (ad 4)) hx hb hts mc_in2 hown hK hP (q := 2) rfl 1 (by decide) (hts _ gm_75) rfl dP_physicalOf_8 ?_
    refine lv_iload_n hx hb dP_physicalOf_11 rfl (lv_at hl 1 rfl) ?_
    replace h := fl_ck_some h
    obtain ⟨hi5, h⟩ := h
    refine mc_iald hx hb hK hP (q := 4) rfl hi5 dP_physicalOf_12 ?_
    refine lv_goto (tgt := 17) hx hb dP_physicalOf_13 (by decide) ?_
    exact fl_iret hx hb hr hlocks hP hS h dP_physicalOf_17
def yP_virtualsOf : MethodName := ⟨"MeshedSpans$Spans", "virtualsOf", "(I)I"⟩
def wP_virtualsOf : List Cond := .code yP_virtualsOf prog_6_method_3_code 2 (some .int) :: gw
theorem kP_virtualsOf {R : Room} {s : State} {args : Array Value} {own : String} {ix : Nat} (hts : ∀ w ∈ gw, w.before args s = true) (hl : (Cond.methodLink own ix yP_virtualsOf).before args s = true) (hR : 1 + 1 ≤ R.frames ∧ 8 + (2 + 11) + 20 ≤ R.locals) : CallW R s args own "MeshedSpans$Spans" ix yP_virtualsOf prog_6_method_3_code 2 (some .int) wP_virtualsOf { frames := 1, cells := 0, slots := 0, locals := 20 } 0 0 1 := ⟨callB_of (rm := { frames := 1, cells := 0, slots := 0, locals := 20 }) 1 hts (gw_c (ct := .code yP_virtualsOf prog_6_method_3_code 2 (some .int)) gm_464) rfl rfl rfl (hts _ gm_43) hl (by decide +kernel) hR, hts _ gm_462, hts _ gm_463⟩
theorem dP_virtualsOf_0 : decode prog_6_method_3_code 0 = .ok (.iload_n 1, 1) := by decide +kernel
theorem dP_virtualsOf_1 : decode prog_6_method_3_code 1 = .ok (.invokestatic 25, 3) := by decide +kernel
theorem dP_virtualsOf_4 : decode prog_6_method_3_code 4 = .ok (.ifCond .eq 12, 3) := by decide +kernel
theorem dP_virtualsOf_7 : decode prog_6_method_3_code 7 = .ok (.aload_n 0, 1) := by decide +kernel
theorem dP_virtualsOf_8 : decode prog_6_method_3_code 8 = .ok (.getfield 18, 3) := by decide +kernel
theorem dP_virtualsOf_11 : decode prog_6_method_3_code 11 = .ok (.iload_n 1, 1) := by decide +kernel
theorem dP_virtualsOf_12 : decode prog_6_method_3_code 12 = .ok (.iaload, 1) := by decide +kernel
theorem dP_virtualsOf_13 : decode prog_6_method_3_code 13 = .ok (.goto 4, 3) := by decide +kernel
theorem dP_virtualsOf_16 : decode prog_6_method_3_code 16 = .ok (.iconst (-1), 1) := by decide +kernel
theorem dP_virtualsOf_17 : decode prog_6_method_3_code 17 = .ok (.ireturn, 1) := by decide +kernel
def fP_virtualsOf (a0 : Int32) (g : fl_G) : Option (Int32 × fl_G) :=
  fl_bd (fS_isPhysical a0 g) (fun r1 g2 => if r1 = 0 then (some ((-1), g2)) else (fl_ck (fl_in a0 12) (some ((g2 5 (Int32.toNatClampNeg a0)), g2))))
set_option maxHeartbeats 4000000 in
set_option maxRecDepth 100000 in
theorem cP_virtualsOf (l : Launch) (dC : Nat → ClassId) (dI : Nat → Nat → Nat) (ca : Nat → ClassId) (ad : Nat → Nat) (hI : fl_inj 32 ad) (a0 : Int32) {g g1 : fl_G} {r : Int32} (h : fP_virtualsOf a0 g = some (r, g1)) : Met l yP_virtualsOf wP_virtualsOf ({ frames := 1, cells := 0, slots := 0, locals := 20 }) (va_Pc [.ref (ad 2), .int a0] (fl_Pre (dC, dI) al_cl 32 (mc_sh ca ad) ad (mc_ty ca) mc_ns g)) (fl_QI (dC, dI) al_cl 32 (mc_sh ca ad) ad r g1) 0 0 (fl_A 32 ad) := by
  refine fl_of (cc := prog_6_method_3_code) (maxL := 2) (ret := (some .int)) (by decide) rfl (Nat.le_of_ble_eq_true rfl) ?_
  intro p e s m below meth c ls hx hb hr hml hts hown hlocks hP hK hN hl
  have hown : s.vm.findClass "MeshedSpans$Spans" = some m.cls := hown
  have hS : va_S (fl_A 32 ad) s.heap s.heap [] := va_S.rf
  have hl : lv_has ls 2 [(0, .ref (ad 2)), (1, .int a0)] := hl
  unfold fP_virtualsOf at h
  refine lv_iload_n hx hb dP_virtualsOf_0 rfl (lv_at hl 1 rfl) ?_
  replace h := fl_bd_some h
  obtain ⟨r1, g2, hc3, h⟩ := h
  refine fl_calli (va_runSN (As := [.int a0]) (rest := []) ⟨hx, hb, hml, hown, hts⟩ (cS_isPhysical l dC dI ca ad hI a0 hc3) (kS_isPhysical_N hts (hN.use _ nm_6) ⟨Nat.le_of_ble_eq_true rfl, Nat.le_of_ble_eq_true rfl⟩) (fl_preS hK hP hN) rfl rfl hl.1 rfl (lv_room (Nat.le_of_ble_eq_true rfl)) dP_virtualsOf_1 ⟨Nat.le_refl 0, Nat.le_refl 0⟩) hS (fun H locs hP hS => ?_)
  refine lv_if_eq (tgt := 16) hx hb dP_virtualsOf_4 (by decide) (fun c4 => ?_) (fun c4 => ?_)
  · replace h := fl_pos c4 h
    refine lv_iconst (v := (-1)) hx hb dP_virtualsOf_16 (by decide) ?_
    exact fl_iret hx hb hr hlocks hP hS h dP_virtualsOf_17
  · replace h := fl_neg c4 h
    refine lv_aload_n hx hb dP_virtualsOf_7 rfl (lv_at hl 0 rfl) ?_
    refine mc_get2 (v := .ref (ad 5)) hx hb hts mc_in2 hown hK hP (q := 2) rfl 2 (by decide) (hts _ gm_76) rfl dP_virtualsOf_8 ?_
    refine lv_iload_n hx hb dP_virtualsOf_11 rfl (lv_at hl 1 rfl) ?_
    replace h := fl_ck_some h
    obtain ⟨hi5, h⟩ := h
    refine mc_iald hx hb hK hP (q := 5) rfl hi5 dP_virtualsOf_12 ?_
    refine lv_goto (tgt := 17) hx hb dP_virtualsOf_13 (by decide) ?_
    exact fl_iret hx hb hr hlocks hP hS h dP_virtualsOf_17
def yP_freeOnes : MethodName := ⟨"MeshedSpans$Spans", "freeOnes", "()I"⟩
def wP_freeOnes : List Cond := .code yP_freeOnes prog_6_method_4_code 3 (some .int) :: gw
theorem kP_freeOnes {R : Room} {s : State} {args : Array Value} {own : String} {ix : Nat} (hts : ∀ w ∈ gw, w.before args s = true) (hl : (Cond.methodLink own ix yP_freeOnes).before args s = true) (hR : 0 + 1 ≤ R.frames ∧ 8 + (3 + 11) + 0 ≤ R.locals) : CallW R s args own "MeshedSpans$Spans" ix yP_freeOnes prog_6_method_4_code 3 (some .int) wP_freeOnes { frames := 0, cells := 0, slots := 0, locals := 0 } 0 0 0 := ⟨callB_of (rm := { frames := 0, cells := 0, slots := 0, locals := 0 }) 0 hts (gw_c (ct := .code yP_freeOnes prog_6_method_4_code 3 (some .int)) gm_187) rfl rfl rfl (hts _ gm_43) hl (by decide +kernel) hR, hts _ gm_185, hts _ gm_186⟩
theorem dP_freeOnes_0 : decode prog_6_method_4_code 0 = .ok (.iconst 0, 1) := by decide +kernel
theorem dP_freeOnes_1 : decode prog_6_method_4_code 1 = .ok (.istore_n 1, 1) := by decide +kernel
theorem dP_freeOnes_2 : decode prog_6_method_4_code 2 = .ok (.iconst 0, 1) := by decide +kernel
theorem dP_freeOnes_3 : decode prog_6_method_4_code 3 = .ok (.istore_n 2, 1) := by decide +kernel
theorem dP_freeOnes_4 : decode prog_6_method_4_code 4 = .ok (.iload_n 2, 1) := by decide +kernel
theorem dP_freeOnes_5 : decode prog_6_method_4_code 5 = .ok (.bipush 12, 2) := by decide +kernel
theorem dP_freeOnes_7 : decode prog_6_method_4_code 7 = .ok (.if_icmp .ge 21, 3) := by decide +kernel
theorem dP_freeOnes_10 : decode prog_6_method_4_code 10 = .ok (.aload_n 0, 1) := by decide +kernel
theorem dP_freeOnes_11 : decode prog_6_method_4_code 11 = .ok (.getfield 18, 3) := by decide +kernel
theorem dP_freeOnes_14 : decode prog_6_method_4_code 14 = .ok (.iload_n 2, 1) := by decide +kernel
theorem dP_freeOnes_15 : decode prog_6_method_4_code 15 = .ok (.iaload, 1) := by decide +kernel
theorem dP_freeOnes_16 : decode prog_6_method_4_code 16 = .ok (.ifCond .ne 6, 3) := by decide +kernel
theorem dP_freeOnes_19 : decode prog_6_method_4_code 19 = .ok (.iinc 1 1, 3) := by decide +kernel
theorem dP_freeOnes_22 : decode prog_6_method_4_code 22 = .ok (.iinc 2 1, 3) := by decide +kernel
theorem dP_freeOnes_25 : decode prog_6_method_4_code 25 = .ok (.goto (-21), 3) := by decide +kernel
theorem dP_freeOnes_28 : decode prog_6_method_4_code 28 = .ok (.iload_n 1, 1) := by decide +kernel
theorem dP_freeOnes_29 : decode prog_6_method_4_code 29 = .ok (.ireturn, 1) := by decide +kernel
def fP_freeOnes_B4 (rec : Int32 → Int32 → fl_G → Option ((Int32 × Int32) × fl_G)) (v2 : Int32) (v1 : Int32) (g : fl_G) : Option ((Int32 × Int32) × fl_G) :=
  if 12 ≤ v2 then (some ((v2, v1), g)) else (fl_ck (fl_in v2 12) (if (g 5 (Int32.toNatClampNeg v2)) = 0 then (rec (v2 + 1) (v1 + 1) g) else (rec (v2 + 1) v1 g)))
def fP_freeOnes_L4 : Nat → Int32 → Int32 → fl_G → Option ((Int32 × Int32) × fl_G)
  | 0, _, _, _ => none
  | n + 1, v2, v1, g => fP_freeOnes_B4 (fP_freeOnes_L4 n) v2 v1 g
def fP_freeOnes (g : fl_G) : Option (Int32 × fl_G) :=
  fl_bd (fP_freeOnes_L4 1000 0 0 g) (fun r5 g6 => some (r5.2, g6))
set_option maxHeartbeats 4000000 in
set_option maxRecDepth 100000 in
theorem cP_freeOnes (l : Launch) (dC : Nat → ClassId) (dI : Nat → Nat → Nat) (ca : Nat → ClassId) (ad : Nat → Nat) (hI : fl_inj 32 ad) {g g1 : fl_G} {r : Int32} (h : fP_freeOnes g = some (r, g1)) : Met l yP_freeOnes wP_freeOnes ({ frames := 0, cells := 0, slots := 0, locals := 0 }) (va_Pc [.ref (ad 2)] (fl_Pre (dC, dI) al_cl 32 (mc_sh ca ad) ad (mc_ty ca) mc_ns g)) (fl_QI (dC, dI) al_cl 32 (mc_sh ca ad) ad r g1) 0 0 (fl_A 32 ad) := by
  refine fl_of (cc := prog_6_method_4_code) (maxL := 3) (ret := (some .int)) (by decide) rfl (Nat.le_of_ble_eq_true rfl) ?_
  intro p e s m below meth c ls hx hb hr hml hts hown hlocks hP hK hN hl
  have hown : s.vm.findClass "MeshedSpans$Spans" = some m.cls := hown
  have hS : va_S (fl_A 32 ad) s.heap s.heap [] := va_S.rf
  have hl : lv_has ls 3 [(0, .ref (ad 2))] := hl
  unfold fP_freeOnes at h
  refine lv_iconst (v := 0) hx hb dP_freeOnes_0 (by decide) ?_
  refine lv_istore_n (lv' := [(1, .int 0), (0, .ref (ad 2))]) hx hb dP_freeOnes_1 rfl hl (by decide) rfl (fun ls hl => ?_)
  refine lv_iconst (v := 0) hx hb dP_freeOnes_2 (by decide) ?_
  refine lv_istore_n (lv' := [(2, .int 0), (1, .int 0), (0, .ref (ad 2))]) hx hb dP_freeOnes_3 rfl hl (by decide) rfl (fun ls hl => ?_)
  have loop1 : ∀ (n : Nat) (v2 : Int32) (v1 : Int32) (g : fl_G) (z : ((Int32 × Int32) × fl_G)) (H : Heap) (locs : List Loc) (ls : Array Slot), fP_freeOnes_L4 n v2 v1 g = some z → va_P (dC, dI) al_cl (fl_ws 32 (mc_sh ca ad) ad g) H → va_S (fl_A 32 ad) s.heap H locs → lv_has ls 3 [(2, .int v2), (1, .int v1), (0, .ref (ad 2))] → (∀ (H : Heap) (locs : List Loc) (ls : Array Slot), va_P (dC, dI) al_cl (fl_ws 32 (mc_sh ca ad) ad z.2) H → va_S (fl_A 32 ad) s.heap H locs → lv_has ls 3 [(2, .int z.1.1), (1, .int z.1.2), (0, .ref (ad 2))] → W p l e ({ frames := 0, cells := 0, slots := 0, locals := 0 }) s m ([.ref (ad 2)] : List Value).toArray below meth c H locs 0 0 (MQ below (fl_QI (dC, dI) al_cl 32 (mc_sh ca ad) ad r g1) ([.ref (ad 2)] : List Value).toArray s 0 0 (fl_A 32 ad)) (F0 m 28 ls [])) → W p l e ({ frames := 0, cells := 0, slots := 0, locals := 0 }) s m ([.ref (ad 2)] : List Value).toArray below meth c H locs 0 0 (MQ below (fl_QI (dC, dI) al_cl 32 (mc_sh ca ad) ad r g1) ([.ref (ad 2)] : List Value).toArray s 0 0 (fl_A 32 ad)) (F0 m 4 ls []) := by
    intro n
    clear h hP hS hl
    induction n with
    | zero => intro v2 v1 g z H locs ls h; cases h
    | succ n ih1 =>
      intro v2 v1 g z H locs ls h hP hS hl K1
      have h : fP_freeOnes_B4 (fP_freeOnes_L4 n) v2 v1 g = some z := h
      unfold fP_freeOnes_B4 at h
      refine lv_iload_n hx hb dP_freeOnes_4 rfl (lv_at hl 0 rfl) ?_
      refine lv_bipush (v := 12) hx hb dP_freeOnes_5 (by decide) ?_
      refine lv_icmp_ge (tgt := 28) hx hb dP_freeOnes_7 (by decide) (fun c2 => ?_) (fun c2 => ?_)
      · replace h := fl_pos c2 h
        cases h
        exact K1 _ _ _ hP hS (lv_sub hl [0, 1, 2] rfl)
      · replace h := fl_neg c2 h
        refine lv_aload_n hx hb dP_freeOnes_10 rfl (lv_at hl 2 rfl) ?_
        refine mc_get2 (v := .ref (ad 5)) hx hb hts mc_in2 hown hK hP (q := 2) rfl 2 (by decide) (hts _ gm_76) rfl dP_freeOnes_11 ?_
        refine lv_iload_n hx hb dP_freeOnes_14 rfl (lv_at hl 0 rfl) ?_
        replace h := fl_ck_some h
        obtain ⟨hi3, h⟩ := h
        refine mc_iald hx hb hK hP (q := 5) rfl hi3 dP_freeOnes_15 ?_
        refine lv_if_ne (tgt := 22) hx hb dP_freeOnes_16 (by decide) (fun c4 => ?_) (fun c4 => ?_)
        · replace h := fl_neg c4 h
          refine lv_iinc (v := (v2 + 1)) (lv' := [(2, .int (v2 + 1)), (1, .int v1), (0, .ref (ad 2))]) hx hb dP_freeOnes_22 hl (k := 0) rfl rfl (by decide) rfl (fun ls hl => ?_)
          refine lv_goto (tgt := 4) hx hb dP_freeOnes_25 (by decide) ?_
          exact ih1 (v2 + 1) v1 _ _ _ _ _ h hP hS (lv_sub hl [0, 1, 2] rfl) K1
        · replace h := fl_pos c4 h
          refine lv_iinc (v := (v1 + 1)) (lv' := [(1, .int (v1 + 1)), (2, .int v2), (0, .ref (ad 2))]) hx hb dP_freeOnes_19 hl (k := 1) rfl rfl (by decide) rfl (fun ls hl => ?_)
          refine lv_iinc (v := (v2 + 1)) (lv' := [(2, .int (v2 + 1)), (1, .int (v1 + 1)), (0, .ref (ad 2))]) hx hb dP_freeOnes_22 hl (k := 1) rfl rfl (by decide) rfl (fun ls hl => ?_)
          refine lv_goto (tgt := 4) hx hb dP_freeOnes_25 (by decide) ?_
          exact ih1 (v2 + 1) (v1 + 1) _ _ _ _ _ h hP hS (lv_sub hl [0, 1, 2] rfl) K1
  obtain ⟨r5, g6, hc7, h⟩ := fl_bd_some h
  refine loop1 1000 0 0 _ (r5, g6) _ _ _ hc7 hP hS (lv_sub hl [0, 1, 2] rfl) (fun H locs ls hP hS hl => ?_)
  have hP : va_P (dC, dI) al_cl (fl_ws 32 (mc_sh ca ad) ad g6) H := hP
  have hl : lv_has ls 3 [(2, .int r5.1), (1, .int r5.2), (0, .ref (ad 2))] := hl
  refine lv_iload_n hx hb dP_freeOnes_28 rfl (lv_at hl 1 rfl) ?_
  exact fl_iret hx hb hr hlocks hP hS h dP_freeOnes_29
def yP_lowestFree : MethodName := ⟨"MeshedSpans$Spans", "lowestFree", "()I"⟩
def wP_lowestFree : List Cond := .code yP_lowestFree prog_6_method_5_code 2 (some .int) :: gw
theorem kP_lowestFree {R : Room} {s : State} {args : Array Value} {own : String} {ix : Nat} (hts : ∀ w ∈ gw, w.before args s = true) (hl : (Cond.methodLink own ix yP_lowestFree).before args s = true) (hR : 0 + 1 ≤ R.frames ∧ 8 + (2 + 11) + 0 ≤ R.locals) : CallW R s args own "MeshedSpans$Spans" ix yP_lowestFree prog_6_method_5_code 2 (some .int) wP_lowestFree { frames := 0, cells := 0, slots := 0, locals := 0 } 0 0 0 := ⟨callB_of (rm := { frames := 0, cells := 0, slots := 0, locals := 0 }) 0 hts (gw_c (ct := .code yP_lowestFree prog_6_method_5_code 2 (some .int)) gm_191) rfl rfl rfl (hts _ gm_43) hl (by decide +kernel) hR, hts _ gm_189, hts _ gm_190⟩
theorem dP_lowestFree_0 : decode prog_6_method_5_code 0 = .ok (.iconst 0, 1) := by decide +kernel
theorem dP_lowestFree_1 : decode prog_6_method_5_code 1 = .ok (.istore_n 1, 1) := by decide +kernel
theorem dP_lowestFree_2 : decode prog_6_method_5_code 2 = .ok (.iload_n 1, 1) := by decide +kernel
theorem dP_lowestFree_3 : decode prog_6_method_5_code 3 = .ok (.bipush 12, 2) := by decide +kernel
theorem dP_lowestFree_5 : decode prog_6_method_5_code 5 = .ok (.if_icmp .ge 20, 3) := by decide +kernel
theorem dP_lowestFree_8 : decode prog_6_method_5_code 8 = .ok (.aload_n 0, 1) := by decide +kernel
theorem dP_lowestFree_9 : decode prog_6_method_5_code 9 = .ok (.getfield 18, 3) := by decide +kernel
theorem dP_lowestFree_12 : decode prog_6_method_5_code 12 = .ok (.iload_n 1, 1) := by decide +kernel
theorem dP_lowestFree_13 : decode prog_6_method_5_code 13 = .ok (.iaload, 1) := by decide +kernel
theorem dP_lowestFree_14 : decode prog_6_method_5_code 14 = .ok (.ifCond .ne 5, 3) := by decide +kernel
theorem dP_lowestFree_17 : decode prog_6_method_5_code 17 = .ok (.iload_n 1, 1) := by decide +kernel
theorem dP_lowestFree_18 : decode prog_6_method_5_code 18 = .ok (.ireturn, 1) := by decide +kernel
theorem dP_lowestFree_19 : decode prog_6_method_5_code 19 = .ok (.iinc 1 1, 3) := by decide +kernel
theorem dP_lowestFree_22 : decode prog_6_method_5_code 22 = .ok (.goto (-20), 3) := by decide +kernel
theorem dP_lowestFree_25 : decode prog_6_method_5_code 25 = .ok (.iconst (-1), 1) := by decide +kernel
theorem dP_lowestFree_26 : decode prog_6_method_5_code 26 = .ok (.ireturn, 1) := by decide +kernel
def fP_lowestFree_B2 (rec : Int32 → fl_G → Option (Int32 × fl_G)) (v1 : Int32) (g : fl_G) : Option (Int32 × fl_G) :=
  if 12 ≤ v1 then (some ((-1), g)) else (fl_ck (fl_in v1 12) (if (g 5 (Int32.toNatClampNeg v1)) = 0 then (some (v1, g)) else (rec (v1 + 1) g)))
def fP_lowestFree_L2 : Nat → Int32 → fl_G → Option (Int32 × fl_G)
  | 0, _, _ => none
  | n + 1, v1, g => fP_lowestFree_B2 (fP_lowestFree_L2 n) v1 g
def fP_lowestFree (g : fl_G) : Option (Int32 × fl_G) :=
  fP_lowestFree_L2 1000 0 g
set_option maxHeartbeats 4000000 in
set_option maxRecDepth 100000 in
theorem cP_lowestFree (l : Launch) (dC : Nat → ClassId) (dI : Nat → Nat → Nat) (ca : Nat → ClassId) (ad : Nat → Nat) (hI : fl_inj 32 ad) {g g1 : fl_G} {r : Int32} (h : fP_lowestFree g = some (r, g1)) : Met l yP_lowestFree wP_lowestFree ({ frames := 0, cells := 0, slots := 0, locals := 0 }) (va_Pc [.ref (ad 2)] (fl_Pre (dC, dI) al_cl 32 (mc_sh ca ad) ad (mc_ty ca) mc_ns g)) (fl_QI (dC, dI) al_cl 32 (mc_sh ca ad) ad r g1) 0 0 (fl_A 32 ad) := by
  refine fl_of (cc := prog_6_method_5_code) (maxL := 2) (ret := (some .int)) (by decide) rfl (Nat.le_of_ble_eq_true rfl) ?_
  intro p e s m below meth c ls hx hb hr hml hts hown hlocks hP hK hN hl
  have hown : s.vm.findClass "MeshedSpans$Spans" = some m.cls := hown
  have hS : va_S (fl_A 32 ad) s.heap s.heap [] := va_S.rf
  have hl : lv_has ls 2 [(0, .ref (ad 2))] := hl
  unfold fP_lowestFree at h
  refine lv_iconst (v := 0) hx hb dP_lowestFree_0 (by decide) ?_
  refine lv_istore_n (lv' := [(1, .int 0), (0, .ref (ad 2))]) hx hb dP_lowestFree_1 rfl hl (by decide) rfl (fun ls hl => ?_)
  have loop1 : ∀ (n : Nat) (v1 : Int32) (g : fl_G) (H : Heap) (locs : List Loc) (ls : Array Slot), fP_lowestFree_L2 n v1 g = some (r, g1) → va_P (dC, dI) al_cl (fl_ws 32 (mc_sh ca ad) ad g) H → va_S (fl_A 32 ad) s.heap H locs → lv_has ls 2 [(1, .int v1), (0, .ref (ad 2))] → W p l e ({ frames := 0, cells := 0, slots := 0, locals := 0 }) s m ([.ref (ad 2)] : List Value).toArray below meth c H locs 0 0 (MQ below (fl_QI (dC, dI) al_cl 32 (mc_sh ca ad) ad r g1) ([.ref (ad 2)] : List Value).toArray s 0 0 (fl_A 32 ad)) (F0 m 2 ls []) := by
    intro n
    clear h hP hS hl
    induction n with
    | zero => intro v1 g H locs ls h; cases h
    | succ n ih1 =>
      intro v1 g H locs ls h hP hS hl
      have h : fP_lowestFree_B2 (fP_lowestFree_L2 n) v1 g = some (r, g1) := h
      unfold fP_lowestFree_B2 at h
      refine lv_iload_n hx hb dP_lowestFree_2 rfl (lv_at hl 0 rfl) ?_
      refine lv_bipush (v := 12) hx hb dP_lowestFree_3 (by decide) ?_
      refine lv_icmp_ge (tgt := 25) hx hb dP_lowestFree_5 (by decide) (fun c2 => ?_) (fun c2 => ?_)
      · replace h := fl_pos c2 h
        refine lv_iconst (v := (-1)) hx hb dP_lowestFree_25 (by decide) ?_
        exact fl_iret hx hb hr hlocks hP hS h dP_lowestFree_26
      · replace h := fl_neg c2 h
        refine lv_aload_n hx hb dP_lowestFree_8 rfl (lv_at hl 1 rfl) ?_
        refine mc_get2 (v := .ref (ad 5)) hx hb hts mc_in2 hown hK hP (q := 2) rfl 2 (by decide) (hts _ gm_76) rfl dP_lowestFree_9 ?_
        refine lv_iload_n hx hb dP_lowestFree_12 rfl (lv_at hl 0 rfl) ?_
        replace h := fl_ck_some h
        obtain ⟨hi3, h⟩ := h
        refine mc_iald hx hb hK hP (q := 5) rfl hi3 dP_lowestFree_13 ?_
        refine lv_if_ne (tgt := 19) hx hb dP_lowestFree_14 (by decide) (fun c4 => ?_) (fun c4 => ?_)
        · replace h := fl_neg c4 h
          refine lv_iinc (v := (v1 + 1)) (lv' := [(1, .int (v1 + 1)), (0, .ref (ad 2))]) hx hb dP_lowestFree_19 hl (k := 0) rfl rfl (by decide) rfl (fun ls hl => ?_)
          refine lv_goto (tgt := 2) hx hb dP_lowestFree_22 (by decide) ?_
          exact ih1 (v1 + 1) _ _ _ _ h hP hS (lv_sub hl [0, 1] rfl)
        · replace h := fl_pos c4 h
          refine lv_iload_n hx hb dP_lowestFree_17 rfl (lv_at hl 0 rfl) ?_
          exact fl_iret hx hb hr hlocks hP hS h dP_lowestFree_18
  exact loop1 1000 0 _ _ _ _ h hP hS (lv_sub hl [0, 1] rfl)
def yP_lowestUnmappedRow : MethodName := ⟨"MeshedSpans$Spans", "lowestUnmappedRow", "(I)I"⟩
def wP_lowestUnmappedRow : List Cond := .code yP_lowestUnmappedRow prog_6_method_6_code 4 (some .int) :: gw
theorem kP_lowestUnmappedRow {R : Room} {s : State} {args : Array Value} {own : String} {ix : Nat} (hts : ∀ w ∈ gw, w.before args s = true) (hl : (Cond.methodLink own ix yP_lowestUnmappedRow).before args s = true) (hR : 0 + 1 ≤ R.frames ∧ 8 + (4 + 11) + 0 ≤ R.locals) : CallW R s args own "MeshedSpans$Spans" ix yP_lowestUnmappedRow prog_6_method_6_code 4 (some .int) wP_lowestUnmappedRow { frames := 0, cells := 0, slots := 0, locals := 0 } 0 0 1 := ⟨callB_of (rm := { frames := 0, cells := 0, slots := 0, locals := 0 }) 1 hts (gw_c (ct := .code yP_lowestUnmappedRow prog_6_method_6_code 4 (some .int)) gm_183) rfl rfl rfl (hts _ gm_43) hl (by decide +kernel) hR, hts _ gm_181, hts _ gm_182⟩
theorem dP_lowestUnmappedRow_0 : decode prog_6_method_6_code 0 = .ok (.iconst 0, 1) := by decide +kernel
theorem dP_lowestUnmappedRow_1 : decode prog_6_method_6_code 1 = .ok (.istore_n 2, 1) := by decide +kernel
theorem dP_lowestUnmappedRow_2 : decode prog_6_method_6_code 2 = .ok (.iconst 0, 1) := by decide +kernel
theorem dP_lowestUnmappedRow_3 : decode prog_6_method_6_code 3 = .ok (.istore_n 3, 1) := by decide +kernel
theorem dP_lowestUnmappedRow_4 : decode prog_6_method_6_code 4 = .ok (.iload_n 3, 1) := by decide +kernel
theorem dP_lowestUnmappedRow_5 : decode prog_6_method_6_code 5 = .ok (.bipush 24, 2) := by decide +kernel
theorem dP_lowestUnmappedRow_7 : decode prog_6_method_6_code 7 = .ok (.if_icmp .ge 38, 3) := by decide +kernel
theorem dP_lowestUnmappedRow_10 : decode prog_6_method_6_code 10 = .ok (.aload_n 0, 1) := by decide +kernel
theorem dP_lowestUnmappedRow_11 : decode prog_6_method_6_code 11 = .ok (.getfield 15, 3) := by decide +kernel
theorem dP_lowestUnmappedRow_14 : decode prog_6_method_6_code 14 = .ok (.iload_n 3, 1) := by decide +kernel
theorem dP_lowestUnmappedRow_15 : decode prog_6_method_6_code 15 = .ok (.iaload, 1) := by decide +kernel
theorem dP_lowestUnmappedRow_16 : decode prog_6_method_6_code 16 = .ok (.iconst (-1), 1) := by decide +kernel
theorem dP_lowestUnmappedRow_17 : decode prog_6_method_6_code 17 = .ok (.if_icmp .ne 9, 3) := by decide +kernel
theorem dP_lowestUnmappedRow_20 : decode prog_6_method_6_code 20 = .ok (.iload_n 2, 1) := by decide +kernel
theorem dP_lowestUnmappedRow_21 : decode prog_6_method_6_code 21 = .ok (.iconst 1, 1) := by decide +kernel
theorem dP_lowestUnmappedRow_22 : decode prog_6_method_6_code 22 = .ok (.iadd, 1) := by decide +kernel
theorem dP_lowestUnmappedRow_23 : decode prog_6_method_6_code 23 = .ok (.goto 4, 3) := by decide +kernel
theorem dP_lowestUnmappedRow_26 : decode prog_6_method_6_code 26 = .ok (.iconst 0, 1) := by decide +kernel
theorem dP_lowestUnmappedRow_27 : decode prog_6_method_6_code 27 = .ok (.istore_n 2, 1) := by decide +kernel
theorem dP_lowestUnmappedRow_28 : decode prog_6_method_6_code 28 = .ok (.iload_n 2, 1) := by decide +kernel
theorem dP_lowestUnmappedRow_29 : decode prog_6_method_6_code 29 = .ok (.iload_n 1, 1) := by decide +kernel
theorem dP_lowestUnmappedRow_30 : decode prog_6_method_6_code 30 = .ok (.if_icmp .ne 9, 3) := by decide +kernel
theorem dP_lowestUnmappedRow_33 : decode prog_6_method_6_code 33 = .ok (.iload_n 3, 1) := by decide +kernel
theorem dP_lowestUnmappedRow_34 : decode prog_6_method_6_code 34 = .ok (.iload_n 1, 1) := by decide +kernel
theorem dP_lowestUnmappedRow_35 : decode prog_6_method_6_code 35 = .ok (.isub, 1) := by decide +kernel
theorem dP_lowestUnmappedRow_36 : decode prog_6_method_6_code 36 = .ok (.iconst 1, 1) := by decide +kernel
theorem dP_lowestUnmappedRow_37 : decode prog_6_method_6_code 37 = .ok (.iadd, 1) := by decide +kernel
theorem dP_lowestUnmappedRow_38 : decode prog_6_method_6_code 38 = .ok (.ireturn, 1) := by decide +kernel
theorem dP_lowestUnmappedRow_39 : decode prog_6_method_6_code 39 = .ok (.iinc 3 1, 3) := by decide +kernel
theorem dP_lowestUnmappedRow_42 : decode prog_6_method_6_code 42 = .ok (.goto (-38), 3) := by decide +kernel
theorem dP_lowestUnmappedRow_45 : decode prog_6_method_6_code 45 = .ok (.iconst (-1), 1) := by decide +kernel
theorem dP_lowestUnmappedRow_46 : decode prog_6_method_6_code 46 = .ok (.ireturn, 1) := by decide +kernel
def fP_lowestUnmappedRow_B4 (rec : Int32 → Int32 → Int32 → fl_G → Option (Int32 × fl_G)) (v3 : Int32) (v2 : Int32) (v1 : Int32) (g : fl_G) : Option (Int32 × fl_G) :=
  if 24 ≤ v3 then (some ((-1), g)) else (fl_ck (fl_in v3 24) (if (g 4 (Int32.toNatClampNeg v3)) = (-1) then (if (v2 + 1) = v1 then (some (((v3 - v1) + 1), g)) else (rec (v3 + 1) (v2 + 1) v1 g)) else (if 0 = v1 then (some (((v3 - v1) + 1), g)) else (rec (v3 + 1) 0 v1 g))))
def fP_lowestUnmappedRow_L4 : Nat → Int32 → Int32 → Int32 → fl_G → Option (Int32 × fl_G)
  | 0, _, _, _, _ => none
  | n + 1, v3, v2, v1, g => fP_lowestUnmappedRow_B4 (fP_lowestUnmappedRow_L4 n) v3 v2 v1 g
def fP_lowestUnmappedRow (a0 : Int32) (g : fl_G) : Option (Int32 × fl_G) :=
  fP_lowestUnmappedRow_L4 1000 0 0 a0 g
set_option maxHeartbeats 4000000 in
set_option maxRecDepth 100000 in
theorem cP_lowestUnmappedRow (l : Launch) (dC : Nat → ClassId) (dI : Nat → Nat → Nat) (ca : Nat → ClassId) (ad : Nat → Nat) (hI : fl_inj 32 ad) (a0 : Int32) {g g1 : fl_G} {r : Int32} (h : fP_lowestUnmappedRow a0 g = some (r, g1)) : Met l yP_lowestUnmappedRow wP_lowestUnmappedRow ({ frames := 0, cells := 0, slots := 0, locals := 0 }) (va_Pc [.ref (ad 2), .int a0] (fl_Pre (dC, dI) al_cl 32 (mc_sh ca ad) ad (mc_ty ca) mc_ns g)) (fl_QI (dC, dI) al_cl 32 (mc_sh ca ad) ad r g1) 0 0 (fl_A 32 ad) := by
  refine fl_of (cc := prog_6_method_6_code) (maxL := 4) (ret := (some .int)) (by decide) rfl (Nat.le_of_ble_eq_true rfl) ?_
  intro p e s m below meth c ls hx hb hr hml hts hown hlocks hP hK hN hl
  have hown : s.vm.findClass "MeshedSpans$Spans" = some m.cls := hown
  have hS : va_S (fl_A 32 ad) s.heap s.heap [] := va_S.rf
  have hl : lv_has ls 4 [(0, .ref (ad 2)), (1, .int a0)] := hl
  unfold fP_lowestUnmappedRow at h
  refine lv_iconst (v := 0) hx hb dP_lowestUnmappedRow_0 (by decide) ?_
  refine lv_istore_n (lv' := [(2, .int 0), (0, .ref (ad 2)), (1, .int a0)]) hx hb dP_lowestUnmappedRow_1 rfl hl (by decide) rfl (fun ls hl => ?_)
  refine lv_iconst (v := 0) hx hb dP_lowestUnmappedRow_2 (by decide) ?_
  refine lv_istore_n (lv' := [(3, .int 0), (2, .int 0), (0, .ref (ad 2)), (1, .int a0)]) hx hb dP_lowestUnmappedRow_3 rfl hl (by decide) rfl (fun ls hl => ?_)
  have loop1 : ∀ (n : Nat) (v3 : Int32) (v2 : Int32) (v1 : Int32) (g : fl_G) (H : Heap) (locs : List Loc) (ls : Array Slot), fP_lowestUnmappedRow_L4 n v3 v2 v1 g = some (r, g1) → va_P (dC, dI) al_cl (fl_ws 32 (mc_sh ca ad) ad g) H → va_S (fl_A 32 ad) s.heap H locs → lv_has ls 4 [(3, .int v3), (2, .int v2), (0, .ref (ad 2)), (1, .int v1)] → W p l e ({ frames := 0, cells := 0, slots := 0, locals := 0 }) s m ([.ref (ad 2), .int a0] : List Value).toArray below meth c H locs 0 0 (MQ below (fl_QI (dC, dI) al_cl 32 (mc_sh ca ad) ad r g1) ([.ref (ad 2), .int a0] : List Value).toArray s 0 0 (fl_A 32 ad)) (F0 m 4 ls []) := by
    intro n
    clear h hP hS hl
    induction n with
    | zero => intro v3 v2 v1 g H locs ls h; cases h
    | succ n ih1 =>
      intro v3 v2 v1 g H locs ls h hP hS hl
      have h : fP_lowestUnmappedRow_B4 (fP_lowestUnmappedRow_L4 n) v3 v2 v1 g = some (r, g1) := h
      unfold fP_lowestUnmappedRow_B4 at h
      refine lv_iload_n hx hb dP_lowestUnmappedRow_4 rfl (lv_at hl 0 rfl) ?_
      refine lv_bipush (v := 24) hx hb dP_lowestUnmappedRow_5 (by decide) ?_
      refine lv_icmp_ge (tgt := 45) hx hb dP_lowestUnmappedRow_7 (by decide) (fun c2 => ?_) (fun c2 => ?_)
      · replace h := fl_pos c2 h
        refine lv_iconst (v := (-1)) hx hb dP_lowestUnmappedRow_45 (by decide) ?_
        exact fl_iret hx hb hr hlocks hP hS h dP_lowestUnmappedRow_46
      · replace h := fl_neg c2 h
        refine lv_aload_n hx hb dP_lowestUnmappedRow_10 rfl (lv_at hl 2 rfl) ?_
        refine mc_get2 (v := .ref (ad 4)) hx hb hts mc_in2 hown hK hP (q := 2) rfl 1 (by decide) (hts _ gm_75) rfl dP_lowestUnmappedRow_11 ?_
        refine lv_iload_n hx hb dP_lowestUnmappedRow_14 rfl (lv_at hl 0 rfl) ?_
        replace h := fl_ck_some h
        obtain ⟨hi3, h⟩ := h
        refine mc_iald hx hb hK hP (q := 4) rfl hi3 dP_lowestUnmappedRow_15 ?_
        refine lv_iconst (v := (-1)) hx hb dP_lowestUnmappedRow_16 (by decide) ?_
        refine lv_icmp_ne (tgt := 26) hx hb dP_lowestUnmappedRow_17 (by decide) (fun c4 => ?_) (fun c4 => ?_)
        · replace h := fl_neg c4 h
          refine lv_iconst (v := 0) hx hb dP_lowestUnmappedRow_26 (by decide) ?_
          refine lv_istore_n (lv' := [(2, .int 0), (3, .int v3), (0, .ref (ad 2)), (1, .int v1)]) hx hb dP_lowestUnmappedRow_27 rfl hl (by decide) rfl (fun ls hl => ?_)
          refine lv_iload_n hx hb dP_lowestUnmappedRow_28 rfl (lv_at hl 0 rfl) ?_
          refine lv_iload_n hx hb dP_lowestUnmappedRow_29 rfl (lv_at hl 3 rfl) ?_
          refine lv_icmp_ne (tgt := 39) hx hb dP_lowestUnmappedRow_30 (by decide) (fun c5 => ?_) (fun c5 => ?_)
          · replace h := fl_neg c5 h
            refine lv_iinc (v := (v3 + 1)) (lv' := [(3, .int (v3 + 1)), (2, .int 0), (0, .ref (ad 2)), (1, .int v1)]) hx hb dP_lowestUnmappedRow_39 hl (k := 1) rfl rfl (by decide) rfl (fun ls hl => ?_)
            refine lv_goto (tgt := 4) hx hb dP_lowestUnmappedRow_42 (by decide) ?_
            exact ih1 (v3 + 1) 0 v1 _ _ _ _ h hP hS (lv_sub hl [0, 1, 2, 3] rfl)
          · replace h := fl_pos c5 h
            refine lv_iload_n hx hb dP_lowestUnmappedRow_33 rfl (lv_at hl 1 rfl) ?_
            refine lv_iload_n hx hb dP_lowestUnmappedRow_34 rfl (lv_at hl 3 rfl) ?_
            refine lv_isub hx hb dP_lowestUnmappedRow_35 ?_
            refine lv_iconst (v := 1) hx hb dP_lowestUnmappedRow_36 (by decide) ?_
            refine lv_iadd hx hb dP_lowestUnmappedRow_37 ?_
            exact fl_iret hx hb hr hlocks hP hS h dP_lowestUnmappedRow_38
        · replace h := fl_pos c4 h
          refine lv_iload_n hx hb dP_lowestUnmappedRow_20 rfl (lv_at hl 1 rfl) ?_
          refine lv_iconst (v := 1) hx hb dP_lowestUnmappedRow_21 (by decide) ?_
          refine lv_iadd hx hb dP_lowestUnmappedRow_22 ?_
          refine lv_goto (tgt := 27) hx hb dP_lowestUnmappedRow_23 (by decide) ?_
          refine lv_istore_n (lv' := [(2, .int (v2 + 1)), (3, .int v3), (0, .ref (ad 2)), (1, .int v1)]) hx hb dP_lowestUnmappedRow_27 rfl hl (by decide) rfl (fun ls hl => ?_)
          refine lv_iload_n hx hb dP_lowestUnmappedRow_28 rfl (lv_at hl 0 rfl) ?_
          refine lv_iload_n hx hb dP_lowestUnmappedRow_29 rfl (lv_at hl 3 rfl) ?_
          refine lv_icmp_ne (tgt := 39) hx hb dP_lowestUnmappedRow_30 (by decide) (fun c6 => ?_) (fun c6 => ?_)
          · replace h := fl_neg c6 h
            refine lv_iinc (v := (v3 + 1)) (lv' := [(3, .int (v3 + 1)), (2, .int (v2 + 1)), (0, .ref (ad 2)), (1, .int v1)]) hx hb dP_lowestUnmappedRow_39 hl (k := 1) rfl rfl (by decide) rfl (fun ls hl => ?_)
            refine lv_goto (tgt := 4) hx hb dP_lowestUnmappedRow_42 (by decide) ?_
            exact ih1 (v3 + 1) (v2 + 1) v1 _ _ _ _ h hP hS (lv_sub hl [0, 1, 2, 3] rfl)
          · replace h := fl_pos c6 h
            refine lv_iload_n hx hb dP_lowestUnmappedRow_33 rfl (lv_at hl 1 rfl) ?_
            refine lv_iload_n hx hb dP_lowestUnmappedRow_34 rfl (lv_at hl 3 rfl) ?_
            refine lv_isub hx hb dP_lowestUnmappedRow_35 ?_
            refine lv_iconst (v := 1) hx hb dP_lowestUnmappedRow_36 (by decide) ?_
            refine lv_iadd hx hb dP_lowestUnmappedRow_37 ?_
            exact fl_iret hx hb hr hlocks hP hS h dP_lowestUnmappedRow_38
  exact loop1 1000 0 0 a0 _ _ _ _ h hP hS (lv_sub hl [0, 1, 2, 3] rfl)
def yP_map : MethodName := ⟨"MeshedSpans$Spans", "map", "(II)V"⟩
def wP_map : List Cond := .code yP_map prog_6_method_8_code 3 none :: gw
theorem kP_map {R : Room} {s : State} {args : Array Value} {own : String} {ix : Nat} (hts : ∀ w ∈ gw, w.before args s = true) (hl : (Cond.methodLink own ix yP_map).before args s = true) (hR : 1 + 1 ≤ R.frames ∧ 8 + (3 + 11) + 20 ≤ R.locals) : CallW R s args own "MeshedSpans$Spans" ix yP_map prog_6_method_8_code 3 none wP_map { frames := 1, cells := 0, slots := 0, locals := 20 } 0 0 2 := ⟨callB_of (rm := { frames := 1, cells := 0, slots := 0, locals := 20 }) 2 hts (gw_c (ct := .code yP_map prog_6_method_8_code 3 none) gm_198) rfl rfl rfl (hts _ gm_43) hl (by decide +kernel) hR, hts _ gm_197, hts _ gm_1⟩
theorem dP_map_0 : decode prog_6_method_8_code 0 = .ok (.iload_n 1, 1) := by decide +kernel
theorem dP_map_1 : decode prog_6_method_8_code 1 = .ok (.invokestatic 21, 3) := by decide +kernel
theorem dP_map_4 : decode prog_6_method_8_code 4 = .ok (.ifCond .eq 27, 3) := by decide +kernel
theorem dP_map_7 : decode prog_6_method_8_code 7 = .ok (.iload_n 2, 1) := by decide +kernel
theorem dP_map_8 : decode prog_6_method_8_code 8 = .ok (.invokestatic 25, 3) := by decide +kernel
theorem dP_map_11 : decode prog_6_method_8_code 11 = .ok (.ifCond .eq 20, 3) := by decide +kernel
theorem dP_map_14 : decode prog_6_method_8_code 14 = .ok (.aload_n 0, 1) := by decide +kernel
theorem dP_map_15 : decode prog_6_method_8_code 15 = .ok (.getfield 15, 3) := by decide +kernel
theorem dP_map_18 : decode prog_6_method_8_code 18 = .ok (.iload_n 1, 1) := by decide +kernel
theorem dP_map_19 : decode prog_6_method_8_code 19 = .ok (.iload_n 2, 1) := by decide +kernel
theorem dP_map_20 : decode prog_6_method_8_code 20 = .ok (.iastore, 1) := by decide +kernel
theorem dP_map_21 : decode prog_6_method_8_code 21 = .ok (.aload_n 0, 1) := by decide +kernel
theorem dP_map_22 : decode prog_6_method_8_code 22 = .ok (.getfield 18, 3) := by decide +kernel
theorem dP_map_25 : decode prog_6_method_8_code 25 = .ok (.iload_n 2, 1) := by decide +kernel
theorem dP_map_26 : decode prog_6_method_8_code 26 = .ok (.dup2, 1) := by decide +kernel
theorem dP_map_27 : decode prog_6_method_8_code 27 = .ok (.iaload, 1) := by decide +kernel
theorem dP_map_28 : decode prog_6_method_8_code 28 = .ok (.iconst 1, 1) := by decide +kernel
theorem dP_map_29 : decode prog_6_method_8_code 29 = .ok (.iadd, 1) := by decide +kernel
theorem dP_map_30 : decode prog_6_method_8_code 30 = .ok (.iastore, 1) := by decide +kernel
theorem dP_map_31 : decode prog_6_method_8_code 31 = .ok (.return_, 1) := by decide +kernel
def fP_map (a0 : Int32) (a1 : Int32) (g : fl_G) : Option (Unit × fl_G) :=
  fl_bd (fS_isVirtual a0 g) (fun r1 g2 => if r1 = 0 then (some ((), g2)) else (fl_bd (fS_isPhysical a1 g2) (fun r5 g6 => if r5 = 0 then (some ((), g6)) else (fl_ck (fl_in a0 24) (fl_ck (fl_in a1 12) (fl_ck (fl_in a1 12) (some ((), (fl_up (fl_up g6 4 (Int32.toNatClampNeg a0) a1) 5 (Int32.toNatClampNeg a1) (((fl_up g6 4 (Int32.toNatClampNeg a0) a1) 5 (Int32.toNatClampNeg a1)) + 1))))))))))
set_option maxHeartbeats 4000000 in
set_option maxRecDepth 100000 in
theorem cP_map (l : Launch) (dC : Nat → ClassId) (dI : Nat → Nat → Nat) (ca : Nat → ClassId) (ad : Nat → Nat) (hI : fl_inj 32 ad) (a0 : Int32) (a1 : Int32) {g g1 : fl_G} {r : Unit} (h : fP_map a0 a1 g = some (r, g1)) : Met l yP_map wP_map ({ frames := 1, cells := 0, slots := 0, locals := 20 }) (va_Pc [.ref (ad 2), .int a0, .int a1] (fl_Pre (dC, dI) al_cl 32 (mc_sh ca ad) ad (mc_ty ca) mc_ns g)) (fl_QV (dC, dI) al_cl 32 (mc_sh ca ad) ad g1) 0 0 (fl_A 32 ad) := by
  refine fl_of (cc := prog_6_method_8_code) (maxL := 3) (ret := none) (by decide) rfl (Nat.le_of_ble_eq_true rfl) ?_
  intro p e s m below meth c ls hx hb hr hml hts hown hlocks hP hK hN hl
  have hown : s.vm.findClass "MeshedSpans$Spans" = some m.cls := hown
  have hS : va_S (fl_A 32 ad) s.heap s.heap [] := va_S.rf
  have hl : lv_has ls 3 [(0, .ref (ad 2)), (1, .int a0), (2, .int a1)] := hl
  unfold fP_map at h
  refine lv_iload_n hx hb dP_map_0 rfl (lv_at hl 1 rfl) ?_
  replace h := fl_bd_some h
  obtain ⟨r1, g2, hc3, h⟩ := h
  refine fl_calli (va_runSN (As := [.int a0]) (rest := []) ⟨hx, hb, hml, hown, hts⟩ (cS_isVirtual l dC dI ca ad hI a0 hc3) (kS_isVirtual_N hts (hN.use _ nm_5) ⟨Nat.le_of_ble_eq_true rfl, Nat.le_of_ble_eq_true rfl⟩) (fl_preS hK hP hN) rfl rfl hl.1 rfl (lv_room (Nat.le_of_ble_eq_true rfl)) dP_map_1 ⟨Nat.le_refl 0, Nat.le_refl 0⟩) hS (fun H locs hP hS => ?_)
  refine lv_if_eq (tgt := 31) hx hb dP_map_4 (by decide) (fun c4 => ?_) (fun c4 => ?_)
  · replace h := fl_pos c4 h
    exact fl_vret hx hb hr hlocks hP hS h dP_map_31
  · replace h := fl_neg c4 h
    refine lv_iload_n hx hb dP_map_7 rfl (lv_at hl 2 rfl) ?_
    replace h := fl_bd_some h
    obtain ⟨r5, g6, hc7, h⟩ := h
    refine fl_calli (va_runSN (As := [.int a1]) (rest := []) ⟨hx, hb, hml, hown, hts⟩ (cS_isPhysical l dC dI ca ad hI a1 hc7) (kS_isPhysical_N hts (hN.use _ nm_6) ⟨Nat.le_of_ble_eq_true rfl, Nat.le_of_ble_eq_true rfl⟩) (fl_preS hK hP hN) rfl rfl hl.1 rfl (lv_room (Nat.le_of_ble_eq_true rfl)) dP_map_8 ⟨Nat.le_refl 0, Nat.le_refl 0⟩) hS (fun H locs hP hS => ?_)
    refine lv_if_eq (tgt := 31) hx hb dP_map_11 (by decide) (fun c8 => ?_) (fun c8 => ?_)
    · replace h := fl_pos c8 h
      exact fl_vret hx hb hr hlocks hP hS h dP_map_31
    · replace h := fl_neg c8 h
      refine lv_aload_n hx hb dP_map_14 rfl (lv_at hl 0 rfl) ?_
      refine mc_get2 (v := .ref (ad 4)) hx hb hts mc_in2 hown hK hP (q := 2) rfl 1 (by decide) (hts _ gm_75) rfl dP_map_15 ?_
      refine lv_iload_n hx hb dP_map_18 rfl (lv_at hl 1 rfl) ?_
      refine lv_iload_n hx hb dP_map_19 rfl (lv_at hl 2 rfl) ?_
      replace h := fl_ck_some h
      obtain ⟨hi9, h⟩ := h
      refine mc_iast hx hb hK hP hI hS (q := 4) rfl hi9 dP_map_20 (fun H locs hP hS => ?_)
      have hP : va_P (dC, dI) al_cl (fl_ws 32 (mc_sh ca ad) ad (fl_up g6 4 (Int32.toNatClampNeg a0) a1)) H := hP
      refine lv_aload_n hx hb dP_map_21 rfl (lv_at hl 0 rfl) ?_
      refine mc_get2 (v := .ref (ad 5)) hx hb hts mc_in2 hown hK hP (q := 2) rfl 2 (by decide) (hts _ gm_76) rfl dP_map_22 ?_
      refine lv_iload_n hx hb dP_map_25 rfl (lv_at hl 2 rfl) ?_
      refine lv_dup2_11 hx hb dP_map_26 rfl rfl ?_
      replace h := fl_ck_some h
      obtain ⟨hi10, h⟩ := h
      refine mc_iald hx hb hK hP (q := 5) rfl hi10 dP_map_27 ?_
      refine lv_iconst (v := 1) hx hb dP_map_28 (by decide) ?_
      refine lv_iadd hx hb dP_map_29 ?_
      replace h := fl_ck_some h
      obtain ⟨hi11, h⟩ := h
      refine mc_iast hx hb hK hP hI hS (q := 5) rfl hi11 dP_map_30 (fun H locs hP hS => ?_)
      have hP : va_P (dC, dI) al_cl (fl_ws 32 (mc_sh ca ad) ad (fl_up (fl_up g6 4 (Int32.toNatClampNeg a0) a1) 5 (Int32.toNatClampNeg a1) (((fl_up g6 4 (Int32.toNatClampNeg a0) a1) 5 (Int32.toNatClampNeg a1)) + 1))) H := hP
      exact fl_vret hx hb hr hlocks hP hS h dP_map_31
def yP_clearPlaces : MethodName := ⟨"MeshedSpans$Spans", "clearPlaces", "(II)V"⟩
def wP_clearPlaces : List Cond := .code yP_clearPlaces prog_6_method_14_code 4 none :: gw
theorem kP_clearPlaces {R : Room} {s : State} {args : Array Value} {own : String} {ix : Nat} (hts : ∀ w ∈ gw, w.before args s = true) (hl : (Cond.methodLink own ix yP_clearPlaces).before args s = true) (hR : 0 + 1 ≤ R.frames ∧ 8 + (4 + 11) + 0 ≤ R.locals) : CallW R s args own "MeshedSpans$Spans" ix yP_clearPlaces prog_6_method_14_code 4 none wP_clearPlaces { frames := 0, cells := 0, slots := 0, locals := 0 } 0 0 2 := ⟨callB_of (rm := { frames := 0, cells := 0, slots := 0, locals := 0 }) 2 hts (gw_c (ct := .code yP_clearPlaces prog_6_method_14_code 4 none) gm_205) rfl rfl rfl (hts _ gm_43) hl (by decide +kernel) hR, hts _ gm_204, hts _ gm_2⟩
theorem dP_clearPlaces_0 : decode prog_6_method_14_code 0 = .ok (.iload_n 1, 1) := by decide +kernel
theorem dP_clearPlaces_1 : decode prog_6_method_14_code 1 = .ok (.ifCond .lt 34, 3) := by decide +kernel
theorem dP_clearPlaces_4 : decode prog_6_method_14_code 4 = .ok (.iload_n 1, 1) := by decide +kernel
theorem dP_clearPlaces_5 : decode prog_6_method_14_code 5 = .ok (.istore_n 3, 1) := by decide +kernel
theorem dP_clearPlaces_6 : decode prog_6_method_14_code 6 = .ok (.iload_n 3, 1) := by decide +kernel
theorem dP_clearPlaces_7 : decode prog_6_method_14_code 7 = .ok (.iload_n 1, 1) := by decide +kernel
theorem dP_clearPlaces_8 : decode prog_6_method_14_code 8 = .ok (.iload_n 2, 1) := by decide +kernel
theorem dP_clearPlaces_9 : decode prog_6_method_14_code 9 = .ok (.iadd, 1) := by decide +kernel
theorem dP_clearPlaces_10 : decode prog_6_method_14_code 10 = .ok (.if_icmp .ge 25, 3) := by decide +kernel
theorem dP_clearPlaces_13 : decode prog_6_method_14_code 13 = .ok (.iload_n 3, 1) := by decide +kernel
theorem dP_clearPlaces_14 : decode prog_6_method_14_code 14 = .ok (.aload_n 0, 1) := by decide +kernel
theorem dP_clearPlaces_15 : decode prog_6_method_14_code 15 = .ok (.getfield 9, 3) := by decide +kernel
theorem dP_clearPlaces_18 : decode prog_6_method_14_code 18 = .ok (.arraylength, 1) := by decide +kernel
theorem dP_clearPlaces_19 : decode prog_6_method_14_code 19 = .ok (.if_icmp .ge 16, 3) := by decide +kernel
theorem dP_clearPlaces_22 : decode prog_6_method_14_code 22 = .ok (.aload_n 0, 1) := by decide +kernel
theorem dP_clearPlaces_23 : decode prog_6_method_14_code 23 = .ok (.getfield 9, 3) := by decide +kernel
theorem dP_clearPlaces_26 : decode prog_6_method_14_code 26 = .ok (.iload_n 3, 1) := by decide +kernel
theorem dP_clearPlaces_27 : decode prog_6_method_14_code 27 = .ok (.iconst 0, 1) := by decide +kernel
theorem dP_clearPlaces_28 : decode prog_6_method_14_code 28 = .ok (.iastore, 1) := by decide +kernel
theorem dP_clearPlaces_29 : decode prog_6_method_14_code 29 = .ok (.iinc 3 1, 3) := by decide +kernel
theorem dP_clearPlaces_32 : decode prog_6_method_14_code 32 = .ok (.goto (-26), 3) := by decide +kernel
theorem dP_clearPlaces_35 : decode prog_6_method_14_code 35 = .ok (.return_, 1) := by decide +kernel
def fP_clearPlaces_B6 (rec : Int32 → Int32 → Int32 → fl_G → Option ((Int32) × fl_G)) (v3 : Int32) (v1 : Int32) (v2 : Int32) (g : fl_G) : Option ((Int32) × fl_G) :=
  if (v1 + v2) ≤ v3 then (some (v3, g)) else (if 192 ≤ v3 then (some (v3, g)) else (fl_ck (fl_in v3 192) (rec (v3 + 1) v1 v2 (fl_up g 3 (Int32.toNatClampNeg v3) 0))))
def fP_clearPlaces_L6 : Nat → Int32 → Int32 → Int32 → fl_G → Option ((Int32) × fl_G)
  | 0, _, _, _, _ => none
  | n + 1, v3, v1, v2, g => fP_clearPlaces_B6 (fP_clearPlaces_L6 n) v3 v1 v2 g
def fP_clearPlaces (a0 : Int32) (a1 : Int32) (g : fl_G) : Option (Unit × fl_G) :=
  if a0 < 0 then (some ((), g)) else (fl_bd (fP_clearPlaces_L6 1000 a0 a0 a1 g) (fun r6 g7 => some ((), g7)))
set_option maxHeartbeats 4000000 in
set_option maxRecDepth 100000 in
theorem cP_clearPlaces (l : Launch) (dC : Nat → ClassId) (dI : Nat → Nat → Nat) (ca : Nat → ClassId) (ad : Nat → Nat) (hI : fl_inj 32 ad) (a0 : Int32) (a1 : Int32) {g g1 : fl_G} {r : Unit} (h : fP_clearPlaces a0 a1 g = some (r, g1)) : Met l yP_clearPlaces wP_clearPlaces ({ frames := 0, cells := 0, slots := 0, locals := 0 }) (va_Pc [.ref (ad 2), .int a0, .int a1] (fl_Pre (dC, dI) al_cl 32 (mc_sh ca ad) ad (mc_ty ca) mc_ns g)) (fl_QV (dC, dI) al_cl 32 (mc_sh ca ad) ad g1) 0 0 (fl_A 32 ad) := by
  refine fl_of (cc := prog_6_method_14_code) (maxL := 4) (ret := none) (by decide) rfl (Nat.le_of_ble_eq_true rfl) ?_
  intro p e s m below meth c ls hx hb hr hml hts hown hlocks hP hK hN hl
  have hown : s.vm.findClass "MeshedSpans$Spans" = some m.cls := hown
  have hS : va_S (fl_A 32 ad) s.heap s.heap [] := va_S.rf
  have hl : lv_has ls 4 [(0, .ref (ad 2)), (1, .int a0), (2, .int a1)] := hl
  unfold fP_clearPlaces at h
  refine lv_iload_n hx hb dP_clearPlaces_0 rfl (lv_at hl 1 rfl) ?_
  refine lv_if_lt (tgt := 35) hx hb dP_clearPlaces_1 (by decide) (fun c1 => ?_) (fun c1 => ?_)
  · replace h := fl_pos c1 h
    exact fl_vret hx hb hr hlocks hP hS h dP_clearPlaces_35
  · replace h := fl_neg c1 h
    refine lv_iload_n hx hb dP_clearPlaces_4 rfl (lv_at hl 1 rfl) ?_
    refine lv_istore_n (lv' := [(3, .int a0), (0, .ref (ad 2)), (1, .int a0), (2, .int a1)]) hx hb dP_clearPlaces_5 rfl hl (by decide) rfl (fun ls hl => ?_)
    have loop2 : ∀ (n : Nat) (v3 : Int32) (v1 : Int32) (v2 : Int32) (g : fl_G) (z : ((Int32) × fl_G)) (H : Heap) (locs : List Loc) (ls : Array Slot), fP_clearPlaces_L6 n v3 v1 v2 g = some z → va_P (dC, dI) al_cl (fl_ws 32 (mc_sh ca ad) ad g) H → va_S (fl_A 32 ad) s.heap H locs → lv_has ls 4 [(3, .int v3), (0, .ref (ad 2)), (1, .int v1), (2, .int v2)] → (∀ (H : Heap) (locs : List Loc) (ls : Array Slot), va_P (dC, dI) al_cl (fl_ws 32 (mc_sh ca ad) ad z.2) H → va_S (fl_A 32 ad) s.heap H locs → lv_has ls 4 [(3, .int z.1), (0, .ref (ad 2)), (1, .int v1), (2, .int v2)] → W p l e ({ frames := 0, cells := 0, slots := 0, locals := 0 }) s m ([.ref (ad 2), .int a0, .int a1] : List Value).toArray below meth c H locs 0 0 (MQ below (fl_QV (dC, dI) al_cl 32 (mc_sh ca ad) ad g1) ([.ref (ad 2), .int a0, .int a1] : List Value).toArray s 0 0 (fl_A 32 ad)) (F0 m 35 ls [])) → W p l e ({ frames := 0, cells := 0, slots := 0, locals := 0 }) s m ([.ref (ad 2), .int a0, .int a1] : List Value).toArray below meth c H locs 0 0 (MQ below (fl_QV (dC, dI) al_cl 32 (mc_sh ca ad) ad g1) ([.ref (ad 2), .int a0, .int a1] : List Value).toArray s 0 0 (fl_A 32 ad)) (F0 m 6 ls []) := by
      intro n
      clear h hP hS hl
      induction n with
      | zero => intro v3 v1 v2 g z H locs ls h; cases h
      | succ n ih2 =>
        intro v3 v1 v2 g z H locs ls h hP hS hl K2
        have h : fP_clearPlaces_B6 (fP_clearPlaces_L6 n) v3 v1 v2 g = some z := h
        unfold fP_clearPlaces_B6 at h
        refine lv_iload_n hx hb dP_clearPlaces_6 rfl (lv_at hl 0 rfl) ?_
        refine lv_iload_n hx hb dP_clearPlaces_7 rfl (lv_at hl 2 rfl) ?_
        refine lv_iload_n hx hb dP_clearPlaces_8 rfl (lv_at hl 3 rfl) ?_
        refine lv_iadd hx hb dP_clearPlaces_9 ?_
        refine lv_icmp_ge (tgt := 35) hx hb dP_clearPlaces_10 (by decide) (fun c3 => ?_) (fun c3 => ?_)
        · replace h := fl_pos c3 h
          cases h
          exact K2 _ _ _ hP hS (lv_sub hl [0, 1, 2, 3] rfl)
        · replace h := fl_neg c3 h
          refine lv_iload_n hx hb dP_clearPlaces_13 rfl (lv_at hl 0 rfl) ?_
          refine lv_aload_n hx hb dP_clearPlaces_14 rfl (lv_at hl 1 rfl) ?_
          refine mc_get2 (v := .ref (ad 3)) hx hb hts mc_in2 hown hK hP (q := 2) rfl 0 (by decide) (hts _ gm_74) rfl dP_clearPlaces_15 ?_
          refine mc_alen10 (v := 192) hx hb hK hP (q := 3) rfl rfl dP_clearPlaces_18 ?_
          refine lv_icmp_ge (tgt := 35) hx hb dP_clearPlaces_19 (by decide) (fun c4 => ?_) (fun c4 => ?_)
          · replace h := fl_pos c4 h
            cases h
            exact K2 _ _ _ hP hS (lv_sub hl [0, 1, 2, 3] rfl)
          · replace h := fl_neg c4 h
            refine lv_aload_n hx hb dP_clearPlaces_22 rfl (lv_at hl 1 rfl) ?_
            refine mc_get2 (v := .ref (ad 3)) hx hb hts mc_in2 hown hK hP (q := 2) rfl 0 (by decide) (hts _ gm_74) rfl dP_clearPlaces_23 ?_
            refine lv_iload_n hx hb dP_clearPlaces_26 rfl (lv_at hl 0 rfl) ?_
            refine lv_iconst (v := 0) hx hb dP_clearPlaces_27 (by decide) ?_
            replace h := fl_ck_some h
            obtain ⟨hi5, h⟩ := h
            refine mc_iast hx hb hK hP hI hS (q := 3) rfl hi5 dP_clearPlaces_28 (fun H locs hP hS => ?_)
            have hP : va_P (dC, dI) al_cl (fl_ws 32 (mc_sh ca ad) ad (fl_up g 3 (Int32.toNatClampNeg v3) 0)) H := hP
            refine lv_iinc (v := (v3 + 1)) (lv' := [(3, .int (v3 + 1)), (0, .ref (ad 2)), (1, .int v1), (2, .int v2)]) hx hb dP_clearPlaces_29 hl (k := 0) rfl rfl (by decide) rfl (fun ls hl => ?_)
            refine lv_goto (tgt := 6) hx hb dP_clearPlaces_32 (by decide) ?_
            exact ih2 (v3 + 1) v1 v2 _ _ _ _ _ h hP hS (lv_sub hl [0, 1, 2, 3] rfl) K2
    obtain ⟨r6, g7, hc8, h⟩ := fl_bd_some h
    refine loop2 1000 a0 a0 a1 _ (r6, g7) _ _ _ hc8 hP hS (lv_sub hl [0, 1, 2, 3] rfl) (fun H locs ls hP hS hl => ?_)
    have hP : va_P (dC, dI) al_cl (fl_ws 32 (mc_sh ca ad) ad g7) H := hP
    have hl : lv_has ls 4 [(3, .int r6), (0, .ref (ad 2)), (1, .int a0), (2, .int a1)] := hl
    exact fl_vret hx hb hr hlocks hP hS h dP_clearPlaces_35
def yP_open : MethodName := ⟨"MeshedSpans$Spans", "open", "(II)V"⟩
def wP_open : List Cond := .code yP_open prog_6_method_7_code 3 none :: gw
theorem kP_open {R : Room} {s : State} {args : Array Value} {own : String} {ix : Nat} (hts : ∀ w ∈ gw, w.before args s = true) (hl : (Cond.methodLink own ix yP_open).before args s = true) (hR : 2 + 1 ≤ R.frames ∧ 8 + (3 + 11) + 42 ≤ R.locals) : CallW R s args own "MeshedSpans$Spans" ix yP_open prog_6_method_7_code 3 none wP_open { frames := 2, cells := 0, slots := 0, locals := 42 } 0 0 2 := ⟨callB_of (rm := { frames := 2, cells := 0, slots := 0, locals := 42 }) 2 hts (gw_c (ct := .code yP_open prog_6_method_7_code 3 none) gm_195) rfl rfl rfl (hts _ gm_43) hl (by decide +kernel) hR, hts _ gm_193, hts _ gm_194⟩
theorem dP_open_0 : decode prog_6_method_7_code 0 = .ok (.aload_n 0, 1) := by decide +kernel
theorem dP_open_1 : decode prog_6_method_7_code 1 = .ok (.iload_n 1, 1) := by decide +kernel
theorem dP_open_2 : decode prog_6_method_7_code 2 = .ok (.iload_n 2, 1) := by decide +kernel
theorem dP_open_3 : decode prog_6_method_7_code 3 = .ok (.invokevirtual 28, 3) := by decide +kernel
theorem dP_open_6 : decode prog_6_method_7_code 6 = .ok (.aload_n 0, 1) := by decide +kernel
theorem dP_open_7 : decode prog_6_method_7_code 7 = .ok (.iload_n 2, 1) := by decide +kernel
theorem dP_open_8 : decode prog_6_method_7_code 8 = .ok (.bipush 16, 2) := by decide +kernel
theorem dP_open_10 : decode prog_6_method_7_code 10 = .ok (.imul, 1) := by decide +kernel
theorem dP_open_11 : decode prog_6_method_7_code 11 = .ok (.bipush 16, 2) := by decide +kernel
theorem dP_open_13 : decode prog_6_method_7_code 13 = .ok (.invokevirtual 32, 3) := by decide +kernel
theorem dP_open_16 : decode prog_6_method_7_code 16 = .ok (.return_, 1) := by decide +kernel
def fP_open (a0 : Int32) (a1 : Int32) (g : fl_G) : Option (Unit × fl_G) :=
  fl_bd (fP_map a0 a1 g) (fun r1 g2 => fl_bd (fP_clearPlaces (a1 * 16) 16 g2) (fun r4 g5 => some ((), g5)))
set_option maxHeartbeats 4000000 in
set_option maxRecDepth 100000 in
theorem cP_open (l : Launch) (dC : Nat → ClassId) (dI : Nat → Nat → Nat) (ca : Nat → ClassId) (ad : Nat → Nat) (hI : fl_inj 32 ad) (a0 : Int32) (a1 : Int32) {g g1 : fl_G} {r : Unit} (h : fP_open a0 a1 g = some (r, g1)) : Met l yP_open wP_open ({ frames := 2, cells := 0, slots := 0, locals := 42 }) (va_Pc [.ref (ad 2), .int a0, .int a1] (fl_Pre (dC, dI) al_cl 32 (mc_sh ca ad) ad (mc_ty ca) mc_ns g)) (fl_QV (dC, dI) al_cl 32 (mc_sh ca ad) ad g1) 0 0 (fl_A 32 ad) := by
  refine fl_of (cc := prog_6_method_7_code) (maxL := 3) (ret := none) (by decide) rfl (Nat.le_of_ble_eq_true rfl) ?_
  intro p e s m below meth c ls hx hb hr hml hts hown hlocks hP hK hN hl
  have hown : s.vm.findClass "MeshedSpans$Spans" = some m.cls := hown
  have hS : va_S (fl_A 32 ad) s.heap s.heap [] := va_S.rf
  have hl : lv_has ls 3 [(0, .ref (ad 2)), (1, .int a0), (2, .int a1)] := hl
  unfold fP_open at h
  refine lv_aload_n hx hb dP_open_0 rfl (lv_at hl 0 rfl) ?_
  refine lv_iload_n hx hb dP_open_1 rfl (lv_at hl 1 rfl) ?_
  refine lv_iload_n hx hb dP_open_2 rfl (lv_at hl 2 rfl) ?_
  replace h := fl_bd_some h
  obtain ⟨r1, g2, hc3, h⟩ := h
  refine fl_callv (va_runV (As := [.int a0, .int a1]) (rest := []) ⟨hx, hb, hml, hown, hts⟩ (cP_map l dC dI ca ad hI a0 a1 hc3) (kP_map hts (hts _ gm_196) ⟨Nat.le_of_ble_eq_true rfl, Nat.le_of_ble_eq_true rfl⟩) (fl_preV hK hP hN (mc_lt rfl (by decide)) (mc_sh2 rfl) rfl) rfl rfl hl.1 rfl (lv_room (Nat.le_of_ble_eq_true rfl)) dP_open_3 ⟨Nat.le_refl 0, Nat.le_refl 0⟩) hS (fun H locs hP hS => ?_)
  refine lv_aload_n hx hb dP_open_6 rfl (lv_at hl 0 rfl) ?_
  refine lv_iload_n hx hb dP_open_7 rfl (lv_at hl 2 rfl) ?_
  refine lv_bipush (v := 16) hx hb dP_open_8 (by decide) ?_
  refine lv_imul hx hb dP_open_10 ?_
  refine lv_bipush (v := 16) hx hb dP_open_11 (by decide) ?_
  replace h := fl_bd_some h
  obtain ⟨r4, g5, hc6, h⟩ := h
  refine fl_callv (va_runV (As := [.int (a1 * 16), .int 16]) (rest := []) ⟨hx, hb, hml, hown, hts⟩ (cP_clearPlaces l dC dI ca ad hI (a1 * 16) 16 hc6) (kP_clearPlaces hts (hts _ gm_203) ⟨Nat.le_of_ble_eq_true rfl, Nat.le_of_ble_eq_true rfl⟩) (fl_preV hK hP hN (mc_lt rfl (by decide)) (mc_sh2 rfl) rfl) rfl rfl hl.1 rfl (lv_room (Nat.le_of_ble_eq_true rfl)) dP_open_13 ⟨Nat.le_refl 0, Nat.le_refl 0⟩) hS (fun H locs hP hS => ?_)
  exact fl_vret hx hb hr hlocks hP hS h dP_open_16
def yP_unmap : MethodName := ⟨"MeshedSpans$Spans", "unmap", "(I)V"⟩
def wP_unmap : List Cond := .code yP_unmap prog_6_method_9_code 3 none :: gw
theorem kP_unmap {R : Room} {s : State} {args : Array Value} {own : String} {ix : Nat} (hts : ∀ w ∈ gw, w.before args s = true) (hl : (Cond.methodLink own ix yP_unmap).before args s = true) (hR : 2 + 1 ≤ R.frames ∧ 8 + (3 + 11) + 41 ≤ R.locals) : CallW R s args own "MeshedSpans$Spans" ix yP_unmap prog_6_method_9_code 3 none wP_unmap { frames := 2, cells := 0, slots := 0, locals := 41 } 0 0 1 := ⟨callB_of (rm := { frames := 2, cells := 0, slots := 0, locals := 41 }) 1 hts (gw_c (ct := .code yP_unmap prog_6_method_9_code 3 none) gm_340) rfl rfl rfl (hts _ gm_43) hl (by decide +kernel) hR, hts _ gm_338, hts _ gm_339⟩
theorem dP_unmap_0 : decode prog_6_method_9_code 0 = .ok (.aload_n 0, 1) := by decide +kernel
theorem dP_unmap_1 : decode prog_6_method_9_code 1 = .ok (.iload_n 1, 1) := by decide +kernel
theorem dP_unmap_2 : decode prog_6_method_9_code 2 = .ok (.invokevirtual 35, 3) := by decide +kernel
theorem dP_unmap_5 : decode prog_6_method_9_code 5 = .ok (.istore_n 2, 1) := by decide +kernel
theorem dP_unmap_6 : decode prog_6_method_9_code 6 = .ok (.iload_n 2, 1) := by decide +kernel
theorem dP_unmap_7 : decode prog_6_method_9_code 7 = .ok (.iconst (-1), 1) := by decide +kernel
theorem dP_unmap_8 : decode prog_6_method_9_code 8 = .ok (.if_icmp .eq 20, 3) := by decide +kernel
theorem dP_unmap_11 : decode prog_6_method_9_code 11 = .ok (.aload_n 0, 1) := by decide +kernel
theorem dP_unmap_12 : decode prog_6_method_9_code 12 = .ok (.getfield 18, 3) := by decide +kernel
theorem dP_unmap_15 : decode prog_6_method_9_code 15 = .ok (.iload_n 2, 1) := by decide +kernel
theorem dP_unmap_16 : decode prog_6_method_9_code 16 = .ok (.dup2, 1) := by decide +kernel
theorem dP_unmap_17 : decode prog_6_method_9_code 17 = .ok (.iaload, 1) := by decide +kernel
theorem dP_unmap_18 : decode prog_6_method_9_code 18 = .ok (.iconst 1, 1) := by decide +kernel
theorem dP_unmap_19 : decode prog_6_method_9_code 19 = .ok (.isub, 1) := by decide +kernel
theorem dP_unmap_20 : decode prog_6_method_9_code 20 = .ok (.iastore, 1) := by decide +kernel
theorem dP_unmap_21 : decode prog_6_method_9_code 21 = .ok (.aload_n 0, 1) := by decide +kernel
theorem dP_unmap_22 : decode prog_6_method_9_code 22 = .ok (.getfield 15, 3) := by decide +kernel
theorem dP_unmap_25 : decode prog_6_method_9_code 25 = .ok (.iload_n 1, 1) := by decide +kernel
theorem dP_unmap_26 : decode prog_6_method_9_code 26 = .ok (.iconst (-1), 1) := by decide +kernel
theorem dP_unmap_27 : decode prog_6_method_9_code 27 = .ok (.iastore, 1) := by decide +kernel
theorem dP_unmap_28 : decode prog_6_method_9_code 28 = .ok (.return_, 1) := by decide +kernel
def fP_unmap (a0 : Int32) (g : fl_G) : Option (Unit × fl_G) :=
  fl_bd (fP_physicalOf a0 g) (fun r1 g2 => if r1 = (-1) then (some ((), g2)) else (fl_ck (fl_in r1 12) (fl_ck (fl_in r1 12) (fl_ck (fl_in a0 24) (some ((), (fl_up (fl_up g2 5 (Int32.toNatClampNeg r1) ((g2 5 (Int32.toNatClampNeg r1)) - 1)) 4 (Int32.toNatClampNeg a0) (-1))))))))
set_option maxHeartbeats 4000000 in
set_option maxRecDepth 100000 in
theorem cP_unmap (l : Launch) (dC : Nat → ClassId) (dI : Nat → Nat → Nat) (ca : Nat → ClassId) (ad : Nat → Nat) (hI : fl_inj 32 ad) (a0 : Int32) {g g1 : fl_G} {r : Unit} (h : fP_unmap a0 g = some (r, g1)) : Met l yP_unmap wP_unmap ({ frames := 2, cells := 0, slots := 0, locals := 41 }) (va_Pc [.ref (ad 2), .int a0] (fl_Pre (dC, dI) al_cl 32 (mc_sh ca ad) ad (mc_ty ca) mc_ns g)) (fl_QV (dC, dI) al_cl 32 (mc_sh ca ad) ad g1) 0 0 (fl_A 32 ad) := by
  refine fl_of (cc := prog_6_method_9_code) (maxL := 3) (ret := none) (by decide) rfl (Nat.le_of_ble_eq_true rfl) ?_
  intro p e s m below meth c ls hx hb hr hml hts hown hlocks hP hK hN hl
  have hown : s.vm.findClass "MeshedSpans$Spans" = some m.cls := hown
  have hS : va_S (fl_A 32 ad) s.heap s.heap [] := va_S.rf
  have hl : lv_has ls 3 [(0, .ref (ad 2)), (1, .int a0)] := hl
  unfold fP_unmap at h
  refine lv_aload_n hx hb dP_unmap_0 rfl (lv_at hl 0 rfl) ?_
  refine lv_iload_n hx hb dP_unmap_1 rfl (lv_at hl 1 rfl) ?_
  replace h := fl_bd_some h
  obtain ⟨r1, g2, hc3, h⟩ := h
  refine fl_calli (va_runV (As := [.int a0]) (rest := []) ⟨hx, hb, hml, hown, hts⟩ (cP_physicalOf l dC dI ca ad hI a0 hc3) (kP_physicalOf hts (hts _ gm_341) ⟨Nat.le_of_ble_eq_true rfl, Nat.le_of_ble_eq_true rfl⟩) (fl_preV hK hP hN (mc_lt rfl (by decide)) (mc_sh2 rfl) rfl) rfl rfl hl.1 rfl (lv_room (Nat.le_of_ble_eq_true rfl)) dP_unmap_2 ⟨Nat.le_refl 0, Nat.le_refl 0⟩) hS (fun H locs hP hS => ?_)
  refine lv_istore_n (lv' := [(2, .int r1), (0, .ref (ad 2)), (1, .int a0)]) hx hb dP_unmap_5 rfl hl (by decide) rfl (fun ls hl => ?_)
  refine lv_iload_n hx hb dP_unmap_6 rfl (lv_at hl 0 rfl) ?_
  refine lv_iconst (v := (-1)) hx hb dP_unmap_7 (by decide) ?_
  refine lv_icmp_eq (tgt := 28) hx hb dP_unmap_8 (by decide) (fun c4 => ?_) (fun c4 => ?_)
  · replace h := fl_pos c4 h
    exact fl_vret hx hb hr hlocks hP hS h dP_unmap_28
  · replace h := fl_neg c4 h
    refine lv_aload_n hx hb dP_unmap_11 rfl (lv_at hl 1 rfl) ?_
    refine mc_get2 (v := .ref (ad 5)) hx hb hts mc_in2 hown hK hP (q := 2) rfl 2 (by decide) (hts _ gm_76) rfl dP_unmap_12 ?_
    refine lv_iload_n hx hb dP_unmap_15 rfl (lv_at hl 0 rfl) ?_
    refine lv_dup2_11 hx hb dP_unmap_16 rfl rfl ?_
    replace h := fl_ck_some h
    obtain ⟨hi5, h⟩ := h
    refine mc_iald hx hb hK hP (q := 5) rfl hi5 dP_unmap_17 ?_
    refine lv_iconst (v := 1) hx hb dP_unmap_18 (by decide) ?_
    refine lv_isub hx hb dP_unmap_19 ?_
    replace h := fl_ck_some h
    obtain ⟨hi6, h⟩ := h
    refine mc_iast hx hb hK hP hI hS (q := 5) rfl hi6 dP_unmap_20 (fun H locs hP hS => ?_)
    have hP : va_P (dC, dI) al_cl (fl_ws 32 (mc_sh ca ad) ad (fl_up g2 5 (Int32.toNatClampNeg r1) ((g2 5 (Int32.toNatClampNeg r1)) - 1))) H := hP
    refine lv_aload_n hx hb dP_unmap_21 rfl (lv_at hl 1 rfl) ?_
    refine mc_get2 (v := .ref (ad 4)) hx hb hts mc_in2 hown hK hP (q := 2) rfl 1 (by decide) (hts _ gm_75) rfl dP_unmap_22 ?_
    refine lv_iload_n hx hb dP_unmap_25 rfl (lv_at hl 2 rfl) ?_
    refine lv_iconst (v := (-1)) hx hb dP_unmap_26 (by decide) ?_
    replace h := fl_ck_some h
    obtain ⟨hi7, h⟩ := h
    refine mc_iast hx hb hK hP hI hS (q := 4) rfl hi7 dP_unmap_27 (fun H locs hP hS => ?_)
    have hP : va_P (dC, dI) al_cl (fl_ws 32 (mc_sh ca ad) ad (fl_up (fl_up g2 5 (Int32.toNatClampNeg r1) ((g2 5 (Int32.toNatClampNeg r1)) - 1)) 4 (Int32.toNatClampNeg a0) (-1))) H := hP
    exact fl_vret hx hb hr hlocks hP hS h dP_unmap_28
def yP_unmapAllOf : MethodName := ⟨"MeshedSpans$Spans", "unmapAllOf", "(I)V"⟩
def wP_unmapAllOf : List Cond := .code yP_unmapAllOf prog_6_method_10_code 3 none :: gw
theorem kP_unmapAllOf {R : Room} {s : State} {args : Array Value} {own : String} {ix : Nat} (hts : ∀ w ∈ gw, w.before args s = true) (hl : (Cond.methodLink own ix yP_unmapAllOf).before args s = true) (hR : 3 + 1 ≤ R.frames ∧ 8 + (3 + 11) + 63 ≤ R.locals) : CallW R s args own "MeshedSpans$Spans" ix yP_unmapAllOf prog_6_method_10_code 3 none wP_unmapAllOf { frames := 3, cells := 0, slots := 0, locals := 63 } 0 0 1 := ⟨callB_of (rm := { frames := 3, cells := 0, slots := 0, locals := 63 }) 1 hts (gw_c (ct := .code yP_unmapAllOf prog_6_method_10_code 3 none) gm_366) rfl rfl rfl (hts _ gm_43) hl (by decide +kernel) hR, hts _ gm_364, hts _ gm_365⟩
theorem dP_unmapAllOf_0 : decode prog_6_method_10_code 0 = .ok (.iconst 0, 1) := by decide +kernel
theorem dP_unmapAllOf_1 : decode prog_6_method_10_code 1 = .ok (.istore_n 2, 1) := by decide +kernel
theorem dP_unmapAllOf_2 : decode prog_6_method_10_code 2 = .ok (.iload_n 2, 1) := by decide +kernel
theorem dP_unmapAllOf_3 : decode prog_6_method_10_code 3 = .ok (.bipush 24, 2) := by decide +kernel
theorem dP_unmapAllOf_5 : decode prog_6_method_10_code 5 = .ok (.if_icmp .ge 24, 3) := by decide +kernel
theorem dP_unmapAllOf_8 : decode prog_6_method_10_code 8 = .ok (.aload_n 0, 1) := by decide +kernel
theorem dP_unmapAllOf_9 : decode prog_6_method_10_code 9 = .ok (.getfield 15, 3) := by decide +kernel
theorem dP_unmapAllOf_12 : decode prog_6_method_10_code 12 = .ok (.iload_n 2, 1) := by decide +kernel
theorem dP_unmapAllOf_13 : decode prog_6_method_10_code 13 = .ok (.iaload, 1) := by decide +kernel
theorem dP_unmapAllOf_14 : decode prog_6_method_10_code 14 = .ok (.iload_n 1, 1) := by decide +kernel
theorem dP_unmapAllOf_15 : decode prog_6_method_10_code 15 = .ok (.if_icmp .ne 8, 3) := by decide +kernel
theorem dP_unmapAllOf_18 : decode prog_6_method_10_code 18 = .ok (.aload_n 0, 1) := by decide +kernel
theorem dP_unmapAllOf_19 : decode prog_6_method_10_code 19 = .ok (.iload_n 2, 1) := by decide +kernel
theorem dP_unmapAllOf_20 : decode prog_6_method_10_code 20 = .ok (.invokevirtual 39, 3) := by decide +kernel
theorem dP_unmapAllOf_23 : decode prog_6_method_10_code 23 = .ok (.iinc 2 1, 3) := by decide +kernel
theorem dP_unmapAllOf_26 : decode prog_6_method_10_code 26 = .ok (.goto (-24), 3) := by decide +kernel
theorem dP_unmapAllOf_29 : decode prog_6_method_10_code 29 = .ok (.return_, 1) := by decide +kernel
def fP_unmapAllOf_B2 (rec : Int32 → Int32 → fl_G → Option ((Int32) × fl_G)) (v2 : Int32) (v1 : Int32) (g : fl_G) : Option ((Int32) × fl_G) :=
  if 24 ≤ v2 then (some (v2, g)) else (fl_ck (fl_in v2 24) (if (g 4 (Int32.toNatClampNeg v2)) = v1 then (fl_bd (fP_unmap v2 g) (fun r5 g6 => rec (v2 + 1) v1 g6)) else (rec (v2 + 1) v1 g)))
def fP_unmapAllOf_L2 : Nat → Int32 → Int32 → fl_G → Option ((Int32) × fl_G)
  | 0, _, _, _ => none
  | n + 1, v2, v1, g => fP_unmapAllOf_B2 (fP_unmapAllOf_L2 n) v2 v1 g
def fP_unmapAllOf (a0 : Int32) (g : fl_G) : Option (Unit × fl_G) :=
  fl_bd (fP_unmapAllOf_L2 1000 0 a0 g) (fun r8 g9 => some ((), g9))
set_option maxHeartbeats 4000000 in
set_option maxRecDepth 100000 in
theorem cP_unmapAllOf (l : Launch) (dC : Nat → ClassId) (dI : Nat → Nat → Nat) (ca : Nat → ClassId) (ad : Nat → Nat) (hI : fl_inj 32 ad) (a0 : Int32) {g g1 : fl_G} {r : Unit} (h : fP_unmapAllOf a0 g = some (r, g1)) : Met l yP_unmapAllOf wP_unmapAllOf ({ frames := 3, cells := 0, slots := 0, locals := 63 }) (va_Pc [.ref (ad 2), .int a0] (fl_Pre (dC, dI) al_cl 32 (mc_sh ca ad) ad (mc_ty ca) mc_ns g)) (fl_QV (dC, dI) al_cl 32 (mc_sh ca ad) ad g1) 0 0 (fl_A 32 ad) := by
  refine fl_of (cc := prog_6_method_10_code) (maxL := 3) (ret := none) (by decide) rfl (Nat.le_of_ble_eq_true rfl) ?_
  intro p e s m below meth c ls hx hb hr hml hts hown hlocks hP hK hN hl
  have hown : s.vm.findClass "MeshedSpans$Spans" = some m.cls := hown
  have hS : va_S (fl_A 32 ad) s.heap s.heap [] := va_S.rf
  have hl : lv_has ls 3 [(0, .ref (ad 2)), (1, .int a0)] := hl
  unfold fP_unmapAllOf at h
  refine lv_iconst (v := 0) hx hb dP_unmapAllOf_0 (by decide) ?_
  refine lv_istore_n (lv' := [(2, .int 0), (0, .ref (ad 2)), (1, .int a0)]) hx hb dP_unmapAllOf_1 rfl hl (by decide) rfl (fun ls hl => ?_)
  have loop1 : ∀ (n : Nat) (v2 : Int32) (v1 : Int32) (g : fl_G) (z : ((Int32) × fl_G)) (H : Heap) (locs : List Loc) (ls : Array Slot), fP_unmapAllOf_L2 n v2 v1 g = some z → va_P (dC, dI) al_cl (fl_ws 32 (mc_sh ca ad) ad g) H → va_S (fl_A 32 ad) s.heap H locs → lv_has ls 3 [(2, .int v2), (0, .ref (ad 2)), (1, .int v1)] → (∀ (H : Heap) (locs : List Loc) (ls : Array Slot), va_P (dC, dI) al_cl (fl_ws 32 (mc_sh ca ad) ad z.2) H → va_S (fl_A 32 ad) s.heap H locs → lv_has ls 3 [(2, .int z.1), (0, .ref (ad 2)), (1, .int v1)] → W p l e ({ frames := 3, cells := 0, slots := 0, locals := 63 }) s m ([.ref (ad 2), .int a0] : List Value).toArray below meth c H locs 0 0 (MQ below (fl_QV (dC, dI) al_cl 32 (mc_sh ca ad) ad g1) ([.ref (ad 2), .int a0] : List Value).toArray s 0 0 (fl_A 32 ad)) (F0 m 29 ls [])) → W p l e ({ frames := 3, cells := 0, slots := 0, locals := 63 }) s m ([.ref (ad 2), .int a0] : List Value).toArray below meth c H locs 0 0 (MQ below (fl_QV (dC, dI) al_cl 32 (mc_sh ca ad) ad g1) ([.ref (ad 2), .int a0] : List Value).toArray s 0 0 (fl_A 32 ad)) (F0 m 2 ls []) := by
    intro n
    clear h hP hS hl
    induction n with
    | zero => intro v2 v1 g z H locs ls h; cases h
    | succ n ih1 =>
      intro v2 v1 g z H locs ls h hP hS hl K1
      have h : fP_unmapAllOf_B2 (fP_unmapAllOf_L2 n) v2 v1 g = some z := h
      unfold fP_unmapAllOf_B2 at h
      refine lv_iload_n hx hb dP_unmapAllOf_2 rfl (lv_at hl 0 rfl) ?_
      refine lv_bipush (v := 24) hx hb dP_unmapAllOf_3 (by decide) ?_
      refine lv_icmp_ge (tgt := 29) hx hb dP_unmapAllOf_5 (by decide) (fun c2 => ?_) (fun c2 => ?_)
      · replace h := fl_pos c2 h
        cases h
        exact K1 _ _ _ hP hS (lv_sub hl [0, 1, 2] rfl)
      · replace h := fl_neg c2 h
        refine lv_aload_n hx hb dP_unmapAllOf_8 rfl (lv_at hl 1 rfl) ?_
        refine mc_get2 (v := .ref (ad 4)) hx hb hts mc_in2 hown hK hP (q := 2) rfl 1 (by decide) (hts _ gm_75) rfl dP_unmapAllOf_9 ?_
        refine lv_iload_n hx hb dP_unmapAllOf_12 rfl (lv_at hl 0 rfl) ?_
        replace h := fl_ck_some h
        obtain ⟨hi3, h⟩ := h
        refine mc_iald hx hb hK hP (q := 4) rfl hi3 dP_unmapAllOf_13 ?_
        refine lv_iload_n hx hb dP_unmapAllOf_14 rfl (lv_at hl 2 rfl) ?_
        refine lv_icmp_ne (tgt := 23) hx hb dP_unmapAllOf_15 (by decide) (fun c4 => ?_) (fun c4 => ?_)
        · replace h := fl_neg c4 h
          refine lv_iinc (v := (v2 + 1)) (lv' := [(2, .int (v2 + 1)), (0, .ref (ad 2)), (1, .int v1)]) hx hb dP_unmapAllOf_23 hl (k := 0) rfl rfl (by decide) rfl (fun ls hl => ?_)
          refine lv_goto (tgt := 2) hx hb dP_unmapAllOf_26 (by decide) ?_
          exact ih1 (v2 + 1) v1 _ _ _ _ _ h hP hS (lv_sub hl [0, 1, 2] rfl) K1
        · replace h := fl_pos c4 h
          refine lv_aload_n hx hb dP_unmapAllOf_18 rfl (lv_at hl 1 rfl) ?_
          refine lv_iload_n hx hb dP_unmapAllOf_19 rfl (lv_at hl 0 rfl) ?_
          replace h := fl_bd_some h
          obtain ⟨r5, g6, hc7, h⟩ := h
          refine fl_callv (va_runV (As := [.int v2]) (rest := []) ⟨hx, hb, hml, hown, hts⟩ (cP_unmap l dC dI ca ad hI v2 hc7) (kP_unmap hts (hts _ gm_367) ⟨Nat.le_of_ble_eq_true rfl, Nat.le_of_ble_eq_true rfl⟩) (fl_preV hK hP hN (mc_lt rfl (by decide)) (mc_sh2 rfl) rfl) rfl rfl hl.1 rfl (lv_room (Nat.le_of_ble_eq_true rfl)) dP_unmapAllOf_20 ⟨Nat.le_refl 0, Nat.le_refl 0⟩) hS (fun H locs hP hS => ?_)
          refine lv_iinc (v := (v2 + 1)) (lv' := [(2, .int (v2 + 1)), (0, .ref (ad 2)), (1, .int v1)]) hx hb dP_unmapAllOf_23 hl (k := 0) rfl rfl (by decide) rfl (fun ls hl => ?_)
          refine lv_goto (tgt := 2) hx hb dP_unmapAllOf_26 (by decide) ?_
          exact ih1 (v2 + 1) v1 _ _ _ _ _ h hP hS (lv_sub hl [0, 1, 2] rfl) K1
  obtain ⟨r8, g9, hc10, h⟩ := fl_bd_some h
  refine loop1 1000 0 a0 _ (r8, g9) _ _ _ hc10 hP hS (lv_sub hl [0, 1, 2] rfl) (fun H locs ls hP hS hl => ?_)
  have hP : va_P (dC, dI) al_cl (fl_ws 32 (mc_sh ca ad) ad g9) H := hP
  have hl : lv_has ls 3 [(2, .int r8), (0, .ref (ad 2)), (1, .int a0)] := hl
  exact fl_vret hx hb hr hlocks hP hS h dP_unmapAllOf_29
def yP_remapAllOf : MethodName := ⟨"MeshedSpans$Spans", "remapAllOf", "(II)V"⟩
def wP_remapAllOf : List Cond := .code yP_remapAllOf prog_6_method_11_code 4 none :: gw
theorem kP_remapAllOf {R : Room} {s : State} {args : Array Value} {own : String} {ix : Nat} (hts : ∀ w ∈ gw, w.before args s = true) (hl : (Cond.methodLink own ix yP_remapAllOf).before args s = true) (hR : 3 + 1 ≤ R.frames ∧ 8 + (4 + 11) + 63 ≤ R.locals) : CallW R s args own "MeshedSpans$Spans" ix yP_remapAllOf prog_6_method_11_code 4 none wP_remapAllOf { frames := 3, cells := 0, slots := 0, locals := 63 } 0 0 2 := ⟨callB_of (rm := { frames := 3, cells := 0, slots := 0, locals := 63 }) 2 hts (gw_c (ct := .code yP_remapAllOf prog_6_method_11_code 4 none) gm_436) rfl rfl rfl (hts _ gm_43) hl (by decide +kernel) hR, hts _ gm_434, hts _ gm_435⟩
theorem dP_remapAllOf_0 : decode prog_6_method_11_code 0 = .ok (.iconst 0, 1) := by decide +kernel
theorem dP_remapAllOf_1 : decode prog_6_method_11_code 1 = .ok (.istore_n 3, 1) := by decide +kernel
theorem dP_remapAllOf_2 : decode prog_6_method_11_code 2 = .ok (.iload_n 3, 1) := by decide +kernel
theorem dP_remapAllOf_3 : decode prog_6_method_11_code 3 = .ok (.bipush 24, 2) := by decide +kernel
theorem dP_remapAllOf_5 : decode prog_6_method_11_code 5 = .ok (.if_icmp .ge 30, 3) := by decide +kernel
theorem dP_remapAllOf_8 : decode prog_6_method_11_code 8 = .ok (.aload_n 0, 1) := by decide +kernel
theorem dP_remapAllOf_9 : decode prog_6_method_11_code 9 = .ok (.getfield 15, 3) := by decide +kernel
theorem dP_remapAllOf_12 : decode prog_6_method_11_code 12 = .ok (.iload_n 3, 1) := by decide +kernel
theorem dP_remapAllOf_13 : decode prog_6_method_11_code 13 = .ok (.iaload, 1) := by decide +kernel
theorem dP_remapAllOf_14 : decode prog_6_method_11_code 14 = .ok (.iload_n 1, 1) := by decide +kernel
theorem dP_remapAllOf_15 : decode prog_6_method_11_code 15 = .ok (.if_icmp .ne 14, 3) := by decide +kernel
theorem dP_remapAllOf_18 : decode prog_6_method_11_code 18 = .ok (.aload_n 0, 1) := by decide +kernel
theorem dP_remapAllOf_19 : decode prog_6_method_11_code 19 = .ok (.iload_n 3, 1) := by decide +kernel
theorem dP_remapAllOf_20 : decode prog_6_method_11_code 20 = .ok (.invokevirtual 39, 3) := by decide +kernel
theorem dP_remapAllOf_23 : decode prog_6_method_11_code 23 = .ok (.aload_n 0, 1) := by decide +kernel
theorem dP_remapAllOf_24 : decode prog_6_method_11_code 24 = .ok (.iload_n 3, 1) := by decide +kernel
theorem dP_remapAllOf_25 : decode prog_6_method_11_code 25 = .ok (.iload_n 2, 1) := by decide +kernel
theorem dP_remapAllOf_26 : decode prog_6_method_11_code 26 = .ok (.invokevirtual 28, 3) := by decide +kernel
theorem dP_remapAllOf_29 : decode prog_6_method_11_code 29 = .ok (.iinc 3 1, 3) := by decide +kernel
theorem dP_remapAllOf_32 : decode prog_6_method_11_code 32 = .ok (.goto (-30), 3) := by decide +kernel
theorem dP_remapAllOf_35 : decode prog_6_method_11_code 35 = .ok (.return_, 1) := by decide +kernel
def fP_remapAllOf_B2 (rec : Int32 → Int32 → Int32 → fl_G → Option ((Int32) × fl_G)) (v3 : Int32) (v1 : Int32) (v2 : Int32) (g : fl_G) : Option ((Int32) × fl_G) :=
  if 24 ≤ v3 then (some (v3, g)) else (fl_ck (fl_in v3 24) (if (g 4 (Int32.toNatClampNeg v3)) = v1 then (fl_bd (fP_unmap v3 g) (fun r5 g6 => fl_bd (fP_map v3 v2 g6) (fun r8 g9 => rec (v3 + 1) v1 v2 g9))) else (rec (v3 + 1) v1 v2 g)))
def fP_remapAllOf_L2 : Nat → Int32 → Int32 → Int32 → fl_G → Option ((Int32) × fl_G)
  | 0, _, _, _, _ => none
  | n + 1, v3, v1, v2, g => fP_remapAllOf_B2 (fP_remapAllOf_L2 n) v3 v1 v2 g
def fP_remapAllOf (a0 : Int32) (a1 : Int32) (g : fl_G) : Option (Unit × fl_G) :=
  fl_bd (fP_remapAllOf_L2 1000 0 a0 a1 g) (fun r11 g12 => some ((), g12))
set_option maxHeartbeats 4000000 in
set_option maxRecDepth 100000 in
theorem cP_remapAllOf (l : Launch) (dC : Nat → ClassId) (dI : Nat → Nat → Nat) (ca : Nat → ClassId) (ad : Nat → Nat) (hI : fl_inj 32 ad) (a0 : Int32) (a1 : Int32) {g g1 : fl_G} {r : Unit} (h : fP_remapAllOf a0 a1 g = some (r, g1)) : Met l yP_remapAllOf wP_remapAllOf ({ frames := 3, cells := 0, slots := 0, locals := 63 }) (va_Pc [.ref (ad 2), .int a0, .int a1] (fl_Pre (dC, dI) al_cl 32 (mc_sh ca ad) ad (mc_ty ca) mc_ns g)) (fl_QV (dC, dI) al_cl 32 (mc_sh ca ad) ad g1) 0 0 (fl_A 32 ad) := by
  refine fl_of (cc := prog_6_method_11_code) (maxL := 4) (ret := none) (by decide) rfl (Nat.le_of_ble_eq_true rfl) ?_
  intro p e s m below meth c ls hx hb hr hml hts hown hlocks hP hK hN hl
  have hown : s.vm.findClass "MeshedSpans$Spans" = some m.cls := hown
  have hS : va_S (fl_A 32 ad) s.heap s.heap [] := va_S.rf
  have hl : lv_has ls 4 [(0, .ref (ad 2)), (1, .int a0), (2, .int a1)] := hl
  unfold fP_remapAllOf at h
  refine lv_iconst (v := 0) hx hb dP_remapAllOf_0 (by decide) ?_
  refine lv_istore_n (lv' := [(3, .int 0), (0, .ref (ad 2)), (1, .int a0), (2, .int a1)]) hx hb dP_remapAllOf_1 rfl hl (by decide) rfl (fun ls hl => ?_)
  have loop1 : ∀ (n : Nat) (v3 : Int32) (v1 : Int32) (v2 : Int32) (g : fl_G) (z : ((Int32) × fl_G)) (H : Heap) (locs : List Loc) (ls : Array Slot), fP_remapAllOf_L2 n v3 v1 v2 g = some z → va_P (dC, dI) al_cl (fl_ws 32 (mc_sh ca ad) ad g) H → va_S (fl_A 32 ad) s.heap H locs → lv_has ls 4 [(3, .int v3), (0, .ref (ad 2)), (1, .int v1), (2, .int v2)] → (∀ (H : Heap) (locs : List Loc) (ls : Array Slot), va_P (dC, dI) al_cl (fl_ws 32 (mc_sh ca ad) ad z.2) H → va_S (fl_A 32 ad) s.heap H locs → lv_has ls 4 [(3, .int z.1), (0, .ref (ad 2)), (1, .int v1), (2, .int v2)] → W p l e ({ frames := 3, cells := 0, slots := 0, locals := 63 }) s m ([.ref (ad 2), .int a0, .int a1] : List Value).toArray below meth c H locs 0 0 (MQ below (fl_QV (dC, dI) al_cl 32 (mc_sh ca ad) ad g1) ([.ref (ad 2), .int a0, .int a1] : List Value).toArray s 0 0 (fl_A 32 ad)) (F0 m 35 ls [])) → W p l e ({ frames := 3, cells := 0, slots := 0, locals := 63 }) s m ([.ref (ad 2), .int a0, .int a1] : List Value).toArray below meth c H locs 0 0 (MQ below (fl_QV (dC, dI) al_cl 32 (mc_sh ca ad) ad g1) ([.ref (ad 2), .int a0, .int a1] : List Value).toArray s 0 0 (fl_A 32 ad)) (F0 m 2 ls []) := by
    intro n
    clear h hP hS hl
    induction n with
    | zero => intro v3 v1 v2 g z H locs ls h; cases h
    | succ n ih1 =>
      intro v3 v1 v2 g z H locs ls h hP hS hl K1
      have h : fP_remapAllOf_B2 (fP_remapAllOf_L2 n) v3 v1 v2 g = some z := h
      unfold fP_remapAllOf_B2 at h
      refine lv_iload_n hx hb dP_remapAllOf_2 rfl (lv_at hl 0 rfl) ?_
      refine lv_bipush (v := 24) hx hb dP_remapAllOf_3 (by decide) ?_
      refine lv_icmp_ge (tgt := 35) hx hb dP_remapAllOf_5 (by decide) (fun c2 => ?_) (fun c2 => ?_)
      · replace h := fl_pos c2 h
        cases h
        exact K1 _ _ _ hP hS (lv_sub hl [0, 1, 2, 3] rfl)
      · replace h := fl_neg c2 h
        refine lv_aload_n hx hb dP_remapAllOf_8 rfl (lv_at hl 1 rfl) ?_
        refine mc_get2 (v := .ref (ad 4)) hx hb hts mc_in2 hown hK hP (q := 2) rfl 1 (by decide) (hts _ gm_75) rfl dP_remapAllOf_9 ?_
        refine lv_iload_n hx hb dP_remapAllOf_12 rfl (lv_at hl 0 rfl) ?_
        replace h := fl_ck_some h
        obtain ⟨hi3, h⟩ := h
        refine mc_iald hx hb hK hP (q := 4) rfl hi3 dP_remapAllOf_13 ?_
        refine lv_iload_n hx hb dP_remapAllOf_14 rfl (lv_at hl 2 rfl) ?_
        refine lv_icmp_ne (tgt := 29) hx hb dP_remapAllOf_15 (by decide) (fun c4 => ?_) (fun c4 => ?_)
        · replace h := fl_neg c4 h
          refine lv_iinc (v := (v3 + 1)) (lv' := [(3, .int (v3 + 1)), (0, .ref (ad 2)), (1, .int v1), (2, .int v2)]) hx hb dP_remapAllOf_29 hl (k := 0) rfl rfl (by decide) rfl (fun ls hl => ?_)
          refine lv_goto (tgt := 2) hx hb dP_remapAllOf_32 (by decide) ?_
          exact ih1 (v3 + 1) v1 v2 _ _ _ _ _ h hP hS (lv_sub hl [0, 1, 2, 3] rfl) K1
        · replace h := fl_pos c4 h
          refine lv_aload_n hx hb dP_remapAllOf_18 rfl (lv_at hl 1 rfl) ?_
          refine lv_iload_n hx hb dP_remapAllOf_19 rfl (lv_at hl 0 rfl) ?_
          replace h := fl_bd_some h
          obtain ⟨r5, g6, hc7, h⟩ := h
          refine fl_callv (va_runV (As := [.int v3]) (rest := []) ⟨hx, hb, hml, hown, hts⟩ (cP_unmap l dC dI ca ad hI v3 hc7) (kP_unmap hts (hts _ gm_367) ⟨Nat.le_of_ble_eq_true rfl, Nat.le_of_ble_eq_true rfl⟩) (fl_preV hK hP hN (mc_lt rfl (by decide)) (mc_sh2 rfl) rfl) rfl rfl hl.1 rfl (lv_room (Nat.le_of_ble_eq_true rfl)) dP_remapAllOf_20 ⟨Nat.le_refl 0, Nat.le_refl 0⟩) hS (fun H locs hP hS => ?_)
          refine lv_aload_n hx hb dP_remapAllOf_23 rfl (lv_at hl 1 rfl) ?_
          refine lv_iload_n hx hb dP_remapAllOf_24 rfl (lv_at hl 0 rfl) ?_
          refine lv_iload_n hx hb dP_remapAllOf_25 rfl (lv_at hl 3 rfl) ?_
          replace h := fl_bd_some h
          obtain ⟨r8, g9, hc10, h⟩ := h
          refine fl_callv (va_runV (As := [.int v3, .int v2]) (rest := []) ⟨hx, hb, hml, hown, hts⟩ (cP_map l dC dI ca ad hI v3 v2 hc10) (kP_map hts (hts _ gm_196) ⟨Nat.le_of_ble_eq_true rfl, Nat.le_of_ble_eq_true rfl⟩) (fl_preV hK hP hN (mc_lt rfl (by decide)) (mc_sh2 rfl) rfl) rfl rfl hl.1 rfl (lv_room (Nat.le_of_ble_eq_true rfl)) dP_remapAllOf_26 ⟨Nat.le_refl 0, Nat.le_refl 0⟩) hS (fun H locs hP hS => ?_)
          refine lv_iinc (v := (v3 + 1)) (lv' := [(3, .int (v3 + 1)), (0, .ref (ad 2)), (1, .int v1), (2, .int v2)]) hx hb dP_remapAllOf_29 hl (k := 0) rfl rfl (by decide) rfl (fun ls hl => ?_)
          refine lv_goto (tgt := 2) hx hb dP_remapAllOf_32 (by decide) ?_
          exact ih1 (v3 + 1) v1 v2 _ _ _ _ _ h hP hS (lv_sub hl [0, 1, 2, 3] rfl) K1
  obtain ⟨r11, g12, hc13, h⟩ := fl_bd_some h
  refine loop1 1000 0 a0 a1 _ (r11, g12) _ _ _ hc13 hP hS (lv_sub hl [0, 1, 2, 3] rfl) (fun H locs ls hP hS hl => ?_)
  have hP : va_P (dC, dI) al_cl (fl_ws 32 (mc_sh ca ad) ad g12) H := hP
  have hl : lv_has ls 4 [(3, .int r11), (0, .ref (ad 2)), (1, .int a0), (2, .int a1)] := hl
  exact fl_vret hx hb hr hlocks hP hS h dP_remapAllOf_35
def yP_copy : MethodName := ⟨"MeshedSpans$Spans", "copy", "(IIII)V"⟩
def wP_copy : List Cond := .code yP_copy prog_6_method_12_code 5 none :: gw
theorem kP_copy {R : Room} {s : State} {args : Array Value} {own : String} {ix : Nat} (hts : ∀ w ∈ gw, w.before args s = true) (hl : (Cond.methodLink own ix yP_copy).before args s = true) (hR : 1 + 1 ≤ R.frames ∧ 8 + (5 + 11) + 40 ≤ R.locals) : CallW R s args own "MeshedSpans$Spans" ix yP_copy prog_6_method_12_code 5 none wP_copy { frames := 1, cells := 0, slots := 0, locals := 40 } 0 0 4 := ⟨callB_of (rm := { frames := 1, cells := 0, slots := 0, locals := 40 }) 4 hts (gw_c (ct := .code yP_copy prog_6_method_12_code 5 none) gm_429) rfl rfl rfl (hts _ gm_43) hl (by decide +kernel) hR, hts _ gm_427, hts _ gm_428⟩
theorem dP_copy_0 : decode prog_6_method_12_code 0 = .ok (.aload_n 0, 1) := by decide +kernel
theorem dP_copy_1 : decode prog_6_method_12_code 1 = .ok (.getfield 9, 3) := by decide +kernel
theorem dP_copy_4 : decode prog_6_method_12_code 4 = .ok (.iload_n 1, 1) := by decide +kernel
theorem dP_copy_5 : decode prog_6_method_12_code 5 = .ok (.bipush 16, 2) := by decide +kernel
theorem dP_copy_7 : decode prog_6_method_12_code 7 = .ok (.imul, 1) := by decide +kernel
theorem dP_copy_8 : decode prog_6_method_12_code 8 = .ok (.iload_n 3, 1) := by decide +kernel
theorem dP_copy_9 : decode prog_6_method_12_code 9 = .ok (.iadd, 1) := by decide +kernel
theorem dP_copy_10 : decode prog_6_method_12_code 10 = .ok (.aload_n 0, 1) := by decide +kernel
theorem dP_copy_11 : decode prog_6_method_12_code 11 = .ok (.getfield 9, 3) := by decide +kernel
theorem dP_copy_14 : decode prog_6_method_12_code 14 = .ok (.iload_n 2, 1) := by decide +kernel
theorem dP_copy_15 : decode prog_6_method_12_code 15 = .ok (.bipush 16, 2) := by decide +kernel
theorem dP_copy_17 : decode prog_6_method_12_code 17 = .ok (.imul, 1) := by decide +kernel
theorem dP_copy_18 : decode prog_6_method_12_code 18 = .ok (.iload_n 3, 1) := by decide +kernel
theorem dP_copy_19 : decode prog_6_method_12_code 19 = .ok (.iadd, 1) := by decide +kernel
theorem dP_copy_20 : decode prog_6_method_12_code 20 = .ok (.iload 4, 2) := by decide +kernel
theorem dP_copy_22 : decode prog_6_method_12_code 22 = .ok (.invokestatic 43, 3) := by decide +kernel
theorem dP_copy_25 : decode prog_6_method_12_code 25 = .ok (.return_, 1) := by decide +kernel
def fP_copy (a0 : Int32) (a1 : Int32) (a2 : Int32) (a3 : Int32) (g : fl_G) : Option (Unit × fl_G) :=
  fl_ck ((0 ≤ ((a0 * 16) + a2) ∧ 0 ≤ ((a1 * 16) + a2) ∧ 0 ≤ a3) ∧ (Int32.toNatClampNeg ((a0 * 16) + a2)) + (Int32.toNatClampNeg a3) ≤ 192 ∧ (Int32.toNatClampNeg ((a1 * 16) + a2)) + (Int32.toNatClampNeg a3) ≤ 192) (some ((), (fl_st g 3 (va_cpy (g 3) (g 3) (Int32.toNatClampNeg ((a0 * 16) + a2)) (Int32.toNatClampNeg ((a1 * 16) + a2)) (Int32.toNatClampNeg a3)))))
set_option maxHeartbeats 4000000 in
set_option maxRecDepth 100000 in
theorem cP_copy (l : Launch) (dC : Nat → ClassId) (dI : Nat → Nat → Nat) (ca : Nat → ClassId) (ad : Nat → Nat) (hI : fl_inj 32 ad) (a0 : Int32) (a1 : Int32) (a2 : Int32) (a3 : Int32) {g g1 : fl_G} {r : Unit} (h : fP_copy a0 a1 a2 a3 g = some (r, g1)) : Met l yP_copy wP_copy ({ frames := 1, cells := 0, slots := 0, locals := 40 }) (va_Pc [.ref (ad 2), .int a0, .int a1, .int a2, .int a3] (fl_Pre (dC, dI) al_cl 32 (mc_sh ca ad) ad (mc_ty ca) mc_ns g)) (fl_QV (dC, dI) al_cl 32 (mc_sh ca ad) ad g1) 0 0 (fl_A 32 ad) := by
  refine fl_of (cc := prog_6_method_12_code) (maxL := 5) (ret := none) (by decide) rfl (Nat.le_of_ble_eq_true rfl) ?_
  intro p e s m below meth c ls hx hb hr hml hts hown hlocks hP hK hN hl
  have hown : s.vm.findClass "MeshedSpans$Spans" = some m.cls := hown
  have hS : va_S (fl_A 32 ad) s.heap s.heap [] := va_S.rf
  have hl : lv_has ls 5 [(0, .ref (ad 2)), (1, .int a0), (2, .int a1), (3, .int a2), (4, .int a3)] := hl
  unfold fP_copy at h
  refine lv_aload_n hx hb dP_copy_0 rfl (lv_at hl 0 rfl) ?_
  refine mc_get2 (v := .ref (ad 3)) hx hb hts mc_in2 hown hK hP (q := 2) rfl 0 (by decide) (hts _ gm_74) rfl dP_copy_1 ?_
  refine lv_iload_n hx hb dP_copy_4 rfl (lv_at hl 1 rfl) ?_
  refine lv_bipush (v := 16) hx hb dP_copy_5 (by decide) ?_
  refine lv_imul hx hb dP_copy_7 ?_
  refine lv_iload_n hx hb dP_copy_8 rfl (lv_at hl 3 rfl) ?_
  refine lv_iadd hx hb dP_copy_9 ?_
  refine lv_aload_n hx hb dP_copy_10 rfl (lv_at hl 0 rfl) ?_
  refine mc_get2 (v := .ref (ad 3)) hx hb hts mc_in2 hown hK hP (q := 2) rfl 0 (by decide) (hts _ gm_74) rfl dP_copy_11 ?_
  refine lv_iload_n hx hb dP_copy_14 rfl (lv_at hl 2 rfl) ?_
  refine lv_bipush (v := 16) hx hb dP_copy_15 (by decide) ?_
  refine lv_imul hx hb dP_copy_17 ?_
  refine lv_iload_n hx hb dP_copy_18 rfl (lv_at hl 3 rfl) ?_
  refine lv_iadd hx hb dP_copy_19 ?_
  refine lv_iload hx hb dP_copy_20 (lv_at hl 4 rfl) ?_
  replace h := fl_ck_some h
  obtain ⟨hc1, h⟩ := h
  refine mc_cpi hx hb (by rw [hml]; exact hl.1.symm) hown (hts _ gm_430) (hts _ gm_432) (hts _ gm_431) (hts _ gm_49) hK hP hI hS (q0 := 3) (q1 := 3) rfl rfl hc1 (Nat.le_of_ble_eq_true rfl) (Nat.le_of_ble_eq_true rfl) dP_copy_22 (fun H locs hP hS => ?_)
  have hP : va_P (dC, dI) al_cl (fl_ws 32 (mc_sh ca ad) ad (fl_st g 3 (va_cpy (g 3) (g 3) (Int32.toNatClampNeg ((a0 * 16) + a2)) (Int32.toNatClampNeg ((a1 * 16) + a2)) (Int32.toNatClampNeg a3)))) H := hP
  exact fl_vret hx hb hr hlocks hP hS h dP_copy_25
def yP_placeOf : MethodName := ⟨"MeshedSpans$Spans", "placeOf", "(I)I"⟩
def wP_placeOf : List Cond := .code yP_placeOf prog_6_method_17_code 3 (some .int) :: gw
theorem kP_placeOf {R : Room} {s : State} {args : Array Value} {own : String} {ix : Nat} (hts : ∀ w ∈ gw, w.before args s = true) (hl : (Cond.methodLink own ix yP_placeOf).before args s = true) (hR : 1 + 1 ≤ R.frames ∧ 8 + (3 + 11) + 20 ≤ R.locals) : CallW R s args own "MeshedSpans$Spans" ix yP_placeOf prog_6_method_17_code 3 (some .int) wP_placeOf { frames := 1, cells := 0, slots := 0, locals := 20 } 0 0 1 := ⟨callB_of (rm := { frames := 1, cells := 0, slots := 0, locals := 20 }) 1 hts (gw_c (ct := .code yP_placeOf prog_6_method_17_code 3 (some .int)) gm_306) rfl rfl rfl (hts _ gm_43) hl (by decide +kernel) hR, hts _ gm_305, hts _ gm_8⟩
theorem dP_placeOf_0 : decode prog_6_method_17_code 0 = .ok (.iload_n 1, 1) := by decide +kernel
theorem dP_placeOf_1 : decode prog_6_method_17_code 1 = .ok (.invokestatic 52, 3) := by decide +kernel
theorem dP_placeOf_4 : decode prog_6_method_17_code 4 = .ok (.ifCond .eq 15, 3) := by decide +kernel
theorem dP_placeOf_7 : decode prog_6_method_17_code 7 = .ok (.aload_n 0, 1) := by decide +kernel
theorem dP_placeOf_8 : decode prog_6_method_17_code 8 = .ok (.getfield 15, 3) := by decide +kernel
theorem dP_placeOf_11 : decode prog_6_method_17_code 11 = .ok (.iload_n 1, 1) := by decide +kernel
theorem dP_placeOf_12 : decode prog_6_method_17_code 12 = .ok (.bipush 16, 2) := by decide +kernel
theorem dP_placeOf_14 : decode prog_6_method_17_code 14 = .ok (.idiv, 1) := by decide +kernel
theorem dP_placeOf_15 : decode prog_6_method_17_code 15 = .ok (.iaload, 1) := by decide +kernel
theorem dP_placeOf_16 : decode prog_6_method_17_code 16 = .ok (.goto 4, 3) := by decide +kernel
theorem dP_placeOf_19 : decode prog_6_method_17_code 19 = .ok (.iconst (-1), 1) := by decide +kernel
theorem dP_placeOf_20 : decode prog_6_method_17_code 20 = .ok (.istore_n 2, 1) := by decide +kernel
theorem dP_placeOf_21 : decode prog_6_method_17_code 21 = .ok (.iload_n 2, 1) := by decide +kernel
theorem dP_placeOf_22 : decode prog_6_method_17_code 22 = .ok (.iconst (-1), 1) := by decide +kernel
theorem dP_placeOf_23 : decode prog_6_method_17_code 23 = .ok (.if_icmp .ne 7, 3) := by decide +kernel
theorem dP_placeOf_26 : decode prog_6_method_17_code 26 = .ok (.iconst (-1), 1) := by decide +kernel
theorem dP_placeOf_27 : decode prog_6_method_17_code 27 = .ok (.goto 12, 3) := by decide +kernel
theorem dP_placeOf_30 : decode prog_6_method_17_code 30 = .ok (.iload_n 2, 1) := by decide +kernel
theorem dP_placeOf_31 : decode prog_6_method_17_code 31 = .ok (.bipush 16, 2) := by decide +kernel
theorem dP_placeOf_33 : decode prog_6_method_17_code 33 = .ok (.imul, 1) := by decide +kernel
theorem dP_placeOf_34 : decode prog_6_method_17_code 34 = .ok (.iload_n 1, 1) := by decide +kernel
theorem dP_placeOf_35 : decode prog_6_method_17_code 35 = .ok (.bipush 16, 2) := by decide +kernel
theorem dP_placeOf_37 : decode prog_6_method_17_code 37 = .ok (.irem, 1) := by decide +kernel
theorem dP_placeOf_38 : decode prog_6_method_17_code 38 = .ok (.iadd, 1) := by decide +kernel
theorem dP_placeOf_39 : decode prog_6_method_17_code 39 = .ok (.ireturn, 1) := by decide +kernel
def fP_placeOf (a0 : Int32) (g : fl_G) : Option (Int32 × fl_G) :=
  fl_bd (fS_isAddress a0 g) (fun r1 g2 => if r1 = 0 then (some ((-1), g2)) else (fl_ck (fl_in (a0 / 16) 24) (if (g2 4 (Int32.toNatClampNeg (a0 / 16))) = (-1) then (some ((-1), g2)) else (some ((((g2 4 (Int32.toNatClampNeg (a0 / 16))) * 16) + (fl_rem a0 16)), g2)))))
set_option maxHeartbeats 4000000 in
set_option maxRecDepth 100000 in
theorem cP_placeOf (l : Launch) (dC : Nat → ClassId) (dI : Nat → Nat → Nat) (ca : Nat → ClassId) (ad : Nat → Nat) (hI : fl_inj 32 ad) (a0 : Int32) {g g1 : fl_G} {r : Int32} (h : fP_placeOf a0 g = some (r, g1)) : Met l yP_placeOf wP_placeOf ({ frames := 1, cells := 0, slots := 0, locals := 20 }) (va_Pc [.ref (ad 2), .int a0] (fl_Pre (dC, dI) al_cl 32 (mc_sh ca ad) ad (mc_ty ca) mc_ns g)) (fl_QI (dC, dI) al_cl 32 (mc_sh ca ad) ad r g1) 0 0 (fl_A 32 ad) := by
  refine fl_of (cc := prog_6_method_17_code) (maxL := 3) (ret := (some .int)) (by decide) rfl (Nat.le_of_ble_eq_true rfl) ?_
  intro p e s m below meth c ls hx hb hr hml hts hown hlocks hP hK hN hl
  have hown : s.vm.findClass "MeshedSpans$Spans" = some m.cls := hown
  have hS : va_S (fl_A 32 ad) s.heap s.heap [] := va_S.rf
  have hl : lv_has ls 3 [(0, .ref (ad 2)), (1, .int a0)] := hl
  unfold fP_placeOf at h
  refine lv_iload_n hx hb dP_placeOf_0 rfl (lv_at hl 1 rfl) ?_
  replace h := fl_bd_some h
  obtain ⟨r1, g2, hc3, h⟩ := h
  refine fl_calli (va_runSN (As := [.int a0]) (rest := []) ⟨hx, hb, hml, hown, hts⟩ (cS_isAddress l dC dI ca ad hI a0 hc3) (kS_isAddress_N hts (hN.use _ nm_11) ⟨Nat.le_of_ble_eq_true rfl, Nat.le_of_ble_eq_true rfl⟩) (fl_preS hK hP hN) rfl rfl hl.1 rfl (lv_room (Nat.le_of_ble_eq_true rfl)) dP_placeOf_1 ⟨Nat.le_refl 0, Nat.le_refl 0⟩) hS (fun H locs hP hS => ?_)
  refine lv_if_eq (tgt := 19) hx hb dP_placeOf_4 (by decide) (fun c4 => ?_) (fun c4 => ?_)
  · replace h := fl_pos c4 h
    refine lv_iconst (v := (-1)) hx hb dP_placeOf_19 (by decide) ?_
    refine lv_istore_n (lv' := [(2, .int (-1)), (0, .ref (ad 2)), (1, .int a0)]) hx hb dP_placeOf_20 rfl hl (by decide) rfl (fun ls hl => ?_)
    refine lv_iload_n hx hb dP_placeOf_21 rfl (lv_at hl 0 rfl) ?_
    refine lv_iconst (v := (-1)) hx hb dP_placeOf_22 (by decide) ?_
    refine lv_icmp_ne (tgt := 30) hx hb dP_placeOf_23 (by decide) (fun c5 => ?_) (fun c5 => ?_)
    · exact absurd (by decide) c5
    · refine lv_iconst (v := (-1)) hx hb dP_placeOf_26 (by decide) ?_
      refine lv_goto (tgt := 39) hx hb dP_placeOf_27 (by decide) ?_
      exact fl_iret hx hb hr hlocks hP hS h dP_placeOf_39
  · replace h := fl_neg c4 h
    refine lv_aload_n hx hb dP_placeOf_7 rfl (lv_at hl 0 rfl) ?_
    refine mc_get2 (v := .ref (ad 4)) hx hb hts mc_in2 hown hK hP (q := 2) rfl 1 (by decide) (hts _ gm_75) rfl dP_placeOf_8 ?_
    refine lv_iload_n hx hb dP_placeOf_11 rfl (lv_at hl 1 rfl) ?_
    refine lv_bipush (v := 16) hx hb dP_placeOf_12 (by decide) ?_
    refine lv_idiv hx hb dP_placeOf_14 (by decide) ?_
    replace h := fl_ck_some h
    obtain ⟨hi6, h⟩ := h
    refine mc_iald hx hb hK hP (q := 4) rfl hi6 dP_placeOf_15 ?_
    refine lv_goto (tgt := 20) hx hb dP_placeOf_16 (by decide) ?_
    refine lv_istore_n (lv' := [(2, .int (g2 4 (Int32.toNatClampNeg (a0 / 16)))), (0, .ref (ad 2)), (1, .int a0)]) hx hb dP_placeOf_20 rfl hl (by decide) rfl (fun ls hl => ?_)
    refine lv_iload_n hx hb dP_placeOf_21 rfl (lv_at hl 0 rfl) ?_
    refine lv_iconst (v := (-1)) hx hb dP_placeOf_22 (by decide) ?_
    refine lv_icmp_ne (tgt := 30) hx hb dP_placeOf_23 (by decide) (fun c7 => ?_) (fun c7 => ?_)
    · replace h := fl_neg c7 h
      refine lv_iload_n hx hb dP_placeOf_30 rfl (lv_at hl 0 rfl) ?_
      refine lv_bipush (v := 16) hx hb dP_placeOf_31 (by decide) ?_
      refine lv_imul hx hb dP_placeOf_33 ?_
      refine lv_iload_n hx hb dP_placeOf_34 rfl (lv_at hl 2 rfl) ?_
      refine lv_bipush (v := 16) hx hb dP_placeOf_35 (by decide) ?_
      refine lv_irem hx hb dP_placeOf_37 (by decide) ?_
      refine lv_iadd hx hb dP_placeOf_38 ?_
      exact fl_iret hx hb hr hlocks hP hS h dP_placeOf_39
    · replace h := fl_pos c7 h
      refine lv_iconst (v := (-1)) hx hb dP_placeOf_26 (by decide) ?_
      refine lv_goto (tgt := 39) hx hb dP_placeOf_27 (by decide) ?_
      exact fl_iret hx hb hr hlocks hP hS h dP_placeOf_39
def yP_clear : MethodName := ⟨"MeshedSpans$Spans", "clear", "(II)V"⟩
def wP_clear : List Cond := .code yP_clear prog_6_method_13_code 3 none :: gw
theorem kP_clear {R : Room} {s : State} {args : Array Value} {own : String} {ix : Nat} (hts : ∀ w ∈ gw, w.before args s = true) (hl : (Cond.methodLink own ix yP_clear).before args s = true) (hR : 2 + 1 ≤ R.frames ∧ 8 + (3 + 11) + 42 ≤ R.locals) : CallW R s args own "MeshedSpans$Spans" ix yP_clear prog_6_method_13_code 3 none wP_clear { frames := 2, cells := 0, slots := 0, locals := 42 } 0 0 2 := ⟨callB_of (rm := { frames := 2, cells := 0, slots := 0, locals := 42 }) 2 hts (gw_c (ct := .code yP_clear prog_6_method_13_code 3 none) gm_303) rfl rfl rfl (hts _ gm_43) hl (by decide +kernel) hR, hts _ gm_301, hts _ gm_302⟩
theorem dP_clear_0 : decode prog_6_method_13_code 0 = .ok (.aload_n 0, 1) := by decide +kernel
theorem dP_clear_1 : decode prog_6_method_13_code 1 = .ok (.aload_n 0, 1) := by decide +kernel
theorem dP_clear_2 : decode prog_6_method_13_code 2 = .ok (.iload_n 1, 1) := by decide +kernel
theorem dP_clear_3 : decode prog_6_method_13_code 3 = .ok (.invokevirtual 49, 3) := by decide +kernel
theorem dP_clear_6 : decode prog_6_method_13_code 6 = .ok (.iload_n 2, 1) := by decide +kernel
theorem dP_clear_7 : decode prog_6_method_13_code 7 = .ok (.invokevirtual 32, 3) := by decide +kernel
theorem dP_clear_10 : decode prog_6_method_13_code 10 = .ok (.return_, 1) := by decide +kernel
def fP_clear (a0 : Int32) (a1 : Int32) (g : fl_G) : Option (Unit × fl_G) :=
  fl_bd (fP_placeOf a0 g) (fun r1 g2 => fl_bd (fP_clearPlaces r1 a1 g2) (fun r4 g5 => some ((), g5)))
set_option maxHeartbeats 4000000 in
set_option maxRecDepth 100000 in
theorem cP_clear (l : Launch) (dC : Nat → ClassId) (dI : Nat → Nat → Nat) (ca : Nat → ClassId) (ad : Nat → Nat) (hI : fl_inj 32 ad) (a0 : Int32) (a1 : Int32) {g g1 : fl_G} {r : Unit} (h : fP_clear a0 a1 g = some (r, g1)) : Met l yP_clear wP_clear ({ frames := 2, cells := 0, slots := 0, locals := 42 }) (va_Pc [.ref (ad 2), .int a0, .int a1] (fl_Pre (dC, dI) al_cl 32 (mc_sh ca ad) ad (mc_ty ca) mc_ns g)) (fl_QV (dC, dI) al_cl 32 (mc_sh ca ad) ad g1) 0 0 (fl_A 32 ad) := by
  refine fl_of (cc := prog_6_method_13_code) (maxL := 3) (ret := none) (by decide) rfl (Nat.le_of_ble_eq_true rfl) ?_
  intro p e s m below meth c ls hx hb hr hml hts hown hlocks hP hK hN hl
  have hown : s.vm.findClass "MeshedSpans$Spans" = some m.cls := hown
  have hS : va_S (fl_A 32 ad) s.heap s.heap [] := va_S.rf
  have hl : lv_has ls 3 [(0, .ref (ad 2)), (1, .int a0), (2, .int a1)] := hl
  unfold fP_clear at h
  refine lv_aload_n hx hb dP_clear_0 rfl (lv_at hl 0 rfl) ?_
  refine lv_aload_n hx hb dP_clear_1 rfl (lv_at hl 0 rfl) ?_
  refine lv_iload_n hx hb dP_clear_2 rfl (lv_at hl 1 rfl) ?_
  replace h := fl_bd_some h
  obtain ⟨r1, g2, hc3, h⟩ := h
  refine fl_calli (va_runV (As := [.int a0]) (rest := [.ref (ad 2)]) ⟨hx, hb, hml, hown, hts⟩ (cP_placeOf l dC dI ca ad hI a0 hc3) (kP_placeOf hts (hts _ gm_304) ⟨Nat.le_of_ble_eq_true rfl, Nat.le_of_ble_eq_true rfl⟩) (fl_preV hK hP hN (mc_lt rfl (by decide)) (mc_sh2 rfl) rfl) rfl rfl hl.1 rfl (lv_room (Nat.le_of_ble_eq_true rfl)) dP_clear_3 ⟨Nat.le_refl 0, Nat.le_refl 0⟩) hS (fun H locs hP hS => ?_)
  refine lv_iload_n hx hb dP_clear_6 rfl (lv_at hl 2 rfl) ?_
  replace h := fl_bd_some h
  obtain ⟨r4, g5, hc6, h⟩ := h
  refine fl_callv (va_runV (As := [.int r1, .int a1]) (rest := []) ⟨hx, hb, hml, hown, hts⟩ (cP_clearPlaces l dC dI ca ad hI r1 a1 hc6) (kP_clearPlaces hts (hts _ gm_203) ⟨Nat.le_of_ble_eq_true rfl, Nat.le_of_ble_eq_true rfl⟩) (fl_preV hK hP hN (mc_lt rfl (by decide)) (mc_sh2 rfl) rfl) rfl rfl hl.1 rfl (lv_room (Nat.le_of_ble_eq_true rfl)) dP_clear_7 ⟨Nat.le_refl 0, Nat.le_refl 0⟩) hS (fun H locs hP hS => ?_)
  exact fl_vret hx hb hr hlocks hP hS h dP_clear_10
def yP_read : MethodName := ⟨"MeshedSpans$Spans", "read", "(I)I"⟩
def wP_read : List Cond := .code yP_read prog_6_method_15_code 3 (some .int) :: gw
theorem kP_read {R : Room} {s : State} {args : Array Value} {own : String} {ix : Nat} (hts : ∀ w ∈ gw, w.before args s = true) (hl : (Cond.methodLink own ix yP_read).before args s = true) (hR : 2 + 1 ≤ R.frames ∧ 8 + (3 + 11) + 42 ≤ R.locals) : CallW R s args own "MeshedSpans$Spans" ix yP_read prog_6_method_15_code 3 (some .int) wP_read { frames := 2, cells := 0, slots := 0, locals := 42 } 0 0 1 := ⟨callB_of (rm := { frames := 2, cells := 0, slots := 0, locals := 42 }) 1 hts (gw_c (ct := .code yP_read prog_6_method_15_code 3 (some .int)) gm_388) rfl rfl rfl (hts _ gm_43) hl (by decide +kernel) hR, hts _ gm_386, hts _ gm_387⟩
theorem dP_read_0 : decode prog_6_method_15_code 0 = .ok (.aload_n 0, 1) := by decide +kernel
theorem dP_read_1 : decode prog_6_method_15_code 1 = .ok (.iload_n 1, 1) := by decide +kernel
theorem dP_read_2 : decode prog_6_method_15_code 2 = .ok (.invokevirtual 49, 3) := by decide +kernel
theorem dP_read_5 : decode prog_6_method_15_code 5 = .ok (.istore_n 2, 1) := by decide +kernel
theorem dP_read_6 : decode prog_6_method_15_code 6 = .ok (.iload_n 2, 1) := by decide +kernel
theorem dP_read_7 : decode prog_6_method_15_code 7 = .ok (.iconst (-1), 1) := by decide +kernel
theorem dP_read_8 : decode prog_6_method_15_code 8 = .ok (.if_icmp .ne 7, 3) := by decide +kernel
theorem dP_read_11 : decode prog_6_method_15_code 11 = .ok (.iconst 0, 1) := by decide +kernel
theorem dP_read_12 : decode prog_6_method_15_code 12 = .ok (.goto 9, 3) := by decide +kernel
theorem dP_read_15 : decode prog_6_method_15_code 15 = .ok (.aload_n 0, 1) := by decide +kernel
theorem dP_read_16 : decode prog_6_method_15_code 16 = .ok (.getfield 9, 3) := by decide +kernel
theorem dP_read_19 : decode prog_6_method_15_code 19 = .ok (.iload_n 2, 1) := by decide +kernel
theorem dP_read_20 : decode prog_6_method_15_code 20 = .ok (.iaload, 1) := by decide +kernel
theorem dP_read_21 : decode prog_6_method_15_code 21 = .ok (.ireturn, 1) := by decide +kernel
def fP_read (a0 : Int32) (g : fl_G) : Option (Int32 × fl_G) :=
  fl_bd (fP_placeOf a0 g) (fun r1 g2 => if r1 = (-1) then (some (0, g2)) else (fl_ck (fl_in r1 192) (some ((g2 3 (Int32.toNatClampNeg r1)), g2))))
set_option maxHeartbeats 4000000 in
set_option maxRecDepth 100000 in
theorem cP_read (l : Launch) (dC : Nat → ClassId) (dI : Nat → Nat → Nat) (ca : Nat → ClassId) (ad : Nat → Nat) (hI : fl_inj 32 ad) (a0 : Int32) {g g1 : fl_G} {r : Int32} (h : fP_read a0 g = some (r, g1)) : Met l yP_read wP_read ({ frames := 2, cells := 0, slots := 0, locals := 42 }) (va_Pc [.ref (ad 2), .int a0] (fl_Pre (dC, dI) al_cl 32 (mc_sh ca ad) ad (mc_ty ca) mc_ns g)) (fl_QI (dC, dI) al_cl 32 (mc_sh ca ad) ad r g1) 0 0 (fl_A 32 ad) := by
  refine fl_of (cc := prog_6_method_15_code) (maxL := 3) (ret := (some .int)) (by decide) rfl (Nat.le_of_ble_eq_true rfl) ?_
  intro p e s m below meth c ls hx hb hr hml hts hown hlocks hP hK hN hl
  have hown : s.vm.findClass "MeshedSpans$Spans" = some m.cls := hown
  have hS : va_S (fl_A 32 ad) s.heap s.heap [] := va_S.rf
  have hl : lv_has ls 3 [(0, .ref (ad 2)), (1, .int a0)] := hl
  unfold fP_read at h
  refine lv_aload_n hx hb dP_read_0 rfl (lv_at hl 0 rfl) ?_
  refine lv_iload_n hx hb dP_read_1 rfl (lv_at hl 1 rfl) ?_
  replace h := fl_bd_some h
  obtain ⟨r1, g2, hc3, h⟩ := h
  refine fl_calli (va_runV (As := [.int a0]) (rest := []) ⟨hx, hb, hml, hown, hts⟩ (cP_placeOf l dC dI ca ad hI a0 hc3) (kP_placeOf hts (hts _ gm_304) ⟨Nat.le_of_ble_eq_true rfl, Nat.le_of_ble_eq_true rfl⟩) (fl_preV hK hP hN (mc_lt rfl (by decide)) (mc_sh2 rfl) rfl) rfl rfl hl.1 rfl (lv_room (Nat.le_of_ble_eq_true rfl)) dP_read_2 ⟨Nat.le_refl 0, Nat.le_refl 0⟩) hS (fun H locs hP hS => ?_)
  refine lv_istore_n (lv' := [(2, .int r1), (0, .ref (ad 2)), (1, .int a0)]) hx hb dP_read_5 rfl hl (by decide) rfl (fun ls hl => ?_)
  refine lv_iload_n hx hb dP_read_6 rfl (lv_at hl 0 rfl) ?_
  refine lv_iconst (v := (-1)) hx hb dP_read_7 (by decide) ?_
  refine lv_icmp_ne (tgt := 15) hx hb dP_read_8 (by decide) (fun c4 => ?_) (fun c4 => ?_)
  · replace h := fl_neg c4 h
    refine lv_aload_n hx hb dP_read_15 rfl (lv_at hl 1 rfl) ?_
    refine mc_get2 (v := .ref (ad 3)) hx hb hts mc_in2 hown hK hP (q := 2) rfl 0 (by decide) (hts _ gm_74) rfl dP_read_16 ?_
    refine lv_iload_n hx hb dP_read_19 rfl (lv_at hl 0 rfl) ?_
    replace h := fl_ck_some h
    obtain ⟨hi5, h⟩ := h
    refine mc_iald hx hb hK hP (q := 3) rfl hi5 dP_read_20 ?_
    exact fl_iret hx hb hr hlocks hP hS h dP_read_21
  · replace h := fl_pos c4 h
    refine lv_iconst (v := 0) hx hb dP_read_11 (by decide) ?_
    refine lv_goto (tgt := 21) hx hb dP_read_12 (by decide) ?_
    exact fl_iret hx hb hr hlocks hP hS h dP_read_21
def yP_write : MethodName := ⟨"MeshedSpans$Spans", "write", "(II)V"⟩
def wP_write : List Cond := .code yP_write prog_6_method_16_code 4 none :: gw
theorem kP_write {R : Room} {s : State} {args : Array Value} {own : String} {ix : Nat} (hts : ∀ w ∈ gw, w.before args s = true) (hl : (Cond.methodLink own ix yP_write).before args s = true) (hR : 2 + 1 ≤ R.frames ∧ 8 + (4 + 11) + 42 ≤ R.locals) : CallW R s args own "MeshedSpans$Spans" ix yP_write prog_6_method_16_code 4 none wP_write { frames := 2, cells := 0, slots := 0, locals := 42 } 0 0 2 := ⟨callB_of (rm := { frames := 2, cells := 0, slots := 0, locals := 42 }) 2 hts (gw_c (ct := .code yP_write prog_6_method_16_code 4 none) gm_397) rfl rfl rfl (hts _ gm_43) hl (by decide +kernel) hR, hts _ gm_395, hts _ gm_396⟩
theorem dP_write_0 : decode prog_6_method_16_code 0 = .ok (.aload_n 0, 1) := by decide +kernel
theorem dP_write_1 : decode prog_6_method_16_code 1 = .ok (.iload_n 1, 1) := by decide +kernel
theorem dP_write_2 : decode prog_6_method_16_code 2 = .ok (.invokevirtual 49, 3) := by decide +kernel
theorem dP_write_5 : decode prog_6_method_16_code 5 = .ok (.istore_n 3, 1) := by decide +kernel
theorem dP_write_6 : decode prog_6_method_16_code 6 = .ok (.iload_n 3, 1) := by decide +kernel
theorem dP_write_7 : decode prog_6_method_16_code 7 = .ok (.iconst (-1), 1) := by decide +kernel
theorem dP_write_8 : decode prog_6_method_16_code 8 = .ok (.if_icmp .eq 10, 3) := by decide +kernel
theorem dP_write_11 : decode prog_6_method_16_code 11 = .ok (.aload_n 0, 1) := by decide +kernel
theorem dP_write_12 : decode prog_6_method_16_code 12 = .ok (.getfield 9, 3) := by decide +kernel
theorem dP_write_15 : decode prog_6_method_16_code 15 = .ok (.iload_n 3, 1) := by decide +kernel
theorem dP_write_16 : decode prog_6_method_16_code 16 = .ok (.iload_n 2, 1) := by decide +kernel
theorem dP_write_17 : decode prog_6_method_16_code 17 = .ok (.iastore, 1) := by decide +kernel
theorem dP_write_18 : decode prog_6_method_16_code 18 = .ok (.return_, 1) := by decide +kernel
def fP_write (a0 : Int32) (a1 : Int32) (g : fl_G) : Option (Unit × fl_G) :=
  fl_bd (fP_placeOf a0 g) (fun r1 g2 => if r1 = (-1) then (some ((), g2)) else (fl_ck (fl_in r1 192) (some ((), (fl_up g2 3 (Int32.toNatClampNeg r1) a1)))))
set_option maxHeartbeats 4000000 in
set_option maxRecDepth 100000 in
theorem cP_write (l : Launch) (dC : Nat → ClassId) (dI : Nat → Nat → Nat) (ca : Nat → ClassId) (ad : Nat → Nat) (hI : fl_inj 32 ad) (a0 : Int32) (a1 : Int32) {g g1 : fl_G} {r : Unit} (h : fP_write a0 a1 g = some (r, g1)) : Met l yP_write wP_write ({ frames := 2, cells := 0, slots := 0, locals := 42 }) (va_Pc [.ref (ad 2), .int a0, .int a1] (fl_Pre (dC, dI) al_cl 32 (mc_sh ca ad) ad (mc_ty ca) mc_ns g)) (fl_QV (dC, dI) al_cl 32 (mc_sh ca ad) ad g1) 0 0 (fl_A 32 ad) := by
  refine fl_of (cc := prog_6_method_16_code) (maxL := 4) (ret := none) (by decide) rfl (Nat.le_of_ble_eq_true rfl) ?_
  intro p e s m below meth c ls hx hb hr hml hts hown hlocks hP hK hN hl
  have hown : s.vm.findClass "MeshedSpans$Spans" = some m.cls := hown
  have hS : va_S (fl_A 32 ad) s.heap s.heap [] := va_S.rf
  have hl : lv_has ls 4 [(0, .ref (ad 2)), (1, .int a0), (2, .int a1)] := hl
  unfold fP_write at h
  refine lv_aload_n hx hb dP_write_0 rfl (lv_at hl 0 rfl) ?_
  refine lv_iload_n hx hb dP_write_1 rfl (lv_at hl 1 rfl) ?_
  replace h := fl_bd_some h
  obtain ⟨r1, g2, hc3, h⟩ := h
  refine fl_calli (va_runV (As := [.int a0]) (rest := []) ⟨hx, hb, hml, hown, hts⟩ (cP_placeOf l dC dI ca ad hI a0 hc3) (kP_placeOf hts (hts _ gm_304) ⟨Nat.le_of_ble_eq_true rfl, Nat.le_of_ble_eq_true rfl⟩) (fl_preV hK hP hN (mc_lt rfl (by decide)) (mc_sh2 rfl) rfl) rfl rfl hl.1 rfl (lv_room (Nat.le_of_ble_eq_true rfl)) dP_write_2 ⟨Nat.le_refl 0, Nat.le_refl 0⟩) hS (fun H locs hP hS => ?_)
  refine lv_istore_n (lv' := [(3, .int r1), (0, .ref (ad 2)), (1, .int a0), (2, .int a1)]) hx hb dP_write_5 rfl hl (by decide) rfl (fun ls hl => ?_)
  refine lv_iload_n hx hb dP_write_6 rfl (lv_at hl 0 rfl) ?_
  refine lv_iconst (v := (-1)) hx hb dP_write_7 (by decide) ?_
  refine lv_icmp_eq (tgt := 18) hx hb dP_write_8 (by decide) (fun c4 => ?_) (fun c4 => ?_)
  · replace h := fl_pos c4 h
    exact fl_vret hx hb hr hlocks hP hS h dP_write_18
  · replace h := fl_neg c4 h
    refine lv_aload_n hx hb dP_write_11 rfl (lv_at hl 1 rfl) ?_
    refine mc_get2 (v := .ref (ad 3)) hx hb hts mc_in2 hown hK hP (q := 2) rfl 0 (by decide) (hts _ gm_74) rfl dP_write_12 ?_
    refine lv_iload_n hx hb dP_write_15 rfl (lv_at hl 0 rfl) ?_
    refine lv_iload_n hx hb dP_write_16 rfl (lv_at hl 3 rfl) ?_
    replace h := fl_ck_some h
    obtain ⟨hi5, h⟩ := h
    refine mc_iast hx hb hK hP hI hS (q := 3) rfl hi5 dP_write_17 (fun H locs hP hS => ?_)
    have hP : va_P (dC, dI) al_cl (fl_ws 32 (mc_sh ca ad) ad (fl_up g2 3 (Int32.toNatClampNeg r1) a1)) H := hP
    exact fl_vret hx hb hr hlocks hP hS h dP_write_18
