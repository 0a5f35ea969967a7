def yB_mark : MethodName := ⟨"MeshedSpans$Blocks", "mark", "(IIZ)V"⟩
def wB_mark : List Cond := .code yB_mark prog_3_method_4_code 5 none :: gw
theorem kB_mark {R : Room} {s : State} {args : Array Value} {own : String} {ix : Nat} (hts : ∀ w ∈ gw, w.before args s = true) (hl : (Cond.methodLink own ix yB_mark).before args s = true) (hR : 0 + 1 ≤ R.frames ∧ 8 + (5 + 11) + 0 ≤ R.locals) : CallW R s args own "MeshedSpans$Blocks" ix yB_mark prog_3_method_4_code 5 none wB_mark { frames := 0, cells := 0, slots := 0, locals := 0 } 0 0 3 := ⟨callB_of (rm := { frames := 0, cells := 0, slots := 0, locals := 0 }) 3 hts (gw_c (ct := .code yB_mark prog_3_method_4_code 5 none) gm_214) rfl rfl rfl (hts _ gm_44) hl (by decide +kernel) hR, hts _ gm_213, hts _ gm_3⟩
theorem dB_mark_0 : decode prog_3_method_4_code 0 = .ok (.iload_n 1, 1) := by decide +kernel
theorem dB_mark_1 : decode prog_3_method_4_code 1 = .ok (.istore 4, 2) := by decide +kernel
theorem dB_mark_3 : decode prog_3_method_4_code 3 = .ok (.iload 4, 2) := by decide +kernel
theorem dB_mark_5 : decode prog_3_method_4_code 5 = .ok (.iload_n 1, 1) := by decide +kernel
theorem dB_mark_6 : decode prog_3_method_4_code 6 = .ok (.iload_n 2, 1) := by decide +kernel
theorem dB_mark_7 : decode prog_3_method_4_code 7 = .ok (.iadd, 1) := by decide +kernel
theorem dB_mark_8 : decode prog_3_method_4_code 8 = .ok (.if_icmp .ge 25, 3) := by decide +kernel
theorem dB_mark_11 : decode prog_3_method_4_code 11 = .ok (.iload 4, 2) := by decide +kernel
theorem dB_mark_13 : decode prog_3_method_4_code 13 = .ok (.sipush 384, 3) := by decide +kernel
theorem dB_mark_16 : decode prog_3_method_4_code 16 = .ok (.if_icmp .ge 17, 3) := by decide +kernel
theorem dB_mark_19 : decode prog_3_method_4_code 19 = .ok (.aload_n 0, 1) := by decide +kernel
theorem dB_mark_20 : decode prog_3_method_4_code 20 = .ok (.getfield 15, 3) := by decide +kernel
theorem dB_mark_23 : decode prog_3_method_4_code 23 = .ok (.iload 4, 2) := by decide +kernel
theorem dB_mark_25 : decode prog_3_method_4_code 25 = .ok (.iload_n 3, 1) := by decide +kernel
theorem dB_mark_26 : decode prog_3_method_4_code 26 = .ok (.bastore, 1) := by decide +kernel
theorem dB_mark_27 : decode prog_3_method_4_code 27 = .ok (.iinc 4 1, 3) := by decide +kernel
theorem dB_mark_30 : decode prog_3_method_4_code 30 = .ok (.goto (-27), 3) := by decide +kernel
theorem dB_mark_33 : decode prog_3_method_4_code 33 = .ok (.return_, 1) := by decide +kernel
def fB_mark_B3 (rec : Int32 → Int32 → Int32 → Int32 → fl_G → Option ((Int32) × fl_G)) (v4 : Int32) (v1 : Int32) (v2 : Int32) (v3 : Int32) (g : fl_G) : Option ((Int32) × fl_G) :=
  if (v1 + v2) ≤ v4 then (some (v4, g)) else (if 384 ≤ v4 then (some (v4, g)) else (fl_ck (fl_in v4 384) (rec (v4 + 1) v1 v2 v3 (fl_up g 8 (Int32.toNatClampNeg v4) (v3 &&& 1)))))
def fB_mark_L3 : Nat → Int32 → Int32 → Int32 → Int32 → fl_G → Option ((Int32) × fl_G)
  | 0, _, _, _, _, _ => none
  | n + 1, v4, v1, v2, v3, g => fB_mark_B3 (fB_mark_L3 n) v4 v1 v2 v3 g
def fB_mark (a0 : Int32) (a1 : Int32) (a2 : Int32) (g : fl_G) : Option (Unit × fl_G) :=
  fl_bd (fB_mark_L3 1000 a0 a0 a1 a2 g) (fun r5 g6 => some ((), g6))
set_option maxHeartbeats 4000000 in
set_option maxRecDepth 100000 in
theorem cB_mark (l : Launch) (dC : Nat → ClassId) (dI : Nat → Nat → Nat) (ca : Nat → ClassId) (ad : Nat → Nat) (hI : fl_inj 32 ad) (a0 : Int32) (a1 : Int32) (a2 : Int32) {g g1 : fl_G} {r : Unit} (h : fB_mark a0 a1 a2 g = some (r, g1)) : Met l yB_mark wB_mark ({ frames := 0, cells := 0, slots := 0, locals := 0 }) (va_Pc [.ref (ad 6), .int a0, .int a1, .int a2] (fl_Pre (dC, dI) al_cl 32 (mc_sh ca ad) ad (mc_ty ca) mc_ns g)) (fl_QV (dC, dI) al_cl 32 (mc_sh ca ad) ad g1) 0 0 (fl_A 32 ad) := by
  refine fl_of (cc := prog_3_method_4_code) (maxL := 5) (ret := none) (by decide) rfl (Nat.le_of_ble_eq_true rfl) ?_
  intro p e s m below meth c ls hx hb hr hml hts hown hlocks hP hK hN hl
  have hown : s.vm.findClass "MeshedSpans$Blocks" = some m.cls := hown
  have hS : va_S (fl_A 32 ad) s.heap s.heap [] := va_S.rf
  have hl : lv_has ls 5 [(0, .ref (ad 6)), (1, .int a0), (2, .int a1), (3, .int a2)] := hl
  unfold fB_mark at h
  refine lv_iload_n hx hb dB_mark_0 rfl (lv_at hl 1 rfl) ?_
  refine lv_istore (lv' := [(4, .int a0), (0, .ref (ad 6)), (1, .int a0), (2, .int a1), (3, .int a2)]) hx hb dB_mark_1 hl (by decide) rfl (fun ls hl => ?_)
  have loop1 : ∀ (n : Nat) (v4 : Int32) (v1 : Int32) (v2 : Int32) (v3 : Int32) (g : fl_G) (z : ((Int32) × fl_G)) (H : Heap) (locs : List Loc) (ls : Array Slot), fB_mark_L3 n v4 v1 v2 v3 g = some z → va_P (dC, dI) al_cl (fl_ws 32 (mc_sh ca ad) ad g) H → va_S (fl_A 32 ad) s.heap H locs → lv_has ls 5 [(4, .int v4), (0, .ref (ad 6)), (1, .int v1), (2, .int v2), (3, .int v3)] → (∀ (H : Heap) (locs : List Loc) (ls : Array Slot), va_P (dC, dI) al_cl (fl_ws 32 (mc_sh ca ad) ad z.2) H → va_S (fl_A 32 ad) s.heap H locs → lv_has ls 5 [(4, .int z.1), (0, .ref (ad 6)), (1, .int v1), (2, .int v2), (3, .int v3)] → W p l e ({ frames := 0, cells := 0, slots := 0, locals := 0 }) s m ([.ref (ad 6), .int a0, .int a1, .int a2] : List Value).toArray below meth c H locs 0 0 (MQ below (fl_QV (dC, dI) al_cl 32 (mc_sh ca ad) ad g1) ([.ref (ad 6), .int a0, .int a1, .int a2] : List Value).toArray s 0 0 (fl_A 32 ad)) (F0 m 33 ls [])) → W p l e ({ frames := 0, cells := 0, slots := 0, locals := 0 }) s m ([.ref (ad 6), .int a0, .int a1, .int a2] : List Value).toArray below meth c H locs 0 0 (MQ below (fl_QV (dC, dI) al_cl 32 (mc_sh ca ad) ad g1) ([.ref (ad 6), .int a0, .int a1, .int a2] : List Value).toArray s 0 0 (fl_A 32 ad)) (F0 m 3 ls []) := by
    intro n
    clear h hP hS hl
    induction n with
    | zero => intro v4 v1 v2 v3 g z H locs ls h; cases h
    | succ n ih1 =>
      intro v4 v1 v2 v3 g z H locs ls h hP hS hl K1
      have h : fB_mark_B3 (fB_mark_L3 n) v4 v1 v2 v3 g = some z := h
      unfold fB_mark_B3 at h
      refine lv_iload hx hb dB_mark_3 (lv_at hl 0 rfl) ?_
      refine lv_iload_n hx hb dB_mark_5 rfl (lv_at hl 2 rfl) ?_
      refine lv_iload_n hx hb dB_mark_6 rfl (lv_at hl 3 rfl) ?_
      refine lv_iadd hx hb dB_mark_7 ?_
      refine lv_icmp_ge (tgt := 33) hx hb dB_mark_8 (by decide) (fun c2 => ?_) (fun c2 => ?_)
      · replace h := fl_pos c2 h
        cases h
        exact K1 _ _ _ hP hS (lv_sub hl [0, 1, 2, 3, 4] rfl)
      · replace h := fl_neg c2 h
        refine lv_iload hx hb dB_mark_11 (lv_at hl 0 rfl) ?_
        refine lv_sipush (v := 384) hx hb dB_mark_13 (by decide) ?_
        refine lv_icmp_ge (tgt := 33) hx hb dB_mark_16 (by decide) (fun c3 => ?_) (fun c3 => ?_)
        · replace h := fl_pos c3 h
          cases h
          exact K1 _ _ _ hP hS (lv_sub hl [0, 1, 2, 3, 4] rfl)
        · replace h := fl_neg c3 h
          refine lv_aload_n hx hb dB_mark_19 rfl (lv_at hl 1 rfl) ?_
          refine mc_get3 (v := .ref (ad 8)) hx hb hts mc_in3 hown hK hP (q := 6) rfl 1 (by decide) (hts _ gm_92) rfl dB_mark_20 ?_
          refine lv_iload hx hb dB_mark_23 (lv_at hl 0 rfl) ?_
          refine lv_iload_n hx hb dB_mark_25 rfl (lv_at hl 4 rfl) ?_
          replace h := fl_ck_some h
          obtain ⟨hi4, h⟩ := h
          refine mc_zast hx hb hK hP hI hS (q := 8) rfl hi4 dB_mark_26 (fun H locs hP hS => ?_)
          have hP : va_P (dC, dI) al_cl (fl_ws 32 (mc_sh ca ad) ad (fl_up g 8 (Int32.toNatClampNeg v4) (v3 &&& 1))) H := hP
          refine lv_iinc (v := (v4 + 1)) (lv' := [(4, .int (v4 + 1)), (0, .ref (ad 6)), (1, .int v1), (2, .int v2), (3, .int v3)]) hx hb dB_mark_27 hl (k := 0) rfl rfl (by decide) rfl (fun ls hl => ?_)
          refine lv_goto (tgt := 3) hx hb dB_mark_30 (by decide) ?_
          exact ih1 (v4 + 1) v1 v2 v3 _ _ _ _ _ h hP hS (lv_sub hl [0, 1, 2, 3, 4] rfl) K1
  obtain ⟨r5, g6, hc7, h⟩ := fl_bd_some h
  refine loop1 1000 a0 a0 a1 a2 _ (r5, g6) _ _ _ hc7 hP hS (lv_sub hl [0, 1, 2, 3, 4] rfl) (fun H locs ls hP hS hl => ?_)
  have hP : va_P (dC, dI) al_cl (fl_ws 32 (mc_sh ca ad) ad g6) H := hP
  have hl : lv_has ls 5 [(4, .int r5), (0, .ref (ad 6)), (1, .int a0), (2, .int a1), (3, .int a2)] := hl
  exact fl_vret hx hb hr hlocks hP hS h dB_mark_33
def yB_wordsAt : MethodName := ⟨"MeshedSpans$Blocks", "wordsAt", "(I)I"⟩
def wB_wordsAt : List Cond := .code yB_wordsAt prog_3_method_7_code 2 (some .int) :: gw
theorem kB_wordsAt {R : Room} {s : State} {args : Array Value} {own : String} {ix : Nat} (hts : ∀ w ∈ gw, w.before args s = true) (hl : (Cond.methodLink own ix yB_wordsAt).before args s = true) (hR : 1 + 1 ≤ R.frames ∧ 8 + (2 + 11) + 20 ≤ R.locals) : CallW R s args own "MeshedSpans$Blocks" ix yB_wordsAt prog_3_method_7_code 2 (some .int) wB_wordsAt { frames := 1, cells := 0, slots := 0, locals := 20 } 0 0 1 := ⟨callB_of (rm := { frames := 1, cells := 0, slots := 0, locals := 20 }) 1 hts (gw_c (ct := .code yB_wordsAt prog_3_method_7_code 2 (some .int)) gm_318) rfl rfl rfl (hts _ gm_44) hl (by decide +kernel) hR, hts _ gm_316, hts _ gm_317⟩
theorem dB_wordsAt_0 : decode prog_3_method_7_code 0 = .ok (.iload_n 1, 1) := by decide +kernel
theorem dB_wordsAt_1 : decode prog_3_method_7_code 1 = .ok (.invokestatic 23, 3) := by decide +kernel
theorem dB_wordsAt_4 : decode prog_3_method_7_code 4 = .ok (.ifCond .eq 12, 3) := by decide +kernel
theorem dB_wordsAt_7 : decode prog_3_method_7_code 7 = .ok (.aload_n 0, 1) := by decide +kernel
theorem dB_wordsAt_8 : decode prog_3_method_7_code 8 = .ok (.getfield 9, 3) := by decide +kernel
theorem dB_wordsAt_11 : decode prog_3_method_7_code 11 = .ok (.iload_n 1, 1) := by decide +kernel
theorem dB_wordsAt_12 : decode prog_3_method_7_code 12 = .ok (.iaload, 1) := by decide +kernel
theorem dB_wordsAt_13 : decode prog_3_method_7_code 13 = .ok (.goto 4, 3) := by decide +kernel
theorem dB_wordsAt_16 : decode prog_3_method_7_code 16 = .ok (.iconst 0, 1) := by decide +kernel
theorem dB_wordsAt_17 : decode prog_3_method_7_code 17 = .ok (.ireturn, 1) := by decide +kernel
def fB_wordsAt (a0 : Int32) (g : fl_G) : Option (Int32 × fl_G) :=
  fl_bd (fS_isAddress a0 g) (fun r1 g2 => if r1 = 0 then (some (0, g2)) else (fl_ck (fl_in a0 384) (some ((g2 7 (Int32.toNatClampNeg a0)), g2))))
set_option maxHeartbeats 4000000 in
set_option maxRecDepth 100000 in
theorem cB_wordsAt (l : Launch) (dC : Nat → ClassId) (dI : Nat → Nat → Nat) (ca : Nat → ClassId) (ad : Nat → Nat) (hI : fl_inj 32 ad) (a0 : Int32) {g g1 : fl_G} {r : Int32} (h : fB_wordsAt a0 g = some (r, g1)) : Met l yB_wordsAt wB_wordsAt ({ frames := 1, cells := 0, slots := 0, locals := 20 }) (va_Pc [.ref (ad 6), .int a0] (fl_Pre (dC, dI) al_cl 32 (mc_sh ca ad) ad (mc_ty ca) mc_ns g)) (fl_QI (dC, dI) al_cl 32 (mc_sh ca ad) ad r g1) 0 0 (fl_A 32 ad) := by
  refine fl_of (cc := prog_3_method_7_code) (maxL := 2) (ret := (some .int)) (by decide) rfl (Nat.le_of_ble_eq_true rfl) ?_
  intro p e s m below meth c ls hx hb hr hml hts hown hlocks hP hK hN hl
  have hown : s.vm.findClass "MeshedSpans$Blocks" = some m.cls := hown
  have hS : va_S (fl_A 32 ad) s.heap s.heap [] := va_S.rf
  have hl : lv_has ls 2 [(0, .ref (ad 6)), (1, .int a0)] := hl
  unfold fB_wordsAt at h
  refine lv_iload_n hx hb dB_wordsAt_0 rfl (lv_at hl 1 rfl) ?_
  replace h := fl_bd_some h
  obtain ⟨r1, g2, hc3, h⟩ := h
  refine fl_calli (va_runSN (As := [.int a0]) (rest := []) ⟨hx, hb, hml, hown, hts⟩ (cS_isAddress l dC dI ca ad hI a0 hc3) (kS_isAddress_N hts (hN.use _ nm_7) ⟨Nat.le_of_ble_eq_true rfl, Nat.le_of_ble_eq_true rfl⟩) (fl_preS hK hP hN) rfl rfl hl.1 rfl (lv_room (Nat.le_of_ble_eq_true rfl)) dB_wordsAt_1 ⟨Nat.le_refl 0, Nat.le_refl 0⟩) hS (fun H locs hP hS => ?_)
  refine lv_if_eq (tgt := 16) hx hb dB_wordsAt_4 (by decide) (fun c4 => ?_) (fun c4 => ?_)
  · replace h := fl_pos c4 h
    refine lv_iconst (v := 0) hx hb dB_wordsAt_16 (by decide) ?_
    exact fl_iret hx hb hr hlocks hP hS h dB_wordsAt_17
  · replace h := fl_neg c4 h
    refine lv_aload_n hx hb dB_wordsAt_7 rfl (lv_at hl 0 rfl) ?_
    refine mc_get3 (v := .ref (ad 7)) hx hb hts mc_in3 hown hK hP (q := 6) rfl 0 (by decide) (hts _ gm_91) rfl dB_wordsAt_8 ?_
    refine lv_iload_n hx hb dB_wordsAt_11 rfl (lv_at hl 1 rfl) ?_
    replace h := fl_ck_some h
    obtain ⟨hi5, h⟩ := h
    refine mc_iald hx hb hK hP (q := 7) rfl hi5 dB_wordsAt_12 ?_
    refine lv_goto (tgt := 17) hx hb dB_wordsAt_13 (by decide) ?_
    exact fl_iret hx hb hr hlocks hP hS h dB_wordsAt_17
def yB_beginsAt : MethodName := ⟨"MeshedSpans$Blocks", "beginsAt", "(I)Z"⟩
def wB_beginsAt : List Cond := .code yB_beginsAt prog_3_method_5_code 2 (some .boolean) :: gw
theorem kB_beginsAt {R : Room} {s : State} {args : Array Value} {own : String} {ix : Nat} (hts : ∀ w ∈ gw, w.before args s = true) (hl : (Cond.methodLink own ix yB_beginsAt).before args s = true) (hR : 2 + 1 ≤ R.frames ∧ 8 + (2 + 11) + 41 ≤ R.locals) : CallW R s args own "MeshedSpans$Blocks" ix yB_beginsAt prog_3_method_5_code 2 (some .boolean) wB_beginsAt { frames := 2, cells := 0, slots := 0, locals := 41 } 0 0 1 := ⟨callB_of (rm := { frames := 2, cells := 0, slots := 0, locals := 41 }) 1 hts (gw_c (ct := .code yB_beginsAt prog_3_method_5_code 2 (some .boolean)) gm_314) rfl rfl rfl (hts _ gm_44) hl (by decide +kernel) hR, hts _ gm_312, hts _ gm_313⟩
theorem dB_beginsAt_0 : decode prog_3_method_5_code 0 = .ok (.aload_n 0, 1) := by decide +kernel
theorem dB_beginsAt_1 : decode prog_3_method_5_code 1 = .ok (.iload_n 1, 1) := by decide +kernel
theorem dB_beginsAt_2 : decode prog_3_method_5_code 2 = .ok (.invokevirtual 34, 3) := by decide +kernel
theorem dB_beginsAt_5 : decode prog_3_method_5_code 5 = .ok (.ifCond .le 7, 3) := by decide +kernel
theorem dB_beginsAt_8 : decode prog_3_method_5_code 8 = .ok (.iconst 1, 1) := by decide +kernel
theorem dB_beginsAt_9 : decode prog_3_method_5_code 9 = .ok (.goto 4, 3) := by decide +kernel
theorem dB_beginsAt_12 : decode prog_3_method_5_code 12 = .ok (.iconst 0, 1) := by decide +kernel
theorem dB_beginsAt_13 : decode prog_3_method_5_code 13 = .ok (.ireturn, 1) := by decide +kernel
def fB_beginsAt (a0 : Int32) (g : fl_G) : Option (Int32 × fl_G) :=
  fl_bd (fB_wordsAt a0 g) (fun r1 g2 => if r1 ≤ 0 then (some (0, g2)) else (some (1, g2)))
set_option maxHeartbeats 4000000 in
set_option maxRecDepth 100000 in
theorem cB_beginsAt (l : Launch) (dC : Nat → ClassId) (dI : Nat → Nat → Nat) (ca : Nat → ClassId) (ad : Nat → Nat) (hI : fl_inj 32 ad) (a0 : Int32) {g g1 : fl_G} {r : Int32} (h : fB_beginsAt a0 g = some (r, g1)) : Met l yB_beginsAt wB_beginsAt ({ frames := 2, cells := 0, slots := 0, locals := 41 }) (va_Pc [.ref (ad 6), .int a0] (fl_Pre (dC, dI) al_cl 32 (mc_sh ca ad) ad (mc_ty ca) mc_ns g)) (fl_QI (dC, dI) al_cl 32 (mc_sh ca ad) ad r g1) 0 0 (fl_A 32 ad) := by
  refine fl_of (cc := prog_3_method_5_code) (maxL := 2) (ret := (some .boolean)) (by decide) rfl (Nat.le_of_ble_eq_true rfl) ?_
  intro p e s m below meth c ls hx hb hr hml hts hown hlocks hP hK hN hl
  have hown : s.vm.findClass "MeshedSpans$Blocks" = some m.cls := hown
  have hS : va_S (fl_A 32 ad) s.heap s.heap [] := va_S.rf
  have hl : lv_has ls 2 [(0, .ref (ad 6)), (1, .int a0)] := hl
  unfold fB_beginsAt at h
  refine lv_aload_n hx hb dB_beginsAt_0 rfl (lv_at hl 0 rfl) ?_
  refine lv_iload_n hx hb dB_beginsAt_1 rfl (lv_at hl 1 rfl) ?_
  replace h := fl_bd_some h
  obtain ⟨r1, g2, hc3, h⟩ := h
  refine fl_calli (va_runV (As := [.int a0]) (rest := []) ⟨hx, hb, hml, hown, hts⟩ (cB_wordsAt l dC dI ca ad hI a0 hc3) (kB_wordsAt hts (hts _ gm_315) ⟨Nat.le_of_ble_eq_true rfl, Nat.le_of_ble_eq_true rfl⟩) (fl_preV hK hP hN (mc_lt rfl (by decide)) (mc_sh3 rfl) rfl) rfl rfl hl.1 rfl (lv_room (Nat.le_of_ble_eq_true rfl)) dB_beginsAt_2 ⟨Nat.le_refl 0, Nat.le_refl 0⟩) hS (fun H locs hP hS => ?_)
  refine lv_if_le (tgt := 12) hx hb dB_beginsAt_5 (by decide) (fun c4 => ?_) (fun c4 => ?_)
  · replace h := fl_pos c4 h
    refine lv_iconst (v := 0) hx hb dB_beginsAt_12 (by decide) ?_
    exact fl_zret hx hb hr hlocks hP hS (Or.inl rfl) h dB_beginsAt_13
  · replace h := fl_neg c4 h
    refine lv_iconst (v := 1) hx hb dB_beginsAt_8 (by decide) ?_
    refine lv_goto (tgt := 13) hx hb dB_beginsAt_9 (by decide) ?_
    exact fl_zret hx hb hr hlocks hP hS (Or.inr rfl) h dB_beginsAt_13
def yB_covers : MethodName := ⟨"MeshedSpans$Blocks", "covers", "(I)Z"⟩
def wB_covers : List Cond := .code yB_covers prog_3_method_6_code 2 (some .boolean) :: gw
theorem kB_covers {R : Room} {s : State} {args : Array Value} {own : String} {ix : Nat} (hts : ∀ w ∈ gw, w.before args s = true) (hl : (Cond.methodLink own ix yB_covers).before args s = true) (hR : 1 + 1 ≤ R.frames ∧ 8 + (2 + 11) + 20 ≤ R.locals) : CallW R s args own "MeshedSpans$Blocks" ix yB_covers prog_3_method_6_code 2 (some .boolean) wB_covers { frames := 1, cells := 0, slots := 0, locals := 20 } 0 0 1 := ⟨callB_of (rm := { frames := 1, cells := 0, slots := 0, locals := 20 }) 1 hts (gw_c (ct := .code yB_covers prog_3_method_6_code 2 (some .boolean)) gm_384) rfl rfl rfl (hts _ gm_44) hl (by decide +kernel) hR, hts _ gm_382, hts _ gm_383⟩
theorem dB_covers_0 : decode prog_3_method_6_code 0 = .ok (.iload_n 1, 1) := by decide +kernel
theorem dB_covers_1 : decode prog_3_method_6_code 1 = .ok (.invokestatic 23, 3) := by decide +kernel
theorem dB_covers_4 : decode prog_3_method_6_code 4 = .ok (.ifCond .eq 16, 3) := by decide +kernel
theorem dB_covers_7 : decode prog_3_method_6_code 7 = .ok (.aload_n 0, 1) := by decide +kernel
theorem dB_covers_8 : decode prog_3_method_6_code 8 = .ok (.getfield 15, 3) := by decide +kernel
theorem dB_covers_11 : decode prog_3_method_6_code 11 = .ok (.iload_n 1, 1) := by decide +kernel
theorem dB_covers_12 : decode prog_3_method_6_code 12 = .ok (.baload, 1) := by decide +kernel
theorem dB_covers_13 : decode prog_3_method_6_code 13 = .ok (.ifCond .eq 7, 3) := by decide +kernel
theorem dB_covers_16 : decode prog_3_method_6_code 16 = .ok (.iconst 1, 1) := by decide +kernel
theorem dB_covers_17 : decode prog_3_method_6_code 17 = .ok (.goto 4, 3) := by decide +kernel
theorem dB_covers_20 : decode prog_3_method_6_code 20 = .ok (.iconst 0, 1) := by decide +kernel
theorem dB_covers_21 : decode prog_3_method_6_code 21 = .ok (.ireturn, 1) := by decide +kernel
def fB_covers (a0 : Int32) (g : fl_G) : Option (Int32 × fl_G) :=
  fl_bd (fS_isAddress a0 g) (fun r1 g2 => if r1 = 0 then (some (0, g2)) else (fl_ck (fl_in a0 384) (if (g2 8 (Int32.toNatClampNeg a0)) = 0 then (some (0, g2)) else (some (1, g2)))))
set_option maxHeartbeats 4000000 in
set_option maxRecDepth 100000 in
theorem cB_covers (l : Launch) (dC : Nat → ClassId) (dI : Nat → Nat → Nat) (ca : Nat → ClassId) (ad : Nat → Nat) (hI : fl_inj 32 ad) (a0 : Int32) {g g1 : fl_G} {r : Int32} (h : fB_covers a0 g = some (r, g1)) : Met l yB_covers wB_covers ({ frames := 1, cells := 0, slots := 0, locals := 20 }) (va_Pc [.ref (ad 6), .int a0] (fl_Pre (dC, dI) al_cl 32 (mc_sh ca ad) ad (mc_ty ca) mc_ns g)) (fl_QI (dC, dI) al_cl 32 (mc_sh ca ad) ad r g1) 0 0 (fl_A 32 ad) := by
  refine fl_of (cc := prog_3_method_6_code) (maxL := 2) (ret := (some .boolean)) (by decide) rfl (Nat.le_of_ble_eq_true rfl) ?_
  intro p e s m below meth c ls hx hb hr hml hts hown hlocks hP hK hN hl
  have hown : s.vm.findClass "MeshedSpans$Blocks" = some m.cls := hown
  have hS : va_S (fl_A 32 ad) s.heap s.heap [] := va_S.rf
  have hl : lv_has ls 2 [(0, .ref (ad 6)), (1, .int a0)] := hl
  unfold fB_covers at h
  refine lv_iload_n hx hb dB_covers_0 rfl (lv_at hl 1 rfl) ?_
  replace h := fl_bd_some h
  obtain ⟨r1, g2, hc3, h⟩ := h
  refine fl_calli (va_runSN (As := [.int a0]) (rest := []) ⟨hx, hb, hml, hown, hts⟩ (cS_isAddress l dC dI ca ad hI a0 hc3) (kS_isAddress_N hts (hN.use _ nm_7) ⟨Nat.le_of_ble_eq_true rfl, Nat.le_of_ble_eq_true rfl⟩) (fl_preS hK hP hN) rfl rfl hl.1 rfl (lv_room (Nat.le_of_ble_eq_true rfl)) dB_covers_1 ⟨Nat.le_refl 0, Nat.le_refl 0⟩) hS (fun H locs hP hS => ?_)
  refine lv_if_eq (tgt := 20) hx hb dB_covers_4 (by decide) (fun c4 => ?_) (fun c4 => ?_)
  · replace h := fl_pos c4 h
    refine lv_iconst (v := 0) hx hb dB_covers_20 (by decide) ?_
    exact fl_zret hx hb hr hlocks hP hS (Or.inl rfl) h dB_covers_21
  · replace h := fl_neg c4 h
    refine lv_aload_n hx hb dB_covers_7 rfl (lv_at hl 0 rfl) ?_
    refine mc_get3 (v := .ref (ad 8)) hx hb hts mc_in3 hown hK hP (q := 6) rfl 1 (by decide) (hts _ gm_92) rfl dB_covers_8 ?_
    refine lv_iload_n hx hb dB_covers_11 rfl (lv_at hl 1 rfl) ?_
    replace h := fl_ck_some h
    obtain ⟨hi5, h⟩ := h
    refine mc_zald hx hb hK hP (q := 8) rfl hi5 dB_covers_12 ?_
    refine lv_if_eq (tgt := 20) hx hb dB_covers_13 (by decide) (fun c6 => ?_) (fun c6 => ?_)
    · replace h := fl_pos c6 h
      refine lv_iconst (v := 0) hx hb dB_covers_20 (by decide) ?_
      exact fl_zret hx hb hr hlocks hP hS (Or.inl rfl) h dB_covers_21
    · replace h := fl_neg c6 h
      refine lv_iconst (v := 1) hx hb dB_covers_16 (by decide) ?_
      refine lv_goto (tgt := 21) hx hb dB_covers_17 (by decide) ?_
      exact fl_zret hx hb hr hlocks hP hS (Or.inr rfl) h dB_covers_21
def yB_howMany : MethodName := ⟨"MeshedSpans$Blocks", "howMany", "()I"⟩
def wB_howMany : List Cond := .code yB_howMany prog_3_method_8_code 1 (some .int) :: gw
theorem kB_howMany {R : Room} {s : State} {args : Array Value} {own : String} {ix : Nat} (hts : ∀ w ∈ gw, w.before args s = true) (hl : (Cond.methodLink own ix yB_howMany).before args s = true) (hR : 0 + 1 ≤ R.frames ∧ 8 + (1 + 11) + 0 ≤ R.locals) : CallW R s args own "MeshedSpans$Blocks" ix yB_howMany prog_3_method_8_code 1 (some .int) wB_howMany { frames := 0, cells := 0, slots := 0, locals := 0 } 0 0 0 := ⟨callB_of (rm := { frames := 0, cells := 0, slots := 0, locals := 0 }) 0 hts (gw_c (ct := .code yB_howMany prog_3_method_8_code 1 (some .int)) gm_472) rfl rfl rfl (hts _ gm_44) hl (by decide +kernel) hR, hts _ gm_470, hts _ gm_471⟩
theorem dB_howMany_0 : decode prog_3_method_8_code 0 = .ok (.aload_n 0, 1) := by decide +kernel
theorem dB_howMany_1 : decode prog_3_method_8_code 1 = .ok (.getfield 19, 3) := by decide +kernel
theorem dB_howMany_4 : decode prog_3_method_8_code 4 = .ok (.ireturn, 1) := by decide +kernel
def fB_howMany (g : fl_G) : Option (Int32 × fl_G) :=
  some ((g 6 2), g)
set_option maxHeartbeats 4000000 in
set_option maxRecDepth 100000 in
theorem cB_howMany (l : Launch) (dC : Nat → ClassId) (dI : Nat → Nat → Nat) (ca : Nat → ClassId) (ad : Nat → Nat) (hI : fl_inj 32 ad) {g g1 : fl_G} {r : Int32} (h : fB_howMany g = some (r, g1)) : Met l yB_howMany wB_howMany ({ frames := 0, cells := 0, slots := 0, locals := 0 }) (va_Pc [.ref (ad 6)] (fl_Pre (dC, dI) al_cl 32 (mc_sh ca ad) ad (mc_ty ca) mc_ns g)) (fl_QI (dC, dI) al_cl 32 (mc_sh ca ad) ad r g1) 0 0 (fl_A 32 ad) := by
  refine fl_of (cc := prog_3_method_8_code) (maxL := 1) (ret := (some .int)) (by decide) rfl (Nat.le_of_ble_eq_true rfl) ?_
  intro p e s m below meth c ls hx hb hr hml hts hown hlocks hP hK hN hl
  have hown : s.vm.findClass "MeshedSpans$Blocks" = some m.cls := hown
  have hS : va_S (fl_A 32 ad) s.heap s.heap [] := va_S.rf
  have hl : lv_has ls 1 [(0, .ref (ad 6))] := hl
  unfold fB_howMany at h
  refine lv_aload_n hx hb dB_howMany_0 rfl (lv_at hl 0 rfl) ?_
  refine mc_get3 (v := .int (g 6 2)) hx hb hts mc_in3 hown hK hP (q := 6) rfl 2 (by decide) (hts _ gm_93) rfl dB_howMany_1 ?_
  exact fl_iret hx hb hr hlocks hP hS h dB_howMany_4
def yB_add : MethodName := ⟨"MeshedSpans$Blocks", "add", "(II)V"⟩
def wB_add : List Cond := .code yB_add prog_3_method_2_code 3 none :: gw
theorem kB_add {R : Room} {s : State} {args : Array Value} {own : String} {ix : Nat} (hts : ∀ w ∈ gw, w.before args s = true) (hl : (Cond.methodLink own ix yB_add).before args s = true) (hR : 1 + 1 ≤ R.frames ∧ 8 + (3 + 11) + 24 ≤ R.locals) : CallW R s args own "MeshedSpans$Blocks" ix yB_add prog_3_method_2_code 3 none wB_add { frames := 1, cells := 0, slots := 0, locals := 24 } 0 0 2 := ⟨callB_of (rm := { frames := 1, cells := 0, slots := 0, locals := 24 }) 2 hts (gw_c (ct := .code yB_add prog_3_method_2_code 3 none) gm_209) rfl rfl rfl (hts _ gm_44) hl (by decide +kernel) hR, hts _ gm_207, hts _ gm_208⟩
theorem dB_add_0 : decode prog_3_method_2_code 0 = .ok (.iload_n 1, 1) := by decide +kernel
theorem dB_add_1 : decode prog_3_method_2_code 1 = .ok (.invokestatic 23, 3) := by decide +kernel
theorem dB_add_4 : decode prog_3_method_2_code 4 = .ok (.ifCond .eq 27, 3) := by decide +kernel
theorem dB_add_7 : decode prog_3_method_2_code 7 = .ok (.aload_n 0, 1) := by decide +kernel
theorem dB_add_8 : decode prog_3_method_2_code 8 = .ok (.getfield 9, 3) := by decide +kernel
theorem dB_add_11 : decode prog_3_method_2_code 11 = .ok (.iload_n 1, 1) := by decide +kernel
theorem dB_add_12 : decode prog_3_method_2_code 12 = .ok (.iload_n 2, 1) := by decide +kernel
theorem dB_add_13 : decode prog_3_method_2_code 13 = .ok (.iastore, 1) := by decide +kernel
theorem dB_add_14 : decode prog_3_method_2_code 14 = .ok (.aload_n 0, 1) := by decide +kernel
theorem dB_add_15 : decode prog_3_method_2_code 15 = .ok (.iload_n 1, 1) := by decide +kernel
theorem dB_add_16 : decode prog_3_method_2_code 16 = .ok (.iload_n 2, 1) := by decide +kernel
theorem dB_add_17 : decode prog_3_method_2_code 17 = .ok (.iconst 1, 1) := by decide +kernel
theorem dB_add_18 : decode prog_3_method_2_code 18 = .ok (.invokevirtual 27, 3) := by decide +kernel
theorem dB_add_21 : decode prog_3_method_2_code 21 = .ok (.aload_n 0, 1) := by decide +kernel
theorem dB_add_22 : decode prog_3_method_2_code 22 = .ok (.dup, 1) := by decide +kernel
theorem dB_add_23 : decode prog_3_method_2_code 23 = .ok (.getfield 19, 3) := by decide +kernel
theorem dB_add_26 : decode prog_3_method_2_code 26 = .ok (.iconst 1, 1) := by decide +kernel
theorem dB_add_27 : decode prog_3_method_2_code 27 = .ok (.iadd, 1) := by decide +kernel
theorem dB_add_28 : decode prog_3_method_2_code 28 = .ok (.putfield 19, 3) := by decide +kernel
theorem dB_add_31 : decode prog_3_method_2_code 31 = .ok (.return_, 1) := by decide +kernel
def fB_add (a0 : Int32) (a1 : Int32) (g : fl_G) : Option (Unit × fl_G) :=
  fl_bd (fS_isAddress a0 g) (fun r1 g2 => if r1 = 0 then (some ((), g2)) else (fl_ck (fl_in a0 384) (fl_bd (fB_mark a0 a1 1 (fl_up g2 7 (Int32.toNatClampNeg a0) a1)) (fun r6 g7 => some ((), (fl_up g7 6 2 ((g7 6 2) + 1)))))))
set_option maxHeartbeats 4000000 in
set_option maxRecDepth 100000 in
theorem cB_add (l : Launch) (dC : Nat → ClassId) (dI : Nat → Nat → Nat) (ca : Nat → ClassId) (ad : Nat → Nat) (hI : fl_inj 32 ad) (a0 : Int32) (a1 : Int32) {g g1 : fl_G} {r : Unit} (h : fB_add a0 a1 g = some (r, g1)) : Met l yB_add wB_add ({ frames := 1, cells := 0, slots := 0, locals := 24 }) (va_Pc [.ref (ad 6), .int a0, .int a1] (fl_Pre (dC, dI) al_cl 32 (mc_sh ca ad) ad (mc_ty ca) mc_ns g)) (fl_QV (dC, dI) al_cl 32 (mc_sh ca ad) ad g1) 0 0 (fl_A 32 ad) := by
  refine fl_of (cc := prog_3_method_2_code) (maxL := 3) (ret := none) (by decide) rfl (Nat.le_of_ble_eq_true rfl) ?_
  intro p e s m below meth c ls hx hb hr hml hts hown hlocks hP hK hN hl
  have hown : s.vm.findClass "MeshedSpans$Blocks" = some m.cls := hown
  have hS : va_S (fl_A 32 ad) s.heap s.heap [] := va_S.rf
  have hl : lv_has ls 3 [(0, .ref (ad 6)), (1, .int a0), (2, .int a1)] := hl
  unfold fB_add at h
  refine lv_iload_n hx hb dB_add_0 rfl (lv_at hl 1 rfl) ?_
  replace h := fl_bd_some h
  obtain ⟨r1, g2, hc3, h⟩ := h
  refine fl_calli (va_runSN (As := [.int a0]) (rest := []) ⟨hx, hb, hml, hown, hts⟩ (cS_isAddress l dC dI ca ad hI a0 hc3) (kS_isAddress_N hts (hN.use _ nm_7) ⟨Nat.le_of_ble_eq_true rfl, Nat.le_of_ble_eq_true rfl⟩) (fl_preS hK hP hN) rfl rfl hl.1 rfl (lv_room (Nat.le_of_ble_eq_true rfl)) dB_add_1 ⟨Nat.le_refl 0, Nat.le_refl 0⟩) hS (fun H locs hP hS => ?_)
  refine lv_if_eq (tgt := 31) hx hb dB_add_4 (by decide) (fun c4 => ?_) (fun c4 => ?_)
  · replace h := fl_pos c4 h
    exact fl_vret hx hb hr hlocks hP hS h dB_add_31
  · replace h := fl_neg c4 h
    refine lv_aload_n hx hb dB_add_7 rfl (lv_at hl 0 rfl) ?_
    refine mc_get3 (v := .ref (ad 7)) hx hb hts mc_in3 hown hK hP (q := 6) rfl 0 (by decide) (hts _ gm_91) rfl dB_add_8 ?_
    refine lv_iload_n hx hb dB_add_11 rfl (lv_at hl 1 rfl) ?_
    refine lv_iload_n hx hb dB_add_12 rfl (lv_at hl 2 rfl) ?_
    replace h := fl_ck_some h
    obtain ⟨hi5, h⟩ := h
    refine mc_iast hx hb hK hP hI hS (q := 7) rfl hi5 dB_add_13 (fun H locs hP hS => ?_)
    have hP : va_P (dC, dI) al_cl (fl_ws 32 (mc_sh ca ad) ad (fl_up g2 7 (Int32.toNatClampNeg a0) a1)) H := hP
    refine lv_aload_n hx hb dB_add_14 rfl (lv_at hl 0 rfl) ?_
    refine lv_iload_n hx hb dB_add_15 rfl (lv_at hl 1 rfl) ?_
    refine lv_iload_n hx hb dB_add_16 rfl (lv_at hl 2 rfl) ?_
    refine lv_iconst (v := 1) hx hb dB_add_17 (by decide) ?_
    replace h := fl_bd_some h
    obtain ⟨r6, g7, hc8, h⟩ := h
    refine fl_callv (va_runV (As := [.int a0, .int a1, .int 1]) (rest := []) ⟨hx, hb, hml, hown, hts⟩ (cB_mark l dC dI ca ad hI a0 a1 1 hc8) (kB_mark hts (hts _ gm_212) ⟨Nat.le_of_ble_eq_true rfl, Nat.le_of_ble_eq_true rfl⟩) (fl_preV hK hP hN (mc_lt rfl (by decide)) (mc_sh3 rfl) rfl) rfl rfl hl.1 rfl (lv_room (Nat.le_of_ble_eq_true rfl)) dB_add_18 ⟨Nat.le_refl 0, Nat.le_refl 0⟩) hS (fun H locs hP hS => ?_)
    refine lv_aload_n hx hb dB_add_21 rfl (lv_at hl 0 rfl) ?_
    refine lv_dup hx hb dB_add_22 rfl ?_
    refine mc_get3 (v := .int (g7 6 2)) hx hb hts mc_in3 hown hK hP (q := 6) rfl 2 (by decide) (hts _ gm_93) rfl dB_add_23 ?_
    refine lv_iconst (v := 1) hx hb dB_add_26 (by decide) ?_
    refine lv_iadd hx hb dB_add_27 ?_
    refine mc_put3 (iv := ((g7 6 2) + 1)) hx hb hts mc_in3 hown hK hP hI hS (q := 6) rfl 2 (by decide) (hts _ gm_93) rfl rfl rfl dB_add_28 (fun H locs hP hS => ?_)
    have hP : va_P (dC, dI) al_cl (fl_ws 32 (mc_sh ca ad) ad (fl_up g7 6 2 ((g7 6 2) + 1))) H := hP
    exact fl_vret hx hb hr hlocks hP hS h dB_add_31
def yB_remove : MethodName := ⟨"MeshedSpans$Blocks", "remove", "(I)V"⟩
def wB_remove : List Cond := .code yB_remove prog_3_method_3_code 2 none :: gw
theorem kB_remove {R : Room} {s : State} {args : Array Value} {own : String} {ix : Nat} (hts : ∀ w ∈ gw, w.before args s = true) (hl : (Cond.methodLink own ix yB_remove).before args s = true) (hR : 3 + 1 ≤ R.frames ∧ 8 + (2 + 11) + 62 ≤ R.locals) : CallW R s args own "MeshedSpans$Blocks" ix yB_remove prog_3_method_3_code 2 none wB_remove { frames := 3, cells := 0, slots := 0, locals := 62 } 0 0 1 := ⟨callB_of (rm := { frames := 3, cells := 0, slots := 0, locals := 62 }) 1 hts (gw_c (ct := .code yB_remove prog_3_method_3_code 2 none) gm_375) rfl rfl rfl (hts _ gm_44) hl (by decide +kernel) hR, hts _ gm_373, hts _ gm_374⟩
theorem dB_remove_0 : decode prog_3_method_3_code 0 = .ok (.aload_n 0, 1) := by decide +kernel
theorem dB_remove_1 : decode prog_3_method_3_code 1 = .ok (.iload_n 1, 1) := by decide +kernel
theorem dB_remove_2 : decode prog_3_method_3_code 2 = .ok (.invokevirtual 31, 3) := by decide +kernel
theorem dB_remove_5 : decode prog_3_method_3_code 5 = .ok (.ifCond .eq 32, 3) := by decide +kernel
theorem dB_remove_8 : decode prog_3_method_3_code 8 = .ok (.aload_n 0, 1) := by decide +kernel
theorem dB_remove_9 : decode prog_3_method_3_code 9 = .ok (.iload_n 1, 1) := by decide +kernel
theorem dB_remove_10 : decode prog_3_method_3_code 10 = .ok (.aload_n 0, 1) := by decide +kernel
theorem dB_remove_11 : decode prog_3_method_3_code 11 = .ok (.getfield 9, 3) := by decide +kernel
theorem dB_remove_14 : decode prog_3_method_3_code 14 = .ok (.iload_n 1, 1) := by decide +kernel
theorem dB_remove_15 : decode prog_3_method_3_code 15 = .ok (.iaload, 1) := by decide +kernel
theorem dB_remove_16 : decode prog_3_method_3_code 16 = .ok (.iconst 0, 1) := by decide +kernel
theorem dB_remove_17 : decode prog_3_method_3_code 17 = .ok (.invokevirtual 27, 3) := by decide +kernel
theorem dB_remove_20 : decode prog_3_method_3_code 20 = .ok (.aload_n 0, 1) := by decide +kernel
theorem dB_remove_21 : decode prog_3_method_3_code 21 = .ok (.getfield 9, 3) := by decide +kernel
theorem dB_remove_24 : decode prog_3_method_3_code 24 = .ok (.iload_n 1, 1) := by decide +kernel
theorem dB_remove_25 : decode prog_3_method_3_code 25 = .ok (.iconst 0, 1) := by decide +kernel
theorem dB_remove_26 : decode prog_3_method_3_code 26 = .ok (.iastore, 1) := by decide +kernel
theorem dB_remove_27 : decode prog_3_method_3_code 27 = .ok (.aload_n 0, 1) := by decide +kernel
theorem dB_remove_28 : decode prog_3_method_3_code 28 = .ok (.dup, 1) := by decide +kernel
theorem dB_remove_29 : decode prog_3_method_3_code 29 = .ok (.getfield 19, 3) := by decide +kernel
theorem dB_remove_32 : decode prog_3_method_3_code 32 = .ok (.iconst 1, 1) := by decide +kernel
theorem dB_remove_33 : decode prog_3_method_3_code 33 = .ok (.isub, 1) := by decide +kernel
theorem dB_remove_34 : decode prog_3_method_3_code 34 = .ok (.putfield 19, 3) := by decide +kernel
theorem dB_remove_37 : decode prog_3_method_3_code 37 = .ok (.return_, 1) := by decide +kernel
def fB_remove (a0 : Int32) (g : fl_G) : Option (Unit × fl_G) :=
  fl_bd (fB_beginsAt a0 g) (fun r1 g2 => if r1 = 0 then (some ((), g2)) else (fl_ck (fl_in a0 384) (fl_bd (fB_mark a0 (g2 7 (Int32.toNatClampNeg a0)) 0 g2) (fun r6 g7 => fl_ck (fl_in a0 384) (some ((), (fl_up (fl_up g7 7 (Int32.toNatClampNeg a0) 0) 6 2 (((fl_up g7 7 (Int32.toNatClampNeg a0) 0) 6 2) - 1))))))))
set_option maxHeartbeats 4000000 in
set_option maxRecDepth 100000 in
theorem cB_remove (l : Launch) (dC : Nat → ClassId) (dI : Nat → Nat → Nat) (ca : Nat → ClassId) (ad : Nat → Nat) (hI : fl_inj 32 ad) (a0 : Int32) {g g1 : fl_G} {r : Unit} (h : fB_remove a0 g = some (r, g1)) : Met l yB_remove wB_remove ({ frames := 3, cells := 0, slots := 0, locals := 62 }) (va_Pc [.ref (ad 6), .int a0] (fl_Pre (dC, dI) al_cl 32 (mc_sh ca ad) ad (mc_ty ca) mc_ns g)) (fl_QV (dC, dI) al_cl 32 (mc_sh ca ad) ad g1) 0 0 (fl_A 32 ad) := by
  refine fl_of (cc := prog_3_method_3_code) (maxL := 2) (ret := none) (by decide) rfl (Nat.le_of_ble_eq_true rfl) ?_
  intro p e s m below meth c ls hx hb hr hml hts hown hlocks hP hK hN hl
  have hown : s.vm.findClass "MeshedSpans$Blocks" = some m.cls := hown
  have hS : va_S (fl_A 32 ad) s.heap s.heap [] := va_S.rf
  have hl : lv_has ls 2 [(0, .ref (ad 6)), (1, .int a0)] := hl
  unfold fB_remove at h
  refine lv_aload_n hx hb dB_remove_0 rfl (lv_at hl 0 rfl) ?_
  refine lv_iload_n hx hb dB_remove_1 rfl (lv_at hl 1 rfl) ?_
  replace h := fl_bd_some h
  obtain ⟨r1, g2, hc3, h⟩ := h
  refine fl_calli (va_runV (As := [.int a0]) (rest := []) ⟨hx, hb, hml, hown, hts⟩ (cB_beginsAt l dC dI ca ad hI a0 hc3) (kB_beginsAt hts (hts _ gm_376) ⟨Nat.le_of_ble_eq_true rfl, Nat.le_of_ble_eq_true rfl⟩) (fl_preV hK hP hN (mc_lt rfl (by decide)) (mc_sh3 rfl) rfl) rfl rfl hl.1 rfl (lv_room (Nat.le_of_ble_eq_true rfl)) dB_remove_2 ⟨Nat.le_refl 0, Nat.le_refl 0⟩) hS (fun H locs hP hS => ?_)
  refine lv_if_eq (tgt := 37) hx hb dB_remove_5 (by decide) (fun c4 => ?_) (fun c4 => ?_)
  · replace h := fl_pos c4 h
    exact fl_vret hx hb hr hlocks hP hS h dB_remove_37
  · replace h := fl_neg c4 h
    refine lv_aload_n hx hb dB_remove_8 rfl (lv_at hl 0 rfl) ?_
    refine lv_iload_n hx hb dB_remove_9 rfl (lv_at hl 1 rfl) ?_
    refine lv_aload_n hx hb dB_remove_10 rfl (lv_at hl 0 rfl) ?_
    refine mc_get3 (v := .ref (ad 7)) hx hb hts mc_in3 hown hK hP (q := 6) rfl 0 (by decide) (hts _ gm_91) rfl dB_remove_11 ?_
    refine lv_iload_n hx hb dB_remove_14 rfl (lv_at hl 1 rfl) ?_
    replace h := fl_ck_some h
    obtain ⟨hi5, h⟩ := h
    refine mc_iald hx hb hK hP (q := 7) rfl hi5 dB_remove_15 ?_
    refine lv_iconst (v := 0) hx hb dB_remove_16 (by decide) ?_
    replace h := fl_bd_some h
    obtain ⟨r6, g7, hc8, h⟩ := h
    refine fl_callv (va_runV (As := [.int a0, .int (g2 7 (Int32.toNatClampNeg a0)), .int 0]) (rest := []) ⟨hx, hb, hml, hown, hts⟩ (cB_mark l dC dI ca ad hI a0 (g2 7 (Int32.toNatClampNeg a0)) 0 hc8) (kB_mark hts (hts _ gm_212) ⟨Nat.le_of_ble_eq_true rfl, Nat.le_of_ble_eq_true rfl⟩) (fl_preV hK hP hN (mc_lt rfl (by decide)) (mc_sh3 rfl) rfl) rfl rfl hl.1 rfl (lv_room (Nat.le_of_ble_eq_true rfl)) dB_remove_17 ⟨Nat.le_refl 0, Nat.le_refl 0⟩) hS (fun H locs hP hS => ?_)
    refine lv_aload_n hx hb dB_remove_20 rfl (lv_at hl 0 rfl) ?_
    refine mc_get3 (v := .ref (ad 7)) hx hb hts mc_in3 hown hK hP (q := 6) rfl 0 (by decide) (hts _ gm_91) rfl dB_remove_21 ?_
    refine lv_iload_n hx hb dB_remove_24 rfl (lv_at hl 1 rfl) ?_
    refine lv_iconst (v := 0) hx hb dB_remove_25 (by decide) ?_
    replace h := fl_ck_some h
    obtain ⟨hi9, h⟩ := h
    refine mc_iast hx hb hK hP hI hS (q := 7) rfl hi9 dB_remove_26 (fun H locs hP hS => ?_)
    have hP : va_P (dC, dI) al_cl (fl_ws 32 (mc_sh ca ad) ad (fl_up g7 7 (Int32.toNatClampNeg a0) 0)) H := hP
    refine lv_aload_n hx hb dB_remove_27 rfl (lv_at hl 0 rfl) ?_
    refine lv_dup hx hb dB_remove_28 rfl ?_
    refine mc_get3 (v := .int ((fl_up g7 7 (Int32.toNatClampNeg a0) 0) 6 2)) hx hb hts mc_in3 hown hK hP (q := 6) rfl 2 (by decide) (hts _ gm_93) rfl dB_remove_29 ?_
    refine lv_iconst (v := 1) hx hb dB_remove_32 (by decide) ?_
    refine lv_isub hx hb dB_remove_33 ?_
    refine mc_put3 (iv := (((fl_up g7 7 (Int32.toNatClampNeg a0) 0) 6 2) - 1)) hx hb hts mc_in3 hown hK hP hI hS (q := 6) rfl 2 (by decide) (hts _ gm_93) rfl rfl rfl dB_remove_34 (fun H locs hP hS => ?_)
    have hP : va_P (dC, dI) al_cl (fl_ws 32 (mc_sh ca ad) ad (fl_up (fl_up g7 7 (Int32.toNatClampNeg a0) 0) 6 2 (((fl_up g7 7 (Int32.toNatClampNeg a0) 0) 6 2) - 1))) H := hP
    exact fl_vret hx hb hr hlocks hP hS h dB_remove_37
def yM_begin : MethodName := ⟨"MeshedSpans$Miniheap", "begin", "(III)V"⟩
def wM_begin : List Cond := .code yM_begin prog_5_method_2_code 4 none :: gw
theorem kM_begin {R : Room} {s : State} {args : Array Value} {own : String} {ix : Nat} (hts : ∀ w ∈ gw, w.before args s = true) (hl : (Cond.methodLink own ix yM_begin).before args s = true) (hR : 0 + 1 ≤ R.frames ∧ 8 + (4 + 11) + 0 ≤ R.locals) : CallW R s args own "MeshedSpans$Miniheap" ix yM_begin prog_5_method_2_code 4 none wM_begin { frames := 0, cells := 0, slots := 0, locals := 0 } 0 0 3 := ⟨callB_of (rm := { frames := 0, cells := 0, slots := 0, locals := 0 }) 3 hts (gw_c (ct := .code yM_begin prog_5_method_2_code 4 none) gm_265) rfl rfl rfl (hts _ gm_45) hl (by decide +kernel) hR, hts _ gm_263, hts _ gm_264⟩
theorem dM_begin_0 : decode prog_5_method_2_code 0 = .ok (.aload_n 0, 1) := by decide +kernel
theorem dM_begin_1 : decode prog_5_method_2_code 1 = .ok (.iload_n 1, 1) := by decide +kernel
theorem dM_begin_2 : decode prog_5_method_2_code 2 = .ok (.putfield 15, 3) := by decide +kernel
theorem dM_begin_5 : decode prog_5_method_2_code 5 = .ok (.aload_n 0, 1) := by decide +kernel
theorem dM_begin_6 : decode prog_5_method_2_code 6 = .ok (.iload_n 2, 1) := by decide +kernel
theorem dM_begin_7 : decode prog_5_method_2_code 7 = .ok (.putfield 18, 3) := by decide +kernel
theorem dM_begin_10 : decode prog_5_method_2_code 10 = .ok (.aload_n 0, 1) := by decide +kernel
theorem dM_begin_11 : decode prog_5_method_2_code 11 = .ok (.iload_n 3, 1) := by decide +kernel
theorem dM_begin_12 : decode prog_5_method_2_code 12 = .ok (.putfield 21, 3) := by decide +kernel
theorem dM_begin_15 : decode prog_5_method_2_code 15 = .ok (.aload_n 0, 1) := by decide +kernel
theorem dM_begin_16 : decode prog_5_method_2_code 16 = .ok (.iconst 0, 1) := by decide +kernel
theorem dM_begin_17 : decode prog_5_method_2_code 17 = .ok (.putfield 24, 3) := by decide +kernel
theorem dM_begin_20 : decode prog_5_method_2_code 20 = .ok (.return_, 1) := by decide +kernel
def fM_begin (q : Nat) (a0 : Int32) (a1 : Int32) (a2 : Int32) (g : fl_G) : Option (Unit × fl_G) :=
  fl_ck (mc_kd q = 4) (some ((), (fl_up (fl_up (fl_up (fl_up g q 1 a0) q 2 a1) q 3 a2) q 4 0)))
set_option maxHeartbeats 4000000 in
set_option maxRecDepth 100000 in
theorem cM_begin (l : Launch) (dC : Nat → ClassId) (dI : Nat → Nat → Nat) (ca : Nat → ClassId) (ad : Nat → Nat) (hI : fl_inj 32 ad) (q : Nat) (a0 : Int32) (a1 : Int32) (a2 : Int32) {g g1 : fl_G} {r : Unit} (h : fM_begin q a0 a1 a2 g = some (r, g1)) : Met l yM_begin wM_begin ({ frames := 0, cells := 0, slots := 0, locals := 0 }) (va_Pc [.ref (ad q), .int a0, .int a1, .int a2] (fl_Pre (dC, dI) al_cl 32 (mc_sh ca ad) ad (mc_ty ca) mc_ns g)) (fl_QV (dC, dI) al_cl 32 (mc_sh ca ad) ad g1) 0 0 (fl_A 32 ad) := by
  refine fl_of (cc := prog_5_method_2_code) (maxL := 4) (ret := none) (by decide) rfl (Nat.le_of_ble_eq_true rfl) ?_
  intro p e s m below meth c ls hx hb hr hml hts hown hlocks hP hK hN hl
  have hown : s.vm.findClass "MeshedSpans$Miniheap" = some m.cls := hown
  have hS : va_S (fl_A 32 ad) s.heap s.heap [] := va_S.rf
  have hl : lv_has ls 4 [(0, .ref (ad q)), (1, .int a0), (2, .int a1), (3, .int a2)] := hl
  unfold fM_begin at h
  refine lv_aload_n hx hb dM_begin_0 rfl (lv_at hl 0 rfl) ?_
  refine lv_iload_n hx hb dM_begin_1 rfl (lv_at hl 1 rfl) ?_
  replace h := fl_ck_some h
  obtain ⟨hk1, h⟩ := h
  refine mc_put4 (iv := a0) hx hb hts mc_in4 hown hK hP hI hS (q := q) hk1 1 (by decide) (hts _ gm_109) rfl rfl rfl dM_begin_2 (fun H locs hP hS => ?_)
  have hP : va_P (dC, dI) al_cl (fl_ws 32 (mc_sh ca ad) ad (fl_up g q 1 a0)) H := hP
  refine lv_aload_n hx hb dM_begin_5 rfl (lv_at hl 0 rfl) ?_
  refine lv_iload_n hx hb dM_begin_6 rfl (lv_at hl 2 rfl) ?_
  refine mc_put4 (iv := a1) hx hb hts mc_in4 hown hK hP hI hS (q := q) hk1 2 (by decide) (hts _ gm_110) rfl rfl rfl dM_begin_7 (fun H locs hP hS => ?_)
  have hP : va_P (dC, dI) al_cl (fl_ws 32 (mc_sh ca ad) ad (fl_up (fl_up g q 1 a0) q 2 a1)) H := hP
  refine lv_aload_n hx hb dM_begin_10 rfl (lv_at hl 0 rfl) ?_
  refine lv_iload_n hx hb dM_begin_11 rfl (lv_at hl 3 rfl) ?_
  refine mc_put4 (iv := a2) hx hb hts mc_in4 hown hK hP hI hS (q := q) hk1 3 (by decide) (hts _ gm_111) rfl rfl rfl dM_begin_12 (fun H locs hP hS => ?_)
  have hP : va_P (dC, dI) al_cl (fl_ws 32 (mc_sh ca ad) ad (fl_up (fl_up (fl_up g q 1 a0) q 2 a1) q 3 a2)) H := hP
  refine lv_aload_n hx hb dM_begin_15 rfl (lv_at hl 0 rfl) ?_
  refine lv_iconst (v := 0) hx hb dM_begin_16 (by decide) ?_
  refine mc_put4 (iv := 0) hx hb hts mc_in4 hown hK hP hI hS (q := q) hk1 4 (by decide) (hts _ gm_112) rfl rfl rfl dM_begin_17 (fun H locs hP hS => ?_)
  have hP : va_P (dC, dI) al_cl (fl_ws 32 (mc_sh ca ad) ad (fl_up (fl_up (fl_up (fl_up g q 1 a0) q 2 a1) q 3 a2) q 4 0)) H := hP
  exact fl_vret hx hb hr hlocks hP hS h dM_begin_20
def yM_end : MethodName := ⟨"MeshedSpans$Miniheap", "end", "()V"⟩
def wM_end : List Cond := .code yM_end prog_5_method_3_code 1 none :: gw
theorem kM_end {R : Room} {s : State} {args : Array Value} {own : String} {ix : Nat} (hts : ∀ w ∈ gw, w.before args s = true) (hl : (Cond.methodLink own ix yM_end).before args s = true) (hR : 0 + 1 ≤ R.frames ∧ 8 + (1 + 11) + 0 ≤ R.locals) : CallW R s args own "MeshedSpans$Miniheap" ix yM_end prog_5_method_3_code 1 none wM_end { frames := 0, cells := 0, slots := 0, locals := 0 } 0 0 0 := ⟨callB_of (rm := { frames := 0, cells := 0, slots := 0, locals := 0 }) 0 hts (gw_c (ct := .code yM_end prog_5_method_3_code 1 none) gm_371) rfl rfl rfl (hts _ gm_45) hl (by decide +kernel) hR, hts _ gm_369, hts _ gm_370⟩
theorem dM_end_0 : decode prog_5_method_3_code 0 = .ok (.aload_n 0, 1) := by decide +kernel
theorem dM_end_1 : decode prog_5_method_3_code 1 = .ok (.iconst (-1), 1) := by decide +kernel
theorem dM_end_2 : decode prog_5_method_3_code 2 = .ok (.putfield 15, 3) := by decide +kernel
theorem dM_end_5 : decode prog_5_method_3_code 5 = .ok (.aload_n 0, 1) := by decide +kernel
theorem dM_end_6 : decode prog_5_method_3_code 6 = .ok (.iconst (-1), 1) := by decide +kernel
theorem dM_end_7 : decode prog_5_method_3_code 7 = .ok (.putfield 18, 3) := by decide +kernel
theorem dM_end_10 : decode prog_5_method_3_code 10 = .ok (.aload_n 0, 1) := by decide +kernel
theorem dM_end_11 : decode prog_5_method_3_code 11 = .ok (.iconst (-1), 1) := by decide +kernel
theorem dM_end_12 : decode prog_5_method_3_code 12 = .ok (.putfield 21, 3) := by decide +kernel
theorem dM_end_15 : decode prog_5_method_3_code 15 = .ok (.aload_n 0, 1) := by decide +kernel
theorem dM_end_16 : decode prog_5_method_3_code 16 = .ok (.iconst 0, 1) := by decide +kernel
theorem dM_end_17 : decode prog_5_method_3_code 17 = .ok (.putfield 24, 3) := by decide +kernel
theorem dM_end_20 : decode prog_5_method_3_code 20 = .ok (.return_, 1) := by decide +kernel
def fM_end (q : Nat) (g : fl_G) : Option (Unit × fl_G) :=
  fl_ck (mc_kd q = 4) (some ((), (fl_up (fl_up (fl_up (fl_up g q 1 (-1)) q 2 (-1)) q 3 (-1)) q 4 0)))
set_option maxHeartbeats 4000000 in
set_option maxRecDepth 100000 in
theorem cM_end (l : Launch) (dC : Nat → ClassId) (dI : Nat → Nat → Nat) (ca : Nat → ClassId) (ad : Nat → Nat) (hI : fl_inj 32 ad) (q : Nat) {g g1 : fl_G} {r : Unit} (h : fM_end q g = some (r, g1)) : Met l yM_end wM_end ({ frames := 0, cells := 0, slots := 0, locals := 0 }) (va_Pc [.ref (ad q)] (fl_Pre (dC, dI) al_cl 32 (mc_sh ca ad) ad (mc_ty ca) mc_ns g)) (fl_QV (dC, dI) al_cl 32 (mc_sh ca ad) ad g1) 0 0 (fl_A 32 ad) := by
  refine fl_of (cc := prog_5_method_3_code) (maxL := 1) (ret := none) (by decide) rfl (Nat.le_of_ble_eq_true rfl) ?_
  intro p e s m below meth c ls hx hb hr hml hts hown hlocks hP hK hN hl
  have hown : s.vm.findClass "MeshedSpans$Miniheap" = some m.cls := hown
  have hS : va_S (fl_A 32 ad) s.heap s.heap [] := va_S.rf
  have hl : lv_has ls 1 [(0, .ref (ad q))] := hl
  unfold fM_end at h
  refine lv_aload_n hx hb dM_end_0 rfl (lv_at hl 0 rfl) ?_
  refine lv_iconst (v := (-1)) hx hb dM_end_1 (by decide) ?_
  replace h := fl_ck_some h
  obtain ⟨hk1, h⟩ := h
  refine mc_put4 (iv := (-1)) hx hb hts mc_in4 hown hK hP hI hS (q := q) hk1 1 (by decide) (hts _ gm_109) rfl rfl rfl dM_end_2 (fun H locs hP hS => ?_)
  have hP : va_P (dC, dI) al_cl (fl_ws 32 (mc_sh ca ad) ad (fl_up g q 1 (-1))) H := hP
  refine lv_aload_n hx hb dM_end_5 rfl (lv_at hl 0 rfl) ?_
  refine lv_iconst (v := (-1)) hx hb dM_end_6 (by decide) ?_
  refine mc_put4 (iv := (-1)) hx hb hts mc_in4 hown hK hP hI hS (q := q) hk1 2 (by decide) (hts _ gm_110) rfl rfl rfl dM_end_7 (fun H locs hP hS => ?_)
  have hP : va_P (dC, dI) al_cl (fl_ws 32 (mc_sh ca ad) ad (fl_up (fl_up g q 1 (-1)) q 2 (-1))) H := hP
  refine lv_aload_n hx hb dM_end_10 rfl (lv_at hl 0 rfl) ?_
  refine lv_iconst (v := (-1)) hx hb dM_end_11 (by decide) ?_
  refine mc_put4 (iv := (-1)) hx hb hts mc_in4 hown hK hP hI hS (q := q) hk1 3 (by decide) (hts _ gm_111) rfl rfl rfl dM_end_12 (fun H locs hP hS => ?_)
  have hP : va_P (dC, dI) al_cl (fl_ws 32 (mc_sh ca ad) ad (fl_up (fl_up (fl_up g q 1 (-1)) q 2 (-1)) q 3 (-1))) H := hP
  refine lv_aload_n hx hb dM_end_15 rfl (lv_at hl 0 rfl) ?_
  refine lv_iconst (v := 0) hx hb dM_end_16 (by decide) ?_
  refine mc_put4 (iv := 0) hx hb hts mc_in4 hown hK hP hI hS (q := q) hk1 4 (by decide) (hts _ gm_112) rfl rfl rfl dM_end_17 (fun H locs hP hS => ?_)
  have hP : va_P (dC, dI) al_cl (fl_ws 32 (mc_sh ca ad) ad (fl_up (fl_up (fl_up (fl_up g q 1 (-1)) q 2 (-1)) q 3 (-1)) q 4 0)) H := hP
  exact fl_vret hx hb hr hlocks hP hS h dM_end_20
def yM_exists : MethodName := ⟨"MeshedSpans$Miniheap", "exists", "()Z"⟩
def wM_exists : List Cond := .code yM_exists prog_5_method_4_code 1 (some .boolean) :: gw
theorem kM_exists {R : Room} {s : State} {args : Array Value} {own : String} {ix : Nat} (hts : ∀ w ∈ gw, w.before args s = true) (hl : (Cond.methodLink own ix yM_exists).before args s = true) (hR : 1 + 1 ≤ R.frames ∧ 8 + (1 + 11) + 20 ≤ R.locals) : CallW R s args own "MeshedSpans$Miniheap" ix yM_exists prog_5_method_4_code 1 (some .boolean) wM_exists { frames := 1, cells := 0, slots := 0, locals := 20 } 0 0 0 := ⟨callB_of (rm := { frames := 1, cells := 0, slots := 0, locals := 20 }) 0 hts (gw_c (ct := .code yM_exists prog_5_method_4_code 1 (some .boolean)) gm_330) rfl rfl rfl (hts _ gm_45) hl (by decide +kernel) hR, hts _ gm_328, hts _ gm_329⟩
theorem dM_exists_0 : decode prog_5_method_4_code 0 = .ok (.aload_n 0, 1) := by decide +kernel
theorem dM_exists_1 : decode prog_5_method_4_code 1 = .ok (.getfield 18, 3) := by decide +kernel
theorem dM_exists_4 : decode prog_5_method_4_code 4 = .ok (.invokestatic 27, 3) := by decide +kernel
theorem dM_exists_7 : decode prog_5_method_4_code 7 = .ok (.ireturn, 1) := by decide +kernel
def fM_exists (q : Nat) (g : fl_G) : Option (Int32 × fl_G) :=
  fl_ck (mc_kd q = 4) (fl_bd (fS_isClass (g q 2) g) (fun r2 g3 => fl_ck (fl_bo r2) (some (r2, g3))))
set_option maxHeartbeats 4000000 in
set_option maxRecDepth 100000 in
theorem cM_exists (l : Launch) (dC : Nat → ClassId) (dI : Nat → Nat → Nat) (ca : Nat → ClassId) (ad : Nat → Nat) (hI : fl_inj 32 ad) (q : Nat) {g g1 : fl_G} {r : Int32} (h : fM_exists q g = some (r, g1)) : Met l yM_exists wM_exists ({ frames := 1, cells := 0, slots := 0, locals := 20 }) (va_Pc [.ref (ad q)] (fl_Pre (dC, dI) al_cl 32 (mc_sh ca ad) ad (mc_ty ca) mc_ns g)) (fl_QI (dC, dI) al_cl 32 (mc_sh ca ad) ad r g1) 0 0 (fl_A 32 ad) := by
  refine fl_of (cc := prog_5_method_4_code) (maxL := 1) (ret := (some .boolean)) (by decide) rfl (Nat.le_of_ble_eq_true rfl) ?_
  intro p e s m below meth c ls hx hb hr hml hts hown hlocks hP hK hN hl
  have hown : s.vm.findClass "MeshedSpans$Miniheap" = some m.cls := hown
  have hS : va_S (fl_A 32 ad) s.heap s.heap [] := va_S.rf
  have hl : lv_has ls 1 [(0, .ref (ad q))] := hl
  unfold fM_exists at h
  refine lv_aload_n hx hb dM_exists_0 rfl (lv_at hl 0 rfl) ?_
  replace h := fl_ck_some h
  obtain ⟨hk1, h⟩ := h
  refine mc_get4 (v := .int (g q 2)) hx hb hts mc_in4 hown hK hP (q := q) hk1 2 (by decide) (hts _ gm_110) rfl dM_exists_1 ?_
  replace h := fl_bd_some h
  obtain ⟨r2, g3, hc4, h⟩ := h
  refine fl_calli (va_runSN (As := [.int (g q 2)]) (rest := []) ⟨hx, hb, hml, hown, hts⟩ (cS_isClass l dC dI ca ad hI (g q 2) hc4) (kS_isClass_N hts (hN.use _ nm_12) ⟨Nat.le_of_ble_eq_true rfl, Nat.le_of_ble_eq_true rfl⟩) (fl_preS hK hP hN) rfl rfl hl.1 rfl (lv_room (Nat.le_of_ble_eq_true rfl)) dM_exists_4 ⟨Nat.le_refl 0, Nat.le_refl 0⟩) hS (fun H locs hP hS => ?_)
  replace h := fl_ck_some h
  obtain ⟨hb5, h⟩ := h
  exact fl_zret hx hb hr hlocks hP hS hb5 h dM_exists_7
def yM_isOf : MethodName := ⟨"MeshedSpans$Miniheap", "isOf", "(I)Z"⟩
def wM_isOf : List Cond := .code yM_isOf prog_5_method_5_code 2 (some .boolean) :: gw
theorem kM_isOf {R : Room} {s : State} {args : Array Value} {own : String} {ix : Nat} (hts : ∀ w ∈ gw, w.before args s = true) (hl : (Cond.methodLink own ix yM_isOf).before args s = true) (hR : 0 + 1 ≤ R.frames ∧ 8 + (2 + 11) + 0 ≤ R.locals) : CallW R s args own "MeshedSpans$Miniheap" ix yM_isOf prog_5_method_5_code 2 (some .boolean) wM_isOf { frames := 0, cells := 0, slots := 0, locals := 0 } 0 0 1 := ⟨callB_of (rm := { frames := 0, cells := 0, slots := 0, locals := 0 }) 1 hts (gw_c (ct := .code yM_isOf prog_5_method_5_code 2 (some .boolean)) gm_237) rfl rfl rfl (hts _ gm_45) hl (by decide +kernel) hR, hts _ gm_235, hts _ gm_236⟩
theorem dM_isOf_0 : decode prog_5_method_5_code 0 = .ok (.aload_n 0, 1) := by decide +kernel
theorem dM_isOf_1 : decode prog_5_method_5_code 1 = .ok (.getfield 18, 3) := by decide +kernel
theorem dM_isOf_4 : decode prog_5_method_5_code 4 = .ok (.iload_n 1, 1) := by decide +kernel
theorem dM_isOf_5 : decode prog_5_method_5_code 5 = .ok (.if_icmp .ne 7, 3) := by decide +kernel
theorem dM_isOf_8 : decode prog_5_method_5_code 8 = .ok (.iconst 1, 1) := by decide +kernel
theorem dM_isOf_9 : decode prog_5_method_5_code 9 = .ok (.goto 4, 3) := by decide +kernel
theorem dM_isOf_12 : decode prog_5_method_5_code 12 = .ok (.iconst 0, 1) := by decide +kernel
theorem dM_isOf_13 : decode prog_5_method_5_code 13 = .ok (.ireturn, 1) := by decide +kernel
def fM_isOf (q : Nat) (a0 : Int32) (g : fl_G) : Option (Int32 × fl_G) :=
  fl_ck (mc_kd q = 4) (if (g q 2) = a0 then (some (1, g)) else (some (0, g)))
set_option maxHeartbeats 4000000 in
set_option maxRecDepth 100000 in
theorem cM_isOf (l : Launch) (dC : Nat → ClassId) (dI : Nat → Nat → Nat) (ca : Nat → ClassId) (ad : Nat → Nat) (hI : fl_inj 32 ad) (q : Nat) (a0 : Int32) {g g1 : fl_G} {r : Int32} (h : fM_isOf q a0 g = some (r, g1)) : Met l yM_isOf wM_isOf ({ frames := 0, cells := 0, slots := 0, locals := 0 }) (va_Pc [.ref (ad q), .int a0] (fl_Pre (dC, dI) al_cl 32 (mc_sh ca ad) ad (mc_ty ca) mc_ns g)) (fl_QI (dC, dI) al_cl 32 (mc_sh ca ad) ad r g1) 0 0 (fl_A 32 ad) := by
  refine fl_of (cc := prog_5_method_5_code) (maxL := 2) (ret := (some .boolean)) (by decide) rfl (Nat.le_of_ble_eq_true rfl) ?_
  intro p e s m below meth c ls hx hb hr hml hts hown hlocks hP hK hN hl
  have hown : s.vm.findClass "MeshedSpans$Miniheap" = some m.cls := hown
  have hS : va_S (fl_A 32 ad) s.heap s.heap [] := va_S.rf
  have hl : lv_has ls 2 [(0, .ref (ad q)), (1, .int a0)] := hl
  unfold fM_isOf at h
  refine lv_aload_n hx hb dM_isOf_0 rfl (lv_at hl 0 rfl) ?_
  replace h := fl_ck_some h
  obtain ⟨hk1, h⟩ := h
  refine mc_get4 (v := .int (g q 2)) hx hb hts mc_in4 hown hK hP (q := q) hk1 2 (by decide) (hts _ gm_110) rfl dM_isOf_1 ?_
  refine lv_iload_n hx hb dM_isOf_4 rfl (lv_at hl 1 rfl) ?_
  refine lv_icmp_ne (tgt := 12) hx hb dM_isOf_5 (by decide) (fun c2 => ?_) (fun c2 => ?_)
  · replace h := fl_neg c2 h
    refine lv_iconst (v := 0) hx hb dM_isOf_12 (by decide) ?_
    exact fl_zret hx hb hr hlocks hP hS (Or.inl rfl) h dM_isOf_13
  · replace h := fl_pos c2 h
    refine lv_iconst (v := 1) hx hb dM_isOf_8 (by decide) ?_
    refine lv_goto (tgt := 13) hx hb dM_isOf_9 (by decide) ?_
    exact fl_zret hx hb hr hlocks hP hS (Or.inr rfl) h dM_isOf_13
def yM_isEmpty : MethodName := ⟨"MeshedSpans$Miniheap", "isEmpty", "()Z"⟩
def wM_isEmpty : List Cond := .code yM_isEmpty prog_5_method_6_code 1 (some .boolean) :: gw
theorem kM_isEmpty {R : Room} {s : State} {args : Array Value} {own : String} {ix : Nat} (hts : ∀ w ∈ gw, w.before args s = true) (hl : (Cond.methodLink own ix yM_isEmpty).before args s = true) (hR : 0 + 1 ≤ R.frames ∧ 8 + (1 + 11) + 0 ≤ R.locals) : CallW R s args own "MeshedSpans$Miniheap" ix yM_isEmpty prog_5_method_6_code 1 (some .boolean) wM_isEmpty { frames := 0, cells := 0, slots := 0, locals := 0 } 0 0 0 := ⟨callB_of (rm := { frames := 0, cells := 0, slots := 0, locals := 0 }) 0 hts (gw_c (ct := .code yM_isEmpty prog_5_method_6_code 1 (some .boolean)) gm_362) rfl rfl rfl (hts _ gm_45) hl (by decide +kernel) hR, hts _ gm_360, hts _ gm_361⟩
theorem dM_isEmpty_0 : decode prog_5_method_6_code 0 = .ok (.aload_n 0, 1) := by decide +kernel
theorem dM_isEmpty_1 : decode prog_5_method_6_code 1 = .ok (.getfield 24, 3) := by decide +kernel
theorem dM_isEmpty_4 : decode prog_5_method_6_code 4 = .ok (.ifCond .ne 7, 3) := by decide +kernel
theorem dM_isEmpty_7 : decode prog_5_method_6_code 7 = .ok (.iconst 1, 1) := by decide +kernel
theorem dM_isEmpty_8 : decode prog_5_method_6_code 8 = .ok (.goto 4, 3) := by decide +kernel
theorem dM_isEmpty_11 : decode prog_5_method_6_code 11 = .ok (.iconst 0, 1) := by decide +kernel
theorem dM_isEmpty_12 : decode prog_5_method_6_code 12 = .ok (.ireturn, 1) := by decide +kernel
def fM_isEmpty (q : Nat) (g : fl_G) : Option (Int32 × fl_G) :=
  fl_ck (mc_kd q = 4) (if (g q 4) = 0 then (some (1, g)) else (some (0, g)))
set_option maxHeartbeats 4000000 in
set_option maxRecDepth 100000 in
theorem cM_isEmpty (l : Launch) (dC : Nat → ClassId) (dI : Nat → Nat → Nat) (ca : Nat → ClassId) (ad : Nat → Nat) (hI : fl_inj 32 ad) (q : Nat) {g g1 : fl_G} {r : Int32} (h : fM_isEmpty q g = some (r, g1)) : Met l yM_isEmpty wM_isEmpty ({ frames := 0, cells := 0, slots := 0, locals := 0 }) (va_Pc [.ref (ad q)] (fl_Pre (dC, dI) al_cl 32 (mc_sh ca ad) ad (mc_ty ca) mc_ns g)) (fl_QI (dC, dI) al_cl 32 (mc_sh ca ad) ad r g1) 0 0 (fl_A 32 ad) := by
  refine fl_of (cc := prog_5_method_6_code) (maxL := 1) (ret := (some .boolean)) (by decide) rfl (Nat.le_of_ble_eq_true rfl) ?_
  intro p e s m below meth c ls hx hb hr hml hts hown hlocks hP hK hN hl
  have hown : s.vm.findClass "MeshedSpans$Miniheap" = some m.cls := hown
  have hS : va_S (fl_A 32 ad) s.heap s.heap [] := va_S.rf
  have hl : lv_has ls 1 [(0, .ref (ad q))] := hl
  unfold fM_isEmpty at h
  refine lv_aload_n hx hb dM_isEmpty_0 rfl (lv_at hl 0 rfl) ?_
  replace h := fl_ck_some h
  obtain ⟨hk1, h⟩ := h
  refine mc_get4 (v := .int (g q 4)) hx hb hts mc_in4 hown hK hP (q := q) hk1 4 (by decide) (hts _ gm_112) rfl dM_isEmpty_1 ?_
  refine lv_if_ne (tgt := 11) hx hb dM_isEmpty_4 (by decide) (fun c2 => ?_) (fun c2 => ?_)
  · replace h := fl_neg c2 h
    refine lv_iconst (v := 0) hx hb dM_isEmpty_11 (by decide) ?_
    exact fl_zret hx hb hr hlocks hP hS (Or.inl rfl) h dM_isEmpty_12
  · replace h := fl_pos c2 h
    refine lv_iconst (v := 1) hx hb dM_isEmpty_7 (by decide) ?_
    refine lv_goto (tgt := 12) hx hb dM_isEmpty_8 (by decide) ?_
    exact fl_zret hx hb hr hlocks hP hS (Or.inr rfl) h dM_isEmpty_12
def yM_usedCells : MethodName := ⟨"MeshedSpans$Miniheap", "usedCells", "()I"⟩
def wM_usedCells : List Cond := .code yM_usedCells prog_5_method_9_code 1 (some .int) :: gw
theorem kM_usedCells {R : Room} {s : State} {args : Array Value} {own : String} {ix : Nat} (hts : ∀ w ∈ gw, w.before args s = true) (hl : (Cond.methodLink own ix yM_usedCells).before args s = true) (hR : 1 + 1 ≤ R.frames ∧ 8 + (1 + 11) + 20 ≤ R.locals) : CallW R s args own "MeshedSpans$Miniheap" ix yM_usedCells prog_5_method_9_code 1 (some .int) wM_usedCells { frames := 1, cells := 0, slots := 0, locals := 20 } 0 0 0 := ⟨callB_of (rm := { frames := 1, cells := 0, slots := 0, locals := 20 }) 0 hts (gw_c (ct := .code yM_usedCells prog_5_method_9_code 1 (some .int)) gm_245) rfl rfl rfl (hts _ gm_45) hl (by decide +kernel) hR, hts _ gm_243, hts _ gm_244⟩
theorem dM_usedCells_0 : decode prog_5_method_9_code 0 = .ok (.aload_n 0, 1) := by decide +kernel
theorem dM_usedCells_1 : decode prog_5_method_9_code 1 = .ok (.getfield 24, 3) := by decide +kernel
theorem dM_usedCells_4 : decode prog_5_method_9_code 4 = .ok (.invokestatic 39, 3) := by decide +kernel
theorem dM_usedCells_7 : decode prog_5_method_9_code 7 = .ok (.ireturn, 1) := by decide +kernel
def fM_usedCells (q : Nat) (g : fl_G) : Option (Int32 × fl_G) :=
  fl_ck (mc_kd q = 4) (fl_bd (fJ_bitCount (g q 4) g) (fun r2 g3 => some (r2, g3)))
set_option maxHeartbeats 4000000 in
set_option maxRecDepth 100000 in
theorem cM_usedCells (l : Launch) (dC : Nat → ClassId) (dI : Nat → Nat → Nat) (ca : Nat → ClassId) (ad : Nat → Nat) (hI : fl_inj 32 ad) (q : Nat) {g g1 : fl_G} {r : Int32} (h : fM_usedCells q g = some (r, g1)) : Met l yM_usedCells wM_usedCells ({ frames := 1, cells := 0, slots := 0, locals := 20 }) (va_Pc [.ref (ad q)] (fl_Pre (dC, dI) al_cl 32 (mc_sh ca ad) ad (mc_ty ca) mc_ns g)) (fl_QI (dC, dI) al_cl 32 (mc_sh ca ad) ad r g1) 0 0 (fl_A 32 ad) := by
  refine fl_of (cc := prog_5_method_9_code) (maxL := 1) (ret := (some .int)) (by decide) rfl (Nat.le_of_ble_eq_true rfl) ?_
  intro p e s m below meth c ls hx hb hr hml hts hown hlocks hP hK hN hl
  have hown : s.vm.findClass "MeshedSpans$Miniheap" = some m.cls := hown
  have hS : va_S (fl_A 32 ad) s.heap s.heap [] := va_S.rf
  have hl : lv_has ls 1 [(0, .ref (ad q))] := hl
  unfold fM_usedCells at h
  refine lv_aload_n hx hb dM_usedCells_0 rfl (lv_at hl 0 rfl) ?_
  replace h := fl_ck_some h
  obtain ⟨hk1, h⟩ := h
  refine mc_get4 (v := .int (g q 4)) hx hb hts mc_in4 hown hK hP (q := q) hk1 4 (by decide) (hts _ gm_112) rfl dM_usedCells_1 ?_
  replace h := fl_bd_some h
  obtain ⟨r2, g3, hc4, h⟩ := h
  refine fl_calli (va_runS (As := [.int (g q 4)]) (rest := []) ⟨hx, hb, hml, hown, hts⟩ (cJ_bitCount l dC dI ca ad hI (g q 4) hc4) (kJ_bitCount hts (hts _ gm_246) ⟨Nat.le_of_ble_eq_true rfl, Nat.le_of_ble_eq_true rfl⟩) (fl_preS hK hP hN) rfl rfl hl.1 rfl (lv_room (Nat.le_of_ble_eq_true rfl)) dM_usedCells_4 ⟨Nat.le_refl 0, Nat.le_refl 0⟩) hS (fun H locs hP hS => ?_)
  exact fl_iret hx hb hr hlocks hP hS h dM_usedCells_7
def yM_isFull : MethodName := ⟨"MeshedSpans$Miniheap", "isFull", "()Z"⟩
def wM_isFull : List Cond := .code yM_isFull prog_5_method_7_code 1 (some .boolean) :: gw
theorem kM_isFull {R : Room} {s : State} {args : Array Value} {own : String} {ix : Nat} (hts : ∀ w ∈ gw, w.before args s = true) (hl : (Cond.methodLink own ix yM_isFull).before args s = true) (hR : 2 + 1 ≤ R.frames ∧ 8 + (1 + 11) + 40 ≤ R.locals) : CallW R s args own "MeshedSpans$Miniheap" ix yM_isFull prog_5_method_7_code 1 (some .boolean) wM_isFull { frames := 2, cells := 0, slots := 0, locals := 40 } 0 0 0 := ⟨callB_of (rm := { frames := 2, cells := 0, slots := 0, locals := 40 }) 0 hts (gw_c (ct := .code yM_isFull prog_5_method_7_code 1 (some .boolean)) gm_241) rfl rfl rfl (hts _ gm_45) hl (by decide +kernel) hR, hts _ gm_239, hts _ gm_240⟩
theorem dM_isFull_0 : decode prog_5_method_7_code 0 = .ok (.aload_n 0, 1) := by decide +kernel
theorem dM_isFull_1 : decode prog_5_method_7_code 1 = .ok (.invokevirtual 31, 3) := by decide +kernel
theorem dM_isFull_4 : decode prog_5_method_7_code 4 = .ok (.aload_n 0, 1) := by decide +kernel
theorem dM_isFull_5 : decode prog_5_method_7_code 5 = .ok (.getfield 18, 3) := by decide +kernel
theorem dM_isFull_8 : decode prog_5_method_7_code 8 = .ok (.invokestatic 35, 3) := by decide +kernel
theorem dM_isFull_11 : decode prog_5_method_7_code 11 = .ok (.if_icmp .ne 7, 3) := by decide +kernel
theorem dM_isFull_14 : decode prog_5_method_7_code 14 = .ok (.iconst 1, 1) := by decide +kernel
theorem dM_isFull_15 : decode prog_5_method_7_code 15 = .ok (.goto 4, 3) := by decide +kernel
theorem dM_isFull_18 : decode prog_5_method_7_code 18 = .ok (.iconst 0, 1) := by decide +kernel
theorem dM_isFull_19 : decode prog_5_method_7_code 19 = .ok (.ireturn, 1) := by decide +kernel
def fM_isFull (q : Nat) (g : fl_G) : Option (Int32 × fl_G) :=
  fl_ck (mc_kd q = 4) (fl_bd (fM_usedCells q g) (fun r2 g3 => fl_bd (fS_cellsOfClass (g3 q 2) g3) (fun r5 g6 => if r2 = r5 then (some (1, g6)) else (some (0, g6)))))
set_option maxHeartbeats 4000000 in
set_option maxRecDepth 100000 in
theorem cM_isFull (l : Launch) (dC : Nat → ClassId) (dI : Nat → Nat → Nat) (ca : Nat → ClassId) (ad : Nat → Nat) (hI : fl_inj 32 ad) (q : Nat) {g g1 : fl_G} {r : Int32} (h : fM_isFull q g = some (r, g1)) : Met l yM_isFull wM_isFull ({ frames := 2, cells := 0, slots := 0, locals := 40 }) (va_Pc [.ref (ad q)] (fl_Pre (dC, dI) al_cl 32 (mc_sh ca ad) ad (mc_ty ca) mc_ns g)) (fl_QI (dC, dI) al_cl 32 (mc_sh ca ad) ad r g1) 0 0 (fl_A 32 ad) := by
  refine fl_of (cc := prog_5_method_7_code) (maxL := 1) (ret := (some .boolean)) (by decide) rfl (Nat.le_of_ble_eq_true rfl) ?_
  intro p e s m below meth c ls hx hb hr hml hts hown hlocks hP hK hN hl
  have hown : s.vm.findClass "MeshedSpans$Miniheap" = some m.cls := hown
  have hS : va_S (fl_A 32 ad) s.heap s.heap [] := va_S.rf
  have hl : lv_has ls 1 [(0, .ref (ad q))] := hl
  unfold fM_isFull at h
  refine lv_aload_n hx hb dM_isFull_0 rfl (lv_at hl 0 rfl) ?_
  replace h := fl_ck_some h
  obtain ⟨hk1, h⟩ := h
  replace h := fl_bd_some h
  obtain ⟨r2, g3, hc4, h⟩ := h
  refine fl_calli (va_runV (As := []) (rest := []) ⟨hx, hb, hml, hown, hts⟩ (cM_usedCells l dC dI ca ad hI q hc4) (kM_usedCells hts (hts _ gm_242) ⟨Nat.le_of_ble_eq_true rfl, Nat.le_of_ble_eq_true rfl⟩) (fl_preV hK hP hN (mc_lt hk1 (by decide)) (mc_sh4 hk1) rfl) rfl rfl hl.1 rfl (lv_room (Nat.le_of_ble_eq_true rfl)) dM_isFull_1 ⟨Nat.le_refl 0, Nat.le_refl 0⟩) hS (fun H locs hP hS => ?_)
  refine lv_aload_n hx hb dM_isFull_4 rfl (lv_at hl 0 rfl) ?_
  refine mc_get4 (v := .int (g3 q 2)) hx hb hts mc_in4 hown hK hP (q := q) hk1 2 (by decide) (hts _ gm_110) rfl dM_isFull_5 ?_
  replace h := fl_bd_some h
  obtain ⟨r5, g6, hc7, h⟩ := h
  refine fl_calli (va_runSN (As := [.int (g3 q 2)]) (rest := [.int r2]) ⟨hx, hb, hml, hown, hts⟩ (cS_cellsOfClass l dC dI ca ad hI (g3 q 2) hc7) (kS_cellsOfClass_N hts (hN.use _ nm_8) ⟨Nat.le_of_ble_eq_true rfl, Nat.le_of_ble_eq_true rfl⟩) (fl_preS hK hP hN) rfl rfl hl.1 rfl (lv_room (Nat.le_of_ble_eq_true rfl)) dM_isFull_8 ⟨Nat.le_refl 0, Nat.le_refl 0⟩) hS (fun H locs hP hS => ?_)
  refine lv_icmp_ne (tgt := 18) hx hb dM_isFull_11 (by decide) (fun c8 => ?_) (fun c8 => ?_)
  · replace h := fl_neg c8 h
    refine lv_iconst (v := 0) hx hb dM_isFull_18 (by decide) ?_
    exact fl_zret hx hb hr hlocks hP hS (Or.inl rfl) h dM_isFull_19
  · replace h := fl_pos c8 h
    refine lv_iconst (v := 1) hx hb dM_isFull_14 (by decide) ?_
    refine lv_goto (tgt := 19) hx hb dM_isFull_15 (by decide) ?_
    exact fl_zret hx hb hr hlocks hP hS (Or.inr rfl) h dM_isFull_19
def yM_isUsed : MethodName := ⟨"MeshedSpans$Miniheap", "isUsed", "(I)Z"⟩
def wM_isUsed : List Cond := .code yM_isUsed prog_5_method_8_code 2 (some .boolean) :: gw
theorem kM_isUsed {R : Room} {s : State} {args : Array Value} {own : String} {ix : Nat} (hts : ∀ w ∈ gw, w.before args s = true) (hl : (Cond.methodLink own ix yM_isUsed).before args s = true) (hR : 0 + 1 ≤ R.frames ∧ 8 + (2 + 11) + 0 ≤ R.locals) : CallW R s args own "MeshedSpans$Miniheap" ix yM_isUsed prog_5_method_8_code 2 (some .boolean) wM_isUsed { frames := 0, cells := 0, slots := 0, locals := 0 } 0 0 1 := ⟨callB_of (rm := { frames := 0, cells := 0, slots := 0, locals := 0 }) 1 hts (gw_c (ct := .code yM_isUsed prog_5_method_8_code 2 (some .boolean)) gm_273) rfl rfl rfl (hts _ gm_45) hl (by decide +kernel) hR, hts _ gm_271, hts _ gm_272⟩
theorem dM_isUsed_0 : decode prog_5_method_8_code 0 = .ok (.aload_n 0, 1) := by decide +kernel
theorem dM_isUsed_1 : decode prog_5_method_8_code 1 = .ok (.getfield 24, 3) := by decide +kernel
theorem dM_isUsed_4 : decode prog_5_method_8_code 4 = .ok (.iconst 1, 1) := by decide +kernel
theorem dM_isUsed_5 : decode prog_5_method_8_code 5 = .ok (.iload_n 1, 1) := by decide +kernel
theorem dM_isUsed_6 : decode prog_5_method_8_code 6 = .ok (.ishl, 1) := by decide +kernel
theorem dM_isUsed_7 : decode prog_5_method_8_code 7 = .ok (.iand, 1) := by decide +kernel
theorem dM_isUsed_8 : decode prog_5_method_8_code 8 = .ok (.ifCond .eq 7, 3) := by decide +kernel
theorem dM_isUsed_11 : decode prog_5_method_8_code 11 = .ok (.iconst 1, 1) := by decide +kernel
theorem dM_isUsed_12 : decode prog_5_method_8_code 12 = .ok (.goto 4, 3) := by decide +kernel
theorem dM_isUsed_15 : decode prog_5_method_8_code 15 = .ok (.iconst 0, 1) := by decide +kernel
theorem dM_isUsed_16 : decode prog_5_method_8_code 16 = .ok (.ireturn, 1) := by decide +kernel
def fM_isUsed (q : Nat) (a0 : Int32) (g : fl_G) : Option (Int32 × fl_G) :=
  fl_ck (mc_kd q = 4) (if ((g q 4) &&& (1 <<< (a0 &&& 31))) = 0 then (some (0, g)) else (some (1, g)))
set_option maxHeartbeats 4000000 in
set_option maxRecDepth 100000 in
theorem cM_isUsed (l : Launch) (dC : Nat → ClassId) (dI : Nat → Nat → Nat) (ca : Nat → ClassId) (ad : Nat → Nat) (hI : fl_inj 32 ad) (q : Nat) (a0 : Int32) {g g1 : fl_G} {r : Int32} (h : fM_isUsed q a0 g = some (r, g1)) : Met l yM_isUsed wM_isUsed ({ frames := 0, cells := 0, slots := 0, locals := 0 }) (va_Pc [.ref (ad q), .int a0] (fl_Pre (dC, dI) al_cl 32 (mc_sh ca ad) ad (mc_ty ca) mc_ns g)) (fl_QI (dC, dI) al_cl 32 (mc_sh ca ad) ad r g1) 0 0 (fl_A 32 ad) := by
  refine fl_of (cc := prog_5_method_8_code) (maxL := 2) (ret := (some .boolean)) (by decide) rfl (Nat.le_of_ble_eq_true rfl) ?_
  intro p e s m below meth c ls hx hb hr hml hts hown hlocks hP hK hN hl
  have hown : s.vm.findClass "MeshedSpans$Miniheap" = some m.cls := hown
  have hS : va_S (fl_A 32 ad) s.heap s.heap [] := va_S.rf
  have hl : lv_has ls 2 [(0, .ref (ad q)), (1, .int a0)] := hl
  unfold fM_isUsed at h
  refine lv_aload_n hx hb dM_isUsed_0 rfl (lv_at hl 0 rfl) ?_
  replace h := fl_ck_some h
  obtain ⟨hk1, h⟩ := h
  refine mc_get4 (v := .int (g q 4)) hx hb hts mc_in4 hown hK hP (q := q) hk1 4 (by decide) (hts _ gm_112) rfl dM_isUsed_1 ?_
  refine lv_iconst (v := 1) hx hb dM_isUsed_4 (by decide) ?_
  refine lv_iload_n hx hb dM_isUsed_5 rfl (lv_at hl 1 rfl) ?_
  refine lv_ishl hx hb dM_isUsed_6 ?_
  refine lv_iand hx hb dM_isUsed_7 ?_
  refine lv_if_eq (tgt := 15) hx hb dM_isUsed_8 (by decide) (fun c2 => ?_) (fun c2 => ?_)
  · replace h := fl_pos c2 h
    refine lv_iconst (v := 0) hx hb dM_isUsed_15 (by decide) ?_
    exact fl_zret hx hb hr hlocks hP hS (Or.inl rfl) h dM_isUsed_16
  · replace h := fl_neg c2 h
    refine lv_iconst (v := 1) hx hb dM_isUsed_11 (by decide) ?_
    refine lv_goto (tgt := 16) hx hb dM_isUsed_12 (by decide) ?_
    exact fl_zret hx hb hr hlocks hP hS (Or.inr rfl) h dM_isUsed_16
def yM_setUsed : MethodName := ⟨"MeshedSpans$Miniheap", "setUsed", "(I)V"⟩
def wM_setUsed : List Cond := .code yM_setUsed prog_5_method_10_code 2 none :: gw
theorem kM_setUsed {R : Room} {s : State} {args : Array Value} {own : String} {ix : Nat} (hts : ∀ w ∈ gw, w.before args s = true) (hl : (Cond.methodLink own ix yM_setUsed).before args s = true) (hR : 0 + 1 ≤ R.frames ∧ 8 + (2 + 11) + 0 ≤ R.locals) : CallW R s args own "MeshedSpans$Miniheap" ix yM_setUsed prog_5_method_10_code 2 none wM_setUsed { frames := 0, cells := 0, slots := 0, locals := 0 } 0 0 1 := ⟨callB_of (rm := { frames := 0, cells := 0, slots := 0, locals := 0 }) 1 hts (gw_c (ct := .code yM_setUsed prog_5_method_10_code 2 none) gm_295) rfl rfl rfl (hts _ gm_45) hl (by decide +kernel) hR, hts _ gm_293, hts _ gm_294⟩
theorem dM_setUsed_0 : decode prog_5_method_10_code 0 = .ok (.aload_n 0, 1) := by decide +kernel
theorem dM_setUsed_1 : decode prog_5_method_10_code 1 = .ok (.dup, 1) := by decide +kernel
theorem dM_setUsed_2 : decode prog_5_method_10_code 2 = .ok (.getfield 24, 3) := by decide +kernel
theorem dM_setUsed_5 : decode prog_5_method_10_code 5 = .ok (.iconst 1, 1) := by decide +kernel
theorem dM_setUsed_6 : decode prog_5_method_10_code 6 = .ok (.iload_n 1, 1) := by decide +kernel
theorem dM_setUsed_7 : decode prog_5_method_10_code 7 = .ok (.ishl, 1) := by decide +kernel
theorem dM_setUsed_8 : decode prog_5_method_10_code 8 = .ok (.ior, 1) := by decide +kernel
theorem dM_setUsed_9 : decode prog_5_method_10_code 9 = .ok (.putfield 24, 3) := by decide +kernel
theorem dM_setUsed_12 : decode prog_5_method_10_code 12 = .ok (.return_, 1) := by decide +kernel
def fM_setUsed (q : Nat) (a0 : Int32) (g : fl_G) : Option (Unit × fl_G) :=
  fl_ck (mc_kd q = 4) (some ((), (fl_up g q 4 ((g q 4) ||| (1 <<< (a0 &&& 31))))))
set_option maxHeartbeats 4000000 in
set_option maxRecDepth 100000 in
theorem cM_setUsed (l : Launch) (dC : Nat → ClassId) (dI : Nat → Nat → Nat) (ca : Nat → ClassId) (ad : Nat → Nat) (hI : fl_inj 32 ad) (q : Nat) (a0 : Int32) {g g1 : fl_G} {r : Unit} (h : fM_setUsed q a0 g = some (r, g1)) : Met l yM_setUsed wM_setUsed ({ frames := 0, cells := 0, slots := 0, locals := 0 }) (va_Pc [.ref (ad q), .int a0] (fl_Pre (dC, dI) al_cl 32 (mc_sh ca ad) ad (mc_ty ca) mc_ns g)) (fl_QV (dC, dI) al_cl 32 (mc_sh ca ad) ad g1) 0 0 (fl_A 32 ad) := by
  refine fl_of (cc := prog_5_method_10_code) (maxL := 2) (ret := none) (by decide) rfl (Nat.le_of_ble_eq_true rfl) ?_
  intro p e s m below meth c ls hx hb hr hml hts hown hlocks hP hK hN hl
  have hown : s.vm.findClass "MeshedSpans$Miniheap" = some m.cls := hown
  have hS : va_S (fl_A 32 ad) s.heap s.heap [] := va_S.rf
  have hl : lv_has ls 2 [(0, .ref (ad q)), (1, .int a0)] := hl
  unfold fM_setUsed at h
  refine lv_aload_n hx hb dM_setUsed_0 rfl (lv_at hl 0 rfl) ?_
  refine lv_dup hx hb dM_setUsed_1 rfl ?_
  replace h := fl_ck_some h
  obtain ⟨hk1, h⟩ := h
  refine mc_get4 (v := .int (g q 4)) hx hb hts mc_in4 hown hK hP (q := q) hk1 4 (by decide) (hts _ gm_112) rfl dM_setUsed_2 ?_
  refine lv_iconst (v := 1) hx hb dM_setUsed_5 (by decide) ?_
  refine lv_iload_n hx hb dM_setUsed_6 rfl (lv_at hl 1 rfl) ?_
  refine lv_ishl hx hb dM_setUsed_7 ?_
  refine lv_ior hx hb dM_setUsed_8 ?_
  refine mc_put4 (iv := ((g q 4) ||| (1 <<< (a0 &&& 31)))) hx hb hts mc_in4 hown hK hP hI hS (q := q) hk1 4 (by decide) (hts _ gm_112) rfl rfl rfl dM_setUsed_9 (fun H locs hP hS => ?_)
  have hP : va_P (dC, dI) al_cl (fl_ws 32 (mc_sh ca ad) ad (fl_up g q 4 ((g q 4) ||| (1 <<< (a0 &&& 31))))) H := hP
  exact fl_vret hx hb hr hlocks hP hS h dM_setUsed_12
def yM_setFree : MethodName := ⟨"MeshedSpans$Miniheap", "setFree", "(I)V"⟩
def wM_setFree : List Cond := .code yM_setFree prog_5_method_11_code 2 none :: gw
theorem kM_setFree {R : Room} {s : State} {args : Array Value} {own : String} {ix : Nat} (hts : ∀ w ∈ gw, w.before args s = true) (hl : (Cond.methodLink own ix yM_setFree).before args s = true) (hR : 0 + 1 ≤ R.frames ∧ 8 + (2 + 11) + 0 ≤ R.locals) : CallW R s args own "MeshedSpans$Miniheap" ix yM_setFree prog_5_method_11_code 2 none wM_setFree { frames := 0, cells := 0, slots := 0, locals := 0 } 0 0 1 := ⟨callB_of (rm := { frames := 0, cells := 0, slots := 0, locals := 0 }) 1 hts (gw_c (ct := .code yM_setFree prog_5_method_11_code 2 none) gm_352) rfl rfl rfl (hts _ gm_45) hl (by decide +kernel) hR, hts _ gm_350, hts _ gm_351⟩
theorem dM_setFree_0 : decode prog_5_method_11_code 0 = .ok (.aload_n 0, 1) := by decide +kernel
theorem dM_setFree_1 : decode prog_5_method_11_code 1 = .ok (.dup, 1) := by decide +kernel
theorem dM_setFree_2 : decode prog_5_method_11_code 2 = .ok (.getfield 24, 3) := by decide +kernel
theorem dM_setFree_5 : decode prog_5_method_11_code 5 = .ok (.iconst 1, 1) := by decide +kernel
theorem dM_setFree_6 : decode prog_5_method_11_code 6 = .ok (.iload_n 1, 1) := by decide +kernel
theorem dM_setFree_7 : decode prog_5_method_11_code 7 = .ok (.ishl, 1) := by decide +kernel
theorem dM_setFree_8 : decode prog_5_method_11_code 8 = .ok (.iconst (-1), 1) := by decide +kernel
theorem dM_setFree_9 : decode prog_5_method_11_code 9 = .ok (.ixor, 1) := by decide +kernel
theorem dM_setFree_10 : decode prog_5_method_11_code 10 = .ok (.iand, 1) := by decide +kernel
theorem dM_setFree_11 : decode prog_5_method_11_code 11 = .ok (.putfield 24, 3) := by decide +kernel
theorem dM_setFree_14 : decode prog_5_method_11_code 14 = .ok (.return_, 1) := by decide +kernel
def fM_setFree (q : Nat) (a0 : Int32) (g : fl_G) : Option (Unit × fl_G) :=
  fl_ck (mc_kd q = 4) (some ((), (fl_up g q 4 ((g q 4) &&& ((1 <<< (a0 &&& 31)) ^^^ (-1))))))
set_option maxHeartbeats 4000000 in
set_option maxRecDepth 100000 in
theorem cM_setFree (l : Launch) (dC : Nat → ClassId) (dI : Nat → Nat → Nat) (ca : Nat → ClassId) (ad : Nat → Nat) (hI : fl_inj 32 ad) (q : Nat) (a0 : Int32) {g g1 : fl_G} {r : Unit} (h : fM_setFree q a0 g = some (r, g1)) : Met l yM_setFree wM_setFree ({ frames := 0, cells := 0, slots := 0, locals := 0 }) (va_Pc [.ref (ad q), .int a0] (fl_Pre (dC, dI) al_cl 32 (mc_sh ca ad) ad (mc_ty ca) mc_ns g)) (fl_QV (dC, dI) al_cl 32 (mc_sh ca ad) ad g1) 0 0 (fl_A 32 ad) := by
  refine fl_of (cc := prog_5_method_11_code) (maxL := 2) (ret := none) (by decide) rfl (Nat.le_of_ble_eq_true rfl) ?_
  intro p e s m below meth c ls hx hb hr hml hts hown hlocks hP hK hN hl
  have hown : s.vm.findClass "MeshedSpans$Miniheap" = some m.cls := hown
  have hS : va_S (fl_A 32 ad) s.heap s.heap [] := va_S.rf
  have hl : lv_has ls 2 [(0, .ref (ad q)), (1, .int a0)] := hl
  unfold fM_setFree at h
  refine lv_aload_n hx hb dM_setFree_0 rfl (lv_at hl 0 rfl) ?_
  refine lv_dup hx hb dM_setFree_1 rfl ?_
  replace h := fl_ck_some h
  obtain ⟨hk1, h⟩ := h
  refine mc_get4 (v := .int (g q 4)) hx hb hts mc_in4 hown hK hP (q := q) hk1 4 (by decide) (hts _ gm_112) rfl dM_setFree_2 ?_
  refine lv_iconst (v := 1) hx hb dM_setFree_5 (by decide) ?_
  refine lv_iload_n hx hb dM_setFree_6 rfl (lv_at hl 1 rfl) ?_
  refine lv_ishl hx hb dM_setFree_7 ?_
  refine lv_iconst (v := (-1)) hx hb dM_setFree_8 (by decide) ?_
  refine lv_ixor hx hb dM_setFree_9 ?_
  refine lv_iand hx hb dM_setFree_10 ?_
  refine mc_put4 (iv := ((g q 4) &&& ((1 <<< (a0 &&& 31)) ^^^ (-1)))) hx hb hts mc_in4 hown hK hP hI hS (q := q) hk1 4 (by decide) (hts _ gm_112) rfl rfl rfl dM_setFree_11 (fun H locs hP hS => ?_)
  have hP : va_P (dC, dI) al_cl (fl_ws 32 (mc_sh ca ad) ad (fl_up g q 4 ((g q 4) &&& ((1 <<< (a0 &&& 31)) ^^^ (-1))))) H := hP
  exact fl_vret hx hb hr hlocks hP hS h dM_setFree_14
def yM_takeOverCells : MethodName := ⟨"MeshedSpans$Miniheap", "takeOverCells", "(LMeshedSpans$Miniheap;)V"⟩
def wM_takeOverCells : List Cond := .code yM_takeOverCells prog_5_method_12_code 2 none :: gw
theorem kM_takeOverCells {R : Room} {s : State} {args : Array Value} {own : String} {ix : Nat} (hts : ∀ w ∈ gw, w.before args s = true) (hl : (Cond.methodLink own ix yM_takeOverCells).before args s = true) (hR : 0 + 1 ≤ R.frames ∧ 8 + (2 + 11) + 0 ≤ R.locals) : CallW R s args own "MeshedSpans$Miniheap" ix yM_takeOverCells prog_5_method_12_code 2 none wM_takeOverCells { frames := 0, cells := 0, slots := 0, locals := 0 } 0 0 1 := ⟨callB_of (rm := { frames := 0, cells := 0, slots := 0, locals := 0 }) 1 hts (gw_c (ct := .code yM_takeOverCells prog_5_method_12_code 2 none) gm_440) rfl rfl rfl (hts _ gm_45) hl (by decide +kernel) hR, hts _ gm_438, hts _ gm_439⟩
theorem dM_takeOverCells_0 : decode prog_5_method_12_code 0 = .ok (.aload_n 0, 1) := by decide +kernel
theorem dM_takeOverCells_1 : decode prog_5_method_12_code 1 = .ok (.dup, 1) := by decide +kernel
theorem dM_takeOverCells_2 : decode prog_5_method_12_code 2 = .ok (.getfield 24, 3) := by decide +kernel
theorem dM_takeOverCells_5 : decode prog_5_method_12_code 5 = .ok (.aload_n 1, 1) := by decide +kernel
theorem dM_takeOverCells_6 : decode prog_5_method_12_code 6 = .ok (.getfield 24, 3) := by decide +kernel
theorem dM_takeOverCells_9 : decode prog_5_method_12_code 9 = .ok (.ior, 1) := by decide +kernel
theorem dM_takeOverCells_10 : decode prog_5_method_12_code 10 = .ok (.putfield 24, 3) := by decide +kernel
theorem dM_takeOverCells_13 : decode prog_5_method_12_code 13 = .ok (.return_, 1) := by decide +kernel
def fM_takeOverCells (q : Nat) (a0 : Nat) (g : fl_G) : Option (Unit × fl_G) :=
  fl_ck (mc_kd q = 4) (fl_ck (mc_kd a0 = 4) (some ((), (fl_up g q 4 ((g q 4) ||| (g a0 4))))))
set_option maxHeartbeats 4000000 in
set_option maxRecDepth 100000 in
theorem cM_takeOverCells (l : Launch) (dC : Nat → ClassId) (dI : Nat → Nat → Nat) (ca : Nat → ClassId) (ad : Nat → Nat) (hI : fl_inj 32 ad) (q : Nat) (a0 : Nat) {g g1 : fl_G} {r : Unit} (h : fM_takeOverCells q a0 g = some (r, g1)) : Met l yM_takeOverCells wM_takeOverCells ({ frames := 0, cells := 0, slots := 0, locals := 0 }) (va_Pc [.ref (ad q), .ref (ad a0)] (fl_Pre (dC, dI) al_cl 32 (mc_sh ca ad) ad (mc_ty ca) mc_ns g)) (fl_QV (dC, dI) al_cl 32 (mc_sh ca ad) ad g1) 0 0 (fl_A 32 ad) := by
  refine fl_of (cc := prog_5_method_12_code) (maxL := 2) (ret := none) (by decide) rfl (Nat.le_of_ble_eq_true rfl) ?_
  intro p e s m below meth c ls hx hb hr hml hts hown hlocks hP hK hN hl
  have hown : s.vm.findClass "MeshedSpans$Miniheap" = some m.cls := hown
  have hS : va_S (fl_A 32 ad) s.heap s.heap [] := va_S.rf
  have hl : lv_has ls 2 [(0, .ref (ad q)), (1, .ref (ad a0))] := hl
  unfold fM_takeOverCells at h
  refine lv_aload_n hx hb dM_takeOverCells_0 rfl (lv_at hl 0 rfl) ?_
  refine lv_dup hx hb dM_takeOverCells_1 rfl ?_
  replace h := fl_ck_some h
  obtain ⟨hk1, h⟩ := h
  refine mc_get4 (v := .int (g q 4)) hx hb hts mc_in4 hown hK hP (q := q) hk1 4 (by decide) (hts _ gm_112) rfl dM_takeOverCells_2 ?_
  refine lv_aload_n hx hb dM_takeOverCells_5 rfl (lv_at hl 1 rfl) ?_
  replace h := fl_ck_some h
  obtain ⟨hk2, h⟩ := h
  refine mc_get4 (v := .int (g a0 4)) hx hb hts mc_in4 hown hK hP (q := a0) hk2 4 (by decide) (hts _ gm_112) rfl dM_takeOverCells_6 ?_
  refine lv_ior hx hb dM_takeOverCells_9 ?_
  refine mc_put4 (iv := ((g q 4) ||| (g a0 4))) hx hb hts mc_in4 hown hK hP hI hS (q := q) hk1 4 (by decide) (hts _ gm_112) rfl rfl rfl dM_takeOverCells_10 (fun H locs hP hS => ?_)
  have hP : va_P (dC, dI) al_cl (fl_ws 32 (mc_sh ca ad) ad (fl_up g q 4 ((g q 4) ||| (g a0 4)))) H := hP
  exact fl_vret hx hb hr hlocks hP hS h dM_takeOverCells_13
def yM_getsInTheWayOf : MethodName := ⟨"MeshedSpans$Miniheap", "getsInTheWayOf", "(LMeshedSpans$Miniheap;)Z"⟩
def wM_getsInTheWayOf : List Cond := .code yM_getsInTheWayOf prog_5_method_13_code 2 (some .boolean) :: gw
theorem kM_getsInTheWayOf {R : Room} {s : State} {args : Array Value} {own : String} {ix : Nat} (hts : ∀ w ∈ gw, w.before args s = true) (hl : (Cond.methodLink own ix yM_getsInTheWayOf).before args s = true) (hR : 0 + 1 ≤ R.frames ∧ 8 + (2 + 11) + 0 ≤ R.locals) : CallW R s args own "MeshedSpans$Miniheap" ix yM_getsInTheWayOf prog_5_method_13_code 2 (some .boolean) wM_getsInTheWayOf { frames := 0, cells := 0, slots := 0, locals := 0 } 0 0 1 := ⟨callB_of (rm := { frames := 0, cells := 0, slots := 0, locals := 0 }) 1 hts (gw_c (ct := .code yM_getsInTheWayOf prog_5_method_13_code 2 (some .boolean)) gm_419) rfl rfl rfl (hts _ gm_45) hl (by decide +kernel) hR, hts _ gm_417, hts _ gm_418⟩
theorem dM_getsInTheWayOf_0 : decode prog_5_method_13_code 0 = .ok (.aload_n 0, 1) := by decide +kernel
theorem dM_getsInTheWayOf_1 : decode prog_5_method_13_code 1 = .ok (.getfield 24, 3) := by decide +kernel
theorem dM_getsInTheWayOf_4 : decode prog_5_method_13_code 4 = .ok (.aload_n 1, 1) := by decide +kernel
theorem dM_getsInTheWayOf_5 : decode prog_5_method_13_code 5 = .ok (.getfield 24, 3) := by decide +kernel
theorem dM_getsInTheWayOf_8 : decode prog_5_method_13_code 8 = .ok (.iand, 1) := by decide +kernel
theorem dM_getsInTheWayOf_9 : decode prog_5_method_13_code 9 = .ok (.ifCond .eq 7, 3) := by decide +kernel
theorem dM_getsInTheWayOf_12 : decode prog_5_method_13_code 12 = .ok (.iconst 1, 1) := by decide +kernel
theorem dM_getsInTheWayOf_13 : decode prog_5_method_13_code 13 = .ok (.goto 4, 3) := by decide +kernel
theorem dM_getsInTheWayOf_16 : decode prog_5_method_13_code 16 = .ok (.iconst 0, 1) := by decide +kernel
theorem dM_getsInTheWayOf_17 : decode prog_5_method_13_code 17 = .ok (.ireturn, 1) := by decide +kernel
def fM_getsInTheWayOf (q : Nat) (a0 : Nat) (g : fl_G) : Option (Int32 × fl_G) :=
  fl_ck (mc_kd q = 4) (fl_ck (mc_kd a0 = 4) (if ((g q 4) &&& (g a0 4)) = 0 then (some (0, g)) else (some (1, g))))
set_option maxHeartbeats 4000000 in
set_option maxRecDepth 100000 in
theorem cM_getsInTheWayOf (l : Launch) (dC : Nat → ClassId) (dI : Nat → Nat → Nat) (ca : Nat → ClassId) (ad : Nat → Nat) (hI : fl_inj 32 ad) (q : Nat) (a0 : Nat) {g g1 : fl_G} {r : Int32} (h : fM_getsInTheWayOf q a0 g = some (r, g1)) : Met l yM_getsInTheWayOf wM_getsInTheWayOf ({ frames := 0, cells := 0, slots := 0, locals := 0 }) (va_Pc [.ref (ad q), .ref (ad a0)] (fl_Pre (dC, dI) al_cl 32 (mc_sh ca ad) ad (mc_ty ca) mc_ns g)) (fl_QI (dC, dI) al_cl 32 (mc_sh ca ad) ad r g1) 0 0 (fl_A 32 ad) := by
  refine fl_of (cc := prog_5_method_13_code) (maxL := 2) (ret := (some .boolean)) (by decide) rfl (Nat.le_of_ble_eq_true rfl) ?_
  intro p e s m below meth c ls hx hb hr hml hts hown hlocks hP hK hN hl
  have hown : s.vm.findClass "MeshedSpans$Miniheap" = some m.cls := hown
  have hS : va_S (fl_A 32 ad) s.heap s.heap [] := va_S.rf
  have hl : lv_has ls 2 [(0, .ref (ad q)), (1, .ref (ad a0))] := hl
  unfold fM_getsInTheWayOf at h
  refine lv_aload_n hx hb dM_getsInTheWayOf_0 rfl (lv_at hl 0 rfl) ?_
  replace h := fl_ck_some h
  obtain ⟨hk1, h⟩ := h
  refine mc_get4 (v := .int (g q 4)) hx hb hts mc_in4 hown hK hP (q := q) hk1 4 (by decide) (hts _ gm_112) rfl dM_getsInTheWayOf_1 ?_
  refine lv_aload_n hx hb dM_getsInTheWayOf_4 rfl (lv_at hl 1 rfl) ?_
  replace h := fl_ck_some h
  obtain ⟨hk2, h⟩ := h
  refine mc_get4 (v := .int (g a0 4)) hx hb hts mc_in4 hown hK hP (q := a0) hk2 4 (by decide) (hts _ gm_112) rfl dM_getsInTheWayOf_5 ?_
  refine lv_iand hx hb dM_getsInTheWayOf_8 ?_
  refine lv_if_eq (tgt := 16) hx hb dM_getsInTheWayOf_9 (by decide) (fun c3 => ?_) (fun c3 => ?_)
  · replace h := fl_pos c3 h
    refine lv_iconst (v := 0) hx hb dM_getsInTheWayOf_16 (by decide) ?_
    exact fl_zret hx hb hr hlocks hP hS (Or.inl rfl) h dM_getsInTheWayOf_17
  · replace h := fl_neg c3 h
    refine lv_iconst (v := 1) hx hb dM_getsInTheWayOf_12 (by decide) ?_
    refine lv_goto (tgt := 17) hx hb dM_getsInTheWayOf_13 (by decide) ?_
    exact fl_zret hx hb hr hlocks hP hS (Or.inr rfl) h dM_getsInTheWayOf_17
def yM_goesBefore : MethodName := ⟨"MeshedSpans$Miniheap", "goesBefore", "(LMeshedSpans$Miniheap;)Z"⟩
def wM_goesBefore : List Cond := .code yM_goesBefore prog_5_method_14_code 3 (some .boolean) :: gw
theorem kM_goesBefore {R : Room} {s : State} {args : Array Value} {own : String} {ix : Nat} (hts : ∀ w ∈ gw, w.before args s = true) (hl : (Cond.methodLink own ix yM_goesBefore).before args s = true) (hR : 2 + 1 ≤ R.frames ∧ 8 + (3 + 11) + 40 ≤ R.locals) : CallW R s args own "MeshedSpans$Miniheap" ix yM_goesBefore prog_5_method_14_code 3 (some .boolean) wM_goesBefore { frames := 2, cells := 0, slots := 0, locals := 40 } 0 0 1 := ⟨callB_of (rm := { frames := 2, cells := 0, slots := 0, locals := 40 }) 1 hts (gw_c (ct := .code yM_goesBefore prog_5_method_14_code 3 (some .boolean)) gm_257) rfl rfl rfl (hts _ gm_45) hl (by decide +kernel) hR, hts _ gm_255, hts _ gm_256⟩
theorem dM_goesBefore_0 : decode prog_5_method_14_code 0 = .ok (.aload_n 0, 1) := by decide +kernel
theorem dM_goesBefore_1 : decode prog_5_method_14_code 1 = .ok (.invokevirtual 31, 3) := by decide +kernel
theorem dM_goesBefore_4 : decode prog_5_method_14_code 4 = .ok (.aload_n 1, 1) := by decide +kernel
theorem dM_goesBefore_5 : decode prog_5_method_14_code 5 = .ok (.invokevirtual 31, 3) := by decide +kernel
theorem dM_goesBefore_8 : decode prog_5_method_14_code 8 = .ok (.isub, 1) := by decide +kernel
theorem dM_goesBefore_9 : decode prog_5_method_14_code 9 = .ok (.istore_n 2, 1) := by decide +kernel
theorem dM_goesBefore_10 : decode prog_5_method_14_code 10 = .ok (.iload_n 2, 1) := by decide +kernel
theorem dM_goesBefore_11 : decode prog_5_method_14_code 11 = .ok (.ifCond .gt 18, 3) := by decide +kernel
theorem dM_goesBefore_14 : decode prog_5_method_14_code 14 = .ok (.iload_n 2, 1) := by decide +kernel
theorem dM_goesBefore_15 : decode prog_5_method_14_code 15 = .ok (.ifCond .ne 18, 3) := by decide +kernel
theorem dM_goesBefore_18 : decode prog_5_method_14_code 18 = .ok (.aload_n 0, 1) := by decide +kernel
theorem dM_goesBefore_19 : decode prog_5_method_14_code 19 = .ok (.getfield 15, 3) := by decide +kernel
theorem dM_goesBefore_22 : decode prog_5_method_14_code 22 = .ok (.aload_n 1, 1) := by decide +kernel
theorem dM_goesBefore_23 : decode prog_5_method_14_code 23 = .ok (.getfield 15, 3) := by decide +kernel
theorem dM_goesBefore_26 : decode prog_5_method_14_code 26 = .ok (.if_icmp .ge 7, 3) := by decide +kernel
theorem dM_goesBefore_29 : decode prog_5_method_14_code 29 = .ok (.iconst 1, 1) := by decide +kernel
theorem dM_goesBefore_30 : decode prog_5_method_14_code 30 = .ok (.goto 4, 3) := by decide +kernel
theorem dM_goesBefore_33 : decode prog_5_method_14_code 33 = .ok (.iconst 0, 1) := by decide +kernel
theorem dM_goesBefore_34 : decode prog_5_method_14_code 34 = .ok (.ireturn, 1) := by decide +kernel
def fM_goesBefore (q : Nat) (a0 : Nat) (g : fl_G) : Option (Int32 × fl_G) :=
  fl_ck (mc_kd q = 4) (fl_bd (fM_usedCells q g) (fun r2 g3 => fl_ck (mc_kd a0 = 4) (fl_bd (fM_usedCells a0 g3) (fun r6 g7 => if 0 < (r2 - r6) then (some (1, g7)) else (if (r2 - r6) = 0 then (if (g7 a0 1) ≤ (g7 q 1) then (some (0, g7)) else (some (1, g7))) else (some (0, g7)))))))
set_option maxHeartbeats 4000000 in
set_option maxRecDepth 100000 in
theorem cM_goesBefore (l : Launch) (dC : Nat → ClassId) (dI : Nat → Nat → Nat) (ca : Nat → ClassId) (ad : Nat → Nat) (hI : fl_inj 32 ad) (q : Nat) (a0 : Nat) {g g1 : fl_G} {r : Int32} (h : fM_goesBefore q a0 g = some (r, g1)) : Met l yM_goesBefore wM_goesBefore ({ frames := 2, cells := 0, slots := 0, locals := 40 }) (va_Pc [.ref (ad q), .ref (ad a0)] (fl_Pre (dC, dI) al_cl 32 (mc_sh ca ad) ad (mc_ty ca) mc_ns g)) (fl_QI (dC, dI) al_cl 32 (mc_sh ca ad) ad r g1) 0 0 (fl_A 32 ad) := by
  refine fl_of (cc := prog_5_method_14_code) (maxL := 3) (ret := (some .boolean)) (by decide) rfl (Nat.le_of_ble_eq_true rfl) ?_
  intro p e s m below meth c ls hx hb hr hml hts hown hlocks hP hK hN hl
  have hown : s.vm.findClass "MeshedSpans$Miniheap" = some m.cls := hown
  have hS : va_S (fl_A 32 ad) s.heap s.heap [] := va_S.rf
  have hl : lv_has ls 3 [(0, .ref (ad q)), (1, .ref (ad a0))] := hl
  unfold fM_goesBefore at h
  refine lv_aload_n hx hb dM_goesBefore_0 rfl (lv_at hl 0 rfl) ?_
  replace h := fl_ck_some h
  obtain ⟨hk1, h⟩ := h
  replace h := fl_bd_some h
  obtain ⟨r2, g3, hc4, h⟩ := h
  refine fl_calli (va_runV (As := []) (rest := []) ⟨hx, hb, hml, hown, hts⟩ (cM_usedCells l dC dI ca ad hI q hc4) (kM_usedCells hts (hts _ gm_242) ⟨Nat.le_of_ble_eq_true rfl, Nat.le_of_ble_eq_true rfl⟩) (fl_preV hK hP hN (mc_lt hk1 (by decide)) (mc_sh4 hk1) rfl) rfl rfl hl.1 rfl (lv_room (Nat.le_of_ble_eq_true rfl)) dM_goesBefore_1 ⟨Nat.le_refl 0, Nat.le_refl 0⟩) hS (fun H locs hP hS => ?_)
  refine lv_aload_n hx hb dM_goesBefore_4 rfl (lv_at hl 1 rfl) ?_
  replace h := fl_ck_some h
  obtain ⟨hk5, h⟩ := h
  replace h := fl_bd_some h
  obtain ⟨r6, g7, hc8, h⟩ := h
  refine fl_calli (va_runV (As := []) (rest := [.int r2]) ⟨hx, hb, hml, hown, hts⟩ (cM_usedCells l dC dI ca ad hI a0 hc8) (kM_usedCells hts (hts _ gm_242) ⟨Nat.le_of_ble_eq_true rfl, Nat.le_of_ble_eq_true rfl⟩) (fl_preV hK hP hN (mc_lt hk5 (by decide)) (mc_sh4 hk5) rfl) rfl rfl hl.1 rfl (lv_room (Nat.le_of_ble_eq_true rfl)) dM_goesBefore_5 ⟨Nat.le_refl 0, Nat.le_refl 0⟩) hS (fun H locs hP hS => ?_)
  refine lv_isub hx hb dM_goesBefore_8 ?_
  refine lv_istore_n (lv' := [(2, .int (r2 - r6)), (0, .ref (ad q)), (1, .ref (ad a0))]) hx hb dM_goesBefore_9 rfl hl (by decide) rfl (fun ls hl => ?_)
  refine lv_iload_n hx hb dM_goesBefore_10 rfl (lv_at hl 0 rfl) ?_
  refine lv_if_gt (tgt := 29) hx hb dM_goesBefore_11 (by decide) (fun c9 => ?_) (fun c9 => ?_)
  · replace h := fl_pos c9 h
    refine lv_iconst (v := 1) hx hb dM_goesBefore_29 (by decide) ?_
    refine lv_goto (tgt := 34) hx hb dM_goesBefore_30 (by decide) ?_
    exact fl_zret hx hb hr hlocks hP hS (Or.inr rfl) h dM_goesBefore_34
  · replace h := fl_neg c9 h
    refine lv_iload_n hx hb dM_goesBefore_14 rfl (lv_at hl 0 rfl) ?_
    refine lv_if_ne (tgt := 33) hx hb dM_goesBefore_15 (by decide) (fun c10 => ?_) (fun c10 => ?_)
    · replace h := fl_neg c10 h
      refine lv_iconst (v := 0) hx hb dM_goesBefore_33 (by decide) ?_
      exact fl_zret hx hb hr hlocks hP hS (Or.inl rfl) h dM_goesBefore_34
    · replace h := fl_pos c10 h
      refine lv_aload_n hx hb dM_goesBefore_18 rfl (lv_at hl 1 rfl) ?_
      refine mc_get4 (v := .int (g7 q 1)) hx hb hts mc_in4 hown hK hP (q := q) hk1 1 (by decide) (hts _ gm_109) rfl dM_goesBefore_19 ?_
      refine lv_aload_n hx hb dM_goesBefore_22 rfl (lv_at hl 2 rfl) ?_
      refine mc_get4 (v := .int (g7 a0 1)) hx hb hts mc_in4 hown hK hP (q := a0) hk5 1 (by decide) (hts _ gm_109) rfl dM_goesBefore_23 ?_
      refine lv_icmp_ge (tgt := 33) hx hb dM_goesBefore_26 (by decide) (fun c11 => ?_) (fun c11 => ?_)
      · replace h := fl_pos c11 h
        refine lv_iconst (v := 0) hx hb dM_goesBefore_33 (by decide) ?_
        exact fl_zret hx hb hr hlocks hP hS (Or.inl rfl) h dM_goesBefore_34
      · replace h := fl_neg c11 h
        refine lv_iconst (v := 1) hx hb dM_goesBefore_29 (by decide) ?_
        refine lv_goto (tgt := 34) hx hb dM_goesBefore_30 (by decide) ?_
        exact fl_zret hx hb hr hlocks hP hS (Or.inr rfl) h dM_goesBefore_34
def yM_cellAt : MethodName := ⟨"MeshedSpans$Miniheap", "cellAt", "(I)I"⟩
def wM_cellAt : List Cond := .code yM_cellAt prog_5_method_15_code 2 (some .int) :: gw
theorem kM_cellAt {R : Room} {s : State} {args : Array Value} {own : String} {ix : Nat} (hts : ∀ w ∈ gw, w.before args s = true) (hl : (Cond.methodLink own ix yM_cellAt).before args s = true) (hR : 1 + 1 ≤ R.frames ∧ 8 + (2 + 11) + 20 ≤ R.locals) : CallW R s args own "MeshedSpans$Miniheap" ix yM_cellAt prog_5_method_15_code 2 (some .int) wM_cellAt { frames := 1, cells := 0, slots := 0, locals := 20 } 0 0 1 := ⟨callB_of (rm := { frames := 1, cells := 0, slots := 0, locals := 20 }) 1 hts (gw_c (ct := .code yM_cellAt prog_5_method_15_code 2 (some .int)) gm_345) rfl rfl rfl (hts _ gm_45) hl (by decide +kernel) hR, hts _ gm_343, hts _ gm_344⟩
theorem dM_cellAt_0 : decode prog_5_method_15_code 0 = .ok (.iload_n 1, 1) := by decide +kernel
theorem dM_cellAt_1 : decode prog_5_method_15_code 1 = .ok (.bipush 16, 2) := by decide +kernel
theorem dM_cellAt_3 : decode prog_5_method_15_code 3 = .ok (.irem, 1) := by decide +kernel
theorem dM_cellAt_4 : decode prog_5_method_15_code 4 = .ok (.aload_n 0, 1) := by decide +kernel
theorem dM_cellAt_5 : decode prog_5_method_15_code 5 = .ok (.getfield 18, 3) := by decide +kernel
theorem dM_cellAt_8 : decode prog_5_method_15_code 8 = .ok (.invokestatic 44, 3) := by decide +kernel
theorem dM_cellAt_11 : decode prog_5_method_15_code 11 = .ok (.idiv, 1) := by decide +kernel
theorem dM_cellAt_12 : decode prog_5_method_15_code 12 = .ok (.ireturn, 1) := by decide +kernel
def fM_cellAt (q : Nat) (a0 : Int32) (g : fl_G) : Option (Int32 × fl_G) :=
  fl_ck (mc_kd q = 4) (fl_bd (fS_wordsOfClass (g q 2) g) (fun r2 g3 => fl_ck (¬ r2 = 0) (some (((fl_rem a0 16) / r2), g3))))
set_option maxHeartbeats 4000000 in
set_option maxRecDepth 100000 in
theorem cM_cellAt (l : Launch) (dC : Nat → ClassId) (dI : Nat → Nat → Nat) (ca : Nat → ClassId) (ad : Nat → Nat) (hI : fl_inj 32 ad) (q : Nat) (a0 : Int32) {g g1 : fl_G} {r : Int32} (h : fM_cellAt q a0 g = some (r, g1)) : Met l yM_cellAt wM_cellAt ({ frames := 1, cells := 0, slots := 0, locals := 20 }) (va_Pc [.ref (ad q), .int a0] (fl_Pre (dC, dI) al_cl 32 (mc_sh ca ad) ad (mc_ty ca) mc_ns g)) (fl_QI (dC, dI) al_cl 32 (mc_sh ca ad) ad r g1) 0 0 (fl_A 32 ad) := by
  refine fl_of (cc := prog_5_method_15_code) (maxL := 2) (ret := (some .int)) (by decide) rfl (Nat.le_of_ble_eq_true rfl) ?_
  intro p e s m below meth c ls hx hb hr hml hts hown hlocks hP hK hN hl
  have hown : s.vm.findClass "MeshedSpans$Miniheap" = some m.cls := hown
  have hS : va_S (fl_A 32 ad) s.heap s.heap [] := va_S.rf
  have hl : lv_has ls 2 [(0, .ref (ad q)), (1, .int a0)] := hl
  unfold fM_cellAt at h
  refine lv_iload_n hx hb dM_cellAt_0 rfl (lv_at hl 1 rfl) ?_
  refine lv_bipush (v := 16) hx hb dM_cellAt_1 (by decide) ?_
  refine lv_irem hx hb dM_cellAt_3 (by decide) ?_
  refine lv_aload_n hx hb dM_cellAt_4 rfl (lv_at hl 0 rfl) ?_
  replace h := fl_ck_some h
  obtain ⟨hk1, h⟩ := h
  refine mc_get4 (v := .int (g q 2)) hx hb hts mc_in4 hown hK hP (q := q) hk1 2 (by decide) (hts _ gm_110) rfl dM_cellAt_5 ?_
  replace h := fl_bd_some h
  obtain ⟨r2, g3, hc4, h⟩ := h
  refine fl_calli (va_runSN (As := [.int (g q 2)]) (rest := [.int (fl_rem a0 16)]) ⟨hx, hb, hml, hown, hts⟩ (cS_wordsOfClass l dC dI ca ad hI (g q 2) hc4) (kS_wordsOfClass_N hts (hN.use _ nm_10) ⟨Nat.le_of_ble_eq_true rfl, Nat.le_of_ble_eq_true rfl⟩) (fl_preS hK hP hN) rfl rfl hl.1 rfl (lv_room (Nat.le_of_ble_eq_true rfl)) dM_cellAt_8 ⟨Nat.le_refl 0, Nat.le_refl 0⟩) hS (fun H locs hP hS => ?_)
  replace h := fl_ck_some h
  obtain ⟨hz5, h⟩ := h
  refine lv_idiv hx hb dM_cellAt_11 hz5 ?_
  exact fl_iret hx hb hr hlocks hP hS h dM_cellAt_12
def yM_addressOf : MethodName := ⟨"MeshedSpans$Miniheap", "addressOf", "(I)I"⟩
def wM_addressOf : List Cond := .code yM_addressOf prog_5_method_16_code 2 (some .int) :: gw
theorem kM_addressOf {R : Room} {s : State} {args : Array Value} {own : String} {ix : Nat} (hts : ∀ w ∈ gw, w.before args s = true) (hl : (Cond.methodLink own ix yM_addressOf).before args s = true) (hR : 1 + 1 ≤ R.frames ∧ 8 + (2 + 11) + 20 ≤ R.locals) : CallW R s args own "MeshedSpans$Miniheap" ix yM_addressOf prog_5_method_16_code 2 (some .int) wM_addressOf { frames := 1, cells := 0, slots := 0, locals := 20 } 0 0 1 := ⟨callB_of (rm := { frames := 1, cells := 0, slots := 0, locals := 20 }) 1 hts (gw_c (ct := .code yM_addressOf prog_5_method_16_code 2 (some .int)) gm_299) rfl rfl rfl (hts _ gm_45) hl (by decide +kernel) hR, hts _ gm_297, hts _ gm_298⟩
theorem dM_addressOf_0 : decode prog_5_method_16_code 0 = .ok (.aload_n 0, 1) := by decide +kernel
theorem dM_addressOf_1 : decode prog_5_method_16_code 1 = .ok (.getfield 21, 3) := by decide +kernel
theorem dM_addressOf_4 : decode prog_5_method_16_code 4 = .ok (.bipush 16, 2) := by decide +kernel
theorem dM_addressOf_6 : decode prog_5_method_16_code 6 = .ok (.imul, 1) := by decide +kernel
theorem dM_addressOf_7 : decode prog_5_method_16_code 7 = .ok (.iload_n 1, 1) := by decide +kernel
theorem dM_addressOf_8 : decode prog_5_method_16_code 8 = .ok (.aload_n 0, 1) := by decide +kernel
theorem dM_addressOf_9 : decode prog_5_method_16_code 9 = .ok (.getfield 18, 3) := by decide +kernel
theorem dM_addressOf_12 : decode prog_5_method_16_code 12 = .ok (.invokestatic 44, 3) := by decide +kernel
theorem dM_addressOf_15 : decode prog_5_method_16_code 15 = .ok (.imul, 1) := by decide +kernel
theorem dM_addressOf_16 : decode prog_5_method_16_code 16 = .ok (.iadd, 1) := by decide +kernel
theorem dM_addressOf_17 : decode prog_5_method_16_code 17 = .ok (.ireturn, 1) := by decide +kernel
def fM_addressOf (q : Nat) (a0 : Int32) (g : fl_G) : Option (Int32 × fl_G) :=
  fl_ck (mc_kd q = 4) (fl_bd (fS_wordsOfClass (g q 2) g) (fun r2 g3 => some ((((g q 3) * 16) + (a0 * r2)), g3)))
set_option maxHeartbeats 4000000 in
set_option maxRecDepth 100000 in
theorem cM_addressOf (l : Launch) (dC : Nat → ClassId) (dI : Nat → Nat → Nat) (ca : Nat → ClassId) (ad : Nat → Nat) (hI : fl_inj 32 ad) (q : Nat) (a0 : Int32) {g g1 : fl_G} {r : Int32} (h : fM_addressOf q a0 g = some (r, g1)) : Met l yM_addressOf wM_addressOf ({ frames := 1, cells := 0, slots := 0, locals := 20 }) (va_Pc [.ref (ad q), .int a0] (fl_Pre (dC, dI) al_cl 32 (mc_sh ca ad) ad (mc_ty ca) mc_ns g)) (fl_QI (dC, dI) al_cl 32 (mc_sh ca ad) ad r g1) 0 0 (fl_A 32 ad) := by
  refine fl_of (cc := prog_5_method_16_code) (maxL := 2) (ret := (some .int)) (by decide) rfl (Nat.le_of_ble_eq_true rfl) ?_
  intro p e s m below meth c ls hx hb hr hml hts hown hlocks hP hK hN hl
  have hown : s.vm.findClass "MeshedSpans$Miniheap" = some m.cls := hown
  have hS : va_S (fl_A 32 ad) s.heap s.heap [] := va_S.rf
  have hl : lv_has ls 2 [(0, .ref (ad q)), (1, .int a0)] := hl
  unfold fM_addressOf at h
  refine lv_aload_n hx hb dM_addressOf_0 rfl (lv_at hl 0 rfl) ?_
  replace h := fl_ck_some h
  obtain ⟨hk1, h⟩ := h
  refine mc_get4 (v := .int (g q 3)) hx hb hts mc_in4 hown hK hP (q := q) hk1 3 (by decide) (hts _ gm_111) rfl dM_addressOf_1 ?_
  refine lv_bipush (v := 16) hx hb dM_addressOf_4 (by decide) ?_
  refine lv_imul hx hb dM_addressOf_6 ?_
  refine lv_iload_n hx hb dM_addressOf_7 rfl (lv_at hl 1 rfl) ?_
  refine lv_aload_n hx hb dM_addressOf_8 rfl (lv_at hl 0 rfl) ?_
  refine mc_get4 (v := .int (g q 2)) hx hb hts mc_in4 hown hK hP (q := q) hk1 2 (by decide) (hts _ gm_110) rfl dM_addressOf_9 ?_
  replace h := fl_bd_some h
  obtain ⟨r2, g3, hc4, h⟩ := h
  refine fl_calli (va_runSN (As := [.int (g q 2)]) (rest := [.int a0, .int ((g q 3) * 16)]) ⟨hx, hb, hml, hown, hts⟩ (cS_wordsOfClass l dC dI ca ad hI (g q 2) hc4) (kS_wordsOfClass_N hts (hN.use _ nm_10) ⟨Nat.le_of_ble_eq_true rfl, Nat.le_of_ble_eq_true rfl⟩) (fl_preS hK hP hN) rfl rfl hl.1 rfl (lv_room (Nat.le_of_ble_eq_true rfl)) dM_addressOf_12 ⟨Nat.le_refl 0, Nat.le_refl 0⟩) hS (fun H locs hP hS => ?_)
  refine lv_imul hx hb dM_addressOf_15 ?_
  refine lv_iadd hx hb dM_addressOf_16 ?_
  exact fl_iret hx hb hr hlocks hP hS h dM_addressOf_17
