def yA_isSpent : MethodName := ⟨"MeshedSpans$Attachment", "isSpent", "()Z"⟩
def wA_isSpent : List Cond := .code yA_isSpent prog_2_method_2_code 1 (some .boolean) :: gw
theorem kA_isSpent {R : Room} {s : State} {args : Array Value} {own : String} {ix : Nat} (hts : ∀ w ∈ gw, w.before args s = true) (hl : (Cond.methodLink own ix yA_isSpent).before args s = true) (hR : 0 + 1 ≤ R.frames ∧ 8 + (1 + 11) + 0 ≤ R.locals) : CallW R s args own "MeshedSpans$Attachment" ix yA_isSpent prog_2_method_2_code 1 (some .boolean) wA_isSpent { frames := 0, cells := 0, slots := 0, locals := 0 } 0 0 0 := ⟨callB_of (rm := { frames := 0, cells := 0, slots := 0, locals := 0 }) 0 hts (gw_c (ct := .code yA_isSpent prog_2_method_2_code 1 (some .boolean)) gm_227) rfl rfl rfl (hts _ gm_46) hl (by decide +kernel) hR, hts _ gm_225, hts _ gm_226⟩
theorem dA_isSpent_0 : decode prog_2_method_2_code 0 = .ok (.aload_n 0, 1) := by decide +kernel
theorem dA_isSpent_1 : decode prog_2_method_2_code 1 = .ok (.getfield 9, 3) := by decide +kernel
theorem dA_isSpent_4 : decode prog_2_method_2_code 4 = .ok (.ifnull 10, 3) := by decide +kernel
theorem dA_isSpent_7 : decode prog_2_method_2_code 7 = .ok (.aload_n 0, 1) := by decide +kernel
theorem dA_isSpent_8 : decode prog_2_method_2_code 8 = .ok (.getfield 19, 3) := by decide +kernel
theorem dA_isSpent_11 : decode prog_2_method_2_code 11 = .ok (.ifCond .ne 7, 3) := by decide +kernel
theorem dA_isSpent_14 : decode prog_2_method_2_code 14 = .ok (.iconst 1, 1) := by decide +kernel
theorem dA_isSpent_15 : decode prog_2_method_2_code 15 = .ok (.goto 4, 3) := by decide +kernel
theorem dA_isSpent_18 : decode prog_2_method_2_code 18 = .ok (.iconst 0, 1) := by decide +kernel
theorem dA_isSpent_19 : decode prog_2_method_2_code 19 = .ok (.ireturn, 1) := by decide +kernel
def fA_isSpent (q : Nat) (g : fl_G) : Option (Int32 × fl_G) :=
  fl_ck (mc_kd q = 5) (fl_lt (fl_rf (g q 0)) (fun o2 => fl_cs o2 (some (1, g)) (fun q4 => if (g q 2) = 0 then (some (1, g)) else (some (0, g)))))
set_option maxHeartbeats 4000000 in
set_option maxRecDepth 100000 in
theorem cA_isSpent (l : Launch) (dC : Nat → ClassId) (dI : Nat → Nat → Nat) (ca : Nat → ClassId) (ad : Nat → Nat) (hI : fl_inj 32 ad) (q : Nat) {g g1 : fl_G} {r : Int32} (h : fA_isSpent q g = some (r, g1)) : Met l yA_isSpent wA_isSpent ({ frames := 0, cells := 0, slots := 0, locals := 0 }) (va_Pc [.ref (ad q)] (fl_Pre (dC, dI) al_cl 32 (mc_sh ca ad) ad (mc_ty ca) mc_ns g)) (fl_QI (dC, dI) al_cl 32 (mc_sh ca ad) ad r g1) 0 0 (fl_A 32 ad) := by
  refine fl_of (cc := prog_2_method_2_code) (maxL := 1) (ret := (some .boolean)) (by decide) rfl (Nat.le_of_ble_eq_true rfl) ?_
  intro p e s m below meth c ls hx hb hr hml hts hown hlocks hP hK hN hl
  have hown : s.vm.findClass "MeshedSpans$Attachment" = some m.cls := hown
  have hS : va_S (fl_A 32 ad) s.heap s.heap [] := va_S.rf
  have hl : lv_has ls 1 [(0, .ref (ad q))] := hl
  unfold fA_isSpent at h
  refine lv_aload_n hx hb dA_isSpent_0 rfl (lv_at hl 0 rfl) ?_
  replace h := fl_ck_some h
  obtain ⟨hk1, h⟩ := h
  refine mc_get5 (v := va_rf (Option.map ad (fl_rf (g q 0)))) hx hb hts mc_in5 hown hK hP (q := q) hk1 0 (by decide) (hts _ gm_130) rfl dA_isSpent_1 ?_
  replace h := fl_lt_some h
  obtain ⟨o2, ho3, h⟩ := h
  rw [← ho3]
  rcases o2 with _ | q4
  · replace h := fl_cs_none h
    refine lv_ifnullN (tgt := 14) hx hb dA_isSpent_4 (by decide) ?_
    refine lv_iconst (v := 1) hx hb dA_isSpent_14 (by decide) ?_
    refine lv_goto (tgt := 19) hx hb dA_isSpent_15 (by decide) ?_
    exact fl_zret hx hb hr hlocks hP hS (Or.inr rfl) h dA_isSpent_19
  · replace h := fl_cs_some h
    refine lv_ifnull hx hb dA_isSpent_4 ?_
    refine lv_aload_n hx hb dA_isSpent_7 rfl (lv_at hl 0 rfl) ?_
    refine mc_get5 (v := .int (g q 2)) hx hb hts mc_in5 hown hK hP (q := q) hk1 2 (by decide) (hts _ gm_132) rfl dA_isSpent_8 ?_
    refine lv_if_ne (tgt := 18) hx hb dA_isSpent_11 (by decide) (fun c5 => ?_) (fun c5 => ?_)
    · replace h := fl_neg c5 h
      refine lv_iconst (v := 0) hx hb dA_isSpent_18 (by decide) ?_
      exact fl_zret hx hb hr hlocks hP hS (Or.inl rfl) h dA_isSpent_19
    · replace h := fl_pos c5 h
      refine lv_iconst (v := 1) hx hb dA_isSpent_14 (by decide) ?_
      refine lv_goto (tgt := 19) hx hb dA_isSpent_15 (by decide) ?_
      exact fl_zret hx hb hr hlocks hP hS (Or.inr rfl) h dA_isSpent_19
def yA_attach : MethodName := ⟨"MeshedSpans$Attachment", "attach", "(LMeshedSpans$Miniheap;LMeshedSpans$Draws;)V"⟩
def wA_attach : List Cond := .code yA_attach prog_2_method_3_code 5 none :: gw
theorem kA_attach {R : Room} {s : State} {args : Array Value} {own : String} {ix : Nat} (hts : ∀ w ∈ gw, w.before args s = true) (hl : (Cond.methodLink own ix yA_attach).before args s = true) (hR : 2 + 1 ≤ R.frames ∧ 8 + (5 + 11) + 46 ≤ R.locals) : CallW R s args own "MeshedSpans$Attachment" ix yA_attach prog_2_method_3_code 5 none wA_attach { frames := 2, cells := 0, slots := 0, locals := 46 } 0 0 2 := ⟨callB_of (rm := { frames := 2, cells := 0, slots := 0, locals := 46 }) 2 hts (gw_c (ct := .code yA_attach prog_2_method_3_code 5 none) gm_269) rfl rfl rfl (hts _ gm_46) hl (by decide +kernel) hR, hts _ gm_267, hts _ gm_268⟩
theorem dA_attach_0 : decode prog_2_method_3_code 0 = .ok (.aload_n 0, 1) := by decide +kernel
theorem dA_attach_1 : decode prog_2_method_3_code 1 = .ok (.aload_n 1, 1) := by decide +kernel
theorem dA_attach_2 : decode prog_2_method_3_code 2 = .ok (.putfield 9, 3) := by decide +kernel
theorem dA_attach_5 : decode prog_2_method_3_code 5 = .ok (.aload_n 0, 1) := by decide +kernel
theorem dA_attach_6 : decode prog_2_method_3_code 6 = .ok (.iconst 0, 1) := by decide +kernel
theorem dA_attach_7 : decode prog_2_method_3_code 7 = .ok (.putfield 19, 3) := by decide +kernel
theorem dA_attach_10 : decode prog_2_method_3_code 10 = .ok (.aload_n 1, 1) := by decide +kernel
theorem dA_attach_11 : decode prog_2_method_3_code 11 = .ok (.getfield 23, 3) := by decide +kernel
theorem dA_attach_14 : decode prog_2_method_3_code 14 = .ok (.invokestatic 28, 3) := by decide +kernel
theorem dA_attach_17 : decode prog_2_method_3_code 17 = .ok (.istore_n 3, 1) := by decide +kernel
theorem dA_attach_18 : decode prog_2_method_3_code 18 = .ok (.iconst 0, 1) := by decide +kernel
theorem dA_attach_19 : decode prog_2_method_3_code 19 = .ok (.istore 4, 2) := by decide +kernel
theorem dA_attach_21 : decode prog_2_method_3_code 21 = .ok (.iload 4, 2) := by decide +kernel
theorem dA_attach_23 : decode prog_2_method_3_code 23 = .ok (.iload_n 3, 1) := by decide +kernel
theorem dA_attach_24 : decode prog_2_method_3_code 24 = .ok (.if_icmp .ge 39, 3) := by decide +kernel
theorem dA_attach_27 : decode prog_2_method_3_code 27 = .ok (.aload_n 1, 1) := by decide +kernel
theorem dA_attach_28 : decode prog_2_method_3_code 28 = .ok (.iload 4, 2) := by decide +kernel
theorem dA_attach_30 : decode prog_2_method_3_code 30 = .ok (.invokevirtual 32, 3) := by decide +kernel
theorem dA_attach_33 : decode prog_2_method_3_code 33 = .ok (.ifCond .ne 24, 3) := by decide +kernel
theorem dA_attach_36 : decode prog_2_method_3_code 36 = .ok (.aload_n 0, 1) := by decide +kernel
theorem dA_attach_37 : decode prog_2_method_3_code 37 = .ok (.getfield 15, 3) := by decide +kernel
theorem dA_attach_40 : decode prog_2_method_3_code 40 = .ok (.aload_n 0, 1) := by decide +kernel
theorem dA_attach_41 : decode prog_2_method_3_code 41 = .ok (.getfield 19, 3) := by decide +kernel
theorem dA_attach_44 : decode prog_2_method_3_code 44 = .ok (.iload 4, 2) := by decide +kernel
theorem dA_attach_46 : decode prog_2_method_3_code 46 = .ok (.iastore, 1) := by decide +kernel
theorem dA_attach_47 : decode prog_2_method_3_code 47 = .ok (.aload_n 0, 1) := by decide +kernel
theorem dA_attach_48 : decode prog_2_method_3_code 48 = .ok (.dup, 1) := by decide +kernel
theorem dA_attach_49 : decode prog_2_method_3_code 49 = .ok (.getfield 19, 3) := by decide +kernel
theorem dA_attach_52 : decode prog_2_method_3_code 52 = .ok (.iconst 1, 1) := by decide +kernel
theorem dA_attach_53 : decode prog_2_method_3_code 53 = .ok (.iadd, 1) := by decide +kernel
theorem dA_attach_54 : decode prog_2_method_3_code 54 = .ok (.putfield 19, 3) := by decide +kernel
theorem dA_attach_57 : decode prog_2_method_3_code 57 = .ok (.iinc 4 1, 3) := by decide +kernel
theorem dA_attach_60 : decode prog_2_method_3_code 60 = .ok (.goto (-39), 3) := by decide +kernel
theorem dA_attach_63 : decode prog_2_method_3_code 63 = .ok (.aload_n 2, 1) := by decide +kernel
theorem dA_attach_64 : decode prog_2_method_3_code 64 = .ok (.aload_n 0, 1) := by decide +kernel
theorem dA_attach_65 : decode prog_2_method_3_code 65 = .ok (.getfield 15, 3) := by decide +kernel
theorem dA_attach_68 : decode prog_2_method_3_code 68 = .ok (.aload_n 0, 1) := by decide +kernel
theorem dA_attach_69 : decode prog_2_method_3_code 69 = .ok (.getfield 19, 3) := by decide +kernel
theorem dA_attach_72 : decode prog_2_method_3_code 72 = .ok (.invokevirtual 36, 3) := by decide +kernel
theorem dA_attach_75 : decode prog_2_method_3_code 75 = .ok (.return_, 1) := by decide +kernel
def fA_attach_B21 (rec : Int32 → Int32 → Nat → Nat → fl_G → Option ((Int32) × fl_G)) (v4 : Int32) (v3 : Int32) (v0 : Nat) (v1 : Nat) (g : fl_G) : Option ((Int32) × fl_G) :=
  if v3 ≤ v4 then (some (v4, g)) else (fl_ck (mc_kd v1 = 4) (fl_bd (fM_isUsed v1 v4 g) (fun r10 g11 => if r10 = 0 then (fl_ck (mc_kd v0 = 5) (fl_ck (fl_in (g11 v0 2) (mc_ln (v0 + 1))) (rec (v4 + 1) v3 v0 v1 (fl_up (fl_up g11 (v0 + 1) (Int32.toNatClampNeg (g11 v0 2)) v4) v0 2 (((fl_up g11 (v0 + 1) (Int32.toNatClampNeg (g11 v0 2)) v4) v0 2) + 1))))) else (rec (v4 + 1) v3 v0 v1 g11))))
def fA_attach_L21 : Nat → Int32 → Int32 → Nat → Nat → fl_G → Option ((Int32) × fl_G)
  | 0, _, _, _, _, _ => none
  | n + 1, v4, v3, v0, v1, g => fA_attach_B21 (fA_attach_L21 n) v4 v3 v0 v1 g
def fA_attach (q : Nat) (a0 : Nat) (g : fl_G) : Option (Unit × fl_G) :=
  fl_ck (mc_kd q = 5) (fl_ck (fl_rf (Int32.ofNat a0) = some a0) (fl_ck (mc_kd a0 = 4) (fl_bd (fS_cellsOfClass ((fl_up (fl_up g q 0 (Int32.ofNat a0)) q 2 0) a0 2) (fl_up (fl_up g q 0 (Int32.ofNat a0)) q 2 0)) (fun r4 g5 => fl_bd (fA_attach_L21 1000 0 r4 q a0 g5) (fun r16 g17 => fl_bd (fD_shuffle (q + 1) (g17 q 2) g17) (fun r19 g20 => some ((), g20)))))))
set_option maxHeartbeats 4000000 in
set_option maxRecDepth 100000 in
theorem cA_attach (l : Launch) (dC : Nat → ClassId) (dI : Nat → Nat → Nat) (ca : Nat → ClassId) (ad : Nat → Nat) (hI : fl_inj 32 ad) (q : Nat) (a0 : Nat) {g g1 : fl_G} {r : Unit} (h : fA_attach q a0 g = some (r, g1)) : Met l yA_attach wA_attach ({ frames := 2, cells := 0, slots := 0, locals := 46 }) (va_Pc [.ref (ad q), .ref (ad a0), .ref (ad 1)] (fl_Pre (dC, dI) al_cl 32 (mc_sh ca ad) ad (mc_ty ca) mc_ns g)) (fl_QV (dC, dI) al_cl 32 (mc_sh ca ad) ad g1) 0 0 (fl_A 32 ad) := by
  refine fl_of (cc := prog_2_method_3_code) (maxL := 5) (ret := none) (by decide) rfl (Nat.le_of_ble_eq_true rfl) ?_
  intro p e s m below meth c ls hx hb hr hml hts hown hlocks hP hK hN hl
  have hown : s.vm.findClass "MeshedSpans$Attachment" = some m.cls := hown
  have hS : va_S (fl_A 32 ad) s.heap s.heap [] := va_S.rf
  have hl : lv_has ls 5 [(0, .ref (ad q)), (1, .ref (ad a0)), (2, .ref (ad 1))] := hl
  unfold fA_attach at h
  refine lv_aload_n hx hb dA_attach_0 rfl (lv_at hl 0 rfl) ?_
  refine lv_aload_n hx hb dA_attach_1 rfl (lv_at hl 1 rfl) ?_
  replace h := fl_ck_some h
  obtain ⟨hk1, h⟩ := h
  replace h := fl_ck_some h
  obtain ⟨hb2, h⟩ := h
  refine mc_put5r (iv := (Int32.ofNat a0)) hx hb hts mc_in5 hown hK hP hI hS (q := q) hk1 hb2 (hts _ gm_130) dA_attach_2 (fun H locs hP hS => ?_)
  have hP : va_P (dC, dI) al_cl (fl_ws 32 (mc_sh ca ad) ad (fl_up g q 0 (Int32.ofNat a0))) H := hP
  refine lv_aload_n hx hb dA_attach_5 rfl (lv_at hl 0 rfl) ?_
  refine lv_iconst (v := 0) hx hb dA_attach_6 (by decide) ?_
  refine mc_put5 (iv := 0) hx hb hts mc_in5 hown hK hP hI hS (q := q) hk1 2 (by decide) (hts _ gm_132) rfl rfl rfl dA_attach_7 (fun H locs hP hS => ?_)
  have hP : va_P (dC, dI) al_cl (fl_ws 32 (mc_sh ca ad) ad (fl_up (fl_up g q 0 (Int32.ofNat a0)) q 2 0)) H := hP
  refine lv_aload_n hx hb dA_attach_10 rfl (lv_at hl 1 rfl) ?_
  replace h := fl_ck_some h
  obtain ⟨hk3, h⟩ := h
  refine mc_getN4 (v := .int ((fl_up (fl_up g q 0 (Int32.ofNat a0)) q 2 0) a0 2)) hx hb hts mc_in4 hown hK hP (q := a0) hk3 2 (by decide) (hN.use _ nm_2) rfl dA_attach_11 ?_
  replace h := fl_bd_some h
  obtain ⟨r4, g5, hc6, h⟩ := h
  refine fl_calli (va_runSN (As := [.int ((fl_up (fl_up g q 0 (Int32.ofNat a0)) q 2 0) a0 2)]) (rest := []) ⟨hx, hb, hml, hown, hts⟩ (cS_cellsOfClass l dC dI ca ad hI ((fl_up (fl_up g q 0 (Int32.ofNat a0)) q 2 0) a0 2) hc6) (kS_cellsOfClass_N hts (hN.use _ nm_9) ⟨Nat.le_of_ble_eq_true rfl, Nat.le_of_ble_eq_true rfl⟩) (fl_preS hK hP hN) rfl rfl hl.1 rfl (lv_room (Nat.le_of_ble_eq_true rfl)) dA_attach_14 ⟨Nat.le_refl 0, Nat.le_refl 0⟩) hS (fun H locs hP hS => ?_)
  refine lv_istore_n (lv' := [(3, .int r4), (0, .ref (ad q)), (1, .ref (ad a0)), (2, .ref (ad 1))]) hx hb dA_attach_17 rfl hl (by decide) rfl (fun ls hl => ?_)
  refine lv_iconst (v := 0) hx hb dA_attach_18 (by decide) ?_
  refine lv_istore (lv' := [(4, .int 0), (3, .int r4), (0, .ref (ad q)), (1, .ref (ad a0)), (2, .ref (ad 1))]) hx hb dA_attach_19 hl (by decide) rfl (fun ls hl => ?_)
  have loop7 : ∀ (n : Nat) (v4 : Int32) (v3 : Int32) (v0 : Nat) (v1 : Nat) (g : fl_G) (z : ((Int32) × fl_G)) (H : Heap) (locs : List Loc) (ls : Array Slot), fA_attach_L21 n v4 v3 v0 v1 g = some z → va_P (dC, dI) al_cl (fl_ws 32 (mc_sh ca ad) ad g) H → va_S (fl_A 32 ad) s.heap H locs → lv_has ls 5 [(4, .int v4), (3, .int v3), (0, .ref (ad v0)), (1, .ref (ad v1)), (2, .ref (ad 1))] → (∀ (H : Heap) (locs : List Loc) (ls : Array Slot), va_P (dC, dI) al_cl (fl_ws 32 (mc_sh ca ad) ad z.2) H → va_S (fl_A 32 ad) s.heap H locs → lv_has ls 5 [(4, .int z.1), (3, .int v3), (0, .ref (ad v0)), (1, .ref (ad v1)), (2, .ref (ad 1))] → W p l e ({ frames := 2, cells := 0, slots := 0, locals := 46 }) s m ([.ref (ad q), .ref (ad a0), .ref (ad 1)] : List Value).toArray below meth c H locs 0 0 (MQ below (fl_QV (dC, dI) al_cl 32 (mc_sh ca ad) ad g1) ([.ref (ad q), .ref (ad a0), .ref (ad 1)] : List Value).toArray s 0 0 (fl_A 32 ad)) (F0 m 63 ls [])) → W p l e ({ frames := 2, cells := 0, slots := 0, locals := 46 }) s m ([.ref (ad q), .ref (ad a0), .ref (ad 1)] : List Value).toArray below meth c H locs 0 0 (MQ below (fl_QV (dC, dI) al_cl 32 (mc_sh ca ad) ad g1) ([.ref (ad q), .ref (ad a0), .ref (ad 1)] : List Value).toArray s 0 0 (fl_A 32 ad)) (F0 m 21 ls []) := by
    intro n
    clear h hP hS hl
    induction n with
    | zero => intro v4 v3 v0 v1 g z H locs ls h; cases h
    | succ n ih7 =>
      intro v4 v3 v0 v1 g z H locs ls h hP hS hl K7
      have h : fA_attach_B21 (fA_attach_L21 n) v4 v3 v0 v1 g = some z := h
      unfold fA_attach_B21 at h
      refine lv_iload hx hb dA_attach_21 (lv_at hl 0 rfl) ?_
      refine lv_iload_n hx hb dA_attach_23 rfl (lv_at hl 1 rfl) ?_
      refine lv_icmp_ge (tgt := 63) hx hb dA_attach_24 (by decide) (fun c8 => ?_) (fun c8 => ?_)
      · replace h := fl_pos c8 h
        cases h
        exact K7 _ _ _ hP hS (lv_sub hl [0, 1, 2, 3, 4] rfl)
      · replace h := fl_neg c8 h
        refine lv_aload_n hx hb dA_attach_27 rfl (lv_at hl 3 rfl) ?_
        refine lv_iload hx hb dA_attach_28 (lv_at hl 0 rfl) ?_
        replace h := fl_ck_some h
        obtain ⟨hk9, h⟩ := h
        replace h := fl_bd_some h
        obtain ⟨r10, g11, hc12, h⟩ := h
        refine fl_calli (va_runV (As := [.int v4]) (rest := []) ⟨hx, hb, hml, hown, hts⟩ (cM_isUsed l dC dI ca ad hI v1 v4 hc12) (kM_isUsed hts (hts _ gm_270) ⟨Nat.le_of_ble_eq_true rfl, Nat.le_of_ble_eq_true rfl⟩) (fl_preV hK hP hN (mc_lt hk9 (by decide)) (mc_sh4 hk9) rfl) rfl rfl hl.1 rfl (lv_room (Nat.le_of_ble_eq_true rfl)) dA_attach_30 ⟨Nat.le_refl 0, Nat.le_refl 0⟩) hS (fun H locs hP hS => ?_)
        refine lv_if_ne (tgt := 57) hx hb dA_attach_33 (by decide) (fun c13 => ?_) (fun c13 => ?_)
        · replace h := fl_neg c13 h
          refine lv_iinc (v := (v4 + 1)) (lv' := [(4, .int (v4 + 1)), (3, .int v3), (0, .ref (ad v0)), (1, .ref (ad v1)), (2, .ref (ad 1))]) hx hb dA_attach_57 hl (k := 0) rfl rfl (by decide) rfl (fun ls hl => ?_)
          refine lv_goto (tgt := 21) hx hb dA_attach_60 (by decide) ?_
          exact ih7 (v4 + 1) v3 v0 v1 _ _ _ _ _ h hP hS (lv_sub hl [0, 1, 2, 3, 4] rfl) K7
        · replace h := fl_pos c13 h
          refine lv_aload_n hx hb dA_attach_36 rfl (lv_at hl 2 rfl) ?_
          replace h := fl_ck_some h
          obtain ⟨hk14, h⟩ := h
          refine mc_get5 (v := .ref (ad (v0 + 1))) hx hb hts mc_in5 hown hK hP (q := v0) hk14 1 (by decide) (hts _ gm_131) rfl dA_attach_37 ?_
          refine lv_aload_n hx hb dA_attach_40 rfl (lv_at hl 2 rfl) ?_
          refine mc_get5 (v := .int (g11 v0 2)) hx hb hts mc_in5 hown hK hP (q := v0) hk14 2 (by decide) (hts _ gm_132) rfl dA_attach_41 ?_
          refine lv_iload hx hb dA_attach_44 (lv_at hl 0 rfl) ?_
          replace h := fl_ck_some h
          obtain ⟨hi15, h⟩ := h
          refine mc_iast hx hb hK hP hI hS (q := (v0 + 1)) (mc_kdA hk14) hi15 dA_attach_46 (fun H locs hP hS => ?_)
          have hP : va_P (dC, dI) al_cl (fl_ws 32 (mc_sh ca ad) ad (fl_up g11 (v0 + 1) (Int32.toNatClampNeg (g11 v0 2)) v4)) H := hP
          refine lv_aload_n hx hb dA_attach_47 rfl (lv_at hl 2 rfl) ?_
          refine lv_dup hx hb dA_attach_48 rfl ?_
          refine mc_get5 (v := .int ((fl_up g11 (v0 + 1) (Int32.toNatClampNeg (g11 v0 2)) v4) v0 2)) hx hb hts mc_in5 hown hK hP (q := v0) hk14 2 (by decide) (hts _ gm_132) rfl dA_attach_49 ?_
          refine lv_iconst (v := 1) hx hb dA_attach_52 (by decide) ?_
          refine lv_iadd hx hb dA_attach_53 ?_
          refine mc_put5 (iv := (((fl_up g11 (v0 + 1) (Int32.toNatClampNeg (g11 v0 2)) v4) v0 2) + 1)) hx hb hts mc_in5 hown hK hP hI hS (q := v0) hk14 2 (by decide) (hts _ gm_132) rfl rfl rfl dA_attach_54 (fun H locs hP hS => ?_)
          have hP : va_P (dC, dI) al_cl (fl_ws 32 (mc_sh ca ad) ad (fl_up (fl_up g11 (v0 + 1) (Int32.toNatClampNeg (g11 v0 2)) v4) v0 2 (((fl_up g11 (v0 + 1) (Int32.toNatClampNeg (g11 v0 2)) v4) v0 2) + 1))) H := hP
          refine lv_iinc (v := (v4 + 1)) (lv' := [(4, .int (v4 + 1)), (3, .int v3), (0, .ref (ad v0)), (1, .ref (ad v1)), (2, .ref (ad 1))]) hx hb dA_attach_57 hl (k := 0) rfl rfl (by decide) rfl (fun ls hl => ?_)
          refine lv_goto (tgt := 21) hx hb dA_attach_60 (by decide) ?_
          exact ih7 (v4 + 1) v3 v0 v1 _ _ _ _ _ h hP hS (lv_sub hl [0, 1, 2, 3, 4] rfl) K7
  obtain ⟨r16, g17, hc18, h⟩ := fl_bd_some h
  refine loop7 1000 0 r4 q a0 _ (r16, g17) _ _ _ hc18 hP hS (lv_sub hl [0, 1, 2, 3, 4] rfl) (fun H locs ls hP hS hl => ?_)
  have hP : va_P (dC, dI) al_cl (fl_ws 32 (mc_sh ca ad) ad g17) H := hP
  have hl : lv_has ls 5 [(4, .int r16), (3, .int r4), (0, .ref (ad q)), (1, .ref (ad a0)), (2, .ref (ad 1))] := hl
  refine lv_aload_n hx hb dA_attach_63 rfl (lv_at hl 4 rfl) ?_
  refine lv_aload_n hx hb dA_attach_64 rfl (lv_at hl 2 rfl) ?_
  refine mc_get5 (v := .ref (ad (q + 1))) hx hb hts mc_in5 hown hK hP (q := q) hk1 1 (by decide) (hts _ gm_131) rfl dA_attach_65 ?_
  refine lv_aload_n hx hb dA_attach_68 rfl (lv_at hl 2 rfl) ?_
  refine mc_get5 (v := .int (g17 q 2)) hx hb hts mc_in5 hown hK hP (q := q) hk1 2 (by decide) (hts _ gm_132) rfl dA_attach_69 ?_
  replace h := fl_bd_some h
  obtain ⟨r19, g20, hc21, h⟩ := h
  refine fl_callv (va_runV (As := [.ref (ad (q + 1)), .int (g17 q 2)]) (rest := []) ⟨hx, hb, hml, hown, hts⟩ (cD_shuffle l dC dI ca ad hI (q + 1) (g17 q 2) hc21) (kD_shuffle hts (hts _ gm_274) ⟨Nat.le_of_ble_eq_true rfl, Nat.le_of_ble_eq_true rfl⟩) (fl_preV hK hP hN (mc_lt rfl (by decide)) (mc_sh1 rfl) rfl) rfl rfl hl.1 rfl (lv_room (Nat.le_of_ble_eq_true rfl)) dA_attach_72 ⟨Nat.le_refl 0, Nat.le_refl 0⟩) hS (fun H locs hP hS => ?_)
  exact fl_vret hx hb hr hlocks hP hS h dA_attach_75
def yA_handOut : MethodName := ⟨"MeshedSpans$Attachment", "handOut", "()I"⟩
def wA_handOut : List Cond := .code yA_handOut prog_2_method_4_code 2 (some .int) :: gw
theorem kA_handOut {R : Room} {s : State} {args : Array Value} {own : String} {ix : Nat} (hts : ∀ w ∈ gw, w.before args s = true) (hl : (Cond.methodLink own ix yA_handOut).before args s = true) (hR : 2 + 1 ≤ R.frames ∧ 8 + (2 + 11) + 41 ≤ R.locals) : CallW R s args own "MeshedSpans$Attachment" ix yA_handOut prog_2_method_4_code 2 (some .int) wA_handOut { frames := 2, cells := 0, slots := 0, locals := 41 } 0 0 0 := ⟨callB_of (rm := { frames := 2, cells := 0, slots := 0, locals := 41 }) 0 hts (gw_c (ct := .code yA_handOut prog_2_method_4_code 2 (some .int)) gm_290) rfl rfl rfl (hts _ gm_46) hl (by decide +kernel) hR, hts _ gm_288, hts _ gm_289⟩
theorem dA_handOut_0 : decode prog_2_method_4_code 0 = .ok (.aload_n 0, 1) := by decide +kernel
theorem dA_handOut_1 : decode prog_2_method_4_code 1 = .ok (.invokevirtual 42, 3) := by decide +kernel
theorem dA_handOut_4 : decode prog_2_method_4_code 4 = .ok (.ifCond .eq 5, 3) := by decide +kernel
theorem dA_handOut_7 : decode prog_2_method_4_code 7 = .ok (.iconst (-1), 1) := by decide +kernel
theorem dA_handOut_8 : decode prog_2_method_4_code 8 = .ok (.ireturn, 1) := by decide +kernel
theorem dA_handOut_9 : decode prog_2_method_4_code 9 = .ok (.aload_n 0, 1) := by decide +kernel
theorem dA_handOut_10 : decode prog_2_method_4_code 10 = .ok (.dup, 1) := by decide +kernel
theorem dA_handOut_11 : decode prog_2_method_4_code 11 = .ok (.getfield 19, 3) := by decide +kernel
theorem dA_handOut_14 : decode prog_2_method_4_code 14 = .ok (.iconst 1, 1) := by decide +kernel
theorem dA_handOut_15 : decode prog_2_method_4_code 15 = .ok (.isub, 1) := by decide +kernel
theorem dA_handOut_16 : decode prog_2_method_4_code 16 = .ok (.putfield 19, 3) := by decide +kernel
theorem dA_handOut_19 : decode prog_2_method_4_code 19 = .ok (.aload_n 0, 1) := by decide +kernel
theorem dA_handOut_20 : decode prog_2_method_4_code 20 = .ok (.getfield 15, 3) := by decide +kernel
theorem dA_handOut_23 : decode prog_2_method_4_code 23 = .ok (.aload_n 0, 1) := by decide +kernel
theorem dA_handOut_24 : decode prog_2_method_4_code 24 = .ok (.getfield 19, 3) := by decide +kernel
theorem dA_handOut_27 : decode prog_2_method_4_code 27 = .ok (.iaload, 1) := by decide +kernel
theorem dA_handOut_28 : decode prog_2_method_4_code 28 = .ok (.istore_n 1, 1) := by decide +kernel
theorem dA_handOut_29 : decode prog_2_method_4_code 29 = .ok (.aload_n 0, 1) := by decide +kernel
theorem dA_handOut_30 : decode prog_2_method_4_code 30 = .ok (.getfield 9, 3) := by decide +kernel
theorem dA_handOut_33 : decode prog_2_method_4_code 33 = .ok (.iload_n 1, 1) := by decide +kernel
theorem dA_handOut_34 : decode prog_2_method_4_code 34 = .ok (.invokevirtual 46, 3) := by decide +kernel
theorem dA_handOut_37 : decode prog_2_method_4_code 37 = .ok (.aload_n 0, 1) := by decide +kernel
theorem dA_handOut_38 : decode prog_2_method_4_code 38 = .ok (.getfield 9, 3) := by decide +kernel
theorem dA_handOut_41 : decode prog_2_method_4_code 41 = .ok (.iload_n 1, 1) := by decide +kernel
theorem dA_handOut_42 : decode prog_2_method_4_code 42 = .ok (.invokevirtual 50, 3) := by decide +kernel
theorem dA_handOut_45 : decode prog_2_method_4_code 45 = .ok (.ireturn, 1) := by decide +kernel
def fA_handOut (q : Nat) (g : fl_G) : Option (Int32 × fl_G) :=
  fl_ck (mc_kd q = 5) (fl_bd (fA_isSpent q g) (fun r2 g3 => if r2 = 0 then (fl_ck (fl_in ((fl_up g3 q 2 ((g3 q 2) - 1)) q 2) (mc_ln (q + 1))) (fl_lt (fl_rf ((fl_up g3 q 2 ((g3 q 2) - 1)) q 0)) (fun o7 => fl_nn o7 (fun q9 => fl_ck (mc_kd q9 = 4) (fl_bd (fM_setUsed q9 ((fl_up g3 q 2 ((g3 q 2) - 1)) (q + 1) (Int32.toNatClampNeg ((fl_up g3 q 2 ((g3 q 2) - 1)) q 2))) (fl_up g3 q 2 ((g3 q 2) - 1))) (fun r12 g13 => fl_lt (fl_rf (g13 q 0)) (fun o15 => fl_nn o15 (fun q17 => fl_ck (mc_kd q17 = 4) (fl_bd (fM_addressOf q17 ((fl_up g3 q 2 ((g3 q 2) - 1)) (q + 1) (Int32.toNatClampNeg ((fl_up g3 q 2 ((g3 q 2) - 1)) q 2))) g13) (fun r20 g21 => some (r20, g21))))))))))) else (some ((-1), g3))))
set_option maxHeartbeats 4000000 in
set_option maxRecDepth 100000 in
theorem cA_handOut (l : Launch) (dC : Nat → ClassId) (dI : Nat → Nat → Nat) (ca : Nat → ClassId) (ad : Nat → Nat) (hI : fl_inj 32 ad) (q : Nat) {g g1 : fl_G} {r : Int32} (h : fA_handOut q g = some (r, g1)) : Met l yA_handOut wA_handOut ({ frames := 2, cells := 0, slots := 0, locals := 41 }) (va_Pc [.ref (ad q)] (fl_Pre (dC, dI) al_cl 32 (mc_sh ca ad) ad (mc_ty ca) mc_ns g)) (fl_QI (dC, dI) al_cl 32 (mc_sh ca ad) ad r g1) 0 0 (fl_A 32 ad) := by
  refine fl_of (cc := prog_2_method_4_code) (maxL := 2) (ret := (some .int)) (by decide) rfl (Nat.le_of_ble_eq_true rfl) ?_
  intro p e s m below meth c ls hx hb hr hml hts hown hlocks hP hK hN hl
  have hown : s.vm.findClass "MeshedSpans$Attachment" = some m.cls := hown
  have hS : va_S (fl_A 32 ad) s.heap s.heap [] := va_S.rf
  have hl : lv_has ls 2 [(0, .ref (ad q))] := hl
  unfold fA_handOut at h
  refine lv_aload_n hx hb dA_handOut_0 rfl (lv_at hl 0 rfl) ?_
  replace h := fl_ck_some h
  obtain ⟨hk1, h⟩ := h
  replace h := fl_bd_some h
  obtain ⟨r2, g3, hc4, h⟩ := h
  refine fl_calli (va_runV (As := []) (rest := []) ⟨hx, hb, hml, hown, hts⟩ (cA_isSpent l dC dI ca ad hI q hc4) (kA_isSpent hts (hts _ gm_291) ⟨Nat.le_of_ble_eq_true rfl, Nat.le_of_ble_eq_true rfl⟩) (fl_preV hK hP hN (mc_lt hk1 (by decide)) (mc_sh5 hk1) rfl) rfl rfl hl.1 rfl (lv_room (Nat.le_of_ble_eq_true rfl)) dA_handOut_1 ⟨Nat.le_refl 0, Nat.le_refl 0⟩) hS (fun H locs hP hS => ?_)
  refine lv_if_eq (tgt := 9) hx hb dA_handOut_4 (by decide) (fun c5 => ?_) (fun c5 => ?_)
  · replace h := fl_pos c5 h
    refine lv_aload_n hx hb dA_handOut_9 rfl (lv_at hl 0 rfl) ?_
    refine lv_dup hx hb dA_handOut_10 rfl ?_
    refine mc_get5 (v := .int (g3 q 2)) hx hb hts mc_in5 hown hK hP (q := q) hk1 2 (by decide) (hts _ gm_132) rfl dA_handOut_11 ?_
    refine lv_iconst (v := 1) hx hb dA_handOut_14 (by decide) ?_
    refine lv_isub hx hb dA_handOut_15 ?_
    refine mc_put5 (iv := ((g3 q 2) - 1)) hx hb hts mc_in5 hown hK hP hI hS (q := q) hk1 2 (by decide) (hts _ gm_132) rfl rfl rfl dA_handOut_16 (fun H locs hP hS => ?_)
    have hP : va_P (dC, dI) al_cl (fl_ws 32 (mc_sh ca ad) ad (fl_up g3 q 2 ((g3 q 2) - 1))) H := hP
    refine lv_aload_n hx hb dA_handOut_19 rfl (lv_at hl 0 rfl) ?_
    refine mc_get5 (v := .ref (ad (q + 1))) hx hb hts mc_in5 hown hK hP (q := q) hk1 1 (by decide) (hts _ gm_131) rfl dA_handOut_20 ?_
    refine lv_aload_n hx hb dA_handOut_23 rfl (lv_at hl 0 rfl) ?_
    refine mc_get5 (v := .int ((fl_up g3 q 2 ((g3 q 2) - 1)) q 2)) hx hb hts mc_in5 hown hK hP (q := q) hk1 2 (by decide) (hts _ gm_132) rfl dA_handOut_24 ?_
    replace h := fl_ck_some h
    obtain ⟨hi6, h⟩ := h
    refine mc_iald hx hb hK hP (q := (q + 1)) (mc_kdA hk1) hi6 dA_handOut_27 ?_
    refine lv_istore_n (lv' := [(1, .int ((fl_up g3 q 2 ((g3 q 2) - 1)) (q + 1) (Int32.toNatClampNeg ((fl_up g3 q 2 ((g3 q 2) - 1)) q 2)))), (0, .ref (ad q))]) hx hb dA_handOut_28 rfl hl (by decide) rfl (fun ls hl => ?_)
    refine lv_aload_n hx hb dA_handOut_29 rfl (lv_at hl 1 rfl) ?_
    refine mc_get5 (v := va_rf (Option.map ad (fl_rf ((fl_up g3 q 2 ((g3 q 2) - 1)) q 0)))) hx hb hts mc_in5 hown hK hP (q := q) hk1 0 (by decide) (hts _ gm_130) rfl dA_handOut_30 ?_
    replace h := fl_lt_some h
    obtain ⟨o7, ho8, h⟩ := h
    rw [← ho8]
    refine lv_iload_n hx hb dA_handOut_33 rfl (lv_at hl 0 rfl) ?_
    replace h := fl_nn_some h
    obtain ⟨q9, ho10, h⟩ := h
    subst ho10
    replace h := fl_ck_some h
    obtain ⟨hk11, h⟩ := h
    replace h := fl_bd_some h
    obtain ⟨r12, g13, hc14, h⟩ := h
    refine fl_callv (va_runV (As := [.int ((fl_up g3 q 2 ((g3 q 2) - 1)) (q + 1) (Int32.toNatClampNeg ((fl_up g3 q 2 ((g3 q 2) - 1)) q 2)))]) (rest := []) ⟨hx, hb, hml, hown, hts⟩ (cM_setUsed l dC dI ca ad hI q9 ((fl_up g3 q 2 ((g3 q 2) - 1)) (q + 1) (Int32.toNatClampNeg ((fl_up g3 q 2 ((g3 q 2) - 1)) q 2))) hc14) (kM_setUsed hts (hts _ gm_292) ⟨Nat.le_of_ble_eq_true rfl, Nat.le_of_ble_eq_true rfl⟩) (fl_preV hK hP hN (mc_lt hk11 (by decide)) (mc_sh4 hk11) rfl) rfl rfl hl.1 rfl (lv_room (Nat.le_of_ble_eq_true rfl)) dA_handOut_34 ⟨Nat.le_refl 0, Nat.le_refl 0⟩) hS (fun H locs hP hS => ?_)
    refine lv_aload_n hx hb dA_handOut_37 rfl (lv_at hl 1 rfl) ?_
    refine mc_get5 (v := va_rf (Option.map ad (fl_rf (g13 q 0)))) hx hb hts mc_in5 hown hK hP (q := q) hk1 0 (by decide) (hts _ gm_130) rfl dA_handOut_38 ?_
    replace h := fl_lt_some h
    obtain ⟨o15, ho16, h⟩ := h
    rw [← ho16]
    refine lv_iload_n hx hb dA_handOut_41 rfl (lv_at hl 0 rfl) ?_
    replace h := fl_nn_some h
    obtain ⟨q17, ho18, h⟩ := h
    subst ho18
    replace h := fl_ck_some h
    obtain ⟨hk19, h⟩ := h
    replace h := fl_bd_some h
    obtain ⟨r20, g21, hc22, h⟩ := h
    refine fl_calli (va_runV (As := [.int ((fl_up g3 q 2 ((g3 q 2) - 1)) (q + 1) (Int32.toNatClampNeg ((fl_up g3 q 2 ((g3 q 2) - 1)) q 2)))]) (rest := []) ⟨hx, hb, hml, hown, hts⟩ (cM_addressOf l dC dI ca ad hI q17 ((fl_up g3 q 2 ((g3 q 2) - 1)) (q + 1) (Int32.toNatClampNeg ((fl_up g3 q 2 ((g3 q 2) - 1)) q 2))) hc22) (kM_addressOf hts (hts _ gm_296) ⟨Nat.le_of_ble_eq_true rfl, Nat.le_of_ble_eq_true rfl⟩) (fl_preV hK hP hN (mc_lt hk19 (by decide)) (mc_sh4 hk19) rfl) rfl rfl hl.1 rfl (lv_room (Nat.le_of_ble_eq_true rfl)) dA_handOut_42 ⟨Nat.le_refl 0, Nat.le_refl 0⟩) hS (fun H locs hP hS => ?_)
    exact fl_iret hx hb hr hlocks hP hS h dA_handOut_45
  · replace h := fl_neg c5 h
    refine lv_iconst (v := (-1)) hx hb dA_handOut_7 (by decide) ?_
    exact fl_iret hx hb hr hlocks hP hS h dA_handOut_8
def yA_putBack : MethodName := ⟨"MeshedSpans$Attachment", "putBack", "(ILMeshedSpans$Draws;)V"⟩
def wA_putBack : List Cond := .code yA_putBack prog_2_method_5_code 3 none :: gw
theorem kA_putBack {R : Room} {s : State} {args : Array Value} {own : String} {ix : Nat} (hts : ∀ w ∈ gw, w.before args s = true) (hl : (Cond.methodLink own ix yA_putBack).before args s = true) (hR : 1 + 1 ≤ R.frames ∧ 8 + (3 + 11) + 23 ≤ R.locals) : CallW R s args own "MeshedSpans$Attachment" ix yA_putBack prog_2_method_5_code 3 none wA_putBack { frames := 1, cells := 0, slots := 0, locals := 23 } 0 0 2 := ⟨callB_of (rm := { frames := 1, cells := 0, slots := 0, locals := 23 }) 2 hts (gw_c (ct := .code yA_putBack prog_2_method_5_code 3 none) gm_356) rfl rfl rfl (hts _ gm_46) hl (by decide +kernel) hR, hts _ gm_354, hts _ gm_355⟩
theorem dA_putBack_0 : decode prog_2_method_5_code 0 = .ok (.aload_n 0, 1) := by decide +kernel
theorem dA_putBack_1 : decode prog_2_method_5_code 1 = .ok (.getfield 19, 3) := by decide +kernel
theorem dA_putBack_4 : decode prog_2_method_5_code 4 = .ok (.aload_n 0, 1) := by decide +kernel
theorem dA_putBack_5 : decode prog_2_method_5_code 5 = .ok (.getfield 15, 3) := by decide +kernel
theorem dA_putBack_8 : decode prog_2_method_5_code 8 = .ok (.arraylength, 1) := by decide +kernel
theorem dA_putBack_9 : decode prog_2_method_5_code 9 = .ok (.if_icmp .ge 23, 3) := by decide +kernel
theorem dA_putBack_12 : decode prog_2_method_5_code 12 = .ok (.aload_n 0, 1) := by decide +kernel
theorem dA_putBack_13 : decode prog_2_method_5_code 13 = .ok (.getfield 15, 3) := by decide +kernel
theorem dA_putBack_16 : decode prog_2_method_5_code 16 = .ok (.aload_n 0, 1) := by decide +kernel
theorem dA_putBack_17 : decode prog_2_method_5_code 17 = .ok (.getfield 19, 3) := by decide +kernel
theorem dA_putBack_20 : decode prog_2_method_5_code 20 = .ok (.iload_n 1, 1) := by decide +kernel
theorem dA_putBack_21 : decode prog_2_method_5_code 21 = .ok (.iastore, 1) := by decide +kernel
theorem dA_putBack_22 : decode prog_2_method_5_code 22 = .ok (.aload_n 0, 1) := by decide +kernel
theorem dA_putBack_23 : decode prog_2_method_5_code 23 = .ok (.dup, 1) := by decide +kernel
theorem dA_putBack_24 : decode prog_2_method_5_code 24 = .ok (.getfield 19, 3) := by decide +kernel
theorem dA_putBack_27 : decode prog_2_method_5_code 27 = .ok (.iconst 1, 1) := by decide +kernel
theorem dA_putBack_28 : decode prog_2_method_5_code 28 = .ok (.iadd, 1) := by decide +kernel
theorem dA_putBack_29 : decode prog_2_method_5_code 29 = .ok (.putfield 19, 3) := by decide +kernel
theorem dA_putBack_32 : decode prog_2_method_5_code 32 = .ok (.aload_n 0, 1) := by decide +kernel
theorem dA_putBack_33 : decode prog_2_method_5_code 33 = .ok (.getfield 19, 3) := by decide +kernel
theorem dA_putBack_36 : decode prog_2_method_5_code 36 = .ok (.iconst 1, 1) := by decide +kernel
theorem dA_putBack_37 : decode prog_2_method_5_code 37 = .ok (.if_icmp .le 24, 3) := by decide +kernel
theorem dA_putBack_40 : decode prog_2_method_5_code 40 = .ok (.aload_n 0, 1) := by decide +kernel
theorem dA_putBack_41 : decode prog_2_method_5_code 41 = .ok (.getfield 15, 3) := by decide +kernel
theorem dA_putBack_44 : decode prog_2_method_5_code 44 = .ok (.aload_n 0, 1) := by decide +kernel
theorem dA_putBack_45 : decode prog_2_method_5_code 45 = .ok (.getfield 19, 3) := by decide +kernel
theorem dA_putBack_48 : decode prog_2_method_5_code 48 = .ok (.iconst 1, 1) := by decide +kernel
theorem dA_putBack_49 : decode prog_2_method_5_code 49 = .ok (.isub, 1) := by decide +kernel
theorem dA_putBack_50 : decode prog_2_method_5_code 50 = .ok (.aload_n 2, 1) := by decide +kernel
theorem dA_putBack_51 : decode prog_2_method_5_code 51 = .ok (.aload_n 0, 1) := by decide +kernel
theorem dA_putBack_52 : decode prog_2_method_5_code 52 = .ok (.getfield 19, 3) := by decide +kernel
theorem dA_putBack_55 : decode prog_2_method_5_code 55 = .ok (.invokevirtual 53, 3) := by decide +kernel
theorem dA_putBack_58 : decode prog_2_method_5_code 58 = .ok (.invokestatic 56, 3) := by decide +kernel
theorem dA_putBack_61 : decode prog_2_method_5_code 61 = .ok (.return_, 1) := by decide +kernel
def fA_putBack (q : Nat) (a0 : Int32) (g : fl_G) : Option (Unit × fl_G) :=
  fl_ck (mc_kd q = 5) (if (Int32.ofNat (mc_ln (q + 1))) ≤ (g q 2) then (if (g q 2) ≤ 1 then (some ((), g)) else (fl_bd (fD_below (g q 2) g) (fun r4 g5 => fl_bd (fD_exchange (q + 1) ((g q 2) - 1) r4 g5) (fun r7 g8 => some ((), g8))))) else (fl_ck (fl_in (g q 2) (mc_ln (q + 1))) (if ((fl_up (fl_up g (q + 1) (Int32.toNatClampNeg (g q 2)) a0) q 2 (((fl_up g (q + 1) (Int32.toNatClampNeg (g q 2)) a0) q 2) + 1)) q 2) ≤ 1 then (some ((), (fl_up (fl_up g (q + 1) (Int32.toNatClampNeg (g q 2)) a0) q 2 (((fl_up g (q + 1) (Int32.toNatClampNeg (g q 2)) a0) q 2) + 1)))) else (fl_bd (fD_below ((fl_up (fl_up g (q + 1) (Int32.toNatClampNeg (g q 2)) a0) q 2 (((fl_up g (q + 1) (Int32.toNatClampNeg (g q 2)) a0) q 2) + 1)) q 2) (fl_up (fl_up g (q + 1) (Int32.toNatClampNeg (g q 2)) a0) q 2 (((fl_up g (q + 1) (Int32.toNatClampNeg (g q 2)) a0) q 2) + 1))) (fun r12 g13 => fl_bd (fD_exchange (q + 1) (((fl_up (fl_up g (q + 1) (Int32.toNatClampNeg (g q 2)) a0) q 2 (((fl_up g (q + 1) (Int32.toNatClampNeg (g q 2)) a0) q 2) + 1)) q 2) - 1) r12 g13) (fun r15 g16 => some ((), g16)))))))
set_option maxHeartbeats 4000000 in
set_option maxRecDepth 100000 in
theorem cA_putBack (l : Launch) (dC : Nat → ClassId) (dI : Nat → Nat → Nat) (ca : Nat → ClassId) (ad : Nat → Nat) (hI : fl_inj 32 ad) (q : Nat) (a0 : Int32) {g g1 : fl_G} {r : Unit} (h : fA_putBack q a0 g = some (r, g1)) : Met l yA_putBack wA_putBack ({ frames := 1, cells := 0, slots := 0, locals := 23 }) (va_Pc [.ref (ad q), .int a0, .ref (ad 1)] (fl_Pre (dC, dI) al_cl 32 (mc_sh ca ad) ad (mc_ty ca) mc_ns g)) (fl_QV (dC, dI) al_cl 32 (mc_sh ca ad) ad g1) 0 0 (fl_A 32 ad) := by
  refine fl_of (cc := prog_2_method_5_code) (maxL := 3) (ret := none) (by decide) rfl (Nat.le_of_ble_eq_true rfl) ?_
  intro p e s m below meth c ls hx hb hr hml hts hown hlocks hP hK hN hl
  have hown : s.vm.findClass "MeshedSpans$Attachment" = some m.cls := hown
  have hS : va_S (fl_A 32 ad) s.heap s.heap [] := va_S.rf
  have hl : lv_has ls 3 [(0, .ref (ad q)), (1, .int a0), (2, .ref (ad 1))] := hl
  unfold fA_putBack at h
  refine lv_aload_n hx hb dA_putBack_0 rfl (lv_at hl 0 rfl) ?_
  replace h := fl_ck_some h
  obtain ⟨hk1, h⟩ := h
  refine mc_get5 (v := .int (g q 2)) hx hb hts mc_in5 hown hK hP (q := q) hk1 2 (by decide) (hts _ gm_132) rfl dA_putBack_1 ?_
  refine lv_aload_n hx hb dA_putBack_4 rfl (lv_at hl 0 rfl) ?_
  refine mc_get5 (v := .ref (ad (q + 1))) hx hb hts mc_in5 hown hK hP (q := q) hk1 1 (by decide) (hts _ gm_131) rfl dA_putBack_5 ?_
  refine mc_alen10 (v := (Int32.ofNat (mc_ln (q + 1)))) hx hb hK hP (q := (q + 1)) (mc_kdA hk1) rfl dA_putBack_8 ?_
  refine lv_icmp_ge (tgt := 32) hx hb dA_putBack_9 (by decide) (fun c2 => ?_) (fun c2 => ?_)
  · replace h := fl_pos c2 h
    refine lv_aload_n hx hb dA_putBack_32 rfl (lv_at hl 0 rfl) ?_
    refine mc_get5 (v := .int (g q 2)) hx hb hts mc_in5 hown hK hP (q := q) hk1 2 (by decide) (hts _ gm_132) rfl dA_putBack_33 ?_
    refine lv_iconst (v := 1) hx hb dA_putBack_36 (by decide) ?_
    refine lv_icmp_le (tgt := 61) hx hb dA_putBack_37 (by decide) (fun c3 => ?_) (fun c3 => ?_)
    · replace h := fl_pos c3 h
      exact fl_vret hx hb hr hlocks hP hS h dA_putBack_61
    · replace h := fl_neg c3 h
      refine lv_aload_n hx hb dA_putBack_40 rfl (lv_at hl 0 rfl) ?_
      refine mc_get5 (v := .ref (ad (q + 1))) hx hb hts mc_in5 hown hK hP (q := q) hk1 1 (by decide) (hts _ gm_131) rfl dA_putBack_41 ?_
      refine lv_aload_n hx hb dA_putBack_44 rfl (lv_at hl 0 rfl) ?_
      refine mc_get5 (v := .int (g q 2)) hx hb hts mc_in5 hown hK hP (q := q) hk1 2 (by decide) (hts _ gm_132) rfl dA_putBack_45 ?_
      refine lv_iconst (v := 1) hx hb dA_putBack_48 (by decide) ?_
      refine lv_isub hx hb dA_putBack_49 ?_
      refine lv_aload_n hx hb dA_putBack_50 rfl (lv_at hl 2 rfl) ?_
      refine lv_aload_n hx hb dA_putBack_51 rfl (lv_at hl 0 rfl) ?_
      refine mc_get5 (v := .int (g q 2)) hx hb hts mc_in5 hown hK hP (q := q) hk1 2 (by decide) (hts _ gm_132) rfl dA_putBack_52 ?_
      replace h := fl_bd_some h
      obtain ⟨r4, g5, hc6, h⟩ := h
      refine fl_calli (va_runV (As := [.int (g q 2)]) (rest := [.int ((g q 2) - 1), .ref (ad (q + 1))]) ⟨hx, hb, hml, hown, hts⟩ (cD_below l dC dI ca ad hI (g q 2) hc6) (kD_below hts (hts _ gm_357) ⟨Nat.le_of_ble_eq_true rfl, Nat.le_of_ble_eq_true rfl⟩) (fl_preV hK hP hN (mc_lt rfl (by decide)) (mc_sh1 rfl) rfl) rfl rfl hl.1 rfl (lv_room (Nat.le_of_ble_eq_true rfl)) dA_putBack_55 ⟨Nat.le_refl 0, Nat.le_refl 0⟩) hS (fun H locs hP hS => ?_)
      replace h := fl_bd_some h
      obtain ⟨r7, g8, hc9, h⟩ := h
      refine fl_callv (va_runS (As := [.ref (ad (q + 1)), .int ((g q 2) - 1), .int r4]) (rest := []) ⟨hx, hb, hml, hown, hts⟩ (cD_exchange l dC dI ca ad hI (q + 1) ((g q 2) - 1) r4 hc9) (kD_exchange hts (hts _ gm_358) ⟨Nat.le_of_ble_eq_true rfl, Nat.le_of_ble_eq_true rfl⟩) (fl_preS hK hP hN) rfl rfl hl.1 rfl (lv_room (Nat.le_of_ble_eq_true rfl)) dA_putBack_58 ⟨Nat.le_refl 0, Nat.le_refl 0⟩) hS (fun H locs hP hS => ?_)
      exact fl_vret hx hb hr hlocks hP hS h dA_putBack_61
  · replace h := fl_neg c2 h
    refine lv_aload_n hx hb dA_putBack_12 rfl (lv_at hl 0 rfl) ?_
    refine mc_get5 (v := .ref (ad (q + 1))) hx hb hts mc_in5 hown hK hP (q := q) hk1 1 (by decide) (hts _ gm_131) rfl dA_putBack_13 ?_
    refine lv_aload_n hx hb dA_putBack_16 rfl (lv_at hl 0 rfl) ?_
    refine mc_get5 (v := .int (g q 2)) hx hb hts mc_in5 hown hK hP (q := q) hk1 2 (by decide) (hts _ gm_132) rfl dA_putBack_17 ?_
    refine lv_iload_n hx hb dA_putBack_20 rfl (lv_at hl 1 rfl) ?_
    replace h := fl_ck_some h
    obtain ⟨hi10, h⟩ := h
    refine mc_iast hx hb hK hP hI hS (q := (q + 1)) (mc_kdA hk1) hi10 dA_putBack_21 (fun H locs hP hS => ?_)
    have hP : va_P (dC, dI) al_cl (fl_ws 32 (mc_sh ca ad) ad (fl_up g (q + 1) (Int32.toNatClampNeg (g q 2)) a0)) H := hP
    refine lv_aload_n hx hb dA_putBack_22 rfl (lv_at hl 0 rfl) ?_
    refine lv_dup hx hb dA_putBack_23 rfl ?_
    refine mc_get5 (v := .int ((fl_up g (q + 1) (Int32.toNatClampNeg (g q 2)) a0) q 2)) hx hb hts mc_in5 hown hK hP (q := q) hk1 2 (by decide) (hts _ gm_132) rfl dA_putBack_24 ?_
    refine lv_iconst (v := 1) hx hb dA_putBack_27 (by decide) ?_
    refine lv_iadd hx hb dA_putBack_28 ?_
    refine mc_put5 (iv := (((fl_up g (q + 1) (Int32.toNatClampNeg (g q 2)) a0) q 2) + 1)) hx hb hts mc_in5 hown hK hP hI hS (q := q) hk1 2 (by decide) (hts _ gm_132) rfl rfl rfl dA_putBack_29 (fun H locs hP hS => ?_)
    have hP : va_P (dC, dI) al_cl (fl_ws 32 (mc_sh ca ad) ad (fl_up (fl_up g (q + 1) (Int32.toNatClampNeg (g q 2)) a0) q 2 (((fl_up g (q + 1) (Int32.toNatClampNeg (g q 2)) a0) q 2) + 1))) H := hP
    refine lv_aload_n hx hb dA_putBack_32 rfl (lv_at hl 0 rfl) ?_
    refine mc_get5 (v := .int ((fl_up (fl_up g (q + 1) (Int32.toNatClampNeg (g q 2)) a0) q 2 (((fl_up g (q + 1) (Int32.toNatClampNeg (g q 2)) a0) q 2) + 1)) q 2)) hx hb hts mc_in5 hown hK hP (q := q) hk1 2 (by decide) (hts _ gm_132) rfl dA_putBack_33 ?_
    refine lv_iconst (v := 1) hx hb dA_putBack_36 (by decide) ?_
    refine lv_icmp_le (tgt := 61) hx hb dA_putBack_37 (by decide) (fun c11 => ?_) (fun c11 => ?_)
    · replace h := fl_pos c11 h
      exact fl_vret hx hb hr hlocks hP hS h dA_putBack_61
    · replace h := fl_neg c11 h
      refine lv_aload_n hx hb dA_putBack_40 rfl (lv_at hl 0 rfl) ?_
      refine mc_get5 (v := .ref (ad (q + 1))) hx hb hts mc_in5 hown hK hP (q := q) hk1 1 (by decide) (hts _ gm_131) rfl dA_putBack_41 ?_
      refine lv_aload_n hx hb dA_putBack_44 rfl (lv_at hl 0 rfl) ?_
      refine mc_get5 (v := .int ((fl_up (fl_up g (q + 1) (Int32.toNatClampNeg (g q 2)) a0) q 2 (((fl_up g (q + 1) (Int32.toNatClampNeg (g q 2)) a0) q 2) + 1)) q 2)) hx hb hts mc_in5 hown hK hP (q := q) hk1 2 (by decide) (hts _ gm_132) rfl dA_putBack_45 ?_
      refine lv_iconst (v := 1) hx hb dA_putBack_48 (by decide) ?_
      refine lv_isub hx hb dA_putBack_49 ?_
      refine lv_aload_n hx hb dA_putBack_50 rfl (lv_at hl 2 rfl) ?_
      refine lv_aload_n hx hb dA_putBack_51 rfl (lv_at hl 0 rfl) ?_
      refine mc_get5 (v := .int ((fl_up (fl_up g (q + 1) (Int32.toNatClampNeg (g q 2)) a0) q 2 (((fl_up g (q + 1) (Int32.toNatClampNeg (g q 2)) a0) q 2) + 1)) q 2)) hx hb hts mc_in5 hown hK hP (q := q) hk1 2 (by decide) (hts _ gm_132) rfl dA_putBack_52 ?_
      replace h := fl_bd_some h
      obtain ⟨r12, g13, hc14, h⟩ := h
      refine fl_calli (va_runV (As := [.int ((fl_up (fl_up g (q + 1) (Int32.toNatClampNeg (g q 2)) a0) q 2 (((fl_up g (q + 1) (Int32.toNatClampNeg (g q 2)) a0) q 2) + 1)) q 2)]) (rest := [.int (((fl_up (fl_up g (q + 1) (Int32.toNatClampNeg (g q 2)) a0) q 2 (((fl_up g (q + 1) (Int32.toNatClampNeg (g q 2)) a0) q 2) + 1)) q 2) - 1), .ref (ad (q + 1))]) ⟨hx, hb, hml, hown, hts⟩ (cD_below l dC dI ca ad hI ((fl_up (fl_up g (q + 1) (Int32.toNatClampNeg (g q 2)) a0) q 2 (((fl_up g (q + 1) (Int32.toNatClampNeg (g q 2)) a0) q 2) + 1)) q 2) hc14) (kD_below hts (hts _ gm_357) ⟨Nat.le_of_ble_eq_true rfl, Nat.le_of_ble_eq_true rfl⟩) (fl_preV hK hP hN (mc_lt rfl (by decide)) (mc_sh1 rfl) rfl) rfl rfl hl.1 rfl (lv_room (Nat.le_of_ble_eq_true rfl)) dA_putBack_55 ⟨Nat.le_refl 0, Nat.le_refl 0⟩) hS (fun H locs hP hS => ?_)
      replace h := fl_bd_some h
      obtain ⟨r15, g16, hc17, h⟩ := h
      refine fl_callv (va_runS (As := [.ref (ad (q + 1)), .int (((fl_up (fl_up g (q + 1) (Int32.toNatClampNeg (g q 2)) a0) q 2 (((fl_up g (q + 1) (Int32.toNatClampNeg (g q 2)) a0) q 2) + 1)) q 2) - 1), .int r12]) (rest := []) ⟨hx, hb, hml, hown, hts⟩ (cD_exchange l dC dI ca ad hI (q + 1) (((fl_up (fl_up g (q + 1) (Int32.toNatClampNeg (g q 2)) a0) q 2 (((fl_up g (q + 1) (Int32.toNatClampNeg (g q 2)) a0) q 2) + 1)) q 2) - 1) r12 hc17) (kD_exchange hts (hts _ gm_358) ⟨Nat.le_of_ble_eq_true rfl, Nat.le_of_ble_eq_true rfl⟩) (fl_preS hK hP hN) rfl rfl hl.1 rfl (lv_room (Nat.le_of_ble_eq_true rfl)) dA_putBack_58 ⟨Nat.le_refl 0, Nat.le_refl 0⟩) hS (fun H locs hP hS => ?_)
      exact fl_vret hx hb hr hlocks hP hS h dA_putBack_61
def yA_cellAtPlace : MethodName := ⟨"MeshedSpans$Attachment", "cellAtPlace", "(I)I"⟩
def wA_cellAtPlace : List Cond := .code yA_cellAtPlace prog_2_method_6_code 2 (some .int) :: gw
theorem kA_cellAtPlace {R : Room} {s : State} {args : Array Value} {own : String} {ix : Nat} (hts : ∀ w ∈ gw, w.before args s = true) (hl : (Cond.methodLink own ix yA_cellAtPlace).before args s = true) (hR : 0 + 1 ≤ R.frames ∧ 8 + (2 + 11) + 0 ≤ R.locals) : CallW R s args own "MeshedSpans$Attachment" ix yA_cellAtPlace prog_2_method_6_code 2 (some .int) wA_cellAtPlace { frames := 0, cells := 0, slots := 0, locals := 0 } 0 0 1 := ⟨callB_of (rm := { frames := 0, cells := 0, slots := 0, locals := 0 }) 1 hts (gw_c (ct := .code yA_cellAtPlace prog_2_method_6_code 2 (some .int)) gm_492) rfl rfl rfl (hts _ gm_46) hl (by decide +kernel) hR, hts _ gm_490, hts _ gm_491⟩
theorem dA_cellAtPlace_0 : decode prog_2_method_6_code 0 = .ok (.iload_n 1, 1) := by decide +kernel
theorem dA_cellAtPlace_1 : decode prog_2_method_6_code 1 = .ok (.ifCond .lt 20, 3) := by decide +kernel
theorem dA_cellAtPlace_4 : decode prog_2_method_6_code 4 = .ok (.iload_n 1, 1) := by decide +kernel
theorem dA_cellAtPlace_5 : decode prog_2_method_6_code 5 = .ok (.aload_n 0, 1) := by decide +kernel
theorem dA_cellAtPlace_6 : decode prog_2_method_6_code 6 = .ok (.getfield 19, 3) := by decide +kernel
theorem dA_cellAtPlace_9 : decode prog_2_method_6_code 9 = .ok (.if_icmp .ge 12, 3) := by decide +kernel
theorem dA_cellAtPlace_12 : decode prog_2_method_6_code 12 = .ok (.aload_n 0, 1) := by decide +kernel
theorem dA_cellAtPlace_13 : decode prog_2_method_6_code 13 = .ok (.getfield 15, 3) := by decide +kernel
theorem dA_cellAtPlace_16 : decode prog_2_method_6_code 16 = .ok (.iload_n 1, 1) := by decide +kernel
theorem dA_cellAtPlace_17 : decode prog_2_method_6_code 17 = .ok (.iaload, 1) := by decide +kernel
theorem dA_cellAtPlace_18 : decode prog_2_method_6_code 18 = .ok (.goto 4, 3) := by decide +kernel
theorem dA_cellAtPlace_21 : decode prog_2_method_6_code 21 = .ok (.iconst (-1), 1) := by decide +kernel
theorem dA_cellAtPlace_22 : decode prog_2_method_6_code 22 = .ok (.ireturn, 1) := by decide +kernel
def fA_cellAtPlace (q : Nat) (a0 : Int32) (g : fl_G) : Option (Int32 × fl_G) :=
  if a0 < 0 then (some ((-1), g)) else (fl_ck (mc_kd q = 5) (if (g q 2) ≤ a0 then (some ((-1), g)) else (fl_ck (fl_in a0 (mc_ln (q + 1))) (some ((g (q + 1) (Int32.toNatClampNeg a0)), g)))))
set_option maxHeartbeats 4000000 in
set_option maxRecDepth 100000 in
theorem cA_cellAtPlace (l : Launch) (dC : Nat → ClassId) (dI : Nat → Nat → Nat) (ca : Nat → ClassId) (ad : Nat → Nat) (hI : fl_inj 32 ad) (q : Nat) (a0 : Int32) {g g1 : fl_G} {r : Int32} (h : fA_cellAtPlace q a0 g = some (r, g1)) : Met l yA_cellAtPlace wA_cellAtPlace ({ frames := 0, cells := 0, slots := 0, locals := 0 }) (va_Pc [.ref (ad q), .int a0] (fl_Pre (dC, dI) al_cl 32 (mc_sh ca ad) ad (mc_ty ca) mc_ns g)) (fl_QI (dC, dI) al_cl 32 (mc_sh ca ad) ad r g1) 0 0 (fl_A 32 ad) := by
  refine fl_of (cc := prog_2_method_6_code) (maxL := 2) (ret := (some .int)) (by decide) rfl (Nat.le_of_ble_eq_true rfl) ?_
  intro p e s m below meth c ls hx hb hr hml hts hown hlocks hP hK hN hl
  have hown : s.vm.findClass "MeshedSpans$Attachment" = some m.cls := hown
  have hS : va_S (fl_A 32 ad) s.heap s.heap [] := va_S.rf
  have hl : lv_has ls 2 [(0, .ref (ad q)), (1, .int a0)] := hl
  unfold fA_cellAtPlace at h
  refine lv_iload_n hx hb dA_cellAtPlace_0 rfl (lv_at hl 1 rfl) ?_
  refine lv_if_lt (tgt := 21) hx hb dA_cellAtPlace_1 (by decide) (fun c1 => ?_) (fun c1 => ?_)
  · replace h := fl_pos c1 h
    refine lv_iconst (v := (-1)) hx hb dA_cellAtPlace_21 (by decide) ?_
    exact fl_iret hx hb hr hlocks hP hS h dA_cellAtPlace_22
  · replace h := fl_neg c1 h
    refine lv_iload_n hx hb dA_cellAtPlace_4 rfl (lv_at hl 1 rfl) ?_
    refine lv_aload_n hx hb dA_cellAtPlace_5 rfl (lv_at hl 0 rfl) ?_
    replace h := fl_ck_some h
    obtain ⟨hk2, h⟩ := h
    refine mc_get5 (v := .int (g q 2)) hx hb hts mc_in5 hown hK hP (q := q) hk2 2 (by decide) (hts _ gm_132) rfl dA_cellAtPlace_6 ?_
    refine lv_icmp_ge (tgt := 21) hx hb dA_cellAtPlace_9 (by decide) (fun c3 => ?_) (fun c3 => ?_)
    · replace h := fl_pos c3 h
      refine lv_iconst (v := (-1)) hx hb dA_cellAtPlace_21 (by decide) ?_
      exact fl_iret hx hb hr hlocks hP hS h dA_cellAtPlace_22
    · replace h := fl_neg c3 h
      refine lv_aload_n hx hb dA_cellAtPlace_12 rfl (lv_at hl 0 rfl) ?_
      refine mc_get5 (v := .ref (ad (q + 1))) hx hb hts mc_in5 hown hK hP (q := q) hk2 1 (by decide) (hts _ gm_131) rfl dA_cellAtPlace_13 ?_
      refine lv_iload_n hx hb dA_cellAtPlace_16 rfl (lv_at hl 1 rfl) ?_
      replace h := fl_ck_some h
      obtain ⟨hi4, h⟩ := h
      refine mc_iald hx hb hK hP (q := (q + 1)) (mc_kdA hk2) hi4 dA_cellAtPlace_17 ?_
      refine lv_goto (tgt := 22) hx hb dA_cellAtPlace_18 (by decide) ?_
      exact fl_iret hx hb hr hlocks hP hS h dA_cellAtPlace_22
def yS_seed : MethodName := ⟨"MeshedSpans", "seed", "(I)V"⟩
def wS_seed : List Cond := .code yS_seed prog_1_method_2_code 2 none :: gw
theorem kS_seed {R : Room} {s : State} {args : Array Value} {own : String} {ix : Nat} (hts : ∀ w ∈ gw, w.before args s = true) (hl : (Cond.methodLink own ix yS_seed).before args s = true) (hR : 1 + 1 ≤ R.frames ∧ 8 + (2 + 11) + 21 ≤ R.locals) : CallW R s args own "MeshedSpans" ix yS_seed prog_1_method_2_code 2 none wS_seed { frames := 1, cells := 0, slots := 0, locals := 21 } 0 0 1 := ⟨callB_of (rm := { frames := 1, cells := 0, slots := 0, locals := 21 }) 1 hts (gw_c (ct := .code yS_seed prog_1_method_2_code 2 none) gm_168) rfl rfl rfl (hts _ gm_41) hl (by decide +kernel) hR, hts _ gm_166, hts _ gm_167⟩
theorem dS_seed_0 : decode prog_1_method_2_code 0 = .ok (.aload_n 0, 1) := by decide +kernel
theorem dS_seed_1 : decode prog_1_method_2_code 1 = .ok (.getfield 14, 3) := by decide +kernel
theorem dS_seed_4 : decode prog_1_method_2_code 4 = .ok (.iload_n 1, 1) := by decide +kernel
theorem dS_seed_5 : decode prog_1_method_2_code 5 = .ok (.invokevirtual 57, 3) := by decide +kernel
theorem dS_seed_8 : decode prog_1_method_2_code 8 = .ok (.return_, 1) := by decide +kernel
def fS_seed (a0 : Int32) (g : fl_G) : Option (Unit × fl_G) :=
  fl_bd (fD_restart a0 g) (fun r1 g2 => some ((), g2))
set_option maxHeartbeats 4000000 in
set_option maxRecDepth 100000 in
theorem cS_seed (l : Launch) (dC : Nat → ClassId) (dI : Nat → Nat → Nat) (ca : Nat → ClassId) (ad : Nat → Nat) (hI : fl_inj 32 ad) (a0 : Int32) {g g1 : fl_G} {r : Unit} (h : fS_seed a0 g = some (r, g1)) : Met l yS_seed wS_seed ({ frames := 1, cells := 0, slots := 0, locals := 21 }) (va_Pc [.ref (ad 0), .int a0] (fl_Pre (dC, dI) al_cl 32 (mc_sh ca ad) ad (mc_ty ca) mc_ns g)) (fl_QV (dC, dI) al_cl 32 (mc_sh ca ad) ad g1) 0 0 (fl_A 32 ad) := by
  refine fl_of (cc := prog_1_method_2_code) (maxL := 2) (ret := none) (by decide) rfl (Nat.le_of_ble_eq_true rfl) ?_
  intro p e s m below meth c ls hx hb hr hml hts hown hlocks hP hK hN hl
  have hown : s.vm.findClass "MeshedSpans" = some m.cls := hown
  have hS : va_S (fl_A 32 ad) s.heap s.heap [] := va_S.rf
  have hl : lv_has ls 2 [(0, .ref (ad 0)), (1, .int a0)] := hl
  unfold fS_seed at h
  refine lv_aload_n hx hb dS_seed_0 rfl (lv_at hl 0 rfl) ?_
  refine mc_get0 (v := .ref (ad 1)) hx hb hts mc_in0 hown hK hP (q := 0) rfl 0 (by decide) (hts _ gm_140) rfl dS_seed_1 ?_
  refine lv_iload_n hx hb dS_seed_4 rfl (lv_at hl 1 rfl) ?_
  replace h := fl_bd_some h
  obtain ⟨r1, g2, hc3, h⟩ := h
  refine fl_callv (va_runV (As := [.int a0]) (rest := []) ⟨hx, hb, hml, hown, hts⟩ (cD_restart l dC dI ca ad hI a0 hc3) (kD_restart hts (hts _ gm_169) ⟨Nat.le_of_ble_eq_true rfl, Nat.le_of_ble_eq_true rfl⟩) (fl_preV hK hP hN (mc_lt rfl (by decide)) (mc_sh1 rfl) rfl) rfl rfl hl.1 rfl (lv_room (Nat.le_of_ble_eq_true rfl)) dS_seed_5 ⟨Nat.le_refl 0, Nat.le_refl 0⟩) hS (fun H locs hP hS => ?_)
  exact fl_vret hx hb hr hlocks hP hS h dS_seed_8
def yS_load : MethodName := ⟨"MeshedSpans", "load", "(I)J"⟩
def wS_load : List Cond := .code yS_load prog_1_method_5_code 2 (some .long) :: gw
theorem kS_load {R : Room} {s : State} {args : Array Value} {own : String} {ix : Nat} (hts : ∀ w ∈ gw, w.before args s = true) (hl : (Cond.methodLink own ix yS_load).before args s = true) (hR : 3 + 1 ≤ R.frames ∧ 8 + (2 + 11) + 64 ≤ R.locals) : CallW R s args own "MeshedSpans" ix yS_load prog_1_method_5_code 2 (some .long) wS_load { frames := 3, cells := 0, slots := 0, locals := 64 } 0 0 1 := ⟨callB_of (rm := { frames := 3, cells := 0, slots := 0, locals := 64 }) 1 hts (gw_c (ct := .code yS_load prog_1_method_5_code 2 (some .long)) gm_380) rfl rfl rfl (hts _ gm_41) hl (by decide +kernel) hR, hts _ gm_378, hts _ gm_379⟩
theorem dS_load_0 : decode prog_1_method_5_code 0 = .ok (.aload_n 0, 1) := by decide +kernel
theorem dS_load_1 : decode prog_1_method_5_code 1 = .ok (.getfield 28, 3) := by decide +kernel
theorem dS_load_4 : decode prog_1_method_5_code 4 = .ok (.iload_n 1, 1) := by decide +kernel
theorem dS_load_5 : decode prog_1_method_5_code 5 = .ok (.invokevirtual 91, 3) := by decide +kernel
theorem dS_load_8 : decode prog_1_method_5_code 8 = .ok (.ifCond .eq 15, 3) := by decide +kernel
theorem dS_load_11 : decode prog_1_method_5_code 11 = .ok (.aload_n 0, 1) := by decide +kernel
theorem dS_load_12 : decode prog_1_method_5_code 12 = .ok (.getfield 21, 3) := by decide +kernel
theorem dS_load_15 : decode prog_1_method_5_code 15 = .ok (.iload_n 1, 1) := by decide +kernel
theorem dS_load_16 : decode prog_1_method_5_code 16 = .ok (.invokevirtual 94, 3) := by decide +kernel
theorem dS_load_19 : decode prog_1_method_5_code 19 = .ok (.i2l, 1) := by decide +kernel
theorem dS_load_20 : decode prog_1_method_5_code 20 = .ok (.goto 6, 3) := by decide +kernel
theorem dS_load_23 : decode prog_1_method_5_code 23 = .ok (.ldc2_w 97, 3) := by decide +kernel
theorem dS_load_26 : decode prog_1_method_5_code 26 = .ok (.lreturn, 1) := by decide +kernel
def fS_load (a0 : Int32) (g : fl_G) : Option (Int64 × fl_G) :=
  fl_bd (fB_covers a0 g) (fun r1 g2 => if r1 = 0 then (some (4294967296, g2)) else (fl_bd (fP_read a0 g2) (fun r5 g6 => some ((Int32.toInt64 r5), g6))))
set_option maxHeartbeats 4000000 in
set_option maxRecDepth 100000 in
theorem cS_load (l : Launch) (dC : Nat → ClassId) (dI : Nat → Nat → Nat) (ca : Nat → ClassId) (ad : Nat → Nat) (hI : fl_inj 32 ad) (a0 : Int32) {g g1 : fl_G} {r : Int64} (h : fS_load a0 g = some (r, g1)) : Met l yS_load wS_load ({ frames := 3, cells := 0, slots := 0, locals := 64 }) (va_Pc [.ref (ad 0), .int a0] (fl_Pre (dC, dI) al_cl 32 (mc_sh ca ad) ad (mc_ty ca) mc_ns g)) (fl_QL (dC, dI) al_cl 32 (mc_sh ca ad) ad r g1) 0 0 (fl_A 32 ad) := by
  refine fl_of (cc := prog_1_method_5_code) (maxL := 2) (ret := (some .long)) (by decide) rfl (Nat.le_of_ble_eq_true rfl) ?_
  intro p e s m below meth c ls hx hb hr hml hts hown hlocks hP hK hN hl
  have hown : s.vm.findClass "MeshedSpans" = some m.cls := hown
  have hS : va_S (fl_A 32 ad) s.heap s.heap [] := va_S.rf
  have hl : lv_has ls 2 [(0, .ref (ad 0)), (1, .int a0)] := hl
  unfold fS_load at h
  refine lv_aload_n hx hb dS_load_0 rfl (lv_at hl 0 rfl) ?_
  refine mc_get0 (v := .ref (ad 6)) hx hb hts mc_in0 hown hK hP (q := 0) rfl 2 (by decide) (hts _ gm_142) rfl dS_load_1 ?_
  refine lv_iload_n hx hb dS_load_4 rfl (lv_at hl 1 rfl) ?_
  replace h := fl_bd_some h
  obtain ⟨r1, g2, hc3, h⟩ := h
  refine fl_calli (va_runV (As := [.int a0]) (rest := []) ⟨hx, hb, hml, hown, hts⟩ (cB_covers l dC dI ca ad hI a0 hc3) (kB_covers hts (hts _ gm_381) ⟨Nat.le_of_ble_eq_true rfl, Nat.le_of_ble_eq_true rfl⟩) (fl_preV hK hP hN (mc_lt rfl (by decide)) (mc_sh3 rfl) rfl) rfl rfl hl.1 rfl (lv_room (Nat.le_of_ble_eq_true rfl)) dS_load_5 ⟨Nat.le_refl 0, Nat.le_refl 0⟩) hS (fun H locs hP hS => ?_)
  refine lv_if_eq (tgt := 23) hx hb dS_load_8 (by decide) (fun c4 => ?_) (fun c4 => ?_)
  · replace h := fl_pos c4 h
    refine lv_ldc2 (v := 4294967296) hx hb hown (hts _ gm_389) dS_load_23 ?_
    exact fl_lret hx hb hr hlocks hP hS h dS_load_26
  · replace h := fl_neg c4 h
    refine lv_aload_n hx hb dS_load_11 rfl (lv_at hl 0 rfl) ?_
    refine mc_get0 (v := .ref (ad 2)) hx hb hts mc_in0 hown hK hP (q := 0) rfl 1 (by decide) (hts _ gm_141) rfl dS_load_12 ?_
    refine lv_iload_n hx hb dS_load_15 rfl (lv_at hl 1 rfl) ?_
    replace h := fl_bd_some h
    obtain ⟨r5, g6, hc7, h⟩ := h
    refine fl_calli (va_runV (As := [.int a0]) (rest := []) ⟨hx, hb, hml, hown, hts⟩ (cP_read l dC dI ca ad hI a0 hc7) (kP_read hts (hts _ gm_385) ⟨Nat.le_of_ble_eq_true rfl, Nat.le_of_ble_eq_true rfl⟩) (fl_preV hK hP hN (mc_lt rfl (by decide)) (mc_sh2 rfl) rfl) rfl rfl hl.1 rfl (lv_room (Nat.le_of_ble_eq_true rfl)) dS_load_16 ⟨Nat.le_refl 0, Nat.le_refl 0⟩) hS (fun H locs hP hS => ?_)
    refine lv_i2l (v := (Int32.toInt64 r5)) hx hb dS_load_19 rfl ?_
    refine lv_goto (tgt := 26) hx hb dS_load_20 (by decide) ?_
    exact fl_lret hx hb hr hlocks hP hS h dS_load_26
def yS_store : MethodName := ⟨"MeshedSpans", "store", "(II)Z"⟩
def wS_store : List Cond := .code yS_store prog_1_method_6_code 3 (some .boolean) :: gw
theorem kS_store {R : Room} {s : State} {args : Array Value} {own : String} {ix : Nat} (hts : ∀ w ∈ gw, w.before args s = true) (hl : (Cond.methodLink own ix yS_store).before args s = true) (hR : 3 + 1 ≤ R.frames ∧ 8 + (3 + 11) + 65 ≤ R.locals) : CallW R s args own "MeshedSpans" ix yS_store prog_1_method_6_code 3 (some .boolean) wS_store { frames := 3, cells := 0, slots := 0, locals := 65 } 0 0 2 := ⟨callB_of (rm := { frames := 3, cells := 0, slots := 0, locals := 65 }) 2 hts (gw_c (ct := .code yS_store prog_1_method_6_code 3 (some .boolean)) gm_393) rfl rfl rfl (hts _ gm_41) hl (by decide +kernel) hR, hts _ gm_391, hts _ gm_392⟩
theorem dS_store_0 : decode prog_1_method_6_code 0 = .ok (.aload_n 0, 1) := by decide +kernel
theorem dS_store_1 : decode prog_1_method_6_code 1 = .ok (.getfield 28, 3) := by decide +kernel
theorem dS_store_4 : decode prog_1_method_6_code 4 = .ok (.iload_n 1, 1) := by decide +kernel
theorem dS_store_5 : decode prog_1_method_6_code 5 = .ok (.invokevirtual 91, 3) := by decide +kernel
theorem dS_store_8 : decode prog_1_method_6_code 8 = .ok (.ifCond .ne 5, 3) := by decide +kernel
theorem dS_store_11 : decode prog_1_method_6_code 11 = .ok (.iconst 0, 1) := by decide +kernel
theorem dS_store_12 : decode prog_1_method_6_code 12 = .ok (.ireturn, 1) := by decide +kernel
theorem dS_store_13 : decode prog_1_method_6_code 13 = .ok (.aload_n 0, 1) := by decide +kernel
theorem dS_store_14 : decode prog_1_method_6_code 14 = .ok (.getfield 21, 3) := by decide +kernel
theorem dS_store_17 : decode prog_1_method_6_code 17 = .ok (.iload_n 1, 1) := by decide +kernel
theorem dS_store_18 : decode prog_1_method_6_code 18 = .ok (.iload_n 2, 1) := by decide +kernel
theorem dS_store_19 : decode prog_1_method_6_code 19 = .ok (.invokevirtual 99, 3) := by decide +kernel
theorem dS_store_22 : decode prog_1_method_6_code 22 = .ok (.iconst 1, 1) := by decide +kernel
theorem dS_store_23 : decode prog_1_method_6_code 23 = .ok (.ireturn, 1) := by decide +kernel
def fS_store (a0 : Int32) (a1 : Int32) (g : fl_G) : Option (Int32 × fl_G) :=
  fl_bd (fB_covers a0 g) (fun r1 g2 => if r1 = 0 then (some (0, g2)) else (fl_bd (fP_write a0 a1 g2) (fun r5 g6 => some (1, g6))))
set_option maxHeartbeats 4000000 in
set_option maxRecDepth 100000 in
theorem cS_store (l : Launch) (dC : Nat → ClassId) (dI : Nat → Nat → Nat) (ca : Nat → ClassId) (ad : Nat → Nat) (hI : fl_inj 32 ad) (a0 : Int32) (a1 : Int32) {g g1 : fl_G} {r : Int32} (h : fS_store a0 a1 g = some (r, g1)) : Met l yS_store wS_store ({ frames := 3, cells := 0, slots := 0, locals := 65 }) (va_Pc [.ref (ad 0), .int a0, .int a1] (fl_Pre (dC, dI) al_cl 32 (mc_sh ca ad) ad (mc_ty ca) mc_ns g)) (fl_QI (dC, dI) al_cl 32 (mc_sh ca ad) ad r g1) 0 0 (fl_A 32 ad) := by
  refine fl_of (cc := prog_1_method_6_code) (maxL := 3) (ret := (some .boolean)) (by decide) rfl (Nat.le_of_ble_eq_true rfl) ?_
  intro p e s m below meth c ls hx hb hr hml hts hown hlocks hP hK hN hl
  have hown : s.vm.findClass "MeshedSpans" = some m.cls := hown
  have hS : va_S (fl_A 32 ad) s.heap s.heap [] := va_S.rf
  have hl : lv_has ls 3 [(0, .ref (ad 0)), (1, .int a0), (2, .int a1)] := hl
  unfold fS_store at h
  refine lv_aload_n hx hb dS_store_0 rfl (lv_at hl 0 rfl) ?_
  refine mc_get0 (v := .ref (ad 6)) hx hb hts mc_in0 hown hK hP (q := 0) rfl 2 (by decide) (hts _ gm_142) rfl dS_store_1 ?_
  refine lv_iload_n hx hb dS_store_4 rfl (lv_at hl 1 rfl) ?_
  replace h := fl_bd_some h
  obtain ⟨r1, g2, hc3, h⟩ := h
  refine fl_calli (va_runV (As := [.int a0]) (rest := []) ⟨hx, hb, hml, hown, hts⟩ (cB_covers l dC dI ca ad hI a0 hc3) (kB_covers hts (hts _ gm_381) ⟨Nat.le_of_ble_eq_true rfl, Nat.le_of_ble_eq_true rfl⟩) (fl_preV hK hP hN (mc_lt rfl (by decide)) (mc_sh3 rfl) rfl) rfl rfl hl.1 rfl (lv_room (Nat.le_of_ble_eq_true rfl)) dS_store_5 ⟨Nat.le_refl 0, Nat.le_refl 0⟩) hS (fun H locs hP hS => ?_)
  refine lv_if_ne (tgt := 13) hx hb dS_store_8 (by decide) (fun c4 => ?_) (fun c4 => ?_)
  · replace h := fl_neg c4 h
    refine lv_aload_n hx hb dS_store_13 rfl (lv_at hl 0 rfl) ?_
    refine mc_get0 (v := .ref (ad 2)) hx hb hts mc_in0 hown hK hP (q := 0) rfl 1 (by decide) (hts _ gm_141) rfl dS_store_14 ?_
    refine lv_iload_n hx hb dS_store_17 rfl (lv_at hl 1 rfl) ?_
    refine lv_iload_n hx hb dS_store_18 rfl (lv_at hl 2 rfl) ?_
    replace h := fl_bd_some h
    obtain ⟨r5, g6, hc7, h⟩ := h
    refine fl_callv (va_runV (As := [.int a0, .int a1]) (rest := []) ⟨hx, hb, hml, hown, hts⟩ (cP_write l dC dI ca ad hI a0 a1 hc7) (kP_write hts (hts _ gm_394) ⟨Nat.le_of_ble_eq_true rfl, Nat.le_of_ble_eq_true rfl⟩) (fl_preV hK hP hN (mc_lt rfl (by decide)) (mc_sh2 rfl) rfl) rfl rfl hl.1 rfl (lv_room (Nat.le_of_ble_eq_true rfl)) dS_store_19 ⟨Nat.le_refl 0, Nat.le_refl 0⟩) hS (fun H locs hP hS => ?_)
    refine lv_iconst (v := 1) hx hb dS_store_22 (by decide) ?_
    exact fl_zret hx hb hr hlocks hP hS (Or.inr rfl) h dS_store_23
  · replace h := fl_pos c4 h
    refine lv_iconst (v := 0) hx hb dS_store_11 (by decide) ?_
    exact fl_zret hx hb hr hlocks hP hS (Or.inl rfl) h dS_store_12
def yS_probes : MethodName := ⟨"MeshedSpans", "probes", "()I"⟩
def wS_probes : List Cond := .code yS_probes prog_1_method_8_code 1 (some .int) :: gw
theorem kS_probes {R : Room} {s : State} {args : Array Value} {own : String} {ix : Nat} (hts : ∀ w ∈ gw, w.before args s = true) (hl : (Cond.methodLink own ix yS_probes).before args s = true) (hR : 0 + 1 ≤ R.frames ∧ 8 + (1 + 11) + 0 ≤ R.locals) : CallW R s args own "MeshedSpans" ix yS_probes prog_1_method_8_code 1 (some .int) wS_probes { frames := 0, cells := 0, slots := 0, locals := 0 } 0 0 0 := ⟨callB_of (rm := { frames := 0, cells := 0, slots := 0, locals := 0 }) 0 hts (gw_c (ct := .code yS_probes prog_1_method_8_code 1 (some .int)) gm_444) rfl rfl rfl (hts _ gm_41) hl (by decide +kernel) hR, hts _ gm_442, hts _ gm_443⟩
theorem dS_probes_0 : decode prog_1_method_8_code 0 = .ok (.aload_n 0, 1) := by decide +kernel
theorem dS_probes_1 : decode prog_1_method_8_code 1 = .ok (.getfield 54, 3) := by decide +kernel
theorem dS_probes_4 : decode prog_1_method_8_code 4 = .ok (.ireturn, 1) := by decide +kernel
def fS_probes (g : fl_G) : Option (Int32 × fl_G) :=
  some ((g 0 7), g)
set_option maxHeartbeats 4000000 in
set_option maxRecDepth 100000 in
theorem cS_probes (l : Launch) (dC : Nat → ClassId) (dI : Nat → Nat → Nat) (ca : Nat → ClassId) (ad : Nat → Nat) (hI : fl_inj 32 ad) {g g1 : fl_G} {r : Int32} (h : fS_probes g = some (r, g1)) : Met l yS_probes wS_probes ({ frames := 0, cells := 0, slots := 0, locals := 0 }) (va_Pc [.ref (ad 0)] (fl_Pre (dC, dI) al_cl 32 (mc_sh ca ad) ad (mc_ty ca) mc_ns g)) (fl_QI (dC, dI) al_cl 32 (mc_sh ca ad) ad r g1) 0 0 (fl_A 32 ad) := by
  refine fl_of (cc := prog_1_method_8_code) (maxL := 1) (ret := (some .int)) (by decide) rfl (Nat.le_of_ble_eq_true rfl) ?_
  intro p e s m below meth c ls hx hb hr hml hts hown hlocks hP hK hN hl
  have hown : s.vm.findClass "MeshedSpans" = some m.cls := hown
  have hS : va_S (fl_A 32 ad) s.heap s.heap [] := va_S.rf
  have hl : lv_has ls 1 [(0, .ref (ad 0))] := hl
  unfold fS_probes at h
  refine lv_aload_n hx hb dS_probes_0 rfl (lv_at hl 0 rfl) ?_
  refine mc_get0 (v := .int (g 0 7)) hx hb hts mc_in0 hown hK hP (q := 0) rfl 7 (by decide) (hts _ gm_147) rfl dS_probes_1 ?_
  exact fl_iret hx hb hr hlocks hP hS h dS_probes_4
def yS_size : MethodName := ⟨"MeshedSpans", "size", "(I)I"⟩
def wS_size : List Cond := .code yS_size prog_1_method_9_code 2 (some .int) :: gw
theorem kS_size {R : Room} {s : State} {args : Array Value} {own : String} {ix : Nat} (hts : ∀ w ∈ gw, w.before args s = true) (hl : (Cond.methodLink own ix yS_size).before args s = true) (hR : 3 + 1 ≤ R.frames ∧ 8 + (2 + 11) + 62 ≤ R.locals) : CallW R s args own "MeshedSpans" ix yS_size prog_1_method_9_code 2 (some .int) wS_size { frames := 3, cells := 0, slots := 0, locals := 62 } 0 0 1 := ⟨callB_of (rm := { frames := 3, cells := 0, slots := 0, locals := 62 }) 1 hts (gw_c (ct := .code yS_size prog_1_method_9_code 2 (some .int)) gm_448) rfl rfl rfl (hts _ gm_41) hl (by decide +kernel) hR, hts _ gm_446, hts _ gm_447⟩
theorem dS_size_0 : decode prog_1_method_9_code 0 = .ok (.aload_n 0, 1) := by decide +kernel
theorem dS_size_1 : decode prog_1_method_9_code 1 = .ok (.getfield 28, 3) := by decide +kernel
theorem dS_size_4 : decode prog_1_method_9_code 4 = .ok (.iload_n 1, 1) := by decide +kernel
theorem dS_size_5 : decode prog_1_method_9_code 5 = .ok (.invokevirtual 70, 3) := by decide +kernel
theorem dS_size_8 : decode prog_1_method_9_code 8 = .ok (.ifCond .eq 14, 3) := by decide +kernel
theorem dS_size_11 : decode prog_1_method_9_code 11 = .ok (.aload_n 0, 1) := by decide +kernel
theorem dS_size_12 : decode prog_1_method_9_code 12 = .ok (.getfield 28, 3) := by decide +kernel
theorem dS_size_15 : decode prog_1_method_9_code 15 = .ok (.iload_n 1, 1) := by decide +kernel
theorem dS_size_16 : decode prog_1_method_9_code 16 = .ok (.invokevirtual 117, 3) := by decide +kernel
theorem dS_size_19 : decode prog_1_method_9_code 19 = .ok (.goto 5, 3) := by decide +kernel
theorem dS_size_22 : decode prog_1_method_9_code 22 = .ok (.bipush (-2), 2) := by decide +kernel
theorem dS_size_24 : decode prog_1_method_9_code 24 = .ok (.ireturn, 1) := by decide +kernel
def fS_size (a0 : Int32) (g : fl_G) : Option (Int32 × fl_G) :=
  fl_bd (fB_beginsAt a0 g) (fun r1 g2 => if r1 = 0 then (some ((-2), g2)) else (fl_bd (fB_wordsAt a0 g2) (fun r5 g6 => some (r5, g6))))
set_option maxHeartbeats 4000000 in
set_option maxRecDepth 100000 in
theorem cS_size (l : Launch) (dC : Nat → ClassId) (dI : Nat → Nat → Nat) (ca : Nat → ClassId) (ad : Nat → Nat) (hI : fl_inj 32 ad) (a0 : Int32) {g g1 : fl_G} {r : Int32} (h : fS_size a0 g = some (r, g1)) : Met l yS_size wS_size ({ frames := 3, cells := 0, slots := 0, locals := 62 }) (va_Pc [.ref (ad 0), .int a0] (fl_Pre (dC, dI) al_cl 32 (mc_sh ca ad) ad (mc_ty ca) mc_ns g)) (fl_QI (dC, dI) al_cl 32 (mc_sh ca ad) ad r g1) 0 0 (fl_A 32 ad) := by
  refine fl_of (cc := prog_1_method_9_code) (maxL := 2) (ret := (some .int)) (by decide) rfl (Nat.le_of_ble_eq_true rfl) ?_
  intro p e s m below meth c ls hx hb hr hml hts hown hlocks hP hK hN hl
  have hown : s.vm.findClass "MeshedSpans" = some m.cls := hown
  have hS : va_S (fl_A 32 ad) s.heap s.heap [] := va_S.rf
  have hl : lv_has ls 2 [(0, .ref (ad 0)), (1, .int a0)] := hl
  unfold fS_size at h
  refine lv_aload_n hx hb dS_size_0 rfl (lv_at hl 0 rfl) ?_
  refine mc_get0 (v := .ref (ad 6)) hx hb hts mc_in0 hown hK hP (q := 0) rfl 2 (by decide) (hts _ gm_142) rfl dS_size_1 ?_
  refine lv_iload_n hx hb dS_size_4 rfl (lv_at hl 1 rfl) ?_
  replace h := fl_bd_some h
  obtain ⟨r1, g2, hc3, h⟩ := h
  refine fl_calli (va_runV (As := [.int a0]) (rest := []) ⟨hx, hb, hml, hown, hts⟩ (cB_beginsAt l dC dI ca ad hI a0 hc3) (kB_beginsAt hts (hts _ gm_311) ⟨Nat.le_of_ble_eq_true rfl, Nat.le_of_ble_eq_true rfl⟩) (fl_preV hK hP hN (mc_lt rfl (by decide)) (mc_sh3 rfl) rfl) rfl rfl hl.1 rfl (lv_room (Nat.le_of_ble_eq_true rfl)) dS_size_5 ⟨Nat.le_refl 0, Nat.le_refl 0⟩) hS (fun H locs hP hS => ?_)
  refine lv_if_eq (tgt := 22) hx hb dS_size_8 (by decide) (fun c4 => ?_) (fun c4 => ?_)
  · replace h := fl_pos c4 h
    refine lv_bipush (v := (-2)) hx hb dS_size_22 (by decide) ?_
    exact fl_iret hx hb hr hlocks hP hS h dS_size_24
  · replace h := fl_neg c4 h
    refine lv_aload_n hx hb dS_size_11 rfl (lv_at hl 0 rfl) ?_
    refine mc_get0 (v := .ref (ad 6)) hx hb hts mc_in0 hown hK hP (q := 0) rfl 2 (by decide) (hts _ gm_142) rfl dS_size_12 ?_
    refine lv_iload_n hx hb dS_size_15 rfl (lv_at hl 1 rfl) ?_
    replace h := fl_bd_some h
    obtain ⟨r5, g6, hc7, h⟩ := h
    refine fl_calli (va_runV (As := [.int a0]) (rest := []) ⟨hx, hb, hml, hown, hts⟩ (cB_wordsAt l dC dI ca ad hI a0 hc7) (kB_wordsAt hts (hts _ gm_336) ⟨Nat.le_of_ble_eq_true rfl, Nat.le_of_ble_eq_true rfl⟩) (fl_preV hK hP hN (mc_lt rfl (by decide)) (mc_sh3 rfl) rfl) rfl rfl hl.1 rfl (lv_room (Nat.le_of_ble_eq_true rfl)) dS_size_16 ⟨Nat.le_refl 0, Nat.le_refl 0⟩) hS (fun H locs hP hS => ?_)
    refine lv_goto (tgt := 24) hx hb dS_size_19 (by decide) ?_
    exact fl_iret hx hb hr hlocks hP hS h dS_size_24
def yS_freeSpans : MethodName := ⟨"MeshedSpans", "freeSpans", "()I"⟩
def wS_freeSpans : List Cond := .code yS_freeSpans prog_1_method_10_code 1 (some .int) :: gw
theorem kS_freeSpans {R : Room} {s : State} {args : Array Value} {own : String} {ix : Nat} (hts : ∀ w ∈ gw, w.before args s = true) (hl : (Cond.methodLink own ix yS_freeSpans).before args s = true) (hR : 1 + 1 ≤ R.frames ∧ 8 + (1 + 11) + 22 ≤ R.locals) : CallW R s args own "MeshedSpans" ix yS_freeSpans prog_1_method_10_code 1 (some .int) wS_freeSpans { frames := 1, cells := 0, slots := 0, locals := 22 } 0 0 0 := ⟨callB_of (rm := { frames := 1, cells := 0, slots := 0, locals := 22 }) 0 hts (gw_c (ct := .code yS_freeSpans prog_1_method_10_code 1 (some .int)) gm_452) rfl rfl rfl (hts _ gm_41) hl (by decide +kernel) hR, hts _ gm_450, hts _ gm_451⟩
theorem dS_freeSpans_0 : decode prog_1_method_10_code 0 = .ok (.aload_n 0, 1) := by decide +kernel
theorem dS_freeSpans_1 : decode prog_1_method_10_code 1 = .ok (.getfield 21, 3) := by decide +kernel
theorem dS_freeSpans_4 : decode prog_1_method_10_code 4 = .ok (.invokevirtual 120, 3) := by decide +kernel
theorem dS_freeSpans_7 : decode prog_1_method_10_code 7 = .ok (.ireturn, 1) := by decide +kernel
def fS_freeSpans (g : fl_G) : Option (Int32 × fl_G) :=
  fl_bd (fP_freeOnes g) (fun r1 g2 => some (r1, g2))
set_option maxHeartbeats 4000000 in
set_option maxRecDepth 100000 in
theorem cS_freeSpans (l : Launch) (dC : Nat → ClassId) (dI : Nat → Nat → Nat) (ca : Nat → ClassId) (ad : Nat → Nat) (hI : fl_inj 32 ad) {g g1 : fl_G} {r : Int32} (h : fS_freeSpans g = some (r, g1)) : Met l yS_freeSpans wS_freeSpans ({ frames := 1, cells := 0, slots := 0, locals := 22 }) (va_Pc [.ref (ad 0)] (fl_Pre (dC, dI) al_cl 32 (mc_sh ca ad) ad (mc_ty ca) mc_ns g)) (fl_QI (dC, dI) al_cl 32 (mc_sh ca ad) ad r g1) 0 0 (fl_A 32 ad) := by
  refine fl_of (cc := prog_1_method_10_code) (maxL := 1) (ret := (some .int)) (by decide) rfl (Nat.le_of_ble_eq_true rfl) ?_
  intro p e s m below meth c ls hx hb hr hml hts hown hlocks hP hK hN hl
  have hown : s.vm.findClass "MeshedSpans" = some m.cls := hown
  have hS : va_S (fl_A 32 ad) s.heap s.heap [] := va_S.rf
  have hl : lv_has ls 1 [(0, .ref (ad 0))] := hl
  unfold fS_freeSpans at h
  refine lv_aload_n hx hb dS_freeSpans_0 rfl (lv_at hl 0 rfl) ?_
  refine mc_get0 (v := .ref (ad 2)) hx hb hts mc_in0 hown hK hP (q := 0) rfl 1 (by decide) (hts _ gm_141) rfl dS_freeSpans_1 ?_
  replace h := fl_bd_some h
  obtain ⟨r1, g2, hc3, h⟩ := h
  refine fl_calli (va_runV (As := []) (rest := []) ⟨hx, hb, hml, hown, hts⟩ (cP_freeOnes l dC dI ca ad hI  hc3) (kP_freeOnes hts (hts _ gm_184) ⟨Nat.le_of_ble_eq_true rfl, Nat.le_of_ble_eq_true rfl⟩) (fl_preV hK hP hN (mc_lt rfl (by decide)) (mc_sh2 rfl) rfl) rfl rfl hl.1 rfl (lv_room (Nat.le_of_ble_eq_true rfl)) dS_freeSpans_4 ⟨Nat.le_refl 0, Nat.le_refl 0⟩) hS (fun H locs hP hS => ?_)
  exact fl_iret hx hb hr hlocks hP hS h dS_freeSpans_7
def yS_mapped : MethodName := ⟨"MeshedSpans", "mapped", "(I)I"⟩
def wS_mapped : List Cond := .code yS_mapped prog_1_method_11_code 2 (some .int) :: gw
theorem kS_mapped {R : Room} {s : State} {args : Array Value} {own : String} {ix : Nat} (hts : ∀ w ∈ gw, w.before args s = true) (hl : (Cond.methodLink own ix yS_mapped).before args s = true) (hR : 2 + 1 ≤ R.frames ∧ 8 + (2 + 11) + 41 ≤ R.locals) : CallW R s args own "MeshedSpans" ix yS_mapped prog_1_method_11_code 2 (some .int) wS_mapped { frames := 2, cells := 0, slots := 0, locals := 41 } 0 0 1 := ⟨callB_of (rm := { frames := 2, cells := 0, slots := 0, locals := 41 }) 1 hts (gw_c (ct := .code yS_mapped prog_1_method_11_code 2 (some .int)) gm_456) rfl rfl rfl (hts _ gm_41) hl (by decide +kernel) hR, hts _ gm_454, hts _ gm_455⟩
theorem dS_mapped_0 : decode prog_1_method_11_code 0 = .ok (.aload_n 0, 1) := by decide +kernel
theorem dS_mapped_1 : decode prog_1_method_11_code 1 = .ok (.getfield 21, 3) := by decide +kernel
theorem dS_mapped_4 : decode prog_1_method_11_code 4 = .ok (.iload_n 1, 1) := by decide +kernel
theorem dS_mapped_5 : decode prog_1_method_11_code 5 = .ok (.invokevirtual 124, 3) := by decide +kernel
theorem dS_mapped_8 : decode prog_1_method_11_code 8 = .ok (.ireturn, 1) := by decide +kernel
def fS_mapped (a0 : Int32) (g : fl_G) : Option (Int32 × fl_G) :=
  fl_bd (fP_physicalOf a0 g) (fun r1 g2 => some (r1, g2))
set_option maxHeartbeats 4000000 in
set_option maxRecDepth 100000 in
theorem cS_mapped (l : Launch) (dC : Nat → ClassId) (dI : Nat → Nat → Nat) (ca : Nat → ClassId) (ad : Nat → Nat) (hI : fl_inj 32 ad) (a0 : Int32) {g g1 : fl_G} {r : Int32} (h : fS_mapped a0 g = some (r, g1)) : Met l yS_mapped wS_mapped ({ frames := 2, cells := 0, slots := 0, locals := 41 }) (va_Pc [.ref (ad 0), .int a0] (fl_Pre (dC, dI) al_cl 32 (mc_sh ca ad) ad (mc_ty ca) mc_ns g)) (fl_QI (dC, dI) al_cl 32 (mc_sh ca ad) ad r g1) 0 0 (fl_A 32 ad) := by
  refine fl_of (cc := prog_1_method_11_code) (maxL := 2) (ret := (some .int)) (by decide) rfl (Nat.le_of_ble_eq_true rfl) ?_
  intro p e s m below meth c ls hx hb hr hml hts hown hlocks hP hK hN hl
  have hown : s.vm.findClass "MeshedSpans" = some m.cls := hown
  have hS : va_S (fl_A 32 ad) s.heap s.heap [] := va_S.rf
  have hl : lv_has ls 2 [(0, .ref (ad 0)), (1, .int a0)] := hl
  unfold fS_mapped at h
  refine lv_aload_n hx hb dS_mapped_0 rfl (lv_at hl 0 rfl) ?_
  refine mc_get0 (v := .ref (ad 2)) hx hb hts mc_in0 hown hK hP (q := 0) rfl 1 (by decide) (hts _ gm_141) rfl dS_mapped_1 ?_
  refine lv_iload_n hx hb dS_mapped_4 rfl (lv_at hl 1 rfl) ?_
  replace h := fl_bd_some h
  obtain ⟨r1, g2, hc3, h⟩ := h
  refine fl_calli (va_runV (As := [.int a0]) (rest := []) ⟨hx, hb, hml, hown, hts⟩ (cP_physicalOf l dC dI ca ad hI a0 hc3) (kP_physicalOf hts (hts _ gm_323) ⟨Nat.le_of_ble_eq_true rfl, Nat.le_of_ble_eq_true rfl⟩) (fl_preV hK hP hN (mc_lt rfl (by decide)) (mc_sh2 rfl) rfl) rfl rfl hl.1 rfl (lv_room (Nat.le_of_ble_eq_true rfl)) dS_mapped_5 ⟨Nat.le_refl 0, Nat.le_refl 0⟩) hS (fun H locs hP hS => ?_)
  exact fl_iret hx hb hr hlocks hP hS h dS_mapped_8
def yS_count : MethodName := ⟨"MeshedSpans", "count", "(I)I"⟩
def wS_count : List Cond := .code yS_count prog_1_method_12_code 2 (some .int) :: gw
theorem kS_count {R : Room} {s : State} {args : Array Value} {own : String} {ix : Nat} (hts : ∀ w ∈ gw, w.before args s = true) (hl : (Cond.methodLink own ix yS_count).before args s = true) (hR : 2 + 1 ≤ R.frames ∧ 8 + (2 + 11) + 41 ≤ R.locals) : CallW R s args own "MeshedSpans" ix yS_count prog_1_method_12_code 2 (some .int) wS_count { frames := 2, cells := 0, slots := 0, locals := 41 } 0 0 1 := ⟨callB_of (rm := { frames := 2, cells := 0, slots := 0, locals := 41 }) 1 hts (gw_c (ct := .code yS_count prog_1_method_12_code 2 (some .int)) gm_460) rfl rfl rfl (hts _ gm_41) hl (by decide +kernel) hR, hts _ gm_458, hts _ gm_459⟩
theorem dS_count_0 : decode prog_1_method_12_code 0 = .ok (.aload_n 0, 1) := by decide +kernel
theorem dS_count_1 : decode prog_1_method_12_code 1 = .ok (.getfield 21, 3) := by decide +kernel
theorem dS_count_4 : decode prog_1_method_12_code 4 = .ok (.iload_n 1, 1) := by decide +kernel
theorem dS_count_5 : decode prog_1_method_12_code 5 = .ok (.invokevirtual 127, 3) := by decide +kernel
theorem dS_count_8 : decode prog_1_method_12_code 8 = .ok (.ireturn, 1) := by decide +kernel
def fS_count (a0 : Int32) (g : fl_G) : Option (Int32 × fl_G) :=
  fl_bd (fP_virtualsOf a0 g) (fun r1 g2 => some (r1, g2))
set_option maxHeartbeats 4000000 in
set_option maxRecDepth 100000 in
theorem cS_count (l : Launch) (dC : Nat → ClassId) (dI : Nat → Nat → Nat) (ca : Nat → ClassId) (ad : Nat → Nat) (hI : fl_inj 32 ad) (a0 : Int32) {g g1 : fl_G} {r : Int32} (h : fS_count a0 g = some (r, g1)) : Met l yS_count wS_count ({ frames := 2, cells := 0, slots := 0, locals := 41 }) (va_Pc [.ref (ad 0), .int a0] (fl_Pre (dC, dI) al_cl 32 (mc_sh ca ad) ad (mc_ty ca) mc_ns g)) (fl_QI (dC, dI) al_cl 32 (mc_sh ca ad) ad r g1) 0 0 (fl_A 32 ad) := by
  refine fl_of (cc := prog_1_method_12_code) (maxL := 2) (ret := (some .int)) (by decide) rfl (Nat.le_of_ble_eq_true rfl) ?_
  intro p e s m below meth c ls hx hb hr hml hts hown hlocks hP hK hN hl
  have hown : s.vm.findClass "MeshedSpans" = some m.cls := hown
  have hS : va_S (fl_A 32 ad) s.heap s.heap [] := va_S.rf
  have hl : lv_has ls 2 [(0, .ref (ad 0)), (1, .int a0)] := hl
  unfold fS_count at h
  refine lv_aload_n hx hb dS_count_0 rfl (lv_at hl 0 rfl) ?_
  refine mc_get0 (v := .ref (ad 2)) hx hb hts mc_in0 hown hK hP (q := 0) rfl 1 (by decide) (hts _ gm_141) rfl dS_count_1 ?_
  refine lv_iload_n hx hb dS_count_4 rfl (lv_at hl 1 rfl) ?_
  replace h := fl_bd_some h
  obtain ⟨r1, g2, hc3, h⟩ := h
  refine fl_calli (va_runV (As := [.int a0]) (rest := []) ⟨hx, hb, hml, hown, hts⟩ (cP_virtualsOf l dC dI ca ad hI a0 hc3) (kP_virtualsOf hts (hts _ gm_461) ⟨Nat.le_of_ble_eq_true rfl, Nat.le_of_ble_eq_true rfl⟩) (fl_preV hK hP hN (mc_lt rfl (by decide)) (mc_sh2 rfl) rfl) rfl rfl hl.1 rfl (lv_room (Nat.le_of_ble_eq_true rfl)) dS_count_5 ⟨Nat.le_refl 0, Nat.le_refl 0⟩) hS (fun H locs hP hS => ?_)
  exact fl_iret hx hb hr hlocks hP hS h dS_count_8
def yS_blocks : MethodName := ⟨"MeshedSpans", "blocks", "()I"⟩
def wS_blocks : List Cond := .code yS_blocks prog_1_method_13_code 1 (some .int) :: gw
theorem kS_blocks {R : Room} {s : State} {args : Array Value} {own : String} {ix : Nat} (hts : ∀ w ∈ gw, w.before args s = true) (hl : (Cond.methodLink own ix yS_blocks).before args s = true) (hR : 1 + 1 ≤ R.frames ∧ 8 + (1 + 11) + 20 ≤ R.locals) : CallW R s args own "MeshedSpans" ix yS_blocks prog_1_method_13_code 1 (some .int) wS_blocks { frames := 1, cells := 0, slots := 0, locals := 20 } 0 0 0 := ⟨callB_of (rm := { frames := 1, cells := 0, slots := 0, locals := 20 }) 0 hts (gw_c (ct := .code yS_blocks prog_1_method_13_code 1 (some .int)) gm_468) rfl rfl rfl (hts _ gm_41) hl (by decide +kernel) hR, hts _ gm_466, hts _ gm_467⟩
theorem dS_blocks_0 : decode prog_1_method_13_code 0 = .ok (.aload_n 0, 1) := by decide +kernel
theorem dS_blocks_1 : decode prog_1_method_13_code 1 = .ok (.getfield 28, 3) := by decide +kernel
theorem dS_blocks_4 : decode prog_1_method_13_code 4 = .ok (.invokevirtual 130, 3) := by decide +kernel
theorem dS_blocks_7 : decode prog_1_method_13_code 7 = .ok (.ireturn, 1) := by decide +kernel
def fS_blocks (g : fl_G) : Option (Int32 × fl_G) :=
  fl_bd (fB_howMany g) (fun r1 g2 => some (r1, g2))
set_option maxHeartbeats 4000000 in
set_option maxRecDepth 100000 in
theorem cS_blocks (l : Launch) (dC : Nat → ClassId) (dI : Nat → Nat → Nat) (ca : Nat → ClassId) (ad : Nat → Nat) (hI : fl_inj 32 ad) {g g1 : fl_G} {r : Int32} (h : fS_blocks g = some (r, g1)) : Met l yS_blocks wS_blocks ({ frames := 1, cells := 0, slots := 0, locals := 20 }) (va_Pc [.ref (ad 0)] (fl_Pre (dC, dI) al_cl 32 (mc_sh ca ad) ad (mc_ty ca) mc_ns g)) (fl_QI (dC, dI) al_cl 32 (mc_sh ca ad) ad r g1) 0 0 (fl_A 32 ad) := by
  refine fl_of (cc := prog_1_method_13_code) (maxL := 1) (ret := (some .int)) (by decide) rfl (Nat.le_of_ble_eq_true rfl) ?_
  intro p e s m below meth c ls hx hb hr hml hts hown hlocks hP hK hN hl
  have hown : s.vm.findClass "MeshedSpans" = some m.cls := hown
  have hS : va_S (fl_A 32 ad) s.heap s.heap [] := va_S.rf
  have hl : lv_has ls 1 [(0, .ref (ad 0))] := hl
  unfold fS_blocks at h
  refine lv_aload_n hx hb dS_blocks_0 rfl (lv_at hl 0 rfl) ?_
  refine mc_get0 (v := .ref (ad 6)) hx hb hts mc_in0 hown hK hP (q := 0) rfl 2 (by decide) (hts _ gm_142) rfl dS_blocks_1 ?_
  replace h := fl_bd_some h
  obtain ⟨r1, g2, hc3, h⟩ := h
  refine fl_calli (va_runV (As := []) (rest := []) ⟨hx, hb, hml, hown, hts⟩ (cB_howMany l dC dI ca ad hI  hc3) (kB_howMany hts (hts _ gm_469) ⟨Nat.le_of_ble_eq_true rfl, Nat.le_of_ble_eq_true rfl⟩) (fl_preV hK hP hN (mc_lt rfl (by decide)) (mc_sh3 rfl) rfl) rfl rfl hl.1 rfl (lv_room (Nat.le_of_ble_eq_true rfl)) dS_blocks_4 ⟨Nat.le_refl 0, Nat.le_refl 0⟩) hS (fun H locs hP hS => ?_)
  exact fl_iret hx hb hr hlocks hP hS h dS_blocks_7
def yS_heaps : MethodName := ⟨"MeshedSpans", "heaps", "(I)I"⟩
def wS_heaps : List Cond := .code yS_heaps prog_1_method_14_code 4 (some .int) :: gw
theorem kS_heaps {R : Room} {s : State} {args : Array Value} {own : String} {ix : Nat} (hts : ∀ w ∈ gw, w.before args s = true) (hl : (Cond.methodLink own ix yS_heaps).before args s = true) (hR : 1 + 1 ≤ R.frames ∧ 8 + (4 + 11) + 21 ≤ R.locals) : CallW R s args own "MeshedSpans" ix yS_heaps prog_1_method_14_code 4 (some .int) wS_heaps { frames := 1, cells := 0, slots := 0, locals := 21 } 0 0 1 := ⟨callB_of (rm := { frames := 1, cells := 0, slots := 0, locals := 21 }) 1 hts (gw_c (ct := .code yS_heaps prog_1_method_14_code 4 (some .int)) gm_476) rfl rfl rfl (hts _ gm_41) hl (by decide +kernel) hR, hts _ gm_474, hts _ gm_475⟩
theorem dS_heaps_0 : decode prog_1_method_14_code 0 = .ok (.iload_n 1, 1) := by decide +kernel
theorem dS_heaps_1 : decode prog_1_method_14_code 1 = .ok (.invokestatic 103, 3) := by decide +kernel
theorem dS_heaps_4 : decode prog_1_method_14_code 4 = .ok (.ifCond .ne 5, 3) := by decide +kernel
theorem dS_heaps_7 : decode prog_1_method_14_code 7 = .ok (.iconst (-1), 1) := by decide +kernel
theorem dS_heaps_8 : decode prog_1_method_14_code 8 = .ok (.ireturn, 1) := by decide +kernel
theorem dS_heaps_9 : decode prog_1_method_14_code 9 = .ok (.iconst 0, 1) := by decide +kernel
theorem dS_heaps_10 : decode prog_1_method_14_code 10 = .ok (.istore_n 2, 1) := by decide +kernel
theorem dS_heaps_11 : decode prog_1_method_14_code 11 = .ok (.iconst 0, 1) := by decide +kernel
theorem dS_heaps_12 : decode prog_1_method_14_code 12 = .ok (.istore_n 3, 1) := by decide +kernel
theorem dS_heaps_13 : decode prog_1_method_14_code 13 = .ok (.iload_n 3, 1) := by decide +kernel
theorem dS_heaps_14 : decode prog_1_method_14_code 14 = .ok (.bipush 12, 2) := by decide +kernel
theorem dS_heaps_16 : decode prog_1_method_14_code 16 = .ok (.if_icmp .ge 25, 3) := by decide +kernel
theorem dS_heaps_19 : decode prog_1_method_14_code 19 = .ok (.aload_n 0, 1) := by decide +kernel
theorem dS_heaps_20 : decode prog_1_method_14_code 20 = .ok (.getfield 34, 3) := by decide +kernel
theorem dS_heaps_23 : decode prog_1_method_14_code 23 = .ok (.iload_n 3, 1) := by decide +kernel
theorem dS_heaps_24 : decode prog_1_method_14_code 24 = .ok (.aaload, 1) := by decide +kernel
theorem dS_heaps_25 : decode prog_1_method_14_code 25 = .ok (.iload_n 1, 1) := by decide +kernel
theorem dS_heaps_26 : decode prog_1_method_14_code 26 = .ok (.invokevirtual 133, 3) := by decide +kernel
theorem dS_heaps_29 : decode prog_1_method_14_code 29 = .ok (.ifCond .eq 6, 3) := by decide +kernel
theorem dS_heaps_32 : decode prog_1_method_14_code 32 = .ok (.iinc 2 1, 3) := by decide +kernel
theorem dS_heaps_35 : decode prog_1_method_14_code 35 = .ok (.iinc 3 1, 3) := by decide +kernel
theorem dS_heaps_38 : decode prog_1_method_14_code 38 = .ok (.goto (-25), 3) := by decide +kernel
theorem dS_heaps_41 : decode prog_1_method_14_code 41 = .ok (.iload_n 2, 1) := by decide +kernel
theorem dS_heaps_42 : decode prog_1_method_14_code 42 = .ok (.ireturn, 1) := by decide +kernel
def fS_heaps_B13 (rec : Int32 → Int32 → Int32 → fl_G → Option ((Int32 × Int32) × fl_G)) (v3 : Int32) (v2 : Int32) (v1 : Int32) (g : fl_G) : Option ((Int32 × Int32) × fl_G) :=
  if 12 ≤ v3 then (some ((v3, v2), g)) else (fl_ck (fl_in v3 12) (fl_bd (fM_isOf (10 + (Int32.toNatClampNeg v3)) v1 g) (fun r8 g9 => if r8 = 0 then (rec (v3 + 1) v2 v1 g9) else (rec (v3 + 1) (v2 + 1) v1 g9))))
def fS_heaps_L13 : Nat → Int32 → Int32 → Int32 → fl_G → Option ((Int32 × Int32) × fl_G)
  | 0, _, _, _, _ => none
  | n + 1, v3, v2, v1, g => fS_heaps_B13 (fS_heaps_L13 n) v3 v2 v1 g
def fS_heaps (a0 : Int32) (g : fl_G) : Option (Int32 × fl_G) :=
  fl_bd (fS_isClass a0 g) (fun r1 g2 => if r1 = 0 then (some ((-1), g2)) else (fl_bd (fS_heaps_L13 1000 0 0 a0 g2) (fun r12 g13 => some (r12.2, g13))))
set_option maxHeartbeats 4000000 in
set_option maxRecDepth 100000 in
theorem cS_heaps (l : Launch) (dC : Nat → ClassId) (dI : Nat → Nat → Nat) (ca : Nat → ClassId) (ad : Nat → Nat) (hI : fl_inj 32 ad) (a0 : Int32) {g g1 : fl_G} {r : Int32} (h : fS_heaps a0 g = some (r, g1)) : Met l yS_heaps wS_heaps ({ frames := 1, cells := 0, slots := 0, locals := 21 }) (va_Pc [.ref (ad 0), .int a0] (fl_Pre (dC, dI) al_cl 32 (mc_sh ca ad) ad (mc_ty ca) mc_ns g)) (fl_QI (dC, dI) al_cl 32 (mc_sh ca ad) ad r g1) 0 0 (fl_A 32 ad) := by
  refine fl_of (cc := prog_1_method_14_code) (maxL := 4) (ret := (some .int)) (by decide) rfl (Nat.le_of_ble_eq_true rfl) ?_
  intro p e s m below meth c ls hx hb hr hml hts hown hlocks hP hK hN hl
  have hown : s.vm.findClass "MeshedSpans" = some m.cls := hown
  have hS : va_S (fl_A 32 ad) s.heap s.heap [] := va_S.rf
  have hl : lv_has ls 4 [(0, .ref (ad 0)), (1, .int a0)] := hl
  unfold fS_heaps at h
  refine lv_iload_n hx hb dS_heaps_0 rfl (lv_at hl 1 rfl) ?_
  replace h := fl_bd_some h
  obtain ⟨r1, g2, hc3, h⟩ := h
  refine fl_calli (va_runS (As := [.int a0]) (rest := []) ⟨hx, hb, hml, hown, hts⟩ (cS_isClass l dC dI ca ad hI a0 hc3) (kS_isClass hts (hts _ gm_402) ⟨Nat.le_of_ble_eq_true rfl, Nat.le_of_ble_eq_true rfl⟩) (fl_preS hK hP hN) rfl rfl hl.1 rfl (lv_room (Nat.le_of_ble_eq_true rfl)) dS_heaps_1 ⟨Nat.le_refl 0, Nat.le_refl 0⟩) hS (fun H locs hP hS => ?_)
  refine lv_if_ne (tgt := 9) hx hb dS_heaps_4 (by decide) (fun c4 => ?_) (fun c4 => ?_)
  · replace h := fl_neg c4 h
    refine lv_iconst (v := 0) hx hb dS_heaps_9 (by decide) ?_
    refine lv_istore_n (lv' := [(2, .int 0), (0, .ref (ad 0)), (1, .int a0)]) hx hb dS_heaps_10 rfl hl (by decide) rfl (fun ls hl => ?_)
    refine lv_iconst (v := 0) hx hb dS_heaps_11 (by decide) ?_
    refine lv_istore_n (lv' := [(3, .int 0), (2, .int 0), (0, .ref (ad 0)), (1, .int a0)]) hx hb dS_heaps_12 rfl hl (by decide) rfl (fun ls hl => ?_)
    have loop5 : ∀ (n : Nat) (v3 : Int32) (v2 : Int32) (v1 : Int32) (g : fl_G) (z : ((Int32 × Int32) × fl_G)) (H : Heap) (locs : List Loc) (ls : Array Slot), fS_heaps_L13 n v3 v2 v1 g = some z → va_P (dC, dI) al_cl (fl_ws 32 (mc_sh ca ad) ad g) H → va_S (fl_A 32 ad) s.heap H locs → lv_has ls 4 [(3, .int v3), (2, .int v2), (0, .ref (ad 0)), (1, .int v1)] → (∀ (H : Heap) (locs : List Loc) (ls : Array Slot), va_P (dC, dI) al_cl (fl_ws 32 (mc_sh ca ad) ad z.2) H → va_S (fl_A 32 ad) s.heap H locs → lv_has ls 4 [(3, .int z.1.1), (2, .int z.1.2), (0, .ref (ad 0)), (1, .int v1)] → W p l e ({ frames := 1, cells := 0, slots := 0, locals := 21 }) s m ([.ref (ad 0), .int a0] : List Value).toArray below meth c H locs 0 0 (MQ below (fl_QI (dC, dI) al_cl 32 (mc_sh ca ad) ad r g1) ([.ref (ad 0), .int a0] : List Value).toArray s 0 0 (fl_A 32 ad)) (F0 m 41 ls [])) → W p l e ({ frames := 1, cells := 0, slots := 0, locals := 21 }) s m ([.ref (ad 0), .int a0] : List Value).toArray below meth c H locs 0 0 (MQ below (fl_QI (dC, dI) al_cl 32 (mc_sh ca ad) ad r g1) ([.ref (ad 0), .int a0] : List Value).toArray s 0 0 (fl_A 32 ad)) (F0 m 13 ls []) := by
      intro n
      clear h hP hS hl
      induction n with
      | zero => intro v3 v2 v1 g z H locs ls h; cases h
      | succ n ih5 =>
        intro v3 v2 v1 g z H locs ls h hP hS hl K5
        have h : fS_heaps_B13 (fS_heaps_L13 n) v3 v2 v1 g = some z := h
        unfold fS_heaps_B13 at h
        refine lv_iload_n hx hb dS_heaps_13 rfl (lv_at hl 0 rfl) ?_
        refine lv_bipush (v := 12) hx hb dS_heaps_14 (by decide) ?_
        refine lv_icmp_ge (tgt := 41) hx hb dS_heaps_16 (by decide) (fun c6 => ?_) (fun c6 => ?_)
        · replace h := fl_pos c6 h
          cases h
          exact K5 _ _ _ hP hS (lv_sub hl [0, 1, 2, 3] rfl)
        · replace h := fl_neg c6 h
          refine lv_aload_n hx hb dS_heaps_19 rfl (lv_at hl 2 rfl) ?_
          refine mc_get0 (v := .ref (ad 9)) hx hb hts mc_in0 hown hK hP (q := 0) rfl 3 (by decide) (hts _ gm_143) rfl dS_heaps_20 ?_
          refine lv_iload_n hx hb dS_heaps_23 rfl (lv_at hl 0 rfl) ?_
          replace h := fl_ck_some h
          obtain ⟨hi7, h⟩ := h
          refine mc_aald12 hx hb hK hP hi7 dS_heaps_24 ?_
          refine lv_iload_n hx hb dS_heaps_25 rfl (lv_at hl 3 rfl) ?_
          replace h := fl_bd_some h
          obtain ⟨r8, g9, hc10, h⟩ := h
          refine fl_calli (va_runV (As := [.int v1]) (rest := []) ⟨hx, hb, hml, hown, hts⟩ (cM_isOf l dC dI ca ad hI (10 + (Int32.toNatClampNeg v3)) v1 hc10) (kM_isOf hts (hts _ gm_234) ⟨Nat.le_of_ble_eq_true rfl, Nat.le_of_ble_eq_true rfl⟩) (fl_preV hK hP hN (mc_lt (mc_kdM hi7.2) (by decide)) (mc_sh4 (mc_kdM hi7.2)) rfl) rfl rfl hl.1 rfl (lv_room (Nat.le_of_ble_eq_true rfl)) dS_heaps_26 ⟨Nat.le_refl 0, Nat.le_refl 0⟩) hS (fun H locs hP hS => ?_)
          refine lv_if_eq (tgt := 35) hx hb dS_heaps_29 (by decide) (fun c11 => ?_) (fun c11 => ?_)
          · replace h := fl_pos c11 h
            refine lv_iinc (v := (v3 + 1)) (lv' := [(3, .int (v3 + 1)), (2, .int v2), (0, .ref (ad 0)), (1, .int v1)]) hx hb dS_heaps_35 hl (k := 0) rfl rfl (by decide) rfl (fun ls hl => ?_)
            refine lv_goto (tgt := 13) hx hb dS_heaps_38 (by decide) ?_
            exact ih5 (v3 + 1) v2 v1 _ _ _ _ _ h hP hS (lv_sub hl [0, 1, 2, 3] rfl) K5
          · replace h := fl_neg c11 h
            refine lv_iinc (v := (v2 + 1)) (lv' := [(2, .int (v2 + 1)), (3, .int v3), (0, .ref (ad 0)), (1, .int v1)]) hx hb dS_heaps_32 hl (k := 1) rfl rfl (by decide) rfl (fun ls hl => ?_)
            refine lv_iinc (v := (v3 + 1)) (lv' := [(3, .int (v3 + 1)), (2, .int (v2 + 1)), (0, .ref (ad 0)), (1, .int v1)]) hx hb dS_heaps_35 hl (k := 1) rfl rfl (by decide) rfl (fun ls hl => ?_)
            refine lv_goto (tgt := 13) hx hb dS_heaps_38 (by decide) ?_
            exact ih5 (v3 + 1) (v2 + 1) v1 _ _ _ _ _ h hP hS (lv_sub hl [0, 1, 2, 3] rfl) K5
    obtain ⟨r12, g13, hc14, h⟩ := fl_bd_some h
    refine loop5 1000 0 0 a0 _ (r12, g13) _ _ _ hc14 hP hS (lv_sub hl [0, 1, 2, 3] rfl) (fun H locs ls hP hS hl => ?_)
    have hP : va_P (dC, dI) al_cl (fl_ws 32 (mc_sh ca ad) ad g13) H := hP
    have hl : lv_has ls 4 [(3, .int r12.1), (2, .int r12.2), (0, .ref (ad 0)), (1, .int a0)] := hl
    refine lv_iload_n hx hb dS_heaps_41 rfl (lv_at hl 1 rfl) ?_
    exact fl_iret hx hb hr hlocks hP hS h dS_heaps_42
  · replace h := fl_pos c4 h
    refine lv_iconst (v := (-1)) hx hb dS_heaps_7 (by decide) ?_
    exact fl_iret hx hb hr hlocks hP hS h dS_heaps_8
def yS_attached : MethodName := ⟨"MeshedSpans", "attached", "(I)I"⟩
def wS_attached : List Cond := .code yS_attached prog_1_method_15_code 3 (some .int) :: gw
theorem kS_attached {R : Room} {s : State} {args : Array Value} {own : String} {ix : Nat} (hts : ∀ w ∈ gw, w.before args s = true) (hl : (Cond.methodLink own ix yS_attached).before args s = true) (hR : 1 + 1 ≤ R.frames ∧ 8 + (3 + 11) + 20 ≤ R.locals) : CallW R s args own "MeshedSpans" ix yS_attached prog_1_method_15_code 3 (some .int) wS_attached { frames := 1, cells := 0, slots := 0, locals := 20 } 0 0 1 := ⟨callB_of (rm := { frames := 1, cells := 0, slots := 0, locals := 20 }) 1 hts (gw_c (ct := .code yS_attached prog_1_method_15_code 3 (some .int)) gm_480) rfl rfl rfl (hts _ gm_41) hl (by decide +kernel) hR, hts _ gm_478, hts _ gm_479⟩
theorem dS_attached_0 : decode prog_1_method_15_code 0 = .ok (.iload_n 1, 1) := by decide +kernel
theorem dS_attached_1 : decode prog_1_method_15_code 1 = .ok (.invokestatic 103, 3) := by decide +kernel
theorem dS_attached_4 : decode prog_1_method_15_code 4 = .ok (.ifCond .ne 5, 3) := by decide +kernel
theorem dS_attached_7 : decode prog_1_method_15_code 7 = .ok (.iconst (-1), 1) := by decide +kernel
theorem dS_attached_8 : decode prog_1_method_15_code 8 = .ok (.ireturn, 1) := by decide +kernel
theorem dS_attached_9 : decode prog_1_method_15_code 9 = .ok (.aload_n 0, 1) := by decide +kernel
theorem dS_attached_10 : decode prog_1_method_15_code 10 = .ok (.getfield 41, 3) := by decide +kernel
theorem dS_attached_13 : decode prog_1_method_15_code 13 = .ok (.iload_n 1, 1) := by decide +kernel
theorem dS_attached_14 : decode prog_1_method_15_code 14 = .ok (.aaload, 1) := by decide +kernel
theorem dS_attached_15 : decode prog_1_method_15_code 15 = .ok (.getfield 136, 3) := by decide +kernel
theorem dS_attached_18 : decode prog_1_method_15_code 18 = .ok (.astore_n 2, 1) := by decide +kernel
theorem dS_attached_19 : decode prog_1_method_15_code 19 = .ok (.aload_n 2, 1) := by decide +kernel
theorem dS_attached_20 : decode prog_1_method_15_code 20 = .ok (.ifnonnull 7, 3) := by decide +kernel
theorem dS_attached_23 : decode prog_1_method_15_code 23 = .ok (.iconst (-1), 1) := by decide +kernel
theorem dS_attached_24 : decode prog_1_method_15_code 24 = .ok (.goto 7, 3) := by decide +kernel
theorem dS_attached_27 : decode prog_1_method_15_code 27 = .ok (.aload_n 2, 1) := by decide +kernel
theorem dS_attached_28 : decode prog_1_method_15_code 28 = .ok (.getfield 140, 3) := by decide +kernel
theorem dS_attached_31 : decode prog_1_method_15_code 31 = .ok (.ireturn, 1) := by decide +kernel
def fS_attached (a0 : Int32) (g : fl_G) : Option (Int32 × fl_G) :=
  fl_bd (fS_isClass a0 g) (fun r1 g2 => if r1 = 0 then (some ((-1), g2)) else (fl_ck (fl_in a0 4) (fl_lt (fl_rf (g2 (23 + 2 * (Int32.toNatClampNeg a0)) 0)) (fun o6 => fl_cs o6 (some ((-1), g2)) (fun q8 => fl_ck (mc_kd q8 = 4) (some ((g2 q8 1), g2)))))))
set_option maxHeartbeats 4000000 in
set_option maxRecDepth 100000 in
theorem cS_attached (l : Launch) (dC : Nat → ClassId) (dI : Nat → Nat → Nat) (ca : Nat → ClassId) (ad : Nat → Nat) (hI : fl_inj 32 ad) (a0 : Int32) {g g1 : fl_G} {r : Int32} (h : fS_attached a0 g = some (r, g1)) : Met l yS_attached wS_attached ({ frames := 1, cells := 0, slots := 0, locals := 20 }) (va_Pc [.ref (ad 0), .int a0] (fl_Pre (dC, dI) al_cl 32 (mc_sh ca ad) ad (mc_ty ca) mc_ns g)) (fl_QI (dC, dI) al_cl 32 (mc_sh ca ad) ad r g1) 0 0 (fl_A 32 ad) := by
  refine fl_of (cc := prog_1_method_15_code) (maxL := 3) (ret := (some .int)) (by decide) rfl (Nat.le_of_ble_eq_true rfl) ?_
  intro p e s m below meth c ls hx hb hr hml hts hown hlocks hP hK hN hl
  have hown : s.vm.findClass "MeshedSpans" = some m.cls := hown
  have hS : va_S (fl_A 32 ad) s.heap s.heap [] := va_S.rf
  have hl : lv_has ls 3 [(0, .ref (ad 0)), (1, .int a0)] := hl
  unfold fS_attached at h
  refine lv_iload_n hx hb dS_attached_0 rfl (lv_at hl 1 rfl) ?_
  replace h := fl_bd_some h
  obtain ⟨r1, g2, hc3, h⟩ := h
  refine fl_calli (va_runS (As := [.int a0]) (rest := []) ⟨hx, hb, hml, hown, hts⟩ (cS_isClass l dC dI ca ad hI a0 hc3) (kS_isClass hts (hts _ gm_402) ⟨Nat.le_of_ble_eq_true rfl, Nat.le_of_ble_eq_true rfl⟩) (fl_preS hK hP hN) rfl rfl hl.1 rfl (lv_room (Nat.le_of_ble_eq_true rfl)) dS_attached_1 ⟨Nat.le_refl 0, Nat.le_refl 0⟩) hS (fun H locs hP hS => ?_)
  refine lv_if_ne (tgt := 9) hx hb dS_attached_4 (by decide) (fun c4 => ?_) (fun c4 => ?_)
  · replace h := fl_neg c4 h
    refine lv_aload_n hx hb dS_attached_9 rfl (lv_at hl 0 rfl) ?_
    refine mc_get0 (v := .ref (ad 22)) hx hb hts mc_in0 hown hK hP (q := 0) rfl 4 (by decide) (hts _ gm_144) rfl dS_attached_10 ?_
    refine lv_iload_n hx hb dS_attached_13 rfl (lv_at hl 1 rfl) ?_
    replace h := fl_ck_some h
    obtain ⟨hi5, h⟩ := h
    refine mc_aald13 hx hb hK hP hi5 dS_attached_14 ?_
    refine mc_getN5 (v := va_rf (Option.map ad (fl_rf (g2 (23 + 2 * (Int32.toNatClampNeg a0)) 0)))) hx hb hts mc_in5 hown hK hP (q := (23 + 2 * (Int32.toNatClampNeg a0))) (mc_kdB hi5.2) 0 (by decide) (hN.use _ nm_4) rfl dS_attached_15 ?_
    replace h := fl_lt_some h
    obtain ⟨o6, ho7, h⟩ := h
    rw [← ho7]
    refine fl_astoreq_n (lv' := [(2, va_rf (Option.map ad o6)), (0, .ref (ad 0)), (1, .int a0)]) hx hb dS_attached_18 rfl hl (by decide) rfl (fun ls hl => ?_)
    refine fl_aloadq_n hx hb dS_attached_19 rfl (lv_at hl 0 rfl) ?_
    rcases o6 with _ | q8
    · replace h := fl_cs_none h
      refine lv_ifnonnullN hx hb dS_attached_20 ?_
      refine lv_iconst (v := (-1)) hx hb dS_attached_23 (by decide) ?_
      refine lv_goto (tgt := 31) hx hb dS_attached_24 (by decide) ?_
      exact fl_iret hx hb hr hlocks hP hS h dS_attached_31
    · replace h := fl_cs_some h
      refine lv_ifnonnull (tgt := 27) hx hb dS_attached_20 (by decide) ?_
      refine lv_aload_n hx hb dS_attached_27 rfl (lv_at hl 0 rfl) ?_
      replace h := fl_ck_some h
      obtain ⟨hk9, h⟩ := h
      refine mc_getN4 (v := .int (g2 q8 1)) hx hb hts mc_in4 hown hK hP (q := q8) hk9 1 (by decide) (hN.use _ nm_1) rfl dS_attached_28 ?_
      exact fl_iret hx hb hr hlocks hP hS h dS_attached_31
  · replace h := fl_pos c4 h
    refine lv_iconst (v := (-1)) hx hb dS_attached_7 (by decide) ?_
    exact fl_iret hx hb hr hlocks hP hS h dS_attached_8
def yS_vector : MethodName := ⟨"MeshedSpans", "vector", "(II)I"⟩
def wS_vector : List Cond := .code yS_vector prog_1_method_17_code 3 (some .int) :: gw
theorem kS_vector {R : Room} {s : State} {args : Array Value} {own : String} {ix : Nat} (hts : ∀ w ∈ gw, w.before args s = true) (hl : (Cond.methodLink own ix yS_vector).before args s = true) (hR : 1 + 1 ≤ R.frames ∧ 8 + (3 + 11) + 21 ≤ R.locals) : CallW R s args own "MeshedSpans" ix yS_vector prog_1_method_17_code 3 (some .int) wS_vector { frames := 1, cells := 0, slots := 0, locals := 21 } 0 0 2 := ⟨callB_of (rm := { frames := 1, cells := 0, slots := 0, locals := 21 }) 2 hts (gw_c (ct := .code yS_vector prog_1_method_17_code 3 (some .int)) gm_488) rfl rfl rfl (hts _ gm_41) hl (by decide +kernel) hR, hts _ gm_486, hts _ gm_487⟩
theorem dS_vector_0 : decode prog_1_method_17_code 0 = .ok (.iload_n 1, 1) := by decide +kernel
theorem dS_vector_1 : decode prog_1_method_17_code 1 = .ok (.invokestatic 103, 3) := by decide +kernel
theorem dS_vector_4 : decode prog_1_method_17_code 4 = .ok (.ifCond .eq 16, 3) := by decide +kernel
theorem dS_vector_7 : decode prog_1_method_17_code 7 = .ok (.aload_n 0, 1) := by decide +kernel
theorem dS_vector_8 : decode prog_1_method_17_code 8 = .ok (.getfield 41, 3) := by decide +kernel
theorem dS_vector_11 : decode prog_1_method_17_code 11 = .ok (.iload_n 1, 1) := by decide +kernel
theorem dS_vector_12 : decode prog_1_method_17_code 12 = .ok (.aaload, 1) := by decide +kernel
theorem dS_vector_13 : decode prog_1_method_17_code 13 = .ok (.iload_n 2, 1) := by decide +kernel
theorem dS_vector_14 : decode prog_1_method_17_code 14 = .ok (.invokevirtual 143, 3) := by decide +kernel
theorem dS_vector_17 : decode prog_1_method_17_code 17 = .ok (.goto 4, 3) := by decide +kernel
theorem dS_vector_20 : decode prog_1_method_17_code 20 = .ok (.iconst (-1), 1) := by decide +kernel
theorem dS_vector_21 : decode prog_1_method_17_code 21 = .ok (.ireturn, 1) := by decide +kernel
def fS_vector (a0 : Int32) (a1 : Int32) (g : fl_G) : Option (Int32 × fl_G) :=
  fl_bd (fS_isClass a0 g) (fun r1 g2 => if r1 = 0 then (some ((-1), g2)) else (fl_ck (fl_in a0 4) (fl_bd (fA_cellAtPlace (23 + 2 * (Int32.toNatClampNeg a0)) a1 g2) (fun r6 g7 => some (r6, g7)))))
set_option maxHeartbeats 4000000 in
set_option maxRecDepth 100000 in
theorem cS_vector (l : Launch) (dC : Nat → ClassId) (dI : Nat → Nat → Nat) (ca : Nat → ClassId) (ad : Nat → Nat) (hI : fl_inj 32 ad) (a0 : Int32) (a1 : Int32) {g g1 : fl_G} {r : Int32} (h : fS_vector a0 a1 g = some (r, g1)) : Met l yS_vector wS_vector ({ frames := 1, cells := 0, slots := 0, locals := 21 }) (va_Pc [.ref (ad 0), .int a0, .int a1] (fl_Pre (dC, dI) al_cl 32 (mc_sh ca ad) ad (mc_ty ca) mc_ns g)) (fl_QI (dC, dI) al_cl 32 (mc_sh ca ad) ad r g1) 0 0 (fl_A 32 ad) := by
  refine fl_of (cc := prog_1_method_17_code) (maxL := 3) (ret := (some .int)) (by decide) rfl (Nat.le_of_ble_eq_true rfl) ?_
  intro p e s m below meth c ls hx hb hr hml hts hown hlocks hP hK hN hl
  have hown : s.vm.findClass "MeshedSpans" = some m.cls := hown
  have hS : va_S (fl_A 32 ad) s.heap s.heap [] := va_S.rf
  have hl : lv_has ls 3 [(0, .ref (ad 0)), (1, .int a0), (2, .int a1)] := hl
  unfold fS_vector at h
  refine lv_iload_n hx hb dS_vector_0 rfl (lv_at hl 1 rfl) ?_
  replace h := fl_bd_some h
  obtain ⟨r1, g2, hc3, h⟩ := h
  refine fl_calli (va_runS (As := [.int a0]) (rest := []) ⟨hx, hb, hml, hown, hts⟩ (cS_isClass l dC dI ca ad hI a0 hc3) (kS_isClass hts (hts _ gm_402) ⟨Nat.le_of_ble_eq_true rfl, Nat.le_of_ble_eq_true rfl⟩) (fl_preS hK hP hN) rfl rfl hl.1 rfl (lv_room (Nat.le_of_ble_eq_true rfl)) dS_vector_1 ⟨Nat.le_refl 0, Nat.le_refl 0⟩) hS (fun H locs hP hS => ?_)
  refine lv_if_eq (tgt := 20) hx hb dS_vector_4 (by decide) (fun c4 => ?_) (fun c4 => ?_)
  · replace h := fl_pos c4 h
    refine lv_iconst (v := (-1)) hx hb dS_vector_20 (by decide) ?_
    exact fl_iret hx hb hr hlocks hP hS h dS_vector_21
  · replace h := fl_neg c4 h
    refine lv_aload_n hx hb dS_vector_7 rfl (lv_at hl 0 rfl) ?_
    refine mc_get0 (v := .ref (ad 22)) hx hb hts mc_in0 hown hK hP (q := 0) rfl 4 (by decide) (hts _ gm_144) rfl dS_vector_8 ?_
    refine lv_iload_n hx hb dS_vector_11 rfl (lv_at hl 1 rfl) ?_
    replace h := fl_ck_some h
    obtain ⟨hi5, h⟩ := h
    refine mc_aald13 hx hb hK hP hi5 dS_vector_12 ?_
    refine lv_iload_n hx hb dS_vector_13 rfl (lv_at hl 2 rfl) ?_
    replace h := fl_bd_some h
    obtain ⟨r6, g7, hc8, h⟩ := h
    refine fl_calli (va_runV (As := [.int a1]) (rest := []) ⟨hx, hb, hml, hown, hts⟩ (cA_cellAtPlace l dC dI ca ad hI (23 + 2 * (Int32.toNatClampNeg a0)) a1 hc8) (kA_cellAtPlace hts (hts _ gm_489) ⟨Nat.le_of_ble_eq_true rfl, Nat.le_of_ble_eq_true rfl⟩) (fl_preV hK hP hN (mc_lt (mc_kdB hi5.2) (by decide)) (mc_sh5 (mc_kdB hi5.2)) rfl) rfl rfl hl.1 rfl (lv_room (Nat.le_of_ble_eq_true rfl)) dS_vector_14 ⟨Nat.le_refl 0, Nat.le_refl 0⟩) hS (fun H locs hP hS => ?_)
    refine lv_goto (tgt := 21) hx hb dS_vector_17 (by decide) ?_
    exact fl_iret hx hb hr hlocks hP hS h dS_vector_21
def yS_miniheapBehind : MethodName := ⟨"MeshedSpans", "miniheapBehind", "(I)LMeshedSpans$Miniheap;"⟩
def wS_miniheapBehind : List Cond := .code yS_miniheapBehind prog_1_method_25_code 3 (some (.object "MeshedSpans$Miniheap")) :: gw
theorem kS_miniheapBehind {R : Room} {s : State} {args : Array Value} {own : String} {ix : Nat} (hts : ∀ w ∈ gw, w.before args s = true) (hl : (Cond.methodLink own ix yS_miniheapBehind).before args s = true) (hR : 2 + 1 ≤ R.frames ∧ 8 + (3 + 11) + 41 ≤ R.locals) : CallW R s args own "MeshedSpans" ix yS_miniheapBehind prog_1_method_25_code 3 (some (.object "MeshedSpans$Miniheap")) wS_miniheapBehind { frames := 2, cells := 0, slots := 0, locals := 41 } 0 0 1 := ⟨callB_of (rm := { frames := 2, cells := 0, slots := 0, locals := 41 }) 1 hts (gw_c (ct := .code yS_miniheapBehind prog_1_method_25_code 3 (some (.object "MeshedSpans$Miniheap"))) gm_321) rfl rfl rfl (hts _ gm_41) hl (by decide +kernel) hR, hts _ gm_320, hts _ gm_9⟩
theorem dS_miniheapBehind_0 : decode prog_1_method_25_code 0 = .ok (.iload_n 1, 1) := by decide +kernel
theorem dS_miniheapBehind_1 : decode prog_1_method_25_code 1 = .ok (.invokestatic 149, 3) := by decide +kernel
theorem dS_miniheapBehind_4 : decode prog_1_method_25_code 4 = .ok (.ifCond .eq 17, 3) := by decide +kernel
theorem dS_miniheapBehind_7 : decode prog_1_method_25_code 7 = .ok (.aload_n 0, 1) := by decide +kernel
theorem dS_miniheapBehind_8 : decode prog_1_method_25_code 8 = .ok (.getfield 21, 3) := by decide +kernel
theorem dS_miniheapBehind_11 : decode prog_1_method_25_code 11 = .ok (.iload_n 1, 1) := by decide +kernel
theorem dS_miniheapBehind_12 : decode prog_1_method_25_code 12 = .ok (.bipush 16, 2) := by decide +kernel
theorem dS_miniheapBehind_14 : decode prog_1_method_25_code 14 = .ok (.idiv, 1) := by decide +kernel
theorem dS_miniheapBehind_15 : decode prog_1_method_25_code 15 = .ok (.invokevirtual 124, 3) := by decide +kernel
theorem dS_miniheapBehind_18 : decode prog_1_method_25_code 18 = .ok (.goto 4, 3) := by decide +kernel
theorem dS_miniheapBehind_21 : decode prog_1_method_25_code 21 = .ok (.iconst (-1), 1) := by decide +kernel
theorem dS_miniheapBehind_22 : decode prog_1_method_25_code 22 = .ok (.istore_n 2, 1) := by decide +kernel
theorem dS_miniheapBehind_23 : decode prog_1_method_25_code 23 = .ok (.iload_n 2, 1) := by decide +kernel
theorem dS_miniheapBehind_24 : decode prog_1_method_25_code 24 = .ok (.invokestatic 152, 3) := by decide +kernel
theorem dS_miniheapBehind_27 : decode prog_1_method_25_code 27 = .ok (.ifCond .eq 15, 3) := by decide +kernel
theorem dS_miniheapBehind_30 : decode prog_1_method_25_code 30 = .ok (.aload_n 0, 1) := by decide +kernel
theorem dS_miniheapBehind_31 : decode prog_1_method_25_code 31 = .ok (.getfield 34, 3) := by decide +kernel
theorem dS_miniheapBehind_34 : decode prog_1_method_25_code 34 = .ok (.iload_n 2, 1) := by decide +kernel
theorem dS_miniheapBehind_35 : decode prog_1_method_25_code 35 = .ok (.aaload, 1) := by decide +kernel
theorem dS_miniheapBehind_36 : decode prog_1_method_25_code 36 = .ok (.invokevirtual 155, 3) := by decide +kernel
theorem dS_miniheapBehind_39 : decode prog_1_method_25_code 39 = .ok (.ifCond .ne 5, 3) := by decide +kernel
theorem dS_miniheapBehind_42 : decode prog_1_method_25_code 42 = .ok (.aconst_null, 1) := by decide +kernel
theorem dS_miniheapBehind_43 : decode prog_1_method_25_code 43 = .ok (.areturn, 1) := by decide +kernel
theorem dS_miniheapBehind_44 : decode prog_1_method_25_code 44 = .ok (.aload_n 0, 1) := by decide +kernel
theorem dS_miniheapBehind_45 : decode prog_1_method_25_code 45 = .ok (.getfield 34, 3) := by decide +kernel
theorem dS_miniheapBehind_48 : decode prog_1_method_25_code 48 = .ok (.iload_n 2, 1) := by decide +kernel
theorem dS_miniheapBehind_49 : decode prog_1_method_25_code 49 = .ok (.aaload, 1) := by decide +kernel
theorem dS_miniheapBehind_50 : decode prog_1_method_25_code 50 = .ok (.areturn, 1) := by decide +kernel
def fS_miniheapBehind (a0 : Int32) (g : fl_G) : Option (Option Nat × fl_G) :=
  fl_bd (fS_isAddress a0 g) (fun r1 g2 => if r1 = 0 then (fl_bd (fS_isPhysical (-1) g2) (fun r5 g6 => if r5 = 0 then (some (none, g6)) else (fl_ck (fl_in (-1) 12) (fl_bd (fM_exists (10 + (Int32.toNatClampNeg (-1))) g6) (fun r10 g11 => if r10 = 0 then (some (none, g11)) else (fl_ck (fl_in (-1) 12) (some ((some (10 + (Int32.toNatClampNeg (-1)))), g11)))))))) else (fl_bd (fP_physicalOf (a0 / 16) g2) (fun r15 g16 => fl_bd (fS_isPhysical r15 g16) (fun r18 g19 => if r18 = 0 then (some (none, g19)) else (fl_ck (fl_in r15 12) (fl_bd (fM_exists (10 + (Int32.toNatClampNeg r15)) g19) (fun r23 g24 => if r23 = 0 then (some (none, g24)) else (fl_ck (fl_in r15 12) (some ((some (10 + (Int32.toNatClampNeg r15))), g24))))))))))
set_option maxHeartbeats 4000000 in
set_option maxRecDepth 100000 in
theorem cS_miniheapBehind (l : Launch) (dC : Nat → ClassId) (dI : Nat → Nat → Nat) (ca : Nat → ClassId) (ad : Nat → Nat) (hI : fl_inj 32 ad) (a0 : Int32) {g g1 : fl_G} {r : Option Nat} (h : fS_miniheapBehind a0 g = some (r, g1)) : Met l yS_miniheapBehind wS_miniheapBehind ({ frames := 2, cells := 0, slots := 0, locals := 41 }) (va_Pc [.ref (ad 0), .int a0] (fl_Pre (dC, dI) al_cl 32 (mc_sh ca ad) ad (mc_ty ca) mc_ns g)) (fl_QQ (dC, dI) al_cl 32 (mc_sh ca ad) ad r g1) 0 0 (fl_A 32 ad) := by
  refine fl_of (cc := prog_1_method_25_code) (maxL := 3) (ret := (some (.object "MeshedSpans$Miniheap"))) (by decide) rfl (Nat.le_of_ble_eq_true rfl) ?_
  intro p e s m below meth c ls hx hb hr hml hts hown hlocks hP hK hN hl
  have hown : s.vm.findClass "MeshedSpans" = some m.cls := hown
  have hS : va_S (fl_A 32 ad) s.heap s.heap [] := va_S.rf
  have hl : lv_has ls 3 [(0, .ref (ad 0)), (1, .int a0)] := hl
  unfold fS_miniheapBehind at h
  refine lv_iload_n hx hb dS_miniheapBehind_0 rfl (lv_at hl 1 rfl) ?_
  replace h := fl_bd_some h
  obtain ⟨r1, g2, hc3, h⟩ := h
  refine fl_calli (va_runS (As := [.int a0]) (rest := []) ⟨hx, hb, hml, hown, hts⟩ (cS_isAddress l dC dI ca ad hI a0 hc3) (kS_isAddress hts (hts _ gm_322) ⟨Nat.le_of_ble_eq_true rfl, Nat.le_of_ble_eq_true rfl⟩) (fl_preS hK hP hN) rfl rfl hl.1 rfl (lv_room (Nat.le_of_ble_eq_true rfl)) dS_miniheapBehind_1 ⟨Nat.le_refl 0, Nat.le_refl 0⟩) hS (fun H locs hP hS => ?_)
  refine lv_if_eq (tgt := 21) hx hb dS_miniheapBehind_4 (by decide) (fun c4 => ?_) (fun c4 => ?_)
  · replace h := fl_pos c4 h
    refine lv_iconst (v := (-1)) hx hb dS_miniheapBehind_21 (by decide) ?_
    refine lv_istore_n (lv' := [(2, .int (-1)), (0, .ref (ad 0)), (1, .int a0)]) hx hb dS_miniheapBehind_22 rfl hl (by decide) rfl (fun ls hl => ?_)
    refine lv_iload_n hx hb dS_miniheapBehind_23 rfl (lv_at hl 0 rfl) ?_
    replace h := fl_bd_some h
    obtain ⟨r5, g6, hc7, h⟩ := h
    refine fl_calli (va_runS (As := [.int (-1)]) (rest := []) ⟨hx, hb, hml, hown, hts⟩ (cS_isPhysical l dC dI ca ad hI (-1) hc7) (kS_isPhysical hts (hts _ gm_261) ⟨Nat.le_of_ble_eq_true rfl, Nat.le_of_ble_eq_true rfl⟩) (fl_preS hK hP hN) rfl rfl hl.1 rfl (lv_room (Nat.le_of_ble_eq_true rfl)) dS_miniheapBehind_24 ⟨Nat.le_refl 0, Nat.le_refl 0⟩) hS (fun H locs hP hS => ?_)
    refine lv_if_eq (tgt := 42) hx hb dS_miniheapBehind_27 (by decide) (fun c8 => ?_) (fun c8 => ?_)
    · replace h := fl_pos c8 h
      refine lv_null hx hb dS_miniheapBehind_42 ?_
      exact fl_qret (v := none) hx hb hr hlocks hP hS h dS_miniheapBehind_43
    · replace h := fl_neg c8 h
      refine lv_aload_n hx hb dS_miniheapBehind_30 rfl (lv_at hl 1 rfl) ?_
      refine mc_get0 (v := .ref (ad 9)) hx hb hts mc_in0 hown hK hP (q := 0) rfl 3 (by decide) (hts _ gm_143) rfl dS_miniheapBehind_31 ?_
      refine lv_iload_n hx hb dS_miniheapBehind_34 rfl (lv_at hl 0 rfl) ?_
      replace h := fl_ck_some h
      obtain ⟨hi9, h⟩ := h
      refine mc_aald12 hx hb hK hP hi9 dS_miniheapBehind_35 ?_
      replace h := fl_bd_some h
      obtain ⟨r10, g11, hc12, h⟩ := h
      refine fl_calli (va_runV (As := []) (rest := []) ⟨hx, hb, hml, hown, hts⟩ (cM_exists l dC dI ca ad hI (10 + (Int32.toNatClampNeg (-1))) hc12) (kM_exists hts (hts _ gm_327) ⟨Nat.le_of_ble_eq_true rfl, Nat.le_of_ble_eq_true rfl⟩) (fl_preV hK hP hN (mc_lt (mc_kdM hi9.2) (by decide)) (mc_sh4 (mc_kdM hi9.2)) rfl) rfl rfl hl.1 rfl (lv_room (Nat.le_of_ble_eq_true rfl)) dS_miniheapBehind_36 ⟨Nat.le_refl 0, Nat.le_refl 0⟩) hS (fun H locs hP hS => ?_)
      refine lv_if_ne (tgt := 44) hx hb dS_miniheapBehind_39 (by decide) (fun c13 => ?_) (fun c13 => ?_)
      · replace h := fl_neg c13 h
        refine lv_aload_n hx hb dS_miniheapBehind_44 rfl (lv_at hl 1 rfl) ?_
        refine mc_get0 (v := .ref (ad 9)) hx hb hts mc_in0 hown hK hP (q := 0) rfl 3 (by decide) (hts _ gm_143) rfl dS_miniheapBehind_45 ?_
        refine lv_iload_n hx hb dS_miniheapBehind_48 rfl (lv_at hl 0 rfl) ?_
        replace h := fl_ck_some h
        obtain ⟨hi14, h⟩ := h
        refine mc_aald12 hx hb hK hP hi14 dS_miniheapBehind_49 ?_
        exact fl_qret (v := (some (10 + (Int32.toNatClampNeg (-1))))) hx hb hr hlocks hP hS h dS_miniheapBehind_50
      · replace h := fl_pos c13 h
        refine lv_null hx hb dS_miniheapBehind_42 ?_
        exact fl_qret (v := none) hx hb hr hlocks hP hS h dS_miniheapBehind_43
  · replace h := fl_neg c4 h
    refine lv_aload_n hx hb dS_miniheapBehind_7 rfl (lv_at hl 0 rfl) ?_
    refine mc_get0 (v := .ref (ad 2)) hx hb hts mc_in0 hown hK hP (q := 0) rfl 1 (by decide) (hts _ gm_141) rfl dS_miniheapBehind_8 ?_
    refine lv_iload_n hx hb dS_miniheapBehind_11 rfl (lv_at hl 1 rfl) ?_
    refine lv_bipush (v := 16) hx hb dS_miniheapBehind_12 (by decide) ?_
    refine lv_idiv hx hb dS_miniheapBehind_14 (by decide) ?_
    replace h := fl_bd_some h
    obtain ⟨r15, g16, hc17, h⟩ := h
    refine fl_calli (va_runV (As := [.int (a0 / 16)]) (rest := []) ⟨hx, hb, hml, hown, hts⟩ (cP_physicalOf l dC dI ca ad hI (a0 / 16) hc17) (kP_physicalOf hts (hts _ gm_323) ⟨Nat.le_of_ble_eq_true rfl, Nat.le_of_ble_eq_true rfl⟩) (fl_preV hK hP hN (mc_lt rfl (by decide)) (mc_sh2 rfl) rfl) rfl rfl hl.1 rfl (lv_room (Nat.le_of_ble_eq_true rfl)) dS_miniheapBehind_15 ⟨Nat.le_refl 0, Nat.le_refl 0⟩) hS (fun H locs hP hS => ?_)
    refine lv_goto (tgt := 22) hx hb dS_miniheapBehind_18 (by decide) ?_
    refine lv_istore_n (lv' := [(2, .int r15), (0, .ref (ad 0)), (1, .int a0)]) hx hb dS_miniheapBehind_22 rfl hl (by decide) rfl (fun ls hl => ?_)
    refine lv_iload_n hx hb dS_miniheapBehind_23 rfl (lv_at hl 0 rfl) ?_
    replace h := fl_bd_some h
    obtain ⟨r18, g19, hc20, h⟩ := h
    refine fl_calli (va_runS (As := [.int r15]) (rest := []) ⟨hx, hb, hml, hown, hts⟩ (cS_isPhysical l dC dI ca ad hI r15 hc20) (kS_isPhysical hts (hts _ gm_261) ⟨Nat.le_of_ble_eq_true rfl, Nat.le_of_ble_eq_true rfl⟩) (fl_preS hK hP hN) rfl rfl hl.1 rfl (lv_room (Nat.le_of_ble_eq_true rfl)) dS_miniheapBehind_24 ⟨Nat.le_refl 0, Nat.le_refl 0⟩) hS (fun H locs hP hS => ?_)
    refine lv_if_eq (tgt := 42) hx hb dS_miniheapBehind_27 (by decide) (fun c21 => ?_) (fun c21 => ?_)
    · replace h := fl_pos c21 h
      refine lv_null hx hb dS_miniheapBehind_42 ?_
      exact fl_qret (v := none) hx hb hr hlocks hP hS h dS_miniheapBehind_43
    · replace h := fl_neg c21 h
      refine lv_aload_n hx hb dS_miniheapBehind_30 rfl (lv_at hl 1 rfl) ?_
      refine mc_get0 (v := .ref (ad 9)) hx hb hts mc_in0 hown hK hP (q := 0) rfl 3 (by decide) (hts _ gm_143) rfl dS_miniheapBehind_31 ?_
      refine lv_iload_n hx hb dS_miniheapBehind_34 rfl (lv_at hl 0 rfl) ?_
      replace h := fl_ck_some h
      obtain ⟨hi22, h⟩ := h
      refine mc_aald12 hx hb hK hP hi22 dS_miniheapBehind_35 ?_
      replace h := fl_bd_some h
      obtain ⟨r23, g24, hc25, h⟩ := h
      refine fl_calli (va_runV (As := []) (rest := []) ⟨hx, hb, hml, hown, hts⟩ (cM_exists l dC dI ca ad hI (10 + (Int32.toNatClampNeg r15)) hc25) (kM_exists hts (hts _ gm_327) ⟨Nat.le_of_ble_eq_true rfl, Nat.le_of_ble_eq_true rfl⟩) (fl_preV hK hP hN (mc_lt (mc_kdM hi22.2) (by decide)) (mc_sh4 (mc_kdM hi22.2)) rfl) rfl rfl hl.1 rfl (lv_room (Nat.le_of_ble_eq_true rfl)) dS_miniheapBehind_36 ⟨Nat.le_refl 0, Nat.le_refl 0⟩) hS (fun H locs hP hS => ?_)
      refine lv_if_ne (tgt := 44) hx hb dS_miniheapBehind_39 (by decide) (fun c26 => ?_) (fun c26 => ?_)
      · replace h := fl_neg c26 h
        refine lv_aload_n hx hb dS_miniheapBehind_44 rfl (lv_at hl 1 rfl) ?_
        refine mc_get0 (v := .ref (ad 9)) hx hb hts mc_in0 hown hK hP (q := 0) rfl 3 (by decide) (hts _ gm_143) rfl dS_miniheapBehind_45 ?_
        refine lv_iload_n hx hb dS_miniheapBehind_48 rfl (lv_at hl 0 rfl) ?_
        replace h := fl_ck_some h
        obtain ⟨hi27, h⟩ := h
        refine mc_aald12 hx hb hK hP hi27 dS_miniheapBehind_49 ?_
        exact fl_qret (v := (some (10 + (Int32.toNatClampNeg r15)))) hx hb hr hlocks hP hS h dS_miniheapBehind_50
      · replace h := fl_pos c26 h
        refine lv_null hx hb dS_miniheapBehind_42 ?_
        exact fl_qret (v := none) hx hb hr hlocks hP hS h dS_miniheapBehind_43
def yS_heapOf : MethodName := ⟨"MeshedSpans", "heapOf", "(I)I"⟩
def wS_heapOf : List Cond := .code yS_heapOf prog_1_method_16_code 3 (some .int) :: gw
theorem kS_heapOf {R : Room} {s : State} {args : Array Value} {own : String} {ix : Nat} (hts : ∀ w ∈ gw, w.before args s = true) (hl : (Cond.methodLink own ix yS_heapOf).before args s = true) (hR : 3 + 1 ≤ R.frames ∧ 8 + (3 + 11) + 63 ≤ R.locals) : CallW R s args own "MeshedSpans" ix yS_heapOf prog_1_method_16_code 3 (some .int) wS_heapOf { frames := 3, cells := 0, slots := 0, locals := 63 } 0 0 1 := ⟨callB_of (rm := { frames := 3, cells := 0, slots := 0, locals := 63 }) 1 hts (gw_c (ct := .code yS_heapOf prog_1_method_16_code 3 (some .int)) gm_484) rfl rfl rfl (hts _ gm_41) hl (by decide +kernel) hR, hts _ gm_482, hts _ gm_483⟩
theorem dS_heapOf_0 : decode prog_1_method_16_code 0 = .ok (.aload_n 0, 1) := by decide +kernel
theorem dS_heapOf_1 : decode prog_1_method_16_code 1 = .ok (.getfield 28, 3) := by decide +kernel
theorem dS_heapOf_4 : decode prog_1_method_16_code 4 = .ok (.iload_n 1, 1) := by decide +kernel
theorem dS_heapOf_5 : decode prog_1_method_16_code 5 = .ok (.invokevirtual 70, 3) := by decide +kernel
theorem dS_heapOf_8 : decode prog_1_method_16_code 8 = .ok (.ifCond .ne 6, 3) := by decide +kernel
theorem dS_heapOf_11 : decode prog_1_method_16_code 11 = .ok (.bipush (-2), 2) := by decide +kernel
theorem dS_heapOf_13 : decode prog_1_method_16_code 13 = .ok (.ireturn, 1) := by decide +kernel
theorem dS_heapOf_14 : decode prog_1_method_16_code 14 = .ok (.aload_n 0, 1) := by decide +kernel
theorem dS_heapOf_15 : decode prog_1_method_16_code 15 = .ok (.iload_n 1, 1) := by decide +kernel
theorem dS_heapOf_16 : decode prog_1_method_16_code 16 = .ok (.invokevirtual 74, 3) := by decide +kernel
theorem dS_heapOf_19 : decode prog_1_method_16_code 19 = .ok (.astore_n 2, 1) := by decide +kernel
theorem dS_heapOf_20 : decode prog_1_method_16_code 20 = .ok (.aload_n 2, 1) := by decide +kernel
theorem dS_heapOf_21 : decode prog_1_method_16_code 21 = .ok (.ifnonnull 7, 3) := by decide +kernel
theorem dS_heapOf_24 : decode prog_1_method_16_code 24 = .ok (.iconst (-1), 1) := by decide +kernel
theorem dS_heapOf_25 : decode prog_1_method_16_code 25 = .ok (.goto 7, 3) := by decide +kernel
theorem dS_heapOf_28 : decode prog_1_method_16_code 28 = .ok (.aload_n 2, 1) := by decide +kernel
theorem dS_heapOf_29 : decode prog_1_method_16_code 29 = .ok (.getfield 140, 3) := by decide +kernel
theorem dS_heapOf_32 : decode prog_1_method_16_code 32 = .ok (.ireturn, 1) := by decide +kernel
def fS_heapOf (a0 : Int32) (g : fl_G) : Option (Int32 × fl_G) :=
  fl_bd (fB_beginsAt a0 g) (fun r1 g2 => if r1 = 0 then (some ((-2), g2)) else (fl_bd (fS_miniheapBehind a0 g2) (fun r5 g6 => fl_cs r5 (some ((-1), g6)) (fun q8 => fl_ck (mc_kd q8 = 4) (some ((g6 q8 1), g6))))))
set_option maxHeartbeats 4000000 in
set_option maxRecDepth 100000 in
theorem cS_heapOf (l : Launch) (dC : Nat → ClassId) (dI : Nat → Nat → Nat) (ca : Nat → ClassId) (ad : Nat → Nat) (hI : fl_inj 32 ad) (a0 : Int32) {g g1 : fl_G} {r : Int32} (h : fS_heapOf a0 g = some (r, g1)) : Met l yS_heapOf wS_heapOf ({ frames := 3, cells := 0, slots := 0, locals := 63 }) (va_Pc [.ref (ad 0), .int a0] (fl_Pre (dC, dI) al_cl 32 (mc_sh ca ad) ad (mc_ty ca) mc_ns g)) (fl_QI (dC, dI) al_cl 32 (mc_sh ca ad) ad r g1) 0 0 (fl_A 32 ad) := by
  refine fl_of (cc := prog_1_method_16_code) (maxL := 3) (ret := (some .int)) (by decide) rfl (Nat.le_of_ble_eq_true rfl) ?_
  intro p e s m below meth c ls hx hb hr hml hts hown hlocks hP hK hN hl
  have hown : s.vm.findClass "MeshedSpans" = some m.cls := hown
  have hS : va_S (fl_A 32 ad) s.heap s.heap [] := va_S.rf
  have hl : lv_has ls 3 [(0, .ref (ad 0)), (1, .int a0)] := hl
  unfold fS_heapOf at h
  refine lv_aload_n hx hb dS_heapOf_0 rfl (lv_at hl 0 rfl) ?_
  refine mc_get0 (v := .ref (ad 6)) hx hb hts mc_in0 hown hK hP (q := 0) rfl 2 (by decide) (hts _ gm_142) rfl dS_heapOf_1 ?_
  refine lv_iload_n hx hb dS_heapOf_4 rfl (lv_at hl 1 rfl) ?_
  replace h := fl_bd_some h
  obtain ⟨r1, g2, hc3, h⟩ := h
  refine fl_calli (va_runV (As := [.int a0]) (rest := []) ⟨hx, hb, hml, hown, hts⟩ (cB_beginsAt l dC dI ca ad hI a0 hc3) (kB_beginsAt hts (hts _ gm_311) ⟨Nat.le_of_ble_eq_true rfl, Nat.le_of_ble_eq_true rfl⟩) (fl_preV hK hP hN (mc_lt rfl (by decide)) (mc_sh3 rfl) rfl) rfl rfl hl.1 rfl (lv_room (Nat.le_of_ble_eq_true rfl)) dS_heapOf_5 ⟨Nat.le_refl 0, Nat.le_refl 0⟩) hS (fun H locs hP hS => ?_)
  refine lv_if_ne (tgt := 14) hx hb dS_heapOf_8 (by decide) (fun c4 => ?_) (fun c4 => ?_)
  · replace h := fl_neg c4 h
    refine lv_aload_n hx hb dS_heapOf_14 rfl (lv_at hl 0 rfl) ?_
    refine lv_iload_n hx hb dS_heapOf_15 rfl (lv_at hl 1 rfl) ?_
    replace h := fl_bd_some h
    obtain ⟨r5, g6, hc7, h⟩ := h
    refine fl_callq (va_runV (As := [.int a0]) (rest := []) ⟨hx, hb, hml, hown, hts⟩ (cS_miniheapBehind l dC dI ca ad hI a0 hc7) (kS_miniheapBehind hts (hts _ gm_319) ⟨Nat.le_of_ble_eq_true rfl, Nat.le_of_ble_eq_true rfl⟩) (fl_preV hK hP hN (mc_lt rfl (by decide)) (mc_sh0 rfl) rfl) rfl rfl hl.1 rfl (lv_room (Nat.le_of_ble_eq_true rfl)) dS_heapOf_16 ⟨Nat.le_refl 0, Nat.le_refl 0⟩) hS (fun H locs hP hS => ?_)
    refine fl_astoreq_n (lv' := [(2, va_rf (Option.map ad r5)), (0, .ref (ad 0)), (1, .int a0)]) hx hb dS_heapOf_19 rfl hl (by decide) rfl (fun ls hl => ?_)
    refine fl_aloadq_n hx hb dS_heapOf_20 rfl (lv_at hl 0 rfl) ?_
    rcases r5 with _ | q8
    · replace h := fl_cs_none h
      refine lv_ifnonnullN hx hb dS_heapOf_21 ?_
      refine lv_iconst (v := (-1)) hx hb dS_heapOf_24 (by decide) ?_
      refine lv_goto (tgt := 32) hx hb dS_heapOf_25 (by decide) ?_
      exact fl_iret hx hb hr hlocks hP hS h dS_heapOf_32
    · replace h := fl_cs_some h
      refine lv_ifnonnull (tgt := 28) hx hb dS_heapOf_21 (by decide) ?_
      refine lv_aload_n hx hb dS_heapOf_28 rfl (lv_at hl 0 rfl) ?_
      replace h := fl_ck_some h
      obtain ⟨hk9, h⟩ := h
      refine mc_getN4 (v := .int (g6 q8 1)) hx hb hts mc_in4 hown hK hP (q := q8) hk9 1 (by decide) (hN.use _ nm_1) rfl dS_heapOf_29 ?_
      exact fl_iret hx hb hr hlocks hP hS h dS_heapOf_32
  · replace h := fl_pos c4 h
    refine lv_bipush (v := (-2)) hx hb dS_heapOf_11 (by decide) ?_
    exact fl_iret hx hb hr hlocks hP hS h dS_heapOf_13
def yS_closeLarge : MethodName := ⟨"MeshedSpans", "closeLarge", "(I)V"⟩
def wS_closeLarge : List Cond := .code yS_closeLarge prog_1_method_27_code 5 none :: gw
theorem kS_closeLarge {R : Room} {s : State} {args : Array Value} {own : String} {ix : Nat} (hts : ∀ w ∈ gw, w.before args s = true) (hl : (Cond.methodLink own ix yS_closeLarge).before args s = true) (hR : 3 + 1 ≤ R.frames ∧ 8 + (5 + 11) + 63 ≤ R.locals) : CallW R s args own "MeshedSpans" ix yS_closeLarge prog_1_method_27_code 5 none wS_closeLarge { frames := 3, cells := 0, slots := 0, locals := 63 } 0 0 1 := ⟨callB_of (rm := { frames := 3, cells := 0, slots := 0, locals := 63 }) 1 hts (gw_c (ct := .code yS_closeLarge prog_1_method_27_code 5 none) gm_335) rfl rfl rfl (hts _ gm_41) hl (by decide +kernel) hR, hts _ gm_334, hts _ gm_10⟩
theorem dS_closeLarge_0 : decode prog_1_method_27_code 0 = .ok (.iload_n 1, 1) := by decide +kernel
theorem dS_closeLarge_1 : decode prog_1_method_27_code 1 = .ok (.bipush 16, 2) := by decide +kernel
theorem dS_closeLarge_3 : decode prog_1_method_27_code 3 = .ok (.idiv, 1) := by decide +kernel
theorem dS_closeLarge_4 : decode prog_1_method_27_code 4 = .ok (.istore_n 2, 1) := by decide +kernel
theorem dS_closeLarge_5 : decode prog_1_method_27_code 5 = .ok (.aload_n 0, 1) := by decide +kernel
theorem dS_closeLarge_6 : decode prog_1_method_27_code 6 = .ok (.getfield 28, 3) := by decide +kernel
theorem dS_closeLarge_9 : decode prog_1_method_27_code 9 = .ok (.iload_n 1, 1) := by decide +kernel
theorem dS_closeLarge_10 : decode prog_1_method_27_code 10 = .ok (.invokevirtual 117, 3) := by decide +kernel
theorem dS_closeLarge_13 : decode prog_1_method_27_code 13 = .ok (.bipush 16, 2) := by decide +kernel
theorem dS_closeLarge_15 : decode prog_1_method_27_code 15 = .ok (.idiv, 1) := by decide +kernel
theorem dS_closeLarge_16 : decode prog_1_method_27_code 16 = .ok (.istore_n 3, 1) := by decide +kernel
theorem dS_closeLarge_17 : decode prog_1_method_27_code 17 = .ok (.iconst 0, 1) := by decide +kernel
theorem dS_closeLarge_18 : decode prog_1_method_27_code 18 = .ok (.istore 4, 2) := by decide +kernel
theorem dS_closeLarge_20 : decode prog_1_method_27_code 20 = .ok (.iload 4, 2) := by decide +kernel
theorem dS_closeLarge_22 : decode prog_1_method_27_code 22 = .ok (.iload_n 3, 1) := by decide +kernel
theorem dS_closeLarge_23 : decode prog_1_method_27_code 23 = .ok (.if_icmp .ge 20, 3) := by decide +kernel
theorem dS_closeLarge_26 : decode prog_1_method_27_code 26 = .ok (.aload_n 0, 1) := by decide +kernel
theorem dS_closeLarge_27 : decode prog_1_method_27_code 27 = .ok (.getfield 21, 3) := by decide +kernel
theorem dS_closeLarge_30 : decode prog_1_method_27_code 30 = .ok (.iload_n 2, 1) := by decide +kernel
theorem dS_closeLarge_31 : decode prog_1_method_27_code 31 = .ok (.iload 4, 2) := by decide +kernel
theorem dS_closeLarge_33 : decode prog_1_method_27_code 33 = .ok (.iadd, 1) := by decide +kernel
theorem dS_closeLarge_34 : decode prog_1_method_27_code 34 = .ok (.invokevirtual 171, 3) := by decide +kernel
theorem dS_closeLarge_37 : decode prog_1_method_27_code 37 = .ok (.iinc 4 1, 3) := by decide +kernel
theorem dS_closeLarge_40 : decode prog_1_method_27_code 40 = .ok (.goto (-20), 3) := by decide +kernel
theorem dS_closeLarge_43 : decode prog_1_method_27_code 43 = .ok (.return_, 1) := by decide +kernel
def fS_closeLarge_B20 (rec : Int32 → Int32 → Int32 → Int32 → fl_G → Option ((Int32) × fl_G)) (v4 : Int32) (v3 : Int32) (v2 : Int32) (v1 : Int32) (g : fl_G) : Option ((Int32) × fl_G) :=
  if v3 ≤ v4 then (some (v4, g)) else (fl_bd (fP_unmap (v2 + v4) g) (fun r6 g7 => rec (v4 + 1) v3 v2 v1 g7))
def fS_closeLarge_L20 : Nat → Int32 → Int32 → Int32 → Int32 → fl_G → Option ((Int32) × fl_G)
  | 0, _, _, _, _, _ => none
  | n + 1, v4, v3, v2, v1, g => fS_closeLarge_B20 (fS_closeLarge_L20 n) v4 v3 v2 v1 g
def fS_closeLarge (a0 : Int32) (g : fl_G) : Option (Unit × fl_G) :=
  fl_bd (fB_wordsAt a0 g) (fun r1 g2 => fl_bd (fS_closeLarge_L20 1000 0 (r1 / 16) (a0 / 16) a0 g2) (fun r9 g10 => some ((), g10)))
set_option maxHeartbeats 4000000 in
set_option maxRecDepth 100000 in
theorem cS_closeLarge (l : Launch) (dC : Nat → ClassId) (dI : Nat → Nat → Nat) (ca : Nat → ClassId) (ad : Nat → Nat) (hI : fl_inj 32 ad) (a0 : Int32) {g g1 : fl_G} {r : Unit} (h : fS_closeLarge a0 g = some (r, g1)) : Met l yS_closeLarge wS_closeLarge ({ frames := 3, cells := 0, slots := 0, locals := 63 }) (va_Pc [.ref (ad 0), .int a0] (fl_Pre (dC, dI) al_cl 32 (mc_sh ca ad) ad (mc_ty ca) mc_ns g)) (fl_QV (dC, dI) al_cl 32 (mc_sh ca ad) ad g1) 0 0 (fl_A 32 ad) := by
  refine fl_of (cc := prog_1_method_27_code) (maxL := 5) (ret := none) (by decide) rfl (Nat.le_of_ble_eq_true rfl) ?_
  intro p e s m below meth c ls hx hb hr hml hts hown hlocks hP hK hN hl
  have hown : s.vm.findClass "MeshedSpans" = some m.cls := hown
  have hS : va_S (fl_A 32 ad) s.heap s.heap [] := va_S.rf
  have hl : lv_has ls 5 [(0, .ref (ad 0)), (1, .int a0)] := hl
  unfold fS_closeLarge at h
  refine lv_iload_n hx hb dS_closeLarge_0 rfl (lv_at hl 1 rfl) ?_
  refine lv_bipush (v := 16) hx hb dS_closeLarge_1 (by decide) ?_
  refine lv_idiv hx hb dS_closeLarge_3 (by decide) ?_
  refine lv_istore_n (lv' := [(2, .int (a0 / 16)), (0, .ref (ad 0)), (1, .int a0)]) hx hb dS_closeLarge_4 rfl hl (by decide) rfl (fun ls hl => ?_)
  refine lv_aload_n hx hb dS_closeLarge_5 rfl (lv_at hl 1 rfl) ?_
  refine mc_get0 (v := .ref (ad 6)) hx hb hts mc_in0 hown hK hP (q := 0) rfl 2 (by decide) (hts _ gm_142) rfl dS_closeLarge_6 ?_
  refine lv_iload_n hx hb dS_closeLarge_9 rfl (lv_at hl 2 rfl) ?_
  replace h := fl_bd_some h
  obtain ⟨r1, g2, hc3, h⟩ := h
  refine fl_calli (va_runV (As := [.int a0]) (rest := []) ⟨hx, hb, hml, hown, hts⟩ (cB_wordsAt l dC dI ca ad hI a0 hc3) (kB_wordsAt hts (hts _ gm_336) ⟨Nat.le_of_ble_eq_true rfl, Nat.le_of_ble_eq_true rfl⟩) (fl_preV hK hP hN (mc_lt rfl (by decide)) (mc_sh3 rfl) rfl) rfl rfl hl.1 rfl (lv_room (Nat.le_of_ble_eq_true rfl)) dS_closeLarge_10 ⟨Nat.le_refl 0, Nat.le_refl 0⟩) hS (fun H locs hP hS => ?_)
  refine lv_bipush (v := 16) hx hb dS_closeLarge_13 (by decide) ?_
  refine lv_idiv hx hb dS_closeLarge_15 (by decide) ?_
  refine lv_istore_n (lv' := [(3, .int (r1 / 16)), (2, .int (a0 / 16)), (0, .ref (ad 0)), (1, .int a0)]) hx hb dS_closeLarge_16 rfl hl (by decide) rfl (fun ls hl => ?_)
  refine lv_iconst (v := 0) hx hb dS_closeLarge_17 (by decide) ?_
  refine lv_istore (lv' := [(4, .int 0), (3, .int (r1 / 16)), (2, .int (a0 / 16)), (0, .ref (ad 0)), (1, .int a0)]) hx hb dS_closeLarge_18 hl (by decide) rfl (fun ls hl => ?_)
  have loop4 : ∀ (n : Nat) (v4 : Int32) (v3 : Int32) (v2 : Int32) (v1 : Int32) (g : fl_G) (z : ((Int32) × fl_G)) (H : Heap) (locs : List Loc) (ls : Array Slot), fS_closeLarge_L20 n v4 v3 v2 v1 g = some z → va_P (dC, dI) al_cl (fl_ws 32 (mc_sh ca ad) ad g) H → va_S (fl_A 32 ad) s.heap H locs → lv_has ls 5 [(4, .int v4), (3, .int v3), (2, .int v2), (0, .ref (ad 0)), (1, .int v1)] → (∀ (H : Heap) (locs : List Loc) (ls : Array Slot), va_P (dC, dI) al_cl (fl_ws 32 (mc_sh ca ad) ad z.2) H → va_S (fl_A 32 ad) s.heap H locs → lv_has ls 5 [(4, .int z.1), (3, .int v3), (2, .int v2), (0, .ref (ad 0)), (1, .int v1)] → W p l e ({ frames := 3, cells := 0, slots := 0, locals := 63 }) s m ([.ref (ad 0), .int a0] : List Value).toArray below meth c H locs 0 0 (MQ below (fl_QV (dC, dI) al_cl 32 (mc_sh ca ad) ad g1) ([.ref (ad 0), .int a0] : List Value).toArray s 0 0 (fl_A 32 ad)) (F0 m 43 ls [])) → W p l e ({ frames := 3, cells := 0, slots := 0, locals := 63 }) s m ([.ref (ad 0), .int a0] : List Value).toArray below meth c H locs 0 0 (MQ below (fl_QV (dC, dI) al_cl 32 (mc_sh ca ad) ad g1) ([.ref (ad 0), .int a0] : List Value).toArray s 0 0 (fl_A 32 ad)) (F0 m 20 ls []) := by
    intro n
    clear h hP hS hl
    induction n with
    | zero => intro v4 v3 v2 v1 g z H locs ls h; cases h
    | succ n ih4 =>
      intro v4 v3 v2 v1 g z H locs ls h hP hS hl K4
      have h : fS_closeLarge_B20 (fS_closeLarge_L20 n) v4 v3 v2 v1 g = some z := h
      unfold fS_closeLarge_B20 at h
      refine lv_iload hx hb dS_closeLarge_20 (lv_at hl 0 rfl) ?_
      refine lv_iload_n hx hb dS_closeLarge_22 rfl (lv_at hl 1 rfl) ?_
      refine lv_icmp_ge (tgt := 43) hx hb dS_closeLarge_23 (by decide) (fun c5 => ?_) (fun c5 => ?_)
      · replace h := fl_pos c5 h
        cases h
        exact K4 _ _ _ hP hS (lv_sub hl [0, 1, 2, 3, 4] rfl)
      · replace h := fl_neg c5 h
        refine lv_aload_n hx hb dS_closeLarge_26 rfl (lv_at hl 3 rfl) ?_
        refine mc_get0 (v := .ref (ad 2)) hx hb hts mc_in0 hown hK hP (q := 0) rfl 1 (by decide) (hts _ gm_141) rfl dS_closeLarge_27 ?_
        refine lv_iload_n hx hb dS_closeLarge_30 rfl (lv_at hl 2 rfl) ?_
        refine lv_iload hx hb dS_closeLarge_31 (lv_at hl 0 rfl) ?_
        refine lv_iadd hx hb dS_closeLarge_33 ?_
        replace h := fl_bd_some h
        obtain ⟨r6, g7, hc8, h⟩ := h
        refine fl_callv (va_runV (As := [.int (v2 + v4)]) (rest := []) ⟨hx, hb, hml, hown, hts⟩ (cP_unmap l dC dI ca ad hI (v2 + v4) hc8) (kP_unmap hts (hts _ gm_337) ⟨Nat.le_of_ble_eq_true rfl, Nat.le_of_ble_eq_true rfl⟩) (fl_preV hK hP hN (mc_lt rfl (by decide)) (mc_sh2 rfl) rfl) rfl rfl hl.1 rfl (lv_room (Nat.le_of_ble_eq_true rfl)) dS_closeLarge_34 ⟨Nat.le_refl 0, Nat.le_refl 0⟩) hS (fun H locs hP hS => ?_)
        refine lv_iinc (v := (v4 + 1)) (lv' := [(4, .int (v4 + 1)), (3, .int v3), (2, .int v2), (0, .ref (ad 0)), (1, .int v1)]) hx hb dS_closeLarge_37 hl (k := 0) rfl rfl (by decide) rfl (fun ls hl => ?_)
        refine lv_goto (tgt := 20) hx hb dS_closeLarge_40 (by decide) ?_
        exact ih4 (v4 + 1) v3 v2 v1 _ _ _ _ _ h hP hS (lv_sub hl [0, 1, 2, 3, 4] rfl) K4
  obtain ⟨r9, g10, hc11, h⟩ := fl_bd_some h
  refine loop4 1000 0 (r1 / 16) (a0 / 16) a0 _ (r9, g10) _ _ _ hc11 hP hS (lv_sub hl [0, 1, 2, 3, 4] rfl) (fun H locs ls hP hS hl => ?_)
  have hP : va_P (dC, dI) al_cl (fl_ws 32 (mc_sh ca ad) ad g10) H := hP
  have hl : lv_has ls 5 [(4, .int r9), (3, .int (r1 / 16)), (2, .int (a0 / 16)), (0, .ref (ad 0)), (1, .int a0)] := hl
  exact fl_vret hx hb hr hlocks hP hS h dS_closeLarge_43
def yS_makeLarge : MethodName := ⟨"MeshedSpans", "makeLarge", "(I)I"⟩
def wS_makeLarge : List Cond := .code yS_makeLarge prog_1_method_26_code 4 (some .int) :: gw
theorem kS_makeLarge {R : Room} {s : State} {args : Array Value} {own : String} {ix : Nat} (hts : ∀ w ∈ gw, w.before args s = true) (hl : (Cond.methodLink own ix yS_makeLarge).before args s = true) (hR : 3 + 1 ≤ R.frames ∧ 8 + (4 + 11) + 64 ≤ R.locals) : CallW R s args own "MeshedSpans" ix yS_makeLarge prog_1_method_26_code 4 (some .int) wS_makeLarge { frames := 3, cells := 0, slots := 0, locals := 64 } 0 0 1 := ⟨callB_of (rm := { frames := 3, cells := 0, slots := 0, locals := 64 }) 1 hts (gw_c (ct := .code yS_makeLarge prog_1_method_26_code 4 (some .int)) gm_179) rfl rfl rfl (hts _ gm_41) hl (by decide +kernel) hR, hts _ gm_178, hts _ gm_0⟩
theorem dS_makeLarge_0 : decode prog_1_method_26_code 0 = .ok (.aload_n 0, 1) := by decide +kernel
theorem dS_makeLarge_1 : decode prog_1_method_26_code 1 = .ok (.getfield 21, 3) := by decide +kernel
theorem dS_makeLarge_4 : decode prog_1_method_26_code 4 = .ok (.iload_n 1, 1) := by decide +kernel
theorem dS_makeLarge_5 : decode prog_1_method_26_code 5 = .ok (.invokevirtual 159, 3) := by decide +kernel
theorem dS_makeLarge_8 : decode prog_1_method_26_code 8 = .ok (.istore_n 2, 1) := by decide +kernel
theorem dS_makeLarge_9 : decode prog_1_method_26_code 9 = .ok (.iload_n 2, 1) := by decide +kernel
theorem dS_makeLarge_10 : decode prog_1_method_26_code 10 = .ok (.iconst (-1), 1) := by decide +kernel
theorem dS_makeLarge_11 : decode prog_1_method_26_code 11 = .ok (.if_icmp .eq 14, 3) := by decide +kernel
theorem dS_makeLarge_14 : decode prog_1_method_26_code 14 = .ok (.aload_n 0, 1) := by decide +kernel
theorem dS_makeLarge_15 : decode prog_1_method_26_code 15 = .ok (.getfield 21, 3) := by decide +kernel
theorem dS_makeLarge_18 : decode prog_1_method_26_code 18 = .ok (.invokevirtual 120, 3) := by decide +kernel
theorem dS_makeLarge_21 : decode prog_1_method_26_code 21 = .ok (.iload_n 1, 1) := by decide +kernel
theorem dS_makeLarge_22 : decode prog_1_method_26_code 22 = .ok (.if_icmp .ge 5, 3) := by decide +kernel
theorem dS_makeLarge_25 : decode prog_1_method_26_code 25 = .ok (.iconst (-1), 1) := by decide +kernel
theorem dS_makeLarge_26 : decode prog_1_method_26_code 26 = .ok (.ireturn, 1) := by decide +kernel
theorem dS_makeLarge_27 : decode prog_1_method_26_code 27 = .ok (.iconst 0, 1) := by decide +kernel
theorem dS_makeLarge_28 : decode prog_1_method_26_code 28 = .ok (.istore_n 3, 1) := by decide +kernel
theorem dS_makeLarge_29 : decode prog_1_method_26_code 29 = .ok (.iload_n 3, 1) := by decide +kernel
theorem dS_makeLarge_30 : decode prog_1_method_26_code 30 = .ok (.iload_n 1, 1) := by decide +kernel
theorem dS_makeLarge_31 : decode prog_1_method_26_code 31 = .ok (.if_icmp .ge 26, 3) := by decide +kernel
theorem dS_makeLarge_34 : decode prog_1_method_26_code 34 = .ok (.aload_n 0, 1) := by decide +kernel
theorem dS_makeLarge_35 : decode prog_1_method_26_code 35 = .ok (.getfield 21, 3) := by decide +kernel
theorem dS_makeLarge_38 : decode prog_1_method_26_code 38 = .ok (.iload_n 2, 1) := by decide +kernel
theorem dS_makeLarge_39 : decode prog_1_method_26_code 39 = .ok (.iload_n 3, 1) := by decide +kernel
theorem dS_makeLarge_40 : decode prog_1_method_26_code 40 = .ok (.iadd, 1) := by decide +kernel
theorem dS_makeLarge_41 : decode prog_1_method_26_code 41 = .ok (.aload_n 0, 1) := by decide +kernel
theorem dS_makeLarge_42 : decode prog_1_method_26_code 42 = .ok (.getfield 21, 3) := by decide +kernel
theorem dS_makeLarge_45 : decode prog_1_method_26_code 45 = .ok (.invokevirtual 162, 3) := by decide +kernel
theorem dS_makeLarge_48 : decode prog_1_method_26_code 48 = .ok (.invokevirtual 165, 3) := by decide +kernel
theorem dS_makeLarge_51 : decode prog_1_method_26_code 51 = .ok (.iinc 3 1, 3) := by decide +kernel
theorem dS_makeLarge_54 : decode prog_1_method_26_code 54 = .ok (.goto (-25), 3) := by decide +kernel
theorem dS_makeLarge_57 : decode prog_1_method_26_code 57 = .ok (.iload_n 2, 1) := by decide +kernel
theorem dS_makeLarge_58 : decode prog_1_method_26_code 58 = .ok (.bipush 16, 2) := by decide +kernel
theorem dS_makeLarge_60 : decode prog_1_method_26_code 60 = .ok (.imul, 1) := by decide +kernel
theorem dS_makeLarge_61 : decode prog_1_method_26_code 61 = .ok (.istore_n 3, 1) := by decide +kernel
theorem dS_makeLarge_62 : decode prog_1_method_26_code 62 = .ok (.aload_n 0, 1) := by decide +kernel
theorem dS_makeLarge_63 : decode prog_1_method_26_code 63 = .ok (.getfield 28, 3) := by decide +kernel
theorem dS_makeLarge_66 : decode prog_1_method_26_code 66 = .ok (.iload_n 3, 1) := by decide +kernel
theorem dS_makeLarge_67 : decode prog_1_method_26_code 67 = .ok (.iload_n 1, 1) := by decide +kernel
theorem dS_makeLarge_68 : decode prog_1_method_26_code 68 = .ok (.bipush 16, 2) := by decide +kernel
theorem dS_makeLarge_70 : decode prog_1_method_26_code 70 = .ok (.imul, 1) := by decide +kernel
theorem dS_makeLarge_71 : decode prog_1_method_26_code 71 = .ok (.invokevirtual 168, 3) := by decide +kernel
theorem dS_makeLarge_74 : decode prog_1_method_26_code 74 = .ok (.iload_n 3, 1) := by decide +kernel
theorem dS_makeLarge_75 : decode prog_1_method_26_code 75 = .ok (.ireturn, 1) := by decide +kernel
def fS_makeLarge_B29 (rec : Int32 → Int32 → Int32 → fl_G → Option ((Int32) × fl_G)) (v3 : Int32) (v2 : Int32) (v1 : Int32) (g : fl_G) : Option ((Int32) × fl_G) :=
  if v1 ≤ v3 then (some (v3, g)) else (fl_bd (fP_lowestFree g) (fun r11 g12 => fl_bd (fP_open (v2 + v3) r11 g12) (fun r14 g15 => rec (v3 + 1) v2 v1 g15)))
def fS_makeLarge_L29 : Nat → Int32 → Int32 → Int32 → fl_G → Option ((Int32) × fl_G)
  | 0, _, _, _, _ => none
  | n + 1, v3, v2, v1, g => fS_makeLarge_B29 (fS_makeLarge_L29 n) v3 v2 v1 g
def fS_makeLarge (a0 : Int32) (g : fl_G) : Option (Int32 × fl_G) :=
  fl_bd (fP_lowestUnmappedRow a0 g) (fun r1 g2 => if r1 = (-1) then (some ((-1), g2)) else (fl_bd (fP_freeOnes g2) (fun r5 g6 => if a0 ≤ r5 then (fl_bd (fS_makeLarge_L29 1000 0 r1 a0 g6) (fun r17 g18 => fl_bd (fB_add (r1 * 16) (a0 * 16) g18) (fun r20 g21 => some ((r1 * 16), g21)))) else (some ((-1), g6)))))
set_option maxHeartbeats 4000000 in
set_option maxRecDepth 100000 in
theorem cS_makeLarge (l : Launch) (dC : Nat → ClassId) (dI : Nat → Nat → Nat) (ca : Nat → ClassId) (ad : Nat → Nat) (hI : fl_inj 32 ad) (a0 : Int32) {g g1 : fl_G} {r : Int32} (h : fS_makeLarge a0 g = some (r, g1)) : Met l yS_makeLarge wS_makeLarge ({ frames := 3, cells := 0, slots := 0, locals := 64 }) (va_Pc [.ref (ad 0), .int a0] (fl_Pre (dC, dI) al_cl 32 (mc_sh ca ad) ad (mc_ty ca) mc_ns g)) (fl_QI (dC, dI) al_cl 32 (mc_sh ca ad) ad r g1) 0 0 (fl_A 32 ad) := by
  refine fl_of (cc := prog_1_method_26_code) (maxL := 4) (ret := (some .int)) (by decide) rfl (Nat.le_of_ble_eq_true rfl) ?_
  intro p e s m below meth c ls hx hb hr hml hts hown hlocks hP hK hN hl
  have hown : s.vm.findClass "MeshedSpans" = some m.cls := hown
  have hS : va_S (fl_A 32 ad) s.heap s.heap [] := va_S.rf
  have hl : lv_has ls 4 [(0, .ref (ad 0)), (1, .int a0)] := hl
  unfold fS_makeLarge at h
  refine lv_aload_n hx hb dS_makeLarge_0 rfl (lv_at hl 0 rfl) ?_
  refine mc_get0 (v := .ref (ad 2)) hx hb hts mc_in0 hown hK hP (q := 0) rfl 1 (by decide) (hts _ gm_141) rfl dS_makeLarge_1 ?_
  refine lv_iload_n hx hb dS_makeLarge_4 rfl (lv_at hl 1 rfl) ?_
  replace h := fl_bd_some h
  obtain ⟨r1, g2, hc3, h⟩ := h
  refine fl_calli (va_runV (As := [.int a0]) (rest := []) ⟨hx, hb, hml, hown, hts⟩ (cP_lowestUnmappedRow l dC dI ca ad hI a0 hc3) (kP_lowestUnmappedRow hts (hts _ gm_180) ⟨Nat.le_of_ble_eq_true rfl, Nat.le_of_ble_eq_true rfl⟩) (fl_preV hK hP hN (mc_lt rfl (by decide)) (mc_sh2 rfl) rfl) rfl rfl hl.1 rfl (lv_room (Nat.le_of_ble_eq_true rfl)) dS_makeLarge_5 ⟨Nat.le_refl 0, Nat.le_refl 0⟩) hS (fun H locs hP hS => ?_)
  refine lv_istore_n (lv' := [(2, .int r1), (0, .ref (ad 0)), (1, .int a0)]) hx hb dS_makeLarge_8 rfl hl (by decide) rfl (fun ls hl => ?_)
  refine lv_iload_n hx hb dS_makeLarge_9 rfl (lv_at hl 0 rfl) ?_
  refine lv_iconst (v := (-1)) hx hb dS_makeLarge_10 (by decide) ?_
  refine lv_icmp_eq (tgt := 25) hx hb dS_makeLarge_11 (by decide) (fun c4 => ?_) (fun c4 => ?_)
  · replace h := fl_pos c4 h
    refine lv_iconst (v := (-1)) hx hb dS_makeLarge_25 (by decide) ?_
    exact fl_iret hx hb hr hlocks hP hS h dS_makeLarge_26
  · replace h := fl_neg c4 h
    refine lv_aload_n hx hb dS_makeLarge_14 rfl (lv_at hl 1 rfl) ?_
    refine mc_get0 (v := .ref (ad 2)) hx hb hts mc_in0 hown hK hP (q := 0) rfl 1 (by decide) (hts _ gm_141) rfl dS_makeLarge_15 ?_
    replace h := fl_bd_some h
    obtain ⟨r5, g6, hc7, h⟩ := h
    refine fl_calli (va_runV (As := []) (rest := []) ⟨hx, hb, hml, hown, hts⟩ (cP_freeOnes l dC dI ca ad hI  hc7) (kP_freeOnes hts (hts _ gm_184) ⟨Nat.le_of_ble_eq_true rfl, Nat.le_of_ble_eq_true rfl⟩) (fl_preV hK hP hN (mc_lt rfl (by decide)) (mc_sh2 rfl) rfl) rfl rfl hl.1 rfl (lv_room (Nat.le_of_ble_eq_true rfl)) dS_makeLarge_18 ⟨Nat.le_refl 0, Nat.le_refl 0⟩) hS (fun H locs hP hS => ?_)
    refine lv_iload_n hx hb dS_makeLarge_21 rfl (lv_at hl 2 rfl) ?_
    refine lv_icmp_ge (tgt := 27) hx hb dS_makeLarge_22 (by decide) (fun c8 => ?_) (fun c8 => ?_)
    · replace h := fl_pos c8 h
      refine lv_iconst (v := 0) hx hb dS_makeLarge_27 (by decide) ?_
      refine lv_istore_n (lv' := [(3, .int 0), (2, .int r1), (0, .ref (ad 0)), (1, .int a0)]) hx hb dS_makeLarge_28 rfl hl (by decide) rfl (fun ls hl => ?_)
      have loop9 : ∀ (n : Nat) (v3 : Int32) (v2 : Int32) (v1 : Int32) (g : fl_G) (z : ((Int32) × fl_G)) (H : Heap) (locs : List Loc) (ls : Array Slot), fS_makeLarge_L29 n v3 v2 v1 g = some z → va_P (dC, dI) al_cl (fl_ws 32 (mc_sh ca ad) ad g) H → va_S (fl_A 32 ad) s.heap H locs → lv_has ls 4 [(3, .int v3), (2, .int v2), (0, .ref (ad 0)), (1, .int v1)] → (∀ (H : Heap) (locs : List Loc) (ls : Array Slot), va_P (dC, dI) al_cl (fl_ws 32 (mc_sh ca ad) ad z.2) H → va_S (fl_A 32 ad) s.heap H locs → lv_has ls 4 [(3, .int z.1), (2, .int v2), (0, .ref (ad 0)), (1, .int v1)] → W p l e ({ frames := 3, cells := 0, slots := 0, locals := 64 }) s m ([.ref (ad 0), .int a0] : List Value).toArray below meth c H locs 0 0 (MQ below (fl_QI (dC, dI) al_cl 32 (mc_sh ca ad) ad r g1) ([.ref (ad 0), .int a0] : List Value).toArray s 0 0 (fl_A 32 ad)) (F0 m 57 ls [])) → W p l e ({ frames := 3, cells := 0, slots := 0, locals := 64 }) s m ([.ref (ad 0), .int a0] : List Value).toArray below meth c H locs 0 0 (MQ below (fl_QI (dC, dI) al_cl 32 (mc_sh ca ad) ad r g1) ([.ref (ad 0), .int a0] : List Value).toArray s 0 0 (fl_A 32 ad)) (F0 m 29 ls []) := by
        intro n
        clear h hP hS hl
        induction n with
        | zero => intro v3 v2 v1 g z H locs ls h; cases h
        | succ n ih9 =>
          intro v3 v2 v1 g z H locs ls h hP hS hl K9
          have h : fS_makeLarge_B29 (fS_makeLarge_L29 n) v3 v2 v1 g = some z := h
          unfold fS_makeLarge_B29 at h
          refine lv_iload_n hx hb dS_makeLarge_29 rfl (lv_at hl 0 rfl) ?_
          refine lv_iload_n hx hb dS_makeLarge_30 rfl (lv_at hl 3 rfl) ?_
          refine lv_icmp_ge (tgt := 57) hx hb dS_makeLarge_31 (by decide) (fun c10 => ?_) (fun c10 => ?_)
          · replace h := fl_pos c10 h
            cases h
            exact K9 _ _ _ hP hS (lv_sub hl [0, 1, 2, 3] rfl)
          · replace h := fl_neg c10 h
            refine lv_aload_n hx hb dS_makeLarge_34 rfl (lv_at hl 2 rfl) ?_
            refine mc_get0 (v := .ref (ad 2)) hx hb hts mc_in0 hown hK hP (q := 0) rfl 1 (by decide) (hts _ gm_141) rfl dS_makeLarge_35 ?_
            refine lv_iload_n hx hb dS_makeLarge_38 rfl (lv_at hl 1 rfl) ?_
            refine lv_iload_n hx hb dS_makeLarge_39 rfl (lv_at hl 0 rfl) ?_
            refine lv_iadd hx hb dS_makeLarge_40 ?_
            refine lv_aload_n hx hb dS_makeLarge_41 rfl (lv_at hl 2 rfl) ?_
            refine mc_get0 (v := .ref (ad 2)) hx hb hts mc_in0 hown hK hP (q := 0) rfl 1 (by decide) (hts _ gm_141) rfl dS_makeLarge_42 ?_
            replace h := fl_bd_some h
            obtain ⟨r11, g12, hc13, h⟩ := h
            refine fl_calli (va_runV (As := []) (rest := [.int (v2 + v3), .ref (ad 2)]) ⟨hx, hb, hml, hown, hts⟩ (cP_lowestFree l dC dI ca ad hI  hc13) (kP_lowestFree hts (hts _ gm_188) ⟨Nat.le_of_ble_eq_true rfl, Nat.le_of_ble_eq_true rfl⟩) (fl_preV hK hP hN (mc_lt rfl (by decide)) (mc_sh2 rfl) rfl) rfl rfl hl.1 rfl (lv_room (Nat.le_of_ble_eq_true rfl)) dS_makeLarge_45 ⟨Nat.le_refl 0, Nat.le_refl 0⟩) hS (fun H locs hP hS => ?_)
            replace h := fl_bd_some h
            obtain ⟨r14, g15, hc16, h⟩ := h
            refine fl_callv (va_runV (As := [.int (v2 + v3), .int r11]) (rest := []) ⟨hx, hb, hml, hown, hts⟩ (cP_open l dC dI ca ad hI (v2 + v3) r11 hc16) (kP_open hts (hts _ gm_192) ⟨Nat.le_of_ble_eq_true rfl, Nat.le_of_ble_eq_true rfl⟩) (fl_preV hK hP hN (mc_lt rfl (by decide)) (mc_sh2 rfl) rfl) rfl rfl hl.1 rfl (lv_room (Nat.le_of_ble_eq_true rfl)) dS_makeLarge_48 ⟨Nat.le_refl 0, Nat.le_refl 0⟩) hS (fun H locs hP hS => ?_)
            refine lv_iinc (v := (v3 + 1)) (lv' := [(3, .int (v3 + 1)), (2, .int v2), (0, .ref (ad 0)), (1, .int v1)]) hx hb dS_makeLarge_51 hl (k := 0) rfl rfl (by decide) rfl (fun ls hl => ?_)
            refine lv_goto (tgt := 29) hx hb dS_makeLarge_54 (by decide) ?_
            exact ih9 (v3 + 1) v2 v1 _ _ _ _ _ h hP hS (lv_sub hl [0, 1, 2, 3] rfl) K9
      obtain ⟨r17, g18, hc19, h⟩ := fl_bd_some h
      refine loop9 1000 0 r1 a0 _ (r17, g18) _ _ _ hc19 hP hS (lv_sub hl [0, 1, 2, 3] rfl) (fun H locs ls hP hS hl => ?_)
      have hP : va_P (dC, dI) al_cl (fl_ws 32 (mc_sh ca ad) ad g18) H := hP
      have hl : lv_has ls 4 [(3, .int r17), (2, .int r1), (0, .ref (ad 0)), (1, .int a0)] := hl
      refine lv_iload_n hx hb dS_makeLarge_57 rfl (lv_at hl 1 rfl) ?_
      refine lv_bipush (v := 16) hx hb dS_makeLarge_58 (by decide) ?_
      refine lv_imul hx hb dS_makeLarge_60 ?_
      refine lv_istore_n (lv' := [(3, .int (r1 * 16)), (2, .int r1), (0, .ref (ad 0)), (1, .int a0)]) hx hb dS_makeLarge_61 rfl hl (by decide) rfl (fun ls hl => ?_)
      refine lv_aload_n hx hb dS_makeLarge_62 rfl (lv_at hl 2 rfl) ?_
      refine mc_get0 (v := .ref (ad 6)) hx hb hts mc_in0 hown hK hP (q := 0) rfl 2 (by decide) (hts _ gm_142) rfl dS_makeLarge_63 ?_
      refine lv_iload_n hx hb dS_makeLarge_66 rfl (lv_at hl 0 rfl) ?_
      refine lv_iload_n hx hb dS_makeLarge_67 rfl (lv_at hl 3 rfl) ?_
      refine lv_bipush (v := 16) hx hb dS_makeLarge_68 (by decide) ?_
      refine lv_imul hx hb dS_makeLarge_70 ?_
      replace h := fl_bd_some h
      obtain ⟨r20, g21, hc22, h⟩ := h
      refine fl_callv (va_runV (As := [.int (r1 * 16), .int (a0 * 16)]) (rest := []) ⟨hx, hb, hml, hown, hts⟩ (cB_add l dC dI ca ad hI (r1 * 16) (a0 * 16) hc22) (kB_add hts (hts _ gm_206) ⟨Nat.le_of_ble_eq_true rfl, Nat.le_of_ble_eq_true rfl⟩) (fl_preV hK hP hN (mc_lt rfl (by decide)) (mc_sh3 rfl) rfl) rfl rfl hl.1 rfl (lv_room (Nat.le_of_ble_eq_true rfl)) dS_makeLarge_71 ⟨Nat.le_refl 0, Nat.le_refl 0⟩) hS (fun H locs hP hS => ?_)
      refine lv_iload_n hx hb dS_makeLarge_74 rfl (lv_at hl 0 rfl) ?_
      exact fl_iret hx hb hr hlocks hP hS h dS_makeLarge_75
    · replace h := fl_neg c8 h
      refine lv_iconst (v := (-1)) hx hb dS_makeLarge_25 (by decide) ?_
      exact fl_iret hx hb hr hlocks hP hS h dS_makeLarge_26
