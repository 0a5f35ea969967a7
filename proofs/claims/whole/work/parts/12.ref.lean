def yR_freeSpans : MethodName := ⟨"MeshedSpansModel", "freeSpans", "()I"⟩
def wR_freeSpans : List Cond := .code yR_freeSpans prog_8_method_36_code 3 (some .int) :: gw
theorem kR_freeSpans {R : Room} {s : State} {args : Array Value} {own : String} {ix : Nat} (hts : ∀ w ∈ gw, w.before args s = true) (hl : (Cond.methodLink own ix yR_freeSpans).before args s = true) (hR : 0 + 1 ≤ R.frames ∧ 8 + (3 + 11) + 0 ≤ R.locals) : CallW R s args own "MeshedSpansModel" ix yR_freeSpans prog_8_method_36_code 3 (some .int) wR_freeSpans { frames := 0, cells := 0, slots := 0, locals := 0 } 0 0 0 := ⟨callB_of (rm := { frames := 0, cells := 0, slots := 0, locals := 0 }) 0 hts (gw_c (ct := .code yR_freeSpans prog_8_method_36_code 3 (some .int)) gm_571) rfl rfl rfl (hts _ gm_47) hl (by decide +kernel) hR, hts _ gm_569, hts _ gm_570⟩
theorem dR_freeSpans_0 : decode prog_8_method_36_code 0 = .ok (.iconst 0, 1) := by decide +kernel
theorem dR_freeSpans_1 : decode prog_8_method_36_code 1 = .ok (.istore_n 1, 1) := by decide +kernel
theorem dR_freeSpans_2 : decode prog_8_method_36_code 2 = .ok (.iconst 0, 1) := by decide +kernel
theorem dR_freeSpans_3 : decode prog_8_method_36_code 3 = .ok (.istore_n 2, 1) := by decide +kernel
theorem dR_freeSpans_4 : decode prog_8_method_36_code 4 = .ok (.iload_n 2, 1) := by decide +kernel
theorem dR_freeSpans_5 : decode prog_8_method_36_code 5 = .ok (.bipush 12, 2) := by decide +kernel
theorem dR_freeSpans_7 : decode prog_8_method_36_code 7 = .ok (.if_icmp .ge 26, 3) := by decide +kernel
theorem dR_freeSpans_10 : decode prog_8_method_36_code 10 = .ok (.aload_n 0, 1) := by decide +kernel
theorem dR_freeSpans_11 : decode prog_8_method_36_code 11 = .ok (.getfield 7, 3) := by decide +kernel
theorem dR_freeSpans_14 : decode prog_8_method_36_code 14 = .ok (.iload_n 2, 1) := by decide +kernel
theorem dR_freeSpans_15 : decode prog_8_method_36_code 15 = .ok (.iaload, 1) := by decide +kernel
theorem dR_freeSpans_16 : decode prog_8_method_36_code 16 = .ok (.ifCond .ne 9, 3) := by decide +kernel
theorem dR_freeSpans_19 : decode prog_8_method_36_code 19 = .ok (.iload_n 1, 1) := by decide +kernel
theorem dR_freeSpans_20 : decode prog_8_method_36_code 20 = .ok (.iconst 1, 1) := by decide +kernel
theorem dR_freeSpans_21 : decode prog_8_method_36_code 21 = .ok (.iadd, 1) := by decide +kernel
theorem dR_freeSpans_22 : decode prog_8_method_36_code 22 = .ok (.goto 4, 3) := by decide +kernel
theorem dR_freeSpans_25 : decode prog_8_method_36_code 25 = .ok (.iload_n 1, 1) := by decide +kernel
theorem dR_freeSpans_26 : decode prog_8_method_36_code 26 = .ok (.istore_n 1, 1) := by decide +kernel
theorem dR_freeSpans_27 : decode prog_8_method_36_code 27 = .ok (.iinc 2 1, 3) := by decide +kernel
theorem dR_freeSpans_30 : decode prog_8_method_36_code 30 = .ok (.goto (-26), 3) := by decide +kernel
theorem dR_freeSpans_33 : decode prog_8_method_36_code 33 = .ok (.iload_n 1, 1) := by decide +kernel
theorem dR_freeSpans_34 : decode prog_8_method_36_code 34 = .ok (.ireturn, 1) := by decide +kernel
def fR_freeSpans_B4 (rec : Int32 → Int32 → fl_G → Option ((Int32 × Int32) × fl_G)) (v2 : Int32) (v1 : Int32) (g : fl_G) : Option ((Int32 × Int32) × fl_G) :=
  if 12 ≤ v2 then (some ((v2, v1), g)) else (fl_ck (fl_in v2 12) (if (g 1 (Int32.toNatClampNeg v2)) = 0 then (rec (v2 + 1) (v1 + 1) g) else (rec (v2 + 1) v1 g)))
def fR_freeSpans_L4 : Nat → Int32 → Int32 → fl_G → Option ((Int32 × Int32) × fl_G)
  | 0, _, _, _ => none
  | n + 1, v2, v1, g => fR_freeSpans_B4 (fR_freeSpans_L4 n) v2 v1 g
def fR_freeSpans (g : fl_G) : Option (Int32 × fl_G) :=
  fl_bd (fR_freeSpans_L4 1000 0 0 g) (fun r5 g6 => some (r5.2, g6))
set_option maxHeartbeats 4000000 in
set_option maxRecDepth 100000 in
theorem cR_freeSpans (l : Launch) (dC : Nat → ClassId) (dI : Nat → Nat → Nat) (ca : Nat → ClassId) (ad : Nat → Nat) (hI : fl_inj 14 ad) {g g1 : fl_G} {r : Int32} (h : fR_freeSpans g = some (r, g1)) : Met l yR_freeSpans wR_freeSpans ({ frames := 0, cells := 0, slots := 0, locals := 0 }) (va_Pc [.ref (ad 0)] (fl_Pre (dC, dI) al_cl 14 (rf_sh ca ad) ad (rf_ty ca) rf_ns g)) (fl_QI (dC, dI) al_cl 14 (rf_sh ca ad) ad r g1) 0 0 (fl_A 14 ad) := by
  refine fl_of (cc := prog_8_method_36_code) (maxL := 3) (ret := (some .int)) (by decide) rfl (Nat.le_of_ble_eq_true rfl) ?_
  intro p e s m below meth c ls hx hb hr hml hts hown hlocks hP hK hN hl
  have hown : s.vm.findClass "MeshedSpansModel" = some m.cls := hown
  have hS : va_S (fl_A 14 ad) s.heap s.heap [] := va_S.rf
  have hl : lv_has ls 3 [(0, .ref (ad 0))] := hl
  unfold fR_freeSpans at h
  refine lv_iconst (v := 0) hx hb dR_freeSpans_0 (by decide) ?_
  refine lv_istore_n (lv' := [(1, .int 0), (0, .ref (ad 0))]) hx hb dR_freeSpans_1 rfl hl (by decide) rfl (fun ls hl => ?_)
  refine lv_iconst (v := 0) hx hb dR_freeSpans_2 (by decide) ?_
  refine lv_istore_n (lv' := [(2, .int 0), (1, .int 0), (0, .ref (ad 0))]) hx hb dR_freeSpans_3 rfl hl (by decide) rfl (fun ls hl => ?_)
  have loop1 : ∀ (n : Nat) (v2 : Int32) (v1 : Int32) (g : fl_G) (z : ((Int32 × Int32) × fl_G)) (H : Heap) (locs : List Loc) (ls : Array Slot), fR_freeSpans_L4 n v2 v1 g = some z → va_P (dC, dI) al_cl (fl_ws 14 (rf_sh ca ad) ad g) H → va_S (fl_A 14 ad) s.heap H locs → lv_has ls 3 [(2, .int v2), (1, .int v1), (0, .ref (ad 0))] → (∀ (H : Heap) (locs : List Loc) (ls : Array Slot), va_P (dC, dI) al_cl (fl_ws 14 (rf_sh ca ad) ad z.2) H → va_S (fl_A 14 ad) s.heap H locs → lv_has ls 3 [(2, .int z.1.1), (1, .int z.1.2), (0, .ref (ad 0))] → W p l e ({ frames := 0, cells := 0, slots := 0, locals := 0 }) s m ([.ref (ad 0)] : List Value).toArray below meth c H locs 0 0 (MQ below (fl_QI (dC, dI) al_cl 14 (rf_sh ca ad) ad r g1) ([.ref (ad 0)] : List Value).toArray s 0 0 (fl_A 14 ad)) (F0 m 33 ls [])) → W p l e ({ frames := 0, cells := 0, slots := 0, locals := 0 }) s m ([.ref (ad 0)] : List Value).toArray below meth c H locs 0 0 (MQ below (fl_QI (dC, dI) al_cl 14 (rf_sh ca ad) ad r g1) ([.ref (ad 0)] : List Value).toArray s 0 0 (fl_A 14 ad)) (F0 m 4 ls []) := by
    intro n
    clear h hP hS hl
    induction n with
    | zero => intro v2 v1 g z H locs ls h; cases h
    | succ n ih1 =>
      intro v2 v1 g z H locs ls h hP hS hl K1
      have h : fR_freeSpans_B4 (fR_freeSpans_L4 n) v2 v1 g = some z := h
      unfold fR_freeSpans_B4 at h
      refine lv_iload_n hx hb dR_freeSpans_4 rfl (lv_at hl 0 rfl) ?_
      refine lv_bipush (v := 12) hx hb dR_freeSpans_5 (by decide) ?_
      refine lv_icmp_ge (tgt := 33) hx hb dR_freeSpans_7 (by decide) (fun c2 => ?_) (fun c2 => ?_)
      · replace h := fl_pos c2 h
        cases h
        exact K1 _ _ _ hP hS (lv_sub hl [0, 1, 2] rfl)
      · replace h := fl_neg c2 h
        refine lv_aload_n hx hb dR_freeSpans_10 rfl (lv_at hl 2 rfl) ?_
        refine rf_get0 (v := .ref (ad 1)) hx hb hts rf_in0 hown hK hP (q := 0) rfl 1 (by decide) (hts _ gm_503) rfl dR_freeSpans_11 ?_
        refine lv_iload_n hx hb dR_freeSpans_14 rfl (lv_at hl 0 rfl) ?_
        replace h := fl_ck_some h
        obtain ⟨hi3, h⟩ := h
        refine rf_iald hx hb hK hP (q := 1) rfl hi3 dR_freeSpans_15 ?_
        refine lv_if_ne (tgt := 25) hx hb dR_freeSpans_16 (by decide) (fun c4 => ?_) (fun c4 => ?_)
        · replace h := fl_neg c4 h
          refine lv_iload_n hx hb dR_freeSpans_25 rfl (lv_at hl 1 rfl) ?_
          refine lv_istore_n (lv' := [(1, .int v1), (2, .int v2), (0, .ref (ad 0))]) hx hb dR_freeSpans_26 rfl hl (by decide) rfl (fun ls hl => ?_)
          refine lv_iinc (v := (v2 + 1)) (lv' := [(2, .int (v2 + 1)), (1, .int v1), (0, .ref (ad 0))]) hx hb dR_freeSpans_27 hl (k := 1) rfl rfl (by decide) rfl (fun ls hl => ?_)
          refine lv_goto (tgt := 4) hx hb dR_freeSpans_30 (by decide) ?_
          exact ih1 (v2 + 1) v1 _ _ _ _ _ h hP hS (lv_sub hl [0, 1, 2] rfl) K1
        · replace h := fl_pos c4 h
          refine lv_iload_n hx hb dR_freeSpans_19 rfl (lv_at hl 1 rfl) ?_
          refine lv_iconst (v := 1) hx hb dR_freeSpans_20 (by decide) ?_
          refine lv_iadd hx hb dR_freeSpans_21 ?_
          refine lv_goto (tgt := 26) hx hb dR_freeSpans_22 (by decide) ?_
          refine lv_istore_n (lv' := [(1, .int (v1 + 1)), (2, .int v2), (0, .ref (ad 0))]) hx hb dR_freeSpans_26 rfl hl (by decide) rfl (fun ls hl => ?_)
          refine lv_iinc (v := (v2 + 1)) (lv' := [(2, .int (v2 + 1)), (1, .int (v1 + 1)), (0, .ref (ad 0))]) hx hb dR_freeSpans_27 hl (k := 1) rfl rfl (by decide) rfl (fun ls hl => ?_)
          refine lv_goto (tgt := 4) hx hb dR_freeSpans_30 (by decide) ?_
          exact ih1 (v2 + 1) (v1 + 1) _ _ _ _ _ h hP hS (lv_sub hl [0, 1, 2] rfl) K1
  obtain ⟨r5, g6, hc7, h⟩ := fl_bd_some h
  refine loop1 1000 0 0 _ (r5, g6) _ _ _ hc7 hP hS (lv_sub hl [0, 1, 2] rfl) (fun H locs ls hP hS hl => ?_)
  have hP : va_P (dC, dI) al_cl (fl_ws 14 (rf_sh ca ad) ad g6) H := hP
  have hl : lv_has ls 3 [(2, .int r5.1), (1, .int r5.2), (0, .ref (ad 0))] := hl
  refine lv_iload_n hx hb dR_freeSpans_33 rfl (lv_at hl 1 rfl) ?_
  exact fl_iret hx hb hr hlocks hP hS h dR_freeSpans_34
def yR_small : MethodName := ⟨"MeshedSpansModel", "small", "(I)I"⟩
def wR_small : List Cond := .code yR_small prog_8_method_16_code 4 (some .int) :: gw
theorem kR_small {R : Room} {s : State} {args : Array Value} {own : String} {ix : Nat} (hts : ∀ w ∈ gw, w.before args s = true) (hl : (Cond.methodLink own ix yR_small).before args s = true) (hR : 3 + 1 ≤ R.frames ∧ 8 + (4 + 11) + 67 ≤ R.locals) : CallW R s args own "MeshedSpansModel" ix yR_small prog_8_method_16_code 4 (some .int) wR_small { frames := 3, cells := 0, slots := 0, locals := 67 } 0 0 1 := ⟨callB_of (rm := { frames := 3, cells := 0, slots := 0, locals := 67 }) 1 hts (gw_c (ct := .code yR_small prog_8_method_16_code 4 (some .int)) gm_580) rfl rfl rfl (hts _ gm_47) hl (by decide +kernel) hR, hts _ gm_579, hts _ gm_21⟩
theorem dR_small_0 : decode prog_8_method_16_code 0 = .ok (.aload_n 0, 1) := by decide +kernel
theorem dR_small_1 : decode prog_8_method_16_code 1 = .ok (.getfield 34, 3) := by decide +kernel
theorem dR_small_4 : decode prog_8_method_16_code 4 = .ok (.iload_n 1, 1) := by decide +kernel
theorem dR_small_5 : decode prog_8_method_16_code 5 = .ok (.iaload, 1) := by decide +kernel
theorem dR_small_6 : decode prog_8_method_16_code 6 = .ok (.iconst (-1), 1) := by decide +kernel
theorem dR_small_7 : decode prog_8_method_16_code 7 = .ok (.if_icmp .eq 12, 3) := by decide +kernel
theorem dR_small_10 : decode prog_8_method_16_code 10 = .ok (.aload_n 0, 1) := by decide +kernel
theorem dR_small_11 : decode prog_8_method_16_code 11 = .ok (.getfield 37, 3) := by decide +kernel
theorem dR_small_14 : decode prog_8_method_16_code 14 = .ok (.iload_n 1, 1) := by decide +kernel
theorem dR_small_15 : decode prog_8_method_16_code 15 = .ok (.iaload, 1) := by decide +kernel
theorem dR_small_16 : decode prog_8_method_16_code 16 = .ok (.ifCond .ne 49, 3) := by decide +kernel
theorem dR_small_19 : decode prog_8_method_16_code 19 = .ok (.aload_n 0, 1) := by decide +kernel
theorem dR_small_20 : decode prog_8_method_16_code 20 = .ok (.iload_n 1, 1) := by decide +kernel
theorem dR_small_21 : decode prog_8_method_16_code 21 = .ok (.invokevirtual 84, 3) := by decide +kernel
theorem dR_small_24 : decode prog_8_method_16_code 24 = .ok (.istore_n 2, 1) := by decide +kernel
theorem dR_small_25 : decode prog_8_method_16_code 25 = .ok (.iload_n 2, 1) := by decide +kernel
theorem dR_small_26 : decode prog_8_method_16_code 26 = .ok (.iconst (-1), 1) := by decide +kernel
theorem dR_small_27 : decode prog_8_method_16_code 27 = .ok (.if_icmp .ne 32, 3) := by decide +kernel
theorem dR_small_30 : decode prog_8_method_16_code 30 = .ok (.aload_n 0, 1) := by decide +kernel
theorem dR_small_31 : decode prog_8_method_16_code 31 = .ok (.invokevirtual 87, 3) := by decide +kernel
theorem dR_small_34 : decode prog_8_method_16_code 34 = .ok (.istore_n 2, 1) := by decide +kernel
theorem dR_small_35 : decode prog_8_method_16_code 35 = .ok (.iload_n 2, 1) := by decide +kernel
theorem dR_small_36 : decode prog_8_method_16_code 36 = .ok (.bipush 12, 2) := by decide +kernel
theorem dR_small_38 : decode prog_8_method_16_code 38 = .ok (.if_icmp .eq 13, 3) := by decide +kernel
theorem dR_small_41 : decode prog_8_method_16_code 41 = .ok (.aload_n 0, 1) := by decide +kernel
theorem dR_small_42 : decode prog_8_method_16_code 42 = .ok (.iconst 1, 1) := by decide +kernel
theorem dR_small_43 : decode prog_8_method_16_code 43 = .ok (.invokevirtual 74, 3) := by decide +kernel
theorem dR_small_46 : decode prog_8_method_16_code 46 = .ok (.bipush 24, 2) := by decide +kernel
theorem dR_small_48 : decode prog_8_method_16_code 48 = .ok (.if_icmp .ne 5, 3) := by decide +kernel
theorem dR_small_51 : decode prog_8_method_16_code 51 = .ok (.iconst (-1), 1) := by decide +kernel
theorem dR_small_52 : decode prog_8_method_16_code 52 = .ok (.ireturn, 1) := by decide +kernel
theorem dR_small_53 : decode prog_8_method_16_code 53 = .ok (.aload_n 0, 1) := by decide +kernel
theorem dR_small_54 : decode prog_8_method_16_code 54 = .ok (.iload_n 1, 1) := by decide +kernel
theorem dR_small_55 : decode prog_8_method_16_code 55 = .ok (.iload_n 2, 1) := by decide +kernel
theorem dR_small_56 : decode prog_8_method_16_code 56 = .ok (.invokevirtual 91, 3) := by decide +kernel
theorem dR_small_59 : decode prog_8_method_16_code 59 = .ok (.aload_n 0, 1) := by decide +kernel
theorem dR_small_60 : decode prog_8_method_16_code 60 = .ok (.iload_n 1, 1) := by decide +kernel
theorem dR_small_61 : decode prog_8_method_16_code 61 = .ok (.iload_n 2, 1) := by decide +kernel
theorem dR_small_62 : decode prog_8_method_16_code 62 = .ok (.invokevirtual 94, 3) := by decide +kernel
theorem dR_small_65 : decode prog_8_method_16_code 65 = .ok (.aload_n 0, 1) := by decide +kernel
theorem dR_small_66 : decode prog_8_method_16_code 66 = .ok (.getfield 34, 3) := by decide +kernel
theorem dR_small_69 : decode prog_8_method_16_code 69 = .ok (.iload_n 1, 1) := by decide +kernel
theorem dR_small_70 : decode prog_8_method_16_code 70 = .ok (.iaload, 1) := by decide +kernel
theorem dR_small_71 : decode prog_8_method_16_code 71 = .ok (.istore_n 2, 1) := by decide +kernel
theorem dR_small_72 : decode prog_8_method_16_code 72 = .ok (.aload_n 0, 1) := by decide +kernel
theorem dR_small_73 : decode prog_8_method_16_code 73 = .ok (.getfield 37, 3) := by decide +kernel
theorem dR_small_76 : decode prog_8_method_16_code 76 = .ok (.iload_n 1, 1) := by decide +kernel
theorem dR_small_77 : decode prog_8_method_16_code 77 = .ok (.aload_n 0, 1) := by decide +kernel
theorem dR_small_78 : decode prog_8_method_16_code 78 = .ok (.getfield 37, 3) := by decide +kernel
theorem dR_small_81 : decode prog_8_method_16_code 81 = .ok (.iload_n 1, 1) := by decide +kernel
theorem dR_small_82 : decode prog_8_method_16_code 82 = .ok (.iaload, 1) := by decide +kernel
theorem dR_small_83 : decode prog_8_method_16_code 83 = .ok (.iconst 1, 1) := by decide +kernel
theorem dR_small_84 : decode prog_8_method_16_code 84 = .ok (.isub, 1) := by decide +kernel
theorem dR_small_85 : decode prog_8_method_16_code 85 = .ok (.iastore, 1) := by decide +kernel
theorem dR_small_86 : decode prog_8_method_16_code 86 = .ok (.aload_n 0, 1) := by decide +kernel
theorem dR_small_87 : decode prog_8_method_16_code 87 = .ok (.getfield 40, 3) := by decide +kernel
theorem dR_small_90 : decode prog_8_method_16_code 90 = .ok (.bipush 16, 2) := by decide +kernel
theorem dR_small_92 : decode prog_8_method_16_code 92 = .ok (.iload_n 1, 1) := by decide +kernel
theorem dR_small_93 : decode prog_8_method_16_code 93 = .ok (.imul, 1) := by decide +kernel
theorem dR_small_94 : decode prog_8_method_16_code 94 = .ok (.aload_n 0, 1) := by decide +kernel
theorem dR_small_95 : decode prog_8_method_16_code 95 = .ok (.getfield 37, 3) := by decide +kernel
theorem dR_small_98 : decode prog_8_method_16_code 98 = .ok (.iload_n 1, 1) := by decide +kernel
theorem dR_small_99 : decode prog_8_method_16_code 99 = .ok (.iaload, 1) := by decide +kernel
theorem dR_small_100 : decode prog_8_method_16_code 100 = .ok (.iadd, 1) := by decide +kernel
theorem dR_small_101 : decode prog_8_method_16_code 101 = .ok (.iaload, 1) := by decide +kernel
theorem dR_small_102 : decode prog_8_method_16_code 102 = .ok (.istore_n 3, 1) := by decide +kernel
theorem dR_small_103 : decode prog_8_method_16_code 103 = .ok (.aload_n 0, 1) := by decide +kernel
theorem dR_small_104 : decode prog_8_method_16_code 104 = .ok (.getfield 28, 3) := by decide +kernel
theorem dR_small_107 : decode prog_8_method_16_code 107 = .ok (.bipush 16, 2) := by decide +kernel
theorem dR_small_109 : decode prog_8_method_16_code 109 = .ok (.iload_n 2, 1) := by decide +kernel
theorem dR_small_110 : decode prog_8_method_16_code 110 = .ok (.imul, 1) := by decide +kernel
theorem dR_small_111 : decode prog_8_method_16_code 111 = .ok (.iload_n 3, 1) := by decide +kernel
theorem dR_small_112 : decode prog_8_method_16_code 112 = .ok (.iadd, 1) := by decide +kernel
theorem dR_small_113 : decode prog_8_method_16_code 113 = .ok (.aload_n 0, 1) := by decide +kernel
theorem dR_small_114 : decode prog_8_method_16_code 114 = .ok (.getfield 25, 3) := by decide +kernel
theorem dR_small_117 : decode prog_8_method_16_code 117 = .ok (.iload_n 2, 1) := by decide +kernel
theorem dR_small_118 : decode prog_8_method_16_code 118 = .ok (.iaload, 1) := by decide +kernel
theorem dR_small_119 : decode prog_8_method_16_code 119 = .ok (.iastore, 1) := by decide +kernel
theorem dR_small_120 : decode prog_8_method_16_code 120 = .ok (.aload_n 0, 1) := by decide +kernel
theorem dR_small_121 : decode prog_8_method_16_code 121 = .ok (.bipush 16, 2) := by decide +kernel
theorem dR_small_123 : decode prog_8_method_16_code 123 = .ok (.iload_n 2, 1) := by decide +kernel
theorem dR_small_124 : decode prog_8_method_16_code 124 = .ok (.imul, 1) := by decide +kernel
theorem dR_small_125 : decode prog_8_method_16_code 125 = .ok (.iload_n 3, 1) := by decide +kernel
theorem dR_small_126 : decode prog_8_method_16_code 126 = .ok (.iload_n 1, 1) := by decide +kernel
theorem dR_small_127 : decode prog_8_method_16_code 127 = .ok (.ishl, 1) := by decide +kernel
theorem dR_small_128 : decode prog_8_method_16_code 128 = .ok (.iadd, 1) := by decide +kernel
theorem dR_small_129 : decode prog_8_method_16_code 129 = .ok (.iconst 1, 1) := by decide +kernel
theorem dR_small_130 : decode prog_8_method_16_code 130 = .ok (.iload_n 1, 1) := by decide +kernel
theorem dR_small_131 : decode prog_8_method_16_code 131 = .ok (.ishl, 1) := by decide +kernel
theorem dR_small_132 : decode prog_8_method_16_code 132 = .ok (.invokevirtual 80, 3) := by decide +kernel
theorem dR_small_135 : decode prog_8_method_16_code 135 = .ok (.bipush 16, 2) := by decide +kernel
theorem dR_small_137 : decode prog_8_method_16_code 137 = .ok (.aload_n 0, 1) := by decide +kernel
theorem dR_small_138 : decode prog_8_method_16_code 138 = .ok (.getfield 25, 3) := by decide +kernel
theorem dR_small_141 : decode prog_8_method_16_code 141 = .ok (.iload_n 2, 1) := by decide +kernel
theorem dR_small_142 : decode prog_8_method_16_code 142 = .ok (.iaload, 1) := by decide +kernel
theorem dR_small_143 : decode prog_8_method_16_code 143 = .ok (.imul, 1) := by decide +kernel
theorem dR_small_144 : decode prog_8_method_16_code 144 = .ok (.iload_n 3, 1) := by decide +kernel
theorem dR_small_145 : decode prog_8_method_16_code 145 = .ok (.iload_n 1, 1) := by decide +kernel
theorem dR_small_146 : decode prog_8_method_16_code 146 = .ok (.ishl, 1) := by decide +kernel
theorem dR_small_147 : decode prog_8_method_16_code 147 = .ok (.iadd, 1) := by decide +kernel
theorem dR_small_148 : decode prog_8_method_16_code 148 = .ok (.ireturn, 1) := by decide +kernel
def fR_small (a0 : Int32) (g : fl_G) : Option (Int32 × fl_G) :=
  fl_ck (fl_in a0 4) (if (g 9 (Int32.toNatClampNeg a0)) = (-1) then (fl_bd (fR_fullest a0 g) (fun r3 g4 => if r3 = (-1) then (fl_bd (fR_freePhysical g4) (fun r21 g22 => if r21 = 12 then (some ((-1), g22)) else (fl_bd (fR_freeVirtual 1 g22) (fun r25 g26 => if r25 = 24 then (some ((-1), g26)) else (fl_bd (fR_begin a0 r21 g26) (fun r29 g30 => fl_bd (fR_attach a0 r21 g30) (fun r32 g33 => fl_ck (fl_in a0 4) (fl_ck (fl_in a0 4) (fl_ck (fl_in a0 4) (fl_ck (fl_in a0 4) (fl_ck (fl_in ((16 * a0) + ((fl_up g33 10 (Int32.toNatClampNeg a0) ((g33 10 (Int32.toNatClampNeg a0)) - 1)) 10 (Int32.toNatClampNeg a0))) 64) (fl_ck (fl_in (g33 9 (Int32.toNatClampNeg a0)) 12) (fl_ck (fl_in ((16 * (g33 9 (Int32.toNatClampNeg a0))) + ((fl_up g33 10 (Int32.toNatClampNeg a0) ((g33 10 (Int32.toNatClampNeg a0)) - 1)) 11 (Int32.toNatClampNeg ((16 * a0) + ((fl_up g33 10 (Int32.toNatClampNeg a0) ((g33 10 (Int32.toNatClampNeg a0)) - 1)) 10 (Int32.toNatClampNeg a0)))))) 192) (fl_bd (fR_zero ((16 * (g33 9 (Int32.toNatClampNeg a0))) + (((fl_up g33 10 (Int32.toNatClampNeg a0) ((g33 10 (Int32.toNatClampNeg a0)) - 1)) 11 (Int32.toNatClampNeg ((16 * a0) + ((fl_up g33 10 (Int32.toNatClampNeg a0) ((g33 10 (Int32.toNatClampNeg a0)) - 1)) 10 (Int32.toNatClampNeg a0))))) <<< (a0 &&& 31))) (1 <<< (a0 &&& 31)) (fl_up (fl_up g33 10 (Int32.toNatClampNeg a0) ((g33 10 (Int32.toNatClampNeg a0)) - 1)) 7 (Int32.toNatClampNeg ((16 * (g33 9 (Int32.toNatClampNeg a0))) + ((fl_up g33 10 (Int32.toNatClampNeg a0) ((g33 10 (Int32.toNatClampNeg a0)) - 1)) 11 (Int32.toNatClampNeg ((16 * a0) + ((fl_up g33 10 (Int32.toNatClampNeg a0) ((g33 10 (Int32.toNatClampNeg a0)) - 1)) 10 (Int32.toNatClampNeg a0))))))) ((fl_up g33 10 (Int32.toNatClampNeg a0) ((g33 10 (Int32.toNatClampNeg a0)) - 1)) 6 (Int32.toNatClampNeg (g33 9 (Int32.toNatClampNeg a0)))))) (fun r42 g43 => fl_ck (fl_in (g33 9 (Int32.toNatClampNeg a0)) 12) (some (((16 * (g43 6 (Int32.toNatClampNeg (g33 9 (Int32.toNatClampNeg a0))))) + (((fl_up g33 10 (Int32.toNatClampNeg a0) ((g33 10 (Int32.toNatClampNeg a0)) - 1)) 11 (Int32.toNatClampNeg ((16 * a0) + ((fl_up g33 10 (Int32.toNatClampNeg a0) ((g33 10 (Int32.toNatClampNeg a0)) - 1)) 10 (Int32.toNatClampNeg a0))))) <<< (a0 &&& 31))), g43))))))))))))))))) else (fl_bd (fR_attach a0 r3 g4) (fun r7 g8 => fl_ck (fl_in a0 4) (fl_ck (fl_in a0 4) (fl_ck (fl_in a0 4) (fl_ck (fl_in a0 4) (fl_ck (fl_in ((16 * a0) + ((fl_up g8 10 (Int32.toNatClampNeg a0) ((g8 10 (Int32.toNatClampNeg a0)) - 1)) 10 (Int32.toNatClampNeg a0))) 64) (fl_ck (fl_in (g8 9 (Int32.toNatClampNeg a0)) 12) (fl_ck (fl_in ((16 * (g8 9 (Int32.toNatClampNeg a0))) + ((fl_up g8 10 (Int32.toNatClampNeg a0) ((g8 10 (Int32.toNatClampNeg a0)) - 1)) 11 (Int32.toNatClampNeg ((16 * a0) + ((fl_up g8 10 (Int32.toNatClampNeg a0) ((g8 10 (Int32.toNatClampNeg a0)) - 1)) 10 (Int32.toNatClampNeg a0)))))) 192) (fl_bd (fR_zero ((16 * (g8 9 (Int32.toNatClampNeg a0))) + (((fl_up g8 10 (Int32.toNatClampNeg a0) ((g8 10 (Int32.toNatClampNeg a0)) - 1)) 11 (Int32.toNatClampNeg ((16 * a0) + ((fl_up g8 10 (Int32.toNatClampNeg a0) ((g8 10 (Int32.toNatClampNeg a0)) - 1)) 10 (Int32.toNatClampNeg a0))))) <<< (a0 &&& 31))) (1 <<< (a0 &&& 31)) (fl_up (fl_up g8 10 (Int32.toNatClampNeg a0) ((g8 10 (Int32.toNatClampNeg a0)) - 1)) 7 (Int32.toNatClampNeg ((16 * (g8 9 (Int32.toNatClampNeg a0))) + ((fl_up g8 10 (Int32.toNatClampNeg a0) ((g8 10 (Int32.toNatClampNeg a0)) - 1)) 11 (Int32.toNatClampNeg ((16 * a0) + ((fl_up g8 10 (Int32.toNatClampNeg a0) ((g8 10 (Int32.toNatClampNeg a0)) - 1)) 10 (Int32.toNatClampNeg a0))))))) ((fl_up g8 10 (Int32.toNatClampNeg a0) ((g8 10 (Int32.toNatClampNeg a0)) - 1)) 6 (Int32.toNatClampNeg (g8 9 (Int32.toNatClampNeg a0)))))) (fun r17 g18 => fl_ck (fl_in (g8 9 (Int32.toNatClampNeg a0)) 12) (some (((16 * (g18 6 (Int32.toNatClampNeg (g8 9 (Int32.toNatClampNeg a0))))) + (((fl_up g8 10 (Int32.toNatClampNeg a0) ((g8 10 (Int32.toNatClampNeg a0)) - 1)) 11 (Int32.toNatClampNeg ((16 * a0) + ((fl_up g8 10 (Int32.toNatClampNeg a0) ((g8 10 (Int32.toNatClampNeg a0)) - 1)) 10 (Int32.toNatClampNeg a0))))) <<< (a0 &&& 31))), g18)))))))))))))) else (fl_ck (fl_in a0 4) (if (g 10 (Int32.toNatClampNeg a0)) = 0 then (fl_bd (fR_fullest a0 g) (fun r59 g60 => if r59 = (-1) then (fl_bd (fR_freePhysical g60) (fun r77 g78 => if r77 = 12 then (some ((-1), g78)) else (fl_bd (fR_freeVirtual 1 g78) (fun r81 g82 => if r81 = 24 then (some ((-1), g82)) else (fl_bd (fR_begin a0 r77 g82) (fun r85 g86 => fl_bd (fR_attach a0 r77 g86) (fun r88 g89 => fl_ck (fl_in a0 4) (fl_ck (fl_in a0 4) (fl_ck (fl_in a0 4) (fl_ck (fl_in a0 4) (fl_ck (fl_in ((16 * a0) + ((fl_up g89 10 (Int32.toNatClampNeg a0) ((g89 10 (Int32.toNatClampNeg a0)) - 1)) 10 (Int32.toNatClampNeg a0))) 64) (fl_ck (fl_in (g89 9 (Int32.toNatClampNeg a0)) 12) (fl_ck (fl_in ((16 * (g89 9 (Int32.toNatClampNeg a0))) + ((fl_up g89 10 (Int32.toNatClampNeg a0) ((g89 10 (Int32.toNatClampNeg a0)) - 1)) 11 (Int32.toNatClampNeg ((16 * a0) + ((fl_up g89 10 (Int32.toNatClampNeg a0) ((g89 10 (Int32.toNatClampNeg a0)) - 1)) 10 (Int32.toNatClampNeg a0)))))) 192) (fl_bd (fR_zero ((16 * (g89 9 (Int32.toNatClampNeg a0))) + (((fl_up g89 10 (Int32.toNatClampNeg a0) ((g89 10 (Int32.toNatClampNeg a0)) - 1)) 11 (Int32.toNatClampNeg ((16 * a0) + ((fl_up g89 10 (Int32.toNatClampNeg a0) ((g89 10 (Int32.toNatClampNeg a0)) - 1)) 10 (Int32.toNatClampNeg a0))))) <<< (a0 &&& 31))) (1 <<< (a0 &&& 31)) (fl_up (fl_up g89 10 (Int32.toNatClampNeg a0) ((g89 10 (Int32.toNatClampNeg a0)) - 1)) 7 (Int32.toNatClampNeg ((16 * (g89 9 (Int32.toNatClampNeg a0))) + ((fl_up g89 10 (Int32.toNatClampNeg a0) ((g89 10 (Int32.toNatClampNeg a0)) - 1)) 11 (Int32.toNatClampNeg ((16 * a0) + ((fl_up g89 10 (Int32.toNatClampNeg a0) ((g89 10 (Int32.toNatClampNeg a0)) - 1)) 10 (Int32.toNatClampNeg a0))))))) ((fl_up g89 10 (Int32.toNatClampNeg a0) ((g89 10 (Int32.toNatClampNeg a0)) - 1)) 6 (Int32.toNatClampNeg (g89 9 (Int32.toNatClampNeg a0)))))) (fun r98 g99 => fl_ck (fl_in (g89 9 (Int32.toNatClampNeg a0)) 12) (some (((16 * (g99 6 (Int32.toNatClampNeg (g89 9 (Int32.toNatClampNeg a0))))) + (((fl_up g89 10 (Int32.toNatClampNeg a0) ((g89 10 (Int32.toNatClampNeg a0)) - 1)) 11 (Int32.toNatClampNeg ((16 * a0) + ((fl_up g89 10 (Int32.toNatClampNeg a0) ((g89 10 (Int32.toNatClampNeg a0)) - 1)) 10 (Int32.toNatClampNeg a0))))) <<< (a0 &&& 31))), g99))))))))))))))))) else (fl_bd (fR_attach a0 r59 g60) (fun r63 g64 => fl_ck (fl_in a0 4) (fl_ck (fl_in a0 4) (fl_ck (fl_in a0 4) (fl_ck (fl_in a0 4) (fl_ck (fl_in ((16 * a0) + ((fl_up g64 10 (Int32.toNatClampNeg a0) ((g64 10 (Int32.toNatClampNeg a0)) - 1)) 10 (Int32.toNatClampNeg a0))) 64) (fl_ck (fl_in (g64 9 (Int32.toNatClampNeg a0)) 12) (fl_ck (fl_in ((16 * (g64 9 (Int32.toNatClampNeg a0))) + ((fl_up g64 10 (Int32.toNatClampNeg a0) ((g64 10 (Int32.toNatClampNeg a0)) - 1)) 11 (Int32.toNatClampNeg ((16 * a0) + ((fl_up g64 10 (Int32.toNatClampNeg a0) ((g64 10 (Int32.toNatClampNeg a0)) - 1)) 10 (Int32.toNatClampNeg a0)))))) 192) (fl_bd (fR_zero ((16 * (g64 9 (Int32.toNatClampNeg a0))) + (((fl_up g64 10 (Int32.toNatClampNeg a0) ((g64 10 (Int32.toNatClampNeg a0)) - 1)) 11 (Int32.toNatClampNeg ((16 * a0) + ((fl_up g64 10 (Int32.toNatClampNeg a0) ((g64 10 (Int32.toNatClampNeg a0)) - 1)) 10 (Int32.toNatClampNeg a0))))) <<< (a0 &&& 31))) (1 <<< (a0 &&& 31)) (fl_up (fl_up g64 10 (Int32.toNatClampNeg a0) ((g64 10 (Int32.toNatClampNeg a0)) - 1)) 7 (Int32.toNatClampNeg ((16 * (g64 9 (Int32.toNatClampNeg a0))) + ((fl_up g64 10 (Int32.toNatClampNeg a0) ((g64 10 (Int32.toNatClampNeg a0)) - 1)) 11 (Int32.toNatClampNeg ((16 * a0) + ((fl_up g64 10 (Int32.toNatClampNeg a0) ((g64 10 (Int32.toNatClampNeg a0)) - 1)) 10 (Int32.toNatClampNeg a0))))))) ((fl_up g64 10 (Int32.toNatClampNeg a0) ((g64 10 (Int32.toNatClampNeg a0)) - 1)) 6 (Int32.toNatClampNeg (g64 9 (Int32.toNatClampNeg a0)))))) (fun r73 g74 => fl_ck (fl_in (g64 9 (Int32.toNatClampNeg a0)) 12) (some (((16 * (g74 6 (Int32.toNatClampNeg (g64 9 (Int32.toNatClampNeg a0))))) + (((fl_up g64 10 (Int32.toNatClampNeg a0) ((g64 10 (Int32.toNatClampNeg a0)) - 1)) 11 (Int32.toNatClampNeg ((16 * a0) + ((fl_up g64 10 (Int32.toNatClampNeg a0) ((g64 10 (Int32.toNatClampNeg a0)) - 1)) 10 (Int32.toNatClampNeg a0))))) <<< (a0 &&& 31))), g74)))))))))))))) else (fl_ck (fl_in a0 4) (fl_ck (fl_in a0 4) (fl_ck (fl_in a0 4) (fl_ck (fl_in a0 4) (fl_ck (fl_in ((16 * a0) + ((fl_up g 10 (Int32.toNatClampNeg a0) ((g 10 (Int32.toNatClampNeg a0)) - 1)) 10 (Int32.toNatClampNeg a0))) 64) (fl_ck (fl_in (g 9 (Int32.toNatClampNeg a0)) 12) (fl_ck (fl_in ((16 * (g 9 (Int32.toNatClampNeg a0))) + ((fl_up g 10 (Int32.toNatClampNeg a0) ((g 10 (Int32.toNatClampNeg a0)) - 1)) 11 (Int32.toNatClampNeg ((16 * a0) + ((fl_up g 10 (Int32.toNatClampNeg a0) ((g 10 (Int32.toNatClampNeg a0)) - 1)) 10 (Int32.toNatClampNeg a0)))))) 192) (fl_bd (fR_zero ((16 * (g 9 (Int32.toNatClampNeg a0))) + (((fl_up g 10 (Int32.toNatClampNeg a0) ((g 10 (Int32.toNatClampNeg a0)) - 1)) 11 (Int32.toNatClampNeg ((16 * a0) + ((fl_up g 10 (Int32.toNatClampNeg a0) ((g 10 (Int32.toNatClampNeg a0)) - 1)) 10 (Int32.toNatClampNeg a0))))) <<< (a0 &&& 31))) (1 <<< (a0 &&& 31)) (fl_up (fl_up g 10 (Int32.toNatClampNeg a0) ((g 10 (Int32.toNatClampNeg a0)) - 1)) 7 (Int32.toNatClampNeg ((16 * (g 9 (Int32.toNatClampNeg a0))) + ((fl_up g 10 (Int32.toNatClampNeg a0) ((g 10 (Int32.toNatClampNeg a0)) - 1)) 11 (Int32.toNatClampNeg ((16 * a0) + ((fl_up g 10 (Int32.toNatClampNeg a0) ((g 10 (Int32.toNatClampNeg a0)) - 1)) 10 (Int32.toNatClampNeg a0))))))) ((fl_up g 10 (Int32.toNatClampNeg a0) ((g 10 (Int32.toNatClampNeg a0)) - 1)) 6 (Int32.toNatClampNeg (g 9 (Int32.toNatClampNeg a0)))))) (fun r55 g56 => fl_ck (fl_in (g 9 (Int32.toNatClampNeg a0)) 12) (some (((16 * (g56 6 (Int32.toNatClampNeg (g 9 (Int32.toNatClampNeg a0))))) + (((fl_up g 10 (Int32.toNatClampNeg a0) ((g 10 (Int32.toNatClampNeg a0)) - 1)) 11 (Int32.toNatClampNeg ((16 * a0) + ((fl_up g 10 (Int32.toNatClampNeg a0) ((g 10 (Int32.toNatClampNeg a0)) - 1)) 10 (Int32.toNatClampNeg a0))))) <<< (a0 &&& 31))), g56))))))))))))))
set_option maxHeartbeats 4000000 in
set_option maxRecDepth 100000 in
theorem cR_small (l : Launch) (dC : Nat → ClassId) (dI : Nat → Nat → Nat) (ca : Nat → ClassId) (ad : Nat → Nat) (hI : fl_inj 14 ad) (a0 : Int32) {g g1 : fl_G} {r : Int32} (h : fR_small a0 g = some (r, g1)) : Met l yR_small wR_small ({ frames := 3, cells := 0, slots := 0, locals := 67 }) (va_Pc [.ref (ad 0), .int a0] (fl_Pre (dC, dI) al_cl 14 (rf_sh ca ad) ad (rf_ty ca) rf_ns g)) (fl_QI (dC, dI) al_cl 14 (rf_sh ca ad) ad r g1) 0 0 (fl_A 14 ad) := by
  refine fl_of (cc := prog_8_method_16_code) (maxL := 4) (ret := (some .int)) (by decide) rfl (Nat.le_of_ble_eq_true rfl) ?_
  intro p e s m below meth c ls hx hb hr hml hts hown hlocks hP hK hN hl
  have hown : s.vm.findClass "MeshedSpansModel" = some m.cls := hown
  have hS : va_S (fl_A 14 ad) s.heap s.heap [] := va_S.rf
  have hl : lv_has ls 4 [(0, .ref (ad 0)), (1, .int a0)] := hl
  unfold fR_small at h
  refine lv_aload_n hx hb dR_small_0 rfl (lv_at hl 0 rfl) ?_
  refine rf_get0 (v := .ref (ad 9)) hx hb hts rf_in0 hown hK hP (q := 0) rfl 10 (by decide) (hts _ gm_512) rfl dR_small_1 ?_
  refine lv_iload_n hx hb dR_small_4 rfl (lv_at hl 1 rfl) ?_
  replace h := fl_ck_some h
  obtain ⟨hi1, h⟩ := h
  refine rf_iald hx hb hK hP (q := 9) rfl hi1 dR_small_5 ?_
  refine lv_iconst (v := (-1)) hx hb dR_small_6 (by decide) ?_
  refine lv_icmp_eq (tgt := 19) hx hb dR_small_7 (by decide) (fun c2 => ?_) (fun c2 => ?_)
  · replace h := fl_pos c2 h
    refine lv_aload_n hx hb dR_small_19 rfl (lv_at hl 0 rfl) ?_
    refine lv_iload_n hx hb dR_small_20 rfl (lv_at hl 1 rfl) ?_
    replace h := fl_bd_some h
    obtain ⟨r3, g4, hc5, h⟩ := h
    refine fl_calli (va_runV (As := [.int a0]) (rest := []) ⟨hx, hb, hml, hown, hts⟩ (cR_fullest l dC dI ca ad hI a0 hc5) (kR_fullest hts (hts _ gm_581) ⟨Nat.le_of_ble_eq_true rfl, Nat.le_of_ble_eq_true rfl⟩) (fl_preV hK hP hN (rf_lt rfl (by decide)) (rf_sh0 rfl) rfl) rfl rfl hl.1 rfl (lv_room (Nat.le_of_ble_eq_true rfl)) dR_small_21 ⟨Nat.le_refl 0, Nat.le_refl 0⟩) hS (fun H locs hP hS => ?_)
    refine lv_istore_n (lv' := [(2, .int r3), (0, .ref (ad 0)), (1, .int a0)]) hx hb dR_small_24 rfl hl (by decide) rfl (fun ls hl => ?_)
    refine lv_iload_n hx hb dR_small_25 rfl (lv_at hl 0 rfl) ?_
    refine lv_iconst (v := (-1)) hx hb dR_small_26 (by decide) ?_
    refine lv_icmp_ne (tgt := 59) hx hb dR_small_27 (by decide) (fun c6 => ?_) (fun c6 => ?_)
    · replace h := fl_neg c6 h
      refine lv_aload_n hx hb dR_small_59 rfl (lv_at hl 1 rfl) ?_
      refine lv_iload_n hx hb dR_small_60 rfl (lv_at hl 2 rfl) ?_
      refine lv_iload_n hx hb dR_small_61 rfl (lv_at hl 0 rfl) ?_
      replace h := fl_bd_some h
      obtain ⟨r7, g8, hc9, h⟩ := h
      refine fl_callv (va_runV (As := [.int a0, .int r3]) (rest := []) ⟨hx, hb, hml, hown, hts⟩ (cR_attach l dC dI ca ad hI a0 r3 hc9) (kR_attach hts (hts _ gm_596) ⟨Nat.le_of_ble_eq_true rfl, Nat.le_of_ble_eq_true rfl⟩) (fl_preV hK hP hN (rf_lt rfl (by decide)) (rf_sh0 rfl) rfl) rfl rfl hl.1 rfl (lv_room (Nat.le_of_ble_eq_true rfl)) dR_small_62 ⟨Nat.le_refl 0, Nat.le_refl 0⟩) hS (fun H locs hP hS => ?_)
      refine lv_aload_n hx hb dR_small_65 rfl (lv_at hl 1 rfl) ?_
      refine rf_get0 (v := .ref (ad 9)) hx hb hts rf_in0 hown hK hP (q := 0) rfl 10 (by decide) (hts _ gm_512) rfl dR_small_66 ?_
      refine lv_iload_n hx hb dR_small_69 rfl (lv_at hl 2 rfl) ?_
      replace h := fl_ck_some h
      obtain ⟨hi10, h⟩ := h
      refine rf_iald hx hb hK hP (q := 9) rfl hi10 dR_small_70 ?_
      refine lv_istore_n (lv' := [(2, .int (g8 9 (Int32.toNatClampNeg a0))), (0, .ref (ad 0)), (1, .int a0)]) hx hb dR_small_71 rfl hl (by decide) rfl (fun ls hl => ?_)
      refine lv_aload_n hx hb dR_small_72 rfl (lv_at hl 1 rfl) ?_
      refine rf_get0 (v := .ref (ad 10)) hx hb hts rf_in0 hown hK hP (q := 0) rfl 11 (by decide) (hts _ gm_513) rfl dR_small_73 ?_
      refine lv_iload_n hx hb dR_small_76 rfl (lv_at hl 2 rfl) ?_
      refine lv_aload_n hx hb dR_small_77 rfl (lv_at hl 1 rfl) ?_
      refine rf_get0 (v := .ref (ad 10)) hx hb hts rf_in0 hown hK hP (q := 0) rfl 11 (by decide) (hts _ gm_513) rfl dR_small_78 ?_
      refine lv_iload_n hx hb dR_small_81 rfl (lv_at hl 2 rfl) ?_
      replace h := fl_ck_some h
      obtain ⟨hi11, h⟩ := h
      refine rf_iald hx hb hK hP (q := 10) rfl hi11 dR_small_82 ?_
      refine lv_iconst (v := 1) hx hb dR_small_83 (by decide) ?_
      refine lv_isub hx hb dR_small_84 ?_
      replace h := fl_ck_some h
      obtain ⟨hi12, h⟩ := h
      refine rf_iast hx hb hK hP hI hS (q := 10) rfl hi12 dR_small_85 (fun H locs hP hS => ?_)
      have hP : va_P (dC, dI) al_cl (fl_ws 14 (rf_sh ca ad) ad (fl_up g8 10 (Int32.toNatClampNeg a0) ((g8 10 (Int32.toNatClampNeg a0)) - 1))) H := hP
      refine lv_aload_n hx hb dR_small_86 rfl (lv_at hl 1 rfl) ?_
      refine rf_get0 (v := .ref (ad 11)) hx hb hts rf_in0 hown hK hP (q := 0) rfl 12 (by decide) (hts _ gm_514) rfl dR_small_87 ?_
      refine lv_bipush (v := 16) hx hb dR_small_90 (by decide) ?_
      refine lv_iload_n hx hb dR_small_92 rfl (lv_at hl 2 rfl) ?_
      refine lv_imul hx hb dR_small_93 ?_
      refine lv_aload_n hx hb dR_small_94 rfl (lv_at hl 1 rfl) ?_
      refine rf_get0 (v := .ref (ad 10)) hx hb hts rf_in0 hown hK hP (q := 0) rfl 11 (by decide) (hts _ gm_513) rfl dR_small_95 ?_
      refine lv_iload_n hx hb dR_small_98 rfl (lv_at hl 2 rfl) ?_
      replace h := fl_ck_some h
      obtain ⟨hi13, h⟩ := h
      refine rf_iald hx hb hK hP (q := 10) rfl hi13 dR_small_99 ?_
      refine lv_iadd hx hb dR_small_100 ?_
      replace h := fl_ck_some h
      obtain ⟨hi14, h⟩ := h
      refine rf_iald hx hb hK hP (q := 11) rfl hi14 dR_small_101 ?_
      refine lv_istore_n (lv' := [(3, .int ((fl_up g8 10 (Int32.toNatClampNeg a0) ((g8 10 (Int32.toNatClampNeg a0)) - 1)) 11 (Int32.toNatClampNeg ((16 * a0) + ((fl_up g8 10 (Int32.toNatClampNeg a0) ((g8 10 (Int32.toNatClampNeg a0)) - 1)) 10 (Int32.toNatClampNeg a0)))))), (2, .int (g8 9 (Int32.toNatClampNeg a0))), (0, .ref (ad 0)), (1, .int a0)]) hx hb dR_small_102 rfl hl (by decide) rfl (fun ls hl => ?_)
      refine lv_aload_n hx hb dR_small_103 rfl (lv_at hl 2 rfl) ?_
      refine rf_get0 (v := .ref (ad 7)) hx hb hts rf_in0 hown hK hP (q := 0) rfl 7 (by decide) (hts _ gm_509) rfl dR_small_104 ?_
      refine lv_bipush (v := 16) hx hb dR_small_107 (by decide) ?_
      refine lv_iload_n hx hb dR_small_109 rfl (lv_at hl 1 rfl) ?_
      refine lv_imul hx hb dR_small_110 ?_
      refine lv_iload_n hx hb dR_small_111 rfl (lv_at hl 0 rfl) ?_
      refine lv_iadd hx hb dR_small_112 ?_
      refine lv_aload_n hx hb dR_small_113 rfl (lv_at hl 2 rfl) ?_
      refine rf_get0 (v := .ref (ad 6)) hx hb hts rf_in0 hown hK hP (q := 0) rfl 6 (by decide) (hts _ gm_508) rfl dR_small_114 ?_
      refine lv_iload_n hx hb dR_small_117 rfl (lv_at hl 1 rfl) ?_
      replace h := fl_ck_some h
      obtain ⟨hi15, h⟩ := h
      refine rf_iald hx hb hK hP (q := 6) rfl hi15 dR_small_118 ?_
      replace h := fl_ck_some h
      obtain ⟨hi16, h⟩ := h
      refine rf_iast hx hb hK hP hI hS (q := 7) rfl hi16 dR_small_119 (fun H locs hP hS => ?_)
      have hP : va_P (dC, dI) al_cl (fl_ws 14 (rf_sh ca ad) ad (fl_up (fl_up g8 10 (Int32.toNatClampNeg a0) ((g8 10 (Int32.toNatClampNeg a0)) - 1)) 7 (Int32.toNatClampNeg ((16 * (g8 9 (Int32.toNatClampNeg a0))) + ((fl_up g8 10 (Int32.toNatClampNeg a0) ((g8 10 (Int32.toNatClampNeg a0)) - 1)) 11 (Int32.toNatClampNeg ((16 * a0) + ((fl_up g8 10 (Int32.toNatClampNeg a0) ((g8 10 (Int32.toNatClampNeg a0)) - 1)) 10 (Int32.toNatClampNeg a0))))))) ((fl_up g8 10 (Int32.toNatClampNeg a0) ((g8 10 (Int32.toNatClampNeg a0)) - 1)) 6 (Int32.toNatClampNeg (g8 9 (Int32.toNatClampNeg a0)))))) H := hP
      refine lv_aload_n hx hb dR_small_120 rfl (lv_at hl 2 rfl) ?_
      refine lv_bipush (v := 16) hx hb dR_small_121 (by decide) ?_
      refine lv_iload_n hx hb dR_small_123 rfl (lv_at hl 1 rfl) ?_
      refine lv_imul hx hb dR_small_124 ?_
      refine lv_iload_n hx hb dR_small_125 rfl (lv_at hl 0 rfl) ?_
      refine lv_iload_n hx hb dR_small_126 rfl (lv_at hl 3 rfl) ?_
      refine lv_ishl hx hb dR_small_127 ?_
      refine lv_iadd hx hb dR_small_128 ?_
      refine lv_iconst (v := 1) hx hb dR_small_129 (by decide) ?_
      refine lv_iload_n hx hb dR_small_130 rfl (lv_at hl 3 rfl) ?_
      refine lv_ishl hx hb dR_small_131 ?_
      replace h := fl_bd_some h
      obtain ⟨r17, g18, hc19, h⟩ := h
      refine fl_callv (va_runV (As := [.int ((16 * (g8 9 (Int32.toNatClampNeg a0))) + (((fl_up g8 10 (Int32.toNatClampNeg a0) ((g8 10 (Int32.toNatClampNeg a0)) - 1)) 11 (Int32.toNatClampNeg ((16 * a0) + ((fl_up g8 10 (Int32.toNatClampNeg a0) ((g8 10 (Int32.toNatClampNeg a0)) - 1)) 10 (Int32.toNatClampNeg a0))))) <<< (a0 &&& 31))), .int (1 <<< (a0 &&& 31))]) (rest := []) ⟨hx, hb, hml, hown, hts⟩ (cR_zero l dC dI ca ad hI ((16 * (g8 9 (Int32.toNatClampNeg a0))) + (((fl_up g8 10 (Int32.toNatClampNeg a0) ((g8 10 (Int32.toNatClampNeg a0)) - 1)) 11 (Int32.toNatClampNeg ((16 * a0) + ((fl_up g8 10 (Int32.toNatClampNeg a0) ((g8 10 (Int32.toNatClampNeg a0)) - 1)) 10 (Int32.toNatClampNeg a0))))) <<< (a0 &&& 31))) (1 <<< (a0 &&& 31)) hc19) (kR_zero hts (hts _ gm_575) ⟨Nat.le_of_ble_eq_true rfl, Nat.le_of_ble_eq_true rfl⟩) (fl_preV hK hP hN (rf_lt rfl (by decide)) (rf_sh0 rfl) rfl) rfl rfl hl.1 rfl (lv_room (Nat.le_of_ble_eq_true rfl)) dR_small_132 ⟨Nat.le_refl 0, Nat.le_refl 0⟩) hS (fun H locs hP hS => ?_)
      refine lv_bipush (v := 16) hx hb dR_small_135 (by decide) ?_
      refine lv_aload_n hx hb dR_small_137 rfl (lv_at hl 2 rfl) ?_
      refine rf_get0 (v := .ref (ad 6)) hx hb hts rf_in0 hown hK hP (q := 0) rfl 6 (by decide) (hts _ gm_508) rfl dR_small_138 ?_
      refine lv_iload_n hx hb dR_small_141 rfl (lv_at hl 1 rfl) ?_
      replace h := fl_ck_some h
      obtain ⟨hi20, h⟩ := h
      refine rf_iald hx hb hK hP (q := 6) rfl hi20 dR_small_142 ?_
      refine lv_imul hx hb dR_small_143 ?_
      refine lv_iload_n hx hb dR_small_144 rfl (lv_at hl 0 rfl) ?_
      refine lv_iload_n hx hb dR_small_145 rfl (lv_at hl 3 rfl) ?_
      refine lv_ishl hx hb dR_small_146 ?_
      refine lv_iadd hx hb dR_small_147 ?_
      exact fl_iret hx hb hr hlocks hP hS h dR_small_148
    · replace h := fl_pos c6 h
      refine lv_aload_n hx hb dR_small_30 rfl (lv_at hl 1 rfl) ?_
      replace h := fl_bd_some h
      obtain ⟨r21, g22, hc23, h⟩ := h
      refine fl_calli (va_runV (As := []) (rest := []) ⟨hx, hb, hml, hown, hts⟩ (cR_freePhysical l dC dI ca ad hI  hc23) (kR_freePhysical hts (hts _ gm_572) ⟨Nat.le_of_ble_eq_true rfl, Nat.le_of_ble_eq_true rfl⟩) (fl_preV hK hP hN (rf_lt rfl (by decide)) (rf_sh0 rfl) rfl) rfl rfl hl.1 rfl (lv_room (Nat.le_of_ble_eq_true rfl)) dR_small_31 ⟨Nat.le_refl 0, Nat.le_refl 0⟩) hS (fun H locs hP hS => ?_)
      refine lv_istore_n (lv' := [(2, .int r21), (0, .ref (ad 0)), (1, .int a0)]) hx hb dR_small_34 rfl hl (by decide) rfl (fun ls hl => ?_)
      refine lv_iload_n hx hb dR_small_35 rfl (lv_at hl 0 rfl) ?_
      refine lv_bipush (v := 12) hx hb dR_small_36 (by decide) ?_
      refine lv_icmp_eq (tgt := 51) hx hb dR_small_38 (by decide) (fun c24 => ?_) (fun c24 => ?_)
      · replace h := fl_pos c24 h
        refine lv_iconst (v := (-1)) hx hb dR_small_51 (by decide) ?_
        exact fl_iret hx hb hr hlocks hP hS h dR_small_52
      · replace h := fl_neg c24 h
        refine lv_aload_n hx hb dR_small_41 rfl (lv_at hl 1 rfl) ?_
        refine lv_iconst (v := 1) hx hb dR_small_42 (by decide) ?_
        replace h := fl_bd_some h
        obtain ⟨r25, g26, hc27, h⟩ := h
        refine fl_calli (va_runV (As := [.int 1]) (rest := []) ⟨hx, hb, hml, hown, hts⟩ (cR_freeVirtual l dC dI ca ad hI 1 hc27) (kR_freeVirtual hts (hts _ gm_565) ⟨Nat.le_of_ble_eq_true rfl, Nat.le_of_ble_eq_true rfl⟩) (fl_preV hK hP hN (rf_lt rfl (by decide)) (rf_sh0 rfl) rfl) rfl rfl hl.1 rfl (lv_room (Nat.le_of_ble_eq_true rfl)) dR_small_43 ⟨Nat.le_refl 0, Nat.le_refl 0⟩) hS (fun H locs hP hS => ?_)
        refine lv_bipush (v := 24) hx hb dR_small_46 (by decide) ?_
        refine lv_icmp_ne (tgt := 53) hx hb dR_small_48 (by decide) (fun c28 => ?_) (fun c28 => ?_)
        · replace h := fl_neg c28 h
          refine lv_aload_n hx hb dR_small_53 rfl (lv_at hl 1 rfl) ?_
          refine lv_iload_n hx hb dR_small_54 rfl (lv_at hl 2 rfl) ?_
          refine lv_iload_n hx hb dR_small_55 rfl (lv_at hl 0 rfl) ?_
          replace h := fl_bd_some h
          obtain ⟨r29, g30, hc31, h⟩ := h
          refine fl_callv (va_runV (As := [.int a0, .int r21]) (rest := []) ⟨hx, hb, hml, hown, hts⟩ (cR_begin l dC dI ca ad hI a0 r21 hc31) (kR_begin hts (hts _ gm_593) ⟨Nat.le_of_ble_eq_true rfl, Nat.le_of_ble_eq_true rfl⟩) (fl_preV hK hP hN (rf_lt rfl (by decide)) (rf_sh0 rfl) rfl) rfl rfl hl.1 rfl (lv_room (Nat.le_of_ble_eq_true rfl)) dR_small_56 ⟨Nat.le_refl 0, Nat.le_refl 0⟩) hS (fun H locs hP hS => ?_)
          refine lv_aload_n hx hb dR_small_59 rfl (lv_at hl 1 rfl) ?_
          refine lv_iload_n hx hb dR_small_60 rfl (lv_at hl 2 rfl) ?_
          refine lv_iload_n hx hb dR_small_61 rfl (lv_at hl 0 rfl) ?_
          replace h := fl_bd_some h
          obtain ⟨r32, g33, hc34, h⟩ := h
          refine fl_callv (va_runV (As := [.int a0, .int r21]) (rest := []) ⟨hx, hb, hml, hown, hts⟩ (cR_attach l dC dI ca ad hI a0 r21 hc34) (kR_attach hts (hts _ gm_596) ⟨Nat.le_of_ble_eq_true rfl, Nat.le_of_ble_eq_true rfl⟩) (fl_preV hK hP hN (rf_lt rfl (by decide)) (rf_sh0 rfl) rfl) rfl rfl hl.1 rfl (lv_room (Nat.le_of_ble_eq_true rfl)) dR_small_62 ⟨Nat.le_refl 0, Nat.le_refl 0⟩) hS (fun H locs hP hS => ?_)
          refine lv_aload_n hx hb dR_small_65 rfl (lv_at hl 1 rfl) ?_
          refine rf_get0 (v := .ref (ad 9)) hx hb hts rf_in0 hown hK hP (q := 0) rfl 10 (by decide) (hts _ gm_512) rfl dR_small_66 ?_
          refine lv_iload_n hx hb dR_small_69 rfl (lv_at hl 2 rfl) ?_
          replace h := fl_ck_some h
          obtain ⟨hi35, h⟩ := h
          refine rf_iald hx hb hK hP (q := 9) rfl hi35 dR_small_70 ?_
          refine lv_istore_n (lv' := [(2, .int (g33 9 (Int32.toNatClampNeg a0))), (0, .ref (ad 0)), (1, .int a0)]) hx hb dR_small_71 rfl hl (by decide) rfl (fun ls hl => ?_)
          refine lv_aload_n hx hb dR_small_72 rfl (lv_at hl 1 rfl) ?_
          refine rf_get0 (v := .ref (ad 10)) hx hb hts rf_in0 hown hK hP (q := 0) rfl 11 (by decide) (hts _ gm_513) rfl dR_small_73 ?_
          refine lv_iload_n hx hb dR_small_76 rfl (lv_at hl 2 rfl) ?_
          refine lv_aload_n hx hb dR_small_77 rfl (lv_at hl 1 rfl) ?_
          refine rf_get0 (v := .ref (ad 10)) hx hb hts rf_in0 hown hK hP (q := 0) rfl 11 (by decide) (hts _ gm_513) rfl dR_small_78 ?_
          refine lv_iload_n hx hb dR_small_81 rfl (lv_at hl 2 rfl) ?_
          replace h := fl_ck_some h
          obtain ⟨hi36, h⟩ := h
          refine rf_iald hx hb hK hP (q := 10) rfl hi36 dR_small_82 ?_
          refine lv_iconst (v := 1) hx hb dR_small_83 (by decide) ?_
          refine lv_isub hx hb dR_small_84 ?_
          replace h := fl_ck_some h
          obtain ⟨hi37, h⟩ := h
          refine rf_iast hx hb hK hP hI hS (q := 10) rfl hi37 dR_small_85 (fun H locs hP hS => ?_)
          have hP : va_P (dC, dI) al_cl (fl_ws 14 (rf_sh ca ad) ad (fl_up g33 10 (Int32.toNatClampNeg a0) ((g33 10 (Int32.toNatClampNeg a0)) - 1))) H := hP
          refine lv_aload_n hx hb dR_small_86 rfl (lv_at hl 1 rfl) ?_
          refine rf_get0 (v := .ref (ad 11)) hx hb hts rf_in0 hown hK hP (q := 0) rfl 12 (by decide) (hts _ gm_514) rfl dR_small_87 ?_
          refine lv_bipush (v := 16) hx hb dR_small_90 (by decide) ?_
          refine lv_iload_n hx hb dR_small_92 rfl (lv_at hl 2 rfl) ?_
          refine lv_imul hx hb dR_small_93 ?_
          refine lv_aload_n hx hb dR_small_94 rfl (lv_at hl 1 rfl) ?_
          refine rf_get0 (v := .ref (ad 10)) hx hb hts rf_in0 hown hK hP (q := 0) rfl 11 (by decide) (hts _ gm_513) rfl dR_small_95 ?_
          refine lv_iload_n hx hb dR_small_98 rfl (lv_at hl 2 rfl) ?_
          replace h := fl_ck_some h
          obtain ⟨hi38, h⟩ := h
          refine rf_iald hx hb hK hP (q := 10) rfl hi38 dR_small_99 ?_
          refine lv_iadd hx hb dR_small_100 ?_
          replace h := fl_ck_some h
          obtain ⟨hi39, h⟩ := h
          refine rf_iald hx hb hK hP (q := 11) rfl hi39 dR_small_101 ?_
          refine lv_istore_n (lv' := [(3, .int ((fl_up g33 10 (Int32.toNatClampNeg a0) ((g33 10 (Int32.toNatClampNeg a0)) - 1)) 11 (Int32.toNatClampNeg ((16 * a0) + ((fl_up g33 10 (Int32.toNatClampNeg a0) ((g33 10 (Int32.toNatClampNeg a0)) - 1)) 10 (Int32.toNatClampNeg a0)))))), (2, .int (g33 9 (Int32.toNatClampNeg a0))), (0, .ref (ad 0)), (1, .int a0)]) hx hb dR_small_102 rfl hl (by decide) rfl (fun ls hl => ?_)
          refine lv_aload_n hx hb dR_small_103 rfl (lv_at hl 2 rfl) ?_
          refine rf_get0 (v := .ref (ad 7)) hx hb hts rf_in0 hown hK hP (q := 0) rfl 7 (by decide) (hts _ gm_509) rfl dR_small_104 ?_
          refine lv_bipush (v := 16) hx hb dR_small_107 (by decide) ?_
          refine lv_iload_n hx hb dR_small_109 rfl (lv_at hl 1 rfl) ?_
          refine lv_imul hx hb dR_small_110 ?_
          refine lv_iload_n hx hb dR_small_111 rfl (lv_at hl 0 rfl) ?_
          refine lv_iadd hx hb dR_small_112 ?_
          refine lv_aload_n hx hb dR_small_113 rfl (lv_at hl 2 rfl) ?_
          refine rf_get0 (v := .ref (ad 6)) hx hb hts rf_in0 hown hK hP (q := 0) rfl 6 (by decide) (hts _ gm_508) rfl dR_small_114 ?_
          refine lv_iload_n hx hb dR_small_117 rfl (lv_at hl 1 rfl) ?_
          replace h := fl_ck_some h
          obtain ⟨hi40, h⟩ := h
          refine rf_iald hx hb hK hP (q := 6) rfl hi40 dR_small_118 ?_
          replace h := fl_ck_some h
          obtain ⟨hi41, h⟩ := h
          refine rf_iast hx hb hK hP hI hS (q := 7) rfl hi41 dR_small_119 (fun H locs hP hS => ?_)
          have hP : va_P (dC, dI) al_cl (fl_ws 14 (rf_sh ca ad) ad (fl_up (fl_up g33 10 (Int32.toNatClampNeg a0) ((g33 10 (Int32.toNatClampNeg a0)) - 1)) 7 (Int32.toNatClampNeg ((16 * (g33 9 (Int32.toNatClampNeg a0))) + ((fl_up g33 10 (Int32.toNatClampNeg a0) ((g33 10 (Int32.toNatClampNeg a0)) - 1)) 11 (Int32.toNatClampNeg ((16 * a0) + ((fl_up g33 10 (Int32.toNatClampNeg a0) ((g33 10 (Int32.toNatClampNeg a0)) - 1)) 10 (Int32.toNatClampNeg a0))))))) ((fl_up g33 10 (Int32.toNatClampNeg a0) ((g33 10 (Int32.toNatClampNeg a0)) - 1)) 6 (Int32.toNatClampNeg (g33 9 (Int32.toNatClampNeg a0)))))) H := hP
          refine lv_aload_n hx hb dR_small_120 rfl (lv_at hl 2 rfl) ?_
          refine lv_bipush (v := 16) hx hb dR_small_121 (by decide) ?_
          refine lv_iload_n hx hb dR_small_123 rfl (lv_at hl 1 rfl) ?_
          refine lv_imul hx hb dR_small_124 ?_
          refine lv_iload_n hx hb dR_small_125 rfl (lv_at hl 0 rfl) ?_
          refine lv_iload_n hx hb dR_small_126 rfl (lv_at hl 3 rfl) ?_
          refine lv_ishl hx hb dR_small_127 ?_
          refine lv_iadd hx hb dR_small_128 ?_
          refine lv_iconst (v := 1) hx hb dR_small_129 (by decide) ?_
          refine lv_iload_n hx hb dR_small_130 rfl (lv_at hl 3 rfl) ?_
          refine lv_ishl hx hb dR_small_131 ?_
          replace h := fl_bd_some h
          obtain ⟨r42, g43, hc44, h⟩ := h
          refine fl_callv (va_runV (As := [.int ((16 * (g33 9 (Int32.toNatClampNeg a0))) + (((fl_up g33 10 (Int32.toNatClampNeg a0) ((g33 10 (Int32.toNatClampNeg a0)) - 1)) 11 (Int32.toNatClampNeg ((16 * a0) + ((fl_up g33 10 (Int32.toNatClampNeg a0) ((g33 10 (Int32.toNatClampNeg a0)) - 1)) 10 (Int32.toNatClampNeg a0))))) <<< (a0 &&& 31))), .int (1 <<< (a0 &&& 31))]) (rest := []) ⟨hx, hb, hml, hown, hts⟩ (cR_zero l dC dI ca ad hI ((16 * (g33 9 (Int32.toNatClampNeg a0))) + (((fl_up g33 10 (Int32.toNatClampNeg a0) ((g33 10 (Int32.toNatClampNeg a0)) - 1)) 11 (Int32.toNatClampNeg ((16 * a0) + ((fl_up g33 10 (Int32.toNatClampNeg a0) ((g33 10 (Int32.toNatClampNeg a0)) - 1)) 10 (Int32.toNatClampNeg a0))))) <<< (a0 &&& 31))) (1 <<< (a0 &&& 31)) hc44) (kR_zero hts (hts _ gm_575) ⟨Nat.le_of_ble_eq_true rfl, Nat.le_of_ble_eq_true rfl⟩) (fl_preV hK hP hN (rf_lt rfl (by decide)) (rf_sh0 rfl) rfl) rfl rfl hl.1 rfl (lv_room (Nat.le_of_ble_eq_true rfl)) dR_small_132 ⟨Nat.le_refl 0, Nat.le_refl 0⟩) hS (fun H locs hP hS => ?_)
          refine lv_bipush (v := 16) hx hb dR_small_135 (by decide) ?_
          refine lv_aload_n hx hb dR_small_137 rfl (lv_at hl 2 rfl) ?_
          refine rf_get0 (v := .ref (ad 6)) hx hb hts rf_in0 hown hK hP (q := 0) rfl 6 (by decide) (hts _ gm_508) rfl dR_small_138 ?_
          refine lv_iload_n hx hb dR_small_141 rfl (lv_at hl 1 rfl) ?_
          replace h := fl_ck_some h
          obtain ⟨hi45, h⟩ := h
          refine rf_iald hx hb hK hP (q := 6) rfl hi45 dR_small_142 ?_
          refine lv_imul hx hb dR_small_143 ?_
          refine lv_iload_n hx hb dR_small_144 rfl (lv_at hl 0 rfl) ?_
          refine lv_iload_n hx hb dR_small_145 rfl (lv_at hl 3 rfl) ?_
          refine lv_ishl hx hb dR_small_146 ?_
          refine lv_iadd hx hb dR_small_147 ?_
          exact fl_iret hx hb hr hlocks hP hS h dR_small_148
        · replace h := fl_pos c28 h
          refine lv_iconst (v := (-1)) hx hb dR_small_51 (by decide) ?_
          exact fl_iret hx hb hr hlocks hP hS h dR_small_52
  · replace h := fl_neg c2 h
    refine lv_aload_n hx hb dR_small_10 rfl (lv_at hl 0 rfl) ?_
    refine rf_get0 (v := .ref (ad 10)) hx hb hts rf_in0 hown hK hP (q := 0) rfl 11 (by decide) (hts _ gm_513) rfl dR_small_11 ?_
    refine lv_iload_n hx hb dR_small_14 rfl (lv_at hl 1 rfl) ?_
    replace h := fl_ck_some h
    obtain ⟨hi46, h⟩ := h
    refine rf_iald hx hb hK hP (q := 10) rfl hi46 dR_small_15 ?_
    refine lv_if_ne (tgt := 65) hx hb dR_small_16 (by decide) (fun c47 => ?_) (fun c47 => ?_)
    · replace h := fl_neg c47 h
      refine lv_aload_n hx hb dR_small_65 rfl (lv_at hl 0 rfl) ?_
      refine rf_get0 (v := .ref (ad 9)) hx hb hts rf_in0 hown hK hP (q := 0) rfl 10 (by decide) (hts _ gm_512) rfl dR_small_66 ?_
      refine lv_iload_n hx hb dR_small_69 rfl (lv_at hl 1 rfl) ?_
      replace h := fl_ck_some h
      obtain ⟨hi48, h⟩ := h
      refine rf_iald hx hb hK hP (q := 9) rfl hi48 dR_small_70 ?_
      refine lv_istore_n (lv' := [(2, .int (g 9 (Int32.toNatClampNeg a0))), (0, .ref (ad 0)), (1, .int a0)]) hx hb dR_small_71 rfl hl (by decide) rfl (fun ls hl => ?_)
      refine lv_aload_n hx hb dR_small_72 rfl (lv_at hl 1 rfl) ?_
      refine rf_get0 (v := .ref (ad 10)) hx hb hts rf_in0 hown hK hP (q := 0) rfl 11 (by decide) (hts _ gm_513) rfl dR_small_73 ?_
      refine lv_iload_n hx hb dR_small_76 rfl (lv_at hl 2 rfl) ?_
      refine lv_aload_n hx hb dR_small_77 rfl (lv_at hl 1 rfl) ?_
      refine rf_get0 (v := .ref (ad 10)) hx hb hts rf_in0 hown hK hP (q := 0) rfl 11 (by decide) (hts _ gm_513) rfl dR_small_78 ?_
      refine lv_iload_n hx hb dR_small_81 rfl (lv_at hl 2 rfl) ?_
      replace h := fl_ck_some h
      obtain ⟨hi49, h⟩ := h
      refine rf_iald hx hb hK hP (q := 10) rfl hi49 dR_small_82 ?_
      refine lv_iconst (v := 1) hx hb dR_small_83 (by decide) ?_
      refine lv_isub hx hb dR_small_84 ?_
      replace h := fl_ck_some h
      obtain ⟨hi50, h⟩ := h
      refine rf_iast hx hb hK hP hI hS (q := 10) rfl hi50 dR_small_85 (fun H locs hP hS => ?_)
      have hP : va_P (dC, dI) al_cl (fl_ws 14 (rf_sh ca ad) ad (fl_up g 10 (Int32.toNatClampNeg a0) ((g 10 (Int32.toNatClampNeg a0)) - 1))) H := hP
      refine lv_aload_n hx hb dR_small_86 rfl (lv_at hl 1 rfl) ?_
      refine rf_get0 (v := .ref (ad 11)) hx hb hts rf_in0 hown hK hP (q := 0) rfl 12 (by decide) (hts _ gm_514) rfl dR_small_87 ?_
      refine lv_bipush (v := 16) hx hb dR_small_90 (by decide) ?_
      refine lv_iload_n hx hb dR_small_92 rfl (lv_at hl 2 rfl) ?_
      refine lv_imul hx hb dR_small_93 ?_
      refine lv_aload_n hx hb dR_small_94 rfl (lv_at hl 1 rfl) ?_
      refine rf_get0 (v := .ref (ad 10)) hx hb hts rf_in0 hown hK hP (q := 0) rfl 11 (by decide) (hts _ gm_513) rfl dR_small_95 ?_
      refine lv_iload_n hx hb dR_small_98 rfl (lv_at hl 2 rfl) ?_
      replace h := fl_ck_some h
      obtain ⟨hi51, h⟩ := h
      refine rf_iald hx hb hK hP (q := 10) rfl hi51 dR_small_99 ?_
      refine lv_iadd hx hb dR_small_100 ?_
      replace h := fl_ck_some h
      obtain ⟨hi52, h⟩ := h
      refine rf_iald hx hb hK hP (q := 11) rfl hi52 dR_small_101 ?_
      refine lv_istore_n (lv' := [(3, .int ((fl_up g 10 (Int32.toNatClampNeg a0) ((g 10 (Int32.toNatClampNeg a0)) - 1)) 11 (Int32.toNatClampNeg ((16 * a0) + ((fl_up g 10 (Int32.toNatClampNeg a0) ((g 10 (Int32.toNatClampNeg a0)) - 1)) 10 (Int32.toNatClampNeg a0)))))), (2, .int (g 9 (Int32.toNatClampNeg a0))), (0, .ref (ad 0)), (1, .int a0)]) hx hb dR_small_102 rfl hl (by decide) rfl (fun ls hl => ?_)
      refine lv_aload_n hx hb dR_small_103 rfl (lv_at hl 2 rfl) ?_
      refine rf_get0 (v := .ref (ad 7)) hx hb hts rf_in0 hown hK hP (q := 0) rfl 7 (by decide) (hts _ gm_509) rfl dR_small_104 ?_
      refine lv_bipush (v := 16) hx hb dR_small_107 (by decide) ?_
      refine lv_iload_n hx hb dR_small_109 rfl (lv_at hl 1 rfl) ?_
      refine lv_imul hx hb dR_small_110 ?_
      refine lv_iload_n hx hb dR_small_111 rfl (lv_at hl 0 rfl) ?_
      refine lv_iadd hx hb dR_small_112 ?_
      refine lv_aload_n hx hb dR_small_113 rfl (lv_at hl 2 rfl) ?_
      refine rf_get0 (v := .ref (ad 6)) hx hb hts rf_in0 hown hK hP (q := 0) rfl 6 (by decide) (hts _ gm_508) rfl dR_small_114 ?_
      refine lv_iload_n hx hb dR_small_117 rfl (lv_at hl 1 rfl) ?_
      replace h := fl_ck_some h
      obtain ⟨hi53, h⟩ := h
      refine rf_iald hx hb hK hP (q := 6) rfl hi53 dR_small_118 ?_
      replace h := fl_ck_some h
      obtain ⟨hi54, h⟩ := h
      refine rf_iast hx hb hK hP hI hS (q := 7) rfl hi54 dR_small_119 (fun H locs hP hS => ?_)
      have hP : va_P (dC, dI) al_cl (fl_ws 14 (rf_sh ca ad) ad (fl_up (fl_up g 10 (Int32.toNatClampNeg a0) ((g 10 (Int32.toNatClampNeg a0)) - 1)) 7 (Int32.toNatClampNeg ((16 * (g 9 (Int32.toNatClampNeg a0))) + ((fl_up g 10 (Int32.toNatClampNeg a0) ((g 10 (Int32.toNatClampNeg a0)) - 1)) 11 (Int32.toNatClampNeg ((16 * a0) + ((fl_up g 10 (Int32.toNatClampNeg a0) ((g 10 (Int32.toNatClampNeg a0)) - 1)) 10 (Int32.toNatClampNeg a0))))))) ((fl_up g 10 (Int32.toNatClampNeg a0) ((g 10 (Int32.toNatClampNeg a0)) - 1)) 6 (Int32.toNatClampNeg (g 9 (Int32.toNatClampNeg a0)))))) H := hP
      refine lv_aload_n hx hb dR_small_120 rfl (lv_at hl 2 rfl) ?_
      refine lv_bipush (v := 16) hx hb dR_small_121 (by decide) ?_
      refine lv_iload_n hx hb dR_small_123 rfl (lv_at hl 1 rfl) ?_
      refine lv_imul hx hb dR_small_124 ?_
      refine lv_iload_n hx hb dR_small_125 rfl (lv_at hl 0 rfl) ?_
      refine lv_iload_n hx hb dR_small_126 rfl (lv_at hl 3 rfl) ?_
      refine lv_ishl hx hb dR_small_127 ?_
      refine lv_iadd hx hb dR_small_128 ?_
      refine lv_iconst (v := 1) hx hb dR_small_129 (by decide) ?_
      refine lv_iload_n hx hb dR_small_130 rfl (lv_at hl 3 rfl) ?_
      refine lv_ishl hx hb dR_small_131 ?_
      replace h := fl_bd_some h
      obtain ⟨r55, g56, hc57, h⟩ := h
      refine fl_callv (va_runV (As := [.int ((16 * (g 9 (Int32.toNatClampNeg a0))) + (((fl_up g 10 (Int32.toNatClampNeg a0) ((g 10 (Int32.toNatClampNeg a0)) - 1)) 11 (Int32.toNatClampNeg ((16 * a0) + ((fl_up g 10 (Int32.toNatClampNeg a0) ((g 10 (Int32.toNatClampNeg a0)) - 1)) 10 (Int32.toNatClampNeg a0))))) <<< (a0 &&& 31))), .int (1 <<< (a0 &&& 31))]) (rest := []) ⟨hx, hb, hml, hown, hts⟩ (cR_zero l dC dI ca ad hI ((16 * (g 9 (Int32.toNatClampNeg a0))) + (((fl_up g 10 (Int32.toNatClampNeg a0) ((g 10 (Int32.toNatClampNeg a0)) - 1)) 11 (Int32.toNatClampNeg ((16 * a0) + ((fl_up g 10 (Int32.toNatClampNeg a0) ((g 10 (Int32.toNatClampNeg a0)) - 1)) 10 (Int32.toNatClampNeg a0))))) <<< (a0 &&& 31))) (1 <<< (a0 &&& 31)) hc57) (kR_zero hts (hts _ gm_575) ⟨Nat.le_of_ble_eq_true rfl, Nat.le_of_ble_eq_true rfl⟩) (fl_preV hK hP hN (rf_lt rfl (by decide)) (rf_sh0 rfl) rfl) rfl rfl hl.1 rfl (lv_room (Nat.le_of_ble_eq_true rfl)) dR_small_132 ⟨Nat.le_refl 0, Nat.le_refl 0⟩) hS (fun H locs hP hS => ?_)
      refine lv_bipush (v := 16) hx hb dR_small_135 (by decide) ?_
      refine lv_aload_n hx hb dR_small_137 rfl (lv_at hl 2 rfl) ?_
      refine rf_get0 (v := .ref (ad 6)) hx hb hts rf_in0 hown hK hP (q := 0) rfl 6 (by decide) (hts _ gm_508) rfl dR_small_138 ?_
      refine lv_iload_n hx hb dR_small_141 rfl (lv_at hl 1 rfl) ?_
      replace h := fl_ck_some h
      obtain ⟨hi58, h⟩ := h
      refine rf_iald hx hb hK hP (q := 6) rfl hi58 dR_small_142 ?_
      refine lv_imul hx hb dR_small_143 ?_
      refine lv_iload_n hx hb dR_small_144 rfl (lv_at hl 0 rfl) ?_
      refine lv_iload_n hx hb dR_small_145 rfl (lv_at hl 3 rfl) ?_
      refine lv_ishl hx hb dR_small_146 ?_
      refine lv_iadd hx hb dR_small_147 ?_
      exact fl_iret hx hb hr hlocks hP hS h dR_small_148
    · replace h := fl_pos c47 h
      refine lv_aload_n hx hb dR_small_19 rfl (lv_at hl 0 rfl) ?_
      refine lv_iload_n hx hb dR_small_20 rfl (lv_at hl 1 rfl) ?_
      replace h := fl_bd_some h
      obtain ⟨r59, g60, hc61, h⟩ := h
      refine fl_calli (va_runV (As := [.int a0]) (rest := []) ⟨hx, hb, hml, hown, hts⟩ (cR_fullest l dC dI ca ad hI a0 hc61) (kR_fullest hts (hts _ gm_581) ⟨Nat.le_of_ble_eq_true rfl, Nat.le_of_ble_eq_true rfl⟩) (fl_preV hK hP hN (rf_lt rfl (by decide)) (rf_sh0 rfl) rfl) rfl rfl hl.1 rfl (lv_room (Nat.le_of_ble_eq_true rfl)) dR_small_21 ⟨Nat.le_refl 0, Nat.le_refl 0⟩) hS (fun H locs hP hS => ?_)
      refine lv_istore_n (lv' := [(2, .int r59), (0, .ref (ad 0)), (1, .int a0)]) hx hb dR_small_24 rfl hl (by decide) rfl (fun ls hl => ?_)
      refine lv_iload_n hx hb dR_small_25 rfl (lv_at hl 0 rfl) ?_
      refine lv_iconst (v := (-1)) hx hb dR_small_26 (by decide) ?_
      refine lv_icmp_ne (tgt := 59) hx hb dR_small_27 (by decide) (fun c62 => ?_) (fun c62 => ?_)
      · replace h := fl_neg c62 h
        refine lv_aload_n hx hb dR_small_59 rfl (lv_at hl 1 rfl) ?_
        refine lv_iload_n hx hb dR_small_60 rfl (lv_at hl 2 rfl) ?_
        refine lv_iload_n hx hb dR_small_61 rfl (lv_at hl 0 rfl) ?_
        replace h := fl_bd_some h
        obtain ⟨r63, g64, hc65, h⟩ := h
        refine fl_callv (va_runV (As := [.int a0, .int r59]) (rest := []) ⟨hx, hb, hml, hown, hts⟩ (cR_attach l dC dI ca ad hI a0 r59 hc65) (kR_attach hts (hts _ gm_596) ⟨Nat.le_of_ble_eq_true rfl, Nat.le_of_ble_eq_true rfl⟩) (fl_preV hK hP hN (rf_lt rfl (by decide)) (rf_sh0 rfl) rfl) rfl rfl hl.1 rfl (lv_room (Nat.le_of_ble_eq_true rfl)) dR_small_62 ⟨Nat.le_refl 0, Nat.le_refl 0⟩) hS (fun H locs hP hS => ?_)
        refine lv_aload_n hx hb dR_small_65 rfl (lv_at hl 1 rfl) ?_
        refine rf_get0 (v := .ref (ad 9)) hx hb hts rf_in0 hown hK hP (q := 0) rfl 10 (by decide) (hts _ gm_512) rfl dR_small_66 ?_
        refine lv_iload_n hx hb dR_small_69 rfl (lv_at hl 2 rfl) ?_
        replace h := fl_ck_some h
        obtain ⟨hi66, h⟩ := h
        refine rf_iald hx hb hK hP (q := 9) rfl hi66 dR_small_70 ?_
        refine lv_istore_n (lv' := [(2, .int (g64 9 (Int32.toNatClampNeg a0))), (0, .ref (ad 0)), (1, .int a0)]) hx hb dR_small_71 rfl hl (by decide) rfl (fun ls hl => ?_)
        refine lv_aload_n hx hb dR_small_72 rfl (lv_at hl 1 rfl) ?_
        refine rf_get0 (v := .ref (ad 10)) hx hb hts rf_in0 hown hK hP (q := 0) rfl 11 (by decide) (hts _ gm_513) rfl dR_small_73 ?_
        refine lv_iload_n hx hb dR_small_76 rfl (lv_at hl 2 rfl) ?_
        refine lv_aload_n hx hb dR_small_77 rfl (lv_at hl 1 rfl) ?_
        refine rf_get0 (v := .ref (ad 10)) hx hb hts rf_in0 hown hK hP (q := 0) rfl 11 (by decide) (hts _ gm_513) rfl dR_small_78 ?_
        refine lv_iload_n hx hb dR_small_81 rfl (lv_at hl 2 rfl) ?_
        replace h := fl_ck_some h
        obtain ⟨hi67, h⟩ := h
        refine rf_iald hx hb hK hP (q := 10) rfl hi67 dR_small_82 ?_
        refine lv_iconst (v := 1) hx hb dR_small_83 (by decide) ?_
        refine lv_isub hx hb dR_small_84 ?_
        replace h := fl_ck_some h
        obtain ⟨hi68, h⟩ := h
        refine rf_iast hx hb hK hP hI hS (q := 10) rfl hi68 dR_small_85 (fun H locs hP hS => ?_)
        have hP : va_P (dC, dI) al_cl (fl_ws 14 (rf_sh ca ad) ad (fl_up g64 10 (Int32.toNatClampNeg a0) ((g64 10 (Int32.toNatClampNeg a0)) - 1))) H := hP
        refine lv_aload_n hx hb dR_small_86 rfl (lv_at hl 1 rfl) ?_
        refine rf_get0 (v := .ref (ad 11)) hx hb hts rf_in0 hown hK hP (q := 0) rfl 12 (by decide) (hts _ gm_514) rfl dR_small_87 ?_
        refine lv_bipush (v := 16) hx hb dR_small_90 (by decide) ?_
        refine lv_iload_n hx hb dR_small_92 rfl (lv_at hl 2 rfl) ?_
        refine lv_imul hx hb dR_small_93 ?_
        refine lv_aload_n hx hb dR_small_94 rfl (lv_at hl 1 rfl) ?_
        refine rf_get0 (v := .ref (ad 10)) hx hb hts rf_in0 hown hK hP (q := 0) rfl 11 (by decide) (hts _ gm_513) rfl dR_small_95 ?_
        refine lv_iload_n hx hb dR_small_98 rfl (lv_at hl 2 rfl) ?_
        replace h := fl_ck_some h
        obtain ⟨hi69, h⟩ := h
        refine rf_iald hx hb hK hP (q := 10) rfl hi69 dR_small_99 ?_
        refine lv_iadd hx hb dR_small_100 ?_
        replace h := fl_ck_some h
        obtain ⟨hi70, h⟩ := h
        refine rf_iald hx hb hK hP (q := 11) rfl hi70 dR_small_101 ?_
        refine lv_istore_n (lv' := [(3, .int ((fl_up g64 10 (Int32.toNatClampNeg a0) ((g64 10 (Int32.toNatClampNeg a0)) - 1)) 11 (Int32.toNatClampNeg ((16 * a0) + ((fl_up g64 10 (Int32.toNatClampNeg a0) ((g64 10 (Int32.toNatClampNeg a0)) - 1)) 10 (Int32.toNatClampNeg a0)))))), (2, .int (g64 9 (Int32.toNatClampNeg a0))), (0, .ref (ad 0)), (1, .int a0)]) hx hb dR_small_102 rfl hl (by decide) rfl (fun ls hl => ?_)
        refine lv_aload_n hx hb dR_small_103 rfl (lv_at hl 2 rfl) ?_
        refine rf_get0 (v := .ref (ad 7)) hx hb hts rf_in0 hown hK hP (q := 0) rfl 7 (by decide) (hts _ gm_509) rfl dR_small_104 ?_
        refine lv_bipush (v := 16) hx hb dR_small_107 (by decide) ?_
        refine lv_iload_n hx hb dR_small_109 rfl (lv_at hl 1 rfl) ?_
        refine lv_imul hx hb dR_small_110 ?_
        refine lv_iload_n hx hb dR_small_111 rfl (lv_at hl 0 rfl) ?_
        refine lv_iadd hx hb dR_small_112 ?_
        refine lv_aload_n hx hb dR_small_113 rfl (lv_at hl 2 rfl) ?_
        refine rf_get0 (v := .ref (ad 6)) hx hb hts rf_in0 hown hK hP (q := 0) rfl 6 (by decide) (hts _ gm_508) rfl dR_small_114 ?_
        refine lv_iload_n hx hb dR_small_117 rfl (lv_at hl 1 rfl) ?_
        replace h := fl_ck_some h
        obtain ⟨hi71, h⟩ := h
        refine rf_iald hx hb hK hP (q := 6) rfl hi71 dR_small_118 ?_
        replace h := fl_ck_some h
        obtain ⟨hi72, h⟩ := h
        refine rf_iast hx hb hK hP hI hS (q := 7) rfl hi72 dR_small_119 (fun H locs hP hS => ?_)
        have hP : va_P (dC, dI) al_cl (fl_ws 14 (rf_sh ca ad) ad (fl_up (fl_up g64 10 (Int32.toNatClampNeg a0) ((g64 10 (Int32.toNatClampNeg a0)) - 1)) 7 (Int32.toNatClampNeg ((16 * (g64 9 (Int32.toNatClampNeg a0))) + ((fl_up g64 10 (Int32.toNatClampNeg a0) ((g64 10 (Int32.toNatClampNeg a0)) - 1)) 11 (Int32.toNatClampNeg ((16 * a0) + ((fl_up g64 10 (Int32.toNatClampNeg a0) ((g64 10 (Int32.toNatClampNeg a0)) - 1)) 10 (Int32.toNatClampNeg a0))))))) ((fl_up g64 10 (Int32.toNatClampNeg a0) ((g64 10 (Int32.toNatClampNeg a0)) - 1)) 6 (Int32.toNatClampNeg (g64 9 (Int32.toNatClampNeg a0)))))) H := hP
        refine lv_aload_n hx hb dR_small_120 rfl (lv_at hl 2 rfl) ?_
        refine lv_bipush (v := 16) hx hb dR_small_121 (by decide) ?_
        refine lv_iload_n hx hb dR_small_123 rfl (lv_at hl 1 rfl) ?_
        refine lv_imul hx hb dR_small_124 ?_
        refine lv_iload_n hx hb dR_small_125 rfl (lv_at hl 0 rfl) ?_
        refine lv_iload_n hx hb dR_small_126 rfl (lv_at hl 3 rfl) ?_
        refine lv_ishl hx hb dR_small_127 ?_
        refine lv_iadd hx hb dR_small_128 ?_
        refine lv_iconst (v := 1) hx hb dR_small_129 (by decide) ?_
        refine lv_iload_n hx hb dR_small_130 rfl (lv_at hl 3 rfl) ?_
        refine lv_ishl hx hb dR_small_131 ?_
        replace h := fl_bd_some h
        obtain ⟨r73, g74, hc75, h⟩ := h
        refine fl_callv (va_runV (As := [.int ((16 * (g64 9 (Int32.toNatClampNeg a0))) + (((fl_up g64 10 (Int32.toNatClampNeg a0) ((g64 10 (Int32.toNatClampNeg a0)) - 1)) 11 (Int32.toNatClampNeg ((16 * a0) + ((fl_up g64 10 (Int32.toNatClampNeg a0) ((g64 10 (Int32.toNatClampNeg a0)) - 1)) 10 (Int32.toNatClampNeg a0))))) <<< (a0 &&& 31))), .int (1 <<< (a0 &&& 31))]) (rest := []) ⟨hx, hb, hml, hown, hts⟩ (cR_zero l dC dI ca ad hI ((16 * (g64 9 (Int32.toNatClampNeg a0))) + (((fl_up g64 10 (Int32.toNatClampNeg a0) ((g64 10 (Int32.toNatClampNeg a0)) - 1)) 11 (Int32.toNatClampNeg ((16 * a0) + ((fl_up g64 10 (Int32.toNatClampNeg a0) ((g64 10 (Int32.toNatClampNeg a0)) - 1)) 10 (Int32.toNatClampNeg a0))))) <<< (a0 &&& 31))) (1 <<< (a0 &&& 31)) hc75) (kR_zero hts (hts _ gm_575) ⟨Nat.le_of_ble_eq_true rfl, Nat.le_of_ble_eq_true rfl⟩) (fl_preV hK hP hN (rf_lt rfl (by decide)) (rf_sh0 rfl) rfl) rfl rfl hl.1 rfl (lv_room (Nat.le_of_ble_eq_true rfl)) dR_small_132 ⟨Nat.le_refl 0, Nat.le_refl 0⟩) hS (fun H locs hP hS => ?_)
        refine lv_bipush (v := 16) hx hb dR_small_135 (by decide) ?_
        refine lv_aload_n hx hb dR_small_137 rfl (lv_at hl 2 rfl) ?_
        refine rf_get0 (v := .ref (ad 6)) hx hb hts rf_in0 hown hK hP (q := 0) rfl 6 (by decide) (hts _ gm_508) rfl dR_small_138 ?_
        refine lv_iload_n hx hb dR_small_141 rfl (lv_at hl 1 rfl) ?_
        replace h := fl_ck_some h
        obtain ⟨hi76, h⟩ := h
        refine rf_iald hx hb hK hP (q := 6) rfl hi76 dR_small_142 ?_
        refine lv_imul hx hb dR_small_143 ?_
        refine lv_iload_n hx hb dR_small_144 rfl (lv_at hl 0 rfl) ?_
        refine lv_iload_n hx hb dR_small_145 rfl (lv_at hl 3 rfl) ?_
        refine lv_ishl hx hb dR_small_146 ?_
        refine lv_iadd hx hb dR_small_147 ?_
        exact fl_iret hx hb hr hlocks hP hS h dR_small_148
      · replace h := fl_pos c62 h
        refine lv_aload_n hx hb dR_small_30 rfl (lv_at hl 1 rfl) ?_
        replace h := fl_bd_some h
        obtain ⟨r77, g78, hc79, h⟩ := h
        refine fl_calli (va_runV (As := []) (rest := []) ⟨hx, hb, hml, hown, hts⟩ (cR_freePhysical l dC dI ca ad hI  hc79) (kR_freePhysical hts (hts _ gm_572) ⟨Nat.le_of_ble_eq_true rfl, Nat.le_of_ble_eq_true rfl⟩) (fl_preV hK hP hN (rf_lt rfl (by decide)) (rf_sh0 rfl) rfl) rfl rfl hl.1 rfl (lv_room (Nat.le_of_ble_eq_true rfl)) dR_small_31 ⟨Nat.le_refl 0, Nat.le_refl 0⟩) hS (fun H locs hP hS => ?_)
        refine lv_istore_n (lv' := [(2, .int r77), (0, .ref (ad 0)), (1, .int a0)]) hx hb dR_small_34 rfl hl (by decide) rfl (fun ls hl => ?_)
        refine lv_iload_n hx hb dR_small_35 rfl (lv_at hl 0 rfl) ?_
        refine lv_bipush (v := 12) hx hb dR_small_36 (by decide) ?_
        refine lv_icmp_eq (tgt := 51) hx hb dR_small_38 (by decide) (fun c80 => ?_) (fun c80 => ?_)
        · replace h := fl_pos c80 h
          refine lv_iconst (v := (-1)) hx hb dR_small_51 (by decide) ?_
          exact fl_iret hx hb hr hlocks hP hS h dR_small_52
        · replace h := fl_neg c80 h
          refine lv_aload_n hx hb dR_small_41 rfl (lv_at hl 1 rfl) ?_
          refine lv_iconst (v := 1) hx hb dR_small_42 (by decide) ?_
          replace h := fl_bd_some h
          obtain ⟨r81, g82, hc83, h⟩ := h
          refine fl_calli (va_runV (As := [.int 1]) (rest := []) ⟨hx, hb, hml, hown, hts⟩ (cR_freeVirtual l dC dI ca ad hI 1 hc83) (kR_freeVirtual hts (hts _ gm_565) ⟨Nat.le_of_ble_eq_true rfl, Nat.le_of_ble_eq_true rfl⟩) (fl_preV hK hP hN (rf_lt rfl (by decide)) (rf_sh0 rfl) rfl) rfl rfl hl.1 rfl (lv_room (Nat.le_of_ble_eq_true rfl)) dR_small_43 ⟨Nat.le_refl 0, Nat.le_refl 0⟩) hS (fun H locs hP hS => ?_)
          refine lv_bipush (v := 24) hx hb dR_small_46 (by decide) ?_
          refine lv_icmp_ne (tgt := 53) hx hb dR_small_48 (by decide) (fun c84 => ?_) (fun c84 => ?_)
          · replace h := fl_neg c84 h
            refine lv_aload_n hx hb dR_small_53 rfl (lv_at hl 1 rfl) ?_
            refine lv_iload_n hx hb dR_small_54 rfl (lv_at hl 2 rfl) ?_
            refine lv_iload_n hx hb dR_small_55 rfl (lv_at hl 0 rfl) ?_
            replace h := fl_bd_some h
            obtain ⟨r85, g86, hc87, h⟩ := h
            refine fl_callv (va_runV (As := [.int a0, .int r77]) (rest := []) ⟨hx, hb, hml, hown, hts⟩ (cR_begin l dC dI ca ad hI a0 r77 hc87) (kR_begin hts (hts _ gm_593) ⟨Nat.le_of_ble_eq_true rfl, Nat.le_of_ble_eq_true rfl⟩) (fl_preV hK hP hN (rf_lt rfl (by decide)) (rf_sh0 rfl) rfl) rfl rfl hl.1 rfl (lv_room (Nat.le_of_ble_eq_true rfl)) dR_small_56 ⟨Nat.le_refl 0, Nat.le_refl 0⟩) hS (fun H locs hP hS => ?_)
            refine lv_aload_n hx hb dR_small_59 rfl (lv_at hl 1 rfl) ?_
            refine lv_iload_n hx hb dR_small_60 rfl (lv_at hl 2 rfl) ?_
            refine lv_iload_n hx hb dR_small_61 rfl (lv_at hl 0 rfl) ?_
            replace h := fl_bd_some h
            obtain ⟨r88, g89, hc90, h⟩ := h
            refine fl_callv (va_runV (As := [.int a0, .int r77]) (rest := []) ⟨hx, hb, hml, hown, hts⟩ (cR_attach l dC dI ca ad hI a0 r77 hc90) (kR_attach hts (hts _ gm_596) ⟨Nat.le_of_ble_eq_true rfl, Nat.le_of_ble_eq_true rfl⟩) (fl_preV hK hP hN (rf_lt rfl (by decide)) (rf_sh0 rfl) rfl) rfl rfl hl.1 rfl (lv_room (Nat.le_of_ble_eq_true rfl)) dR_small_62 ⟨Nat.le_refl 0, Nat.le_refl 0⟩) hS (fun H locs hP hS => ?_)
            refine lv_aload_n hx hb dR_small_65 rfl (lv_at hl 1 rfl) ?_
            refine rf_get0 (v := .ref (ad 9)) hx hb hts rf_in0 hown hK hP (q := 0) rfl 10 (by decide) (hts _ gm_512) rfl dR_small_66 ?_
            refine lv_iload_n hx hb dR_small_69 rfl (lv_at hl 2 rfl) ?_
            replace h := fl_ck_some h
            obtain ⟨hi91, h⟩ := h
            refine rf_iald hx hb hK hP (q := 9) rfl hi91 dR_small_70 ?_
            refine lv_istore_n (lv' := [(2, .int (g89 9 (Int32.toNatClampNeg a0))), (0, .ref (ad 0)), (1, .int a0)]) hx hb dR_small_71 rfl hl (by decide) rfl (fun ls hl => ?_)
            refine lv_aload_n hx hb dR_small_72 rfl (lv_at hl 1 rfl) ?_
            refine rf_get0 (v := .ref (ad 10)) hx hb hts rf_in0 hown hK hP (q := 0) rfl 11 (by decide) (hts _ gm_513) rfl dR_small_73 ?_
            refine lv_iload_n hx hb dR_small_76 rfl (lv_at hl 2 rfl) ?_
            refine lv_aload_n hx hb dR_small_77 rfl (lv_at hl 1 rfl) ?_
            refine rf_get0 (v := .ref (ad 10)) hx hb hts rf_in0 hown hK hP (q := 0) rfl 11 (by decide) (hts _ gm_513) rfl dR_small_78 ?_
            refine lv_iload_n hx hb dR_small_81 rfl (lv_at hl 2 rfl) ?_
            replace h := fl_ck_some h
            obtain ⟨hi92, h⟩ := h
            refine rf_iald hx hb hK hP (q := 10) rfl hi92 dR_small_82 ?_
            refine lv_iconst (v := 1) hx hb dR_small_83 (by decide) ?_
            refine lv_isub hx hb dR_small_84 ?_
            replace h := fl_ck_some h
            obtain ⟨hi93, h⟩ := h
            refine rf_iast hx hb hK hP hI hS (q := 10) rfl hi93 dR_small_85 (fun H locs hP hS => ?_)
            have hP : va_P (dC, dI) al_cl (fl_ws 14 (rf_sh ca ad) ad (fl_up g89 10 (Int32.toNatClampNeg a0) ((g89 10 (Int32.toNatClampNeg a0)) - 1))) H := hP
            refine lv_aload_n hx hb dR_small_86 rfl (lv_at hl 1 rfl) ?_
            refine rf_get0 (v := .ref (ad 11)) hx hb hts rf_in0 hown hK hP (q := 0) rfl 12 (by decide) (hts _ gm_514) rfl dR_small_87 ?_
            refine lv_bipush (v := 16) hx hb dR_small_90 (by decide) ?_
            refine lv_iload_n hx hb dR_small_92 rfl (lv_at hl 2 rfl) ?_
            refine lv_imul hx hb dR_small_93 ?_
            refine lv_aload_n hx hb dR_small_94 rfl (lv_at hl 1 rfl) ?_
            refine rf_get0 (v := .ref (ad 10)) hx hb hts rf_in0 hown hK hP (q := 0) rfl 11 (by decide) (hts _ gm_513) rfl dR_small_95 ?_
            refine lv_iload_n hx hb dR_small_98 rfl (lv_at hl 2 rfl) ?_
            replace h := fl_ck_some h
            obtain ⟨hi94, h⟩ := h
            refine rf_iald hx hb hK hP (q := 10) rfl hi94 dR_small_99 ?_
            refine lv_iadd hx hb dR_small_100 ?_
            replace h := fl_ck_some h
            obtain ⟨hi95, h⟩ := h
            refine rf_iald hx hb hK hP (q := 11) rfl hi95 dR_small_101 ?_
            refine lv_istore_n (lv' := [(3, .int ((fl_up g89 10 (Int32.toNatClampNeg a0) ((g89 10 (Int32.toNatClampNeg a0)) - 1)) 11 (Int32.toNatClampNeg ((16 * a0) + ((fl_up g89 10 (Int32.toNatClampNeg a0) ((g89 10 (Int32.toNatClampNeg a0)) - 1)) 10 (Int32.toNatClampNeg a0)))))), (2, .int (g89 9 (Int32.toNatClampNeg a0))), (0, .ref (ad 0)), (1, .int a0)]) hx hb dR_small_102 rfl hl (by decide) rfl (fun ls hl => ?_)
            refine lv_aload_n hx hb dR_small_103 rfl (lv_at hl 2 rfl) ?_
            refine rf_get0 (v := .ref (ad 7)) hx hb hts rf_in0 hown hK hP (q := 0) rfl 7 (by decide) (hts _ gm_509) rfl dR_small_104 ?_
            refine lv_bipush (v := 16) hx hb dR_small_107 (by decide) ?_
            refine lv_iload_n hx hb dR_small_109 rfl (lv_at hl 1 rfl) ?_
            refine lv_imul hx hb dR_small_110 ?_
            refine lv_iload_n hx hb dR_small_111 rfl (lv_at hl 0 rfl) ?_
            refine lv_iadd hx hb dR_small_112 ?_
            refine lv_aload_n hx hb dR_small_113 rfl (lv_at hl 2 rfl) ?_
            refine rf_get0 (v := .ref (ad 6)) hx hb hts rf_in0 hown hK hP (q := 0) rfl 6 (by decide) (hts _ gm_508) rfl dR_small_114 ?_
            refine lv_iload_n hx hb dR_small_117 rfl (lv_at hl 1 rfl) ?_
            replace h := fl_ck_some h
            obtain ⟨hi96, h⟩ := h
            refine rf_iald hx hb hK hP (q := 6) rfl hi96 dR_small_118 ?_
            replace h := fl_ck_some h
            obtain ⟨hi97, h⟩ := h
            refine rf_iast hx hb hK hP hI hS (q := 7) rfl hi97 dR_small_119 (fun H locs hP hS => ?_)
            have hP : va_P (dC, dI) al_cl (fl_ws 14 (rf_sh ca ad) ad (fl_up (fl_up g89 10 (Int32.toNatClampNeg a0) ((g89 10 (Int32.toNatClampNeg a0)) - 1)) 7 (Int32.toNatClampNeg ((16 * (g89 9 (Int32.toNatClampNeg a0))) + ((fl_up g89 10 (Int32.toNatClampNeg a0) ((g89 10 (Int32.toNatClampNeg a0)) - 1)) 11 (Int32.toNatClampNeg ((16 * a0) + ((fl_up g89 10 (Int32.toNatClampNeg a0) ((g89 10 (Int32.toNatClampNeg a0)) - 1)) 10 (Int32.toNatClampNeg a0))))))) ((fl_up g89 10 (Int32.toNatClampNeg a0) ((g89 10 (Int32.toNatClampNeg a0)) - 1)) 6 (Int32.toNatClampNeg (g89 9 (Int32.toNatClampNeg a0)))))) H := hP
            refine lv_aload_n hx hb dR_small_120 rfl (lv_at hl 2 rfl) ?_
            refine lv_bipush (v := 16) hx hb dR_small_121 (by decide) ?_
            refine lv_iload_n hx hb dR_small_123 rfl (lv_at hl 1 rfl) ?_
            refine lv_imul hx hb dR_small_124 ?_
            refine lv_iload_n hx hb dR_small_125 rfl (lv_at hl 0 rfl) ?_
            refine lv_iload_n hx hb dR_small_126 rfl (lv_at hl 3 rfl) ?_
            refine lv_ishl hx hb dR_small_127 ?_
            refine lv_iadd hx hb dR_small_128 ?_
            refine lv_iconst (v := 1) hx hb dR_small_129 (by decide) ?_
            refine lv_iload_n hx hb dR_small_130 rfl (lv_at hl 3 rfl) ?_
            refine lv_ishl hx hb dR_small_131 ?_
            replace h := fl_bd_some h
            obtain ⟨r98, g99, hc100, h⟩ := h
            refine fl_callv (va_runV (As := [.int ((16 * (g89 9 (Int32.toNatClampNeg a0))) + (((fl_up g89 10 (Int32.toNatClampNeg a0) ((g89 10 (Int32.toNatClampNeg a0)) - 1)) 11 (Int32.toNatClampNeg ((16 * a0) + ((fl_up g89 10 (Int32.toNatClampNeg a0) ((g89 10 (Int32.toNatClampNeg a0)) - 1)) 10 (Int32.toNatClampNeg a0))))) <<< (a0 &&& 31))), .int (1 <<< (a0 &&& 31))]) (rest := []) ⟨hx, hb, hml, hown, hts⟩ (cR_zero l dC dI ca ad hI ((16 * (g89 9 (Int32.toNatClampNeg a0))) + (((fl_up g89 10 (Int32.toNatClampNeg a0) ((g89 10 (Int32.toNatClampNeg a0)) - 1)) 11 (Int32.toNatClampNeg ((16 * a0) + ((fl_up g89 10 (Int32.toNatClampNeg a0) ((g89 10 (Int32.toNatClampNeg a0)) - 1)) 10 (Int32.toNatClampNeg a0))))) <<< (a0 &&& 31))) (1 <<< (a0 &&& 31)) hc100) (kR_zero hts (hts _ gm_575) ⟨Nat.le_of_ble_eq_true rfl, Nat.le_of_ble_eq_true rfl⟩) (fl_preV hK hP hN (rf_lt rfl (by decide)) (rf_sh0 rfl) rfl) rfl rfl hl.1 rfl (lv_room (Nat.le_of_ble_eq_true rfl)) dR_small_132 ⟨Nat.le_refl 0, Nat.le_refl 0⟩) hS (fun H locs hP hS => ?_)
            refine lv_bipush (v := 16) hx hb dR_small_135 (by decide) ?_
            refine lv_aload_n hx hb dR_small_137 rfl (lv_at hl 2 rfl) ?_
            refine rf_get0 (v := .ref (ad 6)) hx hb hts rf_in0 hown hK hP (q := 0) rfl 6 (by decide) (hts _ gm_508) rfl dR_small_138 ?_
            refine lv_iload_n hx hb dR_small_141 rfl (lv_at hl 1 rfl) ?_
            replace h := fl_ck_some h
            obtain ⟨hi101, h⟩ := h
            refine rf_iald hx hb hK hP (q := 6) rfl hi101 dR_small_142 ?_
            refine lv_imul hx hb dR_small_143 ?_
            refine lv_iload_n hx hb dR_small_144 rfl (lv_at hl 0 rfl) ?_
            refine lv_iload_n hx hb dR_small_145 rfl (lv_at hl 3 rfl) ?_
            refine lv_ishl hx hb dR_small_146 ?_
            refine lv_iadd hx hb dR_small_147 ?_
            exact fl_iret hx hb hr hlocks hP hS h dR_small_148
          · replace h := fl_pos c84 h
            refine lv_iconst (v := (-1)) hx hb dR_small_51 (by decide) ?_
            exact fl_iret hx hb hr hlocks hP hS h dR_small_52
def yR_big : MethodName := ⟨"MeshedSpansModel", "big", "(I)I"⟩
def wR_big : List Cond := .code yR_big prog_8_method_17_code 5 (some .int) :: gw
theorem kR_big {R : Room} {s : State} {args : Array Value} {own : String} {ix : Nat} (hts : ∀ w ∈ gw, w.before args s = true) (hl : (Cond.methodLink own ix yR_big).before args s = true) (hR : 1 + 1 ≤ R.frames ∧ 8 + (5 + 11) + 24 ≤ R.locals) : CallW R s args own "MeshedSpansModel" ix yR_big prog_8_method_17_code 5 (some .int) wR_big { frames := 1, cells := 0, slots := 0, locals := 24 } 0 0 1 := ⟨callB_of (rm := { frames := 1, cells := 0, slots := 0, locals := 24 }) 1 hts (gw_c (ct := .code yR_big prog_8_method_17_code 5 (some .int)) gm_564) rfl rfl rfl (hts _ gm_47) hl (by decide +kernel) hR, hts _ gm_563, hts _ gm_17⟩
theorem dR_big_0 : decode prog_8_method_17_code 0 = .ok (.aload_n 0, 1) := by decide +kernel
theorem dR_big_1 : decode prog_8_method_17_code 1 = .ok (.iload_n 1, 1) := by decide +kernel
theorem dR_big_2 : decode prog_8_method_17_code 2 = .ok (.invokevirtual 74, 3) := by decide +kernel
theorem dR_big_5 : decode prog_8_method_17_code 5 = .ok (.istore_n 2, 1) := by decide +kernel
theorem dR_big_6 : decode prog_8_method_17_code 6 = .ok (.aload_n 0, 1) := by decide +kernel
theorem dR_big_7 : decode prog_8_method_17_code 7 = .ok (.invokevirtual 97, 3) := by decide +kernel
theorem dR_big_10 : decode prog_8_method_17_code 10 = .ok (.iload_n 1, 1) := by decide +kernel
theorem dR_big_11 : decode prog_8_method_17_code 11 = .ok (.if_icmp .lt 9, 3) := by decide +kernel
theorem dR_big_14 : decode prog_8_method_17_code 14 = .ok (.iload_n 2, 1) := by decide +kernel
theorem dR_big_15 : decode prog_8_method_17_code 15 = .ok (.bipush 24, 2) := by decide +kernel
theorem dR_big_17 : decode prog_8_method_17_code 17 = .ok (.if_icmp .ne 5, 3) := by decide +kernel
theorem dR_big_20 : decode prog_8_method_17_code 20 = .ok (.iconst (-1), 1) := by decide +kernel
theorem dR_big_21 : decode prog_8_method_17_code 21 = .ok (.ireturn, 1) := by decide +kernel
theorem dR_big_22 : decode prog_8_method_17_code 22 = .ok (.iconst 0, 1) := by decide +kernel
theorem dR_big_23 : decode prog_8_method_17_code 23 = .ok (.istore_n 3, 1) := by decide +kernel
theorem dR_big_24 : decode prog_8_method_17_code 24 = .ok (.iload_n 3, 1) := by decide +kernel
theorem dR_big_25 : decode prog_8_method_17_code 25 = .ok (.iload_n 1, 1) := by decide +kernel
theorem dR_big_26 : decode prog_8_method_17_code 26 = .ok (.if_icmp .ge 44, 3) := by decide +kernel
theorem dR_big_29 : decode prog_8_method_17_code 29 = .ok (.aload_n 0, 1) := by decide +kernel
theorem dR_big_30 : decode prog_8_method_17_code 30 = .ok (.invokevirtual 87, 3) := by decide +kernel
theorem dR_big_33 : decode prog_8_method_17_code 33 = .ok (.istore 4, 2) := by decide +kernel
theorem dR_big_35 : decode prog_8_method_17_code 35 = .ok (.aload_n 0, 1) := by decide +kernel
theorem dR_big_36 : decode prog_8_method_17_code 36 = .ok (.getfield 7, 3) := by decide +kernel
theorem dR_big_39 : decode prog_8_method_17_code 39 = .ok (.iload 4, 2) := by decide +kernel
theorem dR_big_41 : decode prog_8_method_17_code 41 = .ok (.iconst 2, 1) := by decide +kernel
theorem dR_big_42 : decode prog_8_method_17_code 42 = .ok (.iastore, 1) := by decide +kernel
theorem dR_big_43 : decode prog_8_method_17_code 43 = .ok (.aload_n 0, 1) := by decide +kernel
theorem dR_big_44 : decode prog_8_method_17_code 44 = .ok (.getfield 16, 3) := by decide +kernel
theorem dR_big_47 : decode prog_8_method_17_code 47 = .ok (.iload_n 2, 1) := by decide +kernel
theorem dR_big_48 : decode prog_8_method_17_code 48 = .ok (.iload_n 3, 1) := by decide +kernel
theorem dR_big_49 : decode prog_8_method_17_code 49 = .ok (.iadd, 1) := by decide +kernel
theorem dR_big_50 : decode prog_8_method_17_code 50 = .ok (.iload 4, 2) := by decide +kernel
theorem dR_big_52 : decode prog_8_method_17_code 52 = .ok (.iastore, 1) := by decide +kernel
theorem dR_big_53 : decode prog_8_method_17_code 53 = .ok (.aload_n 0, 1) := by decide +kernel
theorem dR_big_54 : decode prog_8_method_17_code 54 = .ok (.bipush 16, 2) := by decide +kernel
theorem dR_big_56 : decode prog_8_method_17_code 56 = .ok (.iload 4, 2) := by decide +kernel
theorem dR_big_58 : decode prog_8_method_17_code 58 = .ok (.imul, 1) := by decide +kernel
theorem dR_big_59 : decode prog_8_method_17_code 59 = .ok (.bipush 16, 2) := by decide +kernel
theorem dR_big_61 : decode prog_8_method_17_code 61 = .ok (.invokevirtual 80, 3) := by decide +kernel
theorem dR_big_64 : decode prog_8_method_17_code 64 = .ok (.iinc 3 1, 3) := by decide +kernel
theorem dR_big_67 : decode prog_8_method_17_code 67 = .ok (.goto (-43), 3) := by decide +kernel
theorem dR_big_70 : decode prog_8_method_17_code 70 = .ok (.aload_n 0, 1) := by decide +kernel
theorem dR_big_71 : decode prog_8_method_17_code 71 = .ok (.getfield 31, 3) := by decide +kernel
theorem dR_big_74 : decode prog_8_method_17_code 74 = .ok (.iload_n 2, 1) := by decide +kernel
theorem dR_big_75 : decode prog_8_method_17_code 75 = .ok (.iload_n 1, 1) := by decide +kernel
theorem dR_big_76 : decode prog_8_method_17_code 76 = .ok (.iastore, 1) := by decide +kernel
theorem dR_big_77 : decode prog_8_method_17_code 77 = .ok (.bipush 16, 2) := by decide +kernel
theorem dR_big_79 : decode prog_8_method_17_code 79 = .ok (.iload_n 2, 1) := by decide +kernel
theorem dR_big_80 : decode prog_8_method_17_code 80 = .ok (.imul, 1) := by decide +kernel
theorem dR_big_81 : decode prog_8_method_17_code 81 = .ok (.ireturn, 1) := by decide +kernel
def fR_big_B24 (rec : Int32 → Int32 → Int32 → fl_G → Option ((Int32) × fl_G)) (v3 : Int32) (v2 : Int32) (v1 : Int32) (g : fl_G) : Option ((Int32) × fl_G) :=
  if v1 ≤ v3 then (some (v3, g)) else (fl_bd (fR_freePhysical g) (fun r11 g12 => fl_ck (fl_in r11 12) (fl_ck (fl_in (v2 + v3) 24) (fl_bd (fR_zero (16 * r11) 16 (fl_up (fl_up g12 1 (Int32.toNatClampNeg r11) 2) 3 (Int32.toNatClampNeg (v2 + v3)) r11)) (fun r16 g17 => rec (v3 + 1) v2 v1 g17)))))
def fR_big_L24 : Nat → Int32 → Int32 → Int32 → fl_G → Option ((Int32) × fl_G)
  | 0, _, _, _, _ => none
  | n + 1, v3, v2, v1, g => fR_big_B24 (fR_big_L24 n) v3 v2 v1 g
def fR_big (a0 : Int32) (g : fl_G) : Option (Int32 × fl_G) :=
  fl_bd (fR_freeVirtual a0 g) (fun r1 g2 => fl_bd (fR_freeSpans g2) (fun r4 g5 => if r4 < a0 then (some ((-1), g5)) else (if r1 = 24 then (some ((-1), g5)) else (fl_bd (fR_big_L24 1000 0 r1 a0 g5) (fun r19 g20 => fl_ck (fl_in r1 24) (some ((16 * r1), (fl_up g20 8 (Int32.toNatClampNeg r1) a0))))))))
set_option maxHeartbeats 4000000 in
set_option maxRecDepth 100000 in
theorem cR_big (l : Launch) (dC : Nat → ClassId) (dI : Nat → Nat → Nat) (ca : Nat → ClassId) (ad : Nat → Nat) (hI : fl_inj 14 ad) (a0 : Int32) {g g1 : fl_G} {r : Int32} (h : fR_big a0 g = some (r, g1)) : Met l yR_big wR_big ({ frames := 1, cells := 0, slots := 0, locals := 24 }) (va_Pc [.ref (ad 0), .int a0] (fl_Pre (dC, dI) al_cl 14 (rf_sh ca ad) ad (rf_ty ca) rf_ns g)) (fl_QI (dC, dI) al_cl 14 (rf_sh ca ad) ad r g1) 0 0 (fl_A 14 ad) := by
  refine fl_of (cc := prog_8_method_17_code) (maxL := 5) (ret := (some .int)) (by decide) rfl (Nat.le_of_ble_eq_true rfl) ?_
  intro p e s m below meth c ls hx hb hr hml hts hown hlocks hP hK hN hl
  have hown : s.vm.findClass "MeshedSpansModel" = some m.cls := hown
  have hS : va_S (fl_A 14 ad) s.heap s.heap [] := va_S.rf
  have hl : lv_has ls 5 [(0, .ref (ad 0)), (1, .int a0)] := hl
  unfold fR_big at h
  refine lv_aload_n hx hb dR_big_0 rfl (lv_at hl 0 rfl) ?_
  refine lv_iload_n hx hb dR_big_1 rfl (lv_at hl 1 rfl) ?_
  replace h := fl_bd_some h
  obtain ⟨r1, g2, hc3, h⟩ := h
  refine fl_calli (va_runV (As := [.int a0]) (rest := []) ⟨hx, hb, hml, hown, hts⟩ (cR_freeVirtual l dC dI ca ad hI a0 hc3) (kR_freeVirtual hts (hts _ gm_565) ⟨Nat.le_of_ble_eq_true rfl, Nat.le_of_ble_eq_true rfl⟩) (fl_preV hK hP hN (rf_lt rfl (by decide)) (rf_sh0 rfl) rfl) rfl rfl hl.1 rfl (lv_room (Nat.le_of_ble_eq_true rfl)) dR_big_2 ⟨Nat.le_refl 0, Nat.le_refl 0⟩) hS (fun H locs hP hS => ?_)
  refine lv_istore_n (lv' := [(2, .int r1), (0, .ref (ad 0)), (1, .int a0)]) hx hb dR_big_5 rfl hl (by decide) rfl (fun ls hl => ?_)
  refine lv_aload_n hx hb dR_big_6 rfl (lv_at hl 1 rfl) ?_
  replace h := fl_bd_some h
  obtain ⟨r4, g5, hc6, h⟩ := h
  refine fl_calli (va_runV (As := []) (rest := []) ⟨hx, hb, hml, hown, hts⟩ (cR_freeSpans l dC dI ca ad hI  hc6) (kR_freeSpans hts (hts _ gm_568) ⟨Nat.le_of_ble_eq_true rfl, Nat.le_of_ble_eq_true rfl⟩) (fl_preV hK hP hN (rf_lt rfl (by decide)) (rf_sh0 rfl) rfl) rfl rfl hl.1 rfl (lv_room (Nat.le_of_ble_eq_true rfl)) dR_big_7 ⟨Nat.le_refl 0, Nat.le_refl 0⟩) hS (fun H locs hP hS => ?_)
  refine lv_iload_n hx hb dR_big_10 rfl (lv_at hl 2 rfl) ?_
  refine lv_icmp_lt (tgt := 20) hx hb dR_big_11 (by decide) (fun c7 => ?_) (fun c7 => ?_)
  · replace h := fl_pos c7 h
    refine lv_iconst (v := (-1)) hx hb dR_big_20 (by decide) ?_
    exact fl_iret hx hb hr hlocks hP hS h dR_big_21
  · replace h := fl_neg c7 h
    refine lv_iload_n hx hb dR_big_14 rfl (lv_at hl 0 rfl) ?_
    refine lv_bipush (v := 24) hx hb dR_big_15 (by decide) ?_
    refine lv_icmp_ne (tgt := 22) hx hb dR_big_17 (by decide) (fun c8 => ?_) (fun c8 => ?_)
    · replace h := fl_neg c8 h
      refine lv_iconst (v := 0) hx hb dR_big_22 (by decide) ?_
      refine lv_istore_n (lv' := [(3, .int 0), (2, .int r1), (0, .ref (ad 0)), (1, .int a0)]) hx hb dR_big_23 rfl hl (by decide) rfl (fun ls hl => ?_)
      have loop9 : ∀ (n : Nat) (v3 : Int32) (v2 : Int32) (v1 : Int32) (g : fl_G) (z : ((Int32) × fl_G)) (H : Heap) (locs : List Loc) (ls : Array Slot), fR_big_L24 n v3 v2 v1 g = some z → va_P (dC, dI) al_cl (fl_ws 14 (rf_sh ca ad) ad g) H → va_S (fl_A 14 ad) s.heap H locs → lv_has ls 5 [(3, .int v3), (2, .int v2), (0, .ref (ad 0)), (1, .int v1)] → (∀ (H : Heap) (locs : List Loc) (ls : Array Slot), va_P (dC, dI) al_cl (fl_ws 14 (rf_sh ca ad) ad z.2) H → va_S (fl_A 14 ad) s.heap H locs → lv_has ls 5 [(3, .int z.1), (2, .int v2), (0, .ref (ad 0)), (1, .int v1)] → W p l e ({ frames := 1, cells := 0, slots := 0, locals := 24 }) s m ([.ref (ad 0), .int a0] : List Value).toArray below meth c H locs 0 0 (MQ below (fl_QI (dC, dI) al_cl 14 (rf_sh ca ad) ad r g1) ([.ref (ad 0), .int a0] : List Value).toArray s 0 0 (fl_A 14 ad)) (F0 m 70 ls [])) → W p l e ({ frames := 1, cells := 0, slots := 0, locals := 24 }) s m ([.ref (ad 0), .int a0] : List Value).toArray below meth c H locs 0 0 (MQ below (fl_QI (dC, dI) al_cl 14 (rf_sh ca ad) ad r g1) ([.ref (ad 0), .int a0] : List Value).toArray s 0 0 (fl_A 14 ad)) (F0 m 24 ls []) := by
        intro n
        clear h hP hS hl
        induction n with
        | zero => intro v3 v2 v1 g z H locs ls h; cases h
        | succ n ih9 =>
          intro v3 v2 v1 g z H locs ls h hP hS hl K9
          have h : fR_big_B24 (fR_big_L24 n) v3 v2 v1 g = some z := h
          unfold fR_big_B24 at h
          refine lv_iload_n hx hb dR_big_24 rfl (lv_at hl 0 rfl) ?_
          refine lv_iload_n hx hb dR_big_25 rfl (lv_at hl 3 rfl) ?_
          refine lv_icmp_ge (tgt := 70) hx hb dR_big_26 (by decide) (fun c10 => ?_) (fun c10 => ?_)
          · replace h := fl_pos c10 h
            cases h
            exact K9 _ _ _ hP hS (lv_sub hl [0, 1, 2, 3] rfl)
          · replace h := fl_neg c10 h
            refine lv_aload_n hx hb dR_big_29 rfl (lv_at hl 2 rfl) ?_
            replace h := fl_bd_some h
            obtain ⟨r11, g12, hc13, h⟩ := h
            refine fl_calli (va_runV (As := []) (rest := []) ⟨hx, hb, hml, hown, hts⟩ (cR_freePhysical l dC dI ca ad hI  hc13) (kR_freePhysical hts (hts _ gm_572) ⟨Nat.le_of_ble_eq_true rfl, Nat.le_of_ble_eq_true rfl⟩) (fl_preV hK hP hN (rf_lt rfl (by decide)) (rf_sh0 rfl) rfl) rfl rfl hl.1 rfl (lv_room (Nat.le_of_ble_eq_true rfl)) dR_big_30 ⟨Nat.le_refl 0, Nat.le_refl 0⟩) hS (fun H locs hP hS => ?_)
            refine lv_istore (lv' := [(4, .int r11), (3, .int v3), (2, .int v2), (0, .ref (ad 0)), (1, .int v1)]) hx hb dR_big_33 hl (by decide) rfl (fun ls hl => ?_)
            refine lv_aload_n hx hb dR_big_35 rfl (lv_at hl 3 rfl) ?_
            refine rf_get0 (v := .ref (ad 1)) hx hb hts rf_in0 hown hK hP (q := 0) rfl 1 (by decide) (hts _ gm_503) rfl dR_big_36 ?_
            refine lv_iload hx hb dR_big_39 (lv_at hl 0 rfl) ?_
            refine lv_iconst (v := 2) hx hb dR_big_41 (by decide) ?_
            replace h := fl_ck_some h
            obtain ⟨hi14, h⟩ := h
            refine rf_iast hx hb hK hP hI hS (q := 1) rfl hi14 dR_big_42 (fun H locs hP hS => ?_)
            have hP : va_P (dC, dI) al_cl (fl_ws 14 (rf_sh ca ad) ad (fl_up g12 1 (Int32.toNatClampNeg r11) 2)) H := hP
            refine lv_aload_n hx hb dR_big_43 rfl (lv_at hl 3 rfl) ?_
            refine rf_get0 (v := .ref (ad 3)) hx hb hts rf_in0 hown hK hP (q := 0) rfl 3 (by decide) (hts _ gm_505) rfl dR_big_44 ?_
            refine lv_iload_n hx hb dR_big_47 rfl (lv_at hl 2 rfl) ?_
            refine lv_iload_n hx hb dR_big_48 rfl (lv_at hl 1 rfl) ?_
            refine lv_iadd hx hb dR_big_49 ?_
            refine lv_iload hx hb dR_big_50 (lv_at hl 0 rfl) ?_
            replace h := fl_ck_some h
            obtain ⟨hi15, h⟩ := h
            refine rf_iast hx hb hK hP hI hS (q := 3) rfl hi15 dR_big_52 (fun H locs hP hS => ?_)
            have hP : va_P (dC, dI) al_cl (fl_ws 14 (rf_sh ca ad) ad (fl_up (fl_up g12 1 (Int32.toNatClampNeg r11) 2) 3 (Int32.toNatClampNeg (v2 + v3)) r11)) H := hP
            refine lv_aload_n hx hb dR_big_53 rfl (lv_at hl 3 rfl) ?_
            refine lv_bipush (v := 16) hx hb dR_big_54 (by decide) ?_
            refine lv_iload hx hb dR_big_56 (lv_at hl 0 rfl) ?_
            refine lv_imul hx hb dR_big_58 ?_
            refine lv_bipush (v := 16) hx hb dR_big_59 (by decide) ?_
            replace h := fl_bd_some h
            obtain ⟨r16, g17, hc18, h⟩ := h
            refine fl_callv (va_runV (As := [.int (16 * r11), .int 16]) (rest := []) ⟨hx, hb, hml, hown, hts⟩ (cR_zero l dC dI ca ad hI (16 * r11) 16 hc18) (kR_zero hts (hts _ gm_575) ⟨Nat.le_of_ble_eq_true rfl, Nat.le_of_ble_eq_true rfl⟩) (fl_preV hK hP hN (rf_lt rfl (by decide)) (rf_sh0 rfl) rfl) rfl rfl hl.1 rfl (lv_room (Nat.le_of_ble_eq_true rfl)) dR_big_61 ⟨Nat.le_refl 0, Nat.le_refl 0⟩) hS (fun H locs hP hS => ?_)
            refine lv_iinc (v := (v3 + 1)) (lv' := [(3, .int (v3 + 1)), (4, .int r11), (2, .int v2), (0, .ref (ad 0)), (1, .int v1)]) hx hb dR_big_64 hl (k := 1) rfl rfl (by decide) rfl (fun ls hl => ?_)
            refine lv_goto (tgt := 24) hx hb dR_big_67 (by decide) ?_
            exact ih9 (v3 + 1) v2 v1 _ _ _ _ _ h hP hS (lv_sub hl [0, 2, 3, 4] rfl) K9
      obtain ⟨r19, g20, hc21, h⟩ := fl_bd_some h
      refine loop9 1000 0 r1 a0 _ (r19, g20) _ _ _ hc21 hP hS (lv_sub hl [0, 1, 2, 3] rfl) (fun H locs ls hP hS hl => ?_)
      have hP : va_P (dC, dI) al_cl (fl_ws 14 (rf_sh ca ad) ad g20) H := hP
      have hl : lv_has ls 5 [(3, .int r19), (2, .int r1), (0, .ref (ad 0)), (1, .int a0)] := hl
      refine lv_aload_n hx hb dR_big_70 rfl (lv_at hl 2 rfl) ?_
      refine rf_get0 (v := .ref (ad 8)) hx hb hts rf_in0 hown hK hP (q := 0) rfl 8 (by decide) (hts _ gm_510) rfl dR_big_71 ?_
      refine lv_iload_n hx hb dR_big_74 rfl (lv_at hl 1 rfl) ?_
      refine lv_iload_n hx hb dR_big_75 rfl (lv_at hl 3 rfl) ?_
      replace h := fl_ck_some h
      obtain ⟨hi22, h⟩ := h
      refine rf_iast hx hb hK hP hI hS (q := 8) rfl hi22 dR_big_76 (fun H locs hP hS => ?_)
      have hP : va_P (dC, dI) al_cl (fl_ws 14 (rf_sh ca ad) ad (fl_up g20 8 (Int32.toNatClampNeg r1) a0)) H := hP
      refine lv_bipush (v := 16) hx hb dR_big_77 (by decide) ?_
      refine lv_iload_n hx hb dR_big_79 rfl (lv_at hl 1 rfl) ?_
      refine lv_imul hx hb dR_big_80 ?_
      exact fl_iret hx hb hr hlocks hP hS h dR_big_81
    · replace h := fl_pos c8 h
      refine lv_iconst (v := (-1)) hx hb dR_big_20 (by decide) ?_
      exact fl_iret hx hb hr hlocks hP hS h dR_big_21
def yR_malloc : MethodName := ⟨"MeshedSpansModel", "malloc", "(I)I"⟩
def wR_malloc : List Cond := .code yR_malloc prog_8_method_18_code 2 (some .int) :: gw
theorem kR_malloc {R : Room} {s : State} {args : Array Value} {own : String} {ix : Nat} (hts : ∀ w ∈ gw, w.before args s = true) (hl : (Cond.methodLink own ix yR_malloc).before args s = true) (hR : 4 + 1 ≤ R.frames ∧ 8 + (2 + 11) + 90 ≤ R.locals) : CallW R s args own "MeshedSpansModel" ix yR_malloc prog_8_method_18_code 2 (some .int) wR_malloc { frames := 4, cells := 0, slots := 0, locals := 90 } 0 0 1 := ⟨callB_of (rm := { frames := 4, cells := 0, slots := 0, locals := 90 }) 1 hts (gw_c (ct := .code yR_malloc prog_8_method_18_code 2 (some .int)) gm_558) rfl rfl rfl (hts _ gm_47) hl (by decide +kernel) hR, hts _ gm_556, hts _ gm_557⟩
theorem dR_malloc_0 : decode prog_8_method_18_code 0 = .ok (.iload_n 1, 1) := by decide +kernel
theorem dR_malloc_1 : decode prog_8_method_18_code 1 = .ok (.iconst 1, 1) := by decide +kernel
theorem dR_malloc_2 : decode prog_8_method_18_code 2 = .ok (.bipush 64, 2) := by decide +kernel
theorem dR_malloc_4 : decode prog_8_method_18_code 4 = .ok (.invokestatic 100, 3) := by decide +kernel
theorem dR_malloc_7 : decode prog_8_method_18_code 7 = .ok (.ifCond .ne 5, 3) := by decide +kernel
theorem dR_malloc_10 : decode prog_8_method_18_code 10 = .ok (.iconst (-1), 1) := by decide +kernel
theorem dR_malloc_11 : decode prog_8_method_18_code 11 = .ok (.ireturn, 1) := by decide +kernel
theorem dR_malloc_12 : decode prog_8_method_18_code 12 = .ok (.iload_n 1, 1) := by decide +kernel
theorem dR_malloc_13 : decode prog_8_method_18_code 13 = .ok (.bipush 8, 2) := by decide +kernel
theorem dR_malloc_15 : decode prog_8_method_18_code 15 = .ok (.if_icmp .le 15, 3) := by decide +kernel
theorem dR_malloc_18 : decode prog_8_method_18_code 18 = .ok (.aload_n 0, 1) := by decide +kernel
theorem dR_malloc_19 : decode prog_8_method_18_code 19 = .ok (.iload_n 1, 1) := by decide +kernel
theorem dR_malloc_20 : decode prog_8_method_18_code 20 = .ok (.bipush 15, 2) := by decide +kernel
theorem dR_malloc_22 : decode prog_8_method_18_code 22 = .ok (.iadd, 1) := by decide +kernel
theorem dR_malloc_23 : decode prog_8_method_18_code 23 = .ok (.bipush 16, 2) := by decide +kernel
theorem dR_malloc_25 : decode prog_8_method_18_code 25 = .ok (.idiv, 1) := by decide +kernel
theorem dR_malloc_26 : decode prog_8_method_18_code 26 = .ok (.invokevirtual 104, 3) := by decide +kernel
theorem dR_malloc_29 : decode prog_8_method_18_code 29 = .ok (.ireturn, 1) := by decide +kernel
theorem dR_malloc_30 : decode prog_8_method_18_code 30 = .ok (.aload_n 0, 1) := by decide +kernel
theorem dR_malloc_31 : decode prog_8_method_18_code 31 = .ok (.iload_n 1, 1) := by decide +kernel
theorem dR_malloc_32 : decode prog_8_method_18_code 32 = .ok (.iconst 1, 1) := by decide +kernel
theorem dR_malloc_33 : decode prog_8_method_18_code 33 = .ok (.if_icmp .ne 7, 3) := by decide +kernel
theorem dR_malloc_36 : decode prog_8_method_18_code 36 = .ok (.iconst 0, 1) := by decide +kernel
theorem dR_malloc_37 : decode prog_8_method_18_code 37 = .ok (.goto 22, 3) := by decide +kernel
theorem dR_malloc_40 : decode prog_8_method_18_code 40 = .ok (.iload_n 1, 1) := by decide +kernel
theorem dR_malloc_41 : decode prog_8_method_18_code 41 = .ok (.iconst 2, 1) := by decide +kernel
theorem dR_malloc_42 : decode prog_8_method_18_code 42 = .ok (.if_icmp .ne 7, 3) := by decide +kernel
theorem dR_malloc_45 : decode prog_8_method_18_code 45 = .ok (.iconst 1, 1) := by decide +kernel
theorem dR_malloc_46 : decode prog_8_method_18_code 46 = .ok (.goto 13, 3) := by decide +kernel
theorem dR_malloc_49 : decode prog_8_method_18_code 49 = .ok (.iload_n 1, 1) := by decide +kernel
theorem dR_malloc_50 : decode prog_8_method_18_code 50 = .ok (.iconst 4, 1) := by decide +kernel
theorem dR_malloc_51 : decode prog_8_method_18_code 51 = .ok (.if_icmp .gt 7, 3) := by decide +kernel
theorem dR_malloc_54 : decode prog_8_method_18_code 54 = .ok (.iconst 2, 1) := by decide +kernel
theorem dR_malloc_55 : decode prog_8_method_18_code 55 = .ok (.goto 4, 3) := by decide +kernel
theorem dR_malloc_58 : decode prog_8_method_18_code 58 = .ok (.iconst 3, 1) := by decide +kernel
theorem dR_malloc_59 : decode prog_8_method_18_code 59 = .ok (.invokevirtual 107, 3) := by decide +kernel
theorem dR_malloc_62 : decode prog_8_method_18_code 62 = .ok (.ireturn, 1) := by decide +kernel
def fR_malloc (a0 : Int32) (g : fl_G) : Option (Int32 × fl_G) :=
  fl_bd (fR_within a0 1 64 g) (fun r1 g2 => if r1 = 0 then (some ((-1), g2)) else (if a0 ≤ 8 then (if a0 = 1 then (fl_bd (fR_small 0 g2) (fun r18 g19 => some (r18, g19))) else (if a0 = 2 then (fl_bd (fR_small 1 g2) (fun r15 g16 => some (r15, g16))) else (if 4 < a0 then (fl_bd (fR_small 3 g2) (fun r9 g10 => some (r9, g10))) else (fl_bd (fR_small 2 g2) (fun r12 g13 => some (r12, g13)))))) else (fl_bd (fR_big ((a0 + 15) / 16) g2) (fun r21 g22 => some (r21, g22)))))
set_option maxHeartbeats 4000000 in
set_option maxRecDepth 100000 in
theorem cR_malloc (l : Launch) (dC : Nat → ClassId) (dI : Nat → Nat → Nat) (ca : Nat → ClassId) (ad : Nat → Nat) (hI : fl_inj 14 ad) (a0 : Int32) {g g1 : fl_G} {r : Int32} (h : fR_malloc a0 g = some (r, g1)) : Met l yR_malloc wR_malloc ({ frames := 4, cells := 0, slots := 0, locals := 90 }) (va_Pc [.ref (ad 0), .int a0] (fl_Pre (dC, dI) al_cl 14 (rf_sh ca ad) ad (rf_ty ca) rf_ns g)) (fl_QI (dC, dI) al_cl 14 (rf_sh ca ad) ad r g1) 0 0 (fl_A 14 ad) := by
  refine fl_of (cc := prog_8_method_18_code) (maxL := 2) (ret := (some .int)) (by decide) rfl (Nat.le_of_ble_eq_true rfl) ?_
  intro p e s m below meth c ls hx hb hr hml hts hown hlocks hP hK hN hl
  have hown : s.vm.findClass "MeshedSpansModel" = some m.cls := hown
  have hS : va_S (fl_A 14 ad) s.heap s.heap [] := va_S.rf
  have hl : lv_has ls 2 [(0, .ref (ad 0)), (1, .int a0)] := hl
  unfold fR_malloc at h
  refine lv_iload_n hx hb dR_malloc_0 rfl (lv_at hl 1 rfl) ?_
  refine lv_iconst (v := 1) hx hb dR_malloc_1 (by decide) ?_
  refine lv_bipush (v := 64) hx hb dR_malloc_2 (by decide) ?_
  replace h := fl_bd_some h
  obtain ⟨r1, g2, hc3, h⟩ := h
  refine fl_calli (va_runS (As := [.int a0, .int 1, .int 64]) (rest := []) ⟨hx, hb, hml, hown, hts⟩ (cR_within l dC dI ca ad hI a0 1 64 hc3) (kR_within hts (hts _ gm_559) ⟨Nat.le_of_ble_eq_true rfl, Nat.le_of_ble_eq_true rfl⟩) (fl_preS hK hP hN) rfl rfl hl.1 rfl (lv_room (Nat.le_of_ble_eq_true rfl)) dR_malloc_4 ⟨Nat.le_refl 0, Nat.le_refl 0⟩) hS (fun H locs hP hS => ?_)
  refine lv_if_ne (tgt := 12) hx hb dR_malloc_7 (by decide) (fun c4 => ?_) (fun c4 => ?_)
  · replace h := fl_neg c4 h
    refine lv_iload_n hx hb dR_malloc_12 rfl (lv_at hl 1 rfl) ?_
    refine lv_bipush (v := 8) hx hb dR_malloc_13 (by decide) ?_
    refine lv_icmp_le (tgt := 30) hx hb dR_malloc_15 (by decide) (fun c5 => ?_) (fun c5 => ?_)
    · replace h := fl_pos c5 h
      refine lv_aload_n hx hb dR_malloc_30 rfl (lv_at hl 0 rfl) ?_
      refine lv_iload_n hx hb dR_malloc_31 rfl (lv_at hl 1 rfl) ?_
      refine lv_iconst (v := 1) hx hb dR_malloc_32 (by decide) ?_
      refine lv_icmp_ne (tgt := 40) hx hb dR_malloc_33 (by decide) (fun c6 => ?_) (fun c6 => ?_)
      · replace h := fl_neg c6 h
        refine lv_iload_n hx hb dR_malloc_40 rfl (lv_at hl 1 rfl) ?_
        refine lv_iconst (v := 2) hx hb dR_malloc_41 (by decide) ?_
        refine lv_icmp_ne (tgt := 49) hx hb dR_malloc_42 (by decide) (fun c7 => ?_) (fun c7 => ?_)
        · replace h := fl_neg c7 h
          refine lv_iload_n hx hb dR_malloc_49 rfl (lv_at hl 1 rfl) ?_
          refine lv_iconst (v := 4) hx hb dR_malloc_50 (by decide) ?_
          refine lv_icmp_gt (tgt := 58) hx hb dR_malloc_51 (by decide) (fun c8 => ?_) (fun c8 => ?_)
          · replace h := fl_pos c8 h
            refine lv_iconst (v := 3) hx hb dR_malloc_58 (by decide) ?_
            replace h := fl_bd_some h
            obtain ⟨r9, g10, hc11, h⟩ := h
            refine fl_calli (va_runV (As := [.int 3]) (rest := []) ⟨hx, hb, hml, hown, hts⟩ (cR_small l dC dI ca ad hI 3 hc11) (kR_small hts (hts _ gm_578) ⟨Nat.le_of_ble_eq_true rfl, Nat.le_of_ble_eq_true rfl⟩) (fl_preV hK hP hN (rf_lt rfl (by decide)) (rf_sh0 rfl) rfl) rfl rfl hl.1 rfl (lv_room (Nat.le_of_ble_eq_true rfl)) dR_malloc_59 ⟨Nat.le_refl 0, Nat.le_refl 0⟩) hS (fun H locs hP hS => ?_)
            exact fl_iret hx hb hr hlocks hP hS h dR_malloc_62
          · replace h := fl_neg c8 h
            refine lv_iconst (v := 2) hx hb dR_malloc_54 (by decide) ?_
            refine lv_goto (tgt := 59) hx hb dR_malloc_55 (by decide) ?_
            replace h := fl_bd_some h
            obtain ⟨r12, g13, hc14, h⟩ := h
            refine fl_calli (va_runV (As := [.int 2]) (rest := []) ⟨hx, hb, hml, hown, hts⟩ (cR_small l dC dI ca ad hI 2 hc14) (kR_small hts (hts _ gm_578) ⟨Nat.le_of_ble_eq_true rfl, Nat.le_of_ble_eq_true rfl⟩) (fl_preV hK hP hN (rf_lt rfl (by decide)) (rf_sh0 rfl) rfl) rfl rfl hl.1 rfl (lv_room (Nat.le_of_ble_eq_true rfl)) dR_malloc_59 ⟨Nat.le_refl 0, Nat.le_refl 0⟩) hS (fun H locs hP hS => ?_)
            exact fl_iret hx hb hr hlocks hP hS h dR_malloc_62
        · replace h := fl_pos c7 h
          refine lv_iconst (v := 1) hx hb dR_malloc_45 (by decide) ?_
          refine lv_goto (tgt := 59) hx hb dR_malloc_46 (by decide) ?_
          replace h := fl_bd_some h
          obtain ⟨r15, g16, hc17, h⟩ := h
          refine fl_calli (va_runV (As := [.int 1]) (rest := []) ⟨hx, hb, hml, hown, hts⟩ (cR_small l dC dI ca ad hI 1 hc17) (kR_small hts (hts _ gm_578) ⟨Nat.le_of_ble_eq_true rfl, Nat.le_of_ble_eq_true rfl⟩) (fl_preV hK hP hN (rf_lt rfl (by decide)) (rf_sh0 rfl) rfl) rfl rfl hl.1 rfl (lv_room (Nat.le_of_ble_eq_true rfl)) dR_malloc_59 ⟨Nat.le_refl 0, Nat.le_refl 0⟩) hS (fun H locs hP hS => ?_)
          exact fl_iret hx hb hr hlocks hP hS h dR_malloc_62
      · replace h := fl_pos c6 h
        refine lv_iconst (v := 0) hx hb dR_malloc_36 (by decide) ?_
        refine lv_goto (tgt := 59) hx hb dR_malloc_37 (by decide) ?_
        replace h := fl_bd_some h
        obtain ⟨r18, g19, hc20, h⟩ := h
        refine fl_calli (va_runV (As := [.int 0]) (rest := []) ⟨hx, hb, hml, hown, hts⟩ (cR_small l dC dI ca ad hI 0 hc20) (kR_small hts (hts _ gm_578) ⟨Nat.le_of_ble_eq_true rfl, Nat.le_of_ble_eq_true rfl⟩) (fl_preV hK hP hN (rf_lt rfl (by decide)) (rf_sh0 rfl) rfl) rfl rfl hl.1 rfl (lv_room (Nat.le_of_ble_eq_true rfl)) dR_malloc_59 ⟨Nat.le_refl 0, Nat.le_refl 0⟩) hS (fun H locs hP hS => ?_)
        exact fl_iret hx hb hr hlocks hP hS h dR_malloc_62
    · replace h := fl_neg c5 h
      refine lv_aload_n hx hb dR_malloc_18 rfl (lv_at hl 0 rfl) ?_
      refine lv_iload_n hx hb dR_malloc_19 rfl (lv_at hl 1 rfl) ?_
      refine lv_bipush (v := 15) hx hb dR_malloc_20 (by decide) ?_
      refine lv_iadd hx hb dR_malloc_22 ?_
      refine lv_bipush (v := 16) hx hb dR_malloc_23 (by decide) ?_
      refine lv_idiv hx hb dR_malloc_25 (by decide) ?_
      replace h := fl_bd_some h
      obtain ⟨r21, g22, hc23, h⟩ := h
      refine fl_calli (va_runV (As := [.int ((a0 + 15) / 16)]) (rest := []) ⟨hx, hb, hml, hown, hts⟩ (cR_big l dC dI ca ad hI ((a0 + 15) / 16) hc23) (kR_big hts (hts _ gm_562) ⟨Nat.le_of_ble_eq_true rfl, Nat.le_of_ble_eq_true rfl⟩) (fl_preV hK hP hN (rf_lt rfl (by decide)) (rf_sh0 rfl) rfl) rfl rfl hl.1 rfl (lv_room (Nat.le_of_ble_eq_true rfl)) dR_malloc_26 ⟨Nat.le_refl 0, Nat.le_refl 0⟩) hS (fun H locs hP hS => ?_)
      exact fl_iret hx hb hr hlocks hP hS h dR_malloc_29
  · replace h := fl_pos c4 h
    refine lv_iconst (v := (-1)) hx hb dR_malloc_10 (by decide) ?_
    exact fl_iret hx hb hr hlocks hP hS h dR_malloc_11
def yR_isAddress : MethodName := ⟨"MeshedSpansModel", "isAddress", "(I)Z"⟩
def wR_isAddress : List Cond := .code yR_isAddress prog_8_method_19_code 1 (some .boolean) :: gw
theorem kR_isAddress {R : Room} {s : State} {args : Array Value} {own : String} {ix : Nat} (hts : ∀ w ∈ gw, w.before args s = true) (hl : (Cond.methodLink own ix yR_isAddress).before args s = true) (hR : 1 + 1 ≤ R.frames ∧ 8 + (1 + 11) + 22 ≤ R.locals) : CallB R s args own ix yR_isAddress prog_8_method_19_code 1 (some .boolean) wR_isAddress { frames := 1, cells := 0, slots := 0, locals := 22 } 0 0 1 ∧ (Cond.static yR_isAddress).before args s = true := ⟨callB_of (rm := { frames := 1, cells := 0, slots := 0, locals := 22 }) 1 hts (gw_c (ct := .code yR_isAddress prog_8_method_19_code 1 (some .boolean)) gm_619) rfl rfl rfl (hts _ gm_47) hl (by decide +kernel) hR, hts _ gm_618⟩
theorem dR_isAddress_0 : decode prog_8_method_19_code 0 = .ok (.iload_n 0, 1) := by decide +kernel
theorem dR_isAddress_1 : decode prog_8_method_19_code 1 = .ok (.iconst 0, 1) := by decide +kernel
theorem dR_isAddress_2 : decode prog_8_method_19_code 2 = .ok (.sipush 383, 3) := by decide +kernel
theorem dR_isAddress_5 : decode prog_8_method_19_code 5 = .ok (.invokestatic 100, 3) := by decide +kernel
theorem dR_isAddress_8 : decode prog_8_method_19_code 8 = .ok (.ireturn, 1) := by decide +kernel
def fR_isAddress (a0 : Int32) (g : fl_G) : Option (Int32 × fl_G) :=
  fl_bd (fR_within a0 0 383 g) (fun r1 g2 => fl_ck (fl_bo r1) (some (r1, g2)))
set_option maxHeartbeats 4000000 in
set_option maxRecDepth 100000 in
theorem cR_isAddress (l : Launch) (dC : Nat → ClassId) (dI : Nat → Nat → Nat) (ca : Nat → ClassId) (ad : Nat → Nat) (hI : fl_inj 14 ad) (a0 : Int32) {g g1 : fl_G} {r : Int32} (h : fR_isAddress a0 g = some (r, g1)) : Met l yR_isAddress wR_isAddress ({ frames := 1, cells := 0, slots := 0, locals := 22 }) (va_Pc [.int a0] (fl_Pre (dC, dI) al_cl 14 (rf_sh ca ad) ad (rf_ty ca) rf_ns g)) (fl_QI (dC, dI) al_cl 14 (rf_sh ca ad) ad r g1) 0 0 (fl_A 14 ad) := by
  refine fl_of (cc := prog_8_method_19_code) (maxL := 1) (ret := (some .boolean)) (by decide) rfl (Nat.le_of_ble_eq_true rfl) ?_
  intro p e s m below meth c ls hx hb hr hml hts hown hlocks hP hK hN hl
  have hown : s.vm.findClass "MeshedSpansModel" = some m.cls := hown
  have hS : va_S (fl_A 14 ad) s.heap s.heap [] := va_S.rf
  have hl : lv_has ls 1 [(0, .int a0)] := hl
  unfold fR_isAddress at h
  refine lv_iload_n hx hb dR_isAddress_0 rfl (lv_at hl 0 rfl) ?_
  refine lv_iconst (v := 0) hx hb dR_isAddress_1 (by decide) ?_
  refine lv_sipush (v := 383) hx hb dR_isAddress_2 (by decide) ?_
  replace h := fl_bd_some h
  obtain ⟨r1, g2, hc3, h⟩ := h
  refine fl_calli (va_runS (As := [.int a0, .int 0, .int 383]) (rest := []) ⟨hx, hb, hml, hown, hts⟩ (cR_within l dC dI ca ad hI a0 0 383 hc3) (kR_within hts (hts _ gm_559) ⟨Nat.le_of_ble_eq_true rfl, Nat.le_of_ble_eq_true rfl⟩) (fl_preS hK hP hN) rfl rfl hl.1 rfl (lv_room (Nat.le_of_ble_eq_true rfl)) dR_isAddress_5 ⟨Nat.le_refl 0, Nat.le_refl 0⟩) hS (fun H locs hP hS => ?_)
  replace h := fl_ck_some h
  obtain ⟨hb4, h⟩ := h
  exact fl_zret hx hb hr hlocks hP hS hb4 h dR_isAddress_8
def yR_behind : MethodName := ⟨"MeshedSpansModel", "behind", "(I)I"⟩
def wR_behind : List Cond := .code yR_behind prog_8_method_20_code 2 (some .int) :: gw
theorem kR_behind {R : Room} {s : State} {args : Array Value} {own : String} {ix : Nat} (hts : ∀ w ∈ gw, w.before args s = true) (hl : (Cond.methodLink own ix yR_behind).before args s = true) (hR : 2 + 1 ≤ R.frames ∧ 8 + (2 + 11) + 42 ≤ R.locals) : CallW R s args own "MeshedSpansModel" ix yR_behind prog_8_method_20_code 2 (some .int) wR_behind { frames := 2, cells := 0, slots := 0, locals := 42 } 0 0 1 := ⟨callB_of (rm := { frames := 2, cells := 0, slots := 0, locals := 42 }) 1 hts (gw_c (ct := .code yR_behind prog_8_method_20_code 2 (some .int)) gm_616) rfl rfl rfl (hts _ gm_47) hl (by decide +kernel) hR, hts _ gm_615, hts _ gm_30⟩
theorem dR_behind_0 : decode prog_8_method_20_code 0 = .ok (.iload_n 1, 1) := by decide +kernel
theorem dR_behind_1 : decode prog_8_method_20_code 1 = .ok (.invokestatic 110, 3) := by decide +kernel
theorem dR_behind_4 : decode prog_8_method_20_code 4 = .ok (.ifCond .eq 15, 3) := by decide +kernel
theorem dR_behind_7 : decode prog_8_method_20_code 7 = .ok (.aload_n 0, 1) := by decide +kernel
theorem dR_behind_8 : decode prog_8_method_20_code 8 = .ok (.getfield 16, 3) := by decide +kernel
theorem dR_behind_11 : decode prog_8_method_20_code 11 = .ok (.iload_n 1, 1) := by decide +kernel
theorem dR_behind_12 : decode prog_8_method_20_code 12 = .ok (.bipush 16, 2) := by decide +kernel
theorem dR_behind_14 : decode prog_8_method_20_code 14 = .ok (.idiv, 1) := by decide +kernel
theorem dR_behind_15 : decode prog_8_method_20_code 15 = .ok (.iaload, 1) := by decide +kernel
theorem dR_behind_16 : decode prog_8_method_20_code 16 = .ok (.goto 4, 3) := by decide +kernel
theorem dR_behind_19 : decode prog_8_method_20_code 19 = .ok (.iconst (-1), 1) := by decide +kernel
theorem dR_behind_20 : decode prog_8_method_20_code 20 = .ok (.ireturn, 1) := by decide +kernel
def fR_behind (a0 : Int32) (g : fl_G) : Option (Int32 × fl_G) :=
  fl_bd (fR_isAddress a0 g) (fun r1 g2 => if r1 = 0 then (some ((-1), g2)) else (fl_ck (fl_in (a0 / 16) 24) (some ((g2 3 (Int32.toNatClampNeg (a0 / 16))), g2))))
set_option maxHeartbeats 4000000 in
set_option maxRecDepth 100000 in
theorem cR_behind (l : Launch) (dC : Nat → ClassId) (dI : Nat → Nat → Nat) (ca : Nat → ClassId) (ad : Nat → Nat) (hI : fl_inj 14 ad) (a0 : Int32) {g g1 : fl_G} {r : Int32} (h : fR_behind a0 g = some (r, g1)) : Met l yR_behind wR_behind ({ frames := 2, cells := 0, slots := 0, locals := 42 }) (va_Pc [.ref (ad 0), .int a0] (fl_Pre (dC, dI) al_cl 14 (rf_sh ca ad) ad (rf_ty ca) rf_ns g)) (fl_QI (dC, dI) al_cl 14 (rf_sh ca ad) ad r g1) 0 0 (fl_A 14 ad) := by
  refine fl_of (cc := prog_8_method_20_code) (maxL := 2) (ret := (some .int)) (by decide) rfl (Nat.le_of_ble_eq_true rfl) ?_
  intro p e s m below meth c ls hx hb hr hml hts hown hlocks hP hK hN hl
  have hown : s.vm.findClass "MeshedSpansModel" = some m.cls := hown
  have hS : va_S (fl_A 14 ad) s.heap s.heap [] := va_S.rf
  have hl : lv_has ls 2 [(0, .ref (ad 0)), (1, .int a0)] := hl
  unfold fR_behind at h
  refine lv_iload_n hx hb dR_behind_0 rfl (lv_at hl 1 rfl) ?_
  replace h := fl_bd_some h
  obtain ⟨r1, g2, hc3, h⟩ := h
  refine fl_calli (va_runS (As := [.int a0]) (rest := []) ⟨hx, hb, hml, hown, hts⟩ (cR_isAddress l dC dI ca ad hI a0 hc3) (kR_isAddress hts (hts _ gm_617) ⟨Nat.le_of_ble_eq_true rfl, Nat.le_of_ble_eq_true rfl⟩) (fl_preS hK hP hN) rfl rfl hl.1 rfl (lv_room (Nat.le_of_ble_eq_true rfl)) dR_behind_1 ⟨Nat.le_refl 0, Nat.le_refl 0⟩) hS (fun H locs hP hS => ?_)
  refine lv_if_eq (tgt := 19) hx hb dR_behind_4 (by decide) (fun c4 => ?_) (fun c4 => ?_)
  · replace h := fl_pos c4 h
    refine lv_iconst (v := (-1)) hx hb dR_behind_19 (by decide) ?_
    exact fl_iret hx hb hr hlocks hP hS h dR_behind_20
  · replace h := fl_neg c4 h
    refine lv_aload_n hx hb dR_behind_7 rfl (lv_at hl 0 rfl) ?_
    refine rf_get0 (v := .ref (ad 3)) hx hb hts rf_in0 hown hK hP (q := 0) rfl 3 (by decide) (hts _ gm_505) rfl dR_behind_8 ?_
    refine lv_iload_n hx hb dR_behind_11 rfl (lv_at hl 1 rfl) ?_
    refine lv_bipush (v := 16) hx hb dR_behind_12 (by decide) ?_
    refine lv_idiv hx hb dR_behind_14 (by decide) ?_
    replace h := fl_ck_some h
    obtain ⟨hi5, h⟩ := h
    refine rf_iald hx hb hK hP (q := 3) rfl hi5 dR_behind_15 ?_
    refine lv_goto (tgt := 20) hx hb dR_behind_16 (by decide) ?_
    exact fl_iret hx hb hr hlocks hP hS h dR_behind_20
def yR_cellAt : MethodName := ⟨"MeshedSpansModel", "cellAt", "(I)I"⟩
def wR_cellAt : List Cond := .code yR_cellAt prog_8_method_21_code 4 (some .int) :: gw
theorem kR_cellAt {R : Room} {s : State} {args : Array Value} {own : String} {ix : Nat} (hts : ∀ w ∈ gw, w.before args s = true) (hl : (Cond.methodLink own ix yR_cellAt).before args s = true) (hR : 3 + 1 ≤ R.frames ∧ 8 + (4 + 11) + 63 ≤ R.locals) : CallW R s args own "MeshedSpansModel" ix yR_cellAt prog_8_method_21_code 4 (some .int) wR_cellAt { frames := 3, cells := 0, slots := 0, locals := 63 } 0 0 1 := ⟨callB_of (rm := { frames := 3, cells := 0, slots := 0, locals := 63 }) 1 hts (gw_c (ct := .code yR_cellAt prog_8_method_21_code 4 (some .int)) gm_622) rfl rfl rfl (hts _ gm_47) hl (by decide +kernel) hR, hts _ gm_621, hts _ gm_31⟩
theorem dR_cellAt_0 : decode prog_8_method_21_code 0 = .ok (.aload_n 0, 1) := by decide +kernel
theorem dR_cellAt_1 : decode prog_8_method_21_code 1 = .ok (.iload_n 1, 1) := by decide +kernel
theorem dR_cellAt_2 : decode prog_8_method_21_code 2 = .ok (.invokevirtual 114, 3) := by decide +kernel
theorem dR_cellAt_5 : decode prog_8_method_21_code 5 = .ok (.istore_n 2, 1) := by decide +kernel
theorem dR_cellAt_6 : decode prog_8_method_21_code 6 = .ok (.iload_n 2, 1) := by decide +kernel
theorem dR_cellAt_7 : decode prog_8_method_21_code 7 = .ok (.iconst (-1), 1) := by decide +kernel
theorem dR_cellAt_8 : decode prog_8_method_21_code 8 = .ok (.if_icmp .eq 13, 3) := by decide +kernel
theorem dR_cellAt_11 : decode prog_8_method_21_code 11 = .ok (.aload_n 0, 1) := by decide +kernel
theorem dR_cellAt_12 : decode prog_8_method_21_code 12 = .ok (.getfield 7, 3) := by decide +kernel
theorem dR_cellAt_15 : decode prog_8_method_21_code 15 = .ok (.iload_n 2, 1) := by decide +kernel
theorem dR_cellAt_16 : decode prog_8_method_21_code 16 = .ok (.iaload, 1) := by decide +kernel
theorem dR_cellAt_17 : decode prog_8_method_21_code 17 = .ok (.iconst 1, 1) := by decide +kernel
theorem dR_cellAt_18 : decode prog_8_method_21_code 18 = .ok (.if_icmp .eq 5, 3) := by decide +kernel
theorem dR_cellAt_21 : decode prog_8_method_21_code 21 = .ok (.iconst (-1), 1) := by decide +kernel
theorem dR_cellAt_22 : decode prog_8_method_21_code 22 = .ok (.ireturn, 1) := by decide +kernel
theorem dR_cellAt_23 : decode prog_8_method_21_code 23 = .ok (.bipush 16, 2) := by decide +kernel
theorem dR_cellAt_25 : decode prog_8_method_21_code 25 = .ok (.iload_n 2, 1) := by decide +kernel
theorem dR_cellAt_26 : decode prog_8_method_21_code 26 = .ok (.imul, 1) := by decide +kernel
theorem dR_cellAt_27 : decode prog_8_method_21_code 27 = .ok (.iload_n 1, 1) := by decide +kernel
theorem dR_cellAt_28 : decode prog_8_method_21_code 28 = .ok (.bipush 16, 2) := by decide +kernel
theorem dR_cellAt_30 : decode prog_8_method_21_code 30 = .ok (.irem, 1) := by decide +kernel
theorem dR_cellAt_31 : decode prog_8_method_21_code 31 = .ok (.aload_n 0, 1) := by decide +kernel
theorem dR_cellAt_32 : decode prog_8_method_21_code 32 = .ok (.getfield 22, 3) := by decide +kernel
theorem dR_cellAt_35 : decode prog_8_method_21_code 35 = .ok (.iload_n 2, 1) := by decide +kernel
theorem dR_cellAt_36 : decode prog_8_method_21_code 36 = .ok (.iaload, 1) := by decide +kernel
theorem dR_cellAt_37 : decode prog_8_method_21_code 37 = .ok (.ishr, 1) := by decide +kernel
theorem dR_cellAt_38 : decode prog_8_method_21_code 38 = .ok (.iadd, 1) := by decide +kernel
theorem dR_cellAt_39 : decode prog_8_method_21_code 39 = .ok (.istore_n 3, 1) := by decide +kernel
theorem dR_cellAt_40 : decode prog_8_method_21_code 40 = .ok (.aload_n 0, 1) := by decide +kernel
theorem dR_cellAt_41 : decode prog_8_method_21_code 41 = .ok (.getfield 28, 3) := by decide +kernel
theorem dR_cellAt_44 : decode prog_8_method_21_code 44 = .ok (.iload_n 3, 1) := by decide +kernel
theorem dR_cellAt_45 : decode prog_8_method_21_code 45 = .ok (.iaload, 1) := by decide +kernel
theorem dR_cellAt_46 : decode prog_8_method_21_code 46 = .ok (.iload_n 1, 1) := by decide +kernel
theorem dR_cellAt_47 : decode prog_8_method_21_code 47 = .ok (.bipush 16, 2) := by decide +kernel
theorem dR_cellAt_49 : decode prog_8_method_21_code 49 = .ok (.idiv, 1) := by decide +kernel
theorem dR_cellAt_50 : decode prog_8_method_21_code 50 = .ok (.if_icmp .ne 7, 3) := by decide +kernel
theorem dR_cellAt_53 : decode prog_8_method_21_code 53 = .ok (.iload_n 3, 1) := by decide +kernel
theorem dR_cellAt_54 : decode prog_8_method_21_code 54 = .ok (.goto 4, 3) := by decide +kernel
theorem dR_cellAt_57 : decode prog_8_method_21_code 57 = .ok (.iconst (-1), 1) := by decide +kernel
theorem dR_cellAt_58 : decode prog_8_method_21_code 58 = .ok (.ireturn, 1) := by decide +kernel
def fR_cellAt (a0 : Int32) (g : fl_G) : Option (Int32 × fl_G) :=
  fl_bd (fR_behind a0 g) (fun r1 g2 => if r1 = (-1) then (some ((-1), g2)) else (fl_ck (fl_in r1 12) (if (g2 1 (Int32.toNatClampNeg r1)) = 1 then (fl_ck (fl_in r1 12) (fl_ck (fl_in ((16 * r1) + ((fl_rem a0 16) >>> ((g2 5 (Int32.toNatClampNeg r1)) &&& 31))) 192) (if (g2 7 (Int32.toNatClampNeg ((16 * r1) + ((fl_rem a0 16) >>> ((g2 5 (Int32.toNatClampNeg r1)) &&& 31))))) = (a0 / 16) then (some (((16 * r1) + ((fl_rem a0 16) >>> ((g2 5 (Int32.toNatClampNeg r1)) &&& 31))), g2)) else (some ((-1), g2))))) else (some ((-1), g2)))))
set_option maxHeartbeats 4000000 in
set_option maxRecDepth 100000 in
theorem cR_cellAt (l : Launch) (dC : Nat → ClassId) (dI : Nat → Nat → Nat) (ca : Nat → ClassId) (ad : Nat → Nat) (hI : fl_inj 14 ad) (a0 : Int32) {g g1 : fl_G} {r : Int32} (h : fR_cellAt a0 g = some (r, g1)) : Met l yR_cellAt wR_cellAt ({ frames := 3, cells := 0, slots := 0, locals := 63 }) (va_Pc [.ref (ad 0), .int a0] (fl_Pre (dC, dI) al_cl 14 (rf_sh ca ad) ad (rf_ty ca) rf_ns g)) (fl_QI (dC, dI) al_cl 14 (rf_sh ca ad) ad r g1) 0 0 (fl_A 14 ad) := by
  refine fl_of (cc := prog_8_method_21_code) (maxL := 4) (ret := (some .int)) (by decide) rfl (Nat.le_of_ble_eq_true rfl) ?_
  intro p e s m below meth c ls hx hb hr hml hts hown hlocks hP hK hN hl
  have hown : s.vm.findClass "MeshedSpansModel" = some m.cls := hown
  have hS : va_S (fl_A 14 ad) s.heap s.heap [] := va_S.rf
  have hl : lv_has ls 4 [(0, .ref (ad 0)), (1, .int a0)] := hl
  unfold fR_cellAt at h
  refine lv_aload_n hx hb dR_cellAt_0 rfl (lv_at hl 0 rfl) ?_
  refine lv_iload_n hx hb dR_cellAt_1 rfl (lv_at hl 1 rfl) ?_
  replace h := fl_bd_some h
  obtain ⟨r1, g2, hc3, h⟩ := h
  refine fl_calli (va_runV (As := [.int a0]) (rest := []) ⟨hx, hb, hml, hown, hts⟩ (cR_behind l dC dI ca ad hI a0 hc3) (kR_behind hts (hts _ gm_614) ⟨Nat.le_of_ble_eq_true rfl, Nat.le_of_ble_eq_true rfl⟩) (fl_preV hK hP hN (rf_lt rfl (by decide)) (rf_sh0 rfl) rfl) rfl rfl hl.1 rfl (lv_room (Nat.le_of_ble_eq_true rfl)) dR_cellAt_2 ⟨Nat.le_refl 0, Nat.le_refl 0⟩) hS (fun H locs hP hS => ?_)
  refine lv_istore_n (lv' := [(2, .int r1), (0, .ref (ad 0)), (1, .int a0)]) hx hb dR_cellAt_5 rfl hl (by decide) rfl (fun ls hl => ?_)
  refine lv_iload_n hx hb dR_cellAt_6 rfl (lv_at hl 0 rfl) ?_
  refine lv_iconst (v := (-1)) hx hb dR_cellAt_7 (by decide) ?_
  refine lv_icmp_eq (tgt := 21) hx hb dR_cellAt_8 (by decide) (fun c4 => ?_) (fun c4 => ?_)
  · replace h := fl_pos c4 h
    refine lv_iconst (v := (-1)) hx hb dR_cellAt_21 (by decide) ?_
    exact fl_iret hx hb hr hlocks hP hS h dR_cellAt_22
  · replace h := fl_neg c4 h
    refine lv_aload_n hx hb dR_cellAt_11 rfl (lv_at hl 1 rfl) ?_
    refine rf_get0 (v := .ref (ad 1)) hx hb hts rf_in0 hown hK hP (q := 0) rfl 1 (by decide) (hts _ gm_503) rfl dR_cellAt_12 ?_
    refine lv_iload_n hx hb dR_cellAt_15 rfl (lv_at hl 0 rfl) ?_
    replace h := fl_ck_some h
    obtain ⟨hi5, h⟩ := h
    refine rf_iald hx hb hK hP (q := 1) rfl hi5 dR_cellAt_16 ?_
    refine lv_iconst (v := 1) hx hb dR_cellAt_17 (by decide) ?_
    refine lv_icmp_eq (tgt := 23) hx hb dR_cellAt_18 (by decide) (fun c6 => ?_) (fun c6 => ?_)
    · replace h := fl_pos c6 h
      refine lv_bipush (v := 16) hx hb dR_cellAt_23 (by decide) ?_
      refine lv_iload_n hx hb dR_cellAt_25 rfl (lv_at hl 0 rfl) ?_
      refine lv_imul hx hb dR_cellAt_26 ?_
      refine lv_iload_n hx hb dR_cellAt_27 rfl (lv_at hl 2 rfl) ?_
      refine lv_bipush (v := 16) hx hb dR_cellAt_28 (by decide) ?_
      refine lv_irem hx hb dR_cellAt_30 (by decide) ?_
      refine lv_aload_n hx hb dR_cellAt_31 rfl (lv_at hl 1 rfl) ?_
      refine rf_get0 (v := .ref (ad 5)) hx hb hts rf_in0 hown hK hP (q := 0) rfl 5 (by decide) (hts _ gm_507) rfl dR_cellAt_32 ?_
      refine lv_iload_n hx hb dR_cellAt_35 rfl (lv_at hl 0 rfl) ?_
      replace h := fl_ck_some h
      obtain ⟨hi7, h⟩ := h
      refine rf_iald hx hb hK hP (q := 5) rfl hi7 dR_cellAt_36 ?_
      refine lv_ishr hx hb dR_cellAt_37 ?_
      refine lv_iadd hx hb dR_cellAt_38 ?_
      refine lv_istore_n (lv' := [(3, .int ((16 * r1) + ((fl_rem a0 16) >>> ((g2 5 (Int32.toNatClampNeg r1)) &&& 31)))), (2, .int r1), (0, .ref (ad 0)), (1, .int a0)]) hx hb dR_cellAt_39 rfl hl (by decide) rfl (fun ls hl => ?_)
      refine lv_aload_n hx hb dR_cellAt_40 rfl (lv_at hl 2 rfl) ?_
      refine rf_get0 (v := .ref (ad 7)) hx hb hts rf_in0 hown hK hP (q := 0) rfl 7 (by decide) (hts _ gm_509) rfl dR_cellAt_41 ?_
      refine lv_iload_n hx hb dR_cellAt_44 rfl (lv_at hl 0 rfl) ?_
      replace h := fl_ck_some h
      obtain ⟨hi8, h⟩ := h
      refine rf_iald hx hb hK hP (q := 7) rfl hi8 dR_cellAt_45 ?_
      refine lv_iload_n hx hb dR_cellAt_46 rfl (lv_at hl 3 rfl) ?_
      refine lv_bipush (v := 16) hx hb dR_cellAt_47 (by decide) ?_
      refine lv_idiv hx hb dR_cellAt_49 (by decide) ?_
      refine lv_icmp_ne (tgt := 57) hx hb dR_cellAt_50 (by decide) (fun c9 => ?_) (fun c9 => ?_)
      · replace h := fl_neg c9 h
        refine lv_iconst (v := (-1)) hx hb dR_cellAt_57 (by decide) ?_
        exact fl_iret hx hb hr hlocks hP hS h dR_cellAt_58
      · replace h := fl_pos c9 h
        refine lv_iload_n hx hb dR_cellAt_53 rfl (lv_at hl 0 rfl) ?_
        refine lv_goto (tgt := 58) hx hb dR_cellAt_54 (by decide) ?_
        exact fl_iret hx hb hr hlocks hP hS h dR_cellAt_58
    · replace h := fl_neg c6 h
      refine lv_iconst (v := (-1)) hx hb dR_cellAt_21 (by decide) ?_
      exact fl_iret hx hb hr hlocks hP hS h dR_cellAt_22
def yR_inside : MethodName := ⟨"MeshedSpansModel", "inside", "(I)Z"⟩
def wR_inside : List Cond := .code yR_inside prog_8_method_22_code 3 (some .boolean) :: gw
theorem kR_inside {R : Room} {s : State} {args : Array Value} {own : String} {ix : Nat} (hts : ∀ w ∈ gw, w.before args s = true) (hl : (Cond.methodLink own ix yR_inside).before args s = true) (hR : 4 + 1 ≤ R.frames ∧ 8 + (3 + 11) + 86 ≤ R.locals) : CallW R s args own "MeshedSpansModel" ix yR_inside prog_8_method_22_code 3 (some .boolean) wR_inside { frames := 4, cells := 0, slots := 0, locals := 86 } 0 0 1 := ⟨callB_of (rm := { frames := 4, cells := 0, slots := 0, locals := 86 }) 1 hts (gw_c (ct := .code yR_inside prog_8_method_22_code 3 (some .boolean)) gm_613) rfl rfl rfl (hts _ gm_47) hl (by decide +kernel) hR, hts _ gm_612, hts _ gm_29⟩
theorem dR_inside_0 : decode prog_8_method_22_code 0 = .ok (.aload_n 0, 1) := by decide +kernel
theorem dR_inside_1 : decode prog_8_method_22_code 1 = .ok (.iload_n 1, 1) := by decide +kernel
theorem dR_inside_2 : decode prog_8_method_22_code 2 = .ok (.invokevirtual 114, 3) := by decide +kernel
theorem dR_inside_5 : decode prog_8_method_22_code 5 = .ok (.istore_n 2, 1) := by decide +kernel
theorem dR_inside_6 : decode prog_8_method_22_code 6 = .ok (.iload_n 2, 1) := by decide +kernel
theorem dR_inside_7 : decode prog_8_method_22_code 7 = .ok (.iconst (-1), 1) := by decide +kernel
theorem dR_inside_8 : decode prog_8_method_22_code 8 = .ok (.if_icmp .eq 26, 3) := by decide +kernel
theorem dR_inside_11 : decode prog_8_method_22_code 11 = .ok (.aload_n 0, 1) := by decide +kernel
theorem dR_inside_12 : decode prog_8_method_22_code 12 = .ok (.getfield 7, 3) := by decide +kernel
theorem dR_inside_15 : decode prog_8_method_22_code 15 = .ok (.iload_n 2, 1) := by decide +kernel
theorem dR_inside_16 : decode prog_8_method_22_code 16 = .ok (.iaload, 1) := by decide +kernel
theorem dR_inside_17 : decode prog_8_method_22_code 17 = .ok (.iconst 2, 1) := by decide +kernel
theorem dR_inside_18 : decode prog_8_method_22_code 18 = .ok (.if_icmp .eq 12, 3) := by decide +kernel
theorem dR_inside_21 : decode prog_8_method_22_code 21 = .ok (.aload_n 0, 1) := by decide +kernel
theorem dR_inside_22 : decode prog_8_method_22_code 22 = .ok (.iload_n 1, 1) := by decide +kernel
theorem dR_inside_23 : decode prog_8_method_22_code 23 = .ok (.invokevirtual 117, 3) := by decide +kernel
theorem dR_inside_26 : decode prog_8_method_22_code 26 = .ok (.iconst (-1), 1) := by decide +kernel
theorem dR_inside_27 : decode prog_8_method_22_code 27 = .ok (.if_icmp .eq 7, 3) := by decide +kernel
theorem dR_inside_30 : decode prog_8_method_22_code 30 = .ok (.iconst 1, 1) := by decide +kernel
theorem dR_inside_31 : decode prog_8_method_22_code 31 = .ok (.goto 4, 3) := by decide +kernel
theorem dR_inside_34 : decode prog_8_method_22_code 34 = .ok (.iconst 0, 1) := by decide +kernel
theorem dR_inside_35 : decode prog_8_method_22_code 35 = .ok (.ireturn, 1) := by decide +kernel
def fR_inside (a0 : Int32) (g : fl_G) : Option (Int32 × fl_G) :=
  fl_bd (fR_behind a0 g) (fun r1 g2 => if r1 = (-1) then (some (0, g2)) else (fl_ck (fl_in r1 12) (if (g2 1 (Int32.toNatClampNeg r1)) = 2 then (some (1, g2)) else (fl_bd (fR_cellAt a0 g2) (fun r7 g8 => if r7 = (-1) then (some (0, g8)) else (some (1, g8)))))))
set_option maxHeartbeats 4000000 in
set_option maxRecDepth 100000 in
theorem cR_inside (l : Launch) (dC : Nat → ClassId) (dI : Nat → Nat → Nat) (ca : Nat → ClassId) (ad : Nat → Nat) (hI : fl_inj 14 ad) (a0 : Int32) {g g1 : fl_G} {r : Int32} (h : fR_inside a0 g = some (r, g1)) : Met l yR_inside wR_inside ({ frames := 4, cells := 0, slots := 0, locals := 86 }) (va_Pc [.ref (ad 0), .int a0] (fl_Pre (dC, dI) al_cl 14 (rf_sh ca ad) ad (rf_ty ca) rf_ns g)) (fl_QI (dC, dI) al_cl 14 (rf_sh ca ad) ad r g1) 0 0 (fl_A 14 ad) := by
  refine fl_of (cc := prog_8_method_22_code) (maxL := 3) (ret := (some .boolean)) (by decide) rfl (Nat.le_of_ble_eq_true rfl) ?_
  intro p e s m below meth c ls hx hb hr hml hts hown hlocks hP hK hN hl
  have hown : s.vm.findClass "MeshedSpansModel" = some m.cls := hown
  have hS : va_S (fl_A 14 ad) s.heap s.heap [] := va_S.rf
  have hl : lv_has ls 3 [(0, .ref (ad 0)), (1, .int a0)] := hl
  unfold fR_inside at h
  refine lv_aload_n hx hb dR_inside_0 rfl (lv_at hl 0 rfl) ?_
  refine lv_iload_n hx hb dR_inside_1 rfl (lv_at hl 1 rfl) ?_
  replace h := fl_bd_some h
  obtain ⟨r1, g2, hc3, h⟩ := h
  refine fl_calli (va_runV (As := [.int a0]) (rest := []) ⟨hx, hb, hml, hown, hts⟩ (cR_behind l dC dI ca ad hI a0 hc3) (kR_behind hts (hts _ gm_614) ⟨Nat.le_of_ble_eq_true rfl, Nat.le_of_ble_eq_true rfl⟩) (fl_preV hK hP hN (rf_lt rfl (by decide)) (rf_sh0 rfl) rfl) rfl rfl hl.1 rfl (lv_room (Nat.le_of_ble_eq_true rfl)) dR_inside_2 ⟨Nat.le_refl 0, Nat.le_refl 0⟩) hS (fun H locs hP hS => ?_)
  refine lv_istore_n (lv' := [(2, .int r1), (0, .ref (ad 0)), (1, .int a0)]) hx hb dR_inside_5 rfl hl (by decide) rfl (fun ls hl => ?_)
  refine lv_iload_n hx hb dR_inside_6 rfl (lv_at hl 0 rfl) ?_
  refine lv_iconst (v := (-1)) hx hb dR_inside_7 (by decide) ?_
  refine lv_icmp_eq (tgt := 34) hx hb dR_inside_8 (by decide) (fun c4 => ?_) (fun c4 => ?_)
  · replace h := fl_pos c4 h
    refine lv_iconst (v := 0) hx hb dR_inside_34 (by decide) ?_
    exact fl_zret hx hb hr hlocks hP hS (Or.inl rfl) h dR_inside_35
  · replace h := fl_neg c4 h
    refine lv_aload_n hx hb dR_inside_11 rfl (lv_at hl 1 rfl) ?_
    refine rf_get0 (v := .ref (ad 1)) hx hb hts rf_in0 hown hK hP (q := 0) rfl 1 (by decide) (hts _ gm_503) rfl dR_inside_12 ?_
    refine lv_iload_n hx hb dR_inside_15 rfl (lv_at hl 0 rfl) ?_
    replace h := fl_ck_some h
    obtain ⟨hi5, h⟩ := h
    refine rf_iald hx hb hK hP (q := 1) rfl hi5 dR_inside_16 ?_
    refine lv_iconst (v := 2) hx hb dR_inside_17 (by decide) ?_
    refine lv_icmp_eq (tgt := 30) hx hb dR_inside_18 (by decide) (fun c6 => ?_) (fun c6 => ?_)
    · replace h := fl_pos c6 h
      refine lv_iconst (v := 1) hx hb dR_inside_30 (by decide) ?_
      refine lv_goto (tgt := 35) hx hb dR_inside_31 (by decide) ?_
      exact fl_zret hx hb hr hlocks hP hS (Or.inr rfl) h dR_inside_35
    · replace h := fl_neg c6 h
      refine lv_aload_n hx hb dR_inside_21 rfl (lv_at hl 1 rfl) ?_
      refine lv_iload_n hx hb dR_inside_22 rfl (lv_at hl 2 rfl) ?_
      replace h := fl_bd_some h
      obtain ⟨r7, g8, hc9, h⟩ := h
      refine fl_calli (va_runV (As := [.int a0]) (rest := []) ⟨hx, hb, hml, hown, hts⟩ (cR_cellAt l dC dI ca ad hI a0 hc9) (kR_cellAt hts (hts _ gm_620) ⟨Nat.le_of_ble_eq_true rfl, Nat.le_of_ble_eq_true rfl⟩) (fl_preV hK hP hN (rf_lt rfl (by decide)) (rf_sh0 rfl) rfl) rfl rfl hl.1 rfl (lv_room (Nat.le_of_ble_eq_true rfl)) dR_inside_23 ⟨Nat.le_refl 0, Nat.le_refl 0⟩) hS (fun H locs hP hS => ?_)
      refine lv_iconst (v := (-1)) hx hb dR_inside_26 (by decide) ?_
      refine lv_icmp_eq (tgt := 34) hx hb dR_inside_27 (by decide) (fun c10 => ?_) (fun c10 => ?_)
      · replace h := fl_pos c10 h
        refine lv_iconst (v := 0) hx hb dR_inside_34 (by decide) ?_
        exact fl_zret hx hb hr hlocks hP hS (Or.inl rfl) h dR_inside_35
      · replace h := fl_neg c10 h
        refine lv_iconst (v := 1) hx hb dR_inside_30 (by decide) ?_
        refine lv_goto (tgt := 35) hx hb dR_inside_31 (by decide) ?_
        exact fl_zret hx hb hr hlocks hP hS (Or.inr rfl) h dR_inside_35
def yR_isSmall : MethodName := ⟨"MeshedSpansModel", "isSmall", "(I)Z"⟩
def wR_isSmall : List Cond := .code yR_isSmall prog_8_method_23_code 3 (some .boolean) :: gw
theorem kR_isSmall {R : Room} {s : State} {args : Array Value} {own : String} {ix : Nat} (hts : ∀ w ∈ gw, w.before args s = true) (hl : (Cond.methodLink own ix yR_isSmall).before args s = true) (hR : 4 + 1 ≤ R.frames ∧ 8 + (3 + 11) + 86 ≤ R.locals) : CallW R s args own "MeshedSpansModel" ix yR_isSmall prog_8_method_23_code 3 (some .boolean) wR_isSmall { frames := 4, cells := 0, slots := 0, locals := 86 } 0 0 1 := ⟨callB_of (rm := { frames := 4, cells := 0, slots := 0, locals := 86 }) 1 hts (gw_c (ct := .code yR_isSmall prog_8_method_23_code 3 (some .boolean)) gm_643) rfl rfl rfl (hts _ gm_47) hl (by decide +kernel) hR, hts _ gm_642, hts _ gm_35⟩
theorem dR_isSmall_0 : decode prog_8_method_23_code 0 = .ok (.aload_n 0, 1) := by decide +kernel
theorem dR_isSmall_1 : decode prog_8_method_23_code 1 = .ok (.iload_n 1, 1) := by decide +kernel
theorem dR_isSmall_2 : decode prog_8_method_23_code 2 = .ok (.invokevirtual 114, 3) := by decide +kernel
theorem dR_isSmall_5 : decode prog_8_method_23_code 5 = .ok (.istore_n 2, 1) := by decide +kernel
theorem dR_isSmall_6 : decode prog_8_method_23_code 6 = .ok (.aload_n 0, 1) := by decide +kernel
theorem dR_isSmall_7 : decode prog_8_method_23_code 7 = .ok (.iload_n 1, 1) := by decide +kernel
theorem dR_isSmall_8 : decode prog_8_method_23_code 8 = .ok (.invokevirtual 117, 3) := by decide +kernel
theorem dR_isSmall_11 : decode prog_8_method_23_code 11 = .ok (.iconst (-1), 1) := by decide +kernel
theorem dR_isSmall_12 : decode prog_8_method_23_code 12 = .ok (.if_icmp .eq 20, 3) := by decide +kernel
theorem dR_isSmall_15 : decode prog_8_method_23_code 15 = .ok (.iload_n 1, 1) := by decide +kernel
theorem dR_isSmall_16 : decode prog_8_method_23_code 16 = .ok (.iconst 1, 1) := by decide +kernel
theorem dR_isSmall_17 : decode prog_8_method_23_code 17 = .ok (.aload_n 0, 1) := by decide +kernel
theorem dR_isSmall_18 : decode prog_8_method_23_code 18 = .ok (.getfield 22, 3) := by decide +kernel
theorem dR_isSmall_21 : decode prog_8_method_23_code 21 = .ok (.iload_n 2, 1) := by decide +kernel
theorem dR_isSmall_22 : decode prog_8_method_23_code 22 = .ok (.iaload, 1) := by decide +kernel
theorem dR_isSmall_23 : decode prog_8_method_23_code 23 = .ok (.ishl, 1) := by decide +kernel
theorem dR_isSmall_24 : decode prog_8_method_23_code 24 = .ok (.irem, 1) := by decide +kernel
theorem dR_isSmall_25 : decode prog_8_method_23_code 25 = .ok (.ifCond .ne 7, 3) := by decide +kernel
theorem dR_isSmall_28 : decode prog_8_method_23_code 28 = .ok (.iconst 1, 1) := by decide +kernel
theorem dR_isSmall_29 : decode prog_8_method_23_code 29 = .ok (.goto 4, 3) := by decide +kernel
theorem dR_isSmall_32 : decode prog_8_method_23_code 32 = .ok (.iconst 0, 1) := by decide +kernel
theorem dR_isSmall_33 : decode prog_8_method_23_code 33 = .ok (.ireturn, 1) := by decide +kernel
def fR_isSmall (a0 : Int32) (g : fl_G) : Option (Int32 × fl_G) :=
  fl_bd (fR_behind a0 g) (fun r1 g2 => fl_bd (fR_cellAt a0 g2) (fun r4 g5 => if r4 = (-1) then (some (0, g5)) else (fl_ck (fl_in r1 12) (fl_ck (¬ (1 <<< ((g5 5 (Int32.toNatClampNeg r1)) &&& 31)) = 0) (if (fl_rem a0 (1 <<< ((g5 5 (Int32.toNatClampNeg r1)) &&& 31))) = 0 then (some (1, g5)) else (some (0, g5)))))))
set_option maxHeartbeats 4000000 in
set_option maxRecDepth 100000 in
theorem cR_isSmall (l : Launch) (dC : Nat → ClassId) (dI : Nat → Nat → Nat) (ca : Nat → ClassId) (ad : Nat → Nat) (hI : fl_inj 14 ad) (a0 : Int32) {g g1 : fl_G} {r : Int32} (h : fR_isSmall a0 g = some (r, g1)) : Met l yR_isSmall wR_isSmall ({ frames := 4, cells := 0, slots := 0, locals := 86 }) (va_Pc [.ref (ad 0), .int a0] (fl_Pre (dC, dI) al_cl 14 (rf_sh ca ad) ad (rf_ty ca) rf_ns g)) (fl_QI (dC, dI) al_cl 14 (rf_sh ca ad) ad r g1) 0 0 (fl_A 14 ad) := by
  refine fl_of (cc := prog_8_method_23_code) (maxL := 3) (ret := (some .boolean)) (by decide) rfl (Nat.le_of_ble_eq_true rfl) ?_
  intro p e s m below meth c ls hx hb hr hml hts hown hlocks hP hK hN hl
  have hown : s.vm.findClass "MeshedSpansModel" = some m.cls := hown
  have hS : va_S (fl_A 14 ad) s.heap s.heap [] := va_S.rf
  have hl : lv_has ls 3 [(0, .ref (ad 0)), (1, .int a0)] := hl
  unfold fR_isSmall at h
  refine lv_aload_n hx hb dR_isSmall_0 rfl (lv_at hl 0 rfl) ?_
  refine lv_iload_n hx hb dR_isSmall_1 rfl (lv_at hl 1 rfl) ?_
  replace h := fl_bd_some h
  obtain ⟨r1, g2, hc3, h⟩ := h
  refine fl_calli (va_runV (As := [.int a0]) (rest := []) ⟨hx, hb, hml, hown, hts⟩ (cR_behind l dC dI ca ad hI a0 hc3) (kR_behind hts (hts _ gm_614) ⟨Nat.le_of_ble_eq_true rfl, Nat.le_of_ble_eq_true rfl⟩) (fl_preV hK hP hN (rf_lt rfl (by decide)) (rf_sh0 rfl) rfl) rfl rfl hl.1 rfl (lv_room (Nat.le_of_ble_eq_true rfl)) dR_isSmall_2 ⟨Nat.le_refl 0, Nat.le_refl 0⟩) hS (fun H locs hP hS => ?_)
  refine lv_istore_n (lv' := [(2, .int r1), (0, .ref (ad 0)), (1, .int a0)]) hx hb dR_isSmall_5 rfl hl (by decide) rfl (fun ls hl => ?_)
  refine lv_aload_n hx hb dR_isSmall_6 rfl (lv_at hl 1 rfl) ?_
  refine lv_iload_n hx hb dR_isSmall_7 rfl (lv_at hl 2 rfl) ?_
  replace h := fl_bd_some h
  obtain ⟨r4, g5, hc6, h⟩ := h
  refine fl_calli (va_runV (As := [.int a0]) (rest := []) ⟨hx, hb, hml, hown, hts⟩ (cR_cellAt l dC dI ca ad hI a0 hc6) (kR_cellAt hts (hts _ gm_620) ⟨Nat.le_of_ble_eq_true rfl, Nat.le_of_ble_eq_true rfl⟩) (fl_preV hK hP hN (rf_lt rfl (by decide)) (rf_sh0 rfl) rfl) rfl rfl hl.1 rfl (lv_room (Nat.le_of_ble_eq_true rfl)) dR_isSmall_8 ⟨Nat.le_refl 0, Nat.le_refl 0⟩) hS (fun H locs hP hS => ?_)
  refine lv_iconst (v := (-1)) hx hb dR_isSmall_11 (by decide) ?_
  refine lv_icmp_eq (tgt := 32) hx hb dR_isSmall_12 (by decide) (fun c7 => ?_) (fun c7 => ?_)
  · replace h := fl_pos c7 h
    refine lv_iconst (v := 0) hx hb dR_isSmall_32 (by decide) ?_
    exact fl_zret hx hb hr hlocks hP hS (Or.inl rfl) h dR_isSmall_33
  · replace h := fl_neg c7 h
    refine lv_iload_n hx hb dR_isSmall_15 rfl (lv_at hl 2 rfl) ?_
    refine lv_iconst (v := 1) hx hb dR_isSmall_16 (by decide) ?_
    refine lv_aload_n hx hb dR_isSmall_17 rfl (lv_at hl 1 rfl) ?_
    refine rf_get0 (v := .ref (ad 5)) hx hb hts rf_in0 hown hK hP (q := 0) rfl 5 (by decide) (hts _ gm_507) rfl dR_isSmall_18 ?_
    refine lv_iload_n hx hb dR_isSmall_21 rfl (lv_at hl 0 rfl) ?_
    replace h := fl_ck_some h
    obtain ⟨hi8, h⟩ := h
    refine rf_iald hx hb hK hP (q := 5) rfl hi8 dR_isSmall_22 ?_
    refine lv_ishl hx hb dR_isSmall_23 ?_
    replace h := fl_ck_some h
    obtain ⟨hz9, h⟩ := h
    refine lv_irem hx hb dR_isSmall_24 hz9 ?_
    refine lv_if_ne (tgt := 32) hx hb dR_isSmall_25 (by decide) (fun c10 => ?_) (fun c10 => ?_)
    · replace h := fl_neg c10 h
      refine lv_iconst (v := 0) hx hb dR_isSmall_32 (by decide) ?_
      exact fl_zret hx hb hr hlocks hP hS (Or.inl rfl) h dR_isSmall_33
    · replace h := fl_pos c10 h
      refine lv_iconst (v := 1) hx hb dR_isSmall_28 (by decide) ?_
      refine lv_goto (tgt := 33) hx hb dR_isSmall_29 (by decide) ?_
      exact fl_zret hx hb hr hlocks hP hS (Or.inr rfl) h dR_isSmall_33
def yR_isLarge : MethodName := ⟨"MeshedSpansModel", "isLarge", "(I)Z"⟩
def wR_isLarge : List Cond := .code yR_isLarge prog_8_method_24_code 2 (some .boolean) :: gw
theorem kR_isLarge {R : Room} {s : State} {args : Array Value} {own : String} {ix : Nat} (hts : ∀ w ∈ gw, w.before args s = true) (hl : (Cond.methodLink own ix yR_isLarge).before args s = true) (hR : 2 + 1 ≤ R.frames ∧ 8 + (2 + 11) + 42 ≤ R.locals) : CallW R s args own "MeshedSpansModel" ix yR_isLarge prog_8_method_24_code 2 (some .boolean) wR_isLarge { frames := 2, cells := 0, slots := 0, locals := 42 } 0 0 1 := ⟨callB_of (rm := { frames := 2, cells := 0, slots := 0, locals := 42 }) 1 hts (gw_c (ct := .code yR_isLarge prog_8_method_24_code 2 (some .boolean)) gm_634) rfl rfl rfl (hts _ gm_47) hl (by decide +kernel) hR, hts _ gm_633, hts _ gm_32⟩
theorem dR_isLarge_0 : decode prog_8_method_24_code 0 = .ok (.iload_n 1, 1) := by decide +kernel
theorem dR_isLarge_1 : decode prog_8_method_24_code 1 = .ok (.invokestatic 110, 3) := by decide +kernel
theorem dR_isLarge_4 : decode prog_8_method_24_code 4 = .ok (.ifCond .eq 26, 3) := by decide +kernel
theorem dR_isLarge_7 : decode prog_8_method_24_code 7 = .ok (.iload_n 1, 1) := by decide +kernel
theorem dR_isLarge_8 : decode prog_8_method_24_code 8 = .ok (.bipush 16, 2) := by decide +kernel
theorem dR_isLarge_10 : decode prog_8_method_24_code 10 = .ok (.irem, 1) := by decide +kernel
theorem dR_isLarge_11 : decode prog_8_method_24_code 11 = .ok (.ifCond .ne 19, 3) := by decide +kernel
theorem dR_isLarge_14 : decode prog_8_method_24_code 14 = .ok (.aload_n 0, 1) := by decide +kernel
theorem dR_isLarge_15 : decode prog_8_method_24_code 15 = .ok (.getfield 31, 3) := by decide +kernel
theorem dR_isLarge_18 : decode prog_8_method_24_code 18 = .ok (.iload_n 1, 1) := by decide +kernel
theorem dR_isLarge_19 : decode prog_8_method_24_code 19 = .ok (.bipush 16, 2) := by decide +kernel
theorem dR_isLarge_21 : decode prog_8_method_24_code 21 = .ok (.idiv, 1) := by decide +kernel
theorem dR_isLarge_22 : decode prog_8_method_24_code 22 = .ok (.iaload, 1) := by decide +kernel
theorem dR_isLarge_23 : decode prog_8_method_24_code 23 = .ok (.ifCond .le 7, 3) := by decide +kernel
theorem dR_isLarge_26 : decode prog_8_method_24_code 26 = .ok (.iconst 1, 1) := by decide +kernel
theorem dR_isLarge_27 : decode prog_8_method_24_code 27 = .ok (.goto 4, 3) := by decide +kernel
theorem dR_isLarge_30 : decode prog_8_method_24_code 30 = .ok (.iconst 0, 1) := by decide +kernel
theorem dR_isLarge_31 : decode prog_8_method_24_code 31 = .ok (.ireturn, 1) := by decide +kernel
def fR_isLarge (a0 : Int32) (g : fl_G) : Option (Int32 × fl_G) :=
  fl_bd (fR_isAddress a0 g) (fun r1 g2 => if r1 = 0 then (some (0, g2)) else (if (fl_rem a0 16) = 0 then (fl_ck (fl_in (a0 / 16) 24) (if (g2 8 (Int32.toNatClampNeg (a0 / 16))) ≤ 0 then (some (0, g2)) else (some (1, g2)))) else (some (0, g2))))
set_option maxHeartbeats 4000000 in
set_option maxRecDepth 100000 in
theorem cR_isLarge (l : Launch) (dC : Nat → ClassId) (dI : Nat → Nat → Nat) (ca : Nat → ClassId) (ad : Nat → Nat) (hI : fl_inj 14 ad) (a0 : Int32) {g g1 : fl_G} {r : Int32} (h : fR_isLarge a0 g = some (r, g1)) : Met l yR_isLarge wR_isLarge ({ frames := 2, cells := 0, slots := 0, locals := 42 }) (va_Pc [.ref (ad 0), .int a0] (fl_Pre (dC, dI) al_cl 14 (rf_sh ca ad) ad (rf_ty ca) rf_ns g)) (fl_QI (dC, dI) al_cl 14 (rf_sh ca ad) ad r g1) 0 0 (fl_A 14 ad) := by
  refine fl_of (cc := prog_8_method_24_code) (maxL := 2) (ret := (some .boolean)) (by decide) rfl (Nat.le_of_ble_eq_true rfl) ?_
  intro p e s m below meth c ls hx hb hr hml hts hown hlocks hP hK hN hl
  have hown : s.vm.findClass "MeshedSpansModel" = some m.cls := hown
  have hS : va_S (fl_A 14 ad) s.heap s.heap [] := va_S.rf
  have hl : lv_has ls 2 [(0, .ref (ad 0)), (1, .int a0)] := hl
  unfold fR_isLarge at h
  refine lv_iload_n hx hb dR_isLarge_0 rfl (lv_at hl 1 rfl) ?_
  replace h := fl_bd_some h
  obtain ⟨r1, g2, hc3, h⟩ := h
  refine fl_calli (va_runS (As := [.int a0]) (rest := []) ⟨hx, hb, hml, hown, hts⟩ (cR_isAddress l dC dI ca ad hI a0 hc3) (kR_isAddress hts (hts _ gm_617) ⟨Nat.le_of_ble_eq_true rfl, Nat.le_of_ble_eq_true rfl⟩) (fl_preS hK hP hN) rfl rfl hl.1 rfl (lv_room (Nat.le_of_ble_eq_true rfl)) dR_isLarge_1 ⟨Nat.le_refl 0, Nat.le_refl 0⟩) hS (fun H locs hP hS => ?_)
  refine lv_if_eq (tgt := 30) hx hb dR_isLarge_4 (by decide) (fun c4 => ?_) (fun c4 => ?_)
  · replace h := fl_pos c4 h
    refine lv_iconst (v := 0) hx hb dR_isLarge_30 (by decide) ?_
    exact fl_zret hx hb hr hlocks hP hS (Or.inl rfl) h dR_isLarge_31
  · replace h := fl_neg c4 h
    refine lv_iload_n hx hb dR_isLarge_7 rfl (lv_at hl 1 rfl) ?_
    refine lv_bipush (v := 16) hx hb dR_isLarge_8 (by decide) ?_
    refine lv_irem hx hb dR_isLarge_10 (by decide) ?_
    refine lv_if_ne (tgt := 30) hx hb dR_isLarge_11 (by decide) (fun c5 => ?_) (fun c5 => ?_)
    · replace h := fl_neg c5 h
      refine lv_iconst (v := 0) hx hb dR_isLarge_30 (by decide) ?_
      exact fl_zret hx hb hr hlocks hP hS (Or.inl rfl) h dR_isLarge_31
    · replace h := fl_pos c5 h
      refine lv_aload_n hx hb dR_isLarge_14 rfl (lv_at hl 0 rfl) ?_
      refine rf_get0 (v := .ref (ad 8)) hx hb hts rf_in0 hown hK hP (q := 0) rfl 8 (by decide) (hts _ gm_510) rfl dR_isLarge_15 ?_
      refine lv_iload_n hx hb dR_isLarge_18 rfl (lv_at hl 1 rfl) ?_
      refine lv_bipush (v := 16) hx hb dR_isLarge_19 (by decide) ?_
      refine lv_idiv hx hb dR_isLarge_21 (by decide) ?_
      replace h := fl_ck_some h
      obtain ⟨hi6, h⟩ := h
      refine rf_iald hx hb hK hP (q := 8) rfl hi6 dR_isLarge_22 ?_
      refine lv_if_le (tgt := 30) hx hb dR_isLarge_23 (by decide) (fun c7 => ?_) (fun c7 => ?_)
      · replace h := fl_pos c7 h
        refine lv_iconst (v := 0) hx hb dR_isLarge_30 (by decide) ?_
        exact fl_zret hx hb hr hlocks hP hS (Or.inl rfl) h dR_isLarge_31
      · replace h := fl_neg c7 h
        refine lv_iconst (v := 1) hx hb dR_isLarge_26 (by decide) ?_
        refine lv_goto (tgt := 31) hx hb dR_isLarge_27 (by decide) ?_
        exact fl_zret hx hb hr hlocks hP hS (Or.inr rfl) h dR_isLarge_31
def yR_load : MethodName := ⟨"MeshedSpansModel", "load", "(I)J"⟩
def wR_load : List Cond := .code yR_load prog_8_method_25_code 2 (some .long) :: gw
theorem kR_load {R : Room} {s : State} {args : Array Value} {own : String} {ix : Nat} (hts : ∀ w ∈ gw, w.before args s = true) (hl : (Cond.methodLink own ix yR_load).before args s = true) (hR : 5 + 1 ≤ R.frames ∧ 8 + (2 + 11) + 108 ≤ R.locals) : CallW R s args own "MeshedSpansModel" ix yR_load prog_8_method_25_code 2 (some .long) wR_load { frames := 5, cells := 0, slots := 0, locals := 108 } 0 0 1 := ⟨callB_of (rm := { frames := 5, cells := 0, slots := 0, locals := 108 }) 1 hts (gw_c (ct := .code yR_load prog_8_method_25_code 2 (some .long)) gm_610) rfl rfl rfl (hts _ gm_47) hl (by decide +kernel) hR, hts _ gm_608, hts _ gm_609⟩
theorem dR_load_0 : decode prog_8_method_25_code 0 = .ok (.aload_n 0, 1) := by decide +kernel
theorem dR_load_1 : decode prog_8_method_25_code 1 = .ok (.iload_n 1, 1) := by decide +kernel
theorem dR_load_2 : decode prog_8_method_25_code 2 = .ok (.invokevirtual 120, 3) := by decide +kernel
theorem dR_load_5 : decode prog_8_method_25_code 5 = .ok (.ifCond .eq 25, 3) := by decide +kernel
theorem dR_load_8 : decode prog_8_method_25_code 8 = .ok (.aload_n 0, 1) := by decide +kernel
theorem dR_load_9 : decode prog_8_method_25_code 9 = .ok (.getfield 13, 3) := by decide +kernel
theorem dR_load_12 : decode prog_8_method_25_code 12 = .ok (.bipush 16, 2) := by decide +kernel
theorem dR_load_14 : decode prog_8_method_25_code 14 = .ok (.aload_n 0, 1) := by decide +kernel
theorem dR_load_15 : decode prog_8_method_25_code 15 = .ok (.iload_n 1, 1) := by decide +kernel
theorem dR_load_16 : decode prog_8_method_25_code 16 = .ok (.invokevirtual 114, 3) := by decide +kernel
theorem dR_load_19 : decode prog_8_method_25_code 19 = .ok (.imul, 1) := by decide +kernel
theorem dR_load_20 : decode prog_8_method_25_code 20 = .ok (.iload_n 1, 1) := by decide +kernel
theorem dR_load_21 : decode prog_8_method_25_code 21 = .ok (.bipush 16, 2) := by decide +kernel
theorem dR_load_23 : decode prog_8_method_25_code 23 = .ok (.irem, 1) := by decide +kernel
theorem dR_load_24 : decode prog_8_method_25_code 24 = .ok (.iadd, 1) := by decide +kernel
theorem dR_load_25 : decode prog_8_method_25_code 25 = .ok (.iaload, 1) := by decide +kernel
theorem dR_load_26 : decode prog_8_method_25_code 26 = .ok (.i2l, 1) := by decide +kernel
theorem dR_load_27 : decode prog_8_method_25_code 27 = .ok (.goto 6, 3) := by decide +kernel
theorem dR_load_30 : decode prog_8_method_25_code 30 = .ok (.ldc2_w 123, 3) := by decide +kernel
theorem dR_load_33 : decode prog_8_method_25_code 33 = .ok (.lreturn, 1) := by decide +kernel
def fR_load (a0 : Int32) (g : fl_G) : Option (Int64 × fl_G) :=
  fl_bd (fR_inside a0 g) (fun r1 g2 => if r1 = 0 then (some (4294967296, g2)) else (fl_bd (fR_behind a0 g2) (fun r5 g6 => fl_ck (fl_in ((16 * r5) + (fl_rem a0 16)) 192) (some ((Int32.toInt64 (g6 2 (Int32.toNatClampNeg ((16 * r5) + (fl_rem a0 16))))), g6)))))
set_option maxHeartbeats 4000000 in
set_option maxRecDepth 100000 in
theorem cR_load (l : Launch) (dC : Nat → ClassId) (dI : Nat → Nat → Nat) (ca : Nat → ClassId) (ad : Nat → Nat) (hI : fl_inj 14 ad) (a0 : Int32) {g g1 : fl_G} {r : Int64} (h : fR_load a0 g = some (r, g1)) : Met l yR_load wR_load ({ frames := 5, cells := 0, slots := 0, locals := 108 }) (va_Pc [.ref (ad 0), .int a0] (fl_Pre (dC, dI) al_cl 14 (rf_sh ca ad) ad (rf_ty ca) rf_ns g)) (fl_QL (dC, dI) al_cl 14 (rf_sh ca ad) ad r g1) 0 0 (fl_A 14 ad) := by
  refine fl_of (cc := prog_8_method_25_code) (maxL := 2) (ret := (some .long)) (by decide) rfl (Nat.le_of_ble_eq_true rfl) ?_
  intro p e s m below meth c ls hx hb hr hml hts hown hlocks hP hK hN hl
  have hown : s.vm.findClass "MeshedSpansModel" = some m.cls := hown
  have hS : va_S (fl_A 14 ad) s.heap s.heap [] := va_S.rf
  have hl : lv_has ls 2 [(0, .ref (ad 0)), (1, .int a0)] := hl
  unfold fR_load at h
  refine lv_aload_n hx hb dR_load_0 rfl (lv_at hl 0 rfl) ?_
  refine lv_iload_n hx hb dR_load_1 rfl (lv_at hl 1 rfl) ?_
  replace h := fl_bd_some h
  obtain ⟨r1, g2, hc3, h⟩ := h
  refine fl_calli (va_runV (As := [.int a0]) (rest := []) ⟨hx, hb, hml, hown, hts⟩ (cR_inside l dC dI ca ad hI a0 hc3) (kR_inside hts (hts _ gm_611) ⟨Nat.le_of_ble_eq_true rfl, Nat.le_of_ble_eq_true rfl⟩) (fl_preV hK hP hN (rf_lt rfl (by decide)) (rf_sh0 rfl) rfl) rfl rfl hl.1 rfl (lv_room (Nat.le_of_ble_eq_true rfl)) dR_load_2 ⟨Nat.le_refl 0, Nat.le_refl 0⟩) hS (fun H locs hP hS => ?_)
  refine lv_if_eq (tgt := 30) hx hb dR_load_5 (by decide) (fun c4 => ?_) (fun c4 => ?_)
  · replace h := fl_pos c4 h
    refine lv_ldc2 (v := 4294967296) hx hb hown (hts _ gm_623) dR_load_30 ?_
    exact fl_lret hx hb hr hlocks hP hS h dR_load_33
  · replace h := fl_neg c4 h
    refine lv_aload_n hx hb dR_load_8 rfl (lv_at hl 0 rfl) ?_
    refine rf_get0 (v := .ref (ad 2)) hx hb hts rf_in0 hown hK hP (q := 0) rfl 2 (by decide) (hts _ gm_504) rfl dR_load_9 ?_
    refine lv_bipush (v := 16) hx hb dR_load_12 (by decide) ?_
    refine lv_aload_n hx hb dR_load_14 rfl (lv_at hl 0 rfl) ?_
    refine lv_iload_n hx hb dR_load_15 rfl (lv_at hl 1 rfl) ?_
    replace h := fl_bd_some h
    obtain ⟨r5, g6, hc7, h⟩ := h
    refine fl_calli (va_runV (As := [.int a0]) (rest := [.int 16, .ref (ad 2)]) ⟨hx, hb, hml, hown, hts⟩ (cR_behind l dC dI ca ad hI a0 hc7) (kR_behind hts (hts _ gm_614) ⟨Nat.le_of_ble_eq_true rfl, Nat.le_of_ble_eq_true rfl⟩) (fl_preV hK hP hN (rf_lt rfl (by decide)) (rf_sh0 rfl) rfl) rfl rfl hl.1 rfl (lv_room (Nat.le_of_ble_eq_true rfl)) dR_load_16 ⟨Nat.le_refl 0, Nat.le_refl 0⟩) hS (fun H locs hP hS => ?_)
    refine lv_imul hx hb dR_load_19 ?_
    refine lv_iload_n hx hb dR_load_20 rfl (lv_at hl 1 rfl) ?_
    refine lv_bipush (v := 16) hx hb dR_load_21 (by decide) ?_
    refine lv_irem hx hb dR_load_23 (by decide) ?_
    refine lv_iadd hx hb dR_load_24 ?_
    replace h := fl_ck_some h
    obtain ⟨hi8, h⟩ := h
    refine rf_iald hx hb hK hP (q := 2) rfl hi8 dR_load_25 ?_
    refine lv_i2l (v := (Int32.toInt64 (g6 2 (Int32.toNatClampNeg ((16 * r5) + (fl_rem a0 16)))))) hx hb dR_load_26 rfl ?_
    refine lv_goto (tgt := 33) hx hb dR_load_27 (by decide) ?_
    exact fl_lret hx hb hr hlocks hP hS h dR_load_33
def yR_store : MethodName := ⟨"MeshedSpansModel", "store", "(II)Z"⟩
def wR_store : List Cond := .code yR_store prog_8_method_26_code 3 (some .boolean) :: gw
theorem kR_store {R : Room} {s : State} {args : Array Value} {own : String} {ix : Nat} (hts : ∀ w ∈ gw, w.before args s = true) (hl : (Cond.methodLink own ix yR_store).before args s = true) (hR : 5 + 1 ≤ R.frames ∧ 8 + (3 + 11) + 108 ≤ R.locals) : CallW R s args own "MeshedSpansModel" ix yR_store prog_8_method_26_code 3 (some .boolean) wR_store { frames := 5, cells := 0, slots := 0, locals := 108 } 0 0 2 := ⟨callB_of (rm := { frames := 5, cells := 0, slots := 0, locals := 108 }) 2 hts (gw_c (ct := .code yR_store prog_8_method_26_code 3 (some .boolean)) gm_627) rfl rfl rfl (hts _ gm_47) hl (by decide +kernel) hR, hts _ gm_625, hts _ gm_626⟩
theorem dR_store_0 : decode prog_8_method_26_code 0 = .ok (.aload_n 0, 1) := by decide +kernel
theorem dR_store_1 : decode prog_8_method_26_code 1 = .ok (.iload_n 1, 1) := by decide +kernel
theorem dR_store_2 : decode prog_8_method_26_code 2 = .ok (.invokevirtual 120, 3) := by decide +kernel
theorem dR_store_5 : decode prog_8_method_26_code 5 = .ok (.ifCond .ne 5, 3) := by decide +kernel
theorem dR_store_8 : decode prog_8_method_26_code 8 = .ok (.iconst 0, 1) := by decide +kernel
theorem dR_store_9 : decode prog_8_method_26_code 9 = .ok (.ireturn, 1) := by decide +kernel
theorem dR_store_10 : decode prog_8_method_26_code 10 = .ok (.aload_n 0, 1) := by decide +kernel
theorem dR_store_11 : decode prog_8_method_26_code 11 = .ok (.getfield 13, 3) := by decide +kernel
theorem dR_store_14 : decode prog_8_method_26_code 14 = .ok (.bipush 16, 2) := by decide +kernel
theorem dR_store_16 : decode prog_8_method_26_code 16 = .ok (.aload_n 0, 1) := by decide +kernel
theorem dR_store_17 : decode prog_8_method_26_code 17 = .ok (.iload_n 1, 1) := by decide +kernel
theorem dR_store_18 : decode prog_8_method_26_code 18 = .ok (.invokevirtual 114, 3) := by decide +kernel
theorem dR_store_21 : decode prog_8_method_26_code 21 = .ok (.imul, 1) := by decide +kernel
theorem dR_store_22 : decode prog_8_method_26_code 22 = .ok (.iload_n 1, 1) := by decide +kernel
theorem dR_store_23 : decode prog_8_method_26_code 23 = .ok (.bipush 16, 2) := by decide +kernel
theorem dR_store_25 : decode prog_8_method_26_code 25 = .ok (.irem, 1) := by decide +kernel
theorem dR_store_26 : decode prog_8_method_26_code 26 = .ok (.iadd, 1) := by decide +kernel
theorem dR_store_27 : decode prog_8_method_26_code 27 = .ok (.iload_n 2, 1) := by decide +kernel
theorem dR_store_28 : decode prog_8_method_26_code 28 = .ok (.iastore, 1) := by decide +kernel
theorem dR_store_29 : decode prog_8_method_26_code 29 = .ok (.iconst 1, 1) := by decide +kernel
theorem dR_store_30 : decode prog_8_method_26_code 30 = .ok (.ireturn, 1) := by decide +kernel
def fR_store (a0 : Int32) (a1 : Int32) (g : fl_G) : Option (Int32 × fl_G) :=
  fl_bd (fR_inside a0 g) (fun r1 g2 => if r1 = 0 then (some (0, g2)) else (fl_bd (fR_behind a0 g2) (fun r5 g6 => fl_ck (fl_in ((16 * r5) + (fl_rem a0 16)) 192) (some (1, (fl_up g6 2 (Int32.toNatClampNeg ((16 * r5) + (fl_rem a0 16))) a1))))))
set_option maxHeartbeats 4000000 in
set_option maxRecDepth 100000 in
theorem cR_store (l : Launch) (dC : Nat → ClassId) (dI : Nat → Nat → Nat) (ca : Nat → ClassId) (ad : Nat → Nat) (hI : fl_inj 14 ad) (a0 : Int32) (a1 : Int32) {g g1 : fl_G} {r : Int32} (h : fR_store a0 a1 g = some (r, g1)) : Met l yR_store wR_store ({ frames := 5, cells := 0, slots := 0, locals := 108 }) (va_Pc [.ref (ad 0), .int a0, .int a1] (fl_Pre (dC, dI) al_cl 14 (rf_sh ca ad) ad (rf_ty ca) rf_ns g)) (fl_QI (dC, dI) al_cl 14 (rf_sh ca ad) ad r g1) 0 0 (fl_A 14 ad) := by
  refine fl_of (cc := prog_8_method_26_code) (maxL := 3) (ret := (some .boolean)) (by decide) rfl (Nat.le_of_ble_eq_true rfl) ?_
  intro p e s m below meth c ls hx hb hr hml hts hown hlocks hP hK hN hl
  have hown : s.vm.findClass "MeshedSpansModel" = some m.cls := hown
  have hS : va_S (fl_A 14 ad) s.heap s.heap [] := va_S.rf
  have hl : lv_has ls 3 [(0, .ref (ad 0)), (1, .int a0), (2, .int a1)] := hl
  unfold fR_store at h
  refine lv_aload_n hx hb dR_store_0 rfl (lv_at hl 0 rfl) ?_
  refine lv_iload_n hx hb dR_store_1 rfl (lv_at hl 1 rfl) ?_
  replace h := fl_bd_some h
  obtain ⟨r1, g2, hc3, h⟩ := h
  refine fl_calli (va_runV (As := [.int a0]) (rest := []) ⟨hx, hb, hml, hown, hts⟩ (cR_inside l dC dI ca ad hI a0 hc3) (kR_inside hts (hts _ gm_611) ⟨Nat.le_of_ble_eq_true rfl, Nat.le_of_ble_eq_true rfl⟩) (fl_preV hK hP hN (rf_lt rfl (by decide)) (rf_sh0 rfl) rfl) rfl rfl hl.1 rfl (lv_room (Nat.le_of_ble_eq_true rfl)) dR_store_2 ⟨Nat.le_refl 0, Nat.le_refl 0⟩) hS (fun H locs hP hS => ?_)
  refine lv_if_ne (tgt := 10) hx hb dR_store_5 (by decide) (fun c4 => ?_) (fun c4 => ?_)
  · replace h := fl_neg c4 h
    refine lv_aload_n hx hb dR_store_10 rfl (lv_at hl 0 rfl) ?_
    refine rf_get0 (v := .ref (ad 2)) hx hb hts rf_in0 hown hK hP (q := 0) rfl 2 (by decide) (hts _ gm_504) rfl dR_store_11 ?_
    refine lv_bipush (v := 16) hx hb dR_store_14 (by decide) ?_
    refine lv_aload_n hx hb dR_store_16 rfl (lv_at hl 0 rfl) ?_
    refine lv_iload_n hx hb dR_store_17 rfl (lv_at hl 1 rfl) ?_
    replace h := fl_bd_some h
    obtain ⟨r5, g6, hc7, h⟩ := h
    refine fl_calli (va_runV (As := [.int a0]) (rest := [.int 16, .ref (ad 2)]) ⟨hx, hb, hml, hown, hts⟩ (cR_behind l dC dI ca ad hI a0 hc7) (kR_behind hts (hts _ gm_614) ⟨Nat.le_of_ble_eq_true rfl, Nat.le_of_ble_eq_true rfl⟩) (fl_preV hK hP hN (rf_lt rfl (by decide)) (rf_sh0 rfl) rfl) rfl rfl hl.1 rfl (lv_room (Nat.le_of_ble_eq_true rfl)) dR_store_18 ⟨Nat.le_refl 0, Nat.le_refl 0⟩) hS (fun H locs hP hS => ?_)
    refine lv_imul hx hb dR_store_21 ?_
    refine lv_iload_n hx hb dR_store_22 rfl (lv_at hl 1 rfl) ?_
    refine lv_bipush (v := 16) hx hb dR_store_23 (by decide) ?_
    refine lv_irem hx hb dR_store_25 (by decide) ?_
    refine lv_iadd hx hb dR_store_26 ?_
    refine lv_iload_n hx hb dR_store_27 rfl (lv_at hl 2 rfl) ?_
    replace h := fl_ck_some h
    obtain ⟨hi8, h⟩ := h
    refine rf_iast hx hb hK hP hI hS (q := 2) rfl hi8 dR_store_28 (fun H locs hP hS => ?_)
    have hP : va_P (dC, dI) al_cl (fl_ws 14 (rf_sh ca ad) ad (fl_up g6 2 (Int32.toNatClampNeg ((16 * r5) + (fl_rem a0 16))) a1)) H := hP
    refine lv_iconst (v := 1) hx hb dR_store_29 (by decide) ?_
    exact fl_zret hx hb hr hlocks hP hS (Or.inr rfl) h dR_store_30
  · replace h := fl_pos c4 h
    refine lv_iconst (v := 0) hx hb dR_store_8 (by decide) ?_
    exact fl_zret hx hb hr hlocks hP hS (Or.inl rfl) h dR_store_9
def yR_freeLarge : MethodName := ⟨"MeshedSpansModel", "freeLarge", "(I)V"⟩
def wR_freeLarge : List Cond := .code yR_freeLarge prog_8_method_27_code 4 none :: gw
theorem kR_freeLarge {R : Room} {s : State} {args : Array Value} {own : String} {ix : Nat} (hts : ∀ w ∈ gw, w.before args s = true) (hl : (Cond.methodLink own ix yR_freeLarge).before args s = true) (hR : 1 + 1 ≤ R.frames ∧ 8 + (4 + 11) + 22 ≤ R.locals) : CallW R s args own "MeshedSpansModel" ix yR_freeLarge prog_8_method_27_code 4 none wR_freeLarge { frames := 1, cells := 0, slots := 0, locals := 22 } 0 0 1 := ⟨callB_of (rm := { frames := 1, cells := 0, slots := 0, locals := 22 }) 1 hts (gw_c (ct := .code yR_freeLarge prog_8_method_27_code 4 none) gm_637) rfl rfl rfl (hts _ gm_47) hl (by decide +kernel) hR, hts _ gm_636, hts _ gm_33⟩
theorem dR_freeLarge_0 : decode prog_8_method_27_code 0 = .ok (.iload_n 1, 1) := by decide +kernel
theorem dR_freeLarge_1 : decode prog_8_method_27_code 1 = .ok (.istore_n 2, 1) := by decide +kernel
theorem dR_freeLarge_2 : decode prog_8_method_27_code 2 = .ok (.iload_n 2, 1) := by decide +kernel
theorem dR_freeLarge_3 : decode prog_8_method_27_code 3 = .ok (.iload_n 1, 1) := by decide +kernel
theorem dR_freeLarge_4 : decode prog_8_method_27_code 4 = .ok (.aload_n 0, 1) := by decide +kernel
theorem dR_freeLarge_5 : decode prog_8_method_27_code 5 = .ok (.getfield 31, 3) := by decide +kernel
theorem dR_freeLarge_8 : decode prog_8_method_27_code 8 = .ok (.iload_n 1, 1) := by decide +kernel
theorem dR_freeLarge_9 : decode prog_8_method_27_code 9 = .ok (.iaload, 1) := by decide +kernel
theorem dR_freeLarge_10 : decode prog_8_method_27_code 10 = .ok (.iadd, 1) := by decide +kernel
theorem dR_freeLarge_11 : decode prog_8_method_27_code 11 = .ok (.if_icmp .ge 21, 3) := by decide +kernel
theorem dR_freeLarge_14 : decode prog_8_method_27_code 14 = .ok (.aload_n 0, 1) := by decide +kernel
theorem dR_freeLarge_15 : decode prog_8_method_27_code 15 = .ok (.getfield 16, 3) := by decide +kernel
theorem dR_freeLarge_18 : decode prog_8_method_27_code 18 = .ok (.iload_n 2, 1) := by decide +kernel
theorem dR_freeLarge_19 : decode prog_8_method_27_code 19 = .ok (.iaload, 1) := by decide +kernel
theorem dR_freeLarge_20 : decode prog_8_method_27_code 20 = .ok (.istore_n 3, 1) := by decide +kernel
theorem dR_freeLarge_21 : decode prog_8_method_27_code 21 = .ok (.aload_n 0, 1) := by decide +kernel
theorem dR_freeLarge_22 : decode prog_8_method_27_code 22 = .ok (.iload_n 3, 1) := by decide +kernel
theorem dR_freeLarge_23 : decode prog_8_method_27_code 23 = .ok (.invokevirtual 125, 3) := by decide +kernel
theorem dR_freeLarge_26 : decode prog_8_method_27_code 26 = .ok (.iinc 2 1, 3) := by decide +kernel
theorem dR_freeLarge_29 : decode prog_8_method_27_code 29 = .ok (.goto (-27), 3) := by decide +kernel
theorem dR_freeLarge_32 : decode prog_8_method_27_code 32 = .ok (.aload_n 0, 1) := by decide +kernel
theorem dR_freeLarge_33 : decode prog_8_method_27_code 33 = .ok (.getfield 31, 3) := by decide +kernel
theorem dR_freeLarge_36 : decode prog_8_method_27_code 36 = .ok (.iload_n 1, 1) := by decide +kernel
theorem dR_freeLarge_37 : decode prog_8_method_27_code 37 = .ok (.iconst 0, 1) := by decide +kernel
theorem dR_freeLarge_38 : decode prog_8_method_27_code 38 = .ok (.iastore, 1) := by decide +kernel
theorem dR_freeLarge_39 : decode prog_8_method_27_code 39 = .ok (.return_, 1) := by decide +kernel
def fR_freeLarge_B2 (rec : Int32 → Int32 → fl_G → Option ((Int32) × fl_G)) (v2 : Int32) (v1 : Int32) (g : fl_G) : Option ((Int32) × fl_G) :=
  fl_ck (fl_in v1 24) (if (v1 + (g 8 (Int32.toNatClampNeg v1))) ≤ v2 then (some (v2, g)) else (fl_ck (fl_in v2 24) (fl_bd (fR_release (g 3 (Int32.toNatClampNeg v2)) g) (fun r5 g6 => rec (v2 + 1) v1 g6))))
def fR_freeLarge_L2 : Nat → Int32 → Int32 → fl_G → Option ((Int32) × fl_G)
  | 0, _, _, _ => none
  | n + 1, v2, v1, g => fR_freeLarge_B2 (fR_freeLarge_L2 n) v2 v1 g
def fR_freeLarge (a0 : Int32) (g : fl_G) : Option (Unit × fl_G) :=
  fl_bd (fR_freeLarge_L2 1000 a0 a0 g) (fun r8 g9 => fl_ck (fl_in a0 24) (some ((), (fl_up g9 8 (Int32.toNatClampNeg a0) 0))))
set_option maxHeartbeats 4000000 in
set_option maxRecDepth 100000 in
theorem cR_freeLarge (l : Launch) (dC : Nat → ClassId) (dI : Nat → Nat → Nat) (ca : Nat → ClassId) (ad : Nat → Nat) (hI : fl_inj 14 ad) (a0 : Int32) {g g1 : fl_G} {r : Unit} (h : fR_freeLarge a0 g = some (r, g1)) : Met l yR_freeLarge wR_freeLarge ({ frames := 1, cells := 0, slots := 0, locals := 22 }) (va_Pc [.ref (ad 0), .int a0] (fl_Pre (dC, dI) al_cl 14 (rf_sh ca ad) ad (rf_ty ca) rf_ns g)) (fl_QV (dC, dI) al_cl 14 (rf_sh ca ad) ad g1) 0 0 (fl_A 14 ad) := by
  refine fl_of (cc := prog_8_method_27_code) (maxL := 4) (ret := none) (by decide) rfl (Nat.le_of_ble_eq_true rfl) ?_
  intro p e s m below meth c ls hx hb hr hml hts hown hlocks hP hK hN hl
  have hown : s.vm.findClass "MeshedSpansModel" = some m.cls := hown
  have hS : va_S (fl_A 14 ad) s.heap s.heap [] := va_S.rf
  have hl : lv_has ls 4 [(0, .ref (ad 0)), (1, .int a0)] := hl
  unfold fR_freeLarge at h
  refine lv_iload_n hx hb dR_freeLarge_0 rfl (lv_at hl 1 rfl) ?_
  refine lv_istore_n (lv' := [(2, .int a0), (0, .ref (ad 0)), (1, .int a0)]) hx hb dR_freeLarge_1 rfl hl (by decide) rfl (fun ls hl => ?_)
  have loop1 : ∀ (n : Nat) (v2 : Int32) (v1 : Int32) (g : fl_G) (z : ((Int32) × fl_G)) (H : Heap) (locs : List Loc) (ls : Array Slot), fR_freeLarge_L2 n v2 v1 g = some z → va_P (dC, dI) al_cl (fl_ws 14 (rf_sh ca ad) ad g) H → va_S (fl_A 14 ad) s.heap H locs → lv_has ls 4 [(2, .int v2), (0, .ref (ad 0)), (1, .int v1)] → (∀ (H : Heap) (locs : List Loc) (ls : Array Slot), va_P (dC, dI) al_cl (fl_ws 14 (rf_sh ca ad) ad z.2) H → va_S (fl_A 14 ad) s.heap H locs → lv_has ls 4 [(2, .int z.1), (0, .ref (ad 0)), (1, .int v1)] → W p l e ({ frames := 1, cells := 0, slots := 0, locals := 22 }) s m ([.ref (ad 0), .int a0] : List Value).toArray below meth c H locs 0 0 (MQ below (fl_QV (dC, dI) al_cl 14 (rf_sh ca ad) ad g1) ([.ref (ad 0), .int a0] : List Value).toArray s 0 0 (fl_A 14 ad)) (F0 m 32 ls [])) → W p l e ({ frames := 1, cells := 0, slots := 0, locals := 22 }) s m ([.ref (ad 0), .int a0] : List Value).toArray below meth c H locs 0 0 (MQ below (fl_QV (dC, dI) al_cl 14 (rf_sh ca ad) ad g1) ([.ref (ad 0), .int a0] : List Value).toArray s 0 0 (fl_A 14 ad)) (F0 m 2 ls []) := by
    intro n
    clear h hP hS hl
    induction n with
    | zero => intro v2 v1 g z H locs ls h; cases h
    | succ n ih1 =>
      intro v2 v1 g z H locs ls h hP hS hl K1
      have h : fR_freeLarge_B2 (fR_freeLarge_L2 n) v2 v1 g = some z := h
      unfold fR_freeLarge_B2 at h
      refine lv_iload_n hx hb dR_freeLarge_2 rfl (lv_at hl 0 rfl) ?_
      refine lv_iload_n hx hb dR_freeLarge_3 rfl (lv_at hl 2 rfl) ?_
      refine lv_aload_n hx hb dR_freeLarge_4 rfl (lv_at hl 1 rfl) ?_
      refine rf_get0 (v := .ref (ad 8)) hx hb hts rf_in0 hown hK hP (q := 0) rfl 8 (by decide) (hts _ gm_510) rfl dR_freeLarge_5 ?_
      refine lv_iload_n hx hb dR_freeLarge_8 rfl (lv_at hl 2 rfl) ?_
      replace h := fl_ck_some h
      obtain ⟨hi2, h⟩ := h
      refine rf_iald hx hb hK hP (q := 8) rfl hi2 dR_freeLarge_9 ?_
      refine lv_iadd hx hb dR_freeLarge_10 ?_
      refine lv_icmp_ge (tgt := 32) hx hb dR_freeLarge_11 (by decide) (fun c3 => ?_) (fun c3 => ?_)
      · replace h := fl_pos c3 h
        cases h
        exact K1 _ _ _ hP hS (lv_sub hl [0, 1, 2] rfl)
      · replace h := fl_neg c3 h
        refine lv_aload_n hx hb dR_freeLarge_14 rfl (lv_at hl 1 rfl) ?_
        refine rf_get0 (v := .ref (ad 3)) hx hb hts rf_in0 hown hK hP (q := 0) rfl 3 (by decide) (hts _ gm_505) rfl dR_freeLarge_15 ?_
        refine lv_iload_n hx hb dR_freeLarge_18 rfl (lv_at hl 0 rfl) ?_
        replace h := fl_ck_some h
        obtain ⟨hi4, h⟩ := h
        refine rf_iald hx hb hK hP (q := 3) rfl hi4 dR_freeLarge_19 ?_
        refine lv_istore_n (lv' := [(3, .int (g 3 (Int32.toNatClampNeg v2))), (2, .int v2), (0, .ref (ad 0)), (1, .int v1)]) hx hb dR_freeLarge_20 rfl hl (by decide) rfl (fun ls hl => ?_)
        refine lv_aload_n hx hb dR_freeLarge_21 rfl (lv_at hl 2 rfl) ?_
        refine lv_iload_n hx hb dR_freeLarge_22 rfl (lv_at hl 0 rfl) ?_
        replace h := fl_bd_some h
        obtain ⟨r5, g6, hc7, h⟩ := h
        refine fl_callv (va_runV (As := [.int (g 3 (Int32.toNatClampNeg v2))]) (rest := []) ⟨hx, hb, hml, hown, hts⟩ (cR_release l dC dI ca ad hI (g 3 (Int32.toNatClampNeg v2)) hc7) (kR_release hts (hts _ gm_638) ⟨Nat.le_of_ble_eq_true rfl, Nat.le_of_ble_eq_true rfl⟩) (fl_preV hK hP hN (rf_lt rfl (by decide)) (rf_sh0 rfl) rfl) rfl rfl hl.1 rfl (lv_room (Nat.le_of_ble_eq_true rfl)) dR_freeLarge_23 ⟨Nat.le_refl 0, Nat.le_refl 0⟩) hS (fun H locs hP hS => ?_)
        refine lv_iinc (v := (v2 + 1)) (lv' := [(2, .int (v2 + 1)), (3, .int (g 3 (Int32.toNatClampNeg v2))), (0, .ref (ad 0)), (1, .int v1)]) hx hb dR_freeLarge_26 hl (k := 1) rfl rfl (by decide) rfl (fun ls hl => ?_)
        refine lv_goto (tgt := 2) hx hb dR_freeLarge_29 (by decide) ?_
        exact ih1 (v2 + 1) v1 _ _ _ _ _ h hP hS (lv_sub hl [0, 2, 3] rfl) K1
  obtain ⟨r8, g9, hc10, h⟩ := fl_bd_some h
  refine loop1 1000 a0 a0 _ (r8, g9) _ _ _ hc10 hP hS (lv_sub hl [0, 1, 2] rfl) (fun H locs ls hP hS hl => ?_)
  have hP : va_P (dC, dI) al_cl (fl_ws 14 (rf_sh ca ad) ad g9) H := hP
  have hl : lv_has ls 4 [(2, .int r8), (0, .ref (ad 0)), (1, .int a0)] := hl
  refine lv_aload_n hx hb dR_freeLarge_32 rfl (lv_at hl 1 rfl) ?_
  refine rf_get0 (v := .ref (ad 8)) hx hb hts rf_in0 hown hK hP (q := 0) rfl 8 (by decide) (hts _ gm_510) rfl dR_freeLarge_33 ?_
  refine lv_iload_n hx hb dR_freeLarge_36 rfl (lv_at hl 2 rfl) ?_
  refine lv_iconst (v := 0) hx hb dR_freeLarge_37 (by decide) ?_
  replace h := fl_ck_some h
  obtain ⟨hi11, h⟩ := h
  refine rf_iast hx hb hK hP hI hS (q := 8) rfl hi11 dR_freeLarge_38 (fun H locs hP hS => ?_)
  have hP : va_P (dC, dI) al_cl (fl_ws 14 (rf_sh ca ad) ad (fl_up g9 8 (Int32.toNatClampNeg a0) 0)) H := hP
  exact fl_vret hx hb hr hlocks hP hS h dR_freeLarge_39
def yR_free : MethodName := ⟨"MeshedSpansModel", "free", "(I)Z"⟩
def wR_free : List Cond := .code yR_free prog_8_method_28_code 6 (some .boolean) :: gw
theorem kR_free {R : Room} {s : State} {args : Array Value} {own : String} {ix : Nat} (hts : ∀ w ∈ gw, w.before args s = true) (hl : (Cond.methodLink own ix yR_free).before args s = true) (hR : 5 + 1 ≤ R.frames ∧ 8 + (6 + 11) + 108 ≤ R.locals) : CallW R s args own "MeshedSpansModel" ix yR_free prog_8_method_28_code 6 (some .boolean) wR_free { frames := 5, cells := 0, slots := 0, locals := 108 } 0 0 1 := ⟨callB_of (rm := { frames := 5, cells := 0, slots := 0, locals := 108 }) 1 hts (gw_c (ct := .code yR_free prog_8_method_28_code 6 (some .boolean)) gm_631) rfl rfl rfl (hts _ gm_47) hl (by decide +kernel) hR, hts _ gm_629, hts _ gm_630⟩
theorem dR_free_0 : decode prog_8_method_28_code 0 = .ok (.aload_n 0, 1) := by decide +kernel
theorem dR_free_1 : decode prog_8_method_28_code 1 = .ok (.iload_n 1, 1) := by decide +kernel
theorem dR_free_2 : decode prog_8_method_28_code 2 = .ok (.invokevirtual 129, 3) := by decide +kernel
theorem dR_free_5 : decode prog_8_method_28_code 5 = .ok (.ifCond .eq 13, 3) := by decide +kernel
theorem dR_free_8 : decode prog_8_method_28_code 8 = .ok (.aload_n 0, 1) := by decide +kernel
theorem dR_free_9 : decode prog_8_method_28_code 9 = .ok (.iload_n 1, 1) := by decide +kernel
theorem dR_free_10 : decode prog_8_method_28_code 10 = .ok (.bipush 16, 2) := by decide +kernel
theorem dR_free_12 : decode prog_8_method_28_code 12 = .ok (.idiv, 1) := by decide +kernel
theorem dR_free_13 : decode prog_8_method_28_code 13 = .ok (.invokevirtual 132, 3) := by decide +kernel
theorem dR_free_16 : decode prog_8_method_28_code 16 = .ok (.iconst 1, 1) := by decide +kernel
theorem dR_free_17 : decode prog_8_method_28_code 17 = .ok (.ireturn, 1) := by decide +kernel
theorem dR_free_18 : decode prog_8_method_28_code 18 = .ok (.aload_n 0, 1) := by decide +kernel
theorem dR_free_19 : decode prog_8_method_28_code 19 = .ok (.iload_n 1, 1) := by decide +kernel
theorem dR_free_20 : decode prog_8_method_28_code 20 = .ok (.invokevirtual 135, 3) := by decide +kernel
theorem dR_free_23 : decode prog_8_method_28_code 23 = .ok (.ifCond .ne 5, 3) := by decide +kernel
theorem dR_free_26 : decode prog_8_method_28_code 26 = .ok (.iconst 0, 1) := by decide +kernel
theorem dR_free_27 : decode prog_8_method_28_code 27 = .ok (.ireturn, 1) := by decide +kernel
theorem dR_free_28 : decode prog_8_method_28_code 28 = .ok (.aload_n 0, 1) := by decide +kernel
theorem dR_free_29 : decode prog_8_method_28_code 29 = .ok (.iload_n 1, 1) := by decide +kernel
theorem dR_free_30 : decode prog_8_method_28_code 30 = .ok (.invokevirtual 117, 3) := by decide +kernel
theorem dR_free_33 : decode prog_8_method_28_code 33 = .ok (.istore_n 2, 1) := by decide +kernel
theorem dR_free_34 : decode prog_8_method_28_code 34 = .ok (.iload_n 2, 1) := by decide +kernel
theorem dR_free_35 : decode prog_8_method_28_code 35 = .ok (.bipush 16, 2) := by decide +kernel
theorem dR_free_37 : decode prog_8_method_28_code 37 = .ok (.idiv, 1) := by decide +kernel
theorem dR_free_38 : decode prog_8_method_28_code 38 = .ok (.istore_n 3, 1) := by decide +kernel
theorem dR_free_39 : decode prog_8_method_28_code 39 = .ok (.aload_n 0, 1) := by decide +kernel
theorem dR_free_40 : decode prog_8_method_28_code 40 = .ok (.getfield 22, 3) := by decide +kernel
theorem dR_free_43 : decode prog_8_method_28_code 43 = .ok (.iload_n 3, 1) := by decide +kernel
theorem dR_free_44 : decode prog_8_method_28_code 44 = .ok (.iaload, 1) := by decide +kernel
theorem dR_free_45 : decode prog_8_method_28_code 45 = .ok (.istore 4, 2) := by decide +kernel
theorem dR_free_47 : decode prog_8_method_28_code 47 = .ok (.aload_n 0, 1) := by decide +kernel
theorem dR_free_48 : decode prog_8_method_28_code 48 = .ok (.getfield 28, 3) := by decide +kernel
theorem dR_free_51 : decode prog_8_method_28_code 51 = .ok (.iload_n 2, 1) := by decide +kernel
theorem dR_free_52 : decode prog_8_method_28_code 52 = .ok (.iconst (-1), 1) := by decide +kernel
theorem dR_free_53 : decode prog_8_method_28_code 53 = .ok (.iastore, 1) := by decide +kernel
theorem dR_free_54 : decode prog_8_method_28_code 54 = .ok (.aload_n 0, 1) := by decide +kernel
theorem dR_free_55 : decode prog_8_method_28_code 55 = .ok (.getfield 34, 3) := by decide +kernel
theorem dR_free_58 : decode prog_8_method_28_code 58 = .ok (.iload 4, 2) := by decide +kernel
theorem dR_free_60 : decode prog_8_method_28_code 60 = .ok (.iaload, 1) := by decide +kernel
theorem dR_free_61 : decode prog_8_method_28_code 61 = .ok (.iload_n 3, 1) := by decide +kernel
theorem dR_free_62 : decode prog_8_method_28_code 62 = .ok (.if_icmp .ne 67, 3) := by decide +kernel
theorem dR_free_65 : decode prog_8_method_28_code 65 = .ok (.aload_n 0, 1) := by decide +kernel
theorem dR_free_66 : decode prog_8_method_28_code 66 = .ok (.getfield 37, 3) := by decide +kernel
theorem dR_free_69 : decode prog_8_method_28_code 69 = .ok (.iload 4, 2) := by decide +kernel
theorem dR_free_71 : decode prog_8_method_28_code 71 = .ok (.iaload, 1) := by decide +kernel
theorem dR_free_72 : decode prog_8_method_28_code 72 = .ok (.iconst 1, 1) := by decide +kernel
theorem dR_free_73 : decode prog_8_method_28_code 73 = .ok (.iadd, 1) := by decide +kernel
theorem dR_free_74 : decode prog_8_method_28_code 74 = .ok (.istore 5, 2) := by decide +kernel
theorem dR_free_76 : decode prog_8_method_28_code 76 = .ok (.aload_n 0, 1) := by decide +kernel
theorem dR_free_77 : decode prog_8_method_28_code 77 = .ok (.getfield 40, 3) := by decide +kernel
theorem dR_free_80 : decode prog_8_method_28_code 80 = .ok (.bipush 16, 2) := by decide +kernel
theorem dR_free_82 : decode prog_8_method_28_code 82 = .ok (.iload 4, 2) := by decide +kernel
theorem dR_free_84 : decode prog_8_method_28_code 84 = .ok (.imul, 1) := by decide +kernel
theorem dR_free_85 : decode prog_8_method_28_code 85 = .ok (.iload 5, 2) := by decide +kernel
theorem dR_free_87 : decode prog_8_method_28_code 87 = .ok (.iadd, 1) := by decide +kernel
theorem dR_free_88 : decode prog_8_method_28_code 88 = .ok (.iconst 1, 1) := by decide +kernel
theorem dR_free_89 : decode prog_8_method_28_code 89 = .ok (.isub, 1) := by decide +kernel
theorem dR_free_90 : decode prog_8_method_28_code 90 = .ok (.iload_n 2, 1) := by decide +kernel
theorem dR_free_91 : decode prog_8_method_28_code 91 = .ok (.bipush 16, 2) := by decide +kernel
theorem dR_free_93 : decode prog_8_method_28_code 93 = .ok (.irem, 1) := by decide +kernel
theorem dR_free_94 : decode prog_8_method_28_code 94 = .ok (.iastore, 1) := by decide +kernel
theorem dR_free_95 : decode prog_8_method_28_code 95 = .ok (.aload_n 0, 1) := by decide +kernel
theorem dR_free_96 : decode prog_8_method_28_code 96 = .ok (.getfield 37, 3) := by decide +kernel
theorem dR_free_99 : decode prog_8_method_28_code 99 = .ok (.iload 4, 2) := by decide +kernel
theorem dR_free_101 : decode prog_8_method_28_code 101 = .ok (.iload 5, 2) := by decide +kernel
theorem dR_free_103 : decode prog_8_method_28_code 103 = .ok (.iastore, 1) := by decide +kernel
theorem dR_free_104 : decode prog_8_method_28_code 104 = .ok (.iload 5, 2) := by decide +kernel
theorem dR_free_106 : decode prog_8_method_28_code 106 = .ok (.iconst 1, 1) := by decide +kernel
theorem dR_free_107 : decode prog_8_method_28_code 107 = .ok (.if_icmp .le 19, 3) := by decide +kernel
theorem dR_free_110 : decode prog_8_method_28_code 110 = .ok (.aload_n 0, 1) := by decide +kernel
theorem dR_free_111 : decode prog_8_method_28_code 111 = .ok (.iload 4, 2) := by decide +kernel
theorem dR_free_113 : decode prog_8_method_28_code 113 = .ok (.iload 5, 2) := by decide +kernel
theorem dR_free_115 : decode prog_8_method_28_code 115 = .ok (.iconst 1, 1) := by decide +kernel
theorem dR_free_116 : decode prog_8_method_28_code 116 = .ok (.isub, 1) := by decide +kernel
theorem dR_free_117 : decode prog_8_method_28_code 117 = .ok (.aload_n 0, 1) := by decide +kernel
theorem dR_free_118 : decode prog_8_method_28_code 118 = .ok (.iload 5, 2) := by decide +kernel
theorem dR_free_120 : decode prog_8_method_28_code 120 = .ok (.invokevirtual 67, 3) := by decide +kernel
theorem dR_free_123 : decode prog_8_method_28_code 123 = .ok (.invokevirtual 70, 3) := by decide +kernel
theorem dR_free_126 : decode prog_8_method_28_code 126 = .ok (.goto 16, 3) := by decide +kernel
theorem dR_free_129 : decode prog_8_method_28_code 129 = .ok (.aload_n 0, 1) := by decide +kernel
theorem dR_free_130 : decode prog_8_method_28_code 130 = .ok (.iload_n 3, 1) := by decide +kernel
theorem dR_free_131 : decode prog_8_method_28_code 131 = .ok (.invokevirtual 64, 3) := by decide +kernel
theorem dR_free_134 : decode prog_8_method_28_code 134 = .ok (.ifCond .ne 8, 3) := by decide +kernel
theorem dR_free_137 : decode prog_8_method_28_code 137 = .ok (.aload_n 0, 1) := by decide +kernel
theorem dR_free_138 : decode prog_8_method_28_code 138 = .ok (.iload_n 3, 1) := by decide +kernel
theorem dR_free_139 : decode prog_8_method_28_code 139 = .ok (.invokevirtual 125, 3) := by decide +kernel
theorem dR_free_142 : decode prog_8_method_28_code 142 = .ok (.iconst 1, 1) := by decide +kernel
theorem dR_free_143 : decode prog_8_method_28_code 143 = .ok (.ireturn, 1) := by decide +kernel
def fR_free (a0 : Int32) (g : fl_G) : Option (Int32 × fl_G) :=
  fl_bd (fR_isLarge a0 g) (fun r1 g2 => if r1 = 0 then (fl_bd (fR_isSmall a0 g2) (fun r5 g6 => if r5 = 0 then (some (0, g6)) else (fl_bd (fR_cellAt a0 g6) (fun r9 g10 => fl_ck (fl_in (r9 / 16) 12) (fl_ck (fl_in r9 192) (fl_ck (fl_in (g10 5 (Int32.toNatClampNeg (r9 / 16))) 4) (if ((fl_up g10 7 (Int32.toNatClampNeg r9) (-1)) 9 (Int32.toNatClampNeg (g10 5 (Int32.toNatClampNeg (r9 / 16))))) = (r9 / 16) then (fl_ck (fl_in (g10 5 (Int32.toNatClampNeg (r9 / 16))) 4) (fl_ck (fl_in (((16 * (g10 5 (Int32.toNatClampNeg (r9 / 16)))) + (((fl_up g10 7 (Int32.toNatClampNeg r9) (-1)) 10 (Int32.toNatClampNeg (g10 5 (Int32.toNatClampNeg (r9 / 16))))) + 1)) - 1) 64) (fl_ck (fl_in (g10 5 (Int32.toNatClampNeg (r9 / 16))) 4) (if (((fl_up g10 7 (Int32.toNatClampNeg r9) (-1)) 10 (Int32.toNatClampNeg (g10 5 (Int32.toNatClampNeg (r9 / 16))))) + 1) ≤ 1 then (some (1, (fl_up (fl_up (fl_up g10 7 (Int32.toNatClampNeg r9) (-1)) 11 (Int32.toNatClampNeg (((16 * (g10 5 (Int32.toNatClampNeg (r9 / 16)))) + (((fl_up g10 7 (Int32.toNatClampNeg r9) (-1)) 10 (Int32.toNatClampNeg (g10 5 (Int32.toNatClampNeg (r9 / 16))))) + 1)) - 1)) (fl_rem r9 16)) 10 (Int32.toNatClampNeg (g10 5 (Int32.toNatClampNeg (r9 / 16)))) (((fl_up g10 7 (Int32.toNatClampNeg r9) (-1)) 10 (Int32.toNatClampNeg (g10 5 (Int32.toNatClampNeg (r9 / 16))))) + 1)))) else (fl_bd (fR_draw (((fl_up g10 7 (Int32.toNatClampNeg r9) (-1)) 10 (Int32.toNatClampNeg (g10 5 (Int32.toNatClampNeg (r9 / 16))))) + 1) (fl_up (fl_up (fl_up g10 7 (Int32.toNatClampNeg r9) (-1)) 11 (Int32.toNatClampNeg (((16 * (g10 5 (Int32.toNatClampNeg (r9 / 16)))) + (((fl_up g10 7 (Int32.toNatClampNeg r9) (-1)) 10 (Int32.toNatClampNeg (g10 5 (Int32.toNatClampNeg (r9 / 16))))) + 1)) - 1)) (fl_rem r9 16)) 10 (Int32.toNatClampNeg (g10 5 (Int32.toNatClampNeg (r9 / 16)))) (((fl_up g10 7 (Int32.toNatClampNeg r9) (-1)) 10 (Int32.toNatClampNeg (g10 5 (Int32.toNatClampNeg (r9 / 16))))) + 1))) (fun r27 g28 => fl_bd (fR_swap (g10 5 (Int32.toNatClampNeg (r9 / 16))) ((((fl_up g10 7 (Int32.toNatClampNeg r9) (-1)) 10 (Int32.toNatClampNeg (g10 5 (Int32.toNatClampNeg (r9 / 16))))) + 1) - 1) r27 g28) (fun r30 g31 => some (1, g31)))))))) else (fl_bd (fR_used (r9 / 16) (fl_up g10 7 (Int32.toNatClampNeg r9) (-1))) (fun r16 g17 => if r16 = 0 then (fl_bd (fR_release (r9 / 16) g17) (fun r20 g21 => some (1, g21))) else (some (1, g17))))))))))) else (fl_bd (fR_freeLarge (a0 / 16) g2) (fun r33 g34 => some (1, g34))))
set_option maxHeartbeats 4000000 in
set_option maxRecDepth 100000 in
theorem cR_free (l : Launch) (dC : Nat → ClassId) (dI : Nat → Nat → Nat) (ca : Nat → ClassId) (ad : Nat → Nat) (hI : fl_inj 14 ad) (a0 : Int32) {g g1 : fl_G} {r : Int32} (h : fR_free a0 g = some (r, g1)) : Met l yR_free wR_free ({ frames := 5, cells := 0, slots := 0, locals := 108 }) (va_Pc [.ref (ad 0), .int a0] (fl_Pre (dC, dI) al_cl 14 (rf_sh ca ad) ad (rf_ty ca) rf_ns g)) (fl_QI (dC, dI) al_cl 14 (rf_sh ca ad) ad r g1) 0 0 (fl_A 14 ad) := by
  refine fl_of (cc := prog_8_method_28_code) (maxL := 6) (ret := (some .boolean)) (by decide) rfl (Nat.le_of_ble_eq_true rfl) ?_
  intro p e s m below meth c ls hx hb hr hml hts hown hlocks hP hK hN hl
  have hown : s.vm.findClass "MeshedSpansModel" = some m.cls := hown
  have hS : va_S (fl_A 14 ad) s.heap s.heap [] := va_S.rf
  have hl : lv_has ls 6 [(0, .ref (ad 0)), (1, .int a0)] := hl
  unfold fR_free at h
  refine lv_aload_n hx hb dR_free_0 rfl (lv_at hl 0 rfl) ?_
  refine lv_iload_n hx hb dR_free_1 rfl (lv_at hl 1 rfl) ?_
  replace h := fl_bd_some h
  obtain ⟨r1, g2, hc3, h⟩ := h
  refine fl_calli (va_runV (As := [.int a0]) (rest := []) ⟨hx, hb, hml, hown, hts⟩ (cR_isLarge l dC dI ca ad hI a0 hc3) (kR_isLarge hts (hts _ gm_632) ⟨Nat.le_of_ble_eq_true rfl, Nat.le_of_ble_eq_true rfl⟩) (fl_preV hK hP hN (rf_lt rfl (by decide)) (rf_sh0 rfl) rfl) rfl rfl hl.1 rfl (lv_room (Nat.le_of_ble_eq_true rfl)) dR_free_2 ⟨Nat.le_refl 0, Nat.le_refl 0⟩) hS (fun H locs hP hS => ?_)
  refine lv_if_eq (tgt := 18) hx hb dR_free_5 (by decide) (fun c4 => ?_) (fun c4 => ?_)
  · replace h := fl_pos c4 h
    refine lv_aload_n hx hb dR_free_18 rfl (lv_at hl 0 rfl) ?_
    refine lv_iload_n hx hb dR_free_19 rfl (lv_at hl 1 rfl) ?_
    replace h := fl_bd_some h
    obtain ⟨r5, g6, hc7, h⟩ := h
    refine fl_calli (va_runV (As := [.int a0]) (rest := []) ⟨hx, hb, hml, hown, hts⟩ (cR_isSmall l dC dI ca ad hI a0 hc7) (kR_isSmall hts (hts _ gm_641) ⟨Nat.le_of_ble_eq_true rfl, Nat.le_of_ble_eq_true rfl⟩) (fl_preV hK hP hN (rf_lt rfl (by decide)) (rf_sh0 rfl) rfl) rfl rfl hl.1 rfl (lv_room (Nat.le_of_ble_eq_true rfl)) dR_free_20 ⟨Nat.le_refl 0, Nat.le_refl 0⟩) hS (fun H locs hP hS => ?_)
    refine lv_if_ne (tgt := 28) hx hb dR_free_23 (by decide) (fun c8 => ?_) (fun c8 => ?_)
    · replace h := fl_neg c8 h
      refine lv_aload_n hx hb dR_free_28 rfl (lv_at hl 0 rfl) ?_
      refine lv_iload_n hx hb dR_free_29 rfl (lv_at hl 1 rfl) ?_
      replace h := fl_bd_some h
      obtain ⟨r9, g10, hc11, h⟩ := h
      refine fl_calli (va_runV (As := [.int a0]) (rest := []) ⟨hx, hb, hml, hown, hts⟩ (cR_cellAt l dC dI ca ad hI a0 hc11) (kR_cellAt hts (hts _ gm_620) ⟨Nat.le_of_ble_eq_true rfl, Nat.le_of_ble_eq_true rfl⟩) (fl_preV hK hP hN (rf_lt rfl (by decide)) (rf_sh0 rfl) rfl) rfl rfl hl.1 rfl (lv_room (Nat.le_of_ble_eq_true rfl)) dR_free_30 ⟨Nat.le_refl 0, Nat.le_refl 0⟩) hS (fun H locs hP hS => ?_)
      refine lv_istore_n (lv' := [(2, .int r9), (0, .ref (ad 0)), (1, .int a0)]) hx hb dR_free_33 rfl hl (by decide) rfl (fun ls hl => ?_)
      refine lv_iload_n hx hb dR_free_34 rfl (lv_at hl 0 rfl) ?_
      refine lv_bipush (v := 16) hx hb dR_free_35 (by decide) ?_
      refine lv_idiv hx hb dR_free_37 (by decide) ?_
      refine lv_istore_n (lv' := [(3, .int (r9 / 16)), (2, .int r9), (0, .ref (ad 0)), (1, .int a0)]) hx hb dR_free_38 rfl hl (by decide) rfl (fun ls hl => ?_)
      refine lv_aload_n hx hb dR_free_39 rfl (lv_at hl 2 rfl) ?_
      refine rf_get0 (v := .ref (ad 5)) hx hb hts rf_in0 hown hK hP (q := 0) rfl 5 (by decide) (hts _ gm_507) rfl dR_free_40 ?_
      refine lv_iload_n hx hb dR_free_43 rfl (lv_at hl 0 rfl) ?_
      replace h := fl_ck_some h
      obtain ⟨hi12, h⟩ := h
      refine rf_iald hx hb hK hP (q := 5) rfl hi12 dR_free_44 ?_
      refine lv_istore (lv' := [(4, .int (g10 5 (Int32.toNatClampNeg (r9 / 16)))), (3, .int (r9 / 16)), (2, .int r9), (0, .ref (ad 0)), (1, .int a0)]) hx hb dR_free_45 hl (by decide) rfl (fun ls hl => ?_)
      refine lv_aload_n hx hb dR_free_47 rfl (lv_at hl 3 rfl) ?_
      refine rf_get0 (v := .ref (ad 7)) hx hb hts rf_in0 hown hK hP (q := 0) rfl 7 (by decide) (hts _ gm_509) rfl dR_free_48 ?_
      refine lv_iload_n hx hb dR_free_51 rfl (lv_at hl 2 rfl) ?_
      refine lv_iconst (v := (-1)) hx hb dR_free_52 (by decide) ?_
      replace h := fl_ck_some h
      obtain ⟨hi13, h⟩ := h
      refine rf_iast hx hb hK hP hI hS (q := 7) rfl hi13 dR_free_53 (fun H locs hP hS => ?_)
      have hP : va_P (dC, dI) al_cl (fl_ws 14 (rf_sh ca ad) ad (fl_up g10 7 (Int32.toNatClampNeg r9) (-1))) H := hP
      refine lv_aload_n hx hb dR_free_54 rfl (lv_at hl 3 rfl) ?_
      refine rf_get0 (v := .ref (ad 9)) hx hb hts rf_in0 hown hK hP (q := 0) rfl 10 (by decide) (hts _ gm_512) rfl dR_free_55 ?_
      refine lv_iload hx hb dR_free_58 (lv_at hl 0 rfl) ?_
      replace h := fl_ck_some h
      obtain ⟨hi14, h⟩ := h
      refine rf_iald hx hb hK hP (q := 9) rfl hi14 dR_free_60 ?_
      refine lv_iload_n hx hb dR_free_61 rfl (lv_at hl 1 rfl) ?_
      refine lv_icmp_ne (tgt := 129) hx hb dR_free_62 (by decide) (fun c15 => ?_) (fun c15 => ?_)
      · replace h := fl_neg c15 h
        refine lv_aload_n hx hb dR_free_129 rfl (lv_at hl 3 rfl) ?_
        refine lv_iload_n hx hb dR_free_130 rfl (lv_at hl 1 rfl) ?_
        replace h := fl_bd_some h
        obtain ⟨r16, g17, hc18, h⟩ := h
        refine fl_calli (va_runV (As := [.int (r9 / 16)]) (rest := []) ⟨hx, hb, hml, hown, hts⟩ (cR_used l dC dI ca ad hI (r9 / 16) hc18) (kR_used hts (hts _ gm_587) ⟨Nat.le_of_ble_eq_true rfl, Nat.le_of_ble_eq_true rfl⟩) (fl_preV hK hP hN (rf_lt rfl (by decide)) (rf_sh0 rfl) rfl) rfl rfl hl.1 rfl (lv_room (Nat.le_of_ble_eq_true rfl)) dR_free_131 ⟨Nat.le_refl 0, Nat.le_refl 0⟩) hS (fun H locs hP hS => ?_)
        refine lv_if_ne (tgt := 142) hx hb dR_free_134 (by decide) (fun c19 => ?_) (fun c19 => ?_)
        · replace h := fl_neg c19 h
          refine lv_iconst (v := 1) hx hb dR_free_142 (by decide) ?_
          exact fl_zret hx hb hr hlocks hP hS (Or.inr rfl) h dR_free_143
        · replace h := fl_pos c19 h
          refine lv_aload_n hx hb dR_free_137 rfl (lv_at hl 3 rfl) ?_
          refine lv_iload_n hx hb dR_free_138 rfl (lv_at hl 1 rfl) ?_
          replace h := fl_bd_some h
          obtain ⟨r20, g21, hc22, h⟩ := h
          refine fl_callv (va_runV (As := [.int (r9 / 16)]) (rest := []) ⟨hx, hb, hml, hown, hts⟩ (cR_release l dC dI ca ad hI (r9 / 16) hc22) (kR_release hts (hts _ gm_638) ⟨Nat.le_of_ble_eq_true rfl, Nat.le_of_ble_eq_true rfl⟩) (fl_preV hK hP hN (rf_lt rfl (by decide)) (rf_sh0 rfl) rfl) rfl rfl hl.1 rfl (lv_room (Nat.le_of_ble_eq_true rfl)) dR_free_139 ⟨Nat.le_refl 0, Nat.le_refl 0⟩) hS (fun H locs hP hS => ?_)
          refine lv_iconst (v := 1) hx hb dR_free_142 (by decide) ?_
          exact fl_zret hx hb hr hlocks hP hS (Or.inr rfl) h dR_free_143
      · replace h := fl_pos c15 h
        refine lv_aload_n hx hb dR_free_65 rfl (lv_at hl 3 rfl) ?_
        refine rf_get0 (v := .ref (ad 10)) hx hb hts rf_in0 hown hK hP (q := 0) rfl 11 (by decide) (hts _ gm_513) rfl dR_free_66 ?_
        refine lv_iload hx hb dR_free_69 (lv_at hl 0 rfl) ?_
        replace h := fl_ck_some h
        obtain ⟨hi23, h⟩ := h
        refine rf_iald hx hb hK hP (q := 10) rfl hi23 dR_free_71 ?_
        refine lv_iconst (v := 1) hx hb dR_free_72 (by decide) ?_
        refine lv_iadd hx hb dR_free_73 ?_
        refine lv_istore (lv' := [(5, .int (((fl_up g10 7 (Int32.toNatClampNeg r9) (-1)) 10 (Int32.toNatClampNeg (g10 5 (Int32.toNatClampNeg (r9 / 16))))) + 1)), (4, .int (g10 5 (Int32.toNatClampNeg (r9 / 16)))), (3, .int (r9 / 16)), (2, .int r9), (0, .ref (ad 0)), (1, .int a0)]) hx hb dR_free_74 hl (by decide) rfl (fun ls hl => ?_)
        refine lv_aload_n hx hb dR_free_76 rfl (lv_at hl 4 rfl) ?_
        refine rf_get0 (v := .ref (ad 11)) hx hb hts rf_in0 hown hK hP (q := 0) rfl 12 (by decide) (hts _ gm_514) rfl dR_free_77 ?_
        refine lv_bipush (v := 16) hx hb dR_free_80 (by decide) ?_
        refine lv_iload hx hb dR_free_82 (lv_at hl 1 rfl) ?_
        refine lv_imul hx hb dR_free_84 ?_
        refine lv_iload hx hb dR_free_85 (lv_at hl 0 rfl) ?_
        refine lv_iadd hx hb dR_free_87 ?_
        refine lv_iconst (v := 1) hx hb dR_free_88 (by decide) ?_
        refine lv_isub hx hb dR_free_89 ?_
        refine lv_iload_n hx hb dR_free_90 rfl (lv_at hl 3 rfl) ?_
        refine lv_bipush (v := 16) hx hb dR_free_91 (by decide) ?_
        refine lv_irem hx hb dR_free_93 (by decide) ?_
        replace h := fl_ck_some h
        obtain ⟨hi24, h⟩ := h
        refine rf_iast hx hb hK hP hI hS (q := 11) rfl hi24 dR_free_94 (fun H locs hP hS => ?_)
        have hP : va_P (dC, dI) al_cl (fl_ws 14 (rf_sh ca ad) ad (fl_up (fl_up g10 7 (Int32.toNatClampNeg r9) (-1)) 11 (Int32.toNatClampNeg (((16 * (g10 5 (Int32.toNatClampNeg (r9 / 16)))) + (((fl_up g10 7 (Int32.toNatClampNeg r9) (-1)) 10 (Int32.toNatClampNeg (g10 5 (Int32.toNatClampNeg (r9 / 16))))) + 1)) - 1)) (fl_rem r9 16))) H := hP
        refine lv_aload_n hx hb dR_free_95 rfl (lv_at hl 4 rfl) ?_
        refine rf_get0 (v := .ref (ad 10)) hx hb hts rf_in0 hown hK hP (q := 0) rfl 11 (by decide) (hts _ gm_513) rfl dR_free_96 ?_
        refine lv_iload hx hb dR_free_99 (lv_at hl 1 rfl) ?_
        refine lv_iload hx hb dR_free_101 (lv_at hl 0 rfl) ?_
        replace h := fl_ck_some h
        obtain ⟨hi25, h⟩ := h
        refine rf_iast hx hb hK hP hI hS (q := 10) rfl hi25 dR_free_103 (fun H locs hP hS => ?_)
        have hP : va_P (dC, dI) al_cl (fl_ws 14 (rf_sh ca ad) ad (fl_up (fl_up (fl_up g10 7 (Int32.toNatClampNeg r9) (-1)) 11 (Int32.toNatClampNeg (((16 * (g10 5 (Int32.toNatClampNeg (r9 / 16)))) + (((fl_up g10 7 (Int32.toNatClampNeg r9) (-1)) 10 (Int32.toNatClampNeg (g10 5 (Int32.toNatClampNeg (r9 / 16))))) + 1)) - 1)) (fl_rem r9 16)) 10 (Int32.toNatClampNeg (g10 5 (Int32.toNatClampNeg (r9 / 16)))) (((fl_up g10 7 (Int32.toNatClampNeg r9) (-1)) 10 (Int32.toNatClampNeg (g10 5 (Int32.toNatClampNeg (r9 / 16))))) + 1))) H := hP
        refine lv_iload hx hb dR_free_104 (lv_at hl 0 rfl) ?_
        refine lv_iconst (v := 1) hx hb dR_free_106 (by decide) ?_
        refine lv_icmp_le (tgt := 126) hx hb dR_free_107 (by decide) (fun c26 => ?_) (fun c26 => ?_)
        · replace h := fl_pos c26 h
          refine lv_goto (tgt := 142) hx hb dR_free_126 (by decide) ?_
          refine lv_iconst (v := 1) hx hb dR_free_142 (by decide) ?_
          exact fl_zret hx hb hr hlocks hP hS (Or.inr rfl) h dR_free_143
        · replace h := fl_neg c26 h
          refine lv_aload_n hx hb dR_free_110 rfl (lv_at hl 4 rfl) ?_
          refine lv_iload hx hb dR_free_111 (lv_at hl 1 rfl) ?_
          refine lv_iload hx hb dR_free_113 (lv_at hl 0 rfl) ?_
          refine lv_iconst (v := 1) hx hb dR_free_115 (by decide) ?_
          refine lv_isub hx hb dR_free_116 ?_
          refine lv_aload_n hx hb dR_free_117 rfl (lv_at hl 4 rfl) ?_
          refine lv_iload hx hb dR_free_118 (lv_at hl 0 rfl) ?_
          replace h := fl_bd_some h
          obtain ⟨r27, g28, hc29, h⟩ := h
          refine fl_calli (va_runV (As := [.int (((fl_up g10 7 (Int32.toNatClampNeg r9) (-1)) 10 (Int32.toNatClampNeg (g10 5 (Int32.toNatClampNeg (r9 / 16))))) + 1)]) (rest := [.int ((((fl_up g10 7 (Int32.toNatClampNeg r9) (-1)) 10 (Int32.toNatClampNeg (g10 5 (Int32.toNatClampNeg (r9 / 16))))) + 1) - 1), .int (g10 5 (Int32.toNatClampNeg (r9 / 16))), .ref (ad 0)]) ⟨hx, hb, hml, hown, hts⟩ (cR_draw l dC dI ca ad hI (((fl_up g10 7 (Int32.toNatClampNeg r9) (-1)) 10 (Int32.toNatClampNeg (g10 5 (Int32.toNatClampNeg (r9 / 16))))) + 1) hc29) (kR_draw hts (hts _ gm_599) ⟨Nat.le_of_ble_eq_true rfl, Nat.le_of_ble_eq_true rfl⟩) (fl_preV hK hP hN (rf_lt rfl (by decide)) (rf_sh0 rfl) rfl) rfl rfl hl.1 rfl (lv_room (Nat.le_of_ble_eq_true rfl)) dR_free_120 ⟨Nat.le_refl 0, Nat.le_refl 0⟩) hS (fun H locs hP hS => ?_)
          replace h := fl_bd_some h
          obtain ⟨r30, g31, hc32, h⟩ := h
          refine fl_callv (va_runV (As := [.int (g10 5 (Int32.toNatClampNeg (r9 / 16))), .int ((((fl_up g10 7 (Int32.toNatClampNeg r9) (-1)) 10 (Int32.toNatClampNeg (g10 5 (Int32.toNatClampNeg (r9 / 16))))) + 1) - 1), .int r27]) (rest := []) ⟨hx, hb, hml, hown, hts⟩ (cR_swap l dC dI ca ad hI (g10 5 (Int32.toNatClampNeg (r9 / 16))) ((((fl_up g10 7 (Int32.toNatClampNeg r9) (-1)) 10 (Int32.toNatClampNeg (g10 5 (Int32.toNatClampNeg (r9 / 16))))) + 1) - 1) r27 hc32) (kR_swap hts (hts _ gm_604) ⟨Nat.le_of_ble_eq_true rfl, Nat.le_of_ble_eq_true rfl⟩) (fl_preV hK hP hN (rf_lt rfl (by decide)) (rf_sh0 rfl) rfl) rfl rfl hl.1 rfl (lv_room (Nat.le_of_ble_eq_true rfl)) dR_free_123 ⟨Nat.le_refl 0, Nat.le_refl 0⟩) hS (fun H locs hP hS => ?_)
          refine lv_goto (tgt := 142) hx hb dR_free_126 (by decide) ?_
          refine lv_iconst (v := 1) hx hb dR_free_142 (by decide) ?_
          exact fl_zret hx hb hr hlocks hP hS (Or.inr rfl) h dR_free_143
    · replace h := fl_pos c8 h
      refine lv_iconst (v := 0) hx hb dR_free_26 (by decide) ?_
      exact fl_zret hx hb hr hlocks hP hS (Or.inl rfl) h dR_free_27
  · replace h := fl_neg c4 h
    refine lv_aload_n hx hb dR_free_8 rfl (lv_at hl 0 rfl) ?_
    refine lv_iload_n hx hb dR_free_9 rfl (lv_at hl 1 rfl) ?_
    refine lv_bipush (v := 16) hx hb dR_free_10 (by decide) ?_
    refine lv_idiv hx hb dR_free_12 (by decide) ?_
    replace h := fl_bd_some h
    obtain ⟨r33, g34, hc35, h⟩ := h
    refine fl_callv (va_runV (As := [.int (a0 / 16)]) (rest := []) ⟨hx, hb, hml, hown, hts⟩ (cR_freeLarge l dC dI ca ad hI (a0 / 16) hc35) (kR_freeLarge hts (hts _ gm_635) ⟨Nat.le_of_ble_eq_true rfl, Nat.le_of_ble_eq_true rfl⟩) (fl_preV hK hP hN (rf_lt rfl (by decide)) (rf_sh0 rfl) rfl) rfl rfl hl.1 rfl (lv_room (Nat.le_of_ble_eq_true rfl)) dR_free_13 ⟨Nat.le_refl 0, Nat.le_refl 0⟩) hS (fun H locs hP hS => ?_)
    refine lv_iconst (v := 1) hx hb dR_free_16 (by decide) ?_
    exact fl_zret hx hb hr hlocks hP hS (Or.inr rfl) h dR_free_17
def yR_meets : MethodName := ⟨"MeshedSpansModel", "meets", "(II)Z"⟩
def wR_meets : List Cond := .code yR_meets prog_8_method_29_code 5 (some .boolean) :: gw
theorem kR_meets {R : Room} {s : State} {args : Array Value} {own : String} {ix : Nat} (hts : ∀ w ∈ gw, w.before args s = true) (hl : (Cond.methodLink own ix yR_meets).before args s = true) (hR : 1 + 1 ≤ R.frames ∧ 8 + (5 + 11) + 20 ≤ R.locals) : CallW R s args own "MeshedSpansModel" ix yR_meets prog_8_method_29_code 5 (some .boolean) wR_meets { frames := 1, cells := 0, slots := 0, locals := 20 } 0 0 2 := ⟨callB_of (rm := { frames := 1, cells := 0, slots := 0, locals := 20 }) 2 hts (gw_c (ct := .code yR_meets prog_8_method_29_code 5 (some .boolean)) gm_656) rfl rfl rfl (hts _ gm_47) hl (by decide +kernel) hR, hts _ gm_655, hts _ gm_38⟩
theorem dR_meets_0 : decode prog_8_method_29_code 0 = .ok (.iconst 0, 1) := by decide +kernel
theorem dR_meets_1 : decode prog_8_method_29_code 1 = .ok (.istore_n 3, 1) := by decide +kernel
theorem dR_meets_2 : decode prog_8_method_29_code 2 = .ok (.iconst 0, 1) := by decide +kernel
theorem dR_meets_3 : decode prog_8_method_29_code 3 = .ok (.istore 4, 2) := by decide +kernel
theorem dR_meets_5 : decode prog_8_method_29_code 5 = .ok (.iload 4, 2) := by decide +kernel
theorem dR_meets_7 : decode prog_8_method_29_code 7 = .ok (.bipush 16, 2) := by decide +kernel
theorem dR_meets_9 : decode prog_8_method_29_code 9 = .ok (.if_icmp .ge 65, 3) := by decide +kernel
theorem dR_meets_12 : decode prog_8_method_29_code 12 = .ok (.iload_n 3, 1) := by decide +kernel
theorem dR_meets_13 : decode prog_8_method_29_code 13 = .ok (.ifCond .ne 49, 3) := by decide +kernel
theorem dR_meets_16 : decode prog_8_method_29_code 16 = .ok (.iload 4, 2) := by decide +kernel
theorem dR_meets_18 : decode prog_8_method_29_code 18 = .ok (.aload_n 0, 1) := by decide +kernel
theorem dR_meets_19 : decode prog_8_method_29_code 19 = .ok (.getfield 22, 3) := by decide +kernel
theorem dR_meets_22 : decode prog_8_method_29_code 22 = .ok (.iload_n 1, 1) := by decide +kernel
theorem dR_meets_23 : decode prog_8_method_29_code 23 = .ok (.iaload, 1) := by decide +kernel
theorem dR_meets_24 : decode prog_8_method_29_code 24 = .ok (.invokestatic 56, 3) := by decide +kernel
theorem dR_meets_27 : decode prog_8_method_29_code 27 = .ok (.if_icmp .ge 39, 3) := by decide +kernel
theorem dR_meets_30 : decode prog_8_method_29_code 30 = .ok (.aload_n 0, 1) := by decide +kernel
theorem dR_meets_31 : decode prog_8_method_29_code 31 = .ok (.getfield 28, 3) := by decide +kernel
theorem dR_meets_34 : decode prog_8_method_29_code 34 = .ok (.bipush 16, 2) := by decide +kernel
theorem dR_meets_36 : decode prog_8_method_29_code 36 = .ok (.iload_n 1, 1) := by decide +kernel
theorem dR_meets_37 : decode prog_8_method_29_code 37 = .ok (.imul, 1) := by decide +kernel
theorem dR_meets_38 : decode prog_8_method_29_code 38 = .ok (.iload 4, 2) := by decide +kernel
theorem dR_meets_40 : decode prog_8_method_29_code 40 = .ok (.iadd, 1) := by decide +kernel
theorem dR_meets_41 : decode prog_8_method_29_code 41 = .ok (.iaload, 1) := by decide +kernel
theorem dR_meets_42 : decode prog_8_method_29_code 42 = .ok (.iconst (-1), 1) := by decide +kernel
theorem dR_meets_43 : decode prog_8_method_29_code 43 = .ok (.if_icmp .eq 23, 3) := by decide +kernel
theorem dR_meets_46 : decode prog_8_method_29_code 46 = .ok (.aload_n 0, 1) := by decide +kernel
theorem dR_meets_47 : decode prog_8_method_29_code 47 = .ok (.getfield 28, 3) := by decide +kernel
theorem dR_meets_50 : decode prog_8_method_29_code 50 = .ok (.bipush 16, 2) := by decide +kernel
theorem dR_meets_52 : decode prog_8_method_29_code 52 = .ok (.iload_n 2, 1) := by decide +kernel
theorem dR_meets_53 : decode prog_8_method_29_code 53 = .ok (.imul, 1) := by decide +kernel
theorem dR_meets_54 : decode prog_8_method_29_code 54 = .ok (.iload 4, 2) := by decide +kernel
theorem dR_meets_56 : decode prog_8_method_29_code 56 = .ok (.iadd, 1) := by decide +kernel
theorem dR_meets_57 : decode prog_8_method_29_code 57 = .ok (.iaload, 1) := by decide +kernel
theorem dR_meets_58 : decode prog_8_method_29_code 58 = .ok (.iconst (-1), 1) := by decide +kernel
theorem dR_meets_59 : decode prog_8_method_29_code 59 = .ok (.if_icmp .eq 7, 3) := by decide +kernel
theorem dR_meets_62 : decode prog_8_method_29_code 62 = .ok (.iconst 1, 1) := by decide +kernel
theorem dR_meets_63 : decode prog_8_method_29_code 63 = .ok (.goto 4, 3) := by decide +kernel
theorem dR_meets_66 : decode prog_8_method_29_code 66 = .ok (.iconst 0, 1) := by decide +kernel
theorem dR_meets_67 : decode prog_8_method_29_code 67 = .ok (.istore_n 3, 1) := by decide +kernel
theorem dR_meets_68 : decode prog_8_method_29_code 68 = .ok (.iinc 4 1, 3) := by decide +kernel
theorem dR_meets_71 : decode prog_8_method_29_code 71 = .ok (.goto (-66), 3) := by decide +kernel
theorem dR_meets_74 : decode prog_8_method_29_code 74 = .ok (.iload_n 3, 1) := by decide +kernel
theorem dR_meets_75 : decode prog_8_method_29_code 75 = .ok (.ireturn, 1) := by decide +kernel
def fR_meets_B5 (rec : Int32 → Int32 → Int32 → Int32 → fl_G → Option ((Int32 × Int32) × fl_G)) (v4 : Int32) (v3 : Int32) (v1 : Int32) (v2 : Int32) (g : fl_G) : Option ((Int32 × Int32) × fl_G) :=
  if 16 ≤ v4 then (some ((v4, v3), g)) else (if v3 = 0 then (fl_ck (fl_in v1 12) (fl_bd (fR_cells (g 5 (Int32.toNatClampNeg v1)) g) (fun r5 g6 => if r5 ≤ v4 then (rec (v4 + 1) 0 v1 v2 g6) else (fl_ck (fl_in ((16 * v1) + v4) 192) (if (g6 7 (Int32.toNatClampNeg ((16 * v1) + v4))) = (-1) then (rec (v4 + 1) 0 v1 v2 g6) else (fl_ck (fl_in ((16 * v2) + v4) 192) (if (g6 7 (Int32.toNatClampNeg ((16 * v2) + v4))) = (-1) then (rec (v4 + 1) 0 v1 v2 g6) else (rec (v4 + 1) 1 v1 v2 g6)))))))) else (rec (v4 + 1) 1 v1 v2 g))
def fR_meets_L5 : Nat → Int32 → Int32 → Int32 → Int32 → fl_G → Option ((Int32 × Int32) × fl_G)
  | 0, _, _, _, _, _ => none
  | n + 1, v4, v3, v1, v2, g => fR_meets_B5 (fR_meets_L5 n) v4 v3 v1 v2 g
def fR_meets (a0 : Int32) (a1 : Int32) (g : fl_G) : Option (Int32 × fl_G) :=
  fl_bd (fR_meets_L5 1000 0 0 a0 a1 g) (fun r13 g14 => fl_ck (fl_bo r13.2) (some (r13.2, g14)))
set_option maxHeartbeats 4000000 in
set_option maxRecDepth 100000 in
theorem cR_meets (l : Launch) (dC : Nat → ClassId) (dI : Nat → Nat → Nat) (ca : Nat → ClassId) (ad : Nat → Nat) (hI : fl_inj 14 ad) (a0 : Int32) (a1 : Int32) {g g1 : fl_G} {r : Int32} (h : fR_meets a0 a1 g = some (r, g1)) : Met l yR_meets wR_meets ({ frames := 1, cells := 0, slots := 0, locals := 20 }) (va_Pc [.ref (ad 0), .int a0, .int a1] (fl_Pre (dC, dI) al_cl 14 (rf_sh ca ad) ad (rf_ty ca) rf_ns g)) (fl_QI (dC, dI) al_cl 14 (rf_sh ca ad) ad r g1) 0 0 (fl_A 14 ad) := by
  refine fl_of (cc := prog_8_method_29_code) (maxL := 5) (ret := (some .boolean)) (by decide) rfl (Nat.le_of_ble_eq_true rfl) ?_
  intro p e s m below meth c ls hx hb hr hml hts hown hlocks hP hK hN hl
  have hown : s.vm.findClass "MeshedSpansModel" = some m.cls := hown
  have hS : va_S (fl_A 14 ad) s.heap s.heap [] := va_S.rf
  have hl : lv_has ls 5 [(0, .ref (ad 0)), (1, .int a0), (2, .int a1)] := hl
  unfold fR_meets at h
  refine lv_iconst (v := 0) hx hb dR_meets_0 (by decide) ?_
  refine lv_istore_n (lv' := [(3, .int 0), (0, .ref (ad 0)), (1, .int a0), (2, .int a1)]) hx hb dR_meets_1 rfl hl (by decide) rfl (fun ls hl => ?_)
  refine lv_iconst (v := 0) hx hb dR_meets_2 (by decide) ?_
  refine lv_istore (lv' := [(4, .int 0), (3, .int 0), (0, .ref (ad 0)), (1, .int a0), (2, .int a1)]) hx hb dR_meets_3 hl (by decide) rfl (fun ls hl => ?_)
  have loop1 : ∀ (n : Nat) (v4 : Int32) (v3 : Int32) (v1 : Int32) (v2 : Int32) (g : fl_G) (z : ((Int32 × Int32) × fl_G)) (H : Heap) (locs : List Loc) (ls : Array Slot), fR_meets_L5 n v4 v3 v1 v2 g = some z → va_P (dC, dI) al_cl (fl_ws 14 (rf_sh ca ad) ad g) H → va_S (fl_A 14 ad) s.heap H locs → lv_has ls 5 [(4, .int v4), (3, .int v3), (0, .ref (ad 0)), (1, .int v1), (2, .int v2)] → (∀ (H : Heap) (locs : List Loc) (ls : Array Slot), va_P (dC, dI) al_cl (fl_ws 14 (rf_sh ca ad) ad z.2) H → va_S (fl_A 14 ad) s.heap H locs → lv_has ls 5 [(4, .int z.1.1), (3, .int z.1.2), (0, .ref (ad 0)), (1, .int v1), (2, .int v2)] → W p l e ({ frames := 1, cells := 0, slots := 0, locals := 20 }) s m ([.ref (ad 0), .int a0, .int a1] : List Value).toArray below meth c H locs 0 0 (MQ below (fl_QI (dC, dI) al_cl 14 (rf_sh ca ad) ad r g1) ([.ref (ad 0), .int a0, .int a1] : List Value).toArray s 0 0 (fl_A 14 ad)) (F0 m 74 ls [])) → W p l e ({ frames := 1, cells := 0, slots := 0, locals := 20 }) s m ([.ref (ad 0), .int a0, .int a1] : List Value).toArray below meth c H locs 0 0 (MQ below (fl_QI (dC, dI) al_cl 14 (rf_sh ca ad) ad r g1) ([.ref (ad 0), .int a0, .int a1] : List Value).toArray s 0 0 (fl_A 14 ad)) (F0 m 5 ls []) := by
    intro n
    clear h hP hS hl
    induction n with
    | zero => intro v4 v3 v1 v2 g z H locs ls h; cases h
    | succ n ih1 =>
      intro v4 v3 v1 v2 g z H locs ls h hP hS hl K1
      have h : fR_meets_B5 (fR_meets_L5 n) v4 v3 v1 v2 g = some z := h
      unfold fR_meets_B5 at h
      refine lv_iload hx hb dR_meets_5 (lv_at hl 0 rfl) ?_
      refine lv_bipush (v := 16) hx hb dR_meets_7 (by decide) ?_
      refine lv_icmp_ge (tgt := 74) hx hb dR_meets_9 (by decide) (fun c2 => ?_) (fun c2 => ?_)
      · replace h := fl_pos c2 h
        cases h
        exact K1 _ _ _ hP hS (lv_sub hl [0, 1, 2, 3, 4] rfl)
      · replace h := fl_neg c2 h
        refine lv_iload_n hx hb dR_meets_12 rfl (lv_at hl 1 rfl) ?_
        refine lv_if_ne (tgt := 62) hx hb dR_meets_13 (by decide) (fun c3 => ?_) (fun c3 => ?_)
        · replace h := fl_neg c3 h
          refine lv_iconst (v := 1) hx hb dR_meets_62 (by decide) ?_
          refine lv_goto (tgt := 67) hx hb dR_meets_63 (by decide) ?_
          refine lv_istore_n (lv' := [(3, .int 1), (4, .int v4), (0, .ref (ad 0)), (1, .int v1), (2, .int v2)]) hx hb dR_meets_67 rfl hl (by decide) rfl (fun ls hl => ?_)
          refine lv_iinc (v := (v4 + 1)) (lv' := [(4, .int (v4 + 1)), (3, .int 1), (0, .ref (ad 0)), (1, .int v1), (2, .int v2)]) hx hb dR_meets_68 hl (k := 1) rfl rfl (by decide) rfl (fun ls hl => ?_)
          refine lv_goto (tgt := 5) hx hb dR_meets_71 (by decide) ?_
          exact ih1 (v4 + 1) 1 v1 v2 _ _ _ _ _ h hP hS (lv_sub hl [0, 1, 2, 3, 4] rfl) K1
        · replace h := fl_pos c3 h
          refine lv_iload hx hb dR_meets_16 (lv_at hl 0 rfl) ?_
          refine lv_aload_n hx hb dR_meets_18 rfl (lv_at hl 2 rfl) ?_
          refine rf_get0 (v := .ref (ad 5)) hx hb hts rf_in0 hown hK hP (q := 0) rfl 5 (by decide) (hts _ gm_507) rfl dR_meets_19 ?_
          refine lv_iload_n hx hb dR_meets_22 rfl (lv_at hl 3 rfl) ?_
          replace h := fl_ck_some h
          obtain ⟨hi4, h⟩ := h
          refine rf_iald hx hb hK hP (q := 5) rfl hi4 dR_meets_23 ?_
          replace h := fl_bd_some h
          obtain ⟨r5, g6, hc7, h⟩ := h
          refine fl_calli (va_runS (As := [.int (g 5 (Int32.toNatClampNeg v1))]) (rest := [.int v4]) ⟨hx, hb, hml, hown, hts⟩ (cR_cells l dC dI ca ad hI (g 5 (Int32.toNatClampNeg v1)) hc7) (kR_cells hts (hts _ gm_590) ⟨Nat.le_of_ble_eq_true rfl, Nat.le_of_ble_eq_true rfl⟩) (fl_preS hK hP hN) rfl rfl hl.1 rfl (lv_room (Nat.le_of_ble_eq_true rfl)) dR_meets_24 ⟨Nat.le_refl 0, Nat.le_refl 0⟩) hS (fun H locs hP hS => ?_)
          refine lv_icmp_ge (tgt := 66) hx hb dR_meets_27 (by decide) (fun c8 => ?_) (fun c8 => ?_)
          · replace h := fl_pos c8 h
            refine lv_iconst (v := 0) hx hb dR_meets_66 (by decide) ?_
            refine lv_istore_n (lv' := [(3, .int 0), (4, .int v4), (0, .ref (ad 0)), (1, .int v1), (2, .int v2)]) hx hb dR_meets_67 rfl hl (by decide) rfl (fun ls hl => ?_)
            refine lv_iinc (v := (v4 + 1)) (lv' := [(4, .int (v4 + 1)), (3, .int 0), (0, .ref (ad 0)), (1, .int v1), (2, .int v2)]) hx hb dR_meets_68 hl (k := 1) rfl rfl (by decide) rfl (fun ls hl => ?_)
            refine lv_goto (tgt := 5) hx hb dR_meets_71 (by decide) ?_
            exact ih1 (v4 + 1) 0 v1 v2 _ _ _ _ _ h hP hS (lv_sub hl [0, 1, 2, 3, 4] rfl) K1
          · replace h := fl_neg c8 h
            refine lv_aload_n hx hb dR_meets_30 rfl (lv_at hl 2 rfl) ?_
            refine rf_get0 (v := .ref (ad 7)) hx hb hts rf_in0 hown hK hP (q := 0) rfl 7 (by decide) (hts _ gm_509) rfl dR_meets_31 ?_
            refine lv_bipush (v := 16) hx hb dR_meets_34 (by decide) ?_
            refine lv_iload_n hx hb dR_meets_36 rfl (lv_at hl 3 rfl) ?_
            refine lv_imul hx hb dR_meets_37 ?_
            refine lv_iload hx hb dR_meets_38 (lv_at hl 0 rfl) ?_
            refine lv_iadd hx hb dR_meets_40 ?_
            replace h := fl_ck_some h
            obtain ⟨hi9, h⟩ := h
            refine rf_iald hx hb hK hP (q := 7) rfl hi9 dR_meets_41 ?_
            refine lv_iconst (v := (-1)) hx hb dR_meets_42 (by decide) ?_
            refine lv_icmp_eq (tgt := 66) hx hb dR_meets_43 (by decide) (fun c10 => ?_) (fun c10 => ?_)
            · replace h := fl_pos c10 h
              refine lv_iconst (v := 0) hx hb dR_meets_66 (by decide) ?_
              refine lv_istore_n (lv' := [(3, .int 0), (4, .int v4), (0, .ref (ad 0)), (1, .int v1), (2, .int v2)]) hx hb dR_meets_67 rfl hl (by decide) rfl (fun ls hl => ?_)
              refine lv_iinc (v := (v4 + 1)) (lv' := [(4, .int (v4 + 1)), (3, .int 0), (0, .ref (ad 0)), (1, .int v1), (2, .int v2)]) hx hb dR_meets_68 hl (k := 1) rfl rfl (by decide) rfl (fun ls hl => ?_)
              refine lv_goto (tgt := 5) hx hb dR_meets_71 (by decide) ?_
              exact ih1 (v4 + 1) 0 v1 v2 _ _ _ _ _ h hP hS (lv_sub hl [0, 1, 2, 3, 4] rfl) K1
            · replace h := fl_neg c10 h
              refine lv_aload_n hx hb dR_meets_46 rfl (lv_at hl 2 rfl) ?_
              refine rf_get0 (v := .ref (ad 7)) hx hb hts rf_in0 hown hK hP (q := 0) rfl 7 (by decide) (hts _ gm_509) rfl dR_meets_47 ?_
              refine lv_bipush (v := 16) hx hb dR_meets_50 (by decide) ?_
              refine lv_iload_n hx hb dR_meets_52 rfl (lv_at hl 4 rfl) ?_
              refine lv_imul hx hb dR_meets_53 ?_
              refine lv_iload hx hb dR_meets_54 (lv_at hl 0 rfl) ?_
              refine lv_iadd hx hb dR_meets_56 ?_
              replace h := fl_ck_some h
              obtain ⟨hi11, h⟩ := h
              refine rf_iald hx hb hK hP (q := 7) rfl hi11 dR_meets_57 ?_
              refine lv_iconst (v := (-1)) hx hb dR_meets_58 (by decide) ?_
              refine lv_icmp_eq (tgt := 66) hx hb dR_meets_59 (by decide) (fun c12 => ?_) (fun c12 => ?_)
              · replace h := fl_pos c12 h
                refine lv_iconst (v := 0) hx hb dR_meets_66 (by decide) ?_
                refine lv_istore_n (lv' := [(3, .int 0), (4, .int v4), (0, .ref (ad 0)), (1, .int v1), (2, .int v2)]) hx hb dR_meets_67 rfl hl (by decide) rfl (fun ls hl => ?_)
                refine lv_iinc (v := (v4 + 1)) (lv' := [(4, .int (v4 + 1)), (3, .int 0), (0, .ref (ad 0)), (1, .int v1), (2, .int v2)]) hx hb dR_meets_68 hl (k := 1) rfl rfl (by decide) rfl (fun ls hl => ?_)
                refine lv_goto (tgt := 5) hx hb dR_meets_71 (by decide) ?_
                exact ih1 (v4 + 1) 0 v1 v2 _ _ _ _ _ h hP hS (lv_sub hl [0, 1, 2, 3, 4] rfl) K1
              · replace h := fl_neg c12 h
                refine lv_iconst (v := 1) hx hb dR_meets_62 (by decide) ?_
                refine lv_goto (tgt := 67) hx hb dR_meets_63 (by decide) ?_
                refine lv_istore_n (lv' := [(3, .int 1), (4, .int v4), (0, .ref (ad 0)), (1, .int v1), (2, .int v2)]) hx hb dR_meets_67 rfl hl (by decide) rfl (fun ls hl => ?_)
                refine lv_iinc (v := (v4 + 1)) (lv' := [(4, .int (v4 + 1)), (3, .int 1), (0, .ref (ad 0)), (1, .int v1), (2, .int v2)]) hx hb dR_meets_68 hl (k := 1) rfl rfl (by decide) rfl (fun ls hl => ?_)
                refine lv_goto (tgt := 5) hx hb dR_meets_71 (by decide) ?_
                exact ih1 (v4 + 1) 1 v1 v2 _ _ _ _ _ h hP hS (lv_sub hl [0, 1, 2, 3, 4] rfl) K1
  obtain ⟨r13, g14, hc15, h⟩ := fl_bd_some h
  refine loop1 1000 0 0 a0 a1 _ (r13, g14) _ _ _ hc15 hP hS (lv_sub hl [0, 1, 2, 3, 4] rfl) (fun H locs ls hP hS hl => ?_)
  have hP : va_P (dC, dI) al_cl (fl_ws 14 (rf_sh ca ad) ad g14) H := hP
  have hl : lv_has ls 5 [(4, .int r13.1), (3, .int r13.2), (0, .ref (ad 0)), (1, .int a0), (2, .int a1)] := hl
  refine lv_iload_n hx hb dR_meets_74 rfl (lv_at hl 1 rfl) ?_
  replace h := fl_ck_some h
  obtain ⟨hb16, h⟩ := h
  exact fl_zret hx hb hr hlocks hP hS hb16 h dR_meets_75
