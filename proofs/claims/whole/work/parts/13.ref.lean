def yR_merge : MethodName := ⟨"MeshedSpansModel", "merge", "(II)V"⟩
def wR_merge : List Cond := .code yR_merge prog_8_method_30_code 6 none :: gw
theorem kR_merge {R : Room} {s : State} {args : Array Value} {own : String} {ix : Nat} (hts : ∀ w ∈ gw, w.before args s = true) (hl : (Cond.methodLink own ix yR_merge).before args s = true) (hR : 1 + 1 ≤ R.frames ∧ 8 + (6 + 11) + 20 ≤ R.locals) : CallW R s args own "MeshedSpansModel" ix yR_merge prog_8_method_30_code 6 none wR_merge { frames := 1, cells := 0, slots := 0, locals := 20 } 0 0 2 := ⟨callB_of (rm := { frames := 1, cells := 0, slots := 0, locals := 20 }) 2 hts (gw_c (ct := .code yR_merge prog_8_method_30_code 6 none) gm_659) rfl rfl rfl (hts _ gm_47) hl (by decide +kernel) hR, hts _ gm_658, hts _ gm_39⟩
theorem dR_merge_0 : decode prog_8_method_30_code 0 = .ok (.iconst 1, 1) := by decide +kernel
theorem dR_merge_1 : decode prog_8_method_30_code 1 = .ok (.aload_n 0, 1) := by decide +kernel
theorem dR_merge_2 : decode prog_8_method_30_code 2 = .ok (.getfield 22, 3) := by decide +kernel
theorem dR_merge_5 : decode prog_8_method_30_code 5 = .ok (.iload_n 1, 1) := by decide +kernel
theorem dR_merge_6 : decode prog_8_method_30_code 6 = .ok (.iaload, 1) := by decide +kernel
theorem dR_merge_7 : decode prog_8_method_30_code 7 = .ok (.ishl, 1) := by decide +kernel
theorem dR_merge_8 : decode prog_8_method_30_code 8 = .ok (.istore_n 3, 1) := by decide +kernel
theorem dR_merge_9 : decode prog_8_method_30_code 9 = .ok (.iconst 0, 1) := by decide +kernel
theorem dR_merge_10 : decode prog_8_method_30_code 10 = .ok (.istore 4, 2) := by decide +kernel
theorem dR_merge_12 : decode prog_8_method_30_code 12 = .ok (.iload 4, 2) := by decide +kernel
theorem dR_merge_14 : decode prog_8_method_30_code 14 = .ok (.aload_n 0, 1) := by decide +kernel
theorem dR_merge_15 : decode prog_8_method_30_code 15 = .ok (.getfield 22, 3) := by decide +kernel
theorem dR_merge_18 : decode prog_8_method_30_code 18 = .ok (.iload_n 1, 1) := by decide +kernel
theorem dR_merge_19 : decode prog_8_method_30_code 19 = .ok (.iaload, 1) := by decide +kernel
theorem dR_merge_20 : decode prog_8_method_30_code 20 = .ok (.invokestatic 56, 3) := by decide +kernel
theorem dR_merge_23 : decode prog_8_method_30_code 23 = .ok (.if_icmp .ge 96, 3) := by decide +kernel
theorem dR_merge_26 : decode prog_8_method_30_code 26 = .ok (.aload_n 0, 1) := by decide +kernel
theorem dR_merge_27 : decode prog_8_method_30_code 27 = .ok (.getfield 28, 3) := by decide +kernel
theorem dR_merge_30 : decode prog_8_method_30_code 30 = .ok (.bipush 16, 2) := by decide +kernel
theorem dR_merge_32 : decode prog_8_method_30_code 32 = .ok (.iload_n 2, 1) := by decide +kernel
theorem dR_merge_33 : decode prog_8_method_30_code 33 = .ok (.imul, 1) := by decide +kernel
theorem dR_merge_34 : decode prog_8_method_30_code 34 = .ok (.iload 4, 2) := by decide +kernel
theorem dR_merge_36 : decode prog_8_method_30_code 36 = .ok (.iadd, 1) := by decide +kernel
theorem dR_merge_37 : decode prog_8_method_30_code 37 = .ok (.iaload, 1) := by decide +kernel
theorem dR_merge_38 : decode prog_8_method_30_code 38 = .ok (.iconst (-1), 1) := by decide +kernel
theorem dR_merge_39 : decode prog_8_method_30_code 39 = .ok (.if_icmp .eq 74, 3) := by decide +kernel
theorem dR_merge_42 : decode prog_8_method_30_code 42 = .ok (.aload_n 0, 1) := by decide +kernel
theorem dR_merge_43 : decode prog_8_method_30_code 43 = .ok (.getfield 28, 3) := by decide +kernel
theorem dR_merge_46 : decode prog_8_method_30_code 46 = .ok (.bipush 16, 2) := by decide +kernel
theorem dR_merge_48 : decode prog_8_method_30_code 48 = .ok (.iload_n 1, 1) := by decide +kernel
theorem dR_merge_49 : decode prog_8_method_30_code 49 = .ok (.imul, 1) := by decide +kernel
theorem dR_merge_50 : decode prog_8_method_30_code 50 = .ok (.iload 4, 2) := by decide +kernel
theorem dR_merge_52 : decode prog_8_method_30_code 52 = .ok (.iadd, 1) := by decide +kernel
theorem dR_merge_53 : decode prog_8_method_30_code 53 = .ok (.aload_n 0, 1) := by decide +kernel
theorem dR_merge_54 : decode prog_8_method_30_code 54 = .ok (.getfield 28, 3) := by decide +kernel
theorem dR_merge_57 : decode prog_8_method_30_code 57 = .ok (.bipush 16, 2) := by decide +kernel
theorem dR_merge_59 : decode prog_8_method_30_code 59 = .ok (.iload_n 2, 1) := by decide +kernel
theorem dR_merge_60 : decode prog_8_method_30_code 60 = .ok (.imul, 1) := by decide +kernel
theorem dR_merge_61 : decode prog_8_method_30_code 61 = .ok (.iload 4, 2) := by decide +kernel
theorem dR_merge_63 : decode prog_8_method_30_code 63 = .ok (.iadd, 1) := by decide +kernel
theorem dR_merge_64 : decode prog_8_method_30_code 64 = .ok (.iaload, 1) := by decide +kernel
theorem dR_merge_65 : decode prog_8_method_30_code 65 = .ok (.iastore, 1) := by decide +kernel
theorem dR_merge_66 : decode prog_8_method_30_code 66 = .ok (.iload 4, 2) := by decide +kernel
theorem dR_merge_68 : decode prog_8_method_30_code 68 = .ok (.iload_n 3, 1) := by decide +kernel
theorem dR_merge_69 : decode prog_8_method_30_code 69 = .ok (.imul, 1) := by decide +kernel
theorem dR_merge_70 : decode prog_8_method_30_code 70 = .ok (.istore 5, 2) := by decide +kernel
theorem dR_merge_72 : decode prog_8_method_30_code 72 = .ok (.iload 5, 2) := by decide +kernel
theorem dR_merge_74 : decode prog_8_method_30_code 74 = .ok (.iload 4, 2) := by decide +kernel
theorem dR_merge_76 : decode prog_8_method_30_code 76 = .ok (.iload_n 3, 1) := by decide +kernel
theorem dR_merge_77 : decode prog_8_method_30_code 77 = .ok (.imul, 1) := by decide +kernel
theorem dR_merge_78 : decode prog_8_method_30_code 78 = .ok (.iload_n 3, 1) := by decide +kernel
theorem dR_merge_79 : decode prog_8_method_30_code 79 = .ok (.iadd, 1) := by decide +kernel
theorem dR_merge_80 : decode prog_8_method_30_code 80 = .ok (.if_icmp .ge 33, 3) := by decide +kernel
theorem dR_merge_83 : decode prog_8_method_30_code 83 = .ok (.aload_n 0, 1) := by decide +kernel
theorem dR_merge_84 : decode prog_8_method_30_code 84 = .ok (.getfield 13, 3) := by decide +kernel
theorem dR_merge_87 : decode prog_8_method_30_code 87 = .ok (.bipush 16, 2) := by decide +kernel
theorem dR_merge_89 : decode prog_8_method_30_code 89 = .ok (.iload_n 1, 1) := by decide +kernel
theorem dR_merge_90 : decode prog_8_method_30_code 90 = .ok (.imul, 1) := by decide +kernel
theorem dR_merge_91 : decode prog_8_method_30_code 91 = .ok (.iload 5, 2) := by decide +kernel
theorem dR_merge_93 : decode prog_8_method_30_code 93 = .ok (.iadd, 1) := by decide +kernel
theorem dR_merge_94 : decode prog_8_method_30_code 94 = .ok (.aload_n 0, 1) := by decide +kernel
theorem dR_merge_95 : decode prog_8_method_30_code 95 = .ok (.getfield 13, 3) := by decide +kernel
theorem dR_merge_98 : decode prog_8_method_30_code 98 = .ok (.bipush 16, 2) := by decide +kernel
theorem dR_merge_100 : decode prog_8_method_30_code 100 = .ok (.iload_n 2, 1) := by decide +kernel
theorem dR_merge_101 : decode prog_8_method_30_code 101 = .ok (.imul, 1) := by decide +kernel
theorem dR_merge_102 : decode prog_8_method_30_code 102 = .ok (.iload 5, 2) := by decide +kernel
theorem dR_merge_104 : decode prog_8_method_30_code 104 = .ok (.iadd, 1) := by decide +kernel
theorem dR_merge_105 : decode prog_8_method_30_code 105 = .ok (.iaload, 1) := by decide +kernel
theorem dR_merge_106 : decode prog_8_method_30_code 106 = .ok (.iastore, 1) := by decide +kernel
theorem dR_merge_107 : decode prog_8_method_30_code 107 = .ok (.iinc 5 1, 3) := by decide +kernel
theorem dR_merge_110 : decode prog_8_method_30_code 110 = .ok (.goto (-38), 3) := by decide +kernel
theorem dR_merge_113 : decode prog_8_method_30_code 113 = .ok (.iinc 4 1, 3) := by decide +kernel
theorem dR_merge_116 : decode prog_8_method_30_code 116 = .ok (.goto (-104), 3) := by decide +kernel
theorem dR_merge_119 : decode prog_8_method_30_code 119 = .ok (.iconst 0, 1) := by decide +kernel
theorem dR_merge_120 : decode prog_8_method_30_code 120 = .ok (.istore 4, 2) := by decide +kernel
theorem dR_merge_122 : decode prog_8_method_30_code 122 = .ok (.iload 4, 2) := by decide +kernel
theorem dR_merge_124 : decode prog_8_method_30_code 124 = .ok (.bipush 24, 2) := by decide +kernel
theorem dR_merge_126 : decode prog_8_method_30_code 126 = .ok (.if_icmp .ge 38, 3) := by decide +kernel
theorem dR_merge_129 : decode prog_8_method_30_code 129 = .ok (.aload_n 0, 1) := by decide +kernel
theorem dR_merge_130 : decode prog_8_method_30_code 130 = .ok (.getfield 16, 3) := by decide +kernel
theorem dR_merge_133 : decode prog_8_method_30_code 133 = .ok (.iload 4, 2) := by decide +kernel
theorem dR_merge_135 : decode prog_8_method_30_code 135 = .ok (.aload_n 0, 1) := by decide +kernel
theorem dR_merge_136 : decode prog_8_method_30_code 136 = .ok (.getfield 16, 3) := by decide +kernel
theorem dR_merge_139 : decode prog_8_method_30_code 139 = .ok (.iload 4, 2) := by decide +kernel
theorem dR_merge_141 : decode prog_8_method_30_code 141 = .ok (.iaload, 1) := by decide +kernel
theorem dR_merge_142 : decode prog_8_method_30_code 142 = .ok (.iload_n 2, 1) := by decide +kernel
theorem dR_merge_143 : decode prog_8_method_30_code 143 = .ok (.if_icmp .ne 7, 3) := by decide +kernel
theorem dR_merge_146 : decode prog_8_method_30_code 146 = .ok (.iload_n 1, 1) := by decide +kernel
theorem dR_merge_147 : decode prog_8_method_30_code 147 = .ok (.goto 10, 3) := by decide +kernel
theorem dR_merge_150 : decode prog_8_method_30_code 150 = .ok (.aload_n 0, 1) := by decide +kernel
theorem dR_merge_151 : decode prog_8_method_30_code 151 = .ok (.getfield 16, 3) := by decide +kernel
theorem dR_merge_154 : decode prog_8_method_30_code 154 = .ok (.iload 4, 2) := by decide +kernel
theorem dR_merge_156 : decode prog_8_method_30_code 156 = .ok (.iaload, 1) := by decide +kernel
theorem dR_merge_157 : decode prog_8_method_30_code 157 = .ok (.iastore, 1) := by decide +kernel
theorem dR_merge_158 : decode prog_8_method_30_code 158 = .ok (.iinc 4 1, 3) := by decide +kernel
theorem dR_merge_161 : decode prog_8_method_30_code 161 = .ok (.goto (-39), 3) := by decide +kernel
theorem dR_merge_164 : decode prog_8_method_30_code 164 = .ok (.aload_n 0, 1) := by decide +kernel
theorem dR_merge_165 : decode prog_8_method_30_code 165 = .ok (.getfield 7, 3) := by decide +kernel
theorem dR_merge_168 : decode prog_8_method_30_code 168 = .ok (.iload_n 2, 1) := by decide +kernel
theorem dR_merge_169 : decode prog_8_method_30_code 169 = .ok (.iconst 0, 1) := by decide +kernel
theorem dR_merge_170 : decode prog_8_method_30_code 170 = .ok (.iastore, 1) := by decide +kernel
theorem dR_merge_171 : decode prog_8_method_30_code 171 = .ok (.return_, 1) := by decide +kernel
def fR_merge_B72 (rec : Int32 → Int32 → Int32 → Int32 → Int32 → fl_G → Option ((Int32) × fl_G)) (v5 : Int32) (v4 : Int32) (v3 : Int32) (v1 : Int32) (v2 : Int32) (g : fl_G) : Option ((Int32) × fl_G) :=
  if ((v4 * v3) + v3) ≤ v5 then (some (v5, g)) else (fl_ck (fl_in ((16 * v2) + v5) 192) (fl_ck (fl_in ((16 * v1) + v5) 192) (rec (v5 + 1) v4 v3 v1 v2 (fl_up g 2 (Int32.toNatClampNeg ((16 * v1) + v5)) (g 2 (Int32.toNatClampNeg ((16 * v2) + v5)))))))
def fR_merge_L72 : Nat → Int32 → Int32 → Int32 → Int32 → Int32 → fl_G → Option ((Int32) × fl_G)
  | 0, _, _, _, _, _, _ => none
  | n + 1, v5, v4, v3, v1, v2, g => fR_merge_B72 (fR_merge_L72 n) v5 v4 v3 v1 v2 g
def fR_merge_B12 (rec : Int32 → Int32 → Int32 → Int32 → fl_G → Option ((Int32) × fl_G)) (v4 : Int32) (v3 : Int32) (v1 : Int32) (v2 : Int32) (g : fl_G) : Option ((Int32) × fl_G) :=
  fl_ck (fl_in v1 12) (fl_bd (fR_cells (g 5 (Int32.toNatClampNeg v1)) g) (fun r4 g5 => if r4 ≤ v4 then (some (v4, g5)) else (fl_ck (fl_in ((16 * v2) + v4) 192) (if (g5 7 (Int32.toNatClampNeg ((16 * v2) + v4))) = (-1) then (rec (v4 + 1) v3 v1 v2 g5) else (fl_ck (fl_in ((16 * v2) + v4) 192) (fl_ck (fl_in ((16 * v1) + v4) 192) (fl_bd (fR_merge_L72 1000 (v4 * v3) v4 v3 v1 v2 (fl_up g5 7 (Int32.toNatClampNeg ((16 * v1) + v4)) (g5 7 (Int32.toNatClampNeg ((16 * v2) + v4))))) (fun r16 g17 => rec (v4 + 1) v3 v1 v2 g17))))))))
def fR_merge_L12 : Nat → Int32 → Int32 → Int32 → Int32 → fl_G → Option ((Int32) × fl_G)
  | 0, _, _, _, _, _ => none
  | n + 1, v4, v3, v1, v2, g => fR_merge_B12 (fR_merge_L12 n) v4 v3 v1 v2 g
def fR_merge_B122 (rec : Int32 → Int32 → Int32 → Int32 → fl_G → Option ((Int32) × fl_G)) (v4 : Int32) (v3 : Int32) (v1 : Int32) (v2 : Int32) (g : fl_G) : Option ((Int32) × fl_G) :=
  if 24 ≤ v4 then (some (v4, g)) else (fl_ck (fl_in v4 24) (if (g 3 (Int32.toNatClampNeg v4)) = v2 then (fl_ck (fl_in v4 24) (rec (v4 + 1) v3 v1 v2 (fl_up g 3 (Int32.toNatClampNeg v4) v1))) else (fl_ck (fl_in v4 24) (fl_ck (fl_in v4 24) (rec (v4 + 1) v3 v1 v2 (fl_up g 3 (Int32.toNatClampNeg v4) (g 3 (Int32.toNatClampNeg v4))))))))
def fR_merge_L122 : Nat → Int32 → Int32 → Int32 → Int32 → fl_G → Option ((Int32) × fl_G)
  | 0, _, _, _, _, _ => none
  | n + 1, v4, v3, v1, v2, g => fR_merge_B122 (fR_merge_L122 n) v4 v3 v1 v2 g
def fR_merge (a0 : Int32) (a1 : Int32) (g : fl_G) : Option (Unit × fl_G) :=
  fl_ck (fl_in a0 12) (fl_bd (fR_merge_L12 1000 0 (1 <<< ((g 5 (Int32.toNatClampNeg a0)) &&& 31)) a0 a1 g) (fun r19 g20 => fl_bd (fR_merge_L122 1000 0 (1 <<< ((g 5 (Int32.toNatClampNeg a0)) &&& 31)) a0 a1 g20) (fun r29 g30 => fl_ck (fl_in a1 12) (some ((), (fl_up g30 1 (Int32.toNatClampNeg a1) 0))))))
set_option maxHeartbeats 4000000 in
set_option maxRecDepth 100000 in
theorem cR_merge (l : Launch) (dC : Nat → ClassId) (dI : Nat → Nat → Nat) (ca : Nat → ClassId) (ad : Nat → Nat) (hI : fl_inj 14 ad) (a0 : Int32) (a1 : Int32) {g g1 : fl_G} {r : Unit} (h : fR_merge a0 a1 g = some (r, g1)) : Met l yR_merge wR_merge ({ frames := 1, cells := 0, slots := 0, locals := 20 }) (va_Pc [.ref (ad 0), .int a0, .int a1] (fl_Pre (dC, dI) al_cl 14 (rf_sh ca ad) ad (rf_ty ca) rf_ns g)) (fl_QV (dC, dI) al_cl 14 (rf_sh ca ad) ad g1) 0 0 (fl_A 14 ad) := by
  refine fl_of (cc := prog_8_method_30_code) (maxL := 6) (ret := none) (by decide) rfl (Nat.le_of_ble_eq_true rfl) ?_
  intro p e s m below meth c ls hx hb hr hml hts hown hlocks hP hK hN hl
  have hown : s.vm.findClass "MeshedSpansModel" = some m.cls := hown
  have hS : va_S (fl_A 14 ad) s.heap s.heap [] := va_S.rf
  have hl : lv_has ls 6 [(0, .ref (ad 0)), (1, .int a0), (2, .int a1)] := hl
  unfold fR_merge at h
  refine lv_iconst (v := 1) hx hb dR_merge_0 (by decide) ?_
  refine lv_aload_n hx hb dR_merge_1 rfl (lv_at hl 0 rfl) ?_
  refine rf_get0 (v := .ref (ad 5)) hx hb hts rf_in0 hown hK hP (q := 0) rfl 5 (by decide) (hts _ gm_507) rfl dR_merge_2 ?_
  refine lv_iload_n hx hb dR_merge_5 rfl (lv_at hl 1 rfl) ?_
  replace h := fl_ck_some h
  obtain ⟨hi1, h⟩ := h
  refine rf_iald hx hb hK hP (q := 5) rfl hi1 dR_merge_6 ?_
  refine lv_ishl hx hb dR_merge_7 ?_
  refine lv_istore_n (lv' := [(3, .int (1 <<< ((g 5 (Int32.toNatClampNeg a0)) &&& 31))), (0, .ref (ad 0)), (1, .int a0), (2, .int a1)]) hx hb dR_merge_8 rfl hl (by decide) rfl (fun ls hl => ?_)
  refine lv_iconst (v := 0) hx hb dR_merge_9 (by decide) ?_
  refine lv_istore (lv' := [(4, .int 0), (3, .int (1 <<< ((g 5 (Int32.toNatClampNeg a0)) &&& 31))), (0, .ref (ad 0)), (1, .int a0), (2, .int a1)]) hx hb dR_merge_10 hl (by decide) rfl (fun ls hl => ?_)
  have loop2 : ∀ (n : Nat) (v4 : Int32) (v3 : Int32) (v1 : Int32) (v2 : Int32) (g : fl_G) (z : ((Int32) × fl_G)) (H : Heap) (locs : List Loc) (ls : Array Slot), fR_merge_L12 n v4 v3 v1 v2 g = some z → va_P (dC, dI) al_cl (fl_ws 14 (rf_sh ca ad) ad g) H → va_S (fl_A 14 ad) s.heap H locs → lv_has ls 6 [(4, .int v4), (3, .int v3), (0, .ref (ad 0)), (1, .int v1), (2, .int v2)] → (∀ (H : Heap) (locs : List Loc) (ls : Array Slot), va_P (dC, dI) al_cl (fl_ws 14 (rf_sh ca ad) ad z.2) H → va_S (fl_A 14 ad) s.heap H locs → lv_has ls 6 [(4, .int z.1), (3, .int v3), (0, .ref (ad 0)), (1, .int v1), (2, .int v2)] → W p l e ({ frames := 1, cells := 0, slots := 0, locals := 20 }) s m ([.ref (ad 0), .int a0, .int a1] : List Value).toArray below meth c H locs 0 0 (MQ below (fl_QV (dC, dI) al_cl 14 (rf_sh ca ad) ad g1) ([.ref (ad 0), .int a0, .int a1] : List Value).toArray s 0 0 (fl_A 14 ad)) (F0 m 119 ls [])) → W p l e ({ frames := 1, cells := 0, slots := 0, locals := 20 }) s m ([.ref (ad 0), .int a0, .int a1] : List Value).toArray below meth c H locs 0 0 (MQ below (fl_QV (dC, dI) al_cl 14 (rf_sh ca ad) ad g1) ([.ref (ad 0), .int a0, .int a1] : List Value).toArray s 0 0 (fl_A 14 ad)) (F0 m 12 ls []) := by
    intro n
    clear h hP hS hl
    induction n with
    | zero => intro v4 v3 v1 v2 g z H locs ls h; cases h
    | succ n ih2 =>
      intro v4 v3 v1 v2 g z H locs ls h hP hS hl K2
      have h : fR_merge_B12 (fR_merge_L12 n) v4 v3 v1 v2 g = some z := h
      unfold fR_merge_B12 at h
      refine lv_iload hx hb dR_merge_12 (lv_at hl 0 rfl) ?_
      refine lv_aload_n hx hb dR_merge_14 rfl (lv_at hl 2 rfl) ?_
      refine rf_get0 (v := .ref (ad 5)) hx hb hts rf_in0 hown hK hP (q := 0) rfl 5 (by decide) (hts _ gm_507) rfl dR_merge_15 ?_
      refine lv_iload_n hx hb dR_merge_18 rfl (lv_at hl 3 rfl) ?_
      replace h := fl_ck_some h
      obtain ⟨hi3, h⟩ := h
      refine rf_iald hx hb hK hP (q := 5) rfl hi3 dR_merge_19 ?_
      replace h := fl_bd_some h
      obtain ⟨r4, g5, hc6, h⟩ := h
      refine fl_calli (va_runS (As := [.int (g 5 (Int32.toNatClampNeg v1))]) (rest := [.int v4]) ⟨hx, hb, hml, hown, hts⟩ (cR_cells l dC dI ca ad hI (g 5 (Int32.toNatClampNeg v1)) hc6) (kR_cells hts (hts _ gm_590) ⟨Nat.le_of_ble_eq_true rfl, Nat.le_of_ble_eq_true rfl⟩) (fl_preS hK hP hN) rfl rfl hl.1 rfl (lv_room (Nat.le_of_ble_eq_true rfl)) dR_merge_20 ⟨Nat.le_refl 0, Nat.le_refl 0⟩) hS (fun H locs hP hS => ?_)
      refine lv_icmp_ge (tgt := 119) hx hb dR_merge_23 (by decide) (fun c7 => ?_) (fun c7 => ?_)
      · replace h := fl_pos c7 h
        cases h
        exact K2 _ _ _ hP hS (lv_sub hl [0, 1, 2, 3, 4] rfl)
      · replace h := fl_neg c7 h
        refine lv_aload_n hx hb dR_merge_26 rfl (lv_at hl 2 rfl) ?_
        refine rf_get0 (v := .ref (ad 7)) hx hb hts rf_in0 hown hK hP (q := 0) rfl 7 (by decide) (hts _ gm_509) rfl dR_merge_27 ?_
        refine lv_bipush (v := 16) hx hb dR_merge_30 (by decide) ?_
        refine lv_iload_n hx hb dR_merge_32 rfl (lv_at hl 4 rfl) ?_
        refine lv_imul hx hb dR_merge_33 ?_
        refine lv_iload hx hb dR_merge_34 (lv_at hl 0 rfl) ?_
        refine lv_iadd hx hb dR_merge_36 ?_
        replace h := fl_ck_some h
        obtain ⟨hi8, h⟩ := h
        refine rf_iald hx hb hK hP (q := 7) rfl hi8 dR_merge_37 ?_
        refine lv_iconst (v := (-1)) hx hb dR_merge_38 (by decide) ?_
        refine lv_icmp_eq (tgt := 113) hx hb dR_merge_39 (by decide) (fun c9 => ?_) (fun c9 => ?_)
        · replace h := fl_pos c9 h
          refine lv_iinc (v := (v4 + 1)) (lv' := [(4, .int (v4 + 1)), (3, .int v3), (0, .ref (ad 0)), (1, .int v1), (2, .int v2)]) hx hb dR_merge_113 hl (k := 0) rfl rfl (by decide) rfl (fun ls hl => ?_)
          refine lv_goto (tgt := 12) hx hb dR_merge_116 (by decide) ?_
          exact ih2 (v4 + 1) v3 v1 v2 _ _ _ _ _ h hP hS (lv_sub hl [0, 1, 2, 3, 4] rfl) K2
        · replace h := fl_neg c9 h
          refine lv_aload_n hx hb dR_merge_42 rfl (lv_at hl 2 rfl) ?_
          refine rf_get0 (v := .ref (ad 7)) hx hb hts rf_in0 hown hK hP (q := 0) rfl 7 (by decide) (hts _ gm_509) rfl dR_merge_43 ?_
          refine lv_bipush (v := 16) hx hb dR_merge_46 (by decide) ?_
          refine lv_iload_n hx hb dR_merge_48 rfl (lv_at hl 3 rfl) ?_
          refine lv_imul hx hb dR_merge_49 ?_
          refine lv_iload hx hb dR_merge_50 (lv_at hl 0 rfl) ?_
          refine lv_iadd hx hb dR_merge_52 ?_
          refine lv_aload_n hx hb dR_merge_53 rfl (lv_at hl 2 rfl) ?_
          refine rf_get0 (v := .ref (ad 7)) hx hb hts rf_in0 hown hK hP (q := 0) rfl 7 (by decide) (hts _ gm_509) rfl dR_merge_54 ?_
          refine lv_bipush (v := 16) hx hb dR_merge_57 (by decide) ?_
          refine lv_iload_n hx hb dR_merge_59 rfl (lv_at hl 4 rfl) ?_
          refine lv_imul hx hb dR_merge_60 ?_
          refine lv_iload hx hb dR_merge_61 (lv_at hl 0 rfl) ?_
          refine lv_iadd hx hb dR_merge_63 ?_
          replace h := fl_ck_some h
          obtain ⟨hi10, h⟩ := h
          refine rf_iald hx hb hK hP (q := 7) rfl hi10 dR_merge_64 ?_
          replace h := fl_ck_some h
          obtain ⟨hi11, h⟩ := h
          refine rf_iast hx hb hK hP hI hS (q := 7) rfl hi11 dR_merge_65 (fun H locs hP hS => ?_)
          have hP : va_P (dC, dI) al_cl (fl_ws 14 (rf_sh ca ad) ad (fl_up g5 7 (Int32.toNatClampNeg ((16 * v1) + v4)) (g5 7 (Int32.toNatClampNeg ((16 * v2) + v4))))) H := hP
          refine lv_iload hx hb dR_merge_66 (lv_at hl 0 rfl) ?_
          refine lv_iload_n hx hb dR_merge_68 rfl (lv_at hl 1 rfl) ?_
          refine lv_imul hx hb dR_merge_69 ?_
          refine lv_istore (lv' := [(5, .int (v4 * v3)), (4, .int v4), (3, .int v3), (0, .ref (ad 0)), (1, .int v1), (2, .int v2)]) hx hb dR_merge_70 hl (by decide) rfl (fun ls hl => ?_)
          have loop12 : ∀ (n : Nat) (v5 : Int32) (v4 : Int32) (v3 : Int32) (v1 : Int32) (v2 : Int32) (g : fl_G) (z : ((Int32) × fl_G)) (H : Heap) (locs : List Loc) (ls : Array Slot), fR_merge_L72 n v5 v4 v3 v1 v2 g = some z → va_P (dC, dI) al_cl (fl_ws 14 (rf_sh ca ad) ad g) H → va_S (fl_A 14 ad) s.heap H locs → lv_has ls 6 [(5, .int v5), (4, .int v4), (3, .int v3), (0, .ref (ad 0)), (1, .int v1), (2, .int v2)] → (∀ (H : Heap) (locs : List Loc) (ls : Array Slot), va_P (dC, dI) al_cl (fl_ws 14 (rf_sh ca ad) ad z.2) H → va_S (fl_A 14 ad) s.heap H locs → lv_has ls 6 [(5, .int z.1), (4, .int v4), (3, .int v3), (0, .ref (ad 0)), (1, .int v1), (2, .int v2)] → W p l e ({ frames := 1, cells := 0, slots := 0, locals := 20 }) s m ([.ref (ad 0), .int a0, .int a1] : List Value).toArray below meth c H locs 0 0 (MQ below (fl_QV (dC, dI) al_cl 14 (rf_sh ca ad) ad g1) ([.ref (ad 0), .int a0, .int a1] : List Value).toArray s 0 0 (fl_A 14 ad)) (F0 m 113 ls [])) → W p l e ({ frames := 1, cells := 0, slots := 0, locals := 20 }) s m ([.ref (ad 0), .int a0, .int a1] : List Value).toArray below meth c H locs 0 0 (MQ below (fl_QV (dC, dI) al_cl 14 (rf_sh ca ad) ad g1) ([.ref (ad 0), .int a0, .int a1] : List Value).toArray s 0 0 (fl_A 14 ad)) (F0 m 72 ls []) := by
            intro n
            clear h hP hS hl
            induction n with
            | zero => intro v5 v4 v3 v1 v2 g z H locs ls h; cases h
            | succ n ih12 =>
              intro v5 v4 v3 v1 v2 g z H locs ls h hP hS hl K12
              have h : fR_merge_B72 (fR_merge_L72 n) v5 v4 v3 v1 v2 g = some z := h
              unfold fR_merge_B72 at h
              refine lv_iload hx hb dR_merge_72 (lv_at hl 0 rfl) ?_
              refine lv_iload hx hb dR_merge_74 (lv_at hl 1 rfl) ?_
              refine lv_iload_n hx hb dR_merge_76 rfl (lv_at hl 2 rfl) ?_
              refine lv_imul hx hb dR_merge_77 ?_
              refine lv_iload_n hx hb dR_merge_78 rfl (lv_at hl 2 rfl) ?_
              refine lv_iadd hx hb dR_merge_79 ?_
              refine lv_icmp_ge (tgt := 113) hx hb dR_merge_80 (by decide) (fun c13 => ?_) (fun c13 => ?_)
              · replace h := fl_pos c13 h
                cases h
                exact K12 _ _ _ hP hS (lv_sub hl [0, 1, 2, 3, 4, 5] rfl)
              · replace h := fl_neg c13 h
                refine lv_aload_n hx hb dR_merge_83 rfl (lv_at hl 3 rfl) ?_
                refine rf_get0 (v := .ref (ad 2)) hx hb hts rf_in0 hown hK hP (q := 0) rfl 2 (by decide) (hts _ gm_504) rfl dR_merge_84 ?_
                refine lv_bipush (v := 16) hx hb dR_merge_87 (by decide) ?_
                refine lv_iload_n hx hb dR_merge_89 rfl (lv_at hl 4 rfl) ?_
                refine lv_imul hx hb dR_merge_90 ?_
                refine lv_iload hx hb dR_merge_91 (lv_at hl 0 rfl) ?_
                refine lv_iadd hx hb dR_merge_93 ?_
                refine lv_aload_n hx hb dR_merge_94 rfl (lv_at hl 3 rfl) ?_
                refine rf_get0 (v := .ref (ad 2)) hx hb hts rf_in0 hown hK hP (q := 0) rfl 2 (by decide) (hts _ gm_504) rfl dR_merge_95 ?_
                refine lv_bipush (v := 16) hx hb dR_merge_98 (by decide) ?_
                refine lv_iload_n hx hb dR_merge_100 rfl (lv_at hl 5 rfl) ?_
                refine lv_imul hx hb dR_merge_101 ?_
                refine lv_iload hx hb dR_merge_102 (lv_at hl 0 rfl) ?_
                refine lv_iadd hx hb dR_merge_104 ?_
                replace h := fl_ck_some h
                obtain ⟨hi14, h⟩ := h
                refine rf_iald hx hb hK hP (q := 2) rfl hi14 dR_merge_105 ?_
                replace h := fl_ck_some h
                obtain ⟨hi15, h⟩ := h
                refine rf_iast hx hb hK hP hI hS (q := 2) rfl hi15 dR_merge_106 (fun H locs hP hS => ?_)
                have hP : va_P (dC, dI) al_cl (fl_ws 14 (rf_sh ca ad) ad (fl_up g 2 (Int32.toNatClampNeg ((16 * v1) + v5)) (g 2 (Int32.toNatClampNeg ((16 * v2) + v5))))) H := hP
                refine lv_iinc (v := (v5 + 1)) (lv' := [(5, .int (v5 + 1)), (4, .int v4), (3, .int v3), (0, .ref (ad 0)), (1, .int v1), (2, .int v2)]) hx hb dR_merge_107 hl (k := 0) rfl rfl (by decide) rfl (fun ls hl => ?_)
                refine lv_goto (tgt := 72) hx hb dR_merge_110 (by decide) ?_
                exact ih12 (v5 + 1) v4 v3 v1 v2 _ _ _ _ _ h hP hS (lv_sub hl [0, 1, 2, 3, 4, 5] rfl) K12
          obtain ⟨r16, g17, hc18, h⟩ := fl_bd_some h
          refine loop12 1000 (v4 * v3) v4 v3 v1 v2 _ (r16, g17) _ _ _ hc18 hP hS (lv_sub hl [0, 1, 2, 3, 4, 5] rfl) (fun H locs ls hP hS hl => ?_)
          have hP : va_P (dC, dI) al_cl (fl_ws 14 (rf_sh ca ad) ad g17) H := hP
          have hl : lv_has ls 6 [(5, .int r16), (4, .int v4), (3, .int v3), (0, .ref (ad 0)), (1, .int v1), (2, .int v2)] := hl
          refine lv_iinc (v := (v4 + 1)) (lv' := [(4, .int (v4 + 1)), (5, .int r16), (3, .int v3), (0, .ref (ad 0)), (1, .int v1), (2, .int v2)]) hx hb dR_merge_113 hl (k := 1) rfl rfl (by decide) rfl (fun ls hl => ?_)
          refine lv_goto (tgt := 12) hx hb dR_merge_116 (by decide) ?_
          exact ih2 (v4 + 1) v3 v1 v2 _ _ _ _ _ h hP hS (lv_sub hl [0, 2, 3, 4, 5] rfl) K2
  obtain ⟨r19, g20, hc21, h⟩ := fl_bd_some h
  refine loop2 1000 0 (1 <<< ((g 5 (Int32.toNatClampNeg a0)) &&& 31)) a0 a1 _ (r19, g20) _ _ _ hc21 hP hS (lv_sub hl [0, 1, 2, 3, 4] rfl) (fun H locs ls hP hS hl => ?_)
  have hP : va_P (dC, dI) al_cl (fl_ws 14 (rf_sh ca ad) ad g20) H := hP
  have hl : lv_has ls 6 [(4, .int r19), (3, .int (1 <<< ((g 5 (Int32.toNatClampNeg a0)) &&& 31))), (0, .ref (ad 0)), (1, .int a0), (2, .int a1)] := hl
  refine lv_iconst (v := 0) hx hb dR_merge_119 (by decide) ?_
  refine lv_istore (lv' := [(4, .int 0), (3, .int (1 <<< ((g 5 (Int32.toNatClampNeg a0)) &&& 31))), (0, .ref (ad 0)), (1, .int a0), (2, .int a1)]) hx hb dR_merge_120 hl (by decide) rfl (fun ls hl => ?_)
  have loop22 : ∀ (n : Nat) (v4 : Int32) (v3 : Int32) (v1 : Int32) (v2 : Int32) (g : fl_G) (z : ((Int32) × fl_G)) (H : Heap) (locs : List Loc) (ls : Array Slot), fR_merge_L122 n v4 v3 v1 v2 g = some z → va_P (dC, dI) al_cl (fl_ws 14 (rf_sh ca ad) ad g) H → va_S (fl_A 14 ad) s.heap H locs → lv_has ls 6 [(4, .int v4), (3, .int v3), (0, .ref (ad 0)), (1, .int v1), (2, .int v2)] → (∀ (H : Heap) (locs : List Loc) (ls : Array Slot), va_P (dC, dI) al_cl (fl_ws 14 (rf_sh ca ad) ad z.2) H → va_S (fl_A 14 ad) s.heap H locs → lv_has ls 6 [(4, .int z.1), (3, .int v3), (0, .ref (ad 0)), (1, .int v1), (2, .int v2)] → W p l e ({ frames := 1, cells := 0, slots := 0, locals := 20 }) s m ([.ref (ad 0), .int a0, .int a1] : List Value).toArray below meth c H locs 0 0 (MQ below (fl_QV (dC, dI) al_cl 14 (rf_sh ca ad) ad g1) ([.ref (ad 0), .int a0, .int a1] : List Value).toArray s 0 0 (fl_A 14 ad)) (F0 m 164 ls [])) → W p l e ({ frames := 1, cells := 0, slots := 0, locals := 20 }) s m ([.ref (ad 0), .int a0, .int a1] : List Value).toArray below meth c H locs 0 0 (MQ below (fl_QV (dC, dI) al_cl 14 (rf_sh ca ad) ad g1) ([.ref (ad 0), .int a0, .int a1] : List Value).toArray s 0 0 (fl_A 14 ad)) (F0 m 122 ls []) := by
    intro n
    clear h hP hS hl
    induction n with
    | zero => intro v4 v3 v1 v2 g z H locs ls h; cases h
    | succ n ih22 =>
      intro v4 v3 v1 v2 g z H locs ls h hP hS hl K22
      have h : fR_merge_B122 (fR_merge_L122 n) v4 v3 v1 v2 g = some z := h
      unfold fR_merge_B122 at h
      refine lv_iload hx hb dR_merge_122 (lv_at hl 0 rfl) ?_
      refine lv_bipush (v := 24) hx hb dR_merge_124 (by decide) ?_
      refine lv_icmp_ge (tgt := 164) hx hb dR_merge_126 (by decide) (fun c23 => ?_) (fun c23 => ?_)
      · replace h := fl_pos c23 h
        cases h
        exact K22 _ _ _ hP hS (lv_sub hl [0, 1, 2, 3, 4] rfl)
      · replace h := fl_neg c23 h
        refine lv_aload_n hx hb dR_merge_129 rfl (lv_at hl 2 rfl) ?_
        refine rf_get0 (v := .ref (ad 3)) hx hb hts rf_in0 hown hK hP (q := 0) rfl 3 (by decide) (hts _ gm_505) rfl dR_merge_130 ?_
        refine lv_iload hx hb dR_merge_133 (lv_at hl 0 rfl) ?_
        refine lv_aload_n hx hb dR_merge_135 rfl (lv_at hl 2 rfl) ?_
        refine rf_get0 (v := .ref (ad 3)) hx hb hts rf_in0 hown hK hP (q := 0) rfl 3 (by decide) (hts _ gm_505) rfl dR_merge_136 ?_
        refine lv_iload hx hb dR_merge_139 (lv_at hl 0 rfl) ?_
        replace h := fl_ck_some h
        obtain ⟨hi24, h⟩ := h
        refine rf_iald hx hb hK hP (q := 3) rfl hi24 dR_merge_141 ?_
        refine lv_iload_n hx hb dR_merge_142 rfl (lv_at hl 4 rfl) ?_
        refine lv_icmp_ne (tgt := 150) hx hb dR_merge_143 (by decide) (fun c25 => ?_) (fun c25 => ?_)
        · replace h := fl_neg c25 h
          refine lv_aload_n hx hb dR_merge_150 rfl (lv_at hl 2 rfl) ?_
          refine rf_get0 (v := .ref (ad 3)) hx hb hts rf_in0 hown hK hP (q := 0) rfl 3 (by decide) (hts _ gm_505) rfl dR_merge_151 ?_
          refine lv_iload hx hb dR_merge_154 (lv_at hl 0 rfl) ?_
          replace h := fl_ck_some h
          obtain ⟨hi26, h⟩ := h
          refine rf_iald hx hb hK hP (q := 3) rfl hi26 dR_merge_156 ?_
          replace h := fl_ck_some h
          obtain ⟨hi27, h⟩ := h
          refine rf_iast hx hb hK hP hI hS (q := 3) rfl hi27 dR_merge_157 (fun H locs hP hS => ?_)
          have hP : va_P (dC, dI) al_cl (fl_ws 14 (rf_sh ca ad) ad (fl_up g 3 (Int32.toNatClampNeg v4) (g 3 (Int32.toNatClampNeg v4)))) H := hP
          refine lv_iinc (v := (v4 + 1)) (lv' := [(4, .int (v4 + 1)), (3, .int v3), (0, .ref (ad 0)), (1, .int v1), (2, .int v2)]) hx hb dR_merge_158 hl (k := 0) rfl rfl (by decide) rfl (fun ls hl => ?_)
          refine lv_goto (tgt := 122) hx hb dR_merge_161 (by decide) ?_
          exact ih22 (v4 + 1) v3 v1 v2 _ _ _ _ _ h hP hS (lv_sub hl [0, 1, 2, 3, 4] rfl) K22
        · replace h := fl_pos c25 h
          refine lv_iload_n hx hb dR_merge_146 rfl (lv_at hl 3 rfl) ?_
          refine lv_goto (tgt := 157) hx hb dR_merge_147 (by decide) ?_
          replace h := fl_ck_some h
          obtain ⟨hi28, h⟩ := h
          refine rf_iast hx hb hK hP hI hS (q := 3) rfl hi28 dR_merge_157 (fun H locs hP hS => ?_)
          have hP : va_P (dC, dI) al_cl (fl_ws 14 (rf_sh ca ad) ad (fl_up g 3 (Int32.toNatClampNeg v4) v1)) H := hP
          refine lv_iinc (v := (v4 + 1)) (lv' := [(4, .int (v4 + 1)), (3, .int v3), (0, .ref (ad 0)), (1, .int v1), (2, .int v2)]) hx hb dR_merge_158 hl (k := 0) rfl rfl (by decide) rfl (fun ls hl => ?_)
          refine lv_goto (tgt := 122) hx hb dR_merge_161 (by decide) ?_
          exact ih22 (v4 + 1) v3 v1 v2 _ _ _ _ _ h hP hS (lv_sub hl [0, 1, 2, 3, 4] rfl) K22
  obtain ⟨r29, g30, hc31, h⟩ := fl_bd_some h
  refine loop22 1000 0 (1 <<< ((g 5 (Int32.toNatClampNeg a0)) &&& 31)) a0 a1 _ (r29, g30) _ _ _ hc31 hP hS (lv_sub hl [0, 1, 2, 3, 4] rfl) (fun H locs ls hP hS hl => ?_)
  have hP : va_P (dC, dI) al_cl (fl_ws 14 (rf_sh ca ad) ad g30) H := hP
  have hl : lv_has ls 6 [(4, .int r29), (3, .int (1 <<< ((g 5 (Int32.toNatClampNeg a0)) &&& 31))), (0, .ref (ad 0)), (1, .int a0), (2, .int a1)] := hl
  refine lv_aload_n hx hb dR_merge_164 rfl (lv_at hl 2 rfl) ?_
  refine rf_get0 (v := .ref (ad 1)) hx hb hts rf_in0 hown hK hP (q := 0) rfl 1 (by decide) (hts _ gm_503) rfl dR_merge_165 ?_
  refine lv_iload_n hx hb dR_merge_168 rfl (lv_at hl 4 rfl) ?_
  refine lv_iconst (v := 0) hx hb dR_merge_169 (by decide) ?_
  replace h := fl_ck_some h
  obtain ⟨hi32, h⟩ := h
  refine rf_iast hx hb hK hP hI hS (q := 1) rfl hi32 dR_merge_170 (fun H locs hP hS => ?_)
  have hP : va_P (dC, dI) al_cl (fl_ws 14 (rf_sh ca ad) ad (fl_up g30 1 (Int32.toNatClampNeg a1) 0)) H := hP
  exact fl_vret hx hb hr hlocks hP hS h dR_merge_171
def yR_candidates : MethodName := ⟨"MeshedSpansModel", "candidates", "(I)I"⟩
def wR_candidates : List Cond := .code yR_candidates prog_8_method_31_code 5 (some .int) :: gw
theorem kR_candidates {R : Room} {s : State} {args : Array Value} {own : String} {ix : Nat} (hts : ∀ w ∈ gw, w.before args s = true) (hl : (Cond.methodLink own ix yR_candidates).before args s = true) (hR : 2 + 1 ≤ R.frames ∧ 8 + (5 + 11) + 43 ≤ R.locals) : CallW R s args own "MeshedSpansModel" ix yR_candidates prog_8_method_31_code 5 (some .int) wR_candidates { frames := 2, cells := 0, slots := 0, locals := 43 } 0 0 1 := ⟨callB_of (rm := { frames := 2, cells := 0, slots := 0, locals := 43 }) 1 hts (gw_c (ct := .code yR_candidates prog_8_method_31_code 5 (some .int)) gm_650) rfl rfl rfl (hts _ gm_47) hl (by decide +kernel) hR, hts _ gm_649, hts _ gm_36⟩
theorem dR_candidates_0 : decode prog_8_method_31_code 0 = .ok (.iconst 0, 1) := by decide +kernel
theorem dR_candidates_1 : decode prog_8_method_31_code 1 = .ok (.istore_n 2, 1) := by decide +kernel
theorem dR_candidates_2 : decode prog_8_method_31_code 2 = .ok (.iconst 0, 1) := by decide +kernel
theorem dR_candidates_3 : decode prog_8_method_31_code 3 = .ok (.istore_n 3, 1) := by decide +kernel
theorem dR_candidates_4 : decode prog_8_method_31_code 4 = .ok (.iload_n 3, 1) := by decide +kernel
theorem dR_candidates_5 : decode prog_8_method_31_code 5 = .ok (.bipush 12, 2) := by decide +kernel
theorem dR_candidates_7 : decode prog_8_method_31_code 7 = .ok (.if_icmp .ge 112, 3) := by decide +kernel
theorem dR_candidates_10 : decode prog_8_method_31_code 10 = .ok (.aload_n 0, 1) := by decide +kernel
theorem dR_candidates_11 : decode prog_8_method_31_code 11 = .ok (.iload_n 3, 1) := by decide +kernel
theorem dR_candidates_12 : decode prog_8_method_31_code 12 = .ok (.iload_n 1, 1) := by decide +kernel
theorem dR_candidates_13 : decode prog_8_method_31_code 13 = .ok (.invokevirtual 60, 3) := by decide +kernel
theorem dR_candidates_16 : decode prog_8_method_31_code 16 = .ok (.ifCond .eq 97, 3) := by decide +kernel
theorem dR_candidates_19 : decode prog_8_method_31_code 19 = .ok (.aload_n 0, 1) := by decide +kernel
theorem dR_candidates_20 : decode prog_8_method_31_code 20 = .ok (.getfield 34, 3) := by decide +kernel
theorem dR_candidates_23 : decode prog_8_method_31_code 23 = .ok (.iload_n 1, 1) := by decide +kernel
theorem dR_candidates_24 : decode prog_8_method_31_code 24 = .ok (.iaload, 1) := by decide +kernel
theorem dR_candidates_25 : decode prog_8_method_31_code 25 = .ok (.iload_n 3, 1) := by decide +kernel
theorem dR_candidates_26 : decode prog_8_method_31_code 26 = .ok (.if_icmp .eq 87, 3) := by decide +kernel
theorem dR_candidates_29 : decode prog_8_method_31_code 29 = .ok (.aload_n 0, 1) := by decide +kernel
theorem dR_candidates_30 : decode prog_8_method_31_code 30 = .ok (.iload_n 3, 1) := by decide +kernel
theorem dR_candidates_31 : decode prog_8_method_31_code 31 = .ok (.invokevirtual 64, 3) := by decide +kernel
theorem dR_candidates_34 : decode prog_8_method_31_code 34 = .ok (.ifCond .le 79, 3) := by decide +kernel
theorem dR_candidates_37 : decode prog_8_method_31_code 37 = .ok (.aload_n 0, 1) := by decide +kernel
theorem dR_candidates_38 : decode prog_8_method_31_code 38 = .ok (.iload_n 3, 1) := by decide +kernel
theorem dR_candidates_39 : decode prog_8_method_31_code 39 = .ok (.invokevirtual 64, 3) := by decide +kernel
theorem dR_candidates_42 : decode prog_8_method_31_code 42 = .ok (.iload_n 1, 1) := by decide +kernel
theorem dR_candidates_43 : decode prog_8_method_31_code 43 = .ok (.invokestatic 56, 3) := by decide +kernel
theorem dR_candidates_46 : decode prog_8_method_31_code 46 = .ok (.if_icmp .ge 67, 3) := by decide +kernel
theorem dR_candidates_49 : decode prog_8_method_31_code 49 = .ok (.iload_n 2, 1) := by decide +kernel
theorem dR_candidates_50 : decode prog_8_method_31_code 50 = .ok (.istore 4, 2) := by decide +kernel
theorem dR_candidates_52 : decode prog_8_method_31_code 52 = .ok (.iload 4, 2) := by decide +kernel
theorem dR_candidates_54 : decode prog_8_method_31_code 54 = .ok (.ifCond .le 48, 3) := by decide +kernel
theorem dR_candidates_57 : decode prog_8_method_31_code 57 = .ok (.aload_n 0, 1) := by decide +kernel
theorem dR_candidates_58 : decode prog_8_method_31_code 58 = .ok (.getfield 19, 3) := by decide +kernel
theorem dR_candidates_61 : decode prog_8_method_31_code 61 = .ok (.aload_n 0, 1) := by decide +kernel
theorem dR_candidates_62 : decode prog_8_method_31_code 62 = .ok (.getfield 43, 3) := by decide +kernel
theorem dR_candidates_65 : decode prog_8_method_31_code 65 = .ok (.iload 4, 2) := by decide +kernel
theorem dR_candidates_67 : decode prog_8_method_31_code 67 = .ok (.iconst 1, 1) := by decide +kernel
theorem dR_candidates_68 : decode prog_8_method_31_code 68 = .ok (.isub, 1) := by decide +kernel
theorem dR_candidates_69 : decode prog_8_method_31_code 69 = .ok (.iaload, 1) := by decide +kernel
theorem dR_candidates_70 : decode prog_8_method_31_code 70 = .ok (.iaload, 1) := by decide +kernel
theorem dR_candidates_71 : decode prog_8_method_31_code 71 = .ok (.aload_n 0, 1) := by decide +kernel
theorem dR_candidates_72 : decode prog_8_method_31_code 72 = .ok (.getfield 19, 3) := by decide +kernel
theorem dR_candidates_75 : decode prog_8_method_31_code 75 = .ok (.iload_n 3, 1) := by decide +kernel
theorem dR_candidates_76 : decode prog_8_method_31_code 76 = .ok (.iaload, 1) := by decide +kernel
theorem dR_candidates_77 : decode prog_8_method_31_code 77 = .ok (.if_icmp .le 25, 3) := by decide +kernel
theorem dR_candidates_80 : decode prog_8_method_31_code 80 = .ok (.aload_n 0, 1) := by decide +kernel
theorem dR_candidates_81 : decode prog_8_method_31_code 81 = .ok (.getfield 43, 3) := by decide +kernel
theorem dR_candidates_84 : decode prog_8_method_31_code 84 = .ok (.iload 4, 2) := by decide +kernel
theorem dR_candidates_86 : decode prog_8_method_31_code 86 = .ok (.aload_n 0, 1) := by decide +kernel
theorem dR_candidates_87 : decode prog_8_method_31_code 87 = .ok (.getfield 43, 3) := by decide +kernel
theorem dR_candidates_90 : decode prog_8_method_31_code 90 = .ok (.iload 4, 2) := by decide +kernel
theorem dR_candidates_92 : decode prog_8_method_31_code 92 = .ok (.iconst 1, 1) := by decide +kernel
theorem dR_candidates_93 : decode prog_8_method_31_code 93 = .ok (.isub, 1) := by decide +kernel
theorem dR_candidates_94 : decode prog_8_method_31_code 94 = .ok (.iaload, 1) := by decide +kernel
theorem dR_candidates_95 : decode prog_8_method_31_code 95 = .ok (.iastore, 1) := by decide +kernel
theorem dR_candidates_96 : decode prog_8_method_31_code 96 = .ok (.iinc 4 (-1), 3) := by decide +kernel
theorem dR_candidates_99 : decode prog_8_method_31_code 99 = .ok (.goto (-47), 3) := by decide +kernel
theorem dR_candidates_102 : decode prog_8_method_31_code 102 = .ok (.aload_n 0, 1) := by decide +kernel
theorem dR_candidates_103 : decode prog_8_method_31_code 103 = .ok (.getfield 43, 3) := by decide +kernel
theorem dR_candidates_106 : decode prog_8_method_31_code 106 = .ok (.iload 4, 2) := by decide +kernel
theorem dR_candidates_108 : decode prog_8_method_31_code 108 = .ok (.iload_n 3, 1) := by decide +kernel
theorem dR_candidates_109 : decode prog_8_method_31_code 109 = .ok (.iastore, 1) := by decide +kernel
theorem dR_candidates_110 : decode prog_8_method_31_code 110 = .ok (.iinc 2 1, 3) := by decide +kernel
theorem dR_candidates_113 : decode prog_8_method_31_code 113 = .ok (.iinc 3 1, 3) := by decide +kernel
theorem dR_candidates_116 : decode prog_8_method_31_code 116 = .ok (.goto (-112), 3) := by decide +kernel
theorem dR_candidates_119 : decode prog_8_method_31_code 119 = .ok (.iload_n 2, 1) := by decide +kernel
theorem dR_candidates_120 : decode prog_8_method_31_code 120 = .ok (.ireturn, 1) := by decide +kernel
def fR_candidates_B52 (rec : Int32 → Int32 → Int32 → Int32 → fl_G → Option ((Int32) × fl_G)) (v4 : Int32) (v3 : Int32) (v2 : Int32) (v1 : Int32) (g : fl_G) : Option ((Int32) × fl_G) :=
  if v4 ≤ 0 then (some (v4, g)) else (fl_ck (fl_in (v4 - 1) 12) (fl_ck (fl_in (g 12 (Int32.toNatClampNeg (v4 - 1))) 12) (fl_ck (fl_in v3 12) (if (g 4 (Int32.toNatClampNeg (g 12 (Int32.toNatClampNeg (v4 - 1))))) ≤ (g 4 (Int32.toNatClampNeg v3)) then (some (v4, g)) else (fl_ck (fl_in (v4 - 1) 12) (fl_ck (fl_in v4 12) (rec (v4 + (-1)) v3 v2 v1 (fl_up g 12 (Int32.toNatClampNeg v4) (g 12 (Int32.toNatClampNeg (v4 - 1)))))))))))
def fR_candidates_L52 : Nat → Int32 → Int32 → Int32 → Int32 → fl_G → Option ((Int32) × fl_G)
  | 0, _, _, _, _, _ => none
  | n + 1, v4, v3, v2, v1, g => fR_candidates_B52 (fR_candidates_L52 n) v4 v3 v2 v1 g
def fR_candidates_B4 (rec : Int32 → Int32 → Int32 → fl_G → Option ((Int32 × Int32) × fl_G)) (v3 : Int32) (v2 : Int32) (v1 : Int32) (g : fl_G) : Option ((Int32 × Int32) × fl_G) :=
  if 12 ≤ v3 then (some ((v3, v2), g)) else (fl_bd (fR_isHeap v3 v1 g) (fun r3 g4 => if r3 = 0 then (rec (v3 + 1) v2 v1 g4) else (fl_ck (fl_in v1 4) (if (g4 9 (Int32.toNatClampNeg v1)) = v3 then (rec (v3 + 1) v2 v1 g4) else (fl_bd (fR_used v3 g4) (fun r9 g10 => if r9 ≤ 0 then (rec (v3 + 1) v2 v1 g10) else (fl_bd (fR_used v3 g10) (fun r13 g14 => fl_bd (fR_cells v1 g14) (fun r16 g17 => if r16 ≤ r13 then (rec (v3 + 1) v2 v1 g17) else (fl_bd (fR_candidates_L52 1000 v2 v3 v2 v1 g17) (fun r28 g29 => fl_ck (fl_in r28 12) (rec (v3 + 1) (v2 + 1) v1 (fl_up g29 12 (Int32.toNatClampNeg r28) v3)))))))))))))
def fR_candidates_L4 : Nat → Int32 → Int32 → Int32 → fl_G → Option ((Int32 × Int32) × fl_G)
  | 0, _, _, _, _ => none
  | n + 1, v3, v2, v1, g => fR_candidates_B4 (fR_candidates_L4 n) v3 v2 v1 g
def fR_candidates (a0 : Int32) (g : fl_G) : Option (Int32 × fl_G) :=
  fl_bd (fR_candidates_L4 1000 0 0 a0 g) (fun r32 g33 => some (r32.2, g33))
set_option maxHeartbeats 4000000 in
set_option maxRecDepth 100000 in
theorem cR_candidates (l : Launch) (dC : Nat → ClassId) (dI : Nat → Nat → Nat) (ca : Nat → ClassId) (ad : Nat → Nat) (hI : fl_inj 14 ad) (a0 : Int32) {g g1 : fl_G} {r : Int32} (h : fR_candidates a0 g = some (r, g1)) : Met l yR_candidates wR_candidates ({ frames := 2, cells := 0, slots := 0, locals := 43 }) (va_Pc [.ref (ad 0), .int a0] (fl_Pre (dC, dI) al_cl 14 (rf_sh ca ad) ad (rf_ty ca) rf_ns g)) (fl_QI (dC, dI) al_cl 14 (rf_sh ca ad) ad r g1) 0 0 (fl_A 14 ad) := by
  refine fl_of (cc := prog_8_method_31_code) (maxL := 5) (ret := (some .int)) (by decide) rfl (Nat.le_of_ble_eq_true rfl) ?_
  intro p e s m below meth c ls hx hb hr hml hts hown hlocks hP hK hN hl
  have hown : s.vm.findClass "MeshedSpansModel" = some m.cls := hown
  have hS : va_S (fl_A 14 ad) s.heap s.heap [] := va_S.rf
  have hl : lv_has ls 5 [(0, .ref (ad 0)), (1, .int a0)] := hl
  unfold fR_candidates at h
  refine lv_iconst (v := 0) hx hb dR_candidates_0 (by decide) ?_
  refine lv_istore_n (lv' := [(2, .int 0), (0, .ref (ad 0)), (1, .int a0)]) hx hb dR_candidates_1 rfl hl (by decide) rfl (fun ls hl => ?_)
  refine lv_iconst (v := 0) hx hb dR_candidates_2 (by decide) ?_
  refine lv_istore_n (lv' := [(3, .int 0), (2, .int 0), (0, .ref (ad 0)), (1, .int a0)]) hx hb dR_candidates_3 rfl hl (by decide) rfl (fun ls hl => ?_)
  have loop1 : ∀ (n : Nat) (v3 : Int32) (v2 : Int32) (v1 : Int32) (g : fl_G) (z : ((Int32 × Int32) × fl_G)) (H : Heap) (locs : List Loc) (ls : Array Slot), fR_candidates_L4 n v3 v2 v1 g = some z → va_P (dC, dI) al_cl (fl_ws 14 (rf_sh ca ad) ad g) H → va_S (fl_A 14 ad) s.heap H locs → lv_has ls 5 [(3, .int v3), (2, .int v2), (0, .ref (ad 0)), (1, .int v1)] → (∀ (H : Heap) (locs : List Loc) (ls : Array Slot), va_P (dC, dI) al_cl (fl_ws 14 (rf_sh ca ad) ad z.2) H → va_S (fl_A 14 ad) s.heap H locs → lv_has ls 5 [(3, .int z.1.1), (2, .int z.1.2), (0, .ref (ad 0)), (1, .int v1)] → W p l e ({ frames := 2, cells := 0, slots := 0, locals := 43 }) s m ([.ref (ad 0), .int a0] : List Value).toArray below meth c H locs 0 0 (MQ below (fl_QI (dC, dI) al_cl 14 (rf_sh ca ad) ad r g1) ([.ref (ad 0), .int a0] : List Value).toArray s 0 0 (fl_A 14 ad)) (F0 m 119 ls [])) → W p l e ({ frames := 2, cells := 0, slots := 0, locals := 43 }) s m ([.ref (ad 0), .int a0] : List Value).toArray below meth c H locs 0 0 (MQ below (fl_QI (dC, dI) al_cl 14 (rf_sh ca ad) ad r g1) ([.ref (ad 0), .int a0] : List Value).toArray s 0 0 (fl_A 14 ad)) (F0 m 4 ls []) := by
    intro n
    clear h hP hS hl
    induction n with
    | zero => intro v3 v2 v1 g z H locs ls h; cases h
    | succ n ih1 =>
      intro v3 v2 v1 g z H locs ls h hP hS hl K1
      have h : fR_candidates_B4 (fR_candidates_L4 n) v3 v2 v1 g = some z := h
      unfold fR_candidates_B4 at h
      refine lv_iload_n hx hb dR_candidates_4 rfl (lv_at hl 0 rfl) ?_
      refine lv_bipush (v := 12) hx hb dR_candidates_5 (by decide) ?_
      refine lv_icmp_ge (tgt := 119) hx hb dR_candidates_7 (by decide) (fun c2 => ?_) (fun c2 => ?_)
      · replace h := fl_pos c2 h
        cases h
        exact K1 _ _ _ hP hS (lv_sub hl [0, 1, 2, 3] rfl)
      · replace h := fl_neg c2 h
        refine lv_aload_n hx hb dR_candidates_10 rfl (lv_at hl 2 rfl) ?_
        refine lv_iload_n hx hb dR_candidates_11 rfl (lv_at hl 0 rfl) ?_
        refine lv_iload_n hx hb dR_candidates_12 rfl (lv_at hl 3 rfl) ?_
        replace h := fl_bd_some h
        obtain ⟨r3, g4, hc5, h⟩ := h
        refine fl_calli (va_runV (As := [.int v3, .int v1]) (rest := []) ⟨hx, hb, hml, hown, hts⟩ (cR_isHeap l dC dI ca ad hI v3 v1 hc5) (kR_isHeap hts (hts _ gm_584) ⟨Nat.le_of_ble_eq_true rfl, Nat.le_of_ble_eq_true rfl⟩) (fl_preV hK hP hN (rf_lt rfl (by decide)) (rf_sh0 rfl) rfl) rfl rfl hl.1 rfl (lv_room (Nat.le_of_ble_eq_true rfl)) dR_candidates_13 ⟨Nat.le_refl 0, Nat.le_refl 0⟩) hS (fun H locs hP hS => ?_)
        refine lv_if_eq (tgt := 113) hx hb dR_candidates_16 (by decide) (fun c6 => ?_) (fun c6 => ?_)
        · replace h := fl_pos c6 h
          refine lv_iinc (v := (v3 + 1)) (lv' := [(3, .int (v3 + 1)), (2, .int v2), (0, .ref (ad 0)), (1, .int v1)]) hx hb dR_candidates_113 hl (k := 0) rfl rfl (by decide) rfl (fun ls hl => ?_)
          refine lv_goto (tgt := 4) hx hb dR_candidates_116 (by decide) ?_
          exact ih1 (v3 + 1) v2 v1 _ _ _ _ _ h hP hS (lv_sub hl [0, 1, 2, 3] rfl) K1
        · replace h := fl_neg c6 h
          refine lv_aload_n hx hb dR_candidates_19 rfl (lv_at hl 2 rfl) ?_
          refine rf_get0 (v := .ref (ad 9)) hx hb hts rf_in0 hown hK hP (q := 0) rfl 10 (by decide) (hts _ gm_512) rfl dR_candidates_20 ?_
          refine lv_iload_n hx hb dR_candidates_23 rfl (lv_at hl 3 rfl) ?_
          replace h := fl_ck_some h
          obtain ⟨hi7, h⟩ := h
          refine rf_iald hx hb hK hP (q := 9) rfl hi7 dR_candidates_24 ?_
          refine lv_iload_n hx hb dR_candidates_25 rfl (lv_at hl 0 rfl) ?_
          refine lv_icmp_eq (tgt := 113) hx hb dR_candidates_26 (by decide) (fun c8 => ?_) (fun c8 => ?_)
          · replace h := fl_pos c8 h
            refine lv_iinc (v := (v3 + 1)) (lv' := [(3, .int (v3 + 1)), (2, .int v2), (0, .ref (ad 0)), (1, .int v1)]) hx hb dR_candidates_113 hl (k := 0) rfl rfl (by decide) rfl (fun ls hl => ?_)
            refine lv_goto (tgt := 4) hx hb dR_candidates_116 (by decide) ?_
            exact ih1 (v3 + 1) v2 v1 _ _ _ _ _ h hP hS (lv_sub hl [0, 1, 2, 3] rfl) K1
          · replace h := fl_neg c8 h
            refine lv_aload_n hx hb dR_candidates_29 rfl (lv_at hl 2 rfl) ?_
            refine lv_iload_n hx hb dR_candidates_30 rfl (lv_at hl 0 rfl) ?_
            replace h := fl_bd_some h
            obtain ⟨r9, g10, hc11, h⟩ := h
            refine fl_calli (va_runV (As := [.int v3]) (rest := []) ⟨hx, hb, hml, hown, hts⟩ (cR_used l dC dI ca ad hI v3 hc11) (kR_used hts (hts _ gm_587) ⟨Nat.le_of_ble_eq_true rfl, Nat.le_of_ble_eq_true rfl⟩) (fl_preV hK hP hN (rf_lt rfl (by decide)) (rf_sh0 rfl) rfl) rfl rfl hl.1 rfl (lv_room (Nat.le_of_ble_eq_true rfl)) dR_candidates_31 ⟨Nat.le_refl 0, Nat.le_refl 0⟩) hS (fun H locs hP hS => ?_)
            refine lv_if_le (tgt := 113) hx hb dR_candidates_34 (by decide) (fun c12 => ?_) (fun c12 => ?_)
            · replace h := fl_pos c12 h
              refine lv_iinc (v := (v3 + 1)) (lv' := [(3, .int (v3 + 1)), (2, .int v2), (0, .ref (ad 0)), (1, .int v1)]) hx hb dR_candidates_113 hl (k := 0) rfl rfl (by decide) rfl (fun ls hl => ?_)
              refine lv_goto (tgt := 4) hx hb dR_candidates_116 (by decide) ?_
              exact ih1 (v3 + 1) v2 v1 _ _ _ _ _ h hP hS (lv_sub hl [0, 1, 2, 3] rfl) K1
            · replace h := fl_neg c12 h
              refine lv_aload_n hx hb dR_candidates_37 rfl (lv_at hl 2 rfl) ?_
              refine lv_iload_n hx hb dR_candidates_38 rfl (lv_at hl 0 rfl) ?_
              replace h := fl_bd_some h
              obtain ⟨r13, g14, hc15, h⟩ := h
              refine fl_calli (va_runV (As := [.int v3]) (rest := []) ⟨hx, hb, hml, hown, hts⟩ (cR_used l dC dI ca ad hI v3 hc15) (kR_used hts (hts _ gm_587) ⟨Nat.le_of_ble_eq_true rfl, Nat.le_of_ble_eq_true rfl⟩) (fl_preV hK hP hN (rf_lt rfl (by decide)) (rf_sh0 rfl) rfl) rfl rfl hl.1 rfl (lv_room (Nat.le_of_ble_eq_true rfl)) dR_candidates_39 ⟨Nat.le_refl 0, Nat.le_refl 0⟩) hS (fun H locs hP hS => ?_)
              refine lv_iload_n hx hb dR_candidates_42 rfl (lv_at hl 3 rfl) ?_
              replace h := fl_bd_some h
              obtain ⟨r16, g17, hc18, h⟩ := h
              refine fl_calli (va_runS (As := [.int v1]) (rest := [.int r13]) ⟨hx, hb, hml, hown, hts⟩ (cR_cells l dC dI ca ad hI v1 hc18) (kR_cells hts (hts _ gm_590) ⟨Nat.le_of_ble_eq_true rfl, Nat.le_of_ble_eq_true rfl⟩) (fl_preS hK hP hN) rfl rfl hl.1 rfl (lv_room (Nat.le_of_ble_eq_true rfl)) dR_candidates_43 ⟨Nat.le_refl 0, Nat.le_refl 0⟩) hS (fun H locs hP hS => ?_)
              refine lv_icmp_ge (tgt := 113) hx hb dR_candidates_46 (by decide) (fun c19 => ?_) (fun c19 => ?_)
              · replace h := fl_pos c19 h
                refine lv_iinc (v := (v3 + 1)) (lv' := [(3, .int (v3 + 1)), (2, .int v2), (0, .ref (ad 0)), (1, .int v1)]) hx hb dR_candidates_113 hl (k := 0) rfl rfl (by decide) rfl (fun ls hl => ?_)
                refine lv_goto (tgt := 4) hx hb dR_candidates_116 (by decide) ?_
                exact ih1 (v3 + 1) v2 v1 _ _ _ _ _ h hP hS (lv_sub hl [0, 1, 2, 3] rfl) K1
              · replace h := fl_neg c19 h
                refine lv_iload_n hx hb dR_candidates_49 rfl (lv_at hl 1 rfl) ?_
                refine lv_istore (lv' := [(4, .int v2), (3, .int v3), (2, .int v2), (0, .ref (ad 0)), (1, .int v1)]) hx hb dR_candidates_50 hl (by decide) rfl (fun ls hl => ?_)
                have loop20 : ∀ (n : Nat) (v4 : Int32) (v3 : Int32) (v2 : Int32) (v1 : Int32) (g : fl_G) (z : ((Int32) × fl_G)) (H : Heap) (locs : List Loc) (ls : Array Slot), fR_candidates_L52 n v4 v3 v2 v1 g = some z → va_P (dC, dI) al_cl (fl_ws 14 (rf_sh ca ad) ad g) H → va_S (fl_A 14 ad) s.heap H locs → lv_has ls 5 [(4, .int v4), (3, .int v3), (2, .int v2), (0, .ref (ad 0)), (1, .int v1)] → (∀ (H : Heap) (locs : List Loc) (ls : Array Slot), va_P (dC, dI) al_cl (fl_ws 14 (rf_sh ca ad) ad z.2) H → va_S (fl_A 14 ad) s.heap H locs → lv_has ls 5 [(4, .int z.1), (3, .int v3), (2, .int v2), (0, .ref (ad 0)), (1, .int v1)] → W p l e ({ frames := 2, cells := 0, slots := 0, locals := 43 }) s m ([.ref (ad 0), .int a0] : List Value).toArray below meth c H locs 0 0 (MQ below (fl_QI (dC, dI) al_cl 14 (rf_sh ca ad) ad r g1) ([.ref (ad 0), .int a0] : List Value).toArray s 0 0 (fl_A 14 ad)) (F0 m 102 ls [])) → W p l e ({ frames := 2, cells := 0, slots := 0, locals := 43 }) s m ([.ref (ad 0), .int a0] : List Value).toArray below meth c H locs 0 0 (MQ below (fl_QI (dC, dI) al_cl 14 (rf_sh ca ad) ad r g1) ([.ref (ad 0), .int a0] : List Value).toArray s 0 0 (fl_A 14 ad)) (F0 m 52 ls []) := by
                  intro n
                  clear h hP hS hl
                  induction n with
                  | zero => intro v4 v3 v2 v1 g z H locs ls h; cases h
                  | succ n ih20 =>
                    intro v4 v3 v2 v1 g z H locs ls h hP hS hl K20
                    have h : fR_candidates_B52 (fR_candidates_L52 n) v4 v3 v2 v1 g = some z := h
                    unfold fR_candidates_B52 at h
                    refine lv_iload hx hb dR_candidates_52 (lv_at hl 0 rfl) ?_
                    refine lv_if_le (tgt := 102) hx hb dR_candidates_54 (by decide) (fun c21 => ?_) (fun c21 => ?_)
                    · replace h := fl_pos c21 h
                      cases h
                      exact K20 _ _ _ hP hS (lv_sub hl [0, 1, 2, 3, 4] rfl)
                    · replace h := fl_neg c21 h
                      refine lv_aload_n hx hb dR_candidates_57 rfl (lv_at hl 3 rfl) ?_
                      refine rf_get0 (v := .ref (ad 4)) hx hb hts rf_in0 hown hK hP (q := 0) rfl 4 (by decide) (hts _ gm_506) rfl dR_candidates_58 ?_
                      refine lv_aload_n hx hb dR_candidates_61 rfl (lv_at hl 3 rfl) ?_
                      refine rf_get0 (v := .ref (ad 12)) hx hb hts rf_in0 hown hK hP (q := 0) rfl 14 (by decide) (hts _ gm_516) rfl dR_candidates_62 ?_
                      refine lv_iload hx hb dR_candidates_65 (lv_at hl 0 rfl) ?_
                      refine lv_iconst (v := 1) hx hb dR_candidates_67 (by decide) ?_
                      refine lv_isub hx hb dR_candidates_68 ?_
                      replace h := fl_ck_some h
                      obtain ⟨hi22, h⟩ := h
                      refine rf_iald hx hb hK hP (q := 12) rfl hi22 dR_candidates_69 ?_
                      replace h := fl_ck_some h
                      obtain ⟨hi23, h⟩ := h
                      refine rf_iald hx hb hK hP (q := 4) rfl hi23 dR_candidates_70 ?_
                      refine lv_aload_n hx hb dR_candidates_71 rfl (lv_at hl 3 rfl) ?_
                      refine rf_get0 (v := .ref (ad 4)) hx hb hts rf_in0 hown hK hP (q := 0) rfl 4 (by decide) (hts _ gm_506) rfl dR_candidates_72 ?_
                      refine lv_iload_n hx hb dR_candidates_75 rfl (lv_at hl 1 rfl) ?_
                      replace h := fl_ck_some h
                      obtain ⟨hi24, h⟩ := h
                      refine rf_iald hx hb hK hP (q := 4) rfl hi24 dR_candidates_76 ?_
                      refine lv_icmp_le (tgt := 102) hx hb dR_candidates_77 (by decide) (fun c25 => ?_) (fun c25 => ?_)
                      · replace h := fl_pos c25 h
                        cases h
                        exact K20 _ _ _ hP hS (lv_sub hl [0, 1, 2, 3, 4] rfl)
                      · replace h := fl_neg c25 h
                        refine lv_aload_n hx hb dR_candidates_80 rfl (lv_at hl 3 rfl) ?_
                        refine rf_get0 (v := .ref (ad 12)) hx hb hts rf_in0 hown hK hP (q := 0) rfl 14 (by decide) (hts _ gm_516) rfl dR_candidates_81 ?_
                        refine lv_iload hx hb dR_candidates_84 (lv_at hl 0 rfl) ?_
                        refine lv_aload_n hx hb dR_candidates_86 rfl (lv_at hl 3 rfl) ?_
                        refine rf_get0 (v := .ref (ad 12)) hx hb hts rf_in0 hown hK hP (q := 0) rfl 14 (by decide) (hts _ gm_516) rfl dR_candidates_87 ?_
                        refine lv_iload hx hb dR_candidates_90 (lv_at hl 0 rfl) ?_
                        refine lv_iconst (v := 1) hx hb dR_candidates_92 (by decide) ?_
                        refine lv_isub hx hb dR_candidates_93 ?_
                        replace h := fl_ck_some h
                        obtain ⟨hi26, h⟩ := h
                        refine rf_iald hx hb hK hP (q := 12) rfl hi26 dR_candidates_94 ?_
                        replace h := fl_ck_some h
                        obtain ⟨hi27, h⟩ := h
                        refine rf_iast hx hb hK hP hI hS (q := 12) rfl hi27 dR_candidates_95 (fun H locs hP hS => ?_)
                        have hP : va_P (dC, dI) al_cl (fl_ws 14 (rf_sh ca ad) ad (fl_up g 12 (Int32.toNatClampNeg v4) (g 12 (Int32.toNatClampNeg (v4 - 1))))) H := hP
                        refine lv_iinc (v := (v4 + (-1))) (lv' := [(4, .int (v4 + (-1))), (3, .int v3), (2, .int v2), (0, .ref (ad 0)), (1, .int v1)]) hx hb dR_candidates_96 hl (k := 0) rfl rfl (by decide) rfl (fun ls hl => ?_)
                        refine lv_goto (tgt := 52) hx hb dR_candidates_99 (by decide) ?_
                        exact ih20 (v4 + (-1)) v3 v2 v1 _ _ _ _ _ h hP hS (lv_sub hl [0, 1, 2, 3, 4] rfl) K20
                obtain ⟨r28, g29, hc30, h⟩ := fl_bd_some h
                refine loop20 1000 v2 v3 v2 v1 _ (r28, g29) _ _ _ hc30 hP hS (lv_sub hl [0, 1, 2, 3, 4] rfl) (fun H locs ls hP hS hl => ?_)
                have hP : va_P (dC, dI) al_cl (fl_ws 14 (rf_sh ca ad) ad g29) H := hP
                have hl : lv_has ls 5 [(4, .int r28), (3, .int v3), (2, .int v2), (0, .ref (ad 0)), (1, .int v1)] := hl
                refine lv_aload_n hx hb dR_candidates_102 rfl (lv_at hl 3 rfl) ?_
                refine rf_get0 (v := .ref (ad 12)) hx hb hts rf_in0 hown hK hP (q := 0) rfl 14 (by decide) (hts _ gm_516) rfl dR_candidates_103 ?_
                refine lv_iload hx hb dR_candidates_106 (lv_at hl 0 rfl) ?_
                refine lv_iload_n hx hb dR_candidates_108 rfl (lv_at hl 1 rfl) ?_
                replace h := fl_ck_some h
                obtain ⟨hi31, h⟩ := h
                refine rf_iast hx hb hK hP hI hS (q := 12) rfl hi31 dR_candidates_109 (fun H locs hP hS => ?_)
                have hP : va_P (dC, dI) al_cl (fl_ws 14 (rf_sh ca ad) ad (fl_up g29 12 (Int32.toNatClampNeg r28) v3)) H := hP
                refine lv_iinc (v := (v2 + 1)) (lv' := [(2, .int (v2 + 1)), (4, .int r28), (3, .int v3), (0, .ref (ad 0)), (1, .int v1)]) hx hb dR_candidates_110 hl (k := 2) rfl rfl (by decide) rfl (fun ls hl => ?_)
                refine lv_iinc (v := (v3 + 1)) (lv' := [(3, .int (v3 + 1)), (2, .int (v2 + 1)), (4, .int r28), (0, .ref (ad 0)), (1, .int v1)]) hx hb dR_candidates_113 hl (k := 2) rfl rfl (by decide) rfl (fun ls hl => ?_)
                refine lv_goto (tgt := 4) hx hb dR_candidates_116 (by decide) ?_
                exact ih1 (v3 + 1) (v2 + 1) v1 _ _ _ _ _ h hP hS (lv_sub hl [0, 1, 3, 4] rfl) K1
  obtain ⟨r32, g33, hc34, h⟩ := fl_bd_some h
  refine loop1 1000 0 0 a0 _ (r32, g33) _ _ _ hc34 hP hS (lv_sub hl [0, 1, 2, 3] rfl) (fun H locs ls hP hS hl => ?_)
  have hP : va_P (dC, dI) al_cl (fl_ws 14 (rf_sh ca ad) ad g33) H := hP
  have hl : lv_has ls 5 [(3, .int r32.1), (2, .int r32.2), (0, .ref (ad 0)), (1, .int a0)] := hl
  refine lv_iload_n hx hb dR_candidates_119 rfl (lv_at hl 1 rfl) ?_
  exact fl_iret hx hb hr hlocks hP hS h dR_candidates_120
def yR_probe : MethodName := ⟨"MeshedSpansModel", "probe", "(II)Z"⟩
def wR_probe : List Cond := .code yR_probe prog_8_method_33_code 5 (some .boolean) :: gw
theorem kR_probe {R : Room} {s : State} {args : Array Value} {own : String} {ix : Nat} (hts : ∀ w ∈ gw, w.before args s = true) (hl : (Cond.methodLink own ix yR_probe).before args s = true) (hR : 2 + 1 ≤ R.frames ∧ 8 + (5 + 11) + 45 ≤ R.locals) : CallW R s args own "MeshedSpansModel" ix yR_probe prog_8_method_33_code 5 (some .boolean) wR_probe { frames := 2, cells := 0, slots := 0, locals := 45 } 0 0 2 := ⟨callB_of (rm := { frames := 2, cells := 0, slots := 0, locals := 45 }) 2 hts (gw_c (ct := .code yR_probe prog_8_method_33_code 5 (some .boolean)) gm_653) rfl rfl rfl (hts _ gm_47) hl (by decide +kernel) hR, hts _ gm_652, hts _ gm_37⟩
theorem dR_probe_0 : decode prog_8_method_33_code 0 = .ok (.aload_n 0, 1) := by decide +kernel
theorem dR_probe_1 : decode prog_8_method_33_code 1 = .ok (.dup, 1) := by decide +kernel
theorem dR_probe_2 : decode prog_8_method_33_code 2 = .ok (.getfield 138, 3) := by decide +kernel
theorem dR_probe_5 : decode prog_8_method_33_code 5 = .ok (.iconst 1, 1) := by decide +kernel
theorem dR_probe_6 : decode prog_8_method_33_code 6 = .ok (.iadd, 1) := by decide +kernel
theorem dR_probe_7 : decode prog_8_method_33_code 7 = .ok (.putfield 138, 3) := by decide +kernel
theorem dR_probe_10 : decode prog_8_method_33_code 10 = .ok (.aload_n 0, 1) := by decide +kernel
theorem dR_probe_11 : decode prog_8_method_33_code 11 = .ok (.getfield 43, 3) := by decide +kernel
theorem dR_probe_14 : decode prog_8_method_33_code 14 = .ok (.iload_n 1, 1) := by decide +kernel
theorem dR_probe_15 : decode prog_8_method_33_code 15 = .ok (.iaload, 1) := by decide +kernel
theorem dR_probe_16 : decode prog_8_method_33_code 16 = .ok (.istore_n 3, 1) := by decide +kernel
theorem dR_probe_17 : decode prog_8_method_33_code 17 = .ok (.aload_n 0, 1) := by decide +kernel
theorem dR_probe_18 : decode prog_8_method_33_code 18 = .ok (.getfield 43, 3) := by decide +kernel
theorem dR_probe_21 : decode prog_8_method_33_code 21 = .ok (.iload_n 2, 1) := by decide +kernel
theorem dR_probe_22 : decode prog_8_method_33_code 22 = .ok (.iaload, 1) := by decide +kernel
theorem dR_probe_23 : decode prog_8_method_33_code 23 = .ok (.istore 4, 2) := by decide +kernel
theorem dR_probe_25 : decode prog_8_method_33_code 25 = .ok (.aload_n 0, 1) := by decide +kernel
theorem dR_probe_26 : decode prog_8_method_33_code 26 = .ok (.iload_n 3, 1) := by decide +kernel
theorem dR_probe_27 : decode prog_8_method_33_code 27 = .ok (.iload 4, 2) := by decide +kernel
theorem dR_probe_29 : decode prog_8_method_33_code 29 = .ok (.invokevirtual 147, 3) := by decide +kernel
theorem dR_probe_32 : decode prog_8_method_33_code 32 = .ok (.ifCond .eq 5, 3) := by decide +kernel
theorem dR_probe_35 : decode prog_8_method_33_code 35 = .ok (.iconst 0, 1) := by decide +kernel
theorem dR_probe_36 : decode prog_8_method_33_code 36 = .ok (.ireturn, 1) := by decide +kernel
theorem dR_probe_37 : decode prog_8_method_33_code 37 = .ok (.aload_n 0, 1) := by decide +kernel
theorem dR_probe_38 : decode prog_8_method_33_code 38 = .ok (.getfield 46, 3) := by decide +kernel
theorem dR_probe_41 : decode prog_8_method_33_code 41 = .ok (.iload_n 1, 1) := by decide +kernel
theorem dR_probe_42 : decode prog_8_method_33_code 42 = .ok (.iconst 1, 1) := by decide +kernel
theorem dR_probe_43 : decode prog_8_method_33_code 43 = .ok (.bastore, 1) := by decide +kernel
theorem dR_probe_44 : decode prog_8_method_33_code 44 = .ok (.aload_n 0, 1) := by decide +kernel
theorem dR_probe_45 : decode prog_8_method_33_code 45 = .ok (.getfield 46, 3) := by decide +kernel
theorem dR_probe_48 : decode prog_8_method_33_code 48 = .ok (.iload_n 2, 1) := by decide +kernel
theorem dR_probe_49 : decode prog_8_method_33_code 49 = .ok (.iconst 1, 1) := by decide +kernel
theorem dR_probe_50 : decode prog_8_method_33_code 50 = .ok (.bastore, 1) := by decide +kernel
theorem dR_probe_51 : decode prog_8_method_33_code 51 = .ok (.aload_n 0, 1) := by decide +kernel
theorem dR_probe_52 : decode prog_8_method_33_code 52 = .ok (.iload_n 3, 1) := by decide +kernel
theorem dR_probe_53 : decode prog_8_method_33_code 53 = .ok (.invokevirtual 64, 3) := by decide +kernel
theorem dR_probe_56 : decode prog_8_method_33_code 56 = .ok (.aload_n 0, 1) := by decide +kernel
theorem dR_probe_57 : decode prog_8_method_33_code 57 = .ok (.iload 4, 2) := by decide +kernel
theorem dR_probe_59 : decode prog_8_method_33_code 59 = .ok (.invokevirtual 64, 3) := by decide +kernel
theorem dR_probe_62 : decode prog_8_method_33_code 62 = .ok (.if_icmp .lt 13, 3) := by decide +kernel
theorem dR_probe_65 : decode prog_8_method_33_code 65 = .ok (.aload_n 0, 1) := by decide +kernel
theorem dR_probe_66 : decode prog_8_method_33_code 66 = .ok (.iload_n 3, 1) := by decide +kernel
theorem dR_probe_67 : decode prog_8_method_33_code 67 = .ok (.iload 4, 2) := by decide +kernel
theorem dR_probe_69 : decode prog_8_method_33_code 69 = .ok (.invokevirtual 150, 3) := by decide +kernel
theorem dR_probe_72 : decode prog_8_method_33_code 72 = .ok (.goto 10, 3) := by decide +kernel
theorem dR_probe_75 : decode prog_8_method_33_code 75 = .ok (.aload_n 0, 1) := by decide +kernel
theorem dR_probe_76 : decode prog_8_method_33_code 76 = .ok (.iload 4, 2) := by decide +kernel
theorem dR_probe_78 : decode prog_8_method_33_code 78 = .ok (.iload_n 3, 1) := by decide +kernel
theorem dR_probe_79 : decode prog_8_method_33_code 79 = .ok (.invokevirtual 150, 3) := by decide +kernel
theorem dR_probe_82 : decode prog_8_method_33_code 82 = .ok (.iconst 1, 1) := by decide +kernel
theorem dR_probe_83 : decode prog_8_method_33_code 83 = .ok (.ireturn, 1) := by decide +kernel
def fR_probe (a0 : Int32) (a1 : Int32) (g : fl_G) : Option (Int32 × fl_G) :=
  fl_ck (fl_in a0 12) (fl_ck (fl_in a1 12) (fl_bd (fR_meets ((fl_up g 0 13 ((g 0 13) + 1)) 12 (Int32.toNatClampNeg a0)) ((fl_up g 0 13 ((g 0 13) + 1)) 12 (Int32.toNatClampNeg a1)) (fl_up g 0 13 ((g 0 13) + 1))) (fun r3 g4 => if r3 = 0 then (fl_ck (fl_in a0 12) (fl_ck (fl_in a1 12) (fl_bd (fR_used ((fl_up g 0 13 ((g 0 13) + 1)) 12 (Int32.toNatClampNeg a0)) (fl_up (fl_up g4 13 (Int32.toNatClampNeg a0) (1 &&& 1)) 13 (Int32.toNatClampNeg a1) (1 &&& 1))) (fun r9 g10 => fl_bd (fR_used ((fl_up g 0 13 ((g 0 13) + 1)) 12 (Int32.toNatClampNeg a1)) g10) (fun r12 g13 => if r9 < r12 then (fl_bd (fR_merge ((fl_up g 0 13 ((g 0 13) + 1)) 12 (Int32.toNatClampNeg a1)) ((fl_up g 0 13 ((g 0 13) + 1)) 12 (Int32.toNatClampNeg a0)) g13) (fun r16 g17 => some (1, g17))) else (fl_bd (fR_merge ((fl_up g 0 13 ((g 0 13) + 1)) 12 (Int32.toNatClampNeg a0)) ((fl_up g 0 13 ((g 0 13) + 1)) 12 (Int32.toNatClampNeg a1)) g13) (fun r19 g20 => some (1, g20)))))))) else (some (0, g4)))))
set_option maxHeartbeats 4000000 in
set_option maxRecDepth 100000 in
theorem cR_probe (l : Launch) (dC : Nat → ClassId) (dI : Nat → Nat → Nat) (ca : Nat → ClassId) (ad : Nat → Nat) (hI : fl_inj 14 ad) (a0 : Int32) (a1 : Int32) {g g1 : fl_G} {r : Int32} (h : fR_probe a0 a1 g = some (r, g1)) : Met l yR_probe wR_probe ({ frames := 2, cells := 0, slots := 0, locals := 45 }) (va_Pc [.ref (ad 0), .int a0, .int a1] (fl_Pre (dC, dI) al_cl 14 (rf_sh ca ad) ad (rf_ty ca) rf_ns g)) (fl_QI (dC, dI) al_cl 14 (rf_sh ca ad) ad r g1) 0 0 (fl_A 14 ad) := by
  refine fl_of (cc := prog_8_method_33_code) (maxL := 5) (ret := (some .boolean)) (by decide) rfl (Nat.le_of_ble_eq_true rfl) ?_
  intro p e s m below meth c ls hx hb hr hml hts hown hlocks hP hK hN hl
  have hown : s.vm.findClass "MeshedSpansModel" = some m.cls := hown
  have hS : va_S (fl_A 14 ad) s.heap s.heap [] := va_S.rf
  have hl : lv_has ls 5 [(0, .ref (ad 0)), (1, .int a0), (2, .int a1)] := hl
  unfold fR_probe at h
  refine lv_aload_n hx hb dR_probe_0 rfl (lv_at hl 0 rfl) ?_
  refine lv_dup hx hb dR_probe_1 rfl ?_
  refine rf_get0 (v := .int (g 0 13)) hx hb hts rf_in0 hown hK hP (q := 0) rfl 13 (by decide) (hts _ gm_515) rfl dR_probe_2 ?_
  refine lv_iconst (v := 1) hx hb dR_probe_5 (by decide) ?_
  refine lv_iadd hx hb dR_probe_6 ?_
  refine rf_put0 (iv := ((g 0 13) + 1)) hx hb hts rf_in0 hown hK hP hI hS (q := 0) rfl 13 (by decide) (hts _ gm_515) rfl rfl rfl dR_probe_7 (fun H locs hP hS => ?_)
  have hP : va_P (dC, dI) al_cl (fl_ws 14 (rf_sh ca ad) ad (fl_up g 0 13 ((g 0 13) + 1))) H := hP
  refine lv_aload_n hx hb dR_probe_10 rfl (lv_at hl 0 rfl) ?_
  refine rf_get0 (v := .ref (ad 12)) hx hb hts rf_in0 hown hK hP (q := 0) rfl 14 (by decide) (hts _ gm_516) rfl dR_probe_11 ?_
  refine lv_iload_n hx hb dR_probe_14 rfl (lv_at hl 1 rfl) ?_
  replace h := fl_ck_some h
  obtain ⟨hi1, h⟩ := h
  refine rf_iald hx hb hK hP (q := 12) rfl hi1 dR_probe_15 ?_
  refine lv_istore_n (lv' := [(3, .int ((fl_up g 0 13 ((g 0 13) + 1)) 12 (Int32.toNatClampNeg a0))), (0, .ref (ad 0)), (1, .int a0), (2, .int a1)]) hx hb dR_probe_16 rfl hl (by decide) rfl (fun ls hl => ?_)
  refine lv_aload_n hx hb dR_probe_17 rfl (lv_at hl 1 rfl) ?_
  refine rf_get0 (v := .ref (ad 12)) hx hb hts rf_in0 hown hK hP (q := 0) rfl 14 (by decide) (hts _ gm_516) rfl dR_probe_18 ?_
  refine lv_iload_n hx hb dR_probe_21 rfl (lv_at hl 3 rfl) ?_
  replace h := fl_ck_some h
  obtain ⟨hi2, h⟩ := h
  refine rf_iald hx hb hK hP (q := 12) rfl hi2 dR_probe_22 ?_
  refine lv_istore (lv' := [(4, .int ((fl_up g 0 13 ((g 0 13) + 1)) 12 (Int32.toNatClampNeg a1))), (3, .int ((fl_up g 0 13 ((g 0 13) + 1)) 12 (Int32.toNatClampNeg a0))), (0, .ref (ad 0)), (1, .int a0), (2, .int a1)]) hx hb dR_probe_23 hl (by decide) rfl (fun ls hl => ?_)
  refine lv_aload_n hx hb dR_probe_25 rfl (lv_at hl 2 rfl) ?_
  refine lv_iload_n hx hb dR_probe_26 rfl (lv_at hl 1 rfl) ?_
  refine lv_iload hx hb dR_probe_27 (lv_at hl 0 rfl) ?_
  replace h := fl_bd_some h
  obtain ⟨r3, g4, hc5, h⟩ := h
  refine fl_calli (va_runV (As := [.int ((fl_up g 0 13 ((g 0 13) + 1)) 12 (Int32.toNatClampNeg a0)), .int ((fl_up g 0 13 ((g 0 13) + 1)) 12 (Int32.toNatClampNeg a1))]) (rest := []) ⟨hx, hb, hml, hown, hts⟩ (cR_meets l dC dI ca ad hI ((fl_up g 0 13 ((g 0 13) + 1)) 12 (Int32.toNatClampNeg a0)) ((fl_up g 0 13 ((g 0 13) + 1)) 12 (Int32.toNatClampNeg a1)) hc5) (kR_meets hts (hts _ gm_654) ⟨Nat.le_of_ble_eq_true rfl, Nat.le_of_ble_eq_true rfl⟩) (fl_preV hK hP hN (rf_lt rfl (by decide)) (rf_sh0 rfl) rfl) rfl rfl hl.1 rfl (lv_room (Nat.le_of_ble_eq_true rfl)) dR_probe_29 ⟨Nat.le_refl 0, Nat.le_refl 0⟩) hS (fun H locs hP hS => ?_)
  refine lv_if_eq (tgt := 37) hx hb dR_probe_32 (by decide) (fun c6 => ?_) (fun c6 => ?_)
  · replace h := fl_pos c6 h
    refine lv_aload_n hx hb dR_probe_37 rfl (lv_at hl 2 rfl) ?_
    refine rf_get0 (v := .ref (ad 13)) hx hb hts rf_in0 hown hK hP (q := 0) rfl 15 (by decide) (hts _ gm_517) rfl dR_probe_38 ?_
    refine lv_iload_n hx hb dR_probe_41 rfl (lv_at hl 3 rfl) ?_
    refine lv_iconst (v := 1) hx hb dR_probe_42 (by decide) ?_
    replace h := fl_ck_some h
    obtain ⟨hi7, h⟩ := h
    refine rf_zast hx hb hK hP hI hS (q := 13) rfl hi7 dR_probe_43 (fun H locs hP hS => ?_)
    have hP : va_P (dC, dI) al_cl (fl_ws 14 (rf_sh ca ad) ad (fl_up g4 13 (Int32.toNatClampNeg a0) (1 &&& 1))) H := hP
    refine lv_aload_n hx hb dR_probe_44 rfl (lv_at hl 2 rfl) ?_
    refine rf_get0 (v := .ref (ad 13)) hx hb hts rf_in0 hown hK hP (q := 0) rfl 15 (by decide) (hts _ gm_517) rfl dR_probe_45 ?_
    refine lv_iload_n hx hb dR_probe_48 rfl (lv_at hl 4 rfl) ?_
    refine lv_iconst (v := 1) hx hb dR_probe_49 (by decide) ?_
    replace h := fl_ck_some h
    obtain ⟨hi8, h⟩ := h
    refine rf_zast hx hb hK hP hI hS (q := 13) rfl hi8 dR_probe_50 (fun H locs hP hS => ?_)
    have hP : va_P (dC, dI) al_cl (fl_ws 14 (rf_sh ca ad) ad (fl_up (fl_up g4 13 (Int32.toNatClampNeg a0) (1 &&& 1)) 13 (Int32.toNatClampNeg a1) (1 &&& 1))) H := hP
    refine lv_aload_n hx hb dR_probe_51 rfl (lv_at hl 2 rfl) ?_
    refine lv_iload_n hx hb dR_probe_52 rfl (lv_at hl 1 rfl) ?_
    replace h := fl_bd_some h
    obtain ⟨r9, g10, hc11, h⟩ := h
    refine fl_calli (va_runV (As := [.int ((fl_up g 0 13 ((g 0 13) + 1)) 12 (Int32.toNatClampNeg a0))]) (rest := []) ⟨hx, hb, hml, hown, hts⟩ (cR_used l dC dI ca ad hI ((fl_up g 0 13 ((g 0 13) + 1)) 12 (Int32.toNatClampNeg a0)) hc11) (kR_used hts (hts _ gm_587) ⟨Nat.le_of_ble_eq_true rfl, Nat.le_of_ble_eq_true rfl⟩) (fl_preV hK hP hN (rf_lt rfl (by decide)) (rf_sh0 rfl) rfl) rfl rfl hl.1 rfl (lv_room (Nat.le_of_ble_eq_true rfl)) dR_probe_53 ⟨Nat.le_refl 0, Nat.le_refl 0⟩) hS (fun H locs hP hS => ?_)
    refine lv_aload_n hx hb dR_probe_56 rfl (lv_at hl 2 rfl) ?_
    refine lv_iload hx hb dR_probe_57 (lv_at hl 0 rfl) ?_
    replace h := fl_bd_some h
    obtain ⟨r12, g13, hc14, h⟩ := h
    refine fl_calli (va_runV (As := [.int ((fl_up g 0 13 ((g 0 13) + 1)) 12 (Int32.toNatClampNeg a1))]) (rest := [.int r9]) ⟨hx, hb, hml, hown, hts⟩ (cR_used l dC dI ca ad hI ((fl_up g 0 13 ((g 0 13) + 1)) 12 (Int32.toNatClampNeg a1)) hc14) (kR_used hts (hts _ gm_587) ⟨Nat.le_of_ble_eq_true rfl, Nat.le_of_ble_eq_true rfl⟩) (fl_preV hK hP hN (rf_lt rfl (by decide)) (rf_sh0 rfl) rfl) rfl rfl hl.1 rfl (lv_room (Nat.le_of_ble_eq_true rfl)) dR_probe_59 ⟨Nat.le_refl 0, Nat.le_refl 0⟩) hS (fun H locs hP hS => ?_)
    refine lv_icmp_lt (tgt := 75) hx hb dR_probe_62 (by decide) (fun c15 => ?_) (fun c15 => ?_)
    · replace h := fl_pos c15 h
      refine lv_aload_n hx hb dR_probe_75 rfl (lv_at hl 2 rfl) ?_
      refine lv_iload hx hb dR_probe_76 (lv_at hl 0 rfl) ?_
      refine lv_iload_n hx hb dR_probe_78 rfl (lv_at hl 1 rfl) ?_
      replace h := fl_bd_some h
      obtain ⟨r16, g17, hc18, h⟩ := h
      refine fl_callv (va_runV (As := [.int ((fl_up g 0 13 ((g 0 13) + 1)) 12 (Int32.toNatClampNeg a1)), .int ((fl_up g 0 13 ((g 0 13) + 1)) 12 (Int32.toNatClampNeg a0))]) (rest := []) ⟨hx, hb, hml, hown, hts⟩ (cR_merge l dC dI ca ad hI ((fl_up g 0 13 ((g 0 13) + 1)) 12 (Int32.toNatClampNeg a1)) ((fl_up g 0 13 ((g 0 13) + 1)) 12 (Int32.toNatClampNeg a0)) hc18) (kR_merge hts (hts _ gm_657) ⟨Nat.le_of_ble_eq_true rfl, Nat.le_of_ble_eq_true rfl⟩) (fl_preV hK hP hN (rf_lt rfl (by decide)) (rf_sh0 rfl) rfl) rfl rfl hl.1 rfl (lv_room (Nat.le_of_ble_eq_true rfl)) dR_probe_79 ⟨Nat.le_refl 0, Nat.le_refl 0⟩) hS (fun H locs hP hS => ?_)
      refine lv_iconst (v := 1) hx hb dR_probe_82 (by decide) ?_
      exact fl_zret hx hb hr hlocks hP hS (Or.inr rfl) h dR_probe_83
    · replace h := fl_neg c15 h
      refine lv_aload_n hx hb dR_probe_65 rfl (lv_at hl 2 rfl) ?_
      refine lv_iload_n hx hb dR_probe_66 rfl (lv_at hl 1 rfl) ?_
      refine lv_iload hx hb dR_probe_67 (lv_at hl 0 rfl) ?_
      replace h := fl_bd_some h
      obtain ⟨r19, g20, hc21, h⟩ := h
      refine fl_callv (va_runV (As := [.int ((fl_up g 0 13 ((g 0 13) + 1)) 12 (Int32.toNatClampNeg a0)), .int ((fl_up g 0 13 ((g 0 13) + 1)) 12 (Int32.toNatClampNeg a1))]) (rest := []) ⟨hx, hb, hml, hown, hts⟩ (cR_merge l dC dI ca ad hI ((fl_up g 0 13 ((g 0 13) + 1)) 12 (Int32.toNatClampNeg a0)) ((fl_up g 0 13 ((g 0 13) + 1)) 12 (Int32.toNatClampNeg a1)) hc21) (kR_merge hts (hts _ gm_657) ⟨Nat.le_of_ble_eq_true rfl, Nat.le_of_ble_eq_true rfl⟩) (fl_preV hK hP hN (rf_lt rfl (by decide)) (rf_sh0 rfl) rfl) rfl rfl hl.1 rfl (lv_room (Nat.le_of_ble_eq_true rfl)) dR_probe_69 ⟨Nat.le_refl 0, Nat.le_refl 0⟩) hS (fun H locs hP hS => ?_)
      refine lv_goto (tgt := 82) hx hb dR_probe_72 (by decide) ?_
      refine lv_iconst (v := 1) hx hb dR_probe_82 (by decide) ?_
      exact fl_zret hx hb hr hlocks hP hS (Or.inr rfl) h dR_probe_83
  · replace h := fl_neg c6 h
    refine lv_iconst (v := 0) hx hb dR_probe_35 (by decide) ?_
    exact fl_zret hx hb hr hlocks hP hS (Or.inl rfl) h dR_probe_36
def yR_mesh : MethodName := ⟨"MeshedSpansModel", "mesh", "(II)I"⟩
def wR_mesh : List Cond := .code yR_mesh prog_8_method_32_code 9 (some .int) :: gw
theorem kR_mesh {R : Room} {s : State} {args : Array Value} {own : String} {ix : Nat} (hts : ∀ w ∈ gw, w.before args s = true) (hl : (Cond.methodLink own ix yR_mesh).before args s = true) (hR : 3 + 1 ≤ R.frames ∧ 8 + (9 + 11) + 69 ≤ R.locals) : CallW R s args own "MeshedSpansModel" ix yR_mesh prog_8_method_32_code 9 (some .int) wR_mesh { frames := 3, cells := 0, slots := 0, locals := 69 } 0 0 2 := ⟨callB_of (rm := { frames := 3, cells := 0, slots := 0, locals := 69 }) 2 hts (gw_c (ct := .code yR_mesh prog_8_method_32_code 9 (some .int)) gm_647) rfl rfl rfl (hts _ gm_47) hl (by decide +kernel) hR, hts _ gm_645, hts _ gm_646⟩
theorem dR_mesh_0 : decode prog_8_method_32_code 0 = .ok (.iload_n 1, 1) := by decide +kernel
theorem dR_mesh_1 : decode prog_8_method_32_code 1 = .ok (.iconst 0, 1) := by decide +kernel
theorem dR_mesh_2 : decode prog_8_method_32_code 2 = .ok (.iconst 3, 1) := by decide +kernel
theorem dR_mesh_3 : decode prog_8_method_32_code 3 = .ok (.invokestatic 100, 3) := by decide +kernel
theorem dR_mesh_6 : decode prog_8_method_32_code 6 = .ok (.ifCond .eq 13, 3) := by decide +kernel
theorem dR_mesh_9 : decode prog_8_method_32_code 9 = .ok (.iload_n 2, 1) := by decide +kernel
theorem dR_mesh_10 : decode prog_8_method_32_code 10 = .ok (.iconst 1, 1) := by decide +kernel
theorem dR_mesh_11 : decode prog_8_method_32_code 11 = .ok (.bipush 16, 2) := by decide +kernel
theorem dR_mesh_13 : decode prog_8_method_32_code 13 = .ok (.invokestatic 100, 3) := by decide +kernel
theorem dR_mesh_16 : decode prog_8_method_32_code 16 = .ok (.ifCond .ne 5, 3) := by decide +kernel
theorem dR_mesh_19 : decode prog_8_method_32_code 19 = .ok (.iconst (-1), 1) := by decide +kernel
theorem dR_mesh_20 : decode prog_8_method_32_code 20 = .ok (.ireturn, 1) := by decide +kernel
theorem dR_mesh_21 : decode prog_8_method_32_code 21 = .ok (.aload_n 0, 1) := by decide +kernel
theorem dR_mesh_22 : decode prog_8_method_32_code 22 = .ok (.iconst 0, 1) := by decide +kernel
theorem dR_mesh_23 : decode prog_8_method_32_code 23 = .ok (.putfield 138, 3) := by decide +kernel
theorem dR_mesh_26 : decode prog_8_method_32_code 26 = .ok (.aload_n 0, 1) := by decide +kernel
theorem dR_mesh_27 : decode prog_8_method_32_code 27 = .ok (.iload_n 1, 1) := by decide +kernel
theorem dR_mesh_28 : decode prog_8_method_32_code 28 = .ok (.invokevirtual 141, 3) := by decide +kernel
theorem dR_mesh_31 : decode prog_8_method_32_code 31 = .ok (.istore_n 3, 1) := by decide +kernel
theorem dR_mesh_32 : decode prog_8_method_32_code 32 = .ok (.iload_n 3, 1) := by decide +kernel
theorem dR_mesh_33 : decode prog_8_method_32_code 33 = .ok (.iconst 1, 1) := by decide +kernel
theorem dR_mesh_34 : decode prog_8_method_32_code 34 = .ok (.isub, 1) := by decide +kernel
theorem dR_mesh_35 : decode prog_8_method_32_code 35 = .ok (.istore 4, 2) := by decide +kernel
theorem dR_mesh_37 : decode prog_8_method_32_code 37 = .ok (.iload 4, 2) := by decide +kernel
theorem dR_mesh_39 : decode prog_8_method_32_code 39 = .ok (.iconst 1, 1) := by decide +kernel
theorem dR_mesh_40 : decode prog_8_method_32_code 40 = .ok (.if_icmp .lt 51, 3) := by decide +kernel
theorem dR_mesh_43 : decode prog_8_method_32_code 43 = .ok (.aload_n 0, 1) := by decide +kernel
theorem dR_mesh_44 : decode prog_8_method_32_code 44 = .ok (.iload 4, 2) := by decide +kernel
theorem dR_mesh_46 : decode prog_8_method_32_code 46 = .ok (.iconst 1, 1) := by decide +kernel
theorem dR_mesh_47 : decode prog_8_method_32_code 47 = .ok (.iadd, 1) := by decide +kernel
theorem dR_mesh_48 : decode prog_8_method_32_code 48 = .ok (.invokevirtual 67, 3) := by decide +kernel
theorem dR_mesh_51 : decode prog_8_method_32_code 51 = .ok (.istore 5, 2) := by decide +kernel
theorem dR_mesh_53 : decode prog_8_method_32_code 53 = .ok (.aload_n 0, 1) := by decide +kernel
theorem dR_mesh_54 : decode prog_8_method_32_code 54 = .ok (.getfield 43, 3) := by decide +kernel
theorem dR_mesh_57 : decode prog_8_method_32_code 57 = .ok (.iload 4, 2) := by decide +kernel
theorem dR_mesh_59 : decode prog_8_method_32_code 59 = .ok (.iaload, 1) := by decide +kernel
theorem dR_mesh_60 : decode prog_8_method_32_code 60 = .ok (.istore 6, 2) := by decide +kernel
theorem dR_mesh_62 : decode prog_8_method_32_code 62 = .ok (.aload_n 0, 1) := by decide +kernel
theorem dR_mesh_63 : decode prog_8_method_32_code 63 = .ok (.getfield 43, 3) := by decide +kernel
theorem dR_mesh_66 : decode prog_8_method_32_code 66 = .ok (.iload 4, 2) := by decide +kernel
theorem dR_mesh_68 : decode prog_8_method_32_code 68 = .ok (.aload_n 0, 1) := by decide +kernel
theorem dR_mesh_69 : decode prog_8_method_32_code 69 = .ok (.getfield 43, 3) := by decide +kernel
theorem dR_mesh_72 : decode prog_8_method_32_code 72 = .ok (.iload 5, 2) := by decide +kernel
theorem dR_mesh_74 : decode prog_8_method_32_code 74 = .ok (.iaload, 1) := by decide +kernel
theorem dR_mesh_75 : decode prog_8_method_32_code 75 = .ok (.iastore, 1) := by decide +kernel
theorem dR_mesh_76 : decode prog_8_method_32_code 76 = .ok (.aload_n 0, 1) := by decide +kernel
theorem dR_mesh_77 : decode prog_8_method_32_code 77 = .ok (.getfield 43, 3) := by decide +kernel
theorem dR_mesh_80 : decode prog_8_method_32_code 80 = .ok (.iload 5, 2) := by decide +kernel
theorem dR_mesh_82 : decode prog_8_method_32_code 82 = .ok (.iload 6, 2) := by decide +kernel
theorem dR_mesh_84 : decode prog_8_method_32_code 84 = .ok (.iastore, 1) := by decide +kernel
theorem dR_mesh_85 : decode prog_8_method_32_code 85 = .ok (.iinc 4 (-1), 3) := by decide +kernel
theorem dR_mesh_88 : decode prog_8_method_32_code 88 = .ok (.goto (-51), 3) := by decide +kernel
theorem dR_mesh_91 : decode prog_8_method_32_code 91 = .ok (.iconst 0, 1) := by decide +kernel
theorem dR_mesh_92 : decode prog_8_method_32_code 92 = .ok (.istore 4, 2) := by decide +kernel
theorem dR_mesh_94 : decode prog_8_method_32_code 94 = .ok (.iload 4, 2) := by decide +kernel
theorem dR_mesh_96 : decode prog_8_method_32_code 96 = .ok (.bipush 12, 2) := by decide +kernel
theorem dR_mesh_98 : decode prog_8_method_32_code 98 = .ok (.if_icmp .ge 17, 3) := by decide +kernel
theorem dR_mesh_101 : decode prog_8_method_32_code 101 = .ok (.aload_n 0, 1) := by decide +kernel
theorem dR_mesh_102 : decode prog_8_method_32_code 102 = .ok (.getfield 46, 3) := by decide +kernel
theorem dR_mesh_105 : decode prog_8_method_32_code 105 = .ok (.iload 4, 2) := by decide +kernel
theorem dR_mesh_107 : decode prog_8_method_32_code 107 = .ok (.iconst 0, 1) := by decide +kernel
theorem dR_mesh_108 : decode prog_8_method_32_code 108 = .ok (.bastore, 1) := by decide +kernel
theorem dR_mesh_109 : decode prog_8_method_32_code 109 = .ok (.iinc 4 1, 3) := by decide +kernel
theorem dR_mesh_112 : decode prog_8_method_32_code 112 = .ok (.goto (-18), 3) := by decide +kernel
theorem dR_mesh_115 : decode prog_8_method_32_code 115 = .ok (.iload_n 3, 1) := by decide +kernel
theorem dR_mesh_116 : decode prog_8_method_32_code 116 = .ok (.iconst 2, 1) := by decide +kernel
theorem dR_mesh_117 : decode prog_8_method_32_code 117 = .ok (.idiv, 1) := by decide +kernel
theorem dR_mesh_118 : decode prog_8_method_32_code 118 = .ok (.istore 4, 2) := by decide +kernel
theorem dR_mesh_120 : decode prog_8_method_32_code 120 = .ok (.iconst 0, 1) := by decide +kernel
theorem dR_mesh_121 : decode prog_8_method_32_code 121 = .ok (.istore 5, 2) := by decide +kernel
theorem dR_mesh_123 : decode prog_8_method_32_code 123 = .ok (.iconst 0, 1) := by decide +kernel
theorem dR_mesh_124 : decode prog_8_method_32_code 124 = .ok (.istore 6, 2) := by decide +kernel
theorem dR_mesh_126 : decode prog_8_method_32_code 126 = .ok (.iload 6, 2) := by decide +kernel
theorem dR_mesh_128 : decode prog_8_method_32_code 128 = .ok (.iload_n 2, 1) := by decide +kernel
theorem dR_mesh_129 : decode prog_8_method_32_code 129 = .ok (.if_icmp .ge 87, 3) := by decide +kernel
theorem dR_mesh_132 : decode prog_8_method_32_code 132 = .ok (.iload 6, 2) := by decide +kernel
theorem dR_mesh_134 : decode prog_8_method_32_code 134 = .ok (.iload 4, 2) := by decide +kernel
theorem dR_mesh_136 : decode prog_8_method_32_code 136 = .ok (.if_icmp .ge 80, 3) := by decide +kernel
theorem dR_mesh_139 : decode prog_8_method_32_code 139 = .ok (.iconst 0, 1) := by decide +kernel
theorem dR_mesh_140 : decode prog_8_method_32_code 140 = .ok (.istore 7, 2) := by decide +kernel
theorem dR_mesh_142 : decode prog_8_method_32_code 142 = .ok (.iload 7, 2) := by decide +kernel
theorem dR_mesh_144 : decode prog_8_method_32_code 144 = .ok (.iload 4, 2) := by decide +kernel
theorem dR_mesh_146 : decode prog_8_method_32_code 146 = .ok (.if_icmp .ge 64, 3) := by decide +kernel
theorem dR_mesh_149 : decode prog_8_method_32_code 149 = .ok (.iload 4, 2) := by decide +kernel
theorem dR_mesh_151 : decode prog_8_method_32_code 151 = .ok (.iload 7, 2) := by decide +kernel
theorem dR_mesh_153 : decode prog_8_method_32_code 153 = .ok (.iload 6, 2) := by decide +kernel
theorem dR_mesh_155 : decode prog_8_method_32_code 155 = .ok (.iadd, 1) := by decide +kernel
theorem dR_mesh_156 : decode prog_8_method_32_code 156 = .ok (.iload 4, 2) := by decide +kernel
theorem dR_mesh_158 : decode prog_8_method_32_code 158 = .ok (.irem, 1) := by decide +kernel
theorem dR_mesh_159 : decode prog_8_method_32_code 159 = .ok (.iadd, 1) := by decide +kernel
theorem dR_mesh_160 : decode prog_8_method_32_code 160 = .ok (.istore 8, 2) := by decide +kernel
theorem dR_mesh_162 : decode prog_8_method_32_code 162 = .ok (.aload_n 0, 1) := by decide +kernel
theorem dR_mesh_163 : decode prog_8_method_32_code 163 = .ok (.getfield 46, 3) := by decide +kernel
theorem dR_mesh_166 : decode prog_8_method_32_code 166 = .ok (.iload 7, 2) := by decide +kernel
theorem dR_mesh_168 : decode prog_8_method_32_code 168 = .ok (.baload, 1) := by decide +kernel
theorem dR_mesh_169 : decode prog_8_method_32_code 169 = .ok (.ifCond .ne 35, 3) := by decide +kernel
theorem dR_mesh_172 : decode prog_8_method_32_code 172 = .ok (.aload_n 0, 1) := by decide +kernel
theorem dR_mesh_173 : decode prog_8_method_32_code 173 = .ok (.getfield 46, 3) := by decide +kernel
theorem dR_mesh_176 : decode prog_8_method_32_code 176 = .ok (.iload 8, 2) := by decide +kernel
theorem dR_mesh_178 : decode prog_8_method_32_code 178 = .ok (.baload, 1) := by decide +kernel
theorem dR_mesh_179 : decode prog_8_method_32_code 179 = .ok (.ifCond .ne 25, 3) := by decide +kernel
theorem dR_mesh_182 : decode prog_8_method_32_code 182 = .ok (.aload_n 0, 1) := by decide +kernel
theorem dR_mesh_183 : decode prog_8_method_32_code 183 = .ok (.iload 7, 2) := by decide +kernel
theorem dR_mesh_185 : decode prog_8_method_32_code 185 = .ok (.iload 8, 2) := by decide +kernel
theorem dR_mesh_187 : decode prog_8_method_32_code 187 = .ok (.invokevirtual 144, 3) := by decide +kernel
theorem dR_mesh_190 : decode prog_8_method_32_code 190 = .ok (.ifCond .eq 10, 3) := by decide +kernel
theorem dR_mesh_193 : decode prog_8_method_32_code 193 = .ok (.iload 5, 2) := by decide +kernel
theorem dR_mesh_195 : decode prog_8_method_32_code 195 = .ok (.iconst 1, 1) := by decide +kernel
theorem dR_mesh_196 : decode prog_8_method_32_code 196 = .ok (.iadd, 1) := by decide +kernel
theorem dR_mesh_197 : decode prog_8_method_32_code 197 = .ok (.goto 5, 3) := by decide +kernel
theorem dR_mesh_200 : decode prog_8_method_32_code 200 = .ok (.iload 5, 2) := by decide +kernel
theorem dR_mesh_202 : decode prog_8_method_32_code 202 = .ok (.istore 5, 2) := by decide +kernel
theorem dR_mesh_204 : decode prog_8_method_32_code 204 = .ok (.iinc 7 1, 3) := by decide +kernel
theorem dR_mesh_207 : decode prog_8_method_32_code 207 = .ok (.goto (-65), 3) := by decide +kernel
theorem dR_mesh_210 : decode prog_8_method_32_code 210 = .ok (.iinc 6 1, 3) := by decide +kernel
theorem dR_mesh_213 : decode prog_8_method_32_code 213 = .ok (.goto (-87), 3) := by decide +kernel
theorem dR_mesh_216 : decode prog_8_method_32_code 216 = .ok (.iload 5, 2) := by decide +kernel
theorem dR_mesh_218 : decode prog_8_method_32_code 218 = .ok (.ireturn, 1) := by decide +kernel
def fR_mesh_B37 (rec : Int32 → Int32 → Int32 → Int32 → fl_G → Option ((Int32) × fl_G)) (v4 : Int32) (v3 : Int32) (v1 : Int32) (v2 : Int32) (g : fl_G) : Option ((Int32) × fl_G) :=
  if v4 < 1 then (some (v4, g)) else (fl_bd (fR_draw (v4 + 1) g) (fun r14 g15 => fl_ck (fl_in v4 12) (fl_ck (fl_in r14 12) (fl_ck (fl_in v4 12) (fl_ck (fl_in r14 12) (rec (v4 + (-1)) v3 v1 v2 (fl_up (fl_up g15 12 (Int32.toNatClampNeg v4) (g15 12 (Int32.toNatClampNeg r14))) 12 (Int32.toNatClampNeg r14) (g15 12 (Int32.toNatClampNeg v4)))))))))
def fR_mesh_L37 : Nat → Int32 → Int32 → Int32 → Int32 → fl_G → Option ((Int32) × fl_G)
  | 0, _, _, _, _, _ => none
  | n + 1, v4, v3, v1, v2, g => fR_mesh_B37 (fR_mesh_L37 n) v4 v3 v1 v2 g
def fR_mesh_B94 (rec : Int32 → Int32 → Int32 → Int32 → fl_G → Option ((Int32) × fl_G)) (v4 : Int32) (v3 : Int32) (v1 : Int32) (v2 : Int32) (g : fl_G) : Option ((Int32) × fl_G) :=
  if 12 ≤ v4 then (some (v4, g)) else (fl_ck (fl_in v4 12) (rec (v4 + 1) v3 v1 v2 (fl_up g 13 (Int32.toNatClampNeg v4) (0 &&& 1))))
def fR_mesh_L94 : Nat → Int32 → Int32 → Int32 → Int32 → fl_G → Option ((Int32) × fl_G)
  | 0, _, _, _, _, _ => none
  | n + 1, v4, v3, v1, v2, g => fR_mesh_B94 (fR_mesh_L94 n) v4 v3 v1 v2 g
def fR_mesh_B142 (rec : Int32 → Int32 → Int32 → Int32 → Int32 → Int32 → Int32 → fl_G → Option ((Int32 × Int32) × fl_G)) (v7 : Int32) (v6 : Int32) (v5 : Int32) (v4 : Int32) (v3 : Int32) (v1 : Int32) (v2 : Int32) (g : fl_G) : Option ((Int32 × Int32) × fl_G) :=
  if v4 ≤ v7 then (some ((v7, v5), g)) else (fl_ck (¬ v4 = 0) (fl_ck (fl_in v7 12) (if (g 13 (Int32.toNatClampNeg v7)) = 0 then (fl_ck (fl_in (v4 + (fl_rem (v7 + v6) v4)) 12) (if (g 13 (Int32.toNatClampNeg (v4 + (fl_rem (v7 + v6) v4)))) = 0 then (fl_bd (fR_probe v7 (v4 + (fl_rem (v7 + v6) v4)) g) (fun r40 g41 => if r40 = 0 then (rec (v7 + 1) v6 v5 v4 v3 v1 v2 g41) else (rec (v7 + 1) v6 (v5 + 1) v4 v3 v1 v2 g41))) else (rec (v7 + 1) v6 v5 v4 v3 v1 v2 g))) else (rec (v7 + 1) v6 v5 v4 v3 v1 v2 g))))
def fR_mesh_L142 : Nat → Int32 → Int32 → Int32 → Int32 → Int32 → Int32 → Int32 → fl_G → Option ((Int32 × Int32) × fl_G)
  | 0, _, _, _, _, _, _, _, _ => none
  | n + 1, v7, v6, v5, v4, v3, v1, v2, g => fR_mesh_B142 (fR_mesh_L142 n) v7 v6 v5 v4 v3 v1 v2 g
def fR_mesh_B126 (rec : Int32 → Int32 → Int32 → Int32 → Int32 → Int32 → fl_G → Option ((Int32 × Int32) × fl_G)) (v6 : Int32) (v5 : Int32) (v4 : Int32) (v3 : Int32) (v1 : Int32) (v2 : Int32) (g : fl_G) : Option ((Int32 × Int32) × fl_G) :=
  if v2 ≤ v6 then (some ((v6, v5), g)) else (if v4 ≤ v6 then (some ((v6, v5), g)) else (fl_bd (fR_mesh_L142 1000 0 v6 v5 v4 v3 v1 v2 g) (fun r44 g45 => rec (v6 + 1) r44.2 v4 v3 v1 v2 g45)))
def fR_mesh_L126 : Nat → Int32 → Int32 → Int32 → Int32 → Int32 → Int32 → fl_G → Option ((Int32 × Int32) × fl_G)
  | 0, _, _, _, _, _, _, _ => none
  | n + 1, v6, v5, v4, v3, v1, v2, g => fR_mesh_B126 (fR_mesh_L126 n) v6 v5 v4 v3 v1 v2 g
def fR_mesh (a0 : Int32) (a1 : Int32) (g : fl_G) : Option (Int32 × fl_G) :=
  fl_bd (fR_within a0 0 3 g) (fun r1 g2 => if r1 = 0 then (some ((-1), g2)) else (fl_bd (fR_within a1 1 16 g2) (fun r5 g6 => if r5 = 0 then (some ((-1), g6)) else (fl_bd (fR_candidates a0 (fl_up g6 0 13 0)) (fun r9 g10 => fl_bd (fR_mesh_L37 1000 (r9 - 1) r9 a0 a1 g10) (fun r21 g22 => fl_bd (fR_mesh_L94 1000 0 r9 a0 a1 g22) (fun r27 g28 => fl_bd (fR_mesh_L126 1000 0 0 (r9 / 2) r9 a0 a1 g28) (fun r47 g48 => some (r47.2, g48)))))))))
set_option maxHeartbeats 4000000 in
set_option maxRecDepth 100000 in
theorem cR_mesh (l : Launch) (dC : Nat → ClassId) (dI : Nat → Nat → Nat) (ca : Nat → ClassId) (ad : Nat → Nat) (hI : fl_inj 14 ad) (a0 : Int32) (a1 : Int32) {g g1 : fl_G} {r : Int32} (h : fR_mesh a0 a1 g = some (r, g1)) : Met l yR_mesh wR_mesh ({ frames := 3, cells := 0, slots := 0, locals := 69 }) (va_Pc [.ref (ad 0), .int a0, .int a1] (fl_Pre (dC, dI) al_cl 14 (rf_sh ca ad) ad (rf_ty ca) rf_ns g)) (fl_QI (dC, dI) al_cl 14 (rf_sh ca ad) ad r g1) 0 0 (fl_A 14 ad) := by
  refine fl_of (cc := prog_8_method_32_code) (maxL := 9) (ret := (some .int)) (by decide) rfl (Nat.le_of_ble_eq_true rfl) ?_
  intro p e s m below meth c ls hx hb hr hml hts hown hlocks hP hK hN hl
  have hown : s.vm.findClass "MeshedSpansModel" = some m.cls := hown
  have hS : va_S (fl_A 14 ad) s.heap s.heap [] := va_S.rf
  have hl : lv_has ls 9 [(0, .ref (ad 0)), (1, .int a0), (2, .int a1)] := hl
  unfold fR_mesh at h
  refine lv_iload_n hx hb dR_mesh_0 rfl (lv_at hl 1 rfl) ?_
  refine lv_iconst (v := 0) hx hb dR_mesh_1 (by decide) ?_
  refine lv_iconst (v := 3) hx hb dR_mesh_2 (by decide) ?_
  replace h := fl_bd_some h
  obtain ⟨r1, g2, hc3, h⟩ := h
  refine fl_calli (va_runS (As := [.int a0, .int 0, .int 3]) (rest := []) ⟨hx, hb, hml, hown, hts⟩ (cR_within l dC dI ca ad hI a0 0 3 hc3) (kR_within hts (hts _ gm_559) ⟨Nat.le_of_ble_eq_true rfl, Nat.le_of_ble_eq_true rfl⟩) (fl_preS hK hP hN) rfl rfl hl.1 rfl (lv_room (Nat.le_of_ble_eq_true rfl)) dR_mesh_3 ⟨Nat.le_refl 0, Nat.le_refl 0⟩) hS (fun H locs hP hS => ?_)
  refine lv_if_eq (tgt := 19) hx hb dR_mesh_6 (by decide) (fun c4 => ?_) (fun c4 => ?_)
  · replace h := fl_pos c4 h
    refine lv_iconst (v := (-1)) hx hb dR_mesh_19 (by decide) ?_
    exact fl_iret hx hb hr hlocks hP hS h dR_mesh_20
  · replace h := fl_neg c4 h
    refine lv_iload_n hx hb dR_mesh_9 rfl (lv_at hl 2 rfl) ?_
    refine lv_iconst (v := 1) hx hb dR_mesh_10 (by decide) ?_
    refine lv_bipush (v := 16) hx hb dR_mesh_11 (by decide) ?_
    replace h := fl_bd_some h
    obtain ⟨r5, g6, hc7, h⟩ := h
    refine fl_calli (va_runS (As := [.int a1, .int 1, .int 16]) (rest := []) ⟨hx, hb, hml, hown, hts⟩ (cR_within l dC dI ca ad hI a1 1 16 hc7) (kR_within hts (hts _ gm_559) ⟨Nat.le_of_ble_eq_true rfl, Nat.le_of_ble_eq_true rfl⟩) (fl_preS hK hP hN) rfl rfl hl.1 rfl (lv_room (Nat.le_of_ble_eq_true rfl)) dR_mesh_13 ⟨Nat.le_refl 0, Nat.le_refl 0⟩) hS (fun H locs hP hS => ?_)
    refine lv_if_ne (tgt := 21) hx hb dR_mesh_16 (by decide) (fun c8 => ?_) (fun c8 => ?_)
    · replace h := fl_neg c8 h
      refine lv_aload_n hx hb dR_mesh_21 rfl (lv_at hl 0 rfl) ?_
      refine lv_iconst (v := 0) hx hb dR_mesh_22 (by decide) ?_
      refine rf_put0 (iv := 0) hx hb hts rf_in0 hown hK hP hI hS (q := 0) rfl 13 (by decide) (hts _ gm_515) rfl rfl rfl dR_mesh_23 (fun H locs hP hS => ?_)
      have hP : va_P (dC, dI) al_cl (fl_ws 14 (rf_sh ca ad) ad (fl_up g6 0 13 0)) H := hP
      refine lv_aload_n hx hb dR_mesh_26 rfl (lv_at hl 0 rfl) ?_
      refine lv_iload_n hx hb dR_mesh_27 rfl (lv_at hl 1 rfl) ?_
      replace h := fl_bd_some h
      obtain ⟨r9, g10, hc11, h⟩ := h
      refine fl_calli (va_runV (As := [.int a0]) (rest := []) ⟨hx, hb, hml, hown, hts⟩ (cR_candidates l dC dI ca ad hI a0 hc11) (kR_candidates hts (hts _ gm_648) ⟨Nat.le_of_ble_eq_true rfl, Nat.le_of_ble_eq_true rfl⟩) (fl_preV hK hP hN (rf_lt rfl (by decide)) (rf_sh0 rfl) rfl) rfl rfl hl.1 rfl (lv_room (Nat.le_of_ble_eq_true rfl)) dR_mesh_28 ⟨Nat.le_refl 0, Nat.le_refl 0⟩) hS (fun H locs hP hS => ?_)
      refine lv_istore_n (lv' := [(3, .int r9), (0, .ref (ad 0)), (1, .int a0), (2, .int a1)]) hx hb dR_mesh_31 rfl hl (by decide) rfl (fun ls hl => ?_)
      refine lv_iload_n hx hb dR_mesh_32 rfl (lv_at hl 0 rfl) ?_
      refine lv_iconst (v := 1) hx hb dR_mesh_33 (by decide) ?_
      refine lv_isub hx hb dR_mesh_34 ?_
      refine lv_istore (lv' := [(4, .int (r9 - 1)), (3, .int r9), (0, .ref (ad 0)), (1, .int a0), (2, .int a1)]) hx hb dR_mesh_35 hl (by decide) rfl (fun ls hl => ?_)
      have loop12 : ∀ (n : Nat) (v4 : Int32) (v3 : Int32) (v1 : Int32) (v2 : Int32) (g : fl_G) (z : ((Int32) × fl_G)) (H : Heap) (locs : List Loc) (ls : Array Slot), fR_mesh_L37 n v4 v3 v1 v2 g = some z → va_P (dC, dI) al_cl (fl_ws 14 (rf_sh ca ad) ad g) H → va_S (fl_A 14 ad) s.heap H locs → lv_has ls 9 [(4, .int v4), (3, .int v3), (0, .ref (ad 0)), (1, .int v1), (2, .int v2)] → (∀ (H : Heap) (locs : List Loc) (ls : Array Slot), va_P (dC, dI) al_cl (fl_ws 14 (rf_sh ca ad) ad z.2) H → va_S (fl_A 14 ad) s.heap H locs → lv_has ls 9 [(4, .int z.1), (3, .int v3), (0, .ref (ad 0)), (1, .int v1), (2, .int v2)] → W p l e ({ frames := 3, cells := 0, slots := 0, locals := 69 }) s m ([.ref (ad 0), .int a0, .int a1] : List Value).toArray below meth c H locs 0 0 (MQ below (fl_QI (dC, dI) al_cl 14 (rf_sh ca ad) ad r g1) ([.ref (ad 0), .int a0, .int a1] : List Value).toArray s 0 0 (fl_A 14 ad)) (F0 m 91 ls [])) → W p l e ({ frames := 3, cells := 0, slots := 0, locals := 69 }) s m ([.ref (ad 0), .int a0, .int a1] : List Value).toArray below meth c H locs 0 0 (MQ below (fl_QI (dC, dI) al_cl 14 (rf_sh ca ad) ad r g1) ([.ref (ad 0), .int a0, .int a1] : List Value).toArray s 0 0 (fl_A 14 ad)) (F0 m 37 ls []) := by
        intro n
        clear h hP hS hl
        induction n with
        | zero => intro v4 v3 v1 v2 g z H locs ls h; cases h
        | succ n ih12 =>
          intro v4 v3 v1 v2 g z H locs ls h hP hS hl K12
          have h : fR_mesh_B37 (fR_mesh_L37 n) v4 v3 v1 v2 g = some z := h
          unfold fR_mesh_B37 at h
          refine lv_iload hx hb dR_mesh_37 (lv_at hl 0 rfl) ?_
          refine lv_iconst (v := 1) hx hb dR_mesh_39 (by decide) ?_
          refine lv_icmp_lt (tgt := 91) hx hb dR_mesh_40 (by decide) (fun c13 => ?_) (fun c13 => ?_)
          · replace h := fl_pos c13 h
            cases h
            exact K12 _ _ _ hP hS (lv_sub hl [0, 1, 2, 3, 4] rfl)
          · replace h := fl_neg c13 h
            refine lv_aload_n hx hb dR_mesh_43 rfl (lv_at hl 2 rfl) ?_
            refine lv_iload hx hb dR_mesh_44 (lv_at hl 0 rfl) ?_
            refine lv_iconst (v := 1) hx hb dR_mesh_46 (by decide) ?_
            refine lv_iadd hx hb dR_mesh_47 ?_
            replace h := fl_bd_some h
            obtain ⟨r14, g15, hc16, h⟩ := h
            refine fl_calli (va_runV (As := [.int (v4 + 1)]) (rest := []) ⟨hx, hb, hml, hown, hts⟩ (cR_draw l dC dI ca ad hI (v4 + 1) hc16) (kR_draw hts (hts _ gm_599) ⟨Nat.le_of_ble_eq_true rfl, Nat.le_of_ble_eq_true rfl⟩) (fl_preV hK hP hN (rf_lt rfl (by decide)) (rf_sh0 rfl) rfl) rfl rfl hl.1 rfl (lv_room (Nat.le_of_ble_eq_true rfl)) dR_mesh_48 ⟨Nat.le_refl 0, Nat.le_refl 0⟩) hS (fun H locs hP hS => ?_)
            refine lv_istore (lv' := [(5, .int r14), (4, .int v4), (3, .int v3), (0, .ref (ad 0)), (1, .int v1), (2, .int v2)]) hx hb dR_mesh_51 hl (by decide) rfl (fun ls hl => ?_)
            refine lv_aload_n hx hb dR_mesh_53 rfl (lv_at hl 3 rfl) ?_
            refine rf_get0 (v := .ref (ad 12)) hx hb hts rf_in0 hown hK hP (q := 0) rfl 14 (by decide) (hts _ gm_516) rfl dR_mesh_54 ?_
            refine lv_iload hx hb dR_mesh_57 (lv_at hl 1 rfl) ?_
            replace h := fl_ck_some h
            obtain ⟨hi17, h⟩ := h
            refine rf_iald hx hb hK hP (q := 12) rfl hi17 dR_mesh_59 ?_
            refine lv_istore (lv' := [(6, .int (g15 12 (Int32.toNatClampNeg v4))), (5, .int r14), (4, .int v4), (3, .int v3), (0, .ref (ad 0)), (1, .int v1), (2, .int v2)]) hx hb dR_mesh_60 hl (by decide) rfl (fun ls hl => ?_)
            refine lv_aload_n hx hb dR_mesh_62 rfl (lv_at hl 4 rfl) ?_
            refine rf_get0 (v := .ref (ad 12)) hx hb hts rf_in0 hown hK hP (q := 0) rfl 14 (by decide) (hts _ gm_516) rfl dR_mesh_63 ?_
            refine lv_iload hx hb dR_mesh_66 (lv_at hl 2 rfl) ?_
            refine lv_aload_n hx hb dR_mesh_68 rfl (lv_at hl 4 rfl) ?_
            refine rf_get0 (v := .ref (ad 12)) hx hb hts rf_in0 hown hK hP (q := 0) rfl 14 (by decide) (hts _ gm_516) rfl dR_mesh_69 ?_
            refine lv_iload hx hb dR_mesh_72 (lv_at hl 1 rfl) ?_
            replace h := fl_ck_some h
            obtain ⟨hi18, h⟩ := h
            refine rf_iald hx hb hK hP (q := 12) rfl hi18 dR_mesh_74 ?_
            replace h := fl_ck_some h
            obtain ⟨hi19, h⟩ := h
            refine rf_iast hx hb hK hP hI hS (q := 12) rfl hi19 dR_mesh_75 (fun H locs hP hS => ?_)
            have hP : va_P (dC, dI) al_cl (fl_ws 14 (rf_sh ca ad) ad (fl_up g15 12 (Int32.toNatClampNeg v4) (g15 12 (Int32.toNatClampNeg r14)))) H := hP
            refine lv_aload_n hx hb dR_mesh_76 rfl (lv_at hl 4 rfl) ?_
            refine rf_get0 (v := .ref (ad 12)) hx hb hts rf_in0 hown hK hP (q := 0) rfl 14 (by decide) (hts _ gm_516) rfl dR_mesh_77 ?_
            refine lv_iload hx hb dR_mesh_80 (lv_at hl 1 rfl) ?_
            refine lv_iload hx hb dR_mesh_82 (lv_at hl 0 rfl) ?_
            replace h := fl_ck_some h
            obtain ⟨hi20, h⟩ := h
            refine rf_iast hx hb hK hP hI hS (q := 12) rfl hi20 dR_mesh_84 (fun H locs hP hS => ?_)
            have hP : va_P (dC, dI) al_cl (fl_ws 14 (rf_sh ca ad) ad (fl_up (fl_up g15 12 (Int32.toNatClampNeg v4) (g15 12 (Int32.toNatClampNeg r14))) 12 (Int32.toNatClampNeg r14) (g15 12 (Int32.toNatClampNeg v4)))) H := hP
            refine lv_iinc (v := (v4 + (-1))) (lv' := [(4, .int (v4 + (-1))), (6, .int (g15 12 (Int32.toNatClampNeg v4))), (5, .int r14), (3, .int v3), (0, .ref (ad 0)), (1, .int v1), (2, .int v2)]) hx hb dR_mesh_85 hl (k := 2) rfl rfl (by decide) rfl (fun ls hl => ?_)
            refine lv_goto (tgt := 37) hx hb dR_mesh_88 (by decide) ?_
            exact ih12 (v4 + (-1)) v3 v1 v2 _ _ _ _ _ h hP hS (lv_sub hl [0, 3, 4, 5, 6] rfl) K12
      obtain ⟨r21, g22, hc23, h⟩ := fl_bd_some h
      refine loop12 1000 (r9 - 1) r9 a0 a1 _ (r21, g22) _ _ _ hc23 hP hS (lv_sub hl [0, 1, 2, 3, 4] rfl) (fun H locs ls hP hS hl => ?_)
      have hP : va_P (dC, dI) al_cl (fl_ws 14 (rf_sh ca ad) ad g22) H := hP
      have hl : lv_has ls 9 [(4, .int r21), (3, .int r9), (0, .ref (ad 0)), (1, .int a0), (2, .int a1)] := hl
      refine lv_iconst (v := 0) hx hb dR_mesh_91 (by decide) ?_
      refine lv_istore (lv' := [(4, .int 0), (3, .int r9), (0, .ref (ad 0)), (1, .int a0), (2, .int a1)]) hx hb dR_mesh_92 hl (by decide) rfl (fun ls hl => ?_)
      have loop24 : ∀ (n : Nat) (v4 : Int32) (v3 : Int32) (v1 : Int32) (v2 : Int32) (g : fl_G) (z : ((Int32) × fl_G)) (H : Heap) (locs : List Loc) (ls : Array Slot), fR_mesh_L94 n v4 v3 v1 v2 g = some z → va_P (dC, dI) al_cl (fl_ws 14 (rf_sh ca ad) ad g) H → va_S (fl_A 14 ad) s.heap H locs → lv_has ls 9 [(4, .int v4), (3, .int v3), (0, .ref (ad 0)), (1, .int v1), (2, .int v2)] → (∀ (H : Heap) (locs : List Loc) (ls : Array Slot), va_P (dC, dI) al_cl (fl_ws 14 (rf_sh ca ad) ad z.2) H → va_S (fl_A 14 ad) s.heap H locs → lv_has ls 9 [(4, .int z.1), (3, .int v3), (0, .ref (ad 0)), (1, .int v1), (2, .int v2)] → W p l e ({ frames := 3, cells := 0, slots := 0, locals := 69 }) s m ([.ref (ad 0), .int a0, .int a1] : List Value).toArray below meth c H locs 0 0 (MQ below (fl_QI (dC, dI) al_cl 14 (rf_sh ca ad) ad r g1) ([.ref (ad 0), .int a0, .int a1] : List Value).toArray s 0 0 (fl_A 14 ad)) (F0 m 115 ls [])) → W p l e ({ frames := 3, cells := 0, slots := 0, locals := 69 }) s m ([.ref (ad 0), .int a0, .int a1] : List Value).toArray below meth c H locs 0 0 (MQ below (fl_QI (dC, dI) al_cl 14 (rf_sh ca ad) ad r g1) ([.ref (ad 0), .int a0, .int a1] : List Value).toArray s 0 0 (fl_A 14 ad)) (F0 m 94 ls []) := by
        intro n
        clear h hP hS hl
        induction n with
        | zero => intro v4 v3 v1 v2 g z H locs ls h; cases h
        | succ n ih24 =>
          intro v4 v3 v1 v2 g z H locs ls h hP hS hl K24
          have h : fR_mesh_B94 (fR_mesh_L94 n) v4 v3 v1 v2 g = some z := h
          unfold fR_mesh_B94 at h
          refine lv_iload hx hb dR_mesh_94 (lv_at hl 0 rfl) ?_
          refine lv_bipush (v := 12) hx hb dR_mesh_96 (by decide) ?_
          refine lv_icmp_ge (tgt := 115) hx hb dR_mesh_98 (by decide) (fun c25 => ?_) (fun c25 => ?_)
          · replace h := fl_pos c25 h
            cases h
            exact K24 _ _ _ hP hS (lv_sub hl [0, 1, 2, 3, 4] rfl)
          · replace h := fl_neg c25 h
            refine lv_aload_n hx hb dR_mesh_101 rfl (lv_at hl 2 rfl) ?_
            refine rf_get0 (v := .ref (ad 13)) hx hb hts rf_in0 hown hK hP (q := 0) rfl 15 (by decide) (hts _ gm_517) rfl dR_mesh_102 ?_
            refine lv_iload hx hb dR_mesh_105 (lv_at hl 0 rfl) ?_
            refine lv_iconst (v := 0) hx hb dR_mesh_107 (by decide) ?_
            replace h := fl_ck_some h
            obtain ⟨hi26, h⟩ := h
            refine rf_zast hx hb hK hP hI hS (q := 13) rfl hi26 dR_mesh_108 (fun H locs hP hS => ?_)
            have hP : va_P (dC, dI) al_cl (fl_ws 14 (rf_sh ca ad) ad (fl_up g 13 (Int32.toNatClampNeg v4) (0 &&& 1))) H := hP
            refine lv_iinc (v := (v4 + 1)) (lv' := [(4, .int (v4 + 1)), (3, .int v3), (0, .ref (ad 0)), (1, .int v1), (2, .int v2)]) hx hb dR_mesh_109 hl (k := 0) rfl rfl (by decide) rfl (fun ls hl => ?_)
            refine lv_goto (tgt := 94) hx hb dR_mesh_112 (by decide) ?_
            exact ih24 (v4 + 1) v3 v1 v2 _ _ _ _ _ h hP hS (lv_sub hl [0, 1, 2, 3, 4] rfl) K24
      obtain ⟨r27, g28, hc29, h⟩ := fl_bd_some h
      refine loop24 1000 0 r9 a0 a1 _ (r27, g28) _ _ _ hc29 hP hS (lv_sub hl [0, 1, 2, 3, 4] rfl) (fun H locs ls hP hS hl => ?_)
      have hP : va_P (dC, dI) al_cl (fl_ws 14 (rf_sh ca ad) ad g28) H := hP
      have hl : lv_has ls 9 [(4, .int r27), (3, .int r9), (0, .ref (ad 0)), (1, .int a0), (2, .int a1)] := hl
      refine lv_iload_n hx hb dR_mesh_115 rfl (lv_at hl 1 rfl) ?_
      refine lv_iconst (v := 2) hx hb dR_mesh_116 (by decide) ?_
      refine lv_idiv hx hb dR_mesh_117 (by decide) ?_
      refine lv_istore (lv' := [(4, .int (r9 / 2)), (3, .int r9), (0, .ref (ad 0)), (1, .int a0), (2, .int a1)]) hx hb dR_mesh_118 hl (by decide) rfl (fun ls hl => ?_)
      refine lv_iconst (v := 0) hx hb dR_mesh_120 (by decide) ?_
      refine lv_istore (lv' := [(5, .int 0), (4, .int (r9 / 2)), (3, .int r9), (0, .ref (ad 0)), (1, .int a0), (2, .int a1)]) hx hb dR_mesh_121 hl (by decide) rfl (fun ls hl => ?_)
      refine lv_iconst (v := 0) hx hb dR_mesh_123 (by decide) ?_
      refine lv_istore (lv' := [(6, .int 0), (5, .int 0), (4, .int (r9 / 2)), (3, .int r9), (0, .ref (ad 0)), (1, .int a0), (2, .int a1)]) hx hb dR_mesh_124 hl (by decide) rfl (fun ls hl => ?_)
      have loop30 : ∀ (n : Nat) (v6 : Int32) (v5 : Int32) (v4 : Int32) (v3 : Int32) (v1 : Int32) (v2 : Int32) (g : fl_G) (z : ((Int32 × Int32) × fl_G)) (H : Heap) (locs : List Loc) (ls : Array Slot), fR_mesh_L126 n v6 v5 v4 v3 v1 v2 g = some z → va_P (dC, dI) al_cl (fl_ws 14 (rf_sh ca ad) ad g) H → va_S (fl_A 14 ad) s.heap H locs → lv_has ls 9 [(6, .int v6), (5, .int v5), (4, .int v4), (3, .int v3), (0, .ref (ad 0)), (1, .int v1), (2, .int v2)] → (∀ (H : Heap) (locs : List Loc) (ls : Array Slot), va_P (dC, dI) al_cl (fl_ws 14 (rf_sh ca ad) ad z.2) H → va_S (fl_A 14 ad) s.heap H locs → lv_has ls 9 [(6, .int z.1.1), (5, .int z.1.2), (4, .int v4), (3, .int v3), (0, .ref (ad 0)), (1, .int v1), (2, .int v2)] → W p l e ({ frames := 3, cells := 0, slots := 0, locals := 69 }) s m ([.ref (ad 0), .int a0, .int a1] : List Value).toArray below meth c H locs 0 0 (MQ below (fl_QI (dC, dI) al_cl 14 (rf_sh ca ad) ad r g1) ([.ref (ad 0), .int a0, .int a1] : List Value).toArray s 0 0 (fl_A 14 ad)) (F0 m 216 ls [])) → W p l e ({ frames := 3, cells := 0, slots := 0, locals := 69 }) s m ([.ref (ad 0), .int a0, .int a1] : List Value).toArray below meth c H locs 0 0 (MQ below (fl_QI (dC, dI) al_cl 14 (rf_sh ca ad) ad r g1) ([.ref (ad 0), .int a0, .int a1] : List Value).toArray s 0 0 (fl_A 14 ad)) (F0 m 126 ls []) := by
        intro n
        clear h hP hS hl
        induction n with
        | zero => intro v6 v5 v4 v3 v1 v2 g z H locs ls h; cases h
        | succ n ih30 =>
          intro v6 v5 v4 v3 v1 v2 g z H locs ls h hP hS hl K30
          have h : fR_mesh_B126 (fR_mesh_L126 n) v6 v5 v4 v3 v1 v2 g = some z := h
          unfold fR_mesh_B126 at h
          refine lv_iload hx hb dR_mesh_126 (lv_at hl 0 rfl) ?_
          refine lv_iload_n hx hb dR_mesh_128 rfl (lv_at hl 6 rfl) ?_
          refine lv_icmp_ge (tgt := 216) hx hb dR_mesh_129 (by decide) (fun c31 => ?_) (fun c31 => ?_)
          · replace h := fl_pos c31 h
            cases h
            exact K30 _ _ _ hP hS (lv_sub hl [0, 1, 2, 3, 4, 5, 6] rfl)
          · replace h := fl_neg c31 h
            refine lv_iload hx hb dR_mesh_132 (lv_at hl 0 rfl) ?_
            refine lv_iload hx hb dR_mesh_134 (lv_at hl 2 rfl) ?_
            refine lv_icmp_ge (tgt := 216) hx hb dR_mesh_136 (by decide) (fun c32 => ?_) (fun c32 => ?_)
            · replace h := fl_pos c32 h
              cases h
              exact K30 _ _ _ hP hS (lv_sub hl [0, 1, 2, 3, 4, 5, 6] rfl)
            · replace h := fl_neg c32 h
              refine lv_iconst (v := 0) hx hb dR_mesh_139 (by decide) ?_
              refine lv_istore (lv' := [(7, .int 0), (6, .int v6), (5, .int v5), (4, .int v4), (3, .int v3), (0, .ref (ad 0)), (1, .int v1), (2, .int v2)]) hx hb dR_mesh_140 hl (by decide) rfl (fun ls hl => ?_)
              have loop33 : ∀ (n : Nat) (v7 : Int32) (v6 : Int32) (v5 : Int32) (v4 : Int32) (v3 : Int32) (v1 : Int32) (v2 : Int32) (g : fl_G) (z : ((Int32 × Int32) × fl_G)) (H : Heap) (locs : List Loc) (ls : Array Slot), fR_mesh_L142 n v7 v6 v5 v4 v3 v1 v2 g = some z → va_P (dC, dI) al_cl (fl_ws 14 (rf_sh ca ad) ad g) H → va_S (fl_A 14 ad) s.heap H locs → lv_has ls 9 [(7, .int v7), (6, .int v6), (5, .int v5), (4, .int v4), (3, .int v3), (0, .ref (ad 0)), (1, .int v1), (2, .int v2)] → (∀ (H : Heap) (locs : List Loc) (ls : Array Slot), va_P (dC, dI) al_cl (fl_ws 14 (rf_sh ca ad) ad z.2) H → va_S (fl_A 14 ad) s.heap H locs → lv_has ls 9 [(7, .int z.1.1), (6, .int v6), (5, .int z.1.2), (4, .int v4), (3, .int v3), (0, .ref (ad 0)), (1, .int v1), (2, .int v2)] → W p l e ({ frames := 3, cells := 0, slots := 0, locals := 69 }) s m ([.ref (ad 0), .int a0, .int a1] : List Value).toArray below meth c H locs 0 0 (MQ below (fl_QI (dC, dI) al_cl 14 (rf_sh ca ad) ad r g1) ([.ref (ad 0), .int a0, .int a1] : List Value).toArray s 0 0 (fl_A 14 ad)) (F0 m 210 ls [])) → W p l e ({ frames := 3, cells := 0, slots := 0, locals := 69 }) s m ([.ref (ad 0), .int a0, .int a1] : List Value).toArray below meth c H locs 0 0 (MQ below (fl_QI (dC, dI) al_cl 14 (rf_sh ca ad) ad r g1) ([.ref (ad 0), .int a0, .int a1] : List Value).toArray s 0 0 (fl_A 14 ad)) (F0 m 142 ls []) := by
                intro n
                clear h hP hS hl
                induction n with
                | zero => intro v7 v6 v5 v4 v3 v1 v2 g z H locs ls h; cases h
                | succ n ih33 =>
                  intro v7 v6 v5 v4 v3 v1 v2 g z H locs ls h hP hS hl K33
                  have h : fR_mesh_B142 (fR_mesh_L142 n) v7 v6 v5 v4 v3 v1 v2 g = some z := h
                  unfold fR_mesh_B142 at h
                  refine lv_iload hx hb dR_mesh_142 (lv_at hl 0 rfl) ?_
                  refine lv_iload hx hb dR_mesh_144 (lv_at hl 3 rfl) ?_
                  refine lv_icmp_ge (tgt := 210) hx hb dR_mesh_146 (by decide) (fun c34 => ?_) (fun c34 => ?_)
                  · replace h := fl_pos c34 h
                    cases h
                    exact K33 _ _ _ hP hS (lv_sub hl [0, 1, 2, 3, 4, 5, 6, 7] rfl)
                  · replace h := fl_neg c34 h
                    refine lv_iload hx hb dR_mesh_149 (lv_at hl 3 rfl) ?_
                    refine lv_iload hx hb dR_mesh_151 (lv_at hl 0 rfl) ?_
                    refine lv_iload hx hb dR_mesh_153 (lv_at hl 1 rfl) ?_
                    refine lv_iadd hx hb dR_mesh_155 ?_
                    refine lv_iload hx hb dR_mesh_156 (lv_at hl 3 rfl) ?_
                    replace h := fl_ck_some h
                    obtain ⟨hz35, h⟩ := h
                    refine lv_irem hx hb dR_mesh_158 hz35 ?_
                    refine lv_iadd hx hb dR_mesh_159 ?_
                    refine lv_istore (lv' := [(8, .int (v4 + (fl_rem (v7 + v6) v4))), (7, .int v7), (6, .int v6), (5, .int v5), (4, .int v4), (3, .int v3), (0, .ref (ad 0)), (1, .int v1), (2, .int v2)]) hx hb dR_mesh_160 hl (by decide) rfl (fun ls hl => ?_)
                    refine lv_aload_n hx hb dR_mesh_162 rfl (lv_at hl 6 rfl) ?_
                    refine rf_get0 (v := .ref (ad 13)) hx hb hts rf_in0 hown hK hP (q := 0) rfl 15 (by decide) (hts _ gm_517) rfl dR_mesh_163 ?_
                    refine lv_iload hx hb dR_mesh_166 (lv_at hl 1 rfl) ?_
                    replace h := fl_ck_some h
                    obtain ⟨hi36, h⟩ := h
                    refine rf_zald hx hb hK hP (q := 13) rfl hi36 dR_mesh_168 ?_
                    refine lv_if_ne (tgt := 204) hx hb dR_mesh_169 (by decide) (fun c37 => ?_) (fun c37 => ?_)
                    · replace h := fl_neg c37 h
                      refine lv_iinc (v := (v7 + 1)) (lv' := [(7, .int (v7 + 1)), (8, .int (v4 + (fl_rem (v7 + v6) v4))), (6, .int v6), (5, .int v5), (4, .int v4), (3, .int v3), (0, .ref (ad 0)), (1, .int v1), (2, .int v2)]) hx hb dR_mesh_204 hl (k := 1) rfl rfl (by decide) rfl (fun ls hl => ?_)
                      refine lv_goto (tgt := 142) hx hb dR_mesh_207 (by decide) ?_
                      exact ih33 (v7 + 1) v6 v5 v4 v3 v1 v2 _ _ _ _ _ h hP hS (lv_sub hl [0, 2, 3, 4, 5, 6, 7, 8] rfl) K33
                    · replace h := fl_pos c37 h
                      refine lv_aload_n hx hb dR_mesh_172 rfl (lv_at hl 6 rfl) ?_
                      refine rf_get0 (v := .ref (ad 13)) hx hb hts rf_in0 hown hK hP (q := 0) rfl 15 (by decide) (hts _ gm_517) rfl dR_mesh_173 ?_
                      refine lv_iload hx hb dR_mesh_176 (lv_at hl 0 rfl) ?_
                      replace h := fl_ck_some h
                      obtain ⟨hi38, h⟩ := h
                      refine rf_zald hx hb hK hP (q := 13) rfl hi38 dR_mesh_178 ?_
                      refine lv_if_ne (tgt := 204) hx hb dR_mesh_179 (by decide) (fun c39 => ?_) (fun c39 => ?_)
                      · replace h := fl_neg c39 h
                        refine lv_iinc (v := (v7 + 1)) (lv' := [(7, .int (v7 + 1)), (8, .int (v4 + (fl_rem (v7 + v6) v4))), (6, .int v6), (5, .int v5), (4, .int v4), (3, .int v3), (0, .ref (ad 0)), (1, .int v1), (2, .int v2)]) hx hb dR_mesh_204 hl (k := 1) rfl rfl (by decide) rfl (fun ls hl => ?_)
                        refine lv_goto (tgt := 142) hx hb dR_mesh_207 (by decide) ?_
                        exact ih33 (v7 + 1) v6 v5 v4 v3 v1 v2 _ _ _ _ _ h hP hS (lv_sub hl [0, 2, 3, 4, 5, 6, 7, 8] rfl) K33
                      · replace h := fl_pos c39 h
                        refine lv_aload_n hx hb dR_mesh_182 rfl (lv_at hl 6 rfl) ?_
                        refine lv_iload hx hb dR_mesh_183 (lv_at hl 1 rfl) ?_
                        refine lv_iload hx hb dR_mesh_185 (lv_at hl 0 rfl) ?_
                        replace h := fl_bd_some h
                        obtain ⟨r40, g41, hc42, h⟩ := h
                        refine fl_calli (va_runV (As := [.int v7, .int (v4 + (fl_rem (v7 + v6) v4))]) (rest := []) ⟨hx, hb, hml, hown, hts⟩ (cR_probe l dC dI ca ad hI v7 (v4 + (fl_rem (v7 + v6) v4)) hc42) (kR_probe hts (hts _ gm_651) ⟨Nat.le_of_ble_eq_true rfl, Nat.le_of_ble_eq_true rfl⟩) (fl_preV hK hP hN (rf_lt rfl (by decide)) (rf_sh0 rfl) rfl) rfl rfl hl.1 rfl (lv_room (Nat.le_of_ble_eq_true rfl)) dR_mesh_187 ⟨Nat.le_refl 0, Nat.le_refl 0⟩) hS (fun H locs hP hS => ?_)
                        refine lv_if_eq (tgt := 200) hx hb dR_mesh_190 (by decide) (fun c43 => ?_) (fun c43 => ?_)
                        · replace h := fl_pos c43 h
                          refine lv_iload hx hb dR_mesh_200 (lv_at hl 3 rfl) ?_
                          refine lv_istore (lv' := [(5, .int v5), (8, .int (v4 + (fl_rem (v7 + v6) v4))), (7, .int v7), (6, .int v6), (4, .int v4), (3, .int v3), (0, .ref (ad 0)), (1, .int v1), (2, .int v2)]) hx hb dR_mesh_202 hl (by decide) rfl (fun ls hl => ?_)
                          refine lv_iinc (v := (v7 + 1)) (lv' := [(7, .int (v7 + 1)), (5, .int v5), (8, .int (v4 + (fl_rem (v7 + v6) v4))), (6, .int v6), (4, .int v4), (3, .int v3), (0, .ref (ad 0)), (1, .int v1), (2, .int v2)]) hx hb dR_mesh_204 hl (k := 2) rfl rfl (by decide) rfl (fun ls hl => ?_)
                          refine lv_goto (tgt := 142) hx hb dR_mesh_207 (by decide) ?_
                          exact ih33 (v7 + 1) v6 v5 v4 v3 v1 v2 _ _ _ _ _ h hP hS (lv_sub hl [0, 3, 1, 4, 5, 6, 7, 8] rfl) K33
                        · replace h := fl_neg c43 h
                          refine lv_iload hx hb dR_mesh_193 (lv_at hl 3 rfl) ?_
                          refine lv_iconst (v := 1) hx hb dR_mesh_195 (by decide) ?_
                          refine lv_iadd hx hb dR_mesh_196 ?_
                          refine lv_goto (tgt := 202) hx hb dR_mesh_197 (by decide) ?_
                          refine lv_istore (lv' := [(5, .int (v5 + 1)), (8, .int (v4 + (fl_rem (v7 + v6) v4))), (7, .int v7), (6, .int v6), (4, .int v4), (3, .int v3), (0, .ref (ad 0)), (1, .int v1), (2, .int v2)]) hx hb dR_mesh_202 hl (by decide) rfl (fun ls hl => ?_)
                          refine lv_iinc (v := (v7 + 1)) (lv' := [(7, .int (v7 + 1)), (5, .int (v5 + 1)), (8, .int (v4 + (fl_rem (v7 + v6) v4))), (6, .int v6), (4, .int v4), (3, .int v3), (0, .ref (ad 0)), (1, .int v1), (2, .int v2)]) hx hb dR_mesh_204 hl (k := 2) rfl rfl (by decide) rfl (fun ls hl => ?_)
                          refine lv_goto (tgt := 142) hx hb dR_mesh_207 (by decide) ?_
                          exact ih33 (v7 + 1) v6 (v5 + 1) v4 v3 v1 v2 _ _ _ _ _ h hP hS (lv_sub hl [0, 3, 1, 4, 5, 6, 7, 8] rfl) K33
              obtain ⟨r44, g45, hc46, h⟩ := fl_bd_some h
              refine loop33 1000 0 v6 v5 v4 v3 v1 v2 _ (r44, g45) _ _ _ hc46 hP hS (lv_sub hl [0, 1, 2, 3, 4, 5, 6, 7] rfl) (fun H locs ls hP hS hl => ?_)
              have hP : va_P (dC, dI) al_cl (fl_ws 14 (rf_sh ca ad) ad g45) H := hP
              have hl : lv_has ls 9 [(7, .int r44.1), (6, .int v6), (5, .int r44.2), (4, .int v4), (3, .int v3), (0, .ref (ad 0)), (1, .int v1), (2, .int v2)] := hl
              refine lv_iinc (v := (v6 + 1)) (lv' := [(6, .int (v6 + 1)), (7, .int r44.1), (5, .int r44.2), (4, .int v4), (3, .int v3), (0, .ref (ad 0)), (1, .int v1), (2, .int v2)]) hx hb dR_mesh_210 hl (k := 1) rfl rfl (by decide) rfl (fun ls hl => ?_)
              refine lv_goto (tgt := 126) hx hb dR_mesh_213 (by decide) ?_
              exact ih30 (v6 + 1) r44.2 v4 v3 v1 v2 _ _ _ _ _ h hP hS (lv_sub hl [0, 2, 3, 4, 5, 6, 7] rfl) K30
      obtain ⟨r47, g48, hc49, h⟩ := fl_bd_some h
      refine loop30 1000 0 0 (r9 / 2) r9 a0 a1 _ (r47, g48) _ _ _ hc49 hP hS (lv_sub hl [0, 1, 2, 3, 4, 5, 6] rfl) (fun H locs ls hP hS hl => ?_)
      have hP : va_P (dC, dI) al_cl (fl_ws 14 (rf_sh ca ad) ad g48) H := hP
      have hl : lv_has ls 9 [(6, .int r47.1), (5, .int r47.2), (4, .int (r9 / 2)), (3, .int r9), (0, .ref (ad 0)), (1, .int a0), (2, .int a1)] := hl
      refine lv_iload hx hb dR_mesh_216 (lv_at hl 1 rfl) ?_
      exact fl_iret hx hb hr hlocks hP hS h dR_mesh_218
    · replace h := fl_pos c8 h
      refine lv_iconst (v := (-1)) hx hb dR_mesh_19 (by decide) ?_
      exact fl_iret hx hb hr hlocks hP hS h dR_mesh_20
def yR_probes : MethodName := ⟨"MeshedSpansModel", "probes", "()I"⟩
def wR_probes : List Cond := .code yR_probes prog_8_method_34_code 1 (some .int) :: gw
theorem kR_probes {R : Room} {s : State} {args : Array Value} {own : String} {ix : Nat} (hts : ∀ w ∈ gw, w.before args s = true) (hl : (Cond.methodLink own ix yR_probes).before args s = true) (hR : 0 + 1 ≤ R.frames ∧ 8 + (1 + 11) + 0 ≤ R.locals) : CallW R s args own "MeshedSpansModel" ix yR_probes prog_8_method_34_code 1 (some .int) wR_probes { frames := 0, cells := 0, slots := 0, locals := 0 } 0 0 0 := ⟨callB_of (rm := { frames := 0, cells := 0, slots := 0, locals := 0 }) 0 hts (gw_c (ct := .code yR_probes prog_8_method_34_code 1 (some .int)) gm_663) rfl rfl rfl (hts _ gm_47) hl (by decide +kernel) hR, hts _ gm_661, hts _ gm_662⟩
theorem dR_probes_0 : decode prog_8_method_34_code 0 = .ok (.aload_n 0, 1) := by decide +kernel
theorem dR_probes_1 : decode prog_8_method_34_code 1 = .ok (.getfield 138, 3) := by decide +kernel
theorem dR_probes_4 : decode prog_8_method_34_code 4 = .ok (.ireturn, 1) := by decide +kernel
def fR_probes (g : fl_G) : Option (Int32 × fl_G) :=
  some ((g 0 13), g)
set_option maxHeartbeats 4000000 in
set_option maxRecDepth 100000 in
theorem cR_probes (l : Launch) (dC : Nat → ClassId) (dI : Nat → Nat → Nat) (ca : Nat → ClassId) (ad : Nat → Nat) (hI : fl_inj 14 ad) {g g1 : fl_G} {r : Int32} (h : fR_probes g = some (r, g1)) : Met l yR_probes wR_probes ({ frames := 0, cells := 0, slots := 0, locals := 0 }) (va_Pc [.ref (ad 0)] (fl_Pre (dC, dI) al_cl 14 (rf_sh ca ad) ad (rf_ty ca) rf_ns g)) (fl_QI (dC, dI) al_cl 14 (rf_sh ca ad) ad r g1) 0 0 (fl_A 14 ad) := by
  refine fl_of (cc := prog_8_method_34_code) (maxL := 1) (ret := (some .int)) (by decide) rfl (Nat.le_of_ble_eq_true rfl) ?_
  intro p e s m below meth c ls hx hb hr hml hts hown hlocks hP hK hN hl
  have hown : s.vm.findClass "MeshedSpansModel" = some m.cls := hown
  have hS : va_S (fl_A 14 ad) s.heap s.heap [] := va_S.rf
  have hl : lv_has ls 1 [(0, .ref (ad 0))] := hl
  unfold fR_probes at h
  refine lv_aload_n hx hb dR_probes_0 rfl (lv_at hl 0 rfl) ?_
  refine rf_get0 (v := .int (g 0 13)) hx hb hts rf_in0 hown hK hP (q := 0) rfl 13 (by decide) (hts _ gm_515) rfl dR_probes_1 ?_
  exact fl_iret hx hb hr hlocks hP hS h dR_probes_4
def yR_size : MethodName := ⟨"MeshedSpansModel", "size", "(I)I"⟩
def wR_size : List Cond := .code yR_size prog_8_method_35_code 2 (some .int) :: gw
theorem kR_size {R : Room} {s : State} {args : Array Value} {own : String} {ix : Nat} (hts : ∀ w ∈ gw, w.before args s = true) (hl : (Cond.methodLink own ix yR_size).before args s = true) (hR : 5 + 1 ≤ R.frames ∧ 8 + (2 + 11) + 108 ≤ R.locals) : CallW R s args own "MeshedSpansModel" ix yR_size prog_8_method_35_code 2 (some .int) wR_size { frames := 5, cells := 0, slots := 0, locals := 108 } 0 0 1 := ⟨callB_of (rm := { frames := 5, cells := 0, slots := 0, locals := 108 }) 1 hts (gw_c (ct := .code yR_size prog_8_method_35_code 2 (some .int)) gm_667) rfl rfl rfl (hts _ gm_47) hl (by decide +kernel) hR, hts _ gm_665, hts _ gm_666⟩
theorem dR_size_0 : decode prog_8_method_35_code 0 = .ok (.aload_n 0, 1) := by decide +kernel
theorem dR_size_1 : decode prog_8_method_35_code 1 = .ok (.iload_n 1, 1) := by decide +kernel
theorem dR_size_2 : decode prog_8_method_35_code 2 = .ok (.invokevirtual 129, 3) := by decide +kernel
theorem dR_size_5 : decode prog_8_method_35_code 5 = .ok (.ifCond .eq 18, 3) := by decide +kernel
theorem dR_size_8 : decode prog_8_method_35_code 8 = .ok (.bipush 16, 2) := by decide +kernel
theorem dR_size_10 : decode prog_8_method_35_code 10 = .ok (.aload_n 0, 1) := by decide +kernel
theorem dR_size_11 : decode prog_8_method_35_code 11 = .ok (.getfield 31, 3) := by decide +kernel
theorem dR_size_14 : decode prog_8_method_35_code 14 = .ok (.iload_n 1, 1) := by decide +kernel
theorem dR_size_15 : decode prog_8_method_35_code 15 = .ok (.bipush 16, 2) := by decide +kernel
theorem dR_size_17 : decode prog_8_method_35_code 17 = .ok (.idiv, 1) := by decide +kernel
theorem dR_size_18 : decode prog_8_method_35_code 18 = .ok (.iaload, 1) := by decide +kernel
theorem dR_size_19 : decode prog_8_method_35_code 19 = .ok (.imul, 1) := by decide +kernel
theorem dR_size_20 : decode prog_8_method_35_code 20 = .ok (.goto 28, 3) := by decide +kernel
theorem dR_size_23 : decode prog_8_method_35_code 23 = .ok (.aload_n 0, 1) := by decide +kernel
theorem dR_size_24 : decode prog_8_method_35_code 24 = .ok (.iload_n 1, 1) := by decide +kernel
theorem dR_size_25 : decode prog_8_method_35_code 25 = .ok (.invokevirtual 135, 3) := by decide +kernel
theorem dR_size_28 : decode prog_8_method_35_code 28 = .ok (.ifCond .eq 18, 3) := by decide +kernel
theorem dR_size_31 : decode prog_8_method_35_code 31 = .ok (.iconst 1, 1) := by decide +kernel
theorem dR_size_32 : decode prog_8_method_35_code 32 = .ok (.aload_n 0, 1) := by decide +kernel
theorem dR_size_33 : decode prog_8_method_35_code 33 = .ok (.getfield 22, 3) := by decide +kernel
theorem dR_size_36 : decode prog_8_method_35_code 36 = .ok (.aload_n 0, 1) := by decide +kernel
theorem dR_size_37 : decode prog_8_method_35_code 37 = .ok (.iload_n 1, 1) := by decide +kernel
theorem dR_size_38 : decode prog_8_method_35_code 38 = .ok (.invokevirtual 114, 3) := by decide +kernel
theorem dR_size_41 : decode prog_8_method_35_code 41 = .ok (.iaload, 1) := by decide +kernel
theorem dR_size_42 : decode prog_8_method_35_code 42 = .ok (.ishl, 1) := by decide +kernel
theorem dR_size_43 : decode prog_8_method_35_code 43 = .ok (.goto 5, 3) := by decide +kernel
theorem dR_size_46 : decode prog_8_method_35_code 46 = .ok (.bipush (-2), 2) := by decide +kernel
theorem dR_size_48 : decode prog_8_method_35_code 48 = .ok (.ireturn, 1) := by decide +kernel
def fR_size (a0 : Int32) (g : fl_G) : Option (Int32 × fl_G) :=
  fl_bd (fR_isLarge a0 g) (fun r1 g2 => if r1 = 0 then (fl_bd (fR_isSmall a0 g2) (fun r5 g6 => if r5 = 0 then (some ((-2), g6)) else (fl_bd (fR_behind a0 g6) (fun r9 g10 => fl_ck (fl_in r9 12) (some ((1 <<< ((g10 5 (Int32.toNatClampNeg r9)) &&& 31)), g10)))))) else (fl_ck (fl_in (a0 / 16) 24) (some ((16 * (g2 8 (Int32.toNatClampNeg (a0 / 16)))), g2))))
set_option maxHeartbeats 4000000 in
set_option maxRecDepth 100000 in
theorem cR_size (l : Launch) (dC : Nat → ClassId) (dI : Nat → Nat → Nat) (ca : Nat → ClassId) (ad : Nat → Nat) (hI : fl_inj 14 ad) (a0 : Int32) {g g1 : fl_G} {r : Int32} (h : fR_size a0 g = some (r, g1)) : Met l yR_size wR_size ({ frames := 5, cells := 0, slots := 0, locals := 108 }) (va_Pc [.ref (ad 0), .int a0] (fl_Pre (dC, dI) al_cl 14 (rf_sh ca ad) ad (rf_ty ca) rf_ns g)) (fl_QI (dC, dI) al_cl 14 (rf_sh ca ad) ad r g1) 0 0 (fl_A 14 ad) := by
  refine fl_of (cc := prog_8_method_35_code) (maxL := 2) (ret := (some .int)) (by decide) rfl (Nat.le_of_ble_eq_true rfl) ?_
  intro p e s m below meth c ls hx hb hr hml hts hown hlocks hP hK hN hl
  have hown : s.vm.findClass "MeshedSpansModel" = some m.cls := hown
  have hS : va_S (fl_A 14 ad) s.heap s.heap [] := va_S.rf
  have hl : lv_has ls 2 [(0, .ref (ad 0)), (1, .int a0)] := hl
  unfold fR_size at h
  refine lv_aload_n hx hb dR_size_0 rfl (lv_at hl 0 rfl) ?_
  refine lv_iload_n hx hb dR_size_1 rfl (lv_at hl 1 rfl) ?_
  replace h := fl_bd_some h
  obtain ⟨r1, g2, hc3, h⟩ := h
  refine fl_calli (va_runV (As := [.int a0]) (rest := []) ⟨hx, hb, hml, hown, hts⟩ (cR_isLarge l dC dI ca ad hI a0 hc3) (kR_isLarge hts (hts _ gm_632) ⟨Nat.le_of_ble_eq_true rfl, Nat.le_of_ble_eq_true rfl⟩) (fl_preV hK hP hN (rf_lt rfl (by decide)) (rf_sh0 rfl) rfl) rfl rfl hl.1 rfl (lv_room (Nat.le_of_ble_eq_true rfl)) dR_size_2 ⟨Nat.le_refl 0, Nat.le_refl 0⟩) hS (fun H locs hP hS => ?_)
  refine lv_if_eq (tgt := 23) hx hb dR_size_5 (by decide) (fun c4 => ?_) (fun c4 => ?_)
  · replace h := fl_pos c4 h
    refine lv_aload_n hx hb dR_size_23 rfl (lv_at hl 0 rfl) ?_
    refine lv_iload_n hx hb dR_size_24 rfl (lv_at hl 1 rfl) ?_
    replace h := fl_bd_some h
    obtain ⟨r5, g6, hc7, h⟩ := h
    refine fl_calli (va_runV (As := [.int a0]) (rest := []) ⟨hx, hb, hml, hown, hts⟩ (cR_isSmall l dC dI ca ad hI a0 hc7) (kR_isSmall hts (hts _ gm_641) ⟨Nat.le_of_ble_eq_true rfl, Nat.le_of_ble_eq_true rfl⟩) (fl_preV hK hP hN (rf_lt rfl (by decide)) (rf_sh0 rfl) rfl) rfl rfl hl.1 rfl (lv_room (Nat.le_of_ble_eq_true rfl)) dR_size_25 ⟨Nat.le_refl 0, Nat.le_refl 0⟩) hS (fun H locs hP hS => ?_)
    refine lv_if_eq (tgt := 46) hx hb dR_size_28 (by decide) (fun c8 => ?_) (fun c8 => ?_)
    · replace h := fl_pos c8 h
      refine lv_bipush (v := (-2)) hx hb dR_size_46 (by decide) ?_
      exact fl_iret hx hb hr hlocks hP hS h dR_size_48
    · replace h := fl_neg c8 h
      refine lv_iconst (v := 1) hx hb dR_size_31 (by decide) ?_
      refine lv_aload_n hx hb dR_size_32 rfl (lv_at hl 0 rfl) ?_
      refine rf_get0 (v := .ref (ad 5)) hx hb hts rf_in0 hown hK hP (q := 0) rfl 5 (by decide) (hts _ gm_507) rfl dR_size_33 ?_
      refine lv_aload_n hx hb dR_size_36 rfl (lv_at hl 0 rfl) ?_
      refine lv_iload_n hx hb dR_size_37 rfl (lv_at hl 1 rfl) ?_
      replace h := fl_bd_some h
      obtain ⟨r9, g10, hc11, h⟩ := h
      refine fl_calli (va_runV (As := [.int a0]) (rest := [.ref (ad 5), .int 1]) ⟨hx, hb, hml, hown, hts⟩ (cR_behind l dC dI ca ad hI a0 hc11) (kR_behind hts (hts _ gm_614) ⟨Nat.le_of_ble_eq_true rfl, Nat.le_of_ble_eq_true rfl⟩) (fl_preV hK hP hN (rf_lt rfl (by decide)) (rf_sh0 rfl) rfl) rfl rfl hl.1 rfl (lv_room (Nat.le_of_ble_eq_true rfl)) dR_size_38 ⟨Nat.le_refl 0, Nat.le_refl 0⟩) hS (fun H locs hP hS => ?_)
      replace h := fl_ck_some h
      obtain ⟨hi12, h⟩ := h
      refine rf_iald hx hb hK hP (q := 5) rfl hi12 dR_size_41 ?_
      refine lv_ishl hx hb dR_size_42 ?_
      refine lv_goto (tgt := 48) hx hb dR_size_43 (by decide) ?_
      exact fl_iret hx hb hr hlocks hP hS h dR_size_48
  · replace h := fl_neg c4 h
    refine lv_bipush (v := 16) hx hb dR_size_8 (by decide) ?_
    refine lv_aload_n hx hb dR_size_10 rfl (lv_at hl 0 rfl) ?_
    refine rf_get0 (v := .ref (ad 8)) hx hb hts rf_in0 hown hK hP (q := 0) rfl 8 (by decide) (hts _ gm_510) rfl dR_size_11 ?_
    refine lv_iload_n hx hb dR_size_14 rfl (lv_at hl 1 rfl) ?_
    refine lv_bipush (v := 16) hx hb dR_size_15 (by decide) ?_
    refine lv_idiv hx hb dR_size_17 (by decide) ?_
    replace h := fl_ck_some h
    obtain ⟨hi13, h⟩ := h
    refine rf_iald hx hb hK hP (q := 8) rfl hi13 dR_size_18 ?_
    refine lv_imul hx hb dR_size_19 ?_
    refine lv_goto (tgt := 48) hx hb dR_size_20 (by decide) ?_
    exact fl_iret hx hb hr hlocks hP hS h dR_size_48
def yR_mapped : MethodName := ⟨"MeshedSpansModel", "mapped", "(I)I"⟩
def wR_mapped : List Cond := .code yR_mapped prog_8_method_37_code 2 (some .int) :: gw
theorem kR_mapped {R : Room} {s : State} {args : Array Value} {own : String} {ix : Nat} (hts : ∀ w ∈ gw, w.before args s = true) (hl : (Cond.methodLink own ix yR_mapped).before args s = true) (hR : 1 + 1 ≤ R.frames ∧ 8 + (2 + 11) + 22 ≤ R.locals) : CallW R s args own "MeshedSpansModel" ix yR_mapped prog_8_method_37_code 2 (some .int) wR_mapped { frames := 1, cells := 0, slots := 0, locals := 22 } 0 0 1 := ⟨callB_of (rm := { frames := 1, cells := 0, slots := 0, locals := 22 }) 1 hts (gw_c (ct := .code yR_mapped prog_8_method_37_code 2 (some .int)) gm_672) rfl rfl rfl (hts _ gm_47) hl (by decide +kernel) hR, hts _ gm_670, hts _ gm_671⟩
theorem dR_mapped_0 : decode prog_8_method_37_code 0 = .ok (.iload_n 1, 1) := by decide +kernel
theorem dR_mapped_1 : decode prog_8_method_37_code 1 = .ok (.iconst 0, 1) := by decide +kernel
theorem dR_mapped_2 : decode prog_8_method_37_code 2 = .ok (.bipush 23, 2) := by decide +kernel
theorem dR_mapped_4 : decode prog_8_method_37_code 4 = .ok (.invokestatic 100, 3) := by decide +kernel
theorem dR_mapped_7 : decode prog_8_method_37_code 7 = .ok (.ifCond .eq 12, 3) := by decide +kernel
theorem dR_mapped_10 : decode prog_8_method_37_code 10 = .ok (.aload_n 0, 1) := by decide +kernel
theorem dR_mapped_11 : decode prog_8_method_37_code 11 = .ok (.getfield 16, 3) := by decide +kernel
theorem dR_mapped_14 : decode prog_8_method_37_code 14 = .ok (.iload_n 1, 1) := by decide +kernel
theorem dR_mapped_15 : decode prog_8_method_37_code 15 = .ok (.iaload, 1) := by decide +kernel
theorem dR_mapped_16 : decode prog_8_method_37_code 16 = .ok (.goto 4, 3) := by decide +kernel
theorem dR_mapped_19 : decode prog_8_method_37_code 19 = .ok (.iconst (-1), 1) := by decide +kernel
theorem dR_mapped_20 : decode prog_8_method_37_code 20 = .ok (.ireturn, 1) := by decide +kernel
def fR_mapped (a0 : Int32) (g : fl_G) : Option (Int32 × fl_G) :=
  fl_bd (fR_within a0 0 23 g) (fun r1 g2 => if r1 = 0 then (some ((-1), g2)) else (fl_ck (fl_in a0 24) (some ((g2 3 (Int32.toNatClampNeg a0)), g2))))
set_option maxHeartbeats 4000000 in
set_option maxRecDepth 100000 in
theorem cR_mapped (l : Launch) (dC : Nat → ClassId) (dI : Nat → Nat → Nat) (ca : Nat → ClassId) (ad : Nat → Nat) (hI : fl_inj 14 ad) (a0 : Int32) {g g1 : fl_G} {r : Int32} (h : fR_mapped a0 g = some (r, g1)) : Met l yR_mapped wR_mapped ({ frames := 1, cells := 0, slots := 0, locals := 22 }) (va_Pc [.ref (ad 0), .int a0] (fl_Pre (dC, dI) al_cl 14 (rf_sh ca ad) ad (rf_ty ca) rf_ns g)) (fl_QI (dC, dI) al_cl 14 (rf_sh ca ad) ad r g1) 0 0 (fl_A 14 ad) := by
  refine fl_of (cc := prog_8_method_37_code) (maxL := 2) (ret := (some .int)) (by decide) rfl (Nat.le_of_ble_eq_true rfl) ?_
  intro p e s m below meth c ls hx hb hr hml hts hown hlocks hP hK hN hl
  have hown : s.vm.findClass "MeshedSpansModel" = some m.cls := hown
  have hS : va_S (fl_A 14 ad) s.heap s.heap [] := va_S.rf
  have hl : lv_has ls 2 [(0, .ref (ad 0)), (1, .int a0)] := hl
  unfold fR_mapped at h
  refine lv_iload_n hx hb dR_mapped_0 rfl (lv_at hl 1 rfl) ?_
  refine lv_iconst (v := 0) hx hb dR_mapped_1 (by decide) ?_
  refine lv_bipush (v := 23) hx hb dR_mapped_2 (by decide) ?_
  replace h := fl_bd_some h
  obtain ⟨r1, g2, hc3, h⟩ := h
  refine fl_calli (va_runS (As := [.int a0, .int 0, .int 23]) (rest := []) ⟨hx, hb, hml, hown, hts⟩ (cR_within l dC dI ca ad hI a0 0 23 hc3) (kR_within hts (hts _ gm_559) ⟨Nat.le_of_ble_eq_true rfl, Nat.le_of_ble_eq_true rfl⟩) (fl_preS hK hP hN) rfl rfl hl.1 rfl (lv_room (Nat.le_of_ble_eq_true rfl)) dR_mapped_4 ⟨Nat.le_refl 0, Nat.le_refl 0⟩) hS (fun H locs hP hS => ?_)
  refine lv_if_eq (tgt := 19) hx hb dR_mapped_7 (by decide) (fun c4 => ?_) (fun c4 => ?_)
  · replace h := fl_pos c4 h
    refine lv_iconst (v := (-1)) hx hb dR_mapped_19 (by decide) ?_
    exact fl_iret hx hb hr hlocks hP hS h dR_mapped_20
  · replace h := fl_neg c4 h
    refine lv_aload_n hx hb dR_mapped_10 rfl (lv_at hl 0 rfl) ?_
    refine rf_get0 (v := .ref (ad 3)) hx hb hts rf_in0 hown hK hP (q := 0) rfl 3 (by decide) (hts _ gm_505) rfl dR_mapped_11 ?_
    refine lv_iload_n hx hb dR_mapped_14 rfl (lv_at hl 1 rfl) ?_
    replace h := fl_ck_some h
    obtain ⟨hi5, h⟩ := h
    refine rf_iald hx hb hK hP (q := 3) rfl hi5 dR_mapped_15 ?_
    refine lv_goto (tgt := 20) hx hb dR_mapped_16 (by decide) ?_
    exact fl_iret hx hb hr hlocks hP hS h dR_mapped_20
def yR_count : MethodName := ⟨"MeshedSpansModel", "count", "(I)I"⟩
def wR_count : List Cond := .code yR_count prog_8_method_38_code 4 (some .int) :: gw
theorem kR_count {R : Room} {s : State} {args : Array Value} {own : String} {ix : Nat} (hts : ∀ w ∈ gw, w.before args s = true) (hl : (Cond.methodLink own ix yR_count).before args s = true) (hR : 1 + 1 ≤ R.frames ∧ 8 + (4 + 11) + 22 ≤ R.locals) : CallW R s args own "MeshedSpansModel" ix yR_count prog_8_method_38_code 4 (some .int) wR_count { frames := 1, cells := 0, slots := 0, locals := 22 } 0 0 1 := ⟨callB_of (rm := { frames := 1, cells := 0, slots := 0, locals := 22 }) 1 hts (gw_c (ct := .code yR_count prog_8_method_38_code 4 (some .int)) gm_676) rfl rfl rfl (hts _ gm_47) hl (by decide +kernel) hR, hts _ gm_674, hts _ gm_675⟩
theorem dR_count_0 : decode prog_8_method_38_code 0 = .ok (.iload_n 1, 1) := by decide +kernel
theorem dR_count_1 : decode prog_8_method_38_code 1 = .ok (.iconst 0, 1) := by decide +kernel
theorem dR_count_2 : decode prog_8_method_38_code 2 = .ok (.bipush 11, 2) := by decide +kernel
theorem dR_count_4 : decode prog_8_method_38_code 4 = .ok (.invokestatic 100, 3) := by decide +kernel
theorem dR_count_7 : decode prog_8_method_38_code 7 = .ok (.ifCond .ne 5, 3) := by decide +kernel
theorem dR_count_10 : decode prog_8_method_38_code 10 = .ok (.iconst (-1), 1) := by decide +kernel
theorem dR_count_11 : decode prog_8_method_38_code 11 = .ok (.ireturn, 1) := by decide +kernel
theorem dR_count_12 : decode prog_8_method_38_code 12 = .ok (.iconst 0, 1) := by decide +kernel
theorem dR_count_13 : decode prog_8_method_38_code 13 = .ok (.istore_n 2, 1) := by decide +kernel
theorem dR_count_14 : decode prog_8_method_38_code 14 = .ok (.iconst 0, 1) := by decide +kernel
theorem dR_count_15 : decode prog_8_method_38_code 15 = .ok (.istore_n 3, 1) := by decide +kernel
theorem dR_count_16 : decode prog_8_method_38_code 16 = .ok (.iload_n 3, 1) := by decide +kernel
theorem dR_count_17 : decode prog_8_method_38_code 17 = .ok (.bipush 24, 2) := by decide +kernel
theorem dR_count_19 : decode prog_8_method_38_code 19 = .ok (.if_icmp .ge 27, 3) := by decide +kernel
theorem dR_count_22 : decode prog_8_method_38_code 22 = .ok (.aload_n 0, 1) := by decide +kernel
theorem dR_count_23 : decode prog_8_method_38_code 23 = .ok (.getfield 16, 3) := by decide +kernel
theorem dR_count_26 : decode prog_8_method_38_code 26 = .ok (.iload_n 3, 1) := by decide +kernel
theorem dR_count_27 : decode prog_8_method_38_code 27 = .ok (.iaload, 1) := by decide +kernel
theorem dR_count_28 : decode prog_8_method_38_code 28 = .ok (.iload_n 1, 1) := by decide +kernel
theorem dR_count_29 : decode prog_8_method_38_code 29 = .ok (.if_icmp .ne 9, 3) := by decide +kernel
theorem dR_count_32 : decode prog_8_method_38_code 32 = .ok (.iload_n 2, 1) := by decide +kernel
theorem dR_count_33 : decode prog_8_method_38_code 33 = .ok (.iconst 1, 1) := by decide +kernel
theorem dR_count_34 : decode prog_8_method_38_code 34 = .ok (.iadd, 1) := by decide +kernel
theorem dR_count_35 : decode prog_8_method_38_code 35 = .ok (.goto 4, 3) := by decide +kernel
theorem dR_count_38 : decode prog_8_method_38_code 38 = .ok (.iload_n 2, 1) := by decide +kernel
theorem dR_count_39 : decode prog_8_method_38_code 39 = .ok (.istore_n 2, 1) := by decide +kernel
theorem dR_count_40 : decode prog_8_method_38_code 40 = .ok (.iinc 3 1, 3) := by decide +kernel
theorem dR_count_43 : decode prog_8_method_38_code 43 = .ok (.goto (-27), 3) := by decide +kernel
theorem dR_count_46 : decode prog_8_method_38_code 46 = .ok (.iload_n 2, 1) := by decide +kernel
theorem dR_count_47 : decode prog_8_method_38_code 47 = .ok (.ireturn, 1) := by decide +kernel
def fR_count_B16 (rec : Int32 → Int32 → Int32 → fl_G → Option ((Int32 × Int32) × fl_G)) (v3 : Int32) (v2 : Int32) (v1 : Int32) (g : fl_G) : Option ((Int32 × Int32) × fl_G) :=
  if 24 ≤ v3 then (some ((v3, v2), g)) else (fl_ck (fl_in v3 24) (if (g 3 (Int32.toNatClampNeg v3)) = v1 then (rec (v3 + 1) (v2 + 1) v1 g) else (rec (v3 + 1) v2 v1 g)))
def fR_count_L16 : Nat → Int32 → Int32 → Int32 → fl_G → Option ((Int32 × Int32) × fl_G)
  | 0, _, _, _, _ => none
  | n + 1, v3, v2, v1, g => fR_count_B16 (fR_count_L16 n) v3 v2 v1 g
def fR_count (a0 : Int32) (g : fl_G) : Option (Int32 × fl_G) :=
  fl_bd (fR_within a0 0 11 g) (fun r1 g2 => if r1 = 0 then (some ((-1), g2)) else (fl_bd (fR_count_L16 1000 0 0 a0 g2) (fun r9 g10 => some (r9.2, g10))))
set_option maxHeartbeats 4000000 in
set_option maxRecDepth 100000 in
theorem cR_count (l : Launch) (dC : Nat → ClassId) (dI : Nat → Nat → Nat) (ca : Nat → ClassId) (ad : Nat → Nat) (hI : fl_inj 14 ad) (a0 : Int32) {g g1 : fl_G} {r : Int32} (h : fR_count a0 g = some (r, g1)) : Met l yR_count wR_count ({ frames := 1, cells := 0, slots := 0, locals := 22 }) (va_Pc [.ref (ad 0), .int a0] (fl_Pre (dC, dI) al_cl 14 (rf_sh ca ad) ad (rf_ty ca) rf_ns g)) (fl_QI (dC, dI) al_cl 14 (rf_sh ca ad) ad r g1) 0 0 (fl_A 14 ad) := by
  refine fl_of (cc := prog_8_method_38_code) (maxL := 4) (ret := (some .int)) (by decide) rfl (Nat.le_of_ble_eq_true rfl) ?_
  intro p e s m below meth c ls hx hb hr hml hts hown hlocks hP hK hN hl
  have hown : s.vm.findClass "MeshedSpansModel" = some m.cls := hown
  have hS : va_S (fl_A 14 ad) s.heap s.heap [] := va_S.rf
  have hl : lv_has ls 4 [(0, .ref (ad 0)), (1, .int a0)] := hl
  unfold fR_count at h
  refine lv_iload_n hx hb dR_count_0 rfl (lv_at hl 1 rfl) ?_
  refine lv_iconst (v := 0) hx hb dR_count_1 (by decide) ?_
  refine lv_bipush (v := 11) hx hb dR_count_2 (by decide) ?_
  replace h := fl_bd_some h
  obtain ⟨r1, g2, hc3, h⟩ := h
  refine fl_calli (va_runS (As := [.int a0, .int 0, .int 11]) (rest := []) ⟨hx, hb, hml, hown, hts⟩ (cR_within l dC dI ca ad hI a0 0 11 hc3) (kR_within hts (hts _ gm_559) ⟨Nat.le_of_ble_eq_true rfl, Nat.le_of_ble_eq_true rfl⟩) (fl_preS hK hP hN) rfl rfl hl.1 rfl (lv_room (Nat.le_of_ble_eq_true rfl)) dR_count_4 ⟨Nat.le_refl 0, Nat.le_refl 0⟩) hS (fun H locs hP hS => ?_)
  refine lv_if_ne (tgt := 12) hx hb dR_count_7 (by decide) (fun c4 => ?_) (fun c4 => ?_)
  · replace h := fl_neg c4 h
    refine lv_iconst (v := 0) hx hb dR_count_12 (by decide) ?_
    refine lv_istore_n (lv' := [(2, .int 0), (0, .ref (ad 0)), (1, .int a0)]) hx hb dR_count_13 rfl hl (by decide) rfl (fun ls hl => ?_)
    refine lv_iconst (v := 0) hx hb dR_count_14 (by decide) ?_
    refine lv_istore_n (lv' := [(3, .int 0), (2, .int 0), (0, .ref (ad 0)), (1, .int a0)]) hx hb dR_count_15 rfl hl (by decide) rfl (fun ls hl => ?_)
    have loop5 : ∀ (n : Nat) (v3 : Int32) (v2 : Int32) (v1 : Int32) (g : fl_G) (z : ((Int32 × Int32) × fl_G)) (H : Heap) (locs : List Loc) (ls : Array Slot), fR_count_L16 n v3 v2 v1 g = some z → va_P (dC, dI) al_cl (fl_ws 14 (rf_sh ca ad) ad g) H → va_S (fl_A 14 ad) s.heap H locs → lv_has ls 4 [(3, .int v3), (2, .int v2), (0, .ref (ad 0)), (1, .int v1)] → (∀ (H : Heap) (locs : List Loc) (ls : Array Slot), va_P (dC, dI) al_cl (fl_ws 14 (rf_sh ca ad) ad z.2) H → va_S (fl_A 14 ad) s.heap H locs → lv_has ls 4 [(3, .int z.1.1), (2, .int z.1.2), (0, .ref (ad 0)), (1, .int v1)] → W p l e ({ frames := 1, cells := 0, slots := 0, locals := 22 }) s m ([.ref (ad 0), .int a0] : List Value).toArray below meth c H locs 0 0 (MQ below (fl_QI (dC, dI) al_cl 14 (rf_sh ca ad) ad r g1) ([.ref (ad 0), .int a0] : List Value).toArray s 0 0 (fl_A 14 ad)) (F0 m 46 ls [])) → W p l e ({ frames := 1, cells := 0, slots := 0, locals := 22 }) s m ([.ref (ad 0), .int a0] : List Value).toArray below meth c H locs 0 0 (MQ below (fl_QI (dC, dI) al_cl 14 (rf_sh ca ad) ad r g1) ([.ref (ad 0), .int a0] : List Value).toArray s 0 0 (fl_A 14 ad)) (F0 m 16 ls []) := by
      intro n
      clear h hP hS hl
      induction n with
      | zero => intro v3 v2 v1 g z H locs ls h; cases h
      | succ n ih5 =>
        intro v3 v2 v1 g z H locs ls h hP hS hl K5
        have h : fR_count_B16 (fR_count_L16 n) v3 v2 v1 g = some z := h
        unfold fR_count_B16 at h
        refine lv_iload_n hx hb dR_count_16 rfl (lv_at hl 0 rfl) ?_
        refine lv_bipush (v := 24) hx hb dR_count_17 (by decide) ?_
        refine lv_icmp_ge (tgt := 46) hx hb dR_count_19 (by decide) (fun c6 => ?_) (fun c6 => ?_)
        · replace h := fl_pos c6 h
          cases h
          exact K5 _ _ _ hP hS (lv_sub hl [0, 1, 2, 3] rfl)
        · replace h := fl_neg c6 h
          refine lv_aload_n hx hb dR_count_22 rfl (lv_at hl 2 rfl) ?_
          refine rf_get0 (v := .ref (ad 3)) hx hb hts rf_in0 hown hK hP (q := 0) rfl 3 (by decide) (hts _ gm_505) rfl dR_count_23 ?_
          refine lv_iload_n hx hb dR_count_26 rfl (lv_at hl 0 rfl) ?_
          replace h := fl_ck_some h
          obtain ⟨hi7, h⟩ := h
          refine rf_iald hx hb hK hP (q := 3) rfl hi7 dR_count_27 ?_
          refine lv_iload_n hx hb dR_count_28 rfl (lv_at hl 3 rfl) ?_
          refine lv_icmp_ne (tgt := 38) hx hb dR_count_29 (by decide) (fun c8 => ?_) (fun c8 => ?_)
          · replace h := fl_neg c8 h
            refine lv_iload_n hx hb dR_count_38 rfl (lv_at hl 1 rfl) ?_
            refine lv_istore_n (lv' := [(2, .int v2), (3, .int v3), (0, .ref (ad 0)), (1, .int v1)]) hx hb dR_count_39 rfl hl (by decide) rfl (fun ls hl => ?_)
            refine lv_iinc (v := (v3 + 1)) (lv' := [(3, .int (v3 + 1)), (2, .int v2), (0, .ref (ad 0)), (1, .int v1)]) hx hb dR_count_40 hl (k := 1) rfl rfl (by decide) rfl (fun ls hl => ?_)
            refine lv_goto (tgt := 16) hx hb dR_count_43 (by decide) ?_
            exact ih5 (v3 + 1) v2 v1 _ _ _ _ _ h hP hS (lv_sub hl [0, 1, 2, 3] rfl) K5
          · replace h := fl_pos c8 h
            refine lv_iload_n hx hb dR_count_32 rfl (lv_at hl 1 rfl) ?_
            refine lv_iconst (v := 1) hx hb dR_count_33 (by decide) ?_
            refine lv_iadd hx hb dR_count_34 ?_
            refine lv_goto (tgt := 39) hx hb dR_count_35 (by decide) ?_
            refine lv_istore_n (lv' := [(2, .int (v2 + 1)), (3, .int v3), (0, .ref (ad 0)), (1, .int v1)]) hx hb dR_count_39 rfl hl (by decide) rfl (fun ls hl => ?_)
            refine lv_iinc (v := (v3 + 1)) (lv' := [(3, .int (v3 + 1)), (2, .int (v2 + 1)), (0, .ref (ad 0)), (1, .int v1)]) hx hb dR_count_40 hl (k := 1) rfl rfl (by decide) rfl (fun ls hl => ?_)
            refine lv_goto (tgt := 16) hx hb dR_count_43 (by decide) ?_
            exact ih5 (v3 + 1) (v2 + 1) v1 _ _ _ _ _ h hP hS (lv_sub hl [0, 1, 2, 3] rfl) K5
    obtain ⟨r9, g10, hc11, h⟩ := fl_bd_some h
    refine loop5 1000 0 0 a0 _ (r9, g10) _ _ _ hc11 hP hS (lv_sub hl [0, 1, 2, 3] rfl) (fun H locs ls hP hS hl => ?_)
    have hP : va_P (dC, dI) al_cl (fl_ws 14 (rf_sh ca ad) ad g10) H := hP
    have hl : lv_has ls 4 [(3, .int r9.1), (2, .int r9.2), (0, .ref (ad 0)), (1, .int a0)] := hl
    refine lv_iload_n hx hb dR_count_46 rfl (lv_at hl 1 rfl) ?_
    exact fl_iret hx hb hr hlocks hP hS h dR_count_47
  · replace h := fl_pos c4 h
    refine lv_iconst (v := (-1)) hx hb dR_count_10 (by decide) ?_
    exact fl_iret hx hb hr hlocks hP hS h dR_count_11
def yR_blocks : MethodName := ⟨"MeshedSpansModel", "blocks", "()I"⟩
def wR_blocks : List Cond := .code yR_blocks prog_8_method_39_code 3 (some .int) :: gw
theorem kR_blocks {R : Room} {s : State} {args : Array Value} {own : String} {ix : Nat} (hts : ∀ w ∈ gw, w.before args s = true) (hl : (Cond.methodLink own ix yR_blocks).before args s = true) (hR : 2 + 1 ≤ R.frames ∧ 8 + (3 + 11) + 43 ≤ R.locals) : CallW R s args own "MeshedSpansModel" ix yR_blocks prog_8_method_39_code 3 (some .int) wR_blocks { frames := 2, cells := 0, slots := 0, locals := 43 } 0 0 0 := ⟨callB_of (rm := { frames := 2, cells := 0, slots := 0, locals := 43 }) 0 hts (gw_c (ct := .code yR_blocks prog_8_method_39_code 3 (some .int)) gm_680) rfl rfl rfl (hts _ gm_47) hl (by decide +kernel) hR, hts _ gm_678, hts _ gm_679⟩
theorem dR_blocks_0 : decode prog_8_method_39_code 0 = .ok (.iconst 0, 1) := by decide +kernel
theorem dR_blocks_1 : decode prog_8_method_39_code 1 = .ok (.istore_n 1, 1) := by decide +kernel
theorem dR_blocks_2 : decode prog_8_method_39_code 2 = .ok (.iconst 0, 1) := by decide +kernel
theorem dR_blocks_3 : decode prog_8_method_39_code 3 = .ok (.istore_n 2, 1) := by decide +kernel
theorem dR_blocks_4 : decode prog_8_method_39_code 4 = .ok (.iload_n 2, 1) := by decide +kernel
theorem dR_blocks_5 : decode prog_8_method_39_code 5 = .ok (.bipush 24, 2) := by decide +kernel
theorem dR_blocks_7 : decode prog_8_method_39_code 7 = .ok (.if_icmp .ge 26, 3) := by decide +kernel
theorem dR_blocks_10 : decode prog_8_method_39_code 10 = .ok (.aload_n 0, 1) := by decide +kernel
theorem dR_blocks_11 : decode prog_8_method_39_code 11 = .ok (.getfield 31, 3) := by decide +kernel
theorem dR_blocks_14 : decode prog_8_method_39_code 14 = .ok (.iload_n 2, 1) := by decide +kernel
theorem dR_blocks_15 : decode prog_8_method_39_code 15 = .ok (.iaload, 1) := by decide +kernel
theorem dR_blocks_16 : decode prog_8_method_39_code 16 = .ok (.ifCond .le 9, 3) := by decide +kernel
theorem dR_blocks_19 : decode prog_8_method_39_code 19 = .ok (.iload_n 1, 1) := by decide +kernel
theorem dR_blocks_20 : decode prog_8_method_39_code 20 = .ok (.iconst 1, 1) := by decide +kernel
theorem dR_blocks_21 : decode prog_8_method_39_code 21 = .ok (.iadd, 1) := by decide +kernel
theorem dR_blocks_22 : decode prog_8_method_39_code 22 = .ok (.goto 4, 3) := by decide +kernel
theorem dR_blocks_25 : decode prog_8_method_39_code 25 = .ok (.iload_n 1, 1) := by decide +kernel
theorem dR_blocks_26 : decode prog_8_method_39_code 26 = .ok (.istore_n 1, 1) := by decide +kernel
theorem dR_blocks_27 : decode prog_8_method_39_code 27 = .ok (.iinc 2 1, 3) := by decide +kernel
theorem dR_blocks_30 : decode prog_8_method_39_code 30 = .ok (.goto (-26), 3) := by decide +kernel
theorem dR_blocks_33 : decode prog_8_method_39_code 33 = .ok (.iconst 0, 1) := by decide +kernel
theorem dR_blocks_34 : decode prog_8_method_39_code 34 = .ok (.istore_n 2, 1) := by decide +kernel
theorem dR_blocks_35 : decode prog_8_method_39_code 35 = .ok (.iload_n 2, 1) := by decide +kernel
theorem dR_blocks_36 : decode prog_8_method_39_code 36 = .ok (.bipush 12, 2) := by decide +kernel
theorem dR_blocks_38 : decode prog_8_method_39_code 38 = .ok (.if_icmp .ge 31, 3) := by decide +kernel
theorem dR_blocks_41 : decode prog_8_method_39_code 41 = .ok (.aload_n 0, 1) := by decide +kernel
theorem dR_blocks_42 : decode prog_8_method_39_code 42 = .ok (.getfield 7, 3) := by decide +kernel
theorem dR_blocks_45 : decode prog_8_method_39_code 45 = .ok (.iload_n 2, 1) := by decide +kernel
theorem dR_blocks_46 : decode prog_8_method_39_code 46 = .ok (.iaload, 1) := by decide +kernel
theorem dR_blocks_47 : decode prog_8_method_39_code 47 = .ok (.iconst 1, 1) := by decide +kernel
theorem dR_blocks_48 : decode prog_8_method_39_code 48 = .ok (.if_icmp .ne 13, 3) := by decide +kernel
theorem dR_blocks_51 : decode prog_8_method_39_code 51 = .ok (.iload_n 1, 1) := by decide +kernel
theorem dR_blocks_52 : decode prog_8_method_39_code 52 = .ok (.aload_n 0, 1) := by decide +kernel
theorem dR_blocks_53 : decode prog_8_method_39_code 53 = .ok (.iload_n 2, 1) := by decide +kernel
theorem dR_blocks_54 : decode prog_8_method_39_code 54 = .ok (.invokevirtual 64, 3) := by decide +kernel
theorem dR_blocks_57 : decode prog_8_method_39_code 57 = .ok (.iadd, 1) := by decide +kernel
theorem dR_blocks_58 : decode prog_8_method_39_code 58 = .ok (.goto 4, 3) := by decide +kernel
theorem dR_blocks_61 : decode prog_8_method_39_code 61 = .ok (.iload_n 1, 1) := by decide +kernel
theorem dR_blocks_62 : decode prog_8_method_39_code 62 = .ok (.istore_n 1, 1) := by decide +kernel
theorem dR_blocks_63 : decode prog_8_method_39_code 63 = .ok (.iinc 2 1, 3) := by decide +kernel
theorem dR_blocks_66 : decode prog_8_method_39_code 66 = .ok (.goto (-31), 3) := by decide +kernel
theorem dR_blocks_69 : decode prog_8_method_39_code 69 = .ok (.iload_n 1, 1) := by decide +kernel
theorem dR_blocks_70 : decode prog_8_method_39_code 70 = .ok (.ireturn, 1) := by decide +kernel
def fR_blocks_B4 (rec : Int32 → Int32 → fl_G → Option ((Int32 × Int32) × fl_G)) (v2 : Int32) (v1 : Int32) (g : fl_G) : Option ((Int32 × Int32) × fl_G) :=
  if 24 ≤ v2 then (some ((v2, v1), g)) else (fl_ck (fl_in v2 24) (if (g 8 (Int32.toNatClampNeg v2)) ≤ 0 then (rec (v2 + 1) v1 g) else (rec (v2 + 1) (v1 + 1) g)))
def fR_blocks_L4 : Nat → Int32 → Int32 → fl_G → Option ((Int32 × Int32) × fl_G)
  | 0, _, _, _ => none
  | n + 1, v2, v1, g => fR_blocks_B4 (fR_blocks_L4 n) v2 v1 g
def fR_blocks_B35 (rec : Int32 → Int32 → fl_G → Option ((Int32 × Int32) × fl_G)) (v2 : Int32) (v1 : Int32) (g : fl_G) : Option ((Int32 × Int32) × fl_G) :=
  if 12 ≤ v2 then (some ((v2, v1), g)) else (fl_ck (fl_in v2 12) (if (g 1 (Int32.toNatClampNeg v2)) = 1 then (fl_bd (fR_used v2 g) (fun r12 g13 => rec (v2 + 1) (v1 + r12) g13)) else (rec (v2 + 1) v1 g)))
def fR_blocks_L35 : Nat → Int32 → Int32 → fl_G → Option ((Int32 × Int32) × fl_G)
  | 0, _, _, _ => none
  | n + 1, v2, v1, g => fR_blocks_B35 (fR_blocks_L35 n) v2 v1 g
def fR_blocks (g : fl_G) : Option (Int32 × fl_G) :=
  fl_bd (fR_blocks_L4 1000 0 0 g) (fun r5 g6 => fl_bd (fR_blocks_L35 1000 0 r5.2 g6) (fun r15 g16 => some (r15.2, g16)))
set_option maxHeartbeats 4000000 in
set_option maxRecDepth 100000 in
theorem cR_blocks (l : Launch) (dC : Nat → ClassId) (dI : Nat → Nat → Nat) (ca : Nat → ClassId) (ad : Nat → Nat) (hI : fl_inj 14 ad) {g g1 : fl_G} {r : Int32} (h : fR_blocks g = some (r, g1)) : Met l yR_blocks wR_blocks ({ frames := 2, cells := 0, slots := 0, locals := 43 }) (va_Pc [.ref (ad 0)] (fl_Pre (dC, dI) al_cl 14 (rf_sh ca ad) ad (rf_ty ca) rf_ns g)) (fl_QI (dC, dI) al_cl 14 (rf_sh ca ad) ad r g1) 0 0 (fl_A 14 ad) := by
  refine fl_of (cc := prog_8_method_39_code) (maxL := 3) (ret := (some .int)) (by decide) rfl (Nat.le_of_ble_eq_true rfl) ?_
  intro p e s m below meth c ls hx hb hr hml hts hown hlocks hP hK hN hl
  have hown : s.vm.findClass "MeshedSpansModel" = some m.cls := hown
  have hS : va_S (fl_A 14 ad) s.heap s.heap [] := va_S.rf
  have hl : lv_has ls 3 [(0, .ref (ad 0))] := hl
  unfold fR_blocks at h
  refine lv_iconst (v := 0) hx hb dR_blocks_0 (by decide) ?_
  refine lv_istore_n (lv' := [(1, .int 0), (0, .ref (ad 0))]) hx hb dR_blocks_1 rfl hl (by decide) rfl (fun ls hl => ?_)
  refine lv_iconst (v := 0) hx hb dR_blocks_2 (by decide) ?_
  refine lv_istore_n (lv' := [(2, .int 0), (1, .int 0), (0, .ref (ad 0))]) hx hb dR_blocks_3 rfl hl (by decide) rfl (fun ls hl => ?_)
  have loop1 : ∀ (n : Nat) (v2 : Int32) (v1 : Int32) (g : fl_G) (z : ((Int32 × Int32) × fl_G)) (H : Heap) (locs : List Loc) (ls : Array Slot), fR_blocks_L4 n v2 v1 g = some z → va_P (dC, dI) al_cl (fl_ws 14 (rf_sh ca ad) ad g) H → va_S (fl_A 14 ad) s.heap H locs → lv_has ls 3 [(2, .int v2), (1, .int v1), (0, .ref (ad 0))] → (∀ (H : Heap) (locs : List Loc) (ls : Array Slot), va_P (dC, dI) al_cl (fl_ws 14 (rf_sh ca ad) ad z.2) H → va_S (fl_A 14 ad) s.heap H locs → lv_has ls 3 [(2, .int z.1.1), (1, .int z.1.2), (0, .ref (ad 0))] → W p l e ({ frames := 2, cells := 0, slots := 0, locals := 43 }) s m ([.ref (ad 0)] : List Value).toArray below meth c H locs 0 0 (MQ below (fl_QI (dC, dI) al_cl 14 (rf_sh ca ad) ad r g1) ([.ref (ad 0)] : List Value).toArray s 0 0 (fl_A 14 ad)) (F0 m 33 ls [])) → W p l e ({ frames := 2, cells := 0, slots := 0, locals := 43 }) s m ([.ref (ad 0)] : List Value).toArray below meth c H locs 0 0 (MQ below (fl_QI (dC, dI) al_cl 14 (rf_sh ca ad) ad r g1) ([.ref (ad 0)] : List Value).toArray s 0 0 (fl_A 14 ad)) (F0 m 4 ls []) := by
    intro n
    clear h hP hS hl
    induction n with
    | zero => intro v2 v1 g z H locs ls h; cases h
    | succ n ih1 =>
      intro v2 v1 g z H locs ls h hP hS hl K1
      have h : fR_blocks_B4 (fR_blocks_L4 n) v2 v1 g = some z := h
      unfold fR_blocks_B4 at h
      refine lv_iload_n hx hb dR_blocks_4 rfl (lv_at hl 0 rfl) ?_
      refine lv_bipush (v := 24) hx hb dR_blocks_5 (by decide) ?_
      refine lv_icmp_ge (tgt := 33) hx hb dR_blocks_7 (by decide) (fun c2 => ?_) (fun c2 => ?_)
      · replace h := fl_pos c2 h
        cases h
        exact K1 _ _ _ hP hS (lv_sub hl [0, 1, 2] rfl)
      · replace h := fl_neg c2 h
        refine lv_aload_n hx hb dR_blocks_10 rfl (lv_at hl 2 rfl) ?_
        refine rf_get0 (v := .ref (ad 8)) hx hb hts rf_in0 hown hK hP (q := 0) rfl 8 (by decide) (hts _ gm_510) rfl dR_blocks_11 ?_
        refine lv_iload_n hx hb dR_blocks_14 rfl (lv_at hl 0 rfl) ?_
        replace h := fl_ck_some h
        obtain ⟨hi3, h⟩ := h
        refine rf_iald hx hb hK hP (q := 8) rfl hi3 dR_blocks_15 ?_
        refine lv_if_le (tgt := 25) hx hb dR_blocks_16 (by decide) (fun c4 => ?_) (fun c4 => ?_)
        · replace h := fl_pos c4 h
          refine lv_iload_n hx hb dR_blocks_25 rfl (lv_at hl 1 rfl) ?_
          refine lv_istore_n (lv' := [(1, .int v1), (2, .int v2), (0, .ref (ad 0))]) hx hb dR_blocks_26 rfl hl (by decide) rfl (fun ls hl => ?_)
          refine lv_iinc (v := (v2 + 1)) (lv' := [(2, .int (v2 + 1)), (1, .int v1), (0, .ref (ad 0))]) hx hb dR_blocks_27 hl (k := 1) rfl rfl (by decide) rfl (fun ls hl => ?_)
          refine lv_goto (tgt := 4) hx hb dR_blocks_30 (by decide) ?_
          exact ih1 (v2 + 1) v1 _ _ _ _ _ h hP hS (lv_sub hl [0, 1, 2] rfl) K1
        · replace h := fl_neg c4 h
          refine lv_iload_n hx hb dR_blocks_19 rfl (lv_at hl 1 rfl) ?_
          refine lv_iconst (v := 1) hx hb dR_blocks_20 (by decide) ?_
          refine lv_iadd hx hb dR_blocks_21 ?_
          refine lv_goto (tgt := 26) hx hb dR_blocks_22 (by decide) ?_
          refine lv_istore_n (lv' := [(1, .int (v1 + 1)), (2, .int v2), (0, .ref (ad 0))]) hx hb dR_blocks_26 rfl hl (by decide) rfl (fun ls hl => ?_)
          refine lv_iinc (v := (v2 + 1)) (lv' := [(2, .int (v2 + 1)), (1, .int (v1 + 1)), (0, .ref (ad 0))]) hx hb dR_blocks_27 hl (k := 1) rfl rfl (by decide) rfl (fun ls hl => ?_)
          refine lv_goto (tgt := 4) hx hb dR_blocks_30 (by decide) ?_
          exact ih1 (v2 + 1) (v1 + 1) _ _ _ _ _ h hP hS (lv_sub hl [0, 1, 2] rfl) K1
  obtain ⟨r5, g6, hc7, h⟩ := fl_bd_some h
  refine loop1 1000 0 0 _ (r5, g6) _ _ _ hc7 hP hS (lv_sub hl [0, 1, 2] rfl) (fun H locs ls hP hS hl => ?_)
  have hP : va_P (dC, dI) al_cl (fl_ws 14 (rf_sh ca ad) ad g6) H := hP
  have hl : lv_has ls 3 [(2, .int r5.1), (1, .int r5.2), (0, .ref (ad 0))] := hl
  refine lv_iconst (v := 0) hx hb dR_blocks_33 (by decide) ?_
  refine lv_istore_n (lv' := [(2, .int 0), (1, .int r5.2), (0, .ref (ad 0))]) hx hb dR_blocks_34 rfl hl (by decide) rfl (fun ls hl => ?_)
  have loop8 : ∀ (n : Nat) (v2 : Int32) (v1 : Int32) (g : fl_G) (z : ((Int32 × Int32) × fl_G)) (H : Heap) (locs : List Loc) (ls : Array Slot), fR_blocks_L35 n v2 v1 g = some z → va_P (dC, dI) al_cl (fl_ws 14 (rf_sh ca ad) ad g) H → va_S (fl_A 14 ad) s.heap H locs → lv_has ls 3 [(2, .int v2), (1, .int v1), (0, .ref (ad 0))] → (∀ (H : Heap) (locs : List Loc) (ls : Array Slot), va_P (dC, dI) al_cl (fl_ws 14 (rf_sh ca ad) ad z.2) H → va_S (fl_A 14 ad) s.heap H locs → lv_has ls 3 [(2, .int z.1.1), (1, .int z.1.2), (0, .ref (ad 0))] → W p l e ({ frames := 2, cells := 0, slots := 0, locals := 43 }) s m ([.ref (ad 0)] : List Value).toArray below meth c H locs 0 0 (MQ below (fl_QI (dC, dI) al_cl 14 (rf_sh ca ad) ad r g1) ([.ref (ad 0)] : List Value).toArray s 0 0 (fl_A 14 ad)) (F0 m 69 ls [])) → W p l e ({ frames := 2, cells := 0, slots := 0, locals := 43 }) s m ([.ref (ad 0)] : List Value).toArray below meth c H locs 0 0 (MQ below (fl_QI (dC, dI) al_cl 14 (rf_sh ca ad) ad r g1) ([.ref (ad 0)] : List Value).toArray s 0 0 (fl_A 14 ad)) (F0 m 35 ls []) := by
    intro n
    clear h hP hS hl
    induction n with
    | zero => intro v2 v1 g z H locs ls h; cases h
    | succ n ih8 =>
      intro v2 v1 g z H locs ls h hP hS hl K8
      have h : fR_blocks_B35 (fR_blocks_L35 n) v2 v1 g = some z := h
      unfold fR_blocks_B35 at h
      refine lv_iload_n hx hb dR_blocks_35 rfl (lv_at hl 0 rfl) ?_
      refine lv_bipush (v := 12) hx hb dR_blocks_36 (by decide) ?_
      refine lv_icmp_ge (tgt := 69) hx hb dR_blocks_38 (by decide) (fun c9 => ?_) (fun c9 => ?_)
      · replace h := fl_pos c9 h
        cases h
        exact K8 _ _ _ hP hS (lv_sub hl [0, 1, 2] rfl)
      · replace h := fl_neg c9 h
        refine lv_aload_n hx hb dR_blocks_41 rfl (lv_at hl 2 rfl) ?_
        refine rf_get0 (v := .ref (ad 1)) hx hb hts rf_in0 hown hK hP (q := 0) rfl 1 (by decide) (hts _ gm_503) rfl dR_blocks_42 ?_
        refine lv_iload_n hx hb dR_blocks_45 rfl (lv_at hl 0 rfl) ?_
        replace h := fl_ck_some h
        obtain ⟨hi10, h⟩ := h
        refine rf_iald hx hb hK hP (q := 1) rfl hi10 dR_blocks_46 ?_
        refine lv_iconst (v := 1) hx hb dR_blocks_47 (by decide) ?_
        refine lv_icmp_ne (tgt := 61) hx hb dR_blocks_48 (by decide) (fun c11 => ?_) (fun c11 => ?_)
        · replace h := fl_neg c11 h
          refine lv_iload_n hx hb dR_blocks_61 rfl (lv_at hl 1 rfl) ?_
          refine lv_istore_n (lv' := [(1, .int v1), (2, .int v2), (0, .ref (ad 0))]) hx hb dR_blocks_62 rfl hl (by decide) rfl (fun ls hl => ?_)
          refine lv_iinc (v := (v2 + 1)) (lv' := [(2, .int (v2 + 1)), (1, .int v1), (0, .ref (ad 0))]) hx hb dR_blocks_63 hl (k := 1) rfl rfl (by decide) rfl (fun ls hl => ?_)
          refine lv_goto (tgt := 35) hx hb dR_blocks_66 (by decide) ?_
          exact ih8 (v2 + 1) v1 _ _ _ _ _ h hP hS (lv_sub hl [0, 1, 2] rfl) K8
        · replace h := fl_pos c11 h
          refine lv_iload_n hx hb dR_blocks_51 rfl (lv_at hl 1 rfl) ?_
          refine lv_aload_n hx hb dR_blocks_52 rfl (lv_at hl 2 rfl) ?_
          refine lv_iload_n hx hb dR_blocks_53 rfl (lv_at hl 0 rfl) ?_
          replace h := fl_bd_some h
          obtain ⟨r12, g13, hc14, h⟩ := h
          refine fl_calli (va_runV (As := [.int v2]) (rest := [.int v1]) ⟨hx, hb, hml, hown, hts⟩ (cR_used l dC dI ca ad hI v2 hc14) (kR_used hts (hts _ gm_587) ⟨Nat.le_of_ble_eq_true rfl, Nat.le_of_ble_eq_true rfl⟩) (fl_preV hK hP hN (rf_lt rfl (by decide)) (rf_sh0 rfl) rfl) rfl rfl hl.1 rfl (lv_room (Nat.le_of_ble_eq_true rfl)) dR_blocks_54 ⟨Nat.le_refl 0, Nat.le_refl 0⟩) hS (fun H locs hP hS => ?_)
          refine lv_iadd hx hb dR_blocks_57 ?_
          refine lv_goto (tgt := 62) hx hb dR_blocks_58 (by decide) ?_
          refine lv_istore_n (lv' := [(1, .int (v1 + r12)), (2, .int v2), (0, .ref (ad 0))]) hx hb dR_blocks_62 rfl hl (by decide) rfl (fun ls hl => ?_)
          refine lv_iinc (v := (v2 + 1)) (lv' := [(2, .int (v2 + 1)), (1, .int (v1 + r12)), (0, .ref (ad 0))]) hx hb dR_blocks_63 hl (k := 1) rfl rfl (by decide) rfl (fun ls hl => ?_)
          refine lv_goto (tgt := 35) hx hb dR_blocks_66 (by decide) ?_
          exact ih8 (v2 + 1) (v1 + r12) _ _ _ _ _ h hP hS (lv_sub hl [0, 1, 2] rfl) K8
  obtain ⟨r15, g16, hc17, h⟩ := fl_bd_some h
  refine loop8 1000 0 r5.2 _ (r15, g16) _ _ _ hc17 hP hS (lv_sub hl [0, 1, 2] rfl) (fun H locs ls hP hS hl => ?_)
  have hP : va_P (dC, dI) al_cl (fl_ws 14 (rf_sh ca ad) ad g16) H := hP
  have hl : lv_has ls 3 [(2, .int r15.1), (1, .int r15.2), (0, .ref (ad 0))] := hl
  refine lv_iload_n hx hb dR_blocks_69 rfl (lv_at hl 1 rfl) ?_
  exact fl_iret hx hb hr hlocks hP hS h dR_blocks_70
def yR_heaps : MethodName := ⟨"MeshedSpansModel", "heaps", "(I)I"⟩
def wR_heaps : List Cond := .code yR_heaps prog_8_method_40_code 4 (some .int) :: gw
theorem kR_heaps {R : Room} {s : State} {args : Array Value} {own : String} {ix : Nat} (hts : ∀ w ∈ gw, w.before args s = true) (hl : (Cond.methodLink own ix yR_heaps).before args s = true) (hR : 1 + 1 ≤ R.frames ∧ 8 + (4 + 11) + 22 ≤ R.locals) : CallW R s args own "MeshedSpansModel" ix yR_heaps prog_8_method_40_code 4 (some .int) wR_heaps { frames := 1, cells := 0, slots := 0, locals := 22 } 0 0 1 := ⟨callB_of (rm := { frames := 1, cells := 0, slots := 0, locals := 22 }) 1 hts (gw_c (ct := .code yR_heaps prog_8_method_40_code 4 (some .int)) gm_684) rfl rfl rfl (hts _ gm_47) hl (by decide +kernel) hR, hts _ gm_682, hts _ gm_683⟩
theorem dR_heaps_0 : decode prog_8_method_40_code 0 = .ok (.iload_n 1, 1) := by decide +kernel
theorem dR_heaps_1 : decode prog_8_method_40_code 1 = .ok (.iconst 0, 1) := by decide +kernel
theorem dR_heaps_2 : decode prog_8_method_40_code 2 = .ok (.iconst 3, 1) := by decide +kernel
theorem dR_heaps_3 : decode prog_8_method_40_code 3 = .ok (.invokestatic 100, 3) := by decide +kernel
theorem dR_heaps_6 : decode prog_8_method_40_code 6 = .ok (.ifCond .ne 5, 3) := by decide +kernel
theorem dR_heaps_9 : decode prog_8_method_40_code 9 = .ok (.iconst (-1), 1) := by decide +kernel
theorem dR_heaps_10 : decode prog_8_method_40_code 10 = .ok (.ireturn, 1) := by decide +kernel
theorem dR_heaps_11 : decode prog_8_method_40_code 11 = .ok (.iconst 0, 1) := by decide +kernel
theorem dR_heaps_12 : decode prog_8_method_40_code 12 = .ok (.istore_n 2, 1) := by decide +kernel
theorem dR_heaps_13 : decode prog_8_method_40_code 13 = .ok (.iconst 0, 1) := by decide +kernel
theorem dR_heaps_14 : decode prog_8_method_40_code 14 = .ok (.istore_n 3, 1) := by decide +kernel
theorem dR_heaps_15 : decode prog_8_method_40_code 15 = .ok (.iload_n 3, 1) := by decide +kernel
theorem dR_heaps_16 : decode prog_8_method_40_code 16 = .ok (.bipush 12, 2) := by decide +kernel
theorem dR_heaps_18 : decode prog_8_method_40_code 18 = .ok (.if_icmp .ge 26, 3) := by decide +kernel
theorem dR_heaps_21 : decode prog_8_method_40_code 21 = .ok (.aload_n 0, 1) := by decide +kernel
theorem dR_heaps_22 : decode prog_8_method_40_code 22 = .ok (.iload_n 3, 1) := by decide +kernel
theorem dR_heaps_23 : decode prog_8_method_40_code 23 = .ok (.iload_n 1, 1) := by decide +kernel
theorem dR_heaps_24 : decode prog_8_method_40_code 24 = .ok (.invokevirtual 60, 3) := by decide +kernel
theorem dR_heaps_27 : decode prog_8_method_40_code 27 = .ok (.ifCond .eq 9, 3) := by decide +kernel
theorem dR_heaps_30 : decode prog_8_method_40_code 30 = .ok (.iload_n 2, 1) := by decide +kernel
theorem dR_heaps_31 : decode prog_8_method_40_code 31 = .ok (.iconst 1, 1) := by decide +kernel
theorem dR_heaps_32 : decode prog_8_method_40_code 32 = .ok (.iadd, 1) := by decide +kernel
theorem dR_heaps_33 : decode prog_8_method_40_code 33 = .ok (.goto 4, 3) := by decide +kernel
theorem dR_heaps_36 : decode prog_8_method_40_code 36 = .ok (.iload_n 2, 1) := by decide +kernel
theorem dR_heaps_37 : decode prog_8_method_40_code 37 = .ok (.istore_n 2, 1) := by decide +kernel
theorem dR_heaps_38 : decode prog_8_method_40_code 38 = .ok (.iinc 3 1, 3) := by decide +kernel
theorem dR_heaps_41 : decode prog_8_method_40_code 41 = .ok (.goto (-26), 3) := by decide +kernel
theorem dR_heaps_44 : decode prog_8_method_40_code 44 = .ok (.iload_n 2, 1) := by decide +kernel
theorem dR_heaps_45 : decode prog_8_method_40_code 45 = .ok (.ireturn, 1) := by decide +kernel
def fR_heaps_B15 (rec : Int32 → Int32 → Int32 → fl_G → Option ((Int32 × Int32) × fl_G)) (v3 : Int32) (v2 : Int32) (v1 : Int32) (g : fl_G) : Option ((Int32 × Int32) × fl_G) :=
  if 12 ≤ v3 then (some ((v3, v2), g)) else (fl_bd (fR_isHeap v3 v1 g) (fun r7 g8 => if r7 = 0 then (rec (v3 + 1) v2 v1 g8) else (rec (v3 + 1) (v2 + 1) v1 g8)))
def fR_heaps_L15 : Nat → Int32 → Int32 → Int32 → fl_G → Option ((Int32 × Int32) × fl_G)
  | 0, _, _, _, _ => none
  | n + 1, v3, v2, v1, g => fR_heaps_B15 (fR_heaps_L15 n) v3 v2 v1 g
def fR_heaps (a0 : Int32) (g : fl_G) : Option (Int32 × fl_G) :=
  fl_bd (fR_within a0 0 3 g) (fun r1 g2 => if r1 = 0 then (some ((-1), g2)) else (fl_bd (fR_heaps_L15 1000 0 0 a0 g2) (fun r11 g12 => some (r11.2, g12))))
set_option maxHeartbeats 4000000 in
set_option maxRecDepth 100000 in
theorem cR_heaps (l : Launch) (dC : Nat → ClassId) (dI : Nat → Nat → Nat) (ca : Nat → ClassId) (ad : Nat → Nat) (hI : fl_inj 14 ad) (a0 : Int32) {g g1 : fl_G} {r : Int32} (h : fR_heaps a0 g = some (r, g1)) : Met l yR_heaps wR_heaps ({ frames := 1, cells := 0, slots := 0, locals := 22 }) (va_Pc [.ref (ad 0), .int a0] (fl_Pre (dC, dI) al_cl 14 (rf_sh ca ad) ad (rf_ty ca) rf_ns g)) (fl_QI (dC, dI) al_cl 14 (rf_sh ca ad) ad r g1) 0 0 (fl_A 14 ad) := by
  refine fl_of (cc := prog_8_method_40_code) (maxL := 4) (ret := (some .int)) (by decide) rfl (Nat.le_of_ble_eq_true rfl) ?_
  intro p e s m below meth c ls hx hb hr hml hts hown hlocks hP hK hN hl
  have hown : s.vm.findClass "MeshedSpansModel" = some m.cls := hown
  have hS : va_S (fl_A 14 ad) s.heap s.heap [] := va_S.rf
  have hl : lv_has ls 4 [(0, .ref (ad 0)), (1, .int a0)] := hl
  unfold fR_heaps at h
  refine lv_iload_n hx hb dR_heaps_0 rfl (lv_at hl 1 rfl) ?_
  refine lv_iconst (v := 0) hx hb dR_heaps_1 (by decide) ?_
  refine lv_iconst (v := 3) hx hb dR_heaps_2 (by decide) ?_
  replace h := fl_bd_some h
  obtain ⟨r1, g2, hc3, h⟩ := h
  refine fl_calli (va_runS (As := [.int a0, .int 0, .int 3]) (rest := []) ⟨hx, hb, hml, hown, hts⟩ (cR_within l dC dI ca ad hI a0 0 3 hc3) (kR_within hts (hts _ gm_559) ⟨Nat.le_of_ble_eq_true rfl, Nat.le_of_ble_eq_true rfl⟩) (fl_preS hK hP hN) rfl rfl hl.1 rfl (lv_room (Nat.le_of_ble_eq_true rfl)) dR_heaps_3 ⟨Nat.le_refl 0, Nat.le_refl 0⟩) hS (fun H locs hP hS => ?_)
  refine lv_if_ne (tgt := 11) hx hb dR_heaps_6 (by decide) (fun c4 => ?_) (fun c4 => ?_)
  · replace h := fl_neg c4 h
    refine lv_iconst (v := 0) hx hb dR_heaps_11 (by decide) ?_
    refine lv_istore_n (lv' := [(2, .int 0), (0, .ref (ad 0)), (1, .int a0)]) hx hb dR_heaps_12 rfl hl (by decide) rfl (fun ls hl => ?_)
    refine lv_iconst (v := 0) hx hb dR_heaps_13 (by decide) ?_
    refine lv_istore_n (lv' := [(3, .int 0), (2, .int 0), (0, .ref (ad 0)), (1, .int a0)]) hx hb dR_heaps_14 rfl hl (by decide) rfl (fun ls hl => ?_)
    have loop5 : ∀ (n : Nat) (v3 : Int32) (v2 : Int32) (v1 : Int32) (g : fl_G) (z : ((Int32 × Int32) × fl_G)) (H : Heap) (locs : List Loc) (ls : Array Slot), fR_heaps_L15 n v3 v2 v1 g = some z → va_P (dC, dI) al_cl (fl_ws 14 (rf_sh ca ad) ad g) H → va_S (fl_A 14 ad) s.heap H locs → lv_has ls 4 [(3, .int v3), (2, .int v2), (0, .ref (ad 0)), (1, .int v1)] → (∀ (H : Heap) (locs : List Loc) (ls : Array Slot), va_P (dC, dI) al_cl (fl_ws 14 (rf_sh ca ad) ad z.2) H → va_S (fl_A 14 ad) s.heap H locs → lv_has ls 4 [(3, .int z.1.1), (2, .int z.1.2), (0, .ref (ad 0)), (1, .int v1)] → W p l e ({ frames := 1, cells := 0, slots := 0, locals := 22 }) s m ([.ref (ad 0), .int a0] : List Value).toArray below meth c H locs 0 0 (MQ below (fl_QI (dC, dI) al_cl 14 (rf_sh ca ad) ad r g1) ([.ref (ad 0), .int a0] : List Value).toArray s 0 0 (fl_A 14 ad)) (F0 m 44 ls [])) → W p l e ({ frames := 1, cells := 0, slots := 0, locals := 22 }) s m ([.ref (ad 0), .int a0] : List Value).toArray below meth c H locs 0 0 (MQ below (fl_QI (dC, dI) al_cl 14 (rf_sh ca ad) ad r g1) ([.ref (ad 0), .int a0] : List Value).toArray s 0 0 (fl_A 14 ad)) (F0 m 15 ls []) := by
      intro n
      clear h hP hS hl
      induction n with
      | zero => intro v3 v2 v1 g z H locs ls h; cases h
      | succ n ih5 =>
        intro v3 v2 v1 g z H locs ls h hP hS hl K5
        have h : fR_heaps_B15 (fR_heaps_L15 n) v3 v2 v1 g = some z := h
        unfold fR_heaps_B15 at h
        refine lv_iload_n hx hb dR_heaps_15 rfl (lv_at hl 0 rfl) ?_
        refine lv_bipush (v := 12) hx hb dR_heaps_16 (by decide) ?_
        refine lv_icmp_ge (tgt := 44) hx hb dR_heaps_18 (by decide) (fun c6 => ?_) (fun c6 => ?_)
        · replace h := fl_pos c6 h
          cases h
          exact K5 _ _ _ hP hS (lv_sub hl [0, 1, 2, 3] rfl)
        · replace h := fl_neg c6 h
          refine lv_aload_n hx hb dR_heaps_21 rfl (lv_at hl 2 rfl) ?_
          refine lv_iload_n hx hb dR_heaps_22 rfl (lv_at hl 0 rfl) ?_
          refine lv_iload_n hx hb dR_heaps_23 rfl (lv_at hl 3 rfl) ?_
          replace h := fl_bd_some h
          obtain ⟨r7, g8, hc9, h⟩ := h
          refine fl_calli (va_runV (As := [.int v3, .int v1]) (rest := []) ⟨hx, hb, hml, hown, hts⟩ (cR_isHeap l dC dI ca ad hI v3 v1 hc9) (kR_isHeap hts (hts _ gm_584) ⟨Nat.le_of_ble_eq_true rfl, Nat.le_of_ble_eq_true rfl⟩) (fl_preV hK hP hN (rf_lt rfl (by decide)) (rf_sh0 rfl) rfl) rfl rfl hl.1 rfl (lv_room (Nat.le_of_ble_eq_true rfl)) dR_heaps_24 ⟨Nat.le_refl 0, Nat.le_refl 0⟩) hS (fun H locs hP hS => ?_)
          refine lv_if_eq (tgt := 36) hx hb dR_heaps_27 (by decide) (fun c10 => ?_) (fun c10 => ?_)
          · replace h := fl_pos c10 h
            refine lv_iload_n hx hb dR_heaps_36 rfl (lv_at hl 1 rfl) ?_
            refine lv_istore_n (lv' := [(2, .int v2), (3, .int v3), (0, .ref (ad 0)), (1, .int v1)]) hx hb dR_heaps_37 rfl hl (by decide) rfl (fun ls hl => ?_)
            refine lv_iinc (v := (v3 + 1)) (lv' := [(3, .int (v3 + 1)), (2, .int v2), (0, .ref (ad 0)), (1, .int v1)]) hx hb dR_heaps_38 hl (k := 1) rfl rfl (by decide) rfl (fun ls hl => ?_)
            refine lv_goto (tgt := 15) hx hb dR_heaps_41 (by decide) ?_
            exact ih5 (v3 + 1) v2 v1 _ _ _ _ _ h hP hS (lv_sub hl [0, 1, 2, 3] rfl) K5
          · replace h := fl_neg c10 h
            refine lv_iload_n hx hb dR_heaps_30 rfl (lv_at hl 1 rfl) ?_
            refine lv_iconst (v := 1) hx hb dR_heaps_31 (by decide) ?_
            refine lv_iadd hx hb dR_heaps_32 ?_
            refine lv_goto (tgt := 37) hx hb dR_heaps_33 (by decide) ?_
            refine lv_istore_n (lv' := [(2, .int (v2 + 1)), (3, .int v3), (0, .ref (ad 0)), (1, .int v1)]) hx hb dR_heaps_37 rfl hl (by decide) rfl (fun ls hl => ?_)
            refine lv_iinc (v := (v3 + 1)) (lv' := [(3, .int (v3 + 1)), (2, .int (v2 + 1)), (0, .ref (ad 0)), (1, .int v1)]) hx hb dR_heaps_38 hl (k := 1) rfl rfl (by decide) rfl (fun ls hl => ?_)
            refine lv_goto (tgt := 15) hx hb dR_heaps_41 (by decide) ?_
            exact ih5 (v3 + 1) (v2 + 1) v1 _ _ _ _ _ h hP hS (lv_sub hl [0, 1, 2, 3] rfl) K5
    obtain ⟨r11, g12, hc13, h⟩ := fl_bd_some h
    refine loop5 1000 0 0 a0 _ (r11, g12) _ _ _ hc13 hP hS (lv_sub hl [0, 1, 2, 3] rfl) (fun H locs ls hP hS hl => ?_)
    have hP : va_P (dC, dI) al_cl (fl_ws 14 (rf_sh ca ad) ad g12) H := hP
    have hl : lv_has ls 4 [(3, .int r11.1), (2, .int r11.2), (0, .ref (ad 0)), (1, .int a0)] := hl
    refine lv_iload_n hx hb dR_heaps_44 rfl (lv_at hl 1 rfl) ?_
    exact fl_iret hx hb hr hlocks hP hS h dR_heaps_45
  · replace h := fl_pos c4 h
    refine lv_iconst (v := (-1)) hx hb dR_heaps_9 (by decide) ?_
    exact fl_iret hx hb hr hlocks hP hS h dR_heaps_10
def yR_attached : MethodName := ⟨"MeshedSpansModel", "attached", "(I)I"⟩
def wR_attached : List Cond := .code yR_attached prog_8_method_41_code 2 (some .int) :: gw
theorem kR_attached {R : Room} {s : State} {args : Array Value} {own : String} {ix : Nat} (hts : ∀ w ∈ gw, w.before args s = true) (hl : (Cond.methodLink own ix yR_attached).before args s = true) (hR : 1 + 1 ≤ R.frames ∧ 8 + (2 + 11) + 22 ≤ R.locals) : CallW R s args own "MeshedSpansModel" ix yR_attached prog_8_method_41_code 2 (some .int) wR_attached { frames := 1, cells := 0, slots := 0, locals := 22 } 0 0 1 := ⟨callB_of (rm := { frames := 1, cells := 0, slots := 0, locals := 22 }) 1 hts (gw_c (ct := .code yR_attached prog_8_method_41_code 2 (some .int)) gm_688) rfl rfl rfl (hts _ gm_47) hl (by decide +kernel) hR, hts _ gm_686, hts _ gm_687⟩
theorem dR_attached_0 : decode prog_8_method_41_code 0 = .ok (.iload_n 1, 1) := by decide +kernel
theorem dR_attached_1 : decode prog_8_method_41_code 1 = .ok (.iconst 0, 1) := by decide +kernel
theorem dR_attached_2 : decode prog_8_method_41_code 2 = .ok (.iconst 3, 1) := by decide +kernel
theorem dR_attached_3 : decode prog_8_method_41_code 3 = .ok (.invokestatic 100, 3) := by decide +kernel
theorem dR_attached_6 : decode prog_8_method_41_code 6 = .ok (.ifCond .eq 27, 3) := by decide +kernel
theorem dR_attached_9 : decode prog_8_method_41_code 9 = .ok (.aload_n 0, 1) := by decide +kernel
theorem dR_attached_10 : decode prog_8_method_41_code 10 = .ok (.getfield 34, 3) := by decide +kernel
theorem dR_attached_13 : decode prog_8_method_41_code 13 = .ok (.iload_n 1, 1) := by decide +kernel
theorem dR_attached_14 : decode prog_8_method_41_code 14 = .ok (.iaload, 1) := by decide +kernel
theorem dR_attached_15 : decode prog_8_method_41_code 15 = .ok (.iconst (-1), 1) := by decide +kernel
theorem dR_attached_16 : decode prog_8_method_41_code 16 = .ok (.if_icmp .eq 17, 3) := by decide +kernel
theorem dR_attached_19 : decode prog_8_method_41_code 19 = .ok (.aload_n 0, 1) := by decide +kernel
theorem dR_attached_20 : decode prog_8_method_41_code 20 = .ok (.getfield 19, 3) := by decide +kernel
theorem dR_attached_23 : decode prog_8_method_41_code 23 = .ok (.aload_n 0, 1) := by decide +kernel
theorem dR_attached_24 : decode prog_8_method_41_code 24 = .ok (.getfield 34, 3) := by decide +kernel
theorem dR_attached_27 : decode prog_8_method_41_code 27 = .ok (.iload_n 1, 1) := by decide +kernel
theorem dR_attached_28 : decode prog_8_method_41_code 28 = .ok (.iaload, 1) := by decide +kernel
theorem dR_attached_29 : decode prog_8_method_41_code 29 = .ok (.iaload, 1) := by decide +kernel
theorem dR_attached_30 : decode prog_8_method_41_code 30 = .ok (.goto 4, 3) := by decide +kernel
theorem dR_attached_33 : decode prog_8_method_41_code 33 = .ok (.iconst (-1), 1) := by decide +kernel
theorem dR_attached_34 : decode prog_8_method_41_code 34 = .ok (.ireturn, 1) := by decide +kernel
def fR_attached (a0 : Int32) (g : fl_G) : Option (Int32 × fl_G) :=
  fl_bd (fR_within a0 0 3 g) (fun r1 g2 => if r1 = 0 then (some ((-1), g2)) else (fl_ck (fl_in a0 4) (if (g2 9 (Int32.toNatClampNeg a0)) = (-1) then (some ((-1), g2)) else (fl_ck (fl_in a0 4) (fl_ck (fl_in (g2 9 (Int32.toNatClampNeg a0)) 12) (some ((g2 4 (Int32.toNatClampNeg (g2 9 (Int32.toNatClampNeg a0)))), g2)))))))
set_option maxHeartbeats 4000000 in
set_option maxRecDepth 100000 in
theorem cR_attached (l : Launch) (dC : Nat → ClassId) (dI : Nat → Nat → Nat) (ca : Nat → ClassId) (ad : Nat → Nat) (hI : fl_inj 14 ad) (a0 : Int32) {g g1 : fl_G} {r : Int32} (h : fR_attached a0 g = some (r, g1)) : Met l yR_attached wR_attached ({ frames := 1, cells := 0, slots := 0, locals := 22 }) (va_Pc [.ref (ad 0), .int a0] (fl_Pre (dC, dI) al_cl 14 (rf_sh ca ad) ad (rf_ty ca) rf_ns g)) (fl_QI (dC, dI) al_cl 14 (rf_sh ca ad) ad r g1) 0 0 (fl_A 14 ad) := by
  refine fl_of (cc := prog_8_method_41_code) (maxL := 2) (ret := (some .int)) (by decide) rfl (Nat.le_of_ble_eq_true rfl) ?_
  intro p e s m below meth c ls hx hb hr hml hts hown hlocks hP hK hN hl
  have hown : s.vm.findClass "MeshedSpansModel" = some m.cls := hown
  have hS : va_S (fl_A 14 ad) s.heap s.heap [] := va_S.rf
  have hl : lv_has ls 2 [(0, .ref (ad 0)), (1, .int a0)] := hl
  unfold fR_attached at h
  refine lv_iload_n hx hb dR_attached_0 rfl (lv_at hl 1 rfl) ?_
  refine lv_iconst (v := 0) hx hb dR_attached_1 (by decide) ?_
  refine lv_iconst (v := 3) hx hb dR_attached_2 (by decide) ?_
  replace h := fl_bd_some h
  obtain ⟨r1, g2, hc3, h⟩ := h
  refine fl_calli (va_runS (As := [.int a0, .int 0, .int 3]) (rest := []) ⟨hx, hb, hml, hown, hts⟩ (cR_within l dC dI ca ad hI a0 0 3 hc3) (kR_within hts (hts _ gm_559) ⟨Nat.le_of_ble_eq_true rfl, Nat.le_of_ble_eq_true rfl⟩) (fl_preS hK hP hN) rfl rfl hl.1 rfl (lv_room (Nat.le_of_ble_eq_true rfl)) dR_attached_3 ⟨Nat.le_refl 0, Nat.le_refl 0⟩) hS (fun H locs hP hS => ?_)
  refine lv_if_eq (tgt := 33) hx hb dR_attached_6 (by decide) (fun c4 => ?_) (fun c4 => ?_)
  · replace h := fl_pos c4 h
    refine lv_iconst (v := (-1)) hx hb dR_attached_33 (by decide) ?_
    exact fl_iret hx hb hr hlocks hP hS h dR_attached_34
  · replace h := fl_neg c4 h
    refine lv_aload_n hx hb dR_attached_9 rfl (lv_at hl 0 rfl) ?_
    refine rf_get0 (v := .ref (ad 9)) hx hb hts rf_in0 hown hK hP (q := 0) rfl 10 (by decide) (hts _ gm_512) rfl dR_attached_10 ?_
    refine lv_iload_n hx hb dR_attached_13 rfl (lv_at hl 1 rfl) ?_
    replace h := fl_ck_some h
    obtain ⟨hi5, h⟩ := h
    refine rf_iald hx hb hK hP (q := 9) rfl hi5 dR_attached_14 ?_
    refine lv_iconst (v := (-1)) hx hb dR_attached_15 (by decide) ?_
    refine lv_icmp_eq (tgt := 33) hx hb dR_attached_16 (by decide) (fun c6 => ?_) (fun c6 => ?_)
    · replace h := fl_pos c6 h
      refine lv_iconst (v := (-1)) hx hb dR_attached_33 (by decide) ?_
      exact fl_iret hx hb hr hlocks hP hS h dR_attached_34
    · replace h := fl_neg c6 h
      refine lv_aload_n hx hb dR_attached_19 rfl (lv_at hl 0 rfl) ?_
      refine rf_get0 (v := .ref (ad 4)) hx hb hts rf_in0 hown hK hP (q := 0) rfl 4 (by decide) (hts _ gm_506) rfl dR_attached_20 ?_
      refine lv_aload_n hx hb dR_attached_23 rfl (lv_at hl 0 rfl) ?_
      refine rf_get0 (v := .ref (ad 9)) hx hb hts rf_in0 hown hK hP (q := 0) rfl 10 (by decide) (hts _ gm_512) rfl dR_attached_24 ?_
      refine lv_iload_n hx hb dR_attached_27 rfl (lv_at hl 1 rfl) ?_
      replace h := fl_ck_some h
      obtain ⟨hi7, h⟩ := h
      refine rf_iald hx hb hK hP (q := 9) rfl hi7 dR_attached_28 ?_
      replace h := fl_ck_some h
      obtain ⟨hi8, h⟩ := h
      refine rf_iald hx hb hK hP (q := 4) rfl hi8 dR_attached_29 ?_
      refine lv_goto (tgt := 34) hx hb dR_attached_30 (by decide) ?_
      exact fl_iret hx hb hr hlocks hP hS h dR_attached_34
def yR_heapOf : MethodName := ⟨"MeshedSpansModel", "heapOf", "(I)I"⟩
def wR_heapOf : List Cond := .code yR_heapOf prog_8_method_42_code 2 (some .int) :: gw
theorem kR_heapOf {R : Room} {s : State} {args : Array Value} {own : String} {ix : Nat} (hts : ∀ w ∈ gw, w.before args s = true) (hl : (Cond.methodLink own ix yR_heapOf).before args s = true) (hR : 5 + 1 ≤ R.frames ∧ 8 + (2 + 11) + 108 ≤ R.locals) : CallW R s args own "MeshedSpansModel" ix yR_heapOf prog_8_method_42_code 2 (some .int) wR_heapOf { frames := 5, cells := 0, slots := 0, locals := 108 } 0 0 1 := ⟨callB_of (rm := { frames := 5, cells := 0, slots := 0, locals := 108 }) 1 hts (gw_c (ct := .code yR_heapOf prog_8_method_42_code 2 (some .int)) gm_692) rfl rfl rfl (hts _ gm_47) hl (by decide +kernel) hR, hts _ gm_690, hts _ gm_691⟩
theorem dR_heapOf_0 : decode prog_8_method_42_code 0 = .ok (.aload_n 0, 1) := by decide +kernel
theorem dR_heapOf_1 : decode prog_8_method_42_code 1 = .ok (.iload_n 1, 1) := by decide +kernel
theorem dR_heapOf_2 : decode prog_8_method_42_code 2 = .ok (.invokevirtual 129, 3) := by decide +kernel
theorem dR_heapOf_5 : decode prog_8_method_42_code 5 = .ok (.ifCond .eq 7, 3) := by decide +kernel
theorem dR_heapOf_8 : decode prog_8_method_42_code 8 = .ok (.iconst (-1), 1) := by decide +kernel
theorem dR_heapOf_9 : decode prog_8_method_42_code 9 = .ok (.goto 26, 3) := by decide +kernel
theorem dR_heapOf_12 : decode prog_8_method_42_code 12 = .ok (.aload_n 0, 1) := by decide +kernel
theorem dR_heapOf_13 : decode prog_8_method_42_code 13 = .ok (.iload_n 1, 1) := by decide +kernel
theorem dR_heapOf_14 : decode prog_8_method_42_code 14 = .ok (.invokevirtual 135, 3) := by decide +kernel
theorem dR_heapOf_17 : decode prog_8_method_42_code 17 = .ok (.ifCond .eq 16, 3) := by decide +kernel
theorem dR_heapOf_20 : decode prog_8_method_42_code 20 = .ok (.aload_n 0, 1) := by decide +kernel
theorem dR_heapOf_21 : decode prog_8_method_42_code 21 = .ok (.getfield 19, 3) := by decide +kernel
theorem dR_heapOf_24 : decode prog_8_method_42_code 24 = .ok (.aload_n 0, 1) := by decide +kernel
theorem dR_heapOf_25 : decode prog_8_method_42_code 25 = .ok (.iload_n 1, 1) := by decide +kernel
theorem dR_heapOf_26 : decode prog_8_method_42_code 26 = .ok (.invokevirtual 114, 3) := by decide +kernel
theorem dR_heapOf_29 : decode prog_8_method_42_code 29 = .ok (.iaload, 1) := by decide +kernel
theorem dR_heapOf_30 : decode prog_8_method_42_code 30 = .ok (.goto 5, 3) := by decide +kernel
theorem dR_heapOf_33 : decode prog_8_method_42_code 33 = .ok (.bipush (-2), 2) := by decide +kernel
theorem dR_heapOf_35 : decode prog_8_method_42_code 35 = .ok (.ireturn, 1) := by decide +kernel
def fR_heapOf (a0 : Int32) (g : fl_G) : Option (Int32 × fl_G) :=
  fl_bd (fR_isLarge a0 g) (fun r1 g2 => if r1 = 0 then (fl_bd (fR_isSmall a0 g2) (fun r5 g6 => if r5 = 0 then (some ((-2), g6)) else (fl_bd (fR_behind a0 g6) (fun r9 g10 => fl_ck (fl_in r9 12) (some ((g10 4 (Int32.toNatClampNeg r9)), g10)))))) else (some ((-1), g2)))
set_option maxHeartbeats 4000000 in
set_option maxRecDepth 100000 in
theorem cR_heapOf (l : Launch) (dC : Nat → ClassId) (dI : Nat → Nat → Nat) (ca : Nat → ClassId) (ad : Nat → Nat) (hI : fl_inj 14 ad) (a0 : Int32) {g g1 : fl_G} {r : Int32} (h : fR_heapOf a0 g = some (r, g1)) : Met l yR_heapOf wR_heapOf ({ frames := 5, cells := 0, slots := 0, locals := 108 }) (va_Pc [.ref (ad 0), .int a0] (fl_Pre (dC, dI) al_cl 14 (rf_sh ca ad) ad (rf_ty ca) rf_ns g)) (fl_QI (dC, dI) al_cl 14 (rf_sh ca ad) ad r g1) 0 0 (fl_A 14 ad) := by
  refine fl_of (cc := prog_8_method_42_code) (maxL := 2) (ret := (some .int)) (by decide) rfl (Nat.le_of_ble_eq_true rfl) ?_
  intro p e s m below meth c ls hx hb hr hml hts hown hlocks hP hK hN hl
  have hown : s.vm.findClass "MeshedSpansModel" = some m.cls := hown
  have hS : va_S (fl_A 14 ad) s.heap s.heap [] := va_S.rf
  have hl : lv_has ls 2 [(0, .ref (ad 0)), (1, .int a0)] := hl
  unfold fR_heapOf at h
  refine lv_aload_n hx hb dR_heapOf_0 rfl (lv_at hl 0 rfl) ?_
  refine lv_iload_n hx hb dR_heapOf_1 rfl (lv_at hl 1 rfl) ?_
  replace h := fl_bd_some h
  obtain ⟨r1, g2, hc3, h⟩ := h
  refine fl_calli (va_runV (As := [.int a0]) (rest := []) ⟨hx, hb, hml, hown, hts⟩ (cR_isLarge l dC dI ca ad hI a0 hc3) (kR_isLarge hts (hts _ gm_632) ⟨Nat.le_of_ble_eq_true rfl, Nat.le_of_ble_eq_true rfl⟩) (fl_preV hK hP hN (rf_lt rfl (by decide)) (rf_sh0 rfl) rfl) rfl rfl hl.1 rfl (lv_room (Nat.le_of_ble_eq_true rfl)) dR_heapOf_2 ⟨Nat.le_refl 0, Nat.le_refl 0⟩) hS (fun H locs hP hS => ?_)
  refine lv_if_eq (tgt := 12) hx hb dR_heapOf_5 (by decide) (fun c4 => ?_) (fun c4 => ?_)
  · replace h := fl_pos c4 h
    refine lv_aload_n hx hb dR_heapOf_12 rfl (lv_at hl 0 rfl) ?_
    refine lv_iload_n hx hb dR_heapOf_13 rfl (lv_at hl 1 rfl) ?_
    replace h := fl_bd_some h
    obtain ⟨r5, g6, hc7, h⟩ := h
    refine fl_calli (va_runV (As := [.int a0]) (rest := []) ⟨hx, hb, hml, hown, hts⟩ (cR_isSmall l dC dI ca ad hI a0 hc7) (kR_isSmall hts (hts _ gm_641) ⟨Nat.le_of_ble_eq_true rfl, Nat.le_of_ble_eq_true rfl⟩) (fl_preV hK hP hN (rf_lt rfl (by decide)) (rf_sh0 rfl) rfl) rfl rfl hl.1 rfl (lv_room (Nat.le_of_ble_eq_true rfl)) dR_heapOf_14 ⟨Nat.le_refl 0, Nat.le_refl 0⟩) hS (fun H locs hP hS => ?_)
    refine lv_if_eq (tgt := 33) hx hb dR_heapOf_17 (by decide) (fun c8 => ?_) (fun c8 => ?_)
    · replace h := fl_pos c8 h
      refine lv_bipush (v := (-2)) hx hb dR_heapOf_33 (by decide) ?_
      exact fl_iret hx hb hr hlocks hP hS h dR_heapOf_35
    · replace h := fl_neg c8 h
      refine lv_aload_n hx hb dR_heapOf_20 rfl (lv_at hl 0 rfl) ?_
      refine rf_get0 (v := .ref (ad 4)) hx hb hts rf_in0 hown hK hP (q := 0) rfl 4 (by decide) (hts _ gm_506) rfl dR_heapOf_21 ?_
      refine lv_aload_n hx hb dR_heapOf_24 rfl (lv_at hl 0 rfl) ?_
      refine lv_iload_n hx hb dR_heapOf_25 rfl (lv_at hl 1 rfl) ?_
      replace h := fl_bd_some h
      obtain ⟨r9, g10, hc11, h⟩ := h
      refine fl_calli (va_runV (As := [.int a0]) (rest := [.ref (ad 4)]) ⟨hx, hb, hml, hown, hts⟩ (cR_behind l dC dI ca ad hI a0 hc11) (kR_behind hts (hts _ gm_614) ⟨Nat.le_of_ble_eq_true rfl, Nat.le_of_ble_eq_true rfl⟩) (fl_preV hK hP hN (rf_lt rfl (by decide)) (rf_sh0 rfl) rfl) rfl rfl hl.1 rfl (lv_room (Nat.le_of_ble_eq_true rfl)) dR_heapOf_26 ⟨Nat.le_refl 0, Nat.le_refl 0⟩) hS (fun H locs hP hS => ?_)
      replace h := fl_ck_some h
      obtain ⟨hi12, h⟩ := h
      refine rf_iald hx hb hK hP (q := 4) rfl hi12 dR_heapOf_29 ?_
      refine lv_goto (tgt := 35) hx hb dR_heapOf_30 (by decide) ?_
      exact fl_iret hx hb hr hlocks hP hS h dR_heapOf_35
  · replace h := fl_neg c4 h
    refine lv_iconst (v := (-1)) hx hb dR_heapOf_8 (by decide) ?_
    refine lv_goto (tgt := 35) hx hb dR_heapOf_9 (by decide) ?_
    exact fl_iret hx hb hr hlocks hP hS h dR_heapOf_35
def yR_vector : MethodName := ⟨"MeshedSpansModel", "vector", "(II)I"⟩
def wR_vector : List Cond := .code yR_vector prog_8_method_43_code 3 (some .int) :: gw
theorem kR_vector {R : Room} {s : State} {args : Array Value} {own : String} {ix : Nat} (hts : ∀ w ∈ gw, w.before args s = true) (hl : (Cond.methodLink own ix yR_vector).before args s = true) (hR : 1 + 1 ≤ R.frames ∧ 8 + (3 + 11) + 22 ≤ R.locals) : CallW R s args own "MeshedSpansModel" ix yR_vector prog_8_method_43_code 3 (some .int) wR_vector { frames := 1, cells := 0, slots := 0, locals := 22 } 0 0 2 := ⟨callB_of (rm := { frames := 1, cells := 0, slots := 0, locals := 22 }) 2 hts (gw_c (ct := .code yR_vector prog_8_method_43_code 3 (some .int)) gm_696) rfl rfl rfl (hts _ gm_47) hl (by decide +kernel) hR, hts _ gm_694, hts _ gm_695⟩
theorem dR_vector_0 : decode prog_8_method_43_code 0 = .ok (.iload_n 1, 1) := by decide +kernel
theorem dR_vector_1 : decode prog_8_method_43_code 1 = .ok (.iconst 0, 1) := by decide +kernel
theorem dR_vector_2 : decode prog_8_method_43_code 2 = .ok (.iconst 3, 1) := by decide +kernel
theorem dR_vector_3 : decode prog_8_method_43_code 3 = .ok (.invokestatic 100, 3) := by decide +kernel
theorem dR_vector_6 : decode prog_8_method_43_code 6 = .ok (.ifCond .eq 43, 3) := by decide +kernel
theorem dR_vector_9 : decode prog_8_method_43_code 9 = .ok (.aload_n 0, 1) := by decide +kernel
theorem dR_vector_10 : decode prog_8_method_43_code 10 = .ok (.getfield 34, 3) := by decide +kernel
theorem dR_vector_13 : decode prog_8_method_43_code 13 = .ok (.iload_n 1, 1) := by decide +kernel
theorem dR_vector_14 : decode prog_8_method_43_code 14 = .ok (.iaload, 1) := by decide +kernel
theorem dR_vector_15 : decode prog_8_method_43_code 15 = .ok (.iconst (-1), 1) := by decide +kernel
theorem dR_vector_16 : decode prog_8_method_43_code 16 = .ok (.if_icmp .eq 33, 3) := by decide +kernel
theorem dR_vector_19 : decode prog_8_method_43_code 19 = .ok (.iload_n 2, 1) := by decide +kernel
theorem dR_vector_20 : decode prog_8_method_43_code 20 = .ok (.iconst 0, 1) := by decide +kernel
theorem dR_vector_21 : decode prog_8_method_43_code 21 = .ok (.aload_n 0, 1) := by decide +kernel
theorem dR_vector_22 : decode prog_8_method_43_code 22 = .ok (.getfield 37, 3) := by decide +kernel
theorem dR_vector_25 : decode prog_8_method_43_code 25 = .ok (.iload_n 1, 1) := by decide +kernel
theorem dR_vector_26 : decode prog_8_method_43_code 26 = .ok (.iaload, 1) := by decide +kernel
theorem dR_vector_27 : decode prog_8_method_43_code 27 = .ok (.iconst 1, 1) := by decide +kernel
theorem dR_vector_28 : decode prog_8_method_43_code 28 = .ok (.isub, 1) := by decide +kernel
theorem dR_vector_29 : decode prog_8_method_43_code 29 = .ok (.invokestatic 100, 3) := by decide +kernel
theorem dR_vector_32 : decode prog_8_method_43_code 32 = .ok (.ifCond .eq 17, 3) := by decide +kernel
theorem dR_vector_35 : decode prog_8_method_43_code 35 = .ok (.aload_n 0, 1) := by decide +kernel
theorem dR_vector_36 : decode prog_8_method_43_code 36 = .ok (.getfield 40, 3) := by decide +kernel
theorem dR_vector_39 : decode prog_8_method_43_code 39 = .ok (.bipush 16, 2) := by decide +kernel
theorem dR_vector_41 : decode prog_8_method_43_code 41 = .ok (.iload_n 1, 1) := by decide +kernel
theorem dR_vector_42 : decode prog_8_method_43_code 42 = .ok (.imul, 1) := by decide +kernel
theorem dR_vector_43 : decode prog_8_method_43_code 43 = .ok (.iload_n 2, 1) := by decide +kernel
theorem dR_vector_44 : decode prog_8_method_43_code 44 = .ok (.iadd, 1) := by decide +kernel
theorem dR_vector_45 : decode prog_8_method_43_code 45 = .ok (.iaload, 1) := by decide +kernel
theorem dR_vector_46 : decode prog_8_method_43_code 46 = .ok (.goto 4, 3) := by decide +kernel
theorem dR_vector_49 : decode prog_8_method_43_code 49 = .ok (.iconst (-1), 1) := by decide +kernel
theorem dR_vector_50 : decode prog_8_method_43_code 50 = .ok (.ireturn, 1) := by decide +kernel
def fR_vector (a0 : Int32) (a1 : Int32) (g : fl_G) : Option (Int32 × fl_G) :=
  fl_bd (fR_within a0 0 3 g) (fun r1 g2 => if r1 = 0 then (some ((-1), g2)) else (fl_ck (fl_in a0 4) (if (g2 9 (Int32.toNatClampNeg a0)) = (-1) then (some ((-1), g2)) else (fl_ck (fl_in a0 4) (fl_bd (fR_within a1 0 ((g2 10 (Int32.toNatClampNeg a0)) - 1) g2) (fun r8 g9 => if r8 = 0 then (some ((-1), g9)) else (fl_ck (fl_in ((16 * a0) + a1) 64) (some ((g9 11 (Int32.toNatClampNeg ((16 * a0) + a1))), g9)))))))))
set_option maxHeartbeats 4000000 in
set_option maxRecDepth 100000 in
theorem cR_vector (l : Launch) (dC : Nat → ClassId) (dI : Nat → Nat → Nat) (ca : Nat → ClassId) (ad : Nat → Nat) (hI : fl_inj 14 ad) (a0 : Int32) (a1 : Int32) {g g1 : fl_G} {r : Int32} (h : fR_vector a0 a1 g = some (r, g1)) : Met l yR_vector wR_vector ({ frames := 1, cells := 0, slots := 0, locals := 22 }) (va_Pc [.ref (ad 0), .int a0, .int a1] (fl_Pre (dC, dI) al_cl 14 (rf_sh ca ad) ad (rf_ty ca) rf_ns g)) (fl_QI (dC, dI) al_cl 14 (rf_sh ca ad) ad r g1) 0 0 (fl_A 14 ad) := by
  refine fl_of (cc := prog_8_method_43_code) (maxL := 3) (ret := (some .int)) (by decide) rfl (Nat.le_of_ble_eq_true rfl) ?_
  intro p e s m below meth c ls hx hb hr hml hts hown hlocks hP hK hN hl
  have hown : s.vm.findClass "MeshedSpansModel" = some m.cls := hown
  have hS : va_S (fl_A 14 ad) s.heap s.heap [] := va_S.rf
  have hl : lv_has ls 3 [(0, .ref (ad 0)), (1, .int a0), (2, .int a1)] := hl
  unfold fR_vector at h
  refine lv_iload_n hx hb dR_vector_0 rfl (lv_at hl 1 rfl) ?_
  refine lv_iconst (v := 0) hx hb dR_vector_1 (by decide) ?_
  refine lv_iconst (v := 3) hx hb dR_vector_2 (by decide) ?_
  replace h := fl_bd_some h
  obtain ⟨r1, g2, hc3, h⟩ := h
  refine fl_calli (va_runS (As := [.int a0, .int 0, .int 3]) (rest := []) ⟨hx, hb, hml, hown, hts⟩ (cR_within l dC dI ca ad hI a0 0 3 hc3) (kR_within hts (hts _ gm_559) ⟨Nat.le_of_ble_eq_true rfl, Nat.le_of_ble_eq_true rfl⟩) (fl_preS hK hP hN) rfl rfl hl.1 rfl (lv_room (Nat.le_of_ble_eq_true rfl)) dR_vector_3 ⟨Nat.le_refl 0, Nat.le_refl 0⟩) hS (fun H locs hP hS => ?_)
  refine lv_if_eq (tgt := 49) hx hb dR_vector_6 (by decide) (fun c4 => ?_) (fun c4 => ?_)
  · replace h := fl_pos c4 h
    refine lv_iconst (v := (-1)) hx hb dR_vector_49 (by decide) ?_
    exact fl_iret hx hb hr hlocks hP hS h dR_vector_50
  · replace h := fl_neg c4 h
    refine lv_aload_n hx hb dR_vector_9 rfl (lv_at hl 0 rfl) ?_
    refine rf_get0 (v := .ref (ad 9)) hx hb hts rf_in0 hown hK hP (q := 0) rfl 10 (by decide) (hts _ gm_512) rfl dR_vector_10 ?_
    refine lv_iload_n hx hb dR_vector_13 rfl (lv_at hl 1 rfl) ?_
    replace h := fl_ck_some h
    obtain ⟨hi5, h⟩ := h
    refine rf_iald hx hb hK hP (q := 9) rfl hi5 dR_vector_14 ?_
    refine lv_iconst (v := (-1)) hx hb dR_vector_15 (by decide) ?_
    refine lv_icmp_eq (tgt := 49) hx hb dR_vector_16 (by decide) (fun c6 => ?_) (fun c6 => ?_)
    · replace h := fl_pos c6 h
      refine lv_iconst (v := (-1)) hx hb dR_vector_49 (by decide) ?_
      exact fl_iret hx hb hr hlocks hP hS h dR_vector_50
    · replace h := fl_neg c6 h
      refine lv_iload_n hx hb dR_vector_19 rfl (lv_at hl 2 rfl) ?_
      refine lv_iconst (v := 0) hx hb dR_vector_20 (by decide) ?_
      refine lv_aload_n hx hb dR_vector_21 rfl (lv_at hl 0 rfl) ?_
      refine rf_get0 (v := .ref (ad 10)) hx hb hts rf_in0 hown hK hP (q := 0) rfl 11 (by decide) (hts _ gm_513) rfl dR_vector_22 ?_
      refine lv_iload_n hx hb dR_vector_25 rfl (lv_at hl 1 rfl) ?_
      replace h := fl_ck_some h
      obtain ⟨hi7, h⟩ := h
      refine rf_iald hx hb hK hP (q := 10) rfl hi7 dR_vector_26 ?_
      refine lv_iconst (v := 1) hx hb dR_vector_27 (by decide) ?_
      refine lv_isub hx hb dR_vector_28 ?_
      replace h := fl_bd_some h
      obtain ⟨r8, g9, hc10, h⟩ := h
      refine fl_calli (va_runS (As := [.int a1, .int 0, .int ((g2 10 (Int32.toNatClampNeg a0)) - 1)]) (rest := []) ⟨hx, hb, hml, hown, hts⟩ (cR_within l dC dI ca ad hI a1 0 ((g2 10 (Int32.toNatClampNeg a0)) - 1) hc10) (kR_within hts (hts _ gm_559) ⟨Nat.le_of_ble_eq_true rfl, Nat.le_of_ble_eq_true rfl⟩) (fl_preS hK hP hN) rfl rfl hl.1 rfl (lv_room (Nat.le_of_ble_eq_true rfl)) dR_vector_29 ⟨Nat.le_refl 0, Nat.le_refl 0⟩) hS (fun H locs hP hS => ?_)
      refine lv_if_eq (tgt := 49) hx hb dR_vector_32 (by decide) (fun c11 => ?_) (fun c11 => ?_)
      · replace h := fl_pos c11 h
        refine lv_iconst (v := (-1)) hx hb dR_vector_49 (by decide) ?_
        exact fl_iret hx hb hr hlocks hP hS h dR_vector_50
      · replace h := fl_neg c11 h
        refine lv_aload_n hx hb dR_vector_35 rfl (lv_at hl 0 rfl) ?_
        refine rf_get0 (v := .ref (ad 11)) hx hb hts rf_in0 hown hK hP (q := 0) rfl 12 (by decide) (hts _ gm_514) rfl dR_vector_36 ?_
        refine lv_bipush (v := 16) hx hb dR_vector_39 (by decide) ?_
        refine lv_iload_n hx hb dR_vector_41 rfl (lv_at hl 1 rfl) ?_
        refine lv_imul hx hb dR_vector_42 ?_
        refine lv_iload_n hx hb dR_vector_43 rfl (lv_at hl 2 rfl) ?_
        refine lv_iadd hx hb dR_vector_44 ?_
        replace h := fl_ck_some h
        obtain ⟨hi12, h⟩ := h
        refine rf_iald hx hb hK hP (q := 11) rfl hi12 dR_vector_45 ?_
        refine lv_goto (tgt := 50) hx hb dR_vector_46 (by decide) ?_
        exact fl_iret hx hb hr hlocks hP hS h dR_vector_50
