def yJ_bitCount : MethodName := ⟨"java/lang/Integer", "bitCount", "(I)I"⟩
def wJ_bitCount : List Cond := .code yJ_bitCount prog_9_method_49_code 1 (some .int) :: gw
theorem kJ_bitCount {R : Room} {s : State} {args : Array Value} {own : String} {ix : Nat} (hts : ∀ w ∈ gw, w.before args s = true) (hl : (Cond.methodLink own ix yJ_bitCount).before args s = true) (hR : 0 + 1 ≤ R.frames ∧ 8 + (1 + 11) + 0 ≤ R.locals) : CallB R s args own ix yJ_bitCount prog_9_method_49_code 1 (some .int) wJ_bitCount { frames := 0, cells := 0, slots := 0, locals := 0 } 0 0 1 ∧ (Cond.static yJ_bitCount).before args s = true := ⟨callB_of (rm := { frames := 0, cells := 0, slots := 0, locals := 0 }) 1 hts (gw_c (ct := .code yJ_bitCount prog_9_method_49_code 1 (some .int)) gm_248) rfl rfl rfl (hts _ gm_48) hl (by decide +kernel) hR, hts _ gm_247⟩
theorem dJ_bitCount_0 : decode prog_9_method_49_code 0 = .ok (.iload_n 0, 1) := by decide +kernel
theorem dJ_bitCount_1 : decode prog_9_method_49_code 1 = .ok (.iload_n 0, 1) := by decide +kernel
theorem dJ_bitCount_2 : decode prog_9_method_49_code 2 = .ok (.iconst 1, 1) := by decide +kernel
theorem dJ_bitCount_3 : decode prog_9_method_49_code 3 = .ok (.iushr, 1) := by decide +kernel
theorem dJ_bitCount_4 : decode prog_9_method_49_code 4 = .ok (.ldc_w 265, 3) := by decide +kernel
theorem dJ_bitCount_7 : decode prog_9_method_49_code 7 = .ok (.iand, 1) := by decide +kernel
theorem dJ_bitCount_8 : decode prog_9_method_49_code 8 = .ok (.isub, 1) := by decide +kernel
theorem dJ_bitCount_9 : decode prog_9_method_49_code 9 = .ok (.istore_n 0, 1) := by decide +kernel
theorem dJ_bitCount_10 : decode prog_9_method_49_code 10 = .ok (.iload_n 0, 1) := by decide +kernel
theorem dJ_bitCount_11 : decode prog_9_method_49_code 11 = .ok (.ldc_w 266, 3) := by decide +kernel
theorem dJ_bitCount_14 : decode prog_9_method_49_code 14 = .ok (.iand, 1) := by decide +kernel
theorem dJ_bitCount_15 : decode prog_9_method_49_code 15 = .ok (.iload_n 0, 1) := by decide +kernel
theorem dJ_bitCount_16 : decode prog_9_method_49_code 16 = .ok (.iconst 2, 1) := by decide +kernel
theorem dJ_bitCount_17 : decode prog_9_method_49_code 17 = .ok (.iushr, 1) := by decide +kernel
theorem dJ_bitCount_18 : decode prog_9_method_49_code 18 = .ok (.ldc_w 266, 3) := by decide +kernel
theorem dJ_bitCount_21 : decode prog_9_method_49_code 21 = .ok (.iand, 1) := by decide +kernel
theorem dJ_bitCount_22 : decode prog_9_method_49_code 22 = .ok (.iadd, 1) := by decide +kernel
theorem dJ_bitCount_23 : decode prog_9_method_49_code 23 = .ok (.istore_n 0, 1) := by decide +kernel
theorem dJ_bitCount_24 : decode prog_9_method_49_code 24 = .ok (.iload_n 0, 1) := by decide +kernel
theorem dJ_bitCount_25 : decode prog_9_method_49_code 25 = .ok (.iload_n 0, 1) := by decide +kernel
theorem dJ_bitCount_26 : decode prog_9_method_49_code 26 = .ok (.iconst 4, 1) := by decide +kernel
theorem dJ_bitCount_27 : decode prog_9_method_49_code 27 = .ok (.iushr, 1) := by decide +kernel
theorem dJ_bitCount_28 : decode prog_9_method_49_code 28 = .ok (.iadd, 1) := by decide +kernel
theorem dJ_bitCount_29 : decode prog_9_method_49_code 29 = .ok (.ldc_w 267, 3) := by decide +kernel
theorem dJ_bitCount_32 : decode prog_9_method_49_code 32 = .ok (.iand, 1) := by decide +kernel
theorem dJ_bitCount_33 : decode prog_9_method_49_code 33 = .ok (.istore_n 0, 1) := by decide +kernel
theorem dJ_bitCount_34 : decode prog_9_method_49_code 34 = .ok (.iload_n 0, 1) := by decide +kernel
theorem dJ_bitCount_35 : decode prog_9_method_49_code 35 = .ok (.iload_n 0, 1) := by decide +kernel
theorem dJ_bitCount_36 : decode prog_9_method_49_code 36 = .ok (.bipush 8, 2) := by decide +kernel
theorem dJ_bitCount_38 : decode prog_9_method_49_code 38 = .ok (.iushr, 1) := by decide +kernel
theorem dJ_bitCount_39 : decode prog_9_method_49_code 39 = .ok (.iadd, 1) := by decide +kernel
theorem dJ_bitCount_40 : decode prog_9_method_49_code 40 = .ok (.istore_n 0, 1) := by decide +kernel
theorem dJ_bitCount_41 : decode prog_9_method_49_code 41 = .ok (.iload_n 0, 1) := by decide +kernel
theorem dJ_bitCount_42 : decode prog_9_method_49_code 42 = .ok (.iload_n 0, 1) := by decide +kernel
theorem dJ_bitCount_43 : decode prog_9_method_49_code 43 = .ok (.bipush 16, 2) := by decide +kernel
theorem dJ_bitCount_45 : decode prog_9_method_49_code 45 = .ok (.iushr, 1) := by decide +kernel
theorem dJ_bitCount_46 : decode prog_9_method_49_code 46 = .ok (.iadd, 1) := by decide +kernel
theorem dJ_bitCount_47 : decode prog_9_method_49_code 47 = .ok (.istore_n 0, 1) := by decide +kernel
theorem dJ_bitCount_48 : decode prog_9_method_49_code 48 = .ok (.iload_n 0, 1) := by decide +kernel
theorem dJ_bitCount_49 : decode prog_9_method_49_code 49 = .ok (.bipush 63, 2) := by decide +kernel
theorem dJ_bitCount_51 : decode prog_9_method_49_code 51 = .ok (.iand, 1) := by decide +kernel
theorem dJ_bitCount_52 : decode prog_9_method_49_code 52 = .ok (.ireturn, 1) := by decide +kernel
def fJ_bitCount (a0 : Int32) (g : fl_G) : Option (Int32 × fl_G) :=
  some (((((((((a0 - ((fl_ushr a0 1) &&& 1431655765)) &&& 858993459) + ((fl_ushr (a0 - ((fl_ushr a0 1) &&& 1431655765)) 2) &&& 858993459)) + (fl_ushr (((a0 - ((fl_ushr a0 1) &&& 1431655765)) &&& 858993459) + ((fl_ushr (a0 - ((fl_ushr a0 1) &&& 1431655765)) 2) &&& 858993459)) 4)) &&& 252645135) + (fl_ushr (((((a0 - ((fl_ushr a0 1) &&& 1431655765)) &&& 858993459) + ((fl_ushr (a0 - ((fl_ushr a0 1) &&& 1431655765)) 2) &&& 858993459)) + (fl_ushr (((a0 - ((fl_ushr a0 1) &&& 1431655765)) &&& 858993459) + ((fl_ushr (a0 - ((fl_ushr a0 1) &&& 1431655765)) 2) &&& 858993459)) 4)) &&& 252645135) 8)) + (fl_ushr ((((((a0 - ((fl_ushr a0 1) &&& 1431655765)) &&& 858993459) + ((fl_ushr (a0 - ((fl_ushr a0 1) &&& 1431655765)) 2) &&& 858993459)) + (fl_ushr (((a0 - ((fl_ushr a0 1) &&& 1431655765)) &&& 858993459) + ((fl_ushr (a0 - ((fl_ushr a0 1) &&& 1431655765)) 2) &&& 858993459)) 4)) &&& 252645135) + (fl_ushr (((((a0 - ((fl_ushr a0 1) &&& 1431655765)) &&& 858993459) + ((fl_ushr (a0 - ((fl_ushr a0 1) &&& 1431655765)) 2) &&& 858993459)) + (fl_ushr (((a0 - ((fl_ushr a0 1) &&& 1431655765)) &&& 858993459) + ((fl_ushr (a0 - ((fl_ushr a0 1) &&& 1431655765)) 2) &&& 858993459)) 4)) &&& 252645135) 8)) 16)) &&& 63), g)
set_option maxHeartbeats 4000000 in
set_option maxRecDepth 100000 in
theorem cJ_bitCount (l : Launch) (dC : Nat → ClassId) (dI : Nat → Nat → Nat) (ca : Nat → ClassId) (ad : Nat → Nat) (hI : fl_inj 32 ad) (a0 : Int32) {g g1 : fl_G} {r : Int32} (h : fJ_bitCount a0 g = some (r, g1)) : Met l yJ_bitCount wJ_bitCount ({ frames := 0, cells := 0, slots := 0, locals := 0 }) (va_Pc [.int a0] (fl_Pre (dC, dI) al_cl 32 (mc_sh ca ad) ad (mc_ty ca) mc_ns g)) (fl_QI (dC, dI) al_cl 32 (mc_sh ca ad) ad r g1) 0 0 (fl_A 32 ad) := by
  refine fl_of (cc := prog_9_method_49_code) (maxL := 1) (ret := (some .int)) (by decide) rfl (Nat.le_of_ble_eq_true rfl) ?_
  intro p e s m below meth c ls hx hb hr hml hts hown hlocks hP hK hN hl
  have hown : s.vm.findClass "java/lang/Integer" = some m.cls := hown
  have hS : va_S (fl_A 32 ad) s.heap s.heap [] := va_S.rf
  have hl : lv_has ls 1 [(0, .int a0)] := hl
  unfold fJ_bitCount at h
  refine lv_iload_n hx hb dJ_bitCount_0 rfl (lv_at hl 0 rfl) ?_
  refine lv_iload_n hx hb dJ_bitCount_1 rfl (lv_at hl 0 rfl) ?_
  refine lv_iconst (v := 1) hx hb dJ_bitCount_2 (by decide) ?_
  refine lv_iushr (v := (fl_ushr a0 1)) hx hb dJ_bitCount_3 rfl ?_
  refine lv_ldcw (v := 1431655765) hx hb hown (hts _ gm_249) dJ_bitCount_4 ?_
  refine lv_iand hx hb dJ_bitCount_7 ?_
  refine lv_isub hx hb dJ_bitCount_8 ?_
  refine lv_istore_n (lv' := [(0, .int (a0 - ((fl_ushr a0 1) &&& 1431655765)))]) hx hb dJ_bitCount_9 rfl hl (by decide) rfl (fun ls hl => ?_)
  refine lv_iload_n hx hb dJ_bitCount_10 rfl (lv_at hl 0 rfl) ?_
  refine lv_ldcw (v := 858993459) hx hb hown (hts _ gm_250) dJ_bitCount_11 ?_
  refine lv_iand hx hb dJ_bitCount_14 ?_
  refine lv_iload_n hx hb dJ_bitCount_15 rfl (lv_at hl 0 rfl) ?_
  refine lv_iconst (v := 2) hx hb dJ_bitCount_16 (by decide) ?_
  refine lv_iushr (v := (fl_ushr (a0 - ((fl_ushr a0 1) &&& 1431655765)) 2)) hx hb dJ_bitCount_17 rfl ?_
  refine lv_ldcw (v := 858993459) hx hb hown (hts _ gm_250) dJ_bitCount_18 ?_
  refine lv_iand hx hb dJ_bitCount_21 ?_
  refine lv_iadd hx hb dJ_bitCount_22 ?_
  refine lv_istore_n (lv' := [(0, .int (((a0 - ((fl_ushr a0 1) &&& 1431655765)) &&& 858993459) + ((fl_ushr (a0 - ((fl_ushr a0 1) &&& 1431655765)) 2) &&& 858993459)))]) hx hb dJ_bitCount_23 rfl hl (by decide) rfl (fun ls hl => ?_)
  refine lv_iload_n hx hb dJ_bitCount_24 rfl (lv_at hl 0 rfl) ?_
  refine lv_iload_n hx hb dJ_bitCount_25 rfl (lv_at hl 0 rfl) ?_
  refine lv_iconst (v := 4) hx hb dJ_bitCount_26 (by decide) ?_
  refine lv_iushr (v := (fl_ushr (((a0 - ((fl_ushr a0 1) &&& 1431655765)) &&& 858993459) + ((fl_ushr (a0 - ((fl_ushr a0 1) &&& 1431655765)) 2) &&& 858993459)) 4)) hx hb dJ_bitCount_27 rfl ?_
  refine lv_iadd hx hb dJ_bitCount_28 ?_
  refine lv_ldcw (v := 252645135) hx hb hown (hts _ gm_251) dJ_bitCount_29 ?_
  refine lv_iand hx hb dJ_bitCount_32 ?_
  refine lv_istore_n (lv' := [(0, .int (((((a0 - ((fl_ushr a0 1) &&& 1431655765)) &&& 858993459) + ((fl_ushr (a0 - ((fl_ushr a0 1) &&& 1431655765)) 2) &&& 858993459)) + (fl_ushr (((a0 - ((fl_ushr a0 1) &&& 1431655765)) &&& 858993459) + ((fl_ushr (a0 - ((fl_ushr a0 1) &&& 1431655765)) 2) &&& 858993459)) 4)) &&& 252645135))]) hx hb dJ_bitCount_33 rfl hl (by decide) rfl (fun ls hl => ?_)
  refine lv_iload_n hx hb dJ_bitCount_34 rfl (lv_at hl 0 rfl) ?_
  refine lv_iload_n hx hb dJ_bitCount_35 rfl (lv_at hl 0 rfl) ?_
  refine lv_bipush (v := 8) hx hb dJ_bitCount_36 (by decide) ?_
  refine lv_iushr (v := (fl_ushr (((((a0 - ((fl_ushr a0 1) &&& 1431655765)) &&& 858993459) + ((fl_ushr (a0 - ((fl_ushr a0 1) &&& 1431655765)) 2) &&& 858993459)) + (fl_ushr (((a0 - ((fl_ushr a0 1) &&& 1431655765)) &&& 858993459) + ((fl_ushr (a0 - ((fl_ushr a0 1) &&& 1431655765)) 2) &&& 858993459)) 4)) &&& 252645135) 8)) hx hb dJ_bitCount_38 rfl ?_
  refine lv_iadd hx hb dJ_bitCount_39 ?_
  refine lv_istore_n (lv' := [(0, .int ((((((a0 - ((fl_ushr a0 1) &&& 1431655765)) &&& 858993459) + ((fl_ushr (a0 - ((fl_ushr a0 1) &&& 1431655765)) 2) &&& 858993459)) + (fl_ushr (((a0 - ((fl_ushr a0 1) &&& 1431655765)) &&& 858993459) + ((fl_ushr (a0 - ((fl_ushr a0 1) &&& 1431655765)) 2) &&& 858993459)) 4)) &&& 252645135) + (fl_ushr (((((a0 - ((fl_ushr a0 1) &&& 1431655765)) &&& 858993459) + ((fl_ushr (a0 - ((fl_ushr a0 1) &&& 1431655765)) 2) &&& 858993459)) + (fl_ushr (((a0 - ((fl_ushr a0 1) &&& 1431655765)) &&& 858993459) + ((fl_ushr (a0 - ((fl_ushr a0 1) &&& 1431655765)) 2) &&& 858993459)) 4)) &&& 252645135) 8)))]) hx hb dJ_bitCount_40 rfl hl (by decide) rfl (fun ls hl => ?_)
  refine lv_iload_n hx hb dJ_bitCount_41 rfl (lv_at hl 0 rfl) ?_
  refine lv_iload_n hx hb dJ_bitCount_42 rfl (lv_at hl 0 rfl) ?_
  refine lv_bipush (v := 16) hx hb dJ_bitCount_43 (by decide) ?_
  refine lv_iushr (v := (fl_ushr ((((((a0 - ((fl_ushr a0 1) &&& 1431655765)) &&& 858993459) + ((fl_ushr (a0 - ((fl_ushr a0 1) &&& 1431655765)) 2) &&& 858993459)) + (fl_ushr (((a0 - ((fl_ushr a0 1) &&& 1431655765)) &&& 858993459) + ((fl_ushr (a0 - ((fl_ushr a0 1) &&& 1431655765)) 2) &&& 858993459)) 4)) &&& 252645135) + (fl_ushr (((((a0 - ((fl_ushr a0 1) &&& 1431655765)) &&& 858993459) + ((fl_ushr (a0 - ((fl_ushr a0 1) &&& 1431655765)) 2) &&& 858993459)) + (fl_ushr (((a0 - ((fl_ushr a0 1) &&& 1431655765)) &&& 858993459) + ((fl_ushr (a0 - ((fl_ushr a0 1) &&& 1431655765)) 2) &&& 858993459)) 4)) &&& 252645135) 8)) 16)) hx hb dJ_bitCount_45 rfl ?_
  refine lv_iadd hx hb dJ_bitCount_46 ?_
  refine lv_istore_n (lv' := [(0, .int (((((((a0 - ((fl_ushr a0 1) &&& 1431655765)) &&& 858993459) + ((fl_ushr (a0 - ((fl_ushr a0 1) &&& 1431655765)) 2) &&& 858993459)) + (fl_ushr (((a0 - ((fl_ushr a0 1) &&& 1431655765)) &&& 858993459) + ((fl_ushr (a0 - ((fl_ushr a0 1) &&& 1431655765)) 2) &&& 858993459)) 4)) &&& 252645135) + (fl_ushr (((((a0 - ((fl_ushr a0 1) &&& 1431655765)) &&& 858993459) + ((fl_ushr (a0 - ((fl_ushr a0 1) &&& 1431655765)) 2) &&& 858993459)) + (fl_ushr (((a0 - ((fl_ushr a0 1) &&& 1431655765)) &&& 858993459) + ((fl_ushr (a0 - ((fl_ushr a0 1) &&& 1431655765)) 2) &&& 858993459)) 4)) &&& 252645135) 8)) + (fl_ushr ((((((a0 - ((fl_ushr a0 1) &&& 1431655765)) &&& 858993459) + ((fl_ushr (a0 - ((fl_ushr a0 1) &&& 1431655765)) 2) &&& 858993459)) + (fl_ushr (((a0 - ((fl_ushr a0 1) &&& 1431655765)) &&& 858993459) + ((fl_ushr (a0 - ((fl_ushr a0 1) &&& 1431655765)) 2) &&& 858993459)) 4)) &&& 252645135) + (fl_ushr (((((a0 - ((fl_ushr a0 1) &&& 1431655765)) &&& 858993459) + ((fl_ushr (a0 - ((fl_ushr a0 1) &&& 1431655765)) 2) &&& 858993459)) + (fl_ushr (((a0 - ((fl_ushr a0 1) &&& 1431655765)) &&& 858993459) + ((fl_ushr (a0 - ((fl_ushr a0 1) &&& 1431655765)) 2) &&& 858993459)) 4)) &&& 252645135) 8)) 16)))]) hx hb dJ_bitCount_47 rfl hl (by decide) rfl (fun ls hl => ?_)
  refine lv_iload_n hx hb dJ_bitCount_48 rfl (lv_at hl 0 rfl) ?_
  refine lv_bipush (v := 63) hx hb dJ_bitCount_49 (by decide) ?_
  refine lv_iand hx hb dJ_bitCount_51 ?_
  exact fl_iret hx hb hr hlocks hP hS h dJ_bitCount_52
def yS_isClass : MethodName := ⟨"MeshedSpans", "isClass", "(I)Z"⟩
def wS_isClass : List Cond := .code yS_isClass prog_1_method_18_code 1 (some .boolean) :: gw
theorem kS_isClass {R : Room} {s : State} {args : Array Value} {own : String} {ix : Nat} (hts : ∀ w ∈ gw, w.before args s = true) (hl : (Cond.methodLink own ix yS_isClass).before args s = true) (hR : 0 + 1 ≤ R.frames ∧ 8 + (1 + 11) + 0 ≤ R.locals) : CallB R s args own ix yS_isClass prog_1_method_18_code 1 (some .boolean) wS_isClass { frames := 0, cells := 0, slots := 0, locals := 0 } 0 0 1 ∧ (Cond.static yS_isClass).before args s = true := ⟨callB_of (rm := { frames := 0, cells := 0, slots := 0, locals := 0 }) 1 hts (gw_c (ct := .code yS_isClass prog_1_method_18_code 1 (some .boolean)) gm_332) rfl rfl rfl (hts _ gm_41) hl (by decide +kernel) hR, hts _ gm_331⟩
theorem kS_isClass_N {R : Room} {s : State} {args : Array Value} {own : String} {ix : Nat} (hts : ∀ w ∈ gw, w.before args s = true) {host : String} (hl : (Cond.methodLinkNest own ix yS_isClass host).before args s = true) (hR : 0 + 1 ≤ R.frames ∧ 8 + (1 + 11) + 0 ≤ R.locals) : va_CN R s args own ix yS_isClass host prog_1_method_18_code 1 (some .boolean) wS_isClass { frames := 0, cells := 0, slots := 0, locals := 0 } 0 0 1 ∧ (Cond.static yS_isClass).before args s = true ∧ True := ⟨va_cnB (rm := { frames := 0, cells := 0, slots := 0, locals := 0 }) 1 hts (gw_c (ct := .code yS_isClass prog_1_method_18_code 1 (some .boolean)) gm_332) rfl rfl rfl (va_Nw.of rfl hl) (hts _ gm_41) (by decide +kernel) hR, hts _ gm_331, trivial⟩
theorem dS_isClass_0 : decode prog_1_method_18_code 0 = .ok (.iload_n 0, 1) := by decide +kernel
theorem dS_isClass_1 : decode prog_1_method_18_code 1 = .ok (.ifCond .lt 12, 3) := by decide +kernel
theorem dS_isClass_4 : decode prog_1_method_18_code 4 = .ok (.iload_n 0, 1) := by decide +kernel
theorem dS_isClass_5 : decode prog_1_method_18_code 5 = .ok (.iconst 4, 1) := by decide +kernel
theorem dS_isClass_6 : decode prog_1_method_18_code 6 = .ok (.if_icmp .ge 7, 3) := by decide +kernel
theorem dS_isClass_9 : decode prog_1_method_18_code 9 = .ok (.iconst 1, 1) := by decide +kernel
theorem dS_isClass_10 : decode prog_1_method_18_code 10 = .ok (.goto 4, 3) := by decide +kernel
theorem dS_isClass_13 : decode prog_1_method_18_code 13 = .ok (.iconst 0, 1) := by decide +kernel
theorem dS_isClass_14 : decode prog_1_method_18_code 14 = .ok (.ireturn, 1) := by decide +kernel
def fS_isClass (a0 : Int32) (g : fl_G) : Option (Int32 × fl_G) :=
  if a0 < 0 then (some (0, g)) else (if 4 ≤ a0 then (some (0, g)) else (some (1, g)))
set_option maxHeartbeats 4000000 in
set_option maxRecDepth 100000 in
theorem cS_isClass (l : Launch) (dC : Nat → ClassId) (dI : Nat → Nat → Nat) (ca : Nat → ClassId) (ad : Nat → Nat) (hI : fl_inj 32 ad) (a0 : Int32) {g g1 : fl_G} {r : Int32} (h : fS_isClass a0 g = some (r, g1)) : Met l yS_isClass wS_isClass ({ frames := 0, cells := 0, slots := 0, locals := 0 }) (va_Pc [.int a0] (fl_Pre (dC, dI) al_cl 32 (mc_sh ca ad) ad (mc_ty ca) mc_ns g)) (fl_QI (dC, dI) al_cl 32 (mc_sh ca ad) ad r g1) 0 0 (fl_A 32 ad) := by
  refine fl_of (cc := prog_1_method_18_code) (maxL := 1) (ret := (some .boolean)) (by decide) rfl (Nat.le_of_ble_eq_true rfl) ?_
  intro p e s m below meth c ls hx hb hr hml hts hown hlocks hP hK hN hl
  have hown : s.vm.findClass "MeshedSpans" = some m.cls := hown
  have hS : va_S (fl_A 32 ad) s.heap s.heap [] := va_S.rf
  have hl : lv_has ls 1 [(0, .int a0)] := hl
  unfold fS_isClass at h
  refine lv_iload_n hx hb dS_isClass_0 rfl (lv_at hl 0 rfl) ?_
  refine lv_if_lt (tgt := 13) hx hb dS_isClass_1 (by decide) (fun c1 => ?_) (fun c1 => ?_)
  · replace h := fl_pos c1 h
    refine lv_iconst (v := 0) hx hb dS_isClass_13 (by decide) ?_
    exact fl_zret hx hb hr hlocks hP hS (Or.inl rfl) h dS_isClass_14
  · replace h := fl_neg c1 h
    refine lv_iload_n hx hb dS_isClass_4 rfl (lv_at hl 0 rfl) ?_
    refine lv_iconst (v := 4) hx hb dS_isClass_5 (by decide) ?_
    refine lv_icmp_ge (tgt := 13) hx hb dS_isClass_6 (by decide) (fun c2 => ?_) (fun c2 => ?_)
    · replace h := fl_pos c2 h
      refine lv_iconst (v := 0) hx hb dS_isClass_13 (by decide) ?_
      exact fl_zret hx hb hr hlocks hP hS (Or.inl rfl) h dS_isClass_14
    · replace h := fl_neg c2 h
      refine lv_iconst (v := 1) hx hb dS_isClass_9 (by decide) ?_
      refine lv_goto (tgt := 14) hx hb dS_isClass_10 (by decide) ?_
      exact fl_zret hx hb hr hlocks hP hS (Or.inr rfl) h dS_isClass_14
def yS_isPhysical : MethodName := ⟨"MeshedSpans", "isPhysical", "(I)Z"⟩
def wS_isPhysical : List Cond := .code yS_isPhysical prog_1_method_19_code 1 (some .boolean) :: gw
theorem kS_isPhysical {R : Room} {s : State} {args : Array Value} {own : String} {ix : Nat} (hts : ∀ w ∈ gw, w.before args s = true) (hl : (Cond.methodLink own ix yS_isPhysical).before args s = true) (hR : 0 + 1 ≤ R.frames ∧ 8 + (1 + 11) + 0 ≤ R.locals) : CallB R s args own ix yS_isPhysical prog_1_method_19_code 1 (some .boolean) wS_isPhysical { frames := 0, cells := 0, slots := 0, locals := 0 } 0 0 1 ∧ (Cond.static yS_isPhysical).before args s = true := ⟨callB_of (rm := { frames := 0, cells := 0, slots := 0, locals := 0 }) 1 hts (gw_c (ct := .code yS_isPhysical prog_1_method_19_code 1 (some .boolean)) gm_202) rfl rfl rfl (hts _ gm_41) hl (by decide +kernel) hR, hts _ gm_201⟩
theorem kS_isPhysical_N {R : Room} {s : State} {args : Array Value} {own : String} {ix : Nat} (hts : ∀ w ∈ gw, w.before args s = true) {host : String} (hl : (Cond.methodLinkNest own ix yS_isPhysical host).before args s = true) (hR : 0 + 1 ≤ R.frames ∧ 8 + (1 + 11) + 0 ≤ R.locals) : va_CN R s args own ix yS_isPhysical host prog_1_method_19_code 1 (some .boolean) wS_isPhysical { frames := 0, cells := 0, slots := 0, locals := 0 } 0 0 1 ∧ (Cond.static yS_isPhysical).before args s = true ∧ True := ⟨va_cnB (rm := { frames := 0, cells := 0, slots := 0, locals := 0 }) 1 hts (gw_c (ct := .code yS_isPhysical prog_1_method_19_code 1 (some .boolean)) gm_202) rfl rfl rfl (va_Nw.of rfl hl) (hts _ gm_41) (by decide +kernel) hR, hts _ gm_201, trivial⟩
theorem dS_isPhysical_0 : decode prog_1_method_19_code 0 = .ok (.iload_n 0, 1) := by decide +kernel
theorem dS_isPhysical_1 : decode prog_1_method_19_code 1 = .ok (.ifCond .lt 13, 3) := by decide +kernel
theorem dS_isPhysical_4 : decode prog_1_method_19_code 4 = .ok (.iload_n 0, 1) := by decide +kernel
theorem dS_isPhysical_5 : decode prog_1_method_19_code 5 = .ok (.bipush 12, 2) := by decide +kernel
theorem dS_isPhysical_7 : decode prog_1_method_19_code 7 = .ok (.if_icmp .ge 7, 3) := by decide +kernel
theorem dS_isPhysical_10 : decode prog_1_method_19_code 10 = .ok (.iconst 1, 1) := by decide +kernel
theorem dS_isPhysical_11 : decode prog_1_method_19_code 11 = .ok (.goto 4, 3) := by decide +kernel
theorem dS_isPhysical_14 : decode prog_1_method_19_code 14 = .ok (.iconst 0, 1) := by decide +kernel
theorem dS_isPhysical_15 : decode prog_1_method_19_code 15 = .ok (.ireturn, 1) := by decide +kernel
def fS_isPhysical (a0 : Int32) (g : fl_G) : Option (Int32 × fl_G) :=
  if a0 < 0 then (some (0, g)) else (if 12 ≤ a0 then (some (0, g)) else (some (1, g)))
set_option maxHeartbeats 4000000 in
set_option maxRecDepth 100000 in
theorem cS_isPhysical (l : Launch) (dC : Nat → ClassId) (dI : Nat → Nat → Nat) (ca : Nat → ClassId) (ad : Nat → Nat) (hI : fl_inj 32 ad) (a0 : Int32) {g g1 : fl_G} {r : Int32} (h : fS_isPhysical a0 g = some (r, g1)) : Met l yS_isPhysical wS_isPhysical ({ frames := 0, cells := 0, slots := 0, locals := 0 }) (va_Pc [.int a0] (fl_Pre (dC, dI) al_cl 32 (mc_sh ca ad) ad (mc_ty ca) mc_ns g)) (fl_QI (dC, dI) al_cl 32 (mc_sh ca ad) ad r g1) 0 0 (fl_A 32 ad) := by
  refine fl_of (cc := prog_1_method_19_code) (maxL := 1) (ret := (some .boolean)) (by decide) rfl (Nat.le_of_ble_eq_true rfl) ?_
  intro p e s m below meth c ls hx hb hr hml hts hown hlocks hP hK hN hl
  have hown : s.vm.findClass "MeshedSpans" = some m.cls := hown
  have hS : va_S (fl_A 32 ad) s.heap s.heap [] := va_S.rf
  have hl : lv_has ls 1 [(0, .int a0)] := hl
  unfold fS_isPhysical at h
  refine lv_iload_n hx hb dS_isPhysical_0 rfl (lv_at hl 0 rfl) ?_
  refine lv_if_lt (tgt := 14) hx hb dS_isPhysical_1 (by decide) (fun c1 => ?_) (fun c1 => ?_)
  · replace h := fl_pos c1 h
    refine lv_iconst (v := 0) hx hb dS_isPhysical_14 (by decide) ?_
    exact fl_zret hx hb hr hlocks hP hS (Or.inl rfl) h dS_isPhysical_15
  · replace h := fl_neg c1 h
    refine lv_iload_n hx hb dS_isPhysical_4 rfl (lv_at hl 0 rfl) ?_
    refine lv_bipush (v := 12) hx hb dS_isPhysical_5 (by decide) ?_
    refine lv_icmp_ge (tgt := 14) hx hb dS_isPhysical_7 (by decide) (fun c2 => ?_) (fun c2 => ?_)
    · replace h := fl_pos c2 h
      refine lv_iconst (v := 0) hx hb dS_isPhysical_14 (by decide) ?_
      exact fl_zret hx hb hr hlocks hP hS (Or.inl rfl) h dS_isPhysical_15
    · replace h := fl_neg c2 h
      refine lv_iconst (v := 1) hx hb dS_isPhysical_10 (by decide) ?_
      refine lv_goto (tgt := 15) hx hb dS_isPhysical_11 (by decide) ?_
      exact fl_zret hx hb hr hlocks hP hS (Or.inr rfl) h dS_isPhysical_15
def yS_isVirtual : MethodName := ⟨"MeshedSpans", "isVirtual", "(I)Z"⟩
def wS_isVirtual : List Cond := .code yS_isVirtual prog_1_method_20_code 1 (some .boolean) :: gw
theorem kS_isVirtual {R : Room} {s : State} {args : Array Value} {own : String} {ix : Nat} (hts : ∀ w ∈ gw, w.before args s = true) (hl : (Cond.methodLink own ix yS_isVirtual).before args s = true) (hR : 0 + 1 ≤ R.frames ∧ 8 + (1 + 11) + 0 ≤ R.locals) : CallB R s args own ix yS_isVirtual prog_1_method_20_code 1 (some .boolean) wS_isVirtual { frames := 0, cells := 0, slots := 0, locals := 0 } 0 0 1 ∧ (Cond.static yS_isVirtual).before args s = true := ⟨callB_of (rm := { frames := 0, cells := 0, slots := 0, locals := 0 }) 1 hts (gw_c (ct := .code yS_isVirtual prog_1_method_20_code 1 (some .boolean)) gm_200) rfl rfl rfl (hts _ gm_41) hl (by decide +kernel) hR, hts _ gm_199⟩
theorem kS_isVirtual_N {R : Room} {s : State} {args : Array Value} {own : String} {ix : Nat} (hts : ∀ w ∈ gw, w.before args s = true) {host : String} (hl : (Cond.methodLinkNest own ix yS_isVirtual host).before args s = true) (hR : 0 + 1 ≤ R.frames ∧ 8 + (1 + 11) + 0 ≤ R.locals) : va_CN R s args own ix yS_isVirtual host prog_1_method_20_code 1 (some .boolean) wS_isVirtual { frames := 0, cells := 0, slots := 0, locals := 0 } 0 0 1 ∧ (Cond.static yS_isVirtual).before args s = true ∧ True := ⟨va_cnB (rm := { frames := 0, cells := 0, slots := 0, locals := 0 }) 1 hts (gw_c (ct := .code yS_isVirtual prog_1_method_20_code 1 (some .boolean)) gm_200) rfl rfl rfl (va_Nw.of rfl hl) (hts _ gm_41) (by decide +kernel) hR, hts _ gm_199, trivial⟩
theorem dS_isVirtual_0 : decode prog_1_method_20_code 0 = .ok (.iload_n 0, 1) := by decide +kernel
theorem dS_isVirtual_1 : decode prog_1_method_20_code 1 = .ok (.ifCond .lt 13, 3) := by decide +kernel
theorem dS_isVirtual_4 : decode prog_1_method_20_code 4 = .ok (.iload_n 0, 1) := by decide +kernel
theorem dS_isVirtual_5 : decode prog_1_method_20_code 5 = .ok (.bipush 24, 2) := by decide +kernel
theorem dS_isVirtual_7 : decode prog_1_method_20_code 7 = .ok (.if_icmp .ge 7, 3) := by decide +kernel
theorem dS_isVirtual_10 : decode prog_1_method_20_code 10 = .ok (.iconst 1, 1) := by decide +kernel
theorem dS_isVirtual_11 : decode prog_1_method_20_code 11 = .ok (.goto 4, 3) := by decide +kernel
theorem dS_isVirtual_14 : decode prog_1_method_20_code 14 = .ok (.iconst 0, 1) := by decide +kernel
theorem dS_isVirtual_15 : decode prog_1_method_20_code 15 = .ok (.ireturn, 1) := by decide +kernel
def fS_isVirtual (a0 : Int32) (g : fl_G) : Option (Int32 × fl_G) :=
  if a0 < 0 then (some (0, g)) else (if 24 ≤ a0 then (some (0, g)) else (some (1, g)))
set_option maxHeartbeats 4000000 in
set_option maxRecDepth 100000 in
theorem cS_isVirtual (l : Launch) (dC : Nat → ClassId) (dI : Nat → Nat → Nat) (ca : Nat → ClassId) (ad : Nat → Nat) (hI : fl_inj 32 ad) (a0 : Int32) {g g1 : fl_G} {r : Int32} (h : fS_isVirtual a0 g = some (r, g1)) : Met l yS_isVirtual wS_isVirtual ({ frames := 0, cells := 0, slots := 0, locals := 0 }) (va_Pc [.int a0] (fl_Pre (dC, dI) al_cl 32 (mc_sh ca ad) ad (mc_ty ca) mc_ns g)) (fl_QI (dC, dI) al_cl 32 (mc_sh ca ad) ad r g1) 0 0 (fl_A 32 ad) := by
  refine fl_of (cc := prog_1_method_20_code) (maxL := 1) (ret := (some .boolean)) (by decide) rfl (Nat.le_of_ble_eq_true rfl) ?_
  intro p e s m below meth c ls hx hb hr hml hts hown hlocks hP hK hN hl
  have hown : s.vm.findClass "MeshedSpans" = some m.cls := hown
  have hS : va_S (fl_A 32 ad) s.heap s.heap [] := va_S.rf
  have hl : lv_has ls 1 [(0, .int a0)] := hl
  unfold fS_isVirtual at h
  refine lv_iload_n hx hb dS_isVirtual_0 rfl (lv_at hl 0 rfl) ?_
  refine lv_if_lt (tgt := 14) hx hb dS_isVirtual_1 (by decide) (fun c1 => ?_) (fun c1 => ?_)
  · replace h := fl_pos c1 h
    refine lv_iconst (v := 0) hx hb dS_isVirtual_14 (by decide) ?_
    exact fl_zret hx hb hr hlocks hP hS (Or.inl rfl) h dS_isVirtual_15
  · replace h := fl_neg c1 h
    refine lv_iload_n hx hb dS_isVirtual_4 rfl (lv_at hl 0 rfl) ?_
    refine lv_bipush (v := 24) hx hb dS_isVirtual_5 (by decide) ?_
    refine lv_icmp_ge (tgt := 14) hx hb dS_isVirtual_7 (by decide) (fun c2 => ?_) (fun c2 => ?_)
    · replace h := fl_pos c2 h
      refine lv_iconst (v := 0) hx hb dS_isVirtual_14 (by decide) ?_
      exact fl_zret hx hb hr hlocks hP hS (Or.inl rfl) h dS_isVirtual_15
    · replace h := fl_neg c2 h
      refine lv_iconst (v := 1) hx hb dS_isVirtual_10 (by decide) ?_
      refine lv_goto (tgt := 15) hx hb dS_isVirtual_11 (by decide) ?_
      exact fl_zret hx hb hr hlocks hP hS (Or.inr rfl) h dS_isVirtual_15
def yS_isAddress : MethodName := ⟨"MeshedSpans", "isAddress", "(I)Z"⟩
def wS_isAddress : List Cond := .code yS_isAddress prog_1_method_21_code 1 (some .boolean) :: gw
theorem kS_isAddress {R : Room} {s : State} {args : Array Value} {own : String} {ix : Nat} (hts : ∀ w ∈ gw, w.before args s = true) (hl : (Cond.methodLink own ix yS_isAddress).before args s = true) (hR : 0 + 1 ≤ R.frames ∧ 8 + (1 + 11) + 0 ≤ R.locals) : CallB R s args own ix yS_isAddress prog_1_method_21_code 1 (some .boolean) wS_isAddress { frames := 0, cells := 0, slots := 0, locals := 0 } 0 0 1 ∧ (Cond.static yS_isAddress).before args s = true := ⟨callB_of (rm := { frames := 0, cells := 0, slots := 0, locals := 0 }) 1 hts (gw_c (ct := .code yS_isAddress prog_1_method_21_code 1 (some .boolean)) gm_211) rfl rfl rfl (hts _ gm_41) hl (by decide +kernel) hR, hts _ gm_210⟩
theorem kS_isAddress_N {R : Room} {s : State} {args : Array Value} {own : String} {ix : Nat} (hts : ∀ w ∈ gw, w.before args s = true) {host : String} (hl : (Cond.methodLinkNest own ix yS_isAddress host).before args s = true) (hR : 0 + 1 ≤ R.frames ∧ 8 + (1 + 11) + 0 ≤ R.locals) : va_CN R s args own ix yS_isAddress host prog_1_method_21_code 1 (some .boolean) wS_isAddress { frames := 0, cells := 0, slots := 0, locals := 0 } 0 0 1 ∧ (Cond.static yS_isAddress).before args s = true ∧ True := ⟨va_cnB (rm := { frames := 0, cells := 0, slots := 0, locals := 0 }) 1 hts (gw_c (ct := .code yS_isAddress prog_1_method_21_code 1 (some .boolean)) gm_211) rfl rfl rfl (va_Nw.of rfl hl) (hts _ gm_41) (by decide +kernel) hR, hts _ gm_210, trivial⟩
theorem dS_isAddress_0 : decode prog_1_method_21_code 0 = .ok (.iload_n 0, 1) := by decide +kernel
theorem dS_isAddress_1 : decode prog_1_method_21_code 1 = .ok (.ifCond .lt 14, 3) := by decide +kernel
theorem dS_isAddress_4 : decode prog_1_method_21_code 4 = .ok (.iload_n 0, 1) := by decide +kernel
theorem dS_isAddress_5 : decode prog_1_method_21_code 5 = .ok (.sipush 384, 3) := by decide +kernel
theorem dS_isAddress_8 : decode prog_1_method_21_code 8 = .ok (.if_icmp .ge 7, 3) := by decide +kernel
theorem dS_isAddress_11 : decode prog_1_method_21_code 11 = .ok (.iconst 1, 1) := by decide +kernel
theorem dS_isAddress_12 : decode prog_1_method_21_code 12 = .ok (.goto 4, 3) := by decide +kernel
theorem dS_isAddress_15 : decode prog_1_method_21_code 15 = .ok (.iconst 0, 1) := by decide +kernel
theorem dS_isAddress_16 : decode prog_1_method_21_code 16 = .ok (.ireturn, 1) := by decide +kernel
def fS_isAddress (a0 : Int32) (g : fl_G) : Option (Int32 × fl_G) :=
  if a0 < 0 then (some (0, g)) else (if 384 ≤ a0 then (some (0, g)) else (some (1, g)))
set_option maxHeartbeats 4000000 in
set_option maxRecDepth 100000 in
theorem cS_isAddress (l : Launch) (dC : Nat → ClassId) (dI : Nat → Nat → Nat) (ca : Nat → ClassId) (ad : Nat → Nat) (hI : fl_inj 32 ad) (a0 : Int32) {g g1 : fl_G} {r : Int32} (h : fS_isAddress a0 g = some (r, g1)) : Met l yS_isAddress wS_isAddress ({ frames := 0, cells := 0, slots := 0, locals := 0 }) (va_Pc [.int a0] (fl_Pre (dC, dI) al_cl 32 (mc_sh ca ad) ad (mc_ty ca) mc_ns g)) (fl_QI (dC, dI) al_cl 32 (mc_sh ca ad) ad r g1) 0 0 (fl_A 32 ad) := by
  refine fl_of (cc := prog_1_method_21_code) (maxL := 1) (ret := (some .boolean)) (by decide) rfl (Nat.le_of_ble_eq_true rfl) ?_
  intro p e s m below meth c ls hx hb hr hml hts hown hlocks hP hK hN hl
  have hown : s.vm.findClass "MeshedSpans" = some m.cls := hown
  have hS : va_S (fl_A 32 ad) s.heap s.heap [] := va_S.rf
  have hl : lv_has ls 1 [(0, .int a0)] := hl
  unfold fS_isAddress at h
  refine lv_iload_n hx hb dS_isAddress_0 rfl (lv_at hl 0 rfl) ?_
  refine lv_if_lt (tgt := 15) hx hb dS_isAddress_1 (by decide) (fun c1 => ?_) (fun c1 => ?_)
  · replace h := fl_pos c1 h
    refine lv_iconst (v := 0) hx hb dS_isAddress_15 (by decide) ?_
    exact fl_zret hx hb hr hlocks hP hS (Or.inl rfl) h dS_isAddress_16
  · replace h := fl_neg c1 h
    refine lv_iload_n hx hb dS_isAddress_4 rfl (lv_at hl 0 rfl) ?_
    refine lv_sipush (v := 384) hx hb dS_isAddress_5 (by decide) ?_
    refine lv_icmp_ge (tgt := 15) hx hb dS_isAddress_8 (by decide) (fun c2 => ?_) (fun c2 => ?_)
    · replace h := fl_pos c2 h
      refine lv_iconst (v := 0) hx hb dS_isAddress_15 (by decide) ?_
      exact fl_zret hx hb hr hlocks hP hS (Or.inl rfl) h dS_isAddress_16
    · replace h := fl_neg c2 h
      refine lv_iconst (v := 1) hx hb dS_isAddress_11 (by decide) ?_
      refine lv_goto (tgt := 16) hx hb dS_isAddress_12 (by decide) ?_
      exact fl_zret hx hb hr hlocks hP hS (Or.inr rfl) h dS_isAddress_16
def yS_wordsOfClass : MethodName := ⟨"MeshedSpans", "wordsOfClass", "(I)I"⟩
def wS_wordsOfClass : List Cond := .code yS_wordsOfClass prog_1_method_22_code 1 (some .int) :: gw
theorem kS_wordsOfClass {R : Room} {s : State} {args : Array Value} {own : String} {ix : Nat} (hts : ∀ w ∈ gw, w.before args s = true) (hl : (Cond.methodLink own ix yS_wordsOfClass).before args s = true) (hR : 0 + 1 ≤ R.frames ∧ 8 + (1 + 11) + 0 ≤ R.locals) : CallB R s args own ix yS_wordsOfClass prog_1_method_22_code 1 (some .int) wS_wordsOfClass { frames := 0, cells := 0, slots := 0, locals := 0 } 0 0 1 ∧ (Cond.static yS_wordsOfClass).before args s = true := ⟨callB_of (rm := { frames := 0, cells := 0, slots := 0, locals := 0 }) 1 hts (gw_c (ct := .code yS_wordsOfClass prog_1_method_22_code 1 (some .int)) gm_220) rfl rfl rfl (hts _ gm_41) hl (by decide +kernel) hR, hts _ gm_219⟩
theorem kS_wordsOfClass_N {R : Room} {s : State} {args : Array Value} {own : String} {ix : Nat} (hts : ∀ w ∈ gw, w.before args s = true) {host : String} (hl : (Cond.methodLinkNest own ix yS_wordsOfClass host).before args s = true) (hR : 0 + 1 ≤ R.frames ∧ 8 + (1 + 11) + 0 ≤ R.locals) : va_CN R s args own ix yS_wordsOfClass host prog_1_method_22_code 1 (some .int) wS_wordsOfClass { frames := 0, cells := 0, slots := 0, locals := 0 } 0 0 1 ∧ (Cond.static yS_wordsOfClass).before args s = true ∧ True := ⟨va_cnB (rm := { frames := 0, cells := 0, slots := 0, locals := 0 }) 1 hts (gw_c (ct := .code yS_wordsOfClass prog_1_method_22_code 1 (some .int)) gm_220) rfl rfl rfl (va_Nw.of rfl hl) (hts _ gm_41) (by decide +kernel) hR, hts _ gm_219, trivial⟩
theorem dS_wordsOfClass_0 : decode prog_1_method_22_code 0 = .ok (.iconst 1, 1) := by decide +kernel
theorem dS_wordsOfClass_1 : decode prog_1_method_22_code 1 = .ok (.iload_n 0, 1) := by decide +kernel
theorem dS_wordsOfClass_2 : decode prog_1_method_22_code 2 = .ok (.ishl, 1) := by decide +kernel
theorem dS_wordsOfClass_3 : decode prog_1_method_22_code 3 = .ok (.ireturn, 1) := by decide +kernel
def fS_wordsOfClass (a0 : Int32) (g : fl_G) : Option (Int32 × fl_G) :=
  some ((1 <<< (a0 &&& 31)), g)
set_option maxHeartbeats 4000000 in
set_option maxRecDepth 100000 in
theorem cS_wordsOfClass (l : Launch) (dC : Nat → ClassId) (dI : Nat → Nat → Nat) (ca : Nat → ClassId) (ad : Nat → Nat) (hI : fl_inj 32 ad) (a0 : Int32) {g g1 : fl_G} {r : Int32} (h : fS_wordsOfClass a0 g = some (r, g1)) : Met l yS_wordsOfClass wS_wordsOfClass ({ frames := 0, cells := 0, slots := 0, locals := 0 }) (va_Pc [.int a0] (fl_Pre (dC, dI) al_cl 32 (mc_sh ca ad) ad (mc_ty ca) mc_ns g)) (fl_QI (dC, dI) al_cl 32 (mc_sh ca ad) ad r g1) 0 0 (fl_A 32 ad) := by
  refine fl_of (cc := prog_1_method_22_code) (maxL := 1) (ret := (some .int)) (by decide) rfl (Nat.le_of_ble_eq_true rfl) ?_
  intro p e s m below meth c ls hx hb hr hml hts hown hlocks hP hK hN hl
  have hown : s.vm.findClass "MeshedSpans" = some m.cls := hown
  have hS : va_S (fl_A 32 ad) s.heap s.heap [] := va_S.rf
  have hl : lv_has ls 1 [(0, .int a0)] := hl
  unfold fS_wordsOfClass at h
  refine lv_iconst (v := 1) hx hb dS_wordsOfClass_0 (by decide) ?_
  refine lv_iload_n hx hb dS_wordsOfClass_1 rfl (lv_at hl 0 rfl) ?_
  refine lv_ishl hx hb dS_wordsOfClass_2 ?_
  exact fl_iret hx hb hr hlocks hP hS h dS_wordsOfClass_3
def yS_cellsOfClass : MethodName := ⟨"MeshedSpans", "cellsOfClass", "(I)I"⟩
def wS_cellsOfClass : List Cond := .code yS_cellsOfClass prog_1_method_23_code 1 (some .int) :: gw
theorem kS_cellsOfClass {R : Room} {s : State} {args : Array Value} {own : String} {ix : Nat} (hts : ∀ w ∈ gw, w.before args s = true) (hl : (Cond.methodLink own ix yS_cellsOfClass).before args s = true) (hR : 0 + 1 ≤ R.frames ∧ 8 + (1 + 11) + 0 ≤ R.locals) : CallB R s args own ix yS_cellsOfClass prog_1_method_23_code 1 (some .int) wS_cellsOfClass { frames := 0, cells := 0, slots := 0, locals := 0 } 0 0 1 ∧ (Cond.static yS_cellsOfClass).before args s = true := ⟨callB_of (rm := { frames := 0, cells := 0, slots := 0, locals := 0 }) 1 hts (gw_c (ct := .code yS_cellsOfClass prog_1_method_23_code 1 (some .int)) gm_253) rfl rfl rfl (hts _ gm_41) hl (by decide +kernel) hR, hts _ gm_252⟩
theorem kS_cellsOfClass_N {R : Room} {s : State} {args : Array Value} {own : String} {ix : Nat} (hts : ∀ w ∈ gw, w.before args s = true) {host : String} (hl : (Cond.methodLinkNest own ix yS_cellsOfClass host).before args s = true) (hR : 0 + 1 ≤ R.frames ∧ 8 + (1 + 11) + 0 ≤ R.locals) : va_CN R s args own ix yS_cellsOfClass host prog_1_method_23_code 1 (some .int) wS_cellsOfClass { frames := 0, cells := 0, slots := 0, locals := 0 } 0 0 1 ∧ (Cond.static yS_cellsOfClass).before args s = true ∧ True := ⟨va_cnB (rm := { frames := 0, cells := 0, slots := 0, locals := 0 }) 1 hts (gw_c (ct := .code yS_cellsOfClass prog_1_method_23_code 1 (some .int)) gm_253) rfl rfl rfl (va_Nw.of rfl hl) (hts _ gm_41) (by decide +kernel) hR, hts _ gm_252, trivial⟩
theorem dS_cellsOfClass_0 : decode prog_1_method_23_code 0 = .ok (.bipush 16, 2) := by decide +kernel
theorem dS_cellsOfClass_2 : decode prog_1_method_23_code 2 = .ok (.iload_n 0, 1) := by decide +kernel
theorem dS_cellsOfClass_3 : decode prog_1_method_23_code 3 = .ok (.ishr, 1) := by decide +kernel
theorem dS_cellsOfClass_4 : decode prog_1_method_23_code 4 = .ok (.ireturn, 1) := by decide +kernel
def fS_cellsOfClass (a0 : Int32) (g : fl_G) : Option (Int32 × fl_G) :=
  some ((16 >>> (a0 &&& 31)), g)
set_option maxHeartbeats 4000000 in
set_option maxRecDepth 100000 in
theorem cS_cellsOfClass (l : Launch) (dC : Nat → ClassId) (dI : Nat → Nat → Nat) (ca : Nat → ClassId) (ad : Nat → Nat) (hI : fl_inj 32 ad) (a0 : Int32) {g g1 : fl_G} {r : Int32} (h : fS_cellsOfClass a0 g = some (r, g1)) : Met l yS_cellsOfClass wS_cellsOfClass ({ frames := 0, cells := 0, slots := 0, locals := 0 }) (va_Pc [.int a0] (fl_Pre (dC, dI) al_cl 32 (mc_sh ca ad) ad (mc_ty ca) mc_ns g)) (fl_QI (dC, dI) al_cl 32 (mc_sh ca ad) ad r g1) 0 0 (fl_A 32 ad) := by
  refine fl_of (cc := prog_1_method_23_code) (maxL := 1) (ret := (some .int)) (by decide) rfl (Nat.le_of_ble_eq_true rfl) ?_
  intro p e s m below meth c ls hx hb hr hml hts hown hlocks hP hK hN hl
  have hown : s.vm.findClass "MeshedSpans" = some m.cls := hown
  have hS : va_S (fl_A 32 ad) s.heap s.heap [] := va_S.rf
  have hl : lv_has ls 1 [(0, .int a0)] := hl
  unfold fS_cellsOfClass at h
  refine lv_bipush (v := 16) hx hb dS_cellsOfClass_0 (by decide) ?_
  refine lv_iload_n hx hb dS_cellsOfClass_2 rfl (lv_at hl 0 rfl) ?_
  refine lv_ishr hx hb dS_cellsOfClass_3 ?_
  exact fl_iret hx hb hr hlocks hP hS h dS_cellsOfClass_4
def yS_leastClassFor : MethodName := ⟨"MeshedSpans", "leastClassFor", "(I)I"⟩
def wS_leastClassFor : List Cond := .code yS_leastClassFor prog_1_method_24_code 2 (some .int) :: gw
theorem kS_leastClassFor {R : Room} {s : State} {args : Array Value} {own : String} {ix : Nat} (hts : ∀ w ∈ gw, w.before args s = true) (hl : (Cond.methodLink own ix yS_leastClassFor).before args s = true) (hR : 1 + 1 ≤ R.frames ∧ 8 + (2 + 11) + 20 ≤ R.locals) : CallB R s args own ix yS_leastClassFor prog_1_method_24_code 2 (some .int) wS_leastClassFor { frames := 1, cells := 0, slots := 0, locals := 20 } 0 0 1 ∧ (Cond.static yS_leastClassFor).before args s = true := ⟨callB_of (rm := { frames := 1, cells := 0, slots := 0, locals := 20 }) 1 hts (gw_c (ct := .code yS_leastClassFor prog_1_method_24_code 2 (some .int)) gm_217) rfl rfl rfl (hts _ gm_41) hl (by decide +kernel) hR, hts _ gm_216⟩
theorem dS_leastClassFor_0 : decode prog_1_method_24_code 0 = .ok (.iconst 0, 1) := by decide +kernel
theorem dS_leastClassFor_1 : decode prog_1_method_24_code 1 = .ok (.istore_n 1, 1) := by decide +kernel
theorem dS_leastClassFor_2 : decode prog_1_method_24_code 2 = .ok (.iload_n 1, 1) := by decide +kernel
theorem dS_leastClassFor_3 : decode prog_1_method_24_code 3 = .ok (.iconst 3, 1) := by decide +kernel
theorem dS_leastClassFor_4 : decode prog_1_method_24_code 4 = .ok (.if_icmp .ge 17, 3) := by decide +kernel
theorem dS_leastClassFor_7 : decode prog_1_method_24_code 7 = .ok (.iload_n 1, 1) := by decide +kernel
theorem dS_leastClassFor_8 : decode prog_1_method_24_code 8 = .ok (.invokestatic 146, 3) := by decide +kernel
theorem dS_leastClassFor_11 : decode prog_1_method_24_code 11 = .ok (.iload_n 0, 1) := by decide +kernel
theorem dS_leastClassFor_12 : decode prog_1_method_24_code 12 = .ok (.if_icmp .ge 9, 3) := by decide +kernel
theorem dS_leastClassFor_15 : decode prog_1_method_24_code 15 = .ok (.iinc 1 1, 3) := by decide +kernel
theorem dS_leastClassFor_18 : decode prog_1_method_24_code 18 = .ok (.goto (-16), 3) := by decide +kernel
theorem dS_leastClassFor_21 : decode prog_1_method_24_code 21 = .ok (.iload_n 1, 1) := by decide +kernel
theorem dS_leastClassFor_22 : decode prog_1_method_24_code 22 = .ok (.ireturn, 1) := by decide +kernel
def fS_leastClassFor_B2 (rec : Int32 → Int32 → fl_G → Option ((Int32) × fl_G)) (v1 : Int32) (v0 : Int32) (g : fl_G) : Option ((Int32) × fl_G) :=
  if 3 ≤ v1 then (some (v1, g)) else (fl_bd (fS_wordsOfClass v1 g) (fun r3 g4 => if v0 ≤ r3 then (some (v1, g4)) else (rec (v1 + 1) v0 g4)))
def fS_leastClassFor_L2 : Nat → Int32 → Int32 → fl_G → Option ((Int32) × fl_G)
  | 0, _, _, _ => none
  | n + 1, v1, v0, g => fS_leastClassFor_B2 (fS_leastClassFor_L2 n) v1 v0 g
def fS_leastClassFor (a0 : Int32) (g : fl_G) : Option (Int32 × fl_G) :=
  fl_bd (fS_leastClassFor_L2 1000 0 a0 g) (fun r7 g8 => some (r7, g8))
set_option maxHeartbeats 4000000 in
set_option maxRecDepth 100000 in
theorem cS_leastClassFor (l : Launch) (dC : Nat → ClassId) (dI : Nat → Nat → Nat) (ca : Nat → ClassId) (ad : Nat → Nat) (hI : fl_inj 32 ad) (a0 : Int32) {g g1 : fl_G} {r : Int32} (h : fS_leastClassFor a0 g = some (r, g1)) : Met l yS_leastClassFor wS_leastClassFor ({ frames := 1, cells := 0, slots := 0, locals := 20 }) (va_Pc [.int a0] (fl_Pre (dC, dI) al_cl 32 (mc_sh ca ad) ad (mc_ty ca) mc_ns g)) (fl_QI (dC, dI) al_cl 32 (mc_sh ca ad) ad r g1) 0 0 (fl_A 32 ad) := by
  refine fl_of (cc := prog_1_method_24_code) (maxL := 2) (ret := (some .int)) (by decide) rfl (Nat.le_of_ble_eq_true rfl) ?_
  intro p e s m below meth c ls hx hb hr hml hts hown hlocks hP hK hN hl
  have hown : s.vm.findClass "MeshedSpans" = some m.cls := hown
  have hS : va_S (fl_A 32 ad) s.heap s.heap [] := va_S.rf
  have hl : lv_has ls 2 [(0, .int a0)] := hl
  unfold fS_leastClassFor at h
  refine lv_iconst (v := 0) hx hb dS_leastClassFor_0 (by decide) ?_
  refine lv_istore_n (lv' := [(1, .int 0), (0, .int a0)]) hx hb dS_leastClassFor_1 rfl hl (by decide) rfl (fun ls hl => ?_)
  have loop1 : ∀ (n : Nat) (v1 : Int32) (v0 : Int32) (g : fl_G) (z : ((Int32) × fl_G)) (H : Heap) (locs : List Loc) (ls : Array Slot), fS_leastClassFor_L2 n v1 v0 g = some z → va_P (dC, dI) al_cl (fl_ws 32 (mc_sh ca ad) ad g) H → va_S (fl_A 32 ad) s.heap H locs → lv_has ls 2 [(1, .int v1), (0, .int v0)] → (∀ (H : Heap) (locs : List Loc) (ls : Array Slot), va_P (dC, dI) al_cl (fl_ws 32 (mc_sh ca ad) ad z.2) H → va_S (fl_A 32 ad) s.heap H locs → lv_has ls 2 [(1, .int z.1), (0, .int v0)] → W p l e ({ frames := 1, cells := 0, slots := 0, locals := 20 }) s m ([.int a0] : List Value).toArray below meth c H locs 0 0 (MQ below (fl_QI (dC, dI) al_cl 32 (mc_sh ca ad) ad r g1) ([.int a0] : List Value).toArray s 0 0 (fl_A 32 ad)) (F0 m 21 ls [])) → W p l e ({ frames := 1, cells := 0, slots := 0, locals := 20 }) s m ([.int a0] : List Value).toArray below meth c H locs 0 0 (MQ below (fl_QI (dC, dI) al_cl 32 (mc_sh ca ad) ad r g1) ([.int a0] : List Value).toArray s 0 0 (fl_A 32 ad)) (F0 m 2 ls []) := by
    intro n
    clear h hP hS hl
    induction n with
    | zero => intro v1 v0 g z H locs ls h; cases h
    | succ n ih1 =>
      intro v1 v0 g z H locs ls h hP hS hl K1
      have h : fS_leastClassFor_B2 (fS_leastClassFor_L2 n) v1 v0 g = some z := h
      unfold fS_leastClassFor_B2 at h
      refine lv_iload_n hx hb dS_leastClassFor_2 rfl (lv_at hl 0 rfl) ?_
      refine lv_iconst (v := 3) hx hb dS_leastClassFor_3 (by decide) ?_
      refine lv_icmp_ge (tgt := 21) hx hb dS_leastClassFor_4 (by decide) (fun c2 => ?_) (fun c2 => ?_)
      · replace h := fl_pos c2 h
        cases h
        exact K1 _ _ _ hP hS (lv_sub hl [0, 1] rfl)
      · replace h := fl_neg c2 h
        refine lv_iload_n hx hb dS_leastClassFor_7 rfl (lv_at hl 0 rfl) ?_
        replace h := fl_bd_some h
        obtain ⟨r3, g4, hc5, h⟩ := h
        refine fl_calli (va_runS (As := [.int v1]) (rest := []) ⟨hx, hb, hml, hown, hts⟩ (cS_wordsOfClass l dC dI ca ad hI v1 hc5) (kS_wordsOfClass hts (hts _ gm_218) ⟨Nat.le_of_ble_eq_true rfl, Nat.le_of_ble_eq_true rfl⟩) (fl_preS hK hP hN) rfl rfl hl.1 rfl (lv_room (Nat.le_of_ble_eq_true rfl)) dS_leastClassFor_8 ⟨Nat.le_refl 0, Nat.le_refl 0⟩) hS (fun H locs hP hS => ?_)
        refine lv_iload_n hx hb dS_leastClassFor_11 rfl (lv_at hl 1 rfl) ?_
        refine lv_icmp_ge (tgt := 21) hx hb dS_leastClassFor_12 (by decide) (fun c6 => ?_) (fun c6 => ?_)
        · replace h := fl_pos c6 h
          cases h
          exact K1 _ _ _ hP hS (lv_sub hl [0, 1] rfl)
        · replace h := fl_neg c6 h
          refine lv_iinc (v := (v1 + 1)) (lv' := [(1, .int (v1 + 1)), (0, .int v0)]) hx hb dS_leastClassFor_15 hl (k := 0) rfl rfl (by decide) rfl (fun ls hl => ?_)
          refine lv_goto (tgt := 2) hx hb dS_leastClassFor_18 (by decide) ?_
          exact ih1 (v1 + 1) v0 _ _ _ _ _ h hP hS (lv_sub hl [0, 1] rfl) K1
  obtain ⟨r7, g8, hc9, h⟩ := fl_bd_some h
  refine loop1 1000 0 a0 _ (r7, g8) _ _ _ hc9 hP hS (lv_sub hl [0, 1] rfl) (fun H locs ls hP hS hl => ?_)
  have hP : va_P (dC, dI) al_cl (fl_ws 32 (mc_sh ca ad) ad g8) H := hP
  have hl : lv_has ls 2 [(1, .int r7), (0, .int a0)] := hl
  refine lv_iload_n hx hb dS_leastClassFor_21 rfl (lv_at hl 0 rfl) ?_
  exact fl_iret hx hb hr hlocks hP hS h dS_leastClassFor_22
def yD_restart : MethodName := ⟨"MeshedSpans$Draws", "restart", "(I)V"⟩
def wD_restart : List Cond := .code yD_restart prog_4_method_2_code 2 none :: gw
theorem kD_restart {R : Room} {s : State} {args : Array Value} {own : String} {ix : Nat} (hts : ∀ w ∈ gw, w.before args s = true) (hl : (Cond.methodLink own ix yD_restart).before args s = true) (hR : 0 + 1 ≤ R.frames ∧ 8 + (2 + 11) + 0 ≤ R.locals) : CallW R s args own "MeshedSpans$Draws" ix yD_restart prog_4_method_2_code 2 none wD_restart { frames := 0, cells := 0, slots := 0, locals := 0 } 0 0 1 := ⟨callB_of (rm := { frames := 0, cells := 0, slots := 0, locals := 0 }) 1 hts (gw_c (ct := .code yD_restart prog_4_method_2_code 2 none) gm_172) rfl rfl rfl (hts _ gm_42) hl (by decide +kernel) hR, hts _ gm_170, hts _ gm_171⟩
theorem dD_restart_0 : decode prog_4_method_2_code 0 = .ok (.aload_n 0, 1) := by decide +kernel
theorem dD_restart_1 : decode prog_4_method_2_code 1 = .ok (.iload_n 1, 1) := by decide +kernel
theorem dD_restart_2 : decode prog_4_method_2_code 2 = .ok (.putfield 7, 3) := by decide +kernel
theorem dD_restart_5 : decode prog_4_method_2_code 5 = .ok (.return_, 1) := by decide +kernel
def fD_restart (a0 : Int32) (g : fl_G) : Option (Unit × fl_G) :=
  some ((), (fl_up g 1 0 a0))
set_option maxHeartbeats 4000000 in
set_option maxRecDepth 100000 in
theorem cD_restart (l : Launch) (dC : Nat → ClassId) (dI : Nat → Nat → Nat) (ca : Nat → ClassId) (ad : Nat → Nat) (hI : fl_inj 32 ad) (a0 : Int32) {g g1 : fl_G} {r : Unit} (h : fD_restart a0 g = some (r, g1)) : Met l yD_restart wD_restart ({ frames := 0, cells := 0, slots := 0, locals := 0 }) (va_Pc [.ref (ad 1), .int a0] (fl_Pre (dC, dI) al_cl 32 (mc_sh ca ad) ad (mc_ty ca) mc_ns g)) (fl_QV (dC, dI) al_cl 32 (mc_sh ca ad) ad g1) 0 0 (fl_A 32 ad) := by
  refine fl_of (cc := prog_4_method_2_code) (maxL := 2) (ret := none) (by decide) rfl (Nat.le_of_ble_eq_true rfl) ?_
  intro p e s m below meth c ls hx hb hr hml hts hown hlocks hP hK hN hl
  have hown : s.vm.findClass "MeshedSpans$Draws" = some m.cls := hown
  have hS : va_S (fl_A 32 ad) s.heap s.heap [] := va_S.rf
  have hl : lv_has ls 2 [(0, .ref (ad 1)), (1, .int a0)] := hl
  unfold fD_restart at h
  refine lv_aload_n hx hb dD_restart_0 rfl (lv_at hl 0 rfl) ?_
  refine lv_iload_n hx hb dD_restart_1 rfl (lv_at hl 1 rfl) ?_
  refine mc_put1 (iv := a0) hx hb hts mc_in1 hown hK hP hI hS (q := 1) rfl 0 (by decide) (hts _ gm_64) rfl rfl rfl dD_restart_2 (fun H locs hP hS => ?_)
  have hP : va_P (dC, dI) al_cl (fl_ws 32 (mc_sh ca ad) ad (fl_up g 1 0 a0)) H := hP
  exact fl_vret hx hb hr hlocks hP hS h dD_restart_5
def yD_below : MethodName := ⟨"MeshedSpans$Draws", "below", "(I)I"⟩
def wD_below : List Cond := .code yD_below prog_4_method_3_code 2 (some .int) :: gw
theorem kD_below {R : Room} {s : State} {args : Array Value} {own : String} {ix : Nat} (hts : ∀ w ∈ gw, w.before args s = true) (hl : (Cond.methodLink own ix yD_below).before args s = true) (hR : 0 + 1 ≤ R.frames ∧ 8 + (2 + 11) + 0 ≤ R.locals) : CallW R s args own "MeshedSpans$Draws" ix yD_below prog_4_method_3_code 2 (some .int) wD_below { frames := 0, cells := 0, slots := 0, locals := 0 } 0 0 1 := ⟨callB_of (rm := { frames := 0, cells := 0, slots := 0, locals := 0 }) 1 hts (gw_c (ct := .code yD_below prog_4_method_3_code 2 (some .int)) gm_281) rfl rfl rfl (hts _ gm_42) hl (by decide +kernel) hR, hts _ gm_279, hts _ gm_280⟩
theorem dD_below_0 : decode prog_4_method_3_code 0 = .ok (.aload_n 0, 1) := by decide +kernel
theorem dD_below_1 : decode prog_4_method_3_code 1 = .ok (.aload_n 0, 1) := by decide +kernel
theorem dD_below_2 : decode prog_4_method_3_code 2 = .ok (.getfield 7, 3) := by decide +kernel
theorem dD_below_5 : decode prog_4_method_3_code 5 = .ok (.ldc 13, 2) := by decide +kernel
theorem dD_below_7 : decode prog_4_method_3_code 7 = .ok (.imul, 1) := by decide +kernel
theorem dD_below_8 : decode prog_4_method_3_code 8 = .ok (.ldc 14, 2) := by decide +kernel
theorem dD_below_10 : decode prog_4_method_3_code 10 = .ok (.iadd, 1) := by decide +kernel
theorem dD_below_11 : decode prog_4_method_3_code 11 = .ok (.putfield 7, 3) := by decide +kernel
theorem dD_below_14 : decode prog_4_method_3_code 14 = .ok (.iload_n 1, 1) := by decide +kernel
theorem dD_below_15 : decode prog_4_method_3_code 15 = .ok (.ifCond .le 15, 3) := by decide +kernel
theorem dD_below_18 : decode prog_4_method_3_code 18 = .ok (.aload_n 0, 1) := by decide +kernel
theorem dD_below_19 : decode prog_4_method_3_code 19 = .ok (.getfield 7, 3) := by decide +kernel
theorem dD_below_22 : decode prog_4_method_3_code 22 = .ok (.bipush 16, 2) := by decide +kernel
theorem dD_below_24 : decode prog_4_method_3_code 24 = .ok (.iushr, 1) := by decide +kernel
theorem dD_below_25 : decode prog_4_method_3_code 25 = .ok (.iload_n 1, 1) := by decide +kernel
theorem dD_below_26 : decode prog_4_method_3_code 26 = .ok (.irem, 1) := by decide +kernel
theorem dD_below_27 : decode prog_4_method_3_code 27 = .ok (.goto 4, 3) := by decide +kernel
theorem dD_below_30 : decode prog_4_method_3_code 30 = .ok (.iconst 0, 1) := by decide +kernel
theorem dD_below_31 : decode prog_4_method_3_code 31 = .ok (.ireturn, 1) := by decide +kernel
def fD_below (a0 : Int32) (g : fl_G) : Option (Int32 × fl_G) :=
  if a0 ≤ 0 then (some (0, (fl_up g 1 0 (((g 1 0) * 1664525) + 1013904223)))) else (fl_ck (¬ a0 = 0) (some ((fl_rem (fl_ushr ((fl_up g 1 0 (((g 1 0) * 1664525) + 1013904223)) 1 0) 16) a0), (fl_up g 1 0 (((g 1 0) * 1664525) + 1013904223)))))
set_option maxHeartbeats 4000000 in
set_option maxRecDepth 100000 in
theorem cD_below (l : Launch) (dC : Nat → ClassId) (dI : Nat → Nat → Nat) (ca : Nat → ClassId) (ad : Nat → Nat) (hI : fl_inj 32 ad) (a0 : Int32) {g g1 : fl_G} {r : Int32} (h : fD_below a0 g = some (r, g1)) : Met l yD_below wD_below ({ frames := 0, cells := 0, slots := 0, locals := 0 }) (va_Pc [.ref (ad 1), .int a0] (fl_Pre (dC, dI) al_cl 32 (mc_sh ca ad) ad (mc_ty ca) mc_ns g)) (fl_QI (dC, dI) al_cl 32 (mc_sh ca ad) ad r g1) 0 0 (fl_A 32 ad) := by
  refine fl_of (cc := prog_4_method_3_code) (maxL := 2) (ret := (some .int)) (by decide) rfl (Nat.le_of_ble_eq_true rfl) ?_
  intro p e s m below meth c ls hx hb hr hml hts hown hlocks hP hK hN hl
  have hown : s.vm.findClass "MeshedSpans$Draws" = some m.cls := hown
  have hS : va_S (fl_A 32 ad) s.heap s.heap [] := va_S.rf
  have hl : lv_has ls 2 [(0, .ref (ad 1)), (1, .int a0)] := hl
  unfold fD_below at h
  refine lv_aload_n hx hb dD_below_0 rfl (lv_at hl 0 rfl) ?_
  refine lv_aload_n hx hb dD_below_1 rfl (lv_at hl 0 rfl) ?_
  refine mc_get1 (v := .int (g 1 0)) hx hb hts mc_in1 hown hK hP (q := 1) rfl 0 (by decide) (hts _ gm_64) rfl dD_below_2 ?_
  refine lv_ldc (v := 1664525) hx hb hown (hts _ gm_282) dD_below_5 ?_
  refine lv_imul hx hb dD_below_7 ?_
  refine lv_ldc (v := 1013904223) hx hb hown (hts _ gm_283) dD_below_8 ?_
  refine lv_iadd hx hb dD_below_10 ?_
  refine mc_put1 (iv := (((g 1 0) * 1664525) + 1013904223)) hx hb hts mc_in1 hown hK hP hI hS (q := 1) rfl 0 (by decide) (hts _ gm_64) rfl rfl rfl dD_below_11 (fun H locs hP hS => ?_)
  have hP : va_P (dC, dI) al_cl (fl_ws 32 (mc_sh ca ad) ad (fl_up g 1 0 (((g 1 0) * 1664525) + 1013904223))) H := hP
  refine lv_iload_n hx hb dD_below_14 rfl (lv_at hl 1 rfl) ?_
  refine lv_if_le (tgt := 30) hx hb dD_below_15 (by decide) (fun c1 => ?_) (fun c1 => ?_)
  · replace h := fl_pos c1 h
    refine lv_iconst (v := 0) hx hb dD_below_30 (by decide) ?_
    exact fl_iret hx hb hr hlocks hP hS h dD_below_31
  · replace h := fl_neg c1 h
    refine lv_aload_n hx hb dD_below_18 rfl (lv_at hl 0 rfl) ?_
    refine mc_get1 (v := .int ((fl_up g 1 0 (((g 1 0) * 1664525) + 1013904223)) 1 0)) hx hb hts mc_in1 hown hK hP (q := 1) rfl 0 (by decide) (hts _ gm_64) rfl dD_below_19 ?_
    refine lv_bipush (v := 16) hx hb dD_below_22 (by decide) ?_
    refine lv_iushr (v := (fl_ushr ((fl_up g 1 0 (((g 1 0) * 1664525) + 1013904223)) 1 0) 16)) hx hb dD_below_24 rfl ?_
    refine lv_iload_n hx hb dD_below_25 rfl (lv_at hl 1 rfl) ?_
    replace h := fl_ck_some h
    obtain ⟨hz2, h⟩ := h
    refine lv_irem hx hb dD_below_26 hz2 ?_
    refine lv_goto (tgt := 31) hx hb dD_below_27 (by decide) ?_
    exact fl_iret hx hb hr hlocks hP hS h dD_below_31
def yD_exchange : MethodName := ⟨"MeshedSpans$Draws", "exchange", "([III)V"⟩
def wD_exchange : List Cond := .code yD_exchange prog_4_method_5_code 4 none :: gw
theorem kD_exchange {R : Room} {s : State} {args : Array Value} {own : String} {ix : Nat} (hts : ∀ w ∈ gw, w.before args s = true) (hl : (Cond.methodLink own ix yD_exchange).before args s = true) (hR : 0 + 1 ≤ R.frames ∧ 8 + (4 + 11) + 0 ≤ R.locals) : CallB R s args own ix yD_exchange prog_4_method_5_code 4 none wD_exchange { frames := 0, cells := 0, slots := 0, locals := 0 } 0 0 3 ∧ (Cond.static yD_exchange).before args s = true := ⟨callB_of (rm := { frames := 0, cells := 0, slots := 0, locals := 0 }) 3 hts (gw_c (ct := .code yD_exchange prog_4_method_5_code 4 none) gm_286) rfl rfl rfl (hts _ gm_42) hl (by decide +kernel) hR, hts _ gm_285⟩
theorem dD_exchange_0 : decode prog_4_method_5_code 0 = .ok (.aload_n 0, 1) := by decide +kernel
theorem dD_exchange_1 : decode prog_4_method_5_code 1 = .ok (.iload_n 1, 1) := by decide +kernel
theorem dD_exchange_2 : decode prog_4_method_5_code 2 = .ok (.iaload, 1) := by decide +kernel
theorem dD_exchange_3 : decode prog_4_method_5_code 3 = .ok (.istore_n 3, 1) := by decide +kernel
theorem dD_exchange_4 : decode prog_4_method_5_code 4 = .ok (.aload_n 0, 1) := by decide +kernel
theorem dD_exchange_5 : decode prog_4_method_5_code 5 = .ok (.iload_n 1, 1) := by decide +kernel
theorem dD_exchange_6 : decode prog_4_method_5_code 6 = .ok (.aload_n 0, 1) := by decide +kernel
theorem dD_exchange_7 : decode prog_4_method_5_code 7 = .ok (.iload_n 2, 1) := by decide +kernel
theorem dD_exchange_8 : decode prog_4_method_5_code 8 = .ok (.iaload, 1) := by decide +kernel
theorem dD_exchange_9 : decode prog_4_method_5_code 9 = .ok (.iastore, 1) := by decide +kernel
theorem dD_exchange_10 : decode prog_4_method_5_code 10 = .ok (.aload_n 0, 1) := by decide +kernel
theorem dD_exchange_11 : decode prog_4_method_5_code 11 = .ok (.iload_n 2, 1) := by decide +kernel
theorem dD_exchange_12 : decode prog_4_method_5_code 12 = .ok (.iload_n 3, 1) := by decide +kernel
theorem dD_exchange_13 : decode prog_4_method_5_code 13 = .ok (.iastore, 1) := by decide +kernel
theorem dD_exchange_14 : decode prog_4_method_5_code 14 = .ok (.return_, 1) := by decide +kernel
def fD_exchange (a0 : Nat) (a1 : Int32) (a2 : Int32) (g : fl_G) : Option (Unit × fl_G) :=
  fl_ck (mc_kd a0 = 10) (fl_ck (fl_in a1 (mc_ln a0)) (fl_ck (fl_in a2 (mc_ln a0)) (fl_ck (fl_in a1 (mc_ln a0)) (fl_ck (fl_in a2 (mc_ln a0)) (some ((), (fl_up (fl_up g a0 (Int32.toNatClampNeg a1) (g a0 (Int32.toNatClampNeg a2))) a0 (Int32.toNatClampNeg a2) (g a0 (Int32.toNatClampNeg a1)))))))))
set_option maxHeartbeats 4000000 in
set_option maxRecDepth 100000 in
theorem cD_exchange (l : Launch) (dC : Nat → ClassId) (dI : Nat → Nat → Nat) (ca : Nat → ClassId) (ad : Nat → Nat) (hI : fl_inj 32 ad) (a0 : Nat) (a1 : Int32) (a2 : Int32) {g g1 : fl_G} {r : Unit} (h : fD_exchange a0 a1 a2 g = some (r, g1)) : Met l yD_exchange wD_exchange ({ frames := 0, cells := 0, slots := 0, locals := 0 }) (va_Pc [.ref (ad a0), .int a1, .int a2] (fl_Pre (dC, dI) al_cl 32 (mc_sh ca ad) ad (mc_ty ca) mc_ns g)) (fl_QV (dC, dI) al_cl 32 (mc_sh ca ad) ad g1) 0 0 (fl_A 32 ad) := by
  refine fl_of (cc := prog_4_method_5_code) (maxL := 4) (ret := none) (by decide) rfl (Nat.le_of_ble_eq_true rfl) ?_
  intro p e s m below meth c ls hx hb hr hml hts hown hlocks hP hK hN hl
  have hown : s.vm.findClass "MeshedSpans$Draws" = some m.cls := hown
  have hS : va_S (fl_A 32 ad) s.heap s.heap [] := va_S.rf
  have hl : lv_has ls 4 [(0, .ref (ad a0)), (1, .int a1), (2, .int a2)] := hl
  unfold fD_exchange at h
  refine lv_aload_n hx hb dD_exchange_0 rfl (lv_at hl 0 rfl) ?_
  refine lv_iload_n hx hb dD_exchange_1 rfl (lv_at hl 1 rfl) ?_
  replace h := fl_ck_some h
  obtain ⟨hk1, h⟩ := h
  replace h := fl_ck_some h
  obtain ⟨hi2, h⟩ := h
  refine mc_iald hx hb hK hP (q := a0) hk1 hi2 dD_exchange_2 ?_
  refine lv_istore_n (lv' := [(3, .int (g a0 (Int32.toNatClampNeg a1))), (0, .ref (ad a0)), (1, .int a1), (2, .int a2)]) hx hb dD_exchange_3 rfl hl (by decide) rfl (fun ls hl => ?_)
  refine lv_aload_n hx hb dD_exchange_4 rfl (lv_at hl 1 rfl) ?_
  refine lv_iload_n hx hb dD_exchange_5 rfl (lv_at hl 2 rfl) ?_
  refine lv_aload_n hx hb dD_exchange_6 rfl (lv_at hl 1 rfl) ?_
  refine lv_iload_n hx hb dD_exchange_7 rfl (lv_at hl 3 rfl) ?_
  replace h := fl_ck_some h
  obtain ⟨hi3, h⟩ := h
  refine mc_iald hx hb hK hP (q := a0) hk1 hi3 dD_exchange_8 ?_
  replace h := fl_ck_some h
  obtain ⟨hi4, h⟩ := h
  refine mc_iast hx hb hK hP hI hS (q := a0) hk1 hi4 dD_exchange_9 (fun H locs hP hS => ?_)
  have hP : va_P (dC, dI) al_cl (fl_ws 32 (mc_sh ca ad) ad (fl_up g a0 (Int32.toNatClampNeg a1) (g a0 (Int32.toNatClampNeg a2)))) H := hP
  refine lv_aload_n hx hb dD_exchange_10 rfl (lv_at hl 1 rfl) ?_
  refine lv_iload_n hx hb dD_exchange_11 rfl (lv_at hl 3 rfl) ?_
  refine lv_iload_n hx hb dD_exchange_12 rfl (lv_at hl 0 rfl) ?_
  replace h := fl_ck_some h
  obtain ⟨hi5, h⟩ := h
  refine mc_iast hx hb hK hP hI hS (q := a0) hk1 hi5 dD_exchange_13 (fun H locs hP hS => ?_)
  have hP : va_P (dC, dI) al_cl (fl_ws 32 (mc_sh ca ad) ad (fl_up (fl_up g a0 (Int32.toNatClampNeg a1) (g a0 (Int32.toNatClampNeg a2))) a0 (Int32.toNatClampNeg a2) (g a0 (Int32.toNatClampNeg a1)))) H := hP
  exact fl_vret hx hb hr hlocks hP hS h dD_exchange_14
def yD_shuffle : MethodName := ⟨"MeshedSpans$Draws", "shuffle", "([II)V"⟩
def wD_shuffle : List Cond := .code yD_shuffle prog_4_method_4_code 4 none :: gw
theorem kD_shuffle {R : Room} {s : State} {args : Array Value} {own : String} {ix : Nat} (hts : ∀ w ∈ gw, w.before args s = true) (hl : (Cond.methodLink own ix yD_shuffle).before args s = true) (hR : 1 + 1 ≤ R.frames ∧ 8 + (4 + 11) + 23 ≤ R.locals) : CallW R s args own "MeshedSpans$Draws" ix yD_shuffle prog_4_method_4_code 4 none wD_shuffle { frames := 1, cells := 0, slots := 0, locals := 23 } 0 0 2 := ⟨callB_of (rm := { frames := 1, cells := 0, slots := 0, locals := 23 }) 2 hts (gw_c (ct := .code yD_shuffle prog_4_method_4_code 4 none) gm_277) rfl rfl rfl (hts _ gm_42) hl (by decide +kernel) hR, hts _ gm_275, hts _ gm_276⟩
theorem dD_shuffle_0 : decode prog_4_method_4_code 0 = .ok (.iload_n 2, 1) := by decide +kernel
theorem dD_shuffle_1 : decode prog_4_method_4_code 1 = .ok (.iconst 1, 1) := by decide +kernel
theorem dD_shuffle_2 : decode prog_4_method_4_code 2 = .ok (.isub, 1) := by decide +kernel
theorem dD_shuffle_3 : decode prog_4_method_4_code 3 = .ok (.istore_n 3, 1) := by decide +kernel
theorem dD_shuffle_4 : decode prog_4_method_4_code 4 = .ok (.iload_n 3, 1) := by decide +kernel
theorem dD_shuffle_5 : decode prog_4_method_4_code 5 = .ok (.iconst 1, 1) := by decide +kernel
theorem dD_shuffle_6 : decode prog_4_method_4_code 6 = .ok (.if_icmp .lt 21, 3) := by decide +kernel
theorem dD_shuffle_9 : decode prog_4_method_4_code 9 = .ok (.aload_n 1, 1) := by decide +kernel
theorem dD_shuffle_10 : decode prog_4_method_4_code 10 = .ok (.iload_n 3, 1) := by decide +kernel
theorem dD_shuffle_11 : decode prog_4_method_4_code 11 = .ok (.aload_n 0, 1) := by decide +kernel
theorem dD_shuffle_12 : decode prog_4_method_4_code 12 = .ok (.iload_n 3, 1) := by decide +kernel
theorem dD_shuffle_13 : decode prog_4_method_4_code 13 = .ok (.iconst 1, 1) := by decide +kernel
theorem dD_shuffle_14 : decode prog_4_method_4_code 14 = .ok (.iadd, 1) := by decide +kernel
theorem dD_shuffle_15 : decode prog_4_method_4_code 15 = .ok (.invokevirtual 15, 3) := by decide +kernel
theorem dD_shuffle_18 : decode prog_4_method_4_code 18 = .ok (.invokestatic 19, 3) := by decide +kernel
theorem dD_shuffle_21 : decode prog_4_method_4_code 21 = .ok (.iinc 3 (-1), 3) := by decide +kernel
theorem dD_shuffle_24 : decode prog_4_method_4_code 24 = .ok (.goto (-20), 3) := by decide +kernel
theorem dD_shuffle_27 : decode prog_4_method_4_code 27 = .ok (.return_, 1) := by decide +kernel
def fD_shuffle_B4 (rec : Int32 → Nat → Int32 → fl_G → Option ((Int32) × fl_G)) (v3 : Int32) (v1 : Nat) (v2 : Int32) (g : fl_G) : Option ((Int32) × fl_G) :=
  if v3 < 1 then (some (v3, g)) else (fl_bd (fD_below (v3 + 1) g) (fun r3 g4 => fl_bd (fD_exchange v1 v3 r3 g4) (fun r6 g7 => rec (v3 + (-1)) v1 v2 g7)))
def fD_shuffle_L4 : Nat → Int32 → Nat → Int32 → fl_G → Option ((Int32) × fl_G)
  | 0, _, _, _, _ => none
  | n + 1, v3, v1, v2, g => fD_shuffle_B4 (fD_shuffle_L4 n) v3 v1 v2 g
def fD_shuffle (a0 : Nat) (a1 : Int32) (g : fl_G) : Option (Unit × fl_G) :=
  fl_bd (fD_shuffle_L4 1000 (a1 - 1) a0 a1 g) (fun r9 g10 => some ((), g10))
set_option maxHeartbeats 4000000 in
set_option maxRecDepth 100000 in
theorem cD_shuffle (l : Launch) (dC : Nat → ClassId) (dI : Nat → Nat → Nat) (ca : Nat → ClassId) (ad : Nat → Nat) (hI : fl_inj 32 ad) (a0 : Nat) (a1 : Int32) {g g1 : fl_G} {r : Unit} (h : fD_shuffle a0 a1 g = some (r, g1)) : Met l yD_shuffle wD_shuffle ({ frames := 1, cells := 0, slots := 0, locals := 23 }) (va_Pc [.ref (ad 1), .ref (ad a0), .int a1] (fl_Pre (dC, dI) al_cl 32 (mc_sh ca ad) ad (mc_ty ca) mc_ns g)) (fl_QV (dC, dI) al_cl 32 (mc_sh ca ad) ad g1) 0 0 (fl_A 32 ad) := by
  refine fl_of (cc := prog_4_method_4_code) (maxL := 4) (ret := none) (by decide) rfl (Nat.le_of_ble_eq_true rfl) ?_
  intro p e s m below meth c ls hx hb hr hml hts hown hlocks hP hK hN hl
  have hown : s.vm.findClass "MeshedSpans$Draws" = some m.cls := hown
  have hS : va_S (fl_A 32 ad) s.heap s.heap [] := va_S.rf
  have hl : lv_has ls 4 [(0, .ref (ad 1)), (1, .ref (ad a0)), (2, .int a1)] := hl
  unfold fD_shuffle at h
  refine lv_iload_n hx hb dD_shuffle_0 rfl (lv_at hl 2 rfl) ?_
  refine lv_iconst (v := 1) hx hb dD_shuffle_1 (by decide) ?_
  refine lv_isub hx hb dD_shuffle_2 ?_
  refine lv_istore_n (lv' := [(3, .int (a1 - 1)), (0, .ref (ad 1)), (1, .ref (ad a0)), (2, .int a1)]) hx hb dD_shuffle_3 rfl hl (by decide) rfl (fun ls hl => ?_)
  have loop1 : ∀ (n : Nat) (v3 : Int32) (v1 : Nat) (v2 : Int32) (g : fl_G) (z : ((Int32) × fl_G)) (H : Heap) (locs : List Loc) (ls : Array Slot), fD_shuffle_L4 n v3 v1 v2 g = some z → va_P (dC, dI) al_cl (fl_ws 32 (mc_sh ca ad) ad g) H → va_S (fl_A 32 ad) s.heap H locs → lv_has ls 4 [(3, .int v3), (0, .ref (ad 1)), (1, .ref (ad v1)), (2, .int v2)] → (∀ (H : Heap) (locs : List Loc) (ls : Array Slot), va_P (dC, dI) al_cl (fl_ws 32 (mc_sh ca ad) ad z.2) H → va_S (fl_A 32 ad) s.heap H locs → lv_has ls 4 [(3, .int z.1), (0, .ref (ad 1)), (1, .ref (ad v1)), (2, .int v2)] → W p l e ({ frames := 1, cells := 0, slots := 0, locals := 23 }) s m ([.ref (ad 1), .ref (ad a0), .int a1] : List Value).toArray below meth c H locs 0 0 (MQ below (fl_QV (dC, dI) al_cl 32 (mc_sh ca ad) ad g1) ([.ref (ad 1), .ref (ad a0), .int a1] : List Value).toArray s 0 0 (fl_A 32 ad)) (F0 m 27 ls [])) → W p l e ({ frames := 1, cells := 0, slots := 0, locals := 23 }) s m ([.ref (ad 1), .ref (ad a0), .int a1] : List Value).toArray below meth c H locs 0 0 (MQ below (fl_QV (dC, dI) al_cl 32 (mc_sh ca ad) ad g1) ([.ref (ad 1), .ref (ad a0), .int a1] : List Value).toArray s 0 0 (fl_A 32 ad)) (F0 m 4 ls []) := by
    intro n
    clear h hP hS hl
    induction n with
    | zero => intro v3 v1 v2 g z H locs ls h; cases h
    | succ n ih1 =>
      intro v3 v1 v2 g z H locs ls h hP hS hl K1
      have h : fD_shuffle_B4 (fD_shuffle_L4 n) v3 v1 v2 g = some z := h
      unfold fD_shuffle_B4 at h
      refine lv_iload_n hx hb dD_shuffle_4 rfl (lv_at hl 0 rfl) ?_
      refine lv_iconst (v := 1) hx hb dD_shuffle_5 (by decide) ?_
      refine lv_icmp_lt (tgt := 27) hx hb dD_shuffle_6 (by decide) (fun c2 => ?_) (fun c2 => ?_)
      · replace h := fl_pos c2 h
        cases h
        exact K1 _ _ _ hP hS (lv_sub hl [0, 1, 2, 3] rfl)
      · replace h := fl_neg c2 h
        refine lv_aload_n hx hb dD_shuffle_9 rfl (lv_at hl 2 rfl) ?_
        refine lv_iload_n hx hb dD_shuffle_10 rfl (lv_at hl 0 rfl) ?_
        refine lv_aload_n hx hb dD_shuffle_11 rfl (lv_at hl 1 rfl) ?_
        refine lv_iload_n hx hb dD_shuffle_12 rfl (lv_at hl 0 rfl) ?_
        refine lv_iconst (v := 1) hx hb dD_shuffle_13 (by decide) ?_
        refine lv_iadd hx hb dD_shuffle_14 ?_
        replace h := fl_bd_some h
        obtain ⟨r3, g4, hc5, h⟩ := h
        refine fl_calli (va_runV (As := [.int (v3 + 1)]) (rest := [.int v3, .ref (ad v1)]) ⟨hx, hb, hml, hown, hts⟩ (cD_below l dC dI ca ad hI (v3 + 1) hc5) (kD_below hts (hts _ gm_278) ⟨Nat.le_of_ble_eq_true rfl, Nat.le_of_ble_eq_true rfl⟩) (fl_preV hK hP hN (mc_lt rfl (by decide)) (mc_sh1 rfl) rfl) rfl rfl hl.1 rfl (lv_room (Nat.le_of_ble_eq_true rfl)) dD_shuffle_15 ⟨Nat.le_refl 0, Nat.le_refl 0⟩) hS (fun H locs hP hS => ?_)
        replace h := fl_bd_some h
        obtain ⟨r6, g7, hc8, h⟩ := h
        refine fl_callv (va_runS (As := [.ref (ad v1), .int v3, .int r3]) (rest := []) ⟨hx, hb, hml, hown, hts⟩ (cD_exchange l dC dI ca ad hI v1 v3 r3 hc8) (kD_exchange hts (hts _ gm_284) ⟨Nat.le_of_ble_eq_true rfl, Nat.le_of_ble_eq_true rfl⟩) (fl_preS hK hP hN) rfl rfl hl.1 rfl (lv_room (Nat.le_of_ble_eq_true rfl)) dD_shuffle_18 ⟨Nat.le_refl 0, Nat.le_refl 0⟩) hS (fun H locs hP hS => ?_)
        refine lv_iinc (v := (v3 + (-1))) (lv' := [(3, .int (v3 + (-1))), (0, .ref (ad 1)), (1, .ref (ad v1)), (2, .int v2)]) hx hb dD_shuffle_21 hl (k := 0) rfl rfl (by decide) rfl (fun ls hl => ?_)
        refine lv_goto (tgt := 4) hx hb dD_shuffle_24 (by decide) ?_
        exact ih1 (v3 + (-1)) v1 v2 _ _ _ _ _ h hP hS (lv_sub hl [0, 1, 2, 3] rfl) K1
  obtain ⟨r9, g10, hc11, h⟩ := fl_bd_some h
  refine loop1 1000 (a1 - 1) a0 a1 _ (r9, g10) _ _ _ hc11 hP hS (lv_sub hl [0, 1, 2, 3] rfl) (fun H locs ls hP hS hl => ?_)
  have hP : va_P (dC, dI) al_cl (fl_ws 32 (mc_sh ca ad) ad g10) H := hP
  have hl : lv_has ls 4 [(3, .int r9), (0, .ref (ad 1)), (1, .ref (ad a0)), (2, .int a1)] := hl
  exact fl_vret hx hb hr hlocks hP hS h dD_shuffle_27
