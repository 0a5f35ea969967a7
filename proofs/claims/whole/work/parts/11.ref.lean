def yR_seed : MethodName := ⟨"MeshedSpansModel", "seed", "(I)V"⟩
def wR_seed : List Cond := .code yR_seed prog_8_method_2_code 2 none :: gw
theorem kR_seed {R : Room} {s : State} {args : Array Value} {own : String} {ix : Nat} (hts : ∀ w ∈ gw, w.before args s = true) (hl : (Cond.methodLink own ix yR_seed).before args s = true) (hR : 0 + 1 ≤ R.frames ∧ 8 + (2 + 11) + 0 ≤ R.locals) : CallW R s args own "MeshedSpansModel" ix yR_seed prog_8_method_2_code 2 none wR_seed { frames := 0, cells := 0, slots := 0, locals := 0 } 0 0 1 := ⟨callB_of (rm := { frames := 0, cells := 0, slots := 0, locals := 0 }) 1 hts (gw_c (ct := .code yR_seed prog_8_method_2_code 2 none) gm_554) rfl rfl rfl (hts _ gm_47) hl (by decide +kernel) hR, hts _ gm_552, hts _ gm_553⟩
theorem dR_seed_0 : decode prog_8_method_2_code 0 = .ok (.aload_n 0, 1) := by decide +kernel
theorem dR_seed_1 : decode prog_8_method_2_code 1 = .ok (.iload_n 1, 1) := by decide +kernel
theorem dR_seed_2 : decode prog_8_method_2_code 2 = .ok (.putfield 50, 3) := by decide +kernel
theorem dR_seed_5 : decode prog_8_method_2_code 5 = .ok (.return_, 1) := by decide +kernel
def fR_seed (a0 : Int32) (g : fl_G) : Option (Unit × fl_G) :=
  some ((), (fl_up g 0 0 a0))
set_option maxHeartbeats 4000000 in
set_option maxRecDepth 100000 in
theorem cR_seed (l : Launch) (dC : Nat → ClassId) (dI : Nat → Nat → Nat) (ca : Nat → ClassId) (ad : Nat → Nat) (hI : fl_inj 14 ad) (a0 : Int32) {g g1 : fl_G} {r : Unit} (h : fR_seed a0 g = some (r, g1)) : Met l yR_seed wR_seed ({ frames := 0, cells := 0, slots := 0, locals := 0 }) (va_Pc [.ref (ad 0), .int a0] (fl_Pre (dC, dI) al_cl 14 (rf_sh ca ad) ad (rf_ty ca) rf_ns g)) (fl_QV (dC, dI) al_cl 14 (rf_sh ca ad) ad g1) 0 0 (fl_A 14 ad) := by
  refine fl_of (cc := prog_8_method_2_code) (maxL := 2) (ret := none) (by decide) rfl (Nat.le_of_ble_eq_true rfl) ?_
  intro p e s m below meth c ls hx hb hr hml hts hown hlocks hP hK hN hl
  have hown : s.vm.findClass "MeshedSpansModel" = some m.cls := hown
  have hS : va_S (fl_A 14 ad) s.heap s.heap [] := va_S.rf
  have hl : lv_has ls 2 [(0, .ref (ad 0)), (1, .int a0)] := hl
  unfold fR_seed at h
  refine lv_aload_n hx hb dR_seed_0 rfl (lv_at hl 0 rfl) ?_
  refine lv_iload_n hx hb dR_seed_1 rfl (lv_at hl 1 rfl) ?_
  refine rf_put0 (iv := a0) hx hb hts rf_in0 hown hK hP hI hS (q := 0) rfl 0 (by decide) (hts _ gm_502) rfl rfl rfl dR_seed_2 (fun H locs hP hS => ?_)
  have hP : va_P (dC, dI) al_cl (fl_ws 14 (rf_sh ca ad) ad (fl_up g 0 0 a0)) H := hP
  exact fl_vret hx hb hr hlocks hP hS h dR_seed_5
def yR_draw : MethodName := ⟨"MeshedSpansModel", "draw", "(I)I"⟩
def wR_draw : List Cond := .code yR_draw prog_8_method_3_code 2 (some .int) :: gw
theorem kR_draw {R : Room} {s : State} {args : Array Value} {own : String} {ix : Nat} (hts : ∀ w ∈ gw, w.before args s = true) (hl : (Cond.methodLink own ix yR_draw).before args s = true) (hR : 0 + 1 ≤ R.frames ∧ 8 + (2 + 11) + 0 ≤ R.locals) : CallW R s args own "MeshedSpansModel" ix yR_draw prog_8_method_3_code 2 (some .int) wR_draw { frames := 0, cells := 0, slots := 0, locals := 0 } 0 0 1 := ⟨callB_of (rm := { frames := 0, cells := 0, slots := 0, locals := 0 }) 1 hts (gw_c (ct := .code yR_draw prog_8_method_3_code 2 (some .int)) gm_601) rfl rfl rfl (hts _ gm_47) hl (by decide +kernel) hR, hts _ gm_600, hts _ gm_27⟩
theorem dR_draw_0 : decode prog_8_method_3_code 0 = .ok (.aload_n 0, 1) := by decide +kernel
theorem dR_draw_1 : decode prog_8_method_3_code 1 = .ok (.aload_n 0, 1) := by decide +kernel
theorem dR_draw_2 : decode prog_8_method_3_code 2 = .ok (.getfield 50, 3) := by decide +kernel
theorem dR_draw_5 : decode prog_8_method_3_code 5 = .ok (.ldc 54, 2) := by decide +kernel
theorem dR_draw_7 : decode prog_8_method_3_code 7 = .ok (.imul, 1) := by decide +kernel
theorem dR_draw_8 : decode prog_8_method_3_code 8 = .ok (.ldc 55, 2) := by decide +kernel
theorem dR_draw_10 : decode prog_8_method_3_code 10 = .ok (.iadd, 1) := by decide +kernel
theorem dR_draw_11 : decode prog_8_method_3_code 11 = .ok (.putfield 50, 3) := by decide +kernel
theorem dR_draw_14 : decode prog_8_method_3_code 14 = .ok (.aload_n 0, 1) := by decide +kernel
theorem dR_draw_15 : decode prog_8_method_3_code 15 = .ok (.getfield 50, 3) := by decide +kernel
theorem dR_draw_18 : decode prog_8_method_3_code 18 = .ok (.bipush 16, 2) := by decide +kernel
theorem dR_draw_20 : decode prog_8_method_3_code 20 = .ok (.iushr, 1) := by decide +kernel
theorem dR_draw_21 : decode prog_8_method_3_code 21 = .ok (.iload_n 1, 1) := by decide +kernel
theorem dR_draw_22 : decode prog_8_method_3_code 22 = .ok (.irem, 1) := by decide +kernel
theorem dR_draw_23 : decode prog_8_method_3_code 23 = .ok (.ireturn, 1) := by decide +kernel
def fR_draw (a0 : Int32) (g : fl_G) : Option (Int32 × fl_G) :=
  fl_ck (¬ a0 = 0) (some ((fl_rem (fl_ushr ((fl_up g 0 0 (((g 0 0) * 1664525) + 1013904223)) 0 0) 16) a0), (fl_up g 0 0 (((g 0 0) * 1664525) + 1013904223))))
set_option maxHeartbeats 4000000 in
set_option maxRecDepth 100000 in
theorem cR_draw (l : Launch) (dC : Nat → ClassId) (dI : Nat → Nat → Nat) (ca : Nat → ClassId) (ad : Nat → Nat) (hI : fl_inj 14 ad) (a0 : Int32) {g g1 : fl_G} {r : Int32} (h : fR_draw a0 g = some (r, g1)) : Met l yR_draw wR_draw ({ frames := 0, cells := 0, slots := 0, locals := 0 }) (va_Pc [.ref (ad 0), .int a0] (fl_Pre (dC, dI) al_cl 14 (rf_sh ca ad) ad (rf_ty ca) rf_ns g)) (fl_QI (dC, dI) al_cl 14 (rf_sh ca ad) ad r g1) 0 0 (fl_A 14 ad) := by
  refine fl_of (cc := prog_8_method_3_code) (maxL := 2) (ret := (some .int)) (by decide) rfl (Nat.le_of_ble_eq_true rfl) ?_
  intro p e s m below meth c ls hx hb hr hml hts hown hlocks hP hK hN hl
  have hown : s.vm.findClass "MeshedSpansModel" = some m.cls := hown
  have hS : va_S (fl_A 14 ad) s.heap s.heap [] := va_S.rf
  have hl : lv_has ls 2 [(0, .ref (ad 0)), (1, .int a0)] := hl
  unfold fR_draw at h
  refine lv_aload_n hx hb dR_draw_0 rfl (lv_at hl 0 rfl) ?_
  refine lv_aload_n hx hb dR_draw_1 rfl (lv_at hl 0 rfl) ?_
  refine rf_get0 (v := .int (g 0 0)) hx hb hts rf_in0 hown hK hP (q := 0) rfl 0 (by decide) (hts _ gm_502) rfl dR_draw_2 ?_
  refine lv_ldc (v := 1664525) hx hb hown (hts _ gm_602) dR_draw_5 ?_
  refine lv_imul hx hb dR_draw_7 ?_
  refine lv_ldc (v := 1013904223) hx hb hown (hts _ gm_603) dR_draw_8 ?_
  refine lv_iadd hx hb dR_draw_10 ?_
  refine rf_put0 (iv := (((g 0 0) * 1664525) + 1013904223)) hx hb hts rf_in0 hown hK hP hI hS (q := 0) rfl 0 (by decide) (hts _ gm_502) rfl rfl rfl dR_draw_11 (fun H locs hP hS => ?_)
  have hP : va_P (dC, dI) al_cl (fl_ws 14 (rf_sh ca ad) ad (fl_up g 0 0 (((g 0 0) * 1664525) + 1013904223))) H := hP
  refine lv_aload_n hx hb dR_draw_14 rfl (lv_at hl 0 rfl) ?_
  refine rf_get0 (v := .int ((fl_up g 0 0 (((g 0 0) * 1664525) + 1013904223)) 0 0)) hx hb hts rf_in0 hown hK hP (q := 0) rfl 0 (by decide) (hts _ gm_502) rfl dR_draw_15 ?_
  refine lv_bipush (v := 16) hx hb dR_draw_18 (by decide) ?_
  refine lv_iushr (v := (fl_ushr ((fl_up g 0 0 (((g 0 0) * 1664525) + 1013904223)) 0 0) 16)) hx hb dR_draw_20 rfl ?_
  refine lv_iload_n hx hb dR_draw_21 rfl (lv_at hl 1 rfl) ?_
  replace h := fl_ck_some h
  obtain ⟨hz1, h⟩ := h
  refine lv_irem hx hb dR_draw_22 hz1 ?_
  exact fl_iret hx hb hr hlocks hP hS h dR_draw_23
def yR_within : MethodName := ⟨"MeshedSpansModel", "within", "(III)Z"⟩
def wR_within : List Cond := .code yR_within prog_8_method_4_code 3 (some .boolean) :: gw
theorem kR_within {R : Room} {s : State} {args : Array Value} {own : String} {ix : Nat} (hts : ∀ w ∈ gw, w.before args s = true) (hl : (Cond.methodLink own ix yR_within).before args s = true) (hR : 0 + 1 ≤ R.frames ∧ 8 + (3 + 11) + 0 ≤ R.locals) : CallB R s args own ix yR_within prog_8_method_4_code 3 (some .boolean) wR_within { frames := 0, cells := 0, slots := 0, locals := 0 } 0 0 3 ∧ (Cond.static yR_within).before args s = true := ⟨callB_of (rm := { frames := 0, cells := 0, slots := 0, locals := 0 }) 3 hts (gw_c (ct := .code yR_within prog_8_method_4_code 3 (some .boolean)) gm_561) rfl rfl rfl (hts _ gm_47) hl (by decide +kernel) hR, hts _ gm_560⟩
theorem dR_within_0 : decode prog_8_method_4_code 0 = .ok (.iload_n 0, 1) := by decide +kernel
theorem dR_within_1 : decode prog_8_method_4_code 1 = .ok (.iload_n 1, 1) := by decide +kernel
theorem dR_within_2 : decode prog_8_method_4_code 2 = .ok (.if_icmp .lt 12, 3) := by decide +kernel
theorem dR_within_5 : decode prog_8_method_4_code 5 = .ok (.iload_n 0, 1) := by decide +kernel
theorem dR_within_6 : decode prog_8_method_4_code 6 = .ok (.iload_n 2, 1) := by decide +kernel
theorem dR_within_7 : decode prog_8_method_4_code 7 = .ok (.if_icmp .gt 7, 3) := by decide +kernel
theorem dR_within_10 : decode prog_8_method_4_code 10 = .ok (.iconst 1, 1) := by decide +kernel
theorem dR_within_11 : decode prog_8_method_4_code 11 = .ok (.goto 4, 3) := by decide +kernel
theorem dR_within_14 : decode prog_8_method_4_code 14 = .ok (.iconst 0, 1) := by decide +kernel
theorem dR_within_15 : decode prog_8_method_4_code 15 = .ok (.ireturn, 1) := by decide +kernel
def fR_within (a0 : Int32) (a1 : Int32) (a2 : Int32) (g : fl_G) : Option (Int32 × fl_G) :=
  if a0 < a1 then (some (0, g)) else (if a2 < a0 then (some (0, g)) else (some (1, g)))
set_option maxHeartbeats 4000000 in
set_option maxRecDepth 100000 in
theorem cR_within (l : Launch) (dC : Nat → ClassId) (dI : Nat → Nat → Nat) (ca : Nat → ClassId) (ad : Nat → Nat) (hI : fl_inj 14 ad) (a0 : Int32) (a1 : Int32) (a2 : Int32) {g g1 : fl_G} {r : Int32} (h : fR_within a0 a1 a2 g = some (r, g1)) : Met l yR_within wR_within ({ frames := 0, cells := 0, slots := 0, locals := 0 }) (va_Pc [.int a0, .int a1, .int a2] (fl_Pre (dC, dI) al_cl 14 (rf_sh ca ad) ad (rf_ty ca) rf_ns g)) (fl_QI (dC, dI) al_cl 14 (rf_sh ca ad) ad r g1) 0 0 (fl_A 14 ad) := by
  refine fl_of (cc := prog_8_method_4_code) (maxL := 3) (ret := (some .boolean)) (by decide) rfl (Nat.le_of_ble_eq_true rfl) ?_
  intro p e s m below meth c ls hx hb hr hml hts hown hlocks hP hK hN hl
  have hown : s.vm.findClass "MeshedSpansModel" = some m.cls := hown
  have hS : va_S (fl_A 14 ad) s.heap s.heap [] := va_S.rf
  have hl : lv_has ls 3 [(0, .int a0), (1, .int a1), (2, .int a2)] := hl
  unfold fR_within at h
  refine lv_iload_n hx hb dR_within_0 rfl (lv_at hl 0 rfl) ?_
  refine lv_iload_n hx hb dR_within_1 rfl (lv_at hl 1 rfl) ?_
  refine lv_icmp_lt (tgt := 14) hx hb dR_within_2 (by decide) (fun c1 => ?_) (fun c1 => ?_)
  · replace h := fl_pos c1 h
    refine lv_iconst (v := 0) hx hb dR_within_14 (by decide) ?_
    exact fl_zret hx hb hr hlocks hP hS (Or.inl rfl) h dR_within_15
  · replace h := fl_neg c1 h
    refine lv_iload_n hx hb dR_within_5 rfl (lv_at hl 0 rfl) ?_
    refine lv_iload_n hx hb dR_within_6 rfl (lv_at hl 2 rfl) ?_
    refine lv_icmp_gt (tgt := 14) hx hb dR_within_7 (by decide) (fun c2 => ?_) (fun c2 => ?_)
    · replace h := fl_pos c2 h
      refine lv_iconst (v := 0) hx hb dR_within_14 (by decide) ?_
      exact fl_zret hx hb hr hlocks hP hS (Or.inl rfl) h dR_within_15
    · replace h := fl_neg c2 h
      refine lv_iconst (v := 1) hx hb dR_within_10 (by decide) ?_
      refine lv_goto (tgt := 15) hx hb dR_within_11 (by decide) ?_
      exact fl_zret hx hb hr hlocks hP hS (Or.inr rfl) h dR_within_15
def yR_cells : MethodName := ⟨"MeshedSpansModel", "cells", "(I)I"⟩
def wR_cells : List Cond := .code yR_cells prog_8_method_5_code 1 (some .int) :: gw
theorem kR_cells {R : Room} {s : State} {args : Array Value} {own : String} {ix : Nat} (hts : ∀ w ∈ gw, w.before args s = true) (hl : (Cond.methodLink own ix yR_cells).before args s = true) (hR : 0 + 1 ≤ R.frames ∧ 8 + (1 + 11) + 0 ≤ R.locals) : CallB R s args own ix yR_cells prog_8_method_5_code 1 (some .int) wR_cells { frames := 0, cells := 0, slots := 0, locals := 0 } 0 0 1 ∧ (Cond.static yR_cells).before args s = true := ⟨callB_of (rm := { frames := 0, cells := 0, slots := 0, locals := 0 }) 1 hts (gw_c (ct := .code yR_cells prog_8_method_5_code 1 (some .int)) gm_592) rfl rfl rfl (hts _ gm_47) hl (by decide +kernel) hR, hts _ gm_591⟩
theorem dR_cells_0 : decode prog_8_method_5_code 0 = .ok (.bipush 16, 2) := by decide +kernel
theorem dR_cells_2 : decode prog_8_method_5_code 2 = .ok (.iload_n 0, 1) := by decide +kernel
theorem dR_cells_3 : decode prog_8_method_5_code 3 = .ok (.ishr, 1) := by decide +kernel
theorem dR_cells_4 : decode prog_8_method_5_code 4 = .ok (.ireturn, 1) := by decide +kernel
def fR_cells (a0 : Int32) (g : fl_G) : Option (Int32 × fl_G) :=
  some ((16 >>> (a0 &&& 31)), g)
set_option maxHeartbeats 4000000 in
set_option maxRecDepth 100000 in
theorem cR_cells (l : Launch) (dC : Nat → ClassId) (dI : Nat → Nat → Nat) (ca : Nat → ClassId) (ad : Nat → Nat) (hI : fl_inj 14 ad) (a0 : Int32) {g g1 : fl_G} {r : Int32} (h : fR_cells a0 g = some (r, g1)) : Met l yR_cells wR_cells ({ frames := 0, cells := 0, slots := 0, locals := 0 }) (va_Pc [.int a0] (fl_Pre (dC, dI) al_cl 14 (rf_sh ca ad) ad (rf_ty ca) rf_ns g)) (fl_QI (dC, dI) al_cl 14 (rf_sh ca ad) ad r g1) 0 0 (fl_A 14 ad) := by
  refine fl_of (cc := prog_8_method_5_code) (maxL := 1) (ret := (some .int)) (by decide) rfl (Nat.le_of_ble_eq_true rfl) ?_
  intro p e s m below meth c ls hx hb hr hml hts hown hlocks hP hK hN hl
  have hown : s.vm.findClass "MeshedSpansModel" = some m.cls := hown
  have hS : va_S (fl_A 14 ad) s.heap s.heap [] := va_S.rf
  have hl : lv_has ls 1 [(0, .int a0)] := hl
  unfold fR_cells at h
  refine lv_bipush (v := 16) hx hb dR_cells_0 (by decide) ?_
  refine lv_iload_n hx hb dR_cells_2 rfl (lv_at hl 0 rfl) ?_
  refine lv_ishr hx hb dR_cells_3 ?_
  exact fl_iret hx hb hr hlocks hP hS h dR_cells_4
def yR_used : MethodName := ⟨"MeshedSpansModel", "used", "(I)I"⟩
def wR_used : List Cond := .code yR_used prog_8_method_6_code 4 (some .int) :: gw
theorem kR_used {R : Room} {s : State} {args : Array Value} {own : String} {ix : Nat} (hts : ∀ w ∈ gw, w.before args s = true) (hl : (Cond.methodLink own ix yR_used).before args s = true) (hR : 1 + 1 ≤ R.frames ∧ 8 + (4 + 11) + 20 ≤ R.locals) : CallW R s args own "MeshedSpansModel" ix yR_used prog_8_method_6_code 4 (some .int) wR_used { frames := 1, cells := 0, slots := 0, locals := 20 } 0 0 1 := ⟨callB_of (rm := { frames := 1, cells := 0, slots := 0, locals := 20 }) 1 hts (gw_c (ct := .code yR_used prog_8_method_6_code 4 (some .int)) gm_589) rfl rfl rfl (hts _ gm_47) hl (by decide +kernel) hR, hts _ gm_588, hts _ gm_24⟩
theorem dR_used_0 : decode prog_8_method_6_code 0 = .ok (.iconst 0, 1) := by decide +kernel
theorem dR_used_1 : decode prog_8_method_6_code 1 = .ok (.istore_n 2, 1) := by decide +kernel
theorem dR_used_2 : decode prog_8_method_6_code 2 = .ok (.iconst 0, 1) := by decide +kernel
theorem dR_used_3 : decode prog_8_method_6_code 3 = .ok (.istore_n 3, 1) := by decide +kernel
theorem dR_used_4 : decode prog_8_method_6_code 4 = .ok (.iload_n 3, 1) := by decide +kernel
theorem dR_used_5 : decode prog_8_method_6_code 5 = .ok (.aload_n 0, 1) := by decide +kernel
theorem dR_used_6 : decode prog_8_method_6_code 6 = .ok (.getfield 22, 3) := by decide +kernel
theorem dR_used_9 : decode prog_8_method_6_code 9 = .ok (.iload_n 1, 1) := by decide +kernel
theorem dR_used_10 : decode prog_8_method_6_code 10 = .ok (.iaload, 1) := by decide +kernel
theorem dR_used_11 : decode prog_8_method_6_code 11 = .ok (.invokestatic 56, 3) := by decide +kernel
theorem dR_used_14 : decode prog_8_method_6_code 14 = .ok (.if_icmp .ge 32, 3) := by decide +kernel
theorem dR_used_17 : decode prog_8_method_6_code 17 = .ok (.aload_n 0, 1) := by decide +kernel
theorem dR_used_18 : decode prog_8_method_6_code 18 = .ok (.getfield 28, 3) := by decide +kernel
theorem dR_used_21 : decode prog_8_method_6_code 21 = .ok (.bipush 16, 2) := by decide +kernel
theorem dR_used_23 : decode prog_8_method_6_code 23 = .ok (.iload_n 1, 1) := by decide +kernel
theorem dR_used_24 : decode prog_8_method_6_code 24 = .ok (.imul, 1) := by decide +kernel
theorem dR_used_25 : decode prog_8_method_6_code 25 = .ok (.iload_n 3, 1) := by decide +kernel
theorem dR_used_26 : decode prog_8_method_6_code 26 = .ok (.iadd, 1) := by decide +kernel
theorem dR_used_27 : decode prog_8_method_6_code 27 = .ok (.iaload, 1) := by decide +kernel
theorem dR_used_28 : decode prog_8_method_6_code 28 = .ok (.iconst (-1), 1) := by decide +kernel
theorem dR_used_29 : decode prog_8_method_6_code 29 = .ok (.if_icmp .ne 7, 3) := by decide +kernel
theorem dR_used_32 : decode prog_8_method_6_code 32 = .ok (.iload_n 2, 1) := by decide +kernel
theorem dR_used_33 : decode prog_8_method_6_code 33 = .ok (.goto 6, 3) := by decide +kernel
theorem dR_used_36 : decode prog_8_method_6_code 36 = .ok (.iload_n 2, 1) := by decide +kernel
theorem dR_used_37 : decode prog_8_method_6_code 37 = .ok (.iconst 1, 1) := by decide +kernel
theorem dR_used_38 : decode prog_8_method_6_code 38 = .ok (.iadd, 1) := by decide +kernel
theorem dR_used_39 : decode prog_8_method_6_code 39 = .ok (.istore_n 2, 1) := by decide +kernel
theorem dR_used_40 : decode prog_8_method_6_code 40 = .ok (.iinc 3 1, 3) := by decide +kernel
theorem dR_used_43 : decode prog_8_method_6_code 43 = .ok (.goto (-39), 3) := by decide +kernel
theorem dR_used_46 : decode prog_8_method_6_code 46 = .ok (.iload_n 2, 1) := by decide +kernel
theorem dR_used_47 : decode prog_8_method_6_code 47 = .ok (.ireturn, 1) := by decide +kernel
def fR_used_B4 (rec : Int32 → Int32 → Int32 → fl_G → Option ((Int32 × Int32) × fl_G)) (v3 : Int32) (v2 : Int32) (v1 : Int32) (g : fl_G) : Option ((Int32 × Int32) × fl_G) :=
  fl_ck (fl_in v1 12) (fl_bd (fR_cells (g 5 (Int32.toNatClampNeg v1)) g) (fun r3 g4 => if r3 ≤ v3 then (some ((v3, v2), g4)) else (fl_ck (fl_in ((16 * v1) + v3) 192) (if (g4 7 (Int32.toNatClampNeg ((16 * v1) + v3))) = (-1) then (rec (v3 + 1) v2 v1 g4) else (rec (v3 + 1) (v2 + 1) v1 g4)))))
def fR_used_L4 : Nat → Int32 → Int32 → Int32 → fl_G → Option ((Int32 × Int32) × fl_G)
  | 0, _, _, _, _ => none
  | n + 1, v3, v2, v1, g => fR_used_B4 (fR_used_L4 n) v3 v2 v1 g
def fR_used (a0 : Int32) (g : fl_G) : Option (Int32 × fl_G) :=
  fl_bd (fR_used_L4 1000 0 0 a0 g) (fun r9 g10 => some (r9.2, g10))
set_option maxHeartbeats 4000000 in
set_option maxRecDepth 100000 in
theorem cR_used (l : Launch) (dC : Nat → ClassId) (dI : Nat → Nat → Nat) (ca : Nat → ClassId) (ad : Nat → Nat) (hI : fl_inj 14 ad) (a0 : Int32) {g g1 : fl_G} {r : Int32} (h : fR_used a0 g = some (r, g1)) : Met l yR_used wR_used ({ frames := 1, cells := 0, slots := 0, locals := 20 }) (va_Pc [.ref (ad 0), .int a0] (fl_Pre (dC, dI) al_cl 14 (rf_sh ca ad) ad (rf_ty ca) rf_ns g)) (fl_QI (dC, dI) al_cl 14 (rf_sh ca ad) ad r g1) 0 0 (fl_A 14 ad) := by
  refine fl_of (cc := prog_8_method_6_code) (maxL := 4) (ret := (some .int)) (by decide) rfl (Nat.le_of_ble_eq_true rfl) ?_
  intro p e s m below meth c ls hx hb hr hml hts hown hlocks hP hK hN hl
  have hown : s.vm.findClass "MeshedSpansModel" = some m.cls := hown
  have hS : va_S (fl_A 14 ad) s.heap s.heap [] := va_S.rf
  have hl : lv_has ls 4 [(0, .ref (ad 0)), (1, .int a0)] := hl
  unfold fR_used at h
  refine lv_iconst (v := 0) hx hb dR_used_0 (by decide) ?_
  refine lv_istore_n (lv' := [(2, .int 0), (0, .ref (ad 0)), (1, .int a0)]) hx hb dR_used_1 rfl hl (by decide) rfl (fun ls hl => ?_)
  refine lv_iconst (v := 0) hx hb dR_used_2 (by decide) ?_
  refine lv_istore_n (lv' := [(3, .int 0), (2, .int 0), (0, .ref (ad 0)), (1, .int a0)]) hx hb dR_used_3 rfl hl (by decide) rfl (fun ls hl => ?_)
  have loop1 : ∀ (n : Nat) (v3 : Int32) (v2 : Int32) (v1 : Int32) (g : fl_G) (z : ((Int32 × Int32) × fl_G)) (H : Heap) (locs : List Loc) (ls : Array Slot), fR_used_L4 n v3 v2 v1 g = some z → va_P (dC, dI) al_cl (fl_ws 14 (rf_sh ca ad) ad g) H → va_S (fl_A 14 ad) s.heap H locs → lv_has ls 4 [(3, .int v3), (2, .int v2), (0, .ref (ad 0)), (1, .int v1)] → (∀ (H : Heap) (locs : List Loc) (ls : Array Slot), va_P (dC, dI) al_cl (fl_ws 14 (rf_sh ca ad) ad z.2) H → va_S (fl_A 14 ad) s.heap H locs → lv_has ls 4 [(3, .int z.1.1), (2, .int z.1.2), (0, .ref (ad 0)), (1, .int v1)] → W p l e ({ frames := 1, cells := 0, slots := 0, locals := 20 }) s m ([.ref (ad 0), .int a0] : List Value).toArray below meth c H locs 0 0 (MQ below (fl_QI (dC, dI) al_cl 14 (rf_sh ca ad) ad r g1) ([.ref (ad 0), .int a0] : List Value).toArray s 0 0 (fl_A 14 ad)) (F0 m 46 ls [])) → W p l e ({ frames := 1, cells := 0, slots := 0, locals := 20 }) s m ([.ref (ad 0), .int a0] : List Value).toArray below meth c H locs 0 0 (MQ below (fl_QI (dC, dI) al_cl 14 (rf_sh ca ad) ad r g1) ([.ref (ad 0), .int a0] : List Value).toArray s 0 0 (fl_A 14 ad)) (F0 m 4 ls []) := by
    intro n
    clear h hP hS hl
    induction n with
    | zero => intro v3 v2 v1 g z H locs ls h; cases h
    | succ n ih1 =>
      intro v3 v2 v1 g z H locs ls h hP hS hl K1
      have h : fR_used_B4 (fR_used_L4 n) v3 v2 v1 g = some z := h
      unfold fR_used_B4 at h
      refine lv_iload_n hx hb dR_used_4 rfl (lv_at hl 0 rfl) ?_
      refine lv_aload_n hx hb dR_used_5 rfl (lv_at hl 2 rfl) ?_
      refine rf_get0 (v := .ref (ad 5)) hx hb hts rf_in0 hown hK hP (q := 0) rfl 5 (by decide) (hts _ gm_507) rfl dR_used_6 ?_
      refine lv_iload_n hx hb dR_used_9 rfl (lv_at hl 3 rfl) ?_
      replace h := fl_ck_some h
      obtain ⟨hi2, h⟩ := h
      refine rf_iald hx hb hK hP (q := 5) rfl hi2 dR_used_10 ?_
      replace h := fl_bd_some h
      obtain ⟨r3, g4, hc5, h⟩ := h
      refine fl_calli (va_runS (As := [.int (g 5 (Int32.toNatClampNeg v1))]) (rest := [.int v3]) ⟨hx, hb, hml, hown, hts⟩ (cR_cells l dC dI ca ad hI (g 5 (Int32.toNatClampNeg v1)) hc5) (kR_cells hts (hts _ gm_590) ⟨Nat.le_of_ble_eq_true rfl, Nat.le_of_ble_eq_true rfl⟩) (fl_preS hK hP hN) rfl rfl hl.1 rfl (lv_room (Nat.le_of_ble_eq_true rfl)) dR_used_11 ⟨Nat.le_refl 0, Nat.le_refl 0⟩) hS (fun H locs hP hS => ?_)
      refine lv_icmp_ge (tgt := 46) hx hb dR_used_14 (by decide) (fun c6 => ?_) (fun c6 => ?_)
      · replace h := fl_pos c6 h
        cases h
        exact K1 _ _ _ hP hS (lv_sub hl [0, 1, 2, 3] rfl)
      · replace h := fl_neg c6 h
        refine lv_aload_n hx hb dR_used_17 rfl (lv_at hl 2 rfl) ?_
        refine rf_get0 (v := .ref (ad 7)) hx hb hts rf_in0 hown hK hP (q := 0) rfl 7 (by decide) (hts _ gm_509) rfl dR_used_18 ?_
        refine lv_bipush (v := 16) hx hb dR_used_21 (by decide) ?_
        refine lv_iload_n hx hb dR_used_23 rfl (lv_at hl 3 rfl) ?_
        refine lv_imul hx hb dR_used_24 ?_
        refine lv_iload_n hx hb dR_used_25 rfl (lv_at hl 0 rfl) ?_
        refine lv_iadd hx hb dR_used_26 ?_
        replace h := fl_ck_some h
        obtain ⟨hi7, h⟩ := h
        refine rf_iald hx hb hK hP (q := 7) rfl hi7 dR_used_27 ?_
        refine lv_iconst (v := (-1)) hx hb dR_used_28 (by decide) ?_
        refine lv_icmp_ne (tgt := 36) hx hb dR_used_29 (by decide) (fun c8 => ?_) (fun c8 => ?_)
        · replace h := fl_neg c8 h
          refine lv_iload_n hx hb dR_used_36 rfl (lv_at hl 1 rfl) ?_
          refine lv_iconst (v := 1) hx hb dR_used_37 (by decide) ?_
          refine lv_iadd hx hb dR_used_38 ?_
          refine lv_istore_n (lv' := [(2, .int (v2 + 1)), (3, .int v3), (0, .ref (ad 0)), (1, .int v1)]) hx hb dR_used_39 rfl hl (by decide) rfl (fun ls hl => ?_)
          refine lv_iinc (v := (v3 + 1)) (lv' := [(3, .int (v3 + 1)), (2, .int (v2 + 1)), (0, .ref (ad 0)), (1, .int v1)]) hx hb dR_used_40 hl (k := 1) rfl rfl (by decide) rfl (fun ls hl => ?_)
          refine lv_goto (tgt := 4) hx hb dR_used_43 (by decide) ?_
          exact ih1 (v3 + 1) (v2 + 1) v1 _ _ _ _ _ h hP hS (lv_sub hl [0, 1, 2, 3] rfl) K1
        · replace h := fl_pos c8 h
          refine lv_iload_n hx hb dR_used_32 rfl (lv_at hl 1 rfl) ?_
          refine lv_goto (tgt := 39) hx hb dR_used_33 (by decide) ?_
          refine lv_istore_n (lv' := [(2, .int v2), (3, .int v3), (0, .ref (ad 0)), (1, .int v1)]) hx hb dR_used_39 rfl hl (by decide) rfl (fun ls hl => ?_)
          refine lv_iinc (v := (v3 + 1)) (lv' := [(3, .int (v3 + 1)), (2, .int v2), (0, .ref (ad 0)), (1, .int v1)]) hx hb dR_used_40 hl (k := 1) rfl rfl (by decide) rfl (fun ls hl => ?_)
          refine lv_goto (tgt := 4) hx hb dR_used_43 (by decide) ?_
          exact ih1 (v3 + 1) v2 v1 _ _ _ _ _ h hP hS (lv_sub hl [0, 1, 2, 3] rfl) K1
  obtain ⟨r9, g10, hc11, h⟩ := fl_bd_some h
  refine loop1 1000 0 0 a0 _ (r9, g10) _ _ _ hc11 hP hS (lv_sub hl [0, 1, 2, 3] rfl) (fun H locs ls hP hS hl => ?_)
  have hP : va_P (dC, dI) al_cl (fl_ws 14 (rf_sh ca ad) ad g10) H := hP
  have hl : lv_has ls 4 [(3, .int r9.1), (2, .int r9.2), (0, .ref (ad 0)), (1, .int a0)] := hl
  refine lv_iload_n hx hb dR_used_46 rfl (lv_at hl 1 rfl) ?_
  exact fl_iret hx hb hr hlocks hP hS h dR_used_47
def yR_isHeap : MethodName := ⟨"MeshedSpansModel", "isHeap", "(II)Z"⟩
def wR_isHeap : List Cond := .code yR_isHeap prog_8_method_7_code 3 (some .boolean) :: gw
theorem kR_isHeap {R : Room} {s : State} {args : Array Value} {own : String} {ix : Nat} (hts : ∀ w ∈ gw, w.before args s = true) (hl : (Cond.methodLink own ix yR_isHeap).before args s = true) (hR : 0 + 1 ≤ R.frames ∧ 8 + (3 + 11) + 0 ≤ R.locals) : CallW R s args own "MeshedSpansModel" ix yR_isHeap prog_8_method_7_code 3 (some .boolean) wR_isHeap { frames := 0, cells := 0, slots := 0, locals := 0 } 0 0 2 := ⟨callB_of (rm := { frames := 0, cells := 0, slots := 0, locals := 0 }) 2 hts (gw_c (ct := .code yR_isHeap prog_8_method_7_code 3 (some .boolean)) gm_586) rfl rfl rfl (hts _ gm_47) hl (by decide +kernel) hR, hts _ gm_585, hts _ gm_23⟩
theorem dR_isHeap_0 : decode prog_8_method_7_code 0 = .ok (.aload_n 0, 1) := by decide +kernel
theorem dR_isHeap_1 : decode prog_8_method_7_code 1 = .ok (.getfield 7, 3) := by decide +kernel
theorem dR_isHeap_4 : decode prog_8_method_7_code 4 = .ok (.iload_n 1, 1) := by decide +kernel
theorem dR_isHeap_5 : decode prog_8_method_7_code 5 = .ok (.iaload, 1) := by decide +kernel
theorem dR_isHeap_6 : decode prog_8_method_7_code 6 = .ok (.iconst 1, 1) := by decide +kernel
theorem dR_isHeap_7 : decode prog_8_method_7_code 7 = .ok (.if_icmp .ne 17, 3) := by decide +kernel
theorem dR_isHeap_10 : decode prog_8_method_7_code 10 = .ok (.aload_n 0, 1) := by decide +kernel
theorem dR_isHeap_11 : decode prog_8_method_7_code 11 = .ok (.getfield 22, 3) := by decide +kernel
theorem dR_isHeap_14 : decode prog_8_method_7_code 14 = .ok (.iload_n 1, 1) := by decide +kernel
theorem dR_isHeap_15 : decode prog_8_method_7_code 15 = .ok (.iaload, 1) := by decide +kernel
theorem dR_isHeap_16 : decode prog_8_method_7_code 16 = .ok (.iload_n 2, 1) := by decide +kernel
theorem dR_isHeap_17 : decode prog_8_method_7_code 17 = .ok (.if_icmp .ne 7, 3) := by decide +kernel
theorem dR_isHeap_20 : decode prog_8_method_7_code 20 = .ok (.iconst 1, 1) := by decide +kernel
theorem dR_isHeap_21 : decode prog_8_method_7_code 21 = .ok (.goto 4, 3) := by decide +kernel
theorem dR_isHeap_24 : decode prog_8_method_7_code 24 = .ok (.iconst 0, 1) := by decide +kernel
theorem dR_isHeap_25 : decode prog_8_method_7_code 25 = .ok (.ireturn, 1) := by decide +kernel
def fR_isHeap (a0 : Int32) (a1 : Int32) (g : fl_G) : Option (Int32 × fl_G) :=
  fl_ck (fl_in a0 12) (if (g 1 (Int32.toNatClampNeg a0)) = 1 then (fl_ck (fl_in a0 12) (if (g 5 (Int32.toNatClampNeg a0)) = a1 then (some (1, g)) else (some (0, g)))) else (some (0, g)))
set_option maxHeartbeats 4000000 in
set_option maxRecDepth 100000 in
theorem cR_isHeap (l : Launch) (dC : Nat → ClassId) (dI : Nat → Nat → Nat) (ca : Nat → ClassId) (ad : Nat → Nat) (hI : fl_inj 14 ad) (a0 : Int32) (a1 : Int32) {g g1 : fl_G} {r : Int32} (h : fR_isHeap a0 a1 g = some (r, g1)) : Met l yR_isHeap wR_isHeap ({ frames := 0, cells := 0, slots := 0, locals := 0 }) (va_Pc [.ref (ad 0), .int a0, .int a1] (fl_Pre (dC, dI) al_cl 14 (rf_sh ca ad) ad (rf_ty ca) rf_ns g)) (fl_QI (dC, dI) al_cl 14 (rf_sh ca ad) ad r g1) 0 0 (fl_A 14 ad) := by
  refine fl_of (cc := prog_8_method_7_code) (maxL := 3) (ret := (some .boolean)) (by decide) rfl (Nat.le_of_ble_eq_true rfl) ?_
  intro p e s m below meth c ls hx hb hr hml hts hown hlocks hP hK hN hl
  have hown : s.vm.findClass "MeshedSpansModel" = some m.cls := hown
  have hS : va_S (fl_A 14 ad) s.heap s.heap [] := va_S.rf
  have hl : lv_has ls 3 [(0, .ref (ad 0)), (1, .int a0), (2, .int a1)] := hl
  unfold fR_isHeap at h
  refine lv_aload_n hx hb dR_isHeap_0 rfl (lv_at hl 0 rfl) ?_
  refine rf_get0 (v := .ref (ad 1)) hx hb hts rf_in0 hown hK hP (q := 0) rfl 1 (by decide) (hts _ gm_503) rfl dR_isHeap_1 ?_
  refine lv_iload_n hx hb dR_isHeap_4 rfl (lv_at hl 1 rfl) ?_
  replace h := fl_ck_some h
  obtain ⟨hi1, h⟩ := h
  refine rf_iald hx hb hK hP (q := 1) rfl hi1 dR_isHeap_5 ?_
  refine lv_iconst (v := 1) hx hb dR_isHeap_6 (by decide) ?_
  refine lv_icmp_ne (tgt := 24) hx hb dR_isHeap_7 (by decide) (fun c2 => ?_) (fun c2 => ?_)
  · replace h := fl_neg c2 h
    refine lv_iconst (v := 0) hx hb dR_isHeap_24 (by decide) ?_
    exact fl_zret hx hb hr hlocks hP hS (Or.inl rfl) h dR_isHeap_25
  · replace h := fl_pos c2 h
    refine lv_aload_n hx hb dR_isHeap_10 rfl (lv_at hl 0 rfl) ?_
    refine rf_get0 (v := .ref (ad 5)) hx hb hts rf_in0 hown hK hP (q := 0) rfl 5 (by decide) (hts _ gm_507) rfl dR_isHeap_11 ?_
    refine lv_iload_n hx hb dR_isHeap_14 rfl (lv_at hl 1 rfl) ?_
    replace h := fl_ck_some h
    obtain ⟨hi3, h⟩ := h
    refine rf_iald hx hb hK hP (q := 5) rfl hi3 dR_isHeap_15 ?_
    refine lv_iload_n hx hb dR_isHeap_16 rfl (lv_at hl 2 rfl) ?_
    refine lv_icmp_ne (tgt := 24) hx hb dR_isHeap_17 (by decide) (fun c4 => ?_) (fun c4 => ?_)
    · replace h := fl_neg c4 h
      refine lv_iconst (v := 0) hx hb dR_isHeap_24 (by decide) ?_
      exact fl_zret hx hb hr hlocks hP hS (Or.inl rfl) h dR_isHeap_25
    · replace h := fl_pos c4 h
      refine lv_iconst (v := 1) hx hb dR_isHeap_20 (by decide) ?_
      refine lv_goto (tgt := 25) hx hb dR_isHeap_21 (by decide) ?_
      exact fl_zret hx hb hr hlocks hP hS (Or.inr rfl) h dR_isHeap_25
def yR_freePhysical : MethodName := ⟨"MeshedSpansModel", "freePhysical", "()I"⟩
def wR_freePhysical : List Cond := .code yR_freePhysical prog_8_method_8_code 2 (some .int) :: gw
theorem kR_freePhysical {R : Room} {s : State} {args : Array Value} {own : String} {ix : Nat} (hts : ∀ w ∈ gw, w.before args s = true) (hl : (Cond.methodLink own ix yR_freePhysical).before args s = true) (hR : 0 + 1 ≤ R.frames ∧ 8 + (2 + 11) + 0 ≤ R.locals) : CallW R s args own "MeshedSpansModel" ix yR_freePhysical prog_8_method_8_code 2 (some .int) wR_freePhysical { frames := 0, cells := 0, slots := 0, locals := 0 } 0 0 0 := ⟨callB_of (rm := { frames := 0, cells := 0, slots := 0, locals := 0 }) 0 hts (gw_c (ct := .code yR_freePhysical prog_8_method_8_code 2 (some .int)) gm_574) rfl rfl rfl (hts _ gm_47) hl (by decide +kernel) hR, hts _ gm_573, hts _ gm_19⟩
theorem dR_freePhysical_0 : decode prog_8_method_8_code 0 = .ok (.iconst 0, 1) := by decide +kernel
theorem dR_freePhysical_1 : decode prog_8_method_8_code 1 = .ok (.istore_n 1, 1) := by decide +kernel
theorem dR_freePhysical_2 : decode prog_8_method_8_code 2 = .ok (.iload_n 1, 1) := by decide +kernel
theorem dR_freePhysical_3 : decode prog_8_method_8_code 3 = .ok (.bipush 12, 2) := by decide +kernel
theorem dR_freePhysical_5 : decode prog_8_method_8_code 5 = .ok (.if_icmp .ge 18, 3) := by decide +kernel
theorem dR_freePhysical_8 : decode prog_8_method_8_code 8 = .ok (.aload_n 0, 1) := by decide +kernel
theorem dR_freePhysical_9 : decode prog_8_method_8_code 9 = .ok (.getfield 7, 3) := by decide +kernel
theorem dR_freePhysical_12 : decode prog_8_method_8_code 12 = .ok (.iload_n 1, 1) := by decide +kernel
theorem dR_freePhysical_13 : decode prog_8_method_8_code 13 = .ok (.iaload, 1) := by decide +kernel
theorem dR_freePhysical_14 : decode prog_8_method_8_code 14 = .ok (.ifCond .eq 9, 3) := by decide +kernel
theorem dR_freePhysical_17 : decode prog_8_method_8_code 17 = .ok (.iinc 1 1, 3) := by decide +kernel
theorem dR_freePhysical_20 : decode prog_8_method_8_code 20 = .ok (.goto (-18), 3) := by decide +kernel
theorem dR_freePhysical_23 : decode prog_8_method_8_code 23 = .ok (.iload_n 1, 1) := by decide +kernel
theorem dR_freePhysical_24 : decode prog_8_method_8_code 24 = .ok (.ireturn, 1) := by decide +kernel
def fR_freePhysical_B2 (rec : Int32 → fl_G → Option ((Int32) × fl_G)) (v1 : Int32) (g : fl_G) : Option ((Int32) × fl_G) :=
  if 12 ≤ v1 then (some (v1, g)) else (fl_ck (fl_in v1 12) (if (g 1 (Int32.toNatClampNeg v1)) = 0 then (some (v1, g)) else (rec (v1 + 1) g)))
def fR_freePhysical_L2 : Nat → Int32 → fl_G → Option ((Int32) × fl_G)
  | 0, _, _ => none
  | n + 1, v1, g => fR_freePhysical_B2 (fR_freePhysical_L2 n) v1 g
def fR_freePhysical (g : fl_G) : Option (Int32 × fl_G) :=
  fl_bd (fR_freePhysical_L2 1000 0 g) (fun r5 g6 => some (r5, g6))
set_option maxHeartbeats 4000000 in
set_option maxRecDepth 100000 in
theorem cR_freePhysical (l : Launch) (dC : Nat → ClassId) (dI : Nat → Nat → Nat) (ca : Nat → ClassId) (ad : Nat → Nat) (hI : fl_inj 14 ad) {g g1 : fl_G} {r : Int32} (h : fR_freePhysical g = some (r, g1)) : Met l yR_freePhysical wR_freePhysical ({ frames := 0, cells := 0, slots := 0, locals := 0 }) (va_Pc [.ref (ad 0)] (fl_Pre (dC, dI) al_cl 14 (rf_sh ca ad) ad (rf_ty ca) rf_ns g)) (fl_QI (dC, dI) al_cl 14 (rf_sh ca ad) ad r g1) 0 0 (fl_A 14 ad) := by
  refine fl_of (cc := prog_8_method_8_code) (maxL := 2) (ret := (some .int)) (by decide) rfl (Nat.le_of_ble_eq_true rfl) ?_
  intro p e s m below meth c ls hx hb hr hml hts hown hlocks hP hK hN hl
  have hown : s.vm.findClass "MeshedSpansModel" = some m.cls := hown
  have hS : va_S (fl_A 14 ad) s.heap s.heap [] := va_S.rf
  have hl : lv_has ls 2 [(0, .ref (ad 0))] := hl
  unfold fR_freePhysical at h
  refine lv_iconst (v := 0) hx hb dR_freePhysical_0 (by decide) ?_
  refine lv_istore_n (lv' := [(1, .int 0), (0, .ref (ad 0))]) hx hb dR_freePhysical_1 rfl hl (by decide) rfl (fun ls hl => ?_)
  have loop1 : ∀ (n : Nat) (v1 : Int32) (g : fl_G) (z : ((Int32) × fl_G)) (H : Heap) (locs : List Loc) (ls : Array Slot), fR_freePhysical_L2 n v1 g = some z → va_P (dC, dI) al_cl (fl_ws 14 (rf_sh ca ad) ad g) H → va_S (fl_A 14 ad) s.heap H locs → lv_has ls 2 [(1, .int v1), (0, .ref (ad 0))] → (∀ (H : Heap) (locs : List Loc) (ls : Array Slot), va_P (dC, dI) al_cl (fl_ws 14 (rf_sh ca ad) ad z.2) H → va_S (fl_A 14 ad) s.heap H locs → lv_has ls 2 [(1, .int z.1), (0, .ref (ad 0))] → W p l e ({ frames := 0, cells := 0, slots := 0, locals := 0 }) s m ([.ref (ad 0)] : List Value).toArray below meth c H locs 0 0 (MQ below (fl_QI (dC, dI) al_cl 14 (rf_sh ca ad) ad r g1) ([.ref (ad 0)] : List Value).toArray s 0 0 (fl_A 14 ad)) (F0 m 23 ls [])) → W p l e ({ frames := 0, cells := 0, slots := 0, locals := 0 }) s m ([.ref (ad 0)] : List Value).toArray below meth c H locs 0 0 (MQ below (fl_QI (dC, dI) al_cl 14 (rf_sh ca ad) ad r g1) ([.ref (ad 0)] : List Value).toArray s 0 0 (fl_A 14 ad)) (F0 m 2 ls []) := by
    intro n
    clear h hP hS hl
    induction n with
    | zero => intro v1 g z H locs ls h; cases h
    | succ n ih1 =>
      intro v1 g z H locs ls h hP hS hl K1
      have h : fR_freePhysical_B2 (fR_freePhysical_L2 n) v1 g = some z := h
      unfold fR_freePhysical_B2 at h
      refine lv_iload_n hx hb dR_freePhysical_2 rfl (lv_at hl 0 rfl) ?_
      refine lv_bipush (v := 12) hx hb dR_freePhysical_3 (by decide) ?_
      refine lv_icmp_ge (tgt := 23) hx hb dR_freePhysical_5 (by decide) (fun c2 => ?_) (fun c2 => ?_)
      · replace h := fl_pos c2 h
        cases h
        exact K1 _ _ _ hP hS (lv_sub hl [0, 1] rfl)
      · replace h := fl_neg c2 h
        refine lv_aload_n hx hb dR_freePhysical_8 rfl (lv_at hl 1 rfl) ?_
        refine rf_get0 (v := .ref (ad 1)) hx hb hts rf_in0 hown hK hP (q := 0) rfl 1 (by decide) (hts _ gm_503) rfl dR_freePhysical_9 ?_
        refine lv_iload_n hx hb dR_freePhysical_12 rfl (lv_at hl 0 rfl) ?_
        replace h := fl_ck_some h
        obtain ⟨hi3, h⟩ := h
        refine rf_iald hx hb hK hP (q := 1) rfl hi3 dR_freePhysical_13 ?_
        refine lv_if_eq (tgt := 23) hx hb dR_freePhysical_14 (by decide) (fun c4 => ?_) (fun c4 => ?_)
        · replace h := fl_pos c4 h
          cases h
          exact K1 _ _ _ hP hS (lv_sub hl [0, 1] rfl)
        · replace h := fl_neg c4 h
          refine lv_iinc (v := (v1 + 1)) (lv' := [(1, .int (v1 + 1)), (0, .ref (ad 0))]) hx hb dR_freePhysical_17 hl (k := 0) rfl rfl (by decide) rfl (fun ls hl => ?_)
          refine lv_goto (tgt := 2) hx hb dR_freePhysical_20 (by decide) ?_
          exact ih1 (v1 + 1) _ _ _ _ _ h hP hS (lv_sub hl [0, 1] rfl) K1
  obtain ⟨r5, g6, hc7, h⟩ := fl_bd_some h
  refine loop1 1000 0 _ (r5, g6) _ _ _ hc7 hP hS (lv_sub hl [0, 1] rfl) (fun H locs ls hP hS hl => ?_)
  have hP : va_P (dC, dI) al_cl (fl_ws 14 (rf_sh ca ad) ad g6) H := hP
  have hl : lv_has ls 2 [(1, .int r5), (0, .ref (ad 0))] := hl
  refine lv_iload_n hx hb dR_freePhysical_23 rfl (lv_at hl 0 rfl) ?_
  exact fl_iret hx hb hr hlocks hP hS h dR_freePhysical_24
def yR_freeVirtual : MethodName := ⟨"MeshedSpansModel", "freeVirtual", "(I)I"⟩
def wR_freeVirtual : List Cond := .code yR_freeVirtual prog_8_method_9_code 5 (some .int) :: gw
theorem kR_freeVirtual {R : Room} {s : State} {args : Array Value} {own : String} {ix : Nat} (hts : ∀ w ∈ gw, w.before args s = true) (hl : (Cond.methodLink own ix yR_freeVirtual).before args s = true) (hR : 0 + 1 ≤ R.frames ∧ 8 + (5 + 11) + 0 ≤ R.locals) : CallW R s args own "MeshedSpansModel" ix yR_freeVirtual prog_8_method_9_code 5 (some .int) wR_freeVirtual { frames := 0, cells := 0, slots := 0, locals := 0 } 0 0 1 := ⟨callB_of (rm := { frames := 0, cells := 0, slots := 0, locals := 0 }) 1 hts (gw_c (ct := .code yR_freeVirtual prog_8_method_9_code 5 (some .int)) gm_567) rfl rfl rfl (hts _ gm_47) hl (by decide +kernel) hR, hts _ gm_566, hts _ gm_18⟩
theorem dR_freeVirtual_0 : decode prog_8_method_9_code 0 = .ok (.iconst 0, 1) := by decide +kernel
theorem dR_freeVirtual_1 : decode prog_8_method_9_code 1 = .ok (.istore_n 2, 1) := by decide +kernel
theorem dR_freeVirtual_2 : decode prog_8_method_9_code 2 = .ok (.iload_n 2, 1) := by decide +kernel
theorem dR_freeVirtual_3 : decode prog_8_method_9_code 3 = .ok (.iload_n 1, 1) := by decide +kernel
theorem dR_freeVirtual_4 : decode prog_8_method_9_code 4 = .ok (.iadd, 1) := by decide +kernel
theorem dR_freeVirtual_5 : decode prog_8_method_9_code 5 = .ok (.bipush 24, 2) := by decide +kernel
theorem dR_freeVirtual_7 : decode prog_8_method_9_code 7 = .ok (.if_icmp .gt 55, 3) := by decide +kernel
theorem dR_freeVirtual_10 : decode prog_8_method_9_code 10 = .ok (.iconst 1, 1) := by decide +kernel
theorem dR_freeVirtual_11 : decode prog_8_method_9_code 11 = .ok (.istore_n 3, 1) := by decide +kernel
theorem dR_freeVirtual_12 : decode prog_8_method_9_code 12 = .ok (.iconst 0, 1) := by decide +kernel
theorem dR_freeVirtual_13 : decode prog_8_method_9_code 13 = .ok (.istore 4, 2) := by decide +kernel
theorem dR_freeVirtual_15 : decode prog_8_method_9_code 15 = .ok (.iload 4, 2) := by decide +kernel
theorem dR_freeVirtual_17 : decode prog_8_method_9_code 17 = .ok (.iload_n 1, 1) := by decide +kernel
theorem dR_freeVirtual_18 : decode prog_8_method_9_code 18 = .ok (.if_icmp .ge 32, 3) := by decide +kernel
theorem dR_freeVirtual_21 : decode prog_8_method_9_code 21 = .ok (.iload_n 3, 1) := by decide +kernel
theorem dR_freeVirtual_22 : decode prog_8_method_9_code 22 = .ok (.ifCond .eq 20, 3) := by decide +kernel
theorem dR_freeVirtual_25 : decode prog_8_method_9_code 25 = .ok (.aload_n 0, 1) := by decide +kernel
theorem dR_freeVirtual_26 : decode prog_8_method_9_code 26 = .ok (.getfield 16, 3) := by decide +kernel
theorem dR_freeVirtual_29 : decode prog_8_method_9_code 29 = .ok (.iload_n 2, 1) := by decide +kernel
theorem dR_freeVirtual_30 : decode prog_8_method_9_code 30 = .ok (.iload 4, 2) := by decide +kernel
theorem dR_freeVirtual_32 : decode prog_8_method_9_code 32 = .ok (.iadd, 1) := by decide +kernel
theorem dR_freeVirtual_33 : decode prog_8_method_9_code 33 = .ok (.iaload, 1) := by decide +kernel
theorem dR_freeVirtual_34 : decode prog_8_method_9_code 34 = .ok (.iconst (-1), 1) := by decide +kernel
theorem dR_freeVirtual_35 : decode prog_8_method_9_code 35 = .ok (.if_icmp .ne 7, 3) := by decide +kernel
theorem dR_freeVirtual_38 : decode prog_8_method_9_code 38 = .ok (.iconst 1, 1) := by decide +kernel
theorem dR_freeVirtual_39 : decode prog_8_method_9_code 39 = .ok (.goto 4, 3) := by decide +kernel
theorem dR_freeVirtual_42 : decode prog_8_method_9_code 42 = .ok (.iconst 0, 1) := by decide +kernel
theorem dR_freeVirtual_43 : decode prog_8_method_9_code 43 = .ok (.istore_n 3, 1) := by decide +kernel
theorem dR_freeVirtual_44 : decode prog_8_method_9_code 44 = .ok (.iinc 4 1, 3) := by decide +kernel
theorem dR_freeVirtual_47 : decode prog_8_method_9_code 47 = .ok (.goto (-32), 3) := by decide +kernel
theorem dR_freeVirtual_50 : decode prog_8_method_9_code 50 = .ok (.iload_n 3, 1) := by decide +kernel
theorem dR_freeVirtual_51 : decode prog_8_method_9_code 51 = .ok (.ifCond .eq 5, 3) := by decide +kernel
theorem dR_freeVirtual_54 : decode prog_8_method_9_code 54 = .ok (.iload_n 2, 1) := by decide +kernel
theorem dR_freeVirtual_55 : decode prog_8_method_9_code 55 = .ok (.ireturn, 1) := by decide +kernel
theorem dR_freeVirtual_56 : decode prog_8_method_9_code 56 = .ok (.iinc 2 1, 3) := by decide +kernel
theorem dR_freeVirtual_59 : decode prog_8_method_9_code 59 = .ok (.goto (-57), 3) := by decide +kernel
theorem dR_freeVirtual_62 : decode prog_8_method_9_code 62 = .ok (.bipush 24, 2) := by decide +kernel
theorem dR_freeVirtual_64 : decode prog_8_method_9_code 64 = .ok (.ireturn, 1) := by decide +kernel
def fR_freeVirtual_B15 (rec : Int32 → Int32 → Int32 → Int32 → fl_G → Option ((Int32 × Int32) × fl_G)) (v4 : Int32) (v3 : Int32) (v2 : Int32) (v1 : Int32) (g : fl_G) : Option ((Int32 × Int32) × fl_G) :=
  if v1 ≤ v4 then (some ((v4, v3), g)) else (if v3 = 0 then (rec (v4 + 1) 0 v2 v1 g) else (fl_ck (fl_in (v2 + v4) 24) (if (g 3 (Int32.toNatClampNeg (v2 + v4))) = (-1) then (rec (v4 + 1) 1 v2 v1 g) else (rec (v4 + 1) 0 v2 v1 g))))
def fR_freeVirtual_L15 : Nat → Int32 → Int32 → Int32 → Int32 → fl_G → Option ((Int32 × Int32) × fl_G)
  | 0, _, _, _, _, _ => none
  | n + 1, v4, v3, v2, v1, g => fR_freeVirtual_B15 (fR_freeVirtual_L15 n) v4 v3 v2 v1 g
def fR_freeVirtual_B2 (rec : Int32 → Int32 → fl_G → Option (Int32 × fl_G)) (v2 : Int32) (v1 : Int32) (g : fl_G) : Option (Int32 × fl_G) :=
  if 24 < (v2 + v1) then (some (24, g)) else (fl_bd (fR_freeVirtual_L15 1000 0 1 v2 v1 g) (fun r8 g9 => if r8.2 = 0 then (rec (v2 + 1) v1 g9) else (some (v2, g9))))
def fR_freeVirtual_L2 : Nat → Int32 → Int32 → fl_G → Option (Int32 × fl_G)
  | 0, _, _, _ => none
  | n + 1, v2, v1, g => fR_freeVirtual_B2 (fR_freeVirtual_L2 n) v2 v1 g
def fR_freeVirtual (a0 : Int32) (g : fl_G) : Option (Int32 × fl_G) :=
  fR_freeVirtual_L2 1000 0 a0 g
set_option maxHeartbeats 4000000 in
set_option maxRecDepth 100000 in
theorem cR_freeVirtual (l : Launch) (dC : Nat → ClassId) (dI : Nat → Nat → Nat) (ca : Nat → ClassId) (ad : Nat → Nat) (hI : fl_inj 14 ad) (a0 : Int32) {g g1 : fl_G} {r : Int32} (h : fR_freeVirtual a0 g = some (r, g1)) : Met l yR_freeVirtual wR_freeVirtual ({ frames := 0, cells := 0, slots := 0, locals := 0 }) (va_Pc [.ref (ad 0), .int a0] (fl_Pre (dC, dI) al_cl 14 (rf_sh ca ad) ad (rf_ty ca) rf_ns g)) (fl_QI (dC, dI) al_cl 14 (rf_sh ca ad) ad r g1) 0 0 (fl_A 14 ad) := by
  refine fl_of (cc := prog_8_method_9_code) (maxL := 5) (ret := (some .int)) (by decide) rfl (Nat.le_of_ble_eq_true rfl) ?_
  intro p e s m below meth c ls hx hb hr hml hts hown hlocks hP hK hN hl
  have hown : s.vm.findClass "MeshedSpansModel" = some m.cls := hown
  have hS : va_S (fl_A 14 ad) s.heap s.heap [] := va_S.rf
  have hl : lv_has ls 5 [(0, .ref (ad 0)), (1, .int a0)] := hl
  unfold fR_freeVirtual at h
  refine lv_iconst (v := 0) hx hb dR_freeVirtual_0 (by decide) ?_
  refine lv_istore_n (lv' := [(2, .int 0), (0, .ref (ad 0)), (1, .int a0)]) hx hb dR_freeVirtual_1 rfl hl (by decide) rfl (fun ls hl => ?_)
  have loop1 : ∀ (n : Nat) (v2 : Int32) (v1 : Int32) (g : fl_G) (H : Heap) (locs : List Loc) (ls : Array Slot), fR_freeVirtual_L2 n v2 v1 g = some (r, g1) → va_P (dC, dI) al_cl (fl_ws 14 (rf_sh ca ad) ad g) H → va_S (fl_A 14 ad) s.heap H locs → lv_has ls 5 [(2, .int v2), (0, .ref (ad 0)), (1, .int v1)] → W p l e ({ frames := 0, cells := 0, slots := 0, locals := 0 }) s m ([.ref (ad 0), .int a0] : List Value).toArray below meth c H locs 0 0 (MQ below (fl_QI (dC, dI) al_cl 14 (rf_sh ca ad) ad r g1) ([.ref (ad 0), .int a0] : List Value).toArray s 0 0 (fl_A 14 ad)) (F0 m 2 ls []) := by
    intro n
    clear h hP hS hl
    induction n with
    | zero => intro v2 v1 g H locs ls h; cases h
    | succ n ih1 =>
      intro v2 v1 g H locs ls h hP hS hl
      have h : fR_freeVirtual_B2 (fR_freeVirtual_L2 n) v2 v1 g = some (r, g1) := h
      unfold fR_freeVirtual_B2 at h
      refine lv_iload_n hx hb dR_freeVirtual_2 rfl (lv_at hl 0 rfl) ?_
      refine lv_iload_n hx hb dR_freeVirtual_3 rfl (lv_at hl 2 rfl) ?_
      refine lv_iadd hx hb dR_freeVirtual_4 ?_
      refine lv_bipush (v := 24) hx hb dR_freeVirtual_5 (by decide) ?_
      refine lv_icmp_gt (tgt := 62) hx hb dR_freeVirtual_7 (by decide) (fun c2 => ?_) (fun c2 => ?_)
      · replace h := fl_pos c2 h
        refine lv_bipush (v := 24) hx hb dR_freeVirtual_62 (by decide) ?_
        exact fl_iret hx hb hr hlocks hP hS h dR_freeVirtual_64
      · replace h := fl_neg c2 h
        refine lv_iconst (v := 1) hx hb dR_freeVirtual_10 (by decide) ?_
        refine lv_istore_n (lv' := [(3, .int 1), (2, .int v2), (0, .ref (ad 0)), (1, .int v1)]) hx hb dR_freeVirtual_11 rfl hl (by decide) rfl (fun ls hl => ?_)
        refine lv_iconst (v := 0) hx hb dR_freeVirtual_12 (by decide) ?_
        refine lv_istore (lv' := [(4, .int 0), (3, .int 1), (2, .int v2), (0, .ref (ad 0)), (1, .int v1)]) hx hb dR_freeVirtual_13 hl (by decide) rfl (fun ls hl => ?_)
        have loop3 : ∀ (n : Nat) (v4 : Int32) (v3 : Int32) (v2 : Int32) (v1 : Int32) (g : fl_G) (z : ((Int32 × Int32) × fl_G)) (H : Heap) (locs : List Loc) (ls : Array Slot), fR_freeVirtual_L15 n v4 v3 v2 v1 g = some z → va_P (dC, dI) al_cl (fl_ws 14 (rf_sh ca ad) ad g) H → va_S (fl_A 14 ad) s.heap H locs → lv_has ls 5 [(4, .int v4), (3, .int v3), (2, .int v2), (0, .ref (ad 0)), (1, .int v1)] → (∀ (H : Heap) (locs : List Loc) (ls : Array Slot), va_P (dC, dI) al_cl (fl_ws 14 (rf_sh ca ad) ad z.2) H → va_S (fl_A 14 ad) s.heap H locs → lv_has ls 5 [(4, .int z.1.1), (3, .int z.1.2), (2, .int v2), (0, .ref (ad 0)), (1, .int v1)] → W p l e ({ frames := 0, cells := 0, slots := 0, locals := 0 }) s m ([.ref (ad 0), .int a0] : List Value).toArray below meth c H locs 0 0 (MQ below (fl_QI (dC, dI) al_cl 14 (rf_sh ca ad) ad r g1) ([.ref (ad 0), .int a0] : List Value).toArray s 0 0 (fl_A 14 ad)) (F0 m 50 ls [])) → W p l e ({ frames := 0, cells := 0, slots := 0, locals := 0 }) s m ([.ref (ad 0), .int a0] : List Value).toArray below meth c H locs 0 0 (MQ below (fl_QI (dC, dI) al_cl 14 (rf_sh ca ad) ad r g1) ([.ref (ad 0), .int a0] : List Value).toArray s 0 0 (fl_A 14 ad)) (F0 m 15 ls []) := by
          intro n
          clear h hP hS hl
          induction n with
          | zero => intro v4 v3 v2 v1 g z H locs ls h; cases h
          | succ n ih3 =>
            intro v4 v3 v2 v1 g z H locs ls h hP hS hl K3
            have h : fR_freeVirtual_B15 (fR_freeVirtual_L15 n) v4 v3 v2 v1 g = some z := h
            unfold fR_freeVirtual_B15 at h
            refine lv_iload hx hb dR_freeVirtual_15 (lv_at hl 0 rfl) ?_
            refine lv_iload_n hx hb dR_freeVirtual_17 rfl (lv_at hl 4 rfl) ?_
            refine lv_icmp_ge (tgt := 50) hx hb dR_freeVirtual_18 (by decide) (fun c4 => ?_) (fun c4 => ?_)
            · replace h := fl_pos c4 h
              cases h
              exact K3 _ _ _ hP hS (lv_sub hl [0, 1, 2, 3, 4] rfl)
            · replace h := fl_neg c4 h
              refine lv_iload_n hx hb dR_freeVirtual_21 rfl (lv_at hl 1 rfl) ?_
              refine lv_if_eq (tgt := 42) hx hb dR_freeVirtual_22 (by decide) (fun c5 => ?_) (fun c5 => ?_)
              · replace h := fl_pos c5 h
                refine lv_iconst (v := 0) hx hb dR_freeVirtual_42 (by decide) ?_
                refine lv_istore_n (lv' := [(3, .int 0), (4, .int v4), (2, .int v2), (0, .ref (ad 0)), (1, .int v1)]) hx hb dR_freeVirtual_43 rfl hl (by decide) rfl (fun ls hl => ?_)
                refine lv_iinc (v := (v4 + 1)) (lv' := [(4, .int (v4 + 1)), (3, .int 0), (2, .int v2), (0, .ref (ad 0)), (1, .int v1)]) hx hb dR_freeVirtual_44 hl (k := 1) rfl rfl (by decide) rfl (fun ls hl => ?_)
                refine lv_goto (tgt := 15) hx hb dR_freeVirtual_47 (by decide) ?_
                exact ih3 (v4 + 1) 0 v2 v1 _ _ _ _ _ h hP hS (lv_sub hl [0, 1, 2, 3, 4] rfl) K3
              · replace h := fl_neg c5 h
                refine lv_aload_n hx hb dR_freeVirtual_25 rfl (lv_at hl 3 rfl) ?_
                refine rf_get0 (v := .ref (ad 3)) hx hb hts rf_in0 hown hK hP (q := 0) rfl 3 (by decide) (hts _ gm_505) rfl dR_freeVirtual_26 ?_
                refine lv_iload_n hx hb dR_freeVirtual_29 rfl (lv_at hl 2 rfl) ?_
                refine lv_iload hx hb dR_freeVirtual_30 (lv_at hl 0 rfl) ?_
                refine lv_iadd hx hb dR_freeVirtual_32 ?_
                replace h := fl_ck_some h
                obtain ⟨hi6, h⟩ := h
                refine rf_iald hx hb hK hP (q := 3) rfl hi6 dR_freeVirtual_33 ?_
                refine lv_iconst (v := (-1)) hx hb dR_freeVirtual_34 (by decide) ?_
                refine lv_icmp_ne (tgt := 42) hx hb dR_freeVirtual_35 (by decide) (fun c7 => ?_) (fun c7 => ?_)
                · replace h := fl_neg c7 h
                  refine lv_iconst (v := 0) hx hb dR_freeVirtual_42 (by decide) ?_
                  refine lv_istore_n (lv' := [(3, .int 0), (4, .int v4), (2, .int v2), (0, .ref (ad 0)), (1, .int v1)]) hx hb dR_freeVirtual_43 rfl hl (by decide) rfl (fun ls hl => ?_)
                  refine lv_iinc (v := (v4 + 1)) (lv' := [(4, .int (v4 + 1)), (3, .int 0), (2, .int v2), (0, .ref (ad 0)), (1, .int v1)]) hx hb dR_freeVirtual_44 hl (k := 1) rfl rfl (by decide) rfl (fun ls hl => ?_)
                  refine lv_goto (tgt := 15) hx hb dR_freeVirtual_47 (by decide) ?_
                  exact ih3 (v4 + 1) 0 v2 v1 _ _ _ _ _ h hP hS (lv_sub hl [0, 1, 2, 3, 4] rfl) K3
                · replace h := fl_pos c7 h
                  refine lv_iconst (v := 1) hx hb dR_freeVirtual_38 (by decide) ?_
                  refine lv_goto (tgt := 43) hx hb dR_freeVirtual_39 (by decide) ?_
                  refine lv_istore_n (lv' := [(3, .int 1), (4, .int v4), (2, .int v2), (0, .ref (ad 0)), (1, .int v1)]) hx hb dR_freeVirtual_43 rfl hl (by decide) rfl (fun ls hl => ?_)
                  refine lv_iinc (v := (v4 + 1)) (lv' := [(4, .int (v4 + 1)), (3, .int 1), (2, .int v2), (0, .ref (ad 0)), (1, .int v1)]) hx hb dR_freeVirtual_44 hl (k := 1) rfl rfl (by decide) rfl (fun ls hl => ?_)
                  refine lv_goto (tgt := 15) hx hb dR_freeVirtual_47 (by decide) ?_
                  exact ih3 (v4 + 1) 1 v2 v1 _ _ _ _ _ h hP hS (lv_sub hl [0, 1, 2, 3, 4] rfl) K3
        obtain ⟨r8, g9, hc10, h⟩ := fl_bd_some h
        refine loop3 1000 0 1 v2 v1 _ (r8, g9) _ _ _ hc10 hP hS (lv_sub hl [0, 1, 2, 3, 4] rfl) (fun H locs ls hP hS hl => ?_)
        have hP : va_P (dC, dI) al_cl (fl_ws 14 (rf_sh ca ad) ad g9) H := hP
        have hl : lv_has ls 5 [(4, .int r8.1), (3, .int r8.2), (2, .int v2), (0, .ref (ad 0)), (1, .int v1)] := hl
        refine lv_iload_n hx hb dR_freeVirtual_50 rfl (lv_at hl 1 rfl) ?_
        refine lv_if_eq (tgt := 56) hx hb dR_freeVirtual_51 (by decide) (fun c11 => ?_) (fun c11 => ?_)
        · replace h := fl_pos c11 h
          refine lv_iinc (v := (v2 + 1)) (lv' := [(2, .int (v2 + 1)), (4, .int r8.1), (3, .int r8.2), (0, .ref (ad 0)), (1, .int v1)]) hx hb dR_freeVirtual_56 hl (k := 2) rfl rfl (by decide) rfl (fun ls hl => ?_)
          refine lv_goto (tgt := 2) hx hb dR_freeVirtual_59 (by decide) ?_
          exact ih1 (v2 + 1) v1 _ _ _ _ h hP hS (lv_sub hl [0, 3, 4] rfl)
        · replace h := fl_neg c11 h
          refine lv_iload_n hx hb dR_freeVirtual_54 rfl (lv_at hl 2 rfl) ?_
          exact fl_iret hx hb hr hlocks hP hS h dR_freeVirtual_55
  exact loop1 1000 0 a0 _ _ _ _ h hP hS (lv_sub hl [0, 1, 2] rfl)
def yR_zero : MethodName := ⟨"MeshedSpansModel", "zero", "(II)V"⟩
def wR_zero : List Cond := .code yR_zero prog_8_method_10_code 4 none :: gw
theorem kR_zero {R : Room} {s : State} {args : Array Value} {own : String} {ix : Nat} (hts : ∀ w ∈ gw, w.before args s = true) (hl : (Cond.methodLink own ix yR_zero).before args s = true) (hR : 0 + 1 ≤ R.frames ∧ 8 + (4 + 11) + 0 ≤ R.locals) : CallW R s args own "MeshedSpansModel" ix yR_zero prog_8_method_10_code 4 none wR_zero { frames := 0, cells := 0, slots := 0, locals := 0 } 0 0 2 := ⟨callB_of (rm := { frames := 0, cells := 0, slots := 0, locals := 0 }) 2 hts (gw_c (ct := .code yR_zero prog_8_method_10_code 4 none) gm_577) rfl rfl rfl (hts _ gm_47) hl (by decide +kernel) hR, hts _ gm_576, hts _ gm_20⟩
theorem dR_zero_0 : decode prog_8_method_10_code 0 = .ok (.iload_n 1, 1) := by decide +kernel
theorem dR_zero_1 : decode prog_8_method_10_code 1 = .ok (.istore_n 3, 1) := by decide +kernel
theorem dR_zero_2 : decode prog_8_method_10_code 2 = .ok (.iload_n 3, 1) := by decide +kernel
theorem dR_zero_3 : decode prog_8_method_10_code 3 = .ok (.iload_n 1, 1) := by decide +kernel
theorem dR_zero_4 : decode prog_8_method_10_code 4 = .ok (.iload_n 2, 1) := by decide +kernel
theorem dR_zero_5 : decode prog_8_method_10_code 5 = .ok (.iadd, 1) := by decide +kernel
theorem dR_zero_6 : decode prog_8_method_10_code 6 = .ok (.if_icmp .ge 16, 3) := by decide +kernel
theorem dR_zero_9 : decode prog_8_method_10_code 9 = .ok (.aload_n 0, 1) := by decide +kernel
theorem dR_zero_10 : decode prog_8_method_10_code 10 = .ok (.getfield 13, 3) := by decide +kernel
theorem dR_zero_13 : decode prog_8_method_10_code 13 = .ok (.iload_n 3, 1) := by decide +kernel
theorem dR_zero_14 : decode prog_8_method_10_code 14 = .ok (.iconst 0, 1) := by decide +kernel
theorem dR_zero_15 : decode prog_8_method_10_code 15 = .ok (.iastore, 1) := by decide +kernel
theorem dR_zero_16 : decode prog_8_method_10_code 16 = .ok (.iinc 3 1, 3) := by decide +kernel
theorem dR_zero_19 : decode prog_8_method_10_code 19 = .ok (.goto (-17), 3) := by decide +kernel
theorem dR_zero_22 : decode prog_8_method_10_code 22 = .ok (.return_, 1) := by decide +kernel
def fR_zero_B2 (rec : Int32 → Int32 → Int32 → fl_G → Option ((Int32) × fl_G)) (v3 : Int32) (v1 : Int32) (v2 : Int32) (g : fl_G) : Option ((Int32) × fl_G) :=
  if (v1 + v2) ≤ v3 then (some (v3, g)) else (fl_ck (fl_in v3 192) (rec (v3 + 1) v1 v2 (fl_up g 2 (Int32.toNatClampNeg v3) 0)))
def fR_zero_L2 : Nat → Int32 → Int32 → Int32 → fl_G → Option ((Int32) × fl_G)
  | 0, _, _, _, _ => none
  | n + 1, v3, v1, v2, g => fR_zero_B2 (fR_zero_L2 n) v3 v1 v2 g
def fR_zero (a0 : Int32) (a1 : Int32) (g : fl_G) : Option (Unit × fl_G) :=
  fl_bd (fR_zero_L2 1000 a0 a0 a1 g) (fun r4 g5 => some ((), g5))
set_option maxHeartbeats 4000000 in
set_option maxRecDepth 100000 in
theorem cR_zero (l : Launch) (dC : Nat → ClassId) (dI : Nat → Nat → Nat) (ca : Nat → ClassId) (ad : Nat → Nat) (hI : fl_inj 14 ad) (a0 : Int32) (a1 : Int32) {g g1 : fl_G} {r : Unit} (h : fR_zero a0 a1 g = some (r, g1)) : Met l yR_zero wR_zero ({ frames := 0, cells := 0, slots := 0, locals := 0 }) (va_Pc [.ref (ad 0), .int a0, .int a1] (fl_Pre (dC, dI) al_cl 14 (rf_sh ca ad) ad (rf_ty ca) rf_ns g)) (fl_QV (dC, dI) al_cl 14 (rf_sh ca ad) ad g1) 0 0 (fl_A 14 ad) := by
  refine fl_of (cc := prog_8_method_10_code) (maxL := 4) (ret := none) (by decide) rfl (Nat.le_of_ble_eq_true rfl) ?_
  intro p e s m below meth c ls hx hb hr hml hts hown hlocks hP hK hN hl
  have hown : s.vm.findClass "MeshedSpansModel" = some m.cls := hown
  have hS : va_S (fl_A 14 ad) s.heap s.heap [] := va_S.rf
  have hl : lv_has ls 4 [(0, .ref (ad 0)), (1, .int a0), (2, .int a1)] := hl
  unfold fR_zero at h
  refine lv_iload_n hx hb dR_zero_0 rfl (lv_at hl 1 rfl) ?_
  refine lv_istore_n (lv' := [(3, .int a0), (0, .ref (ad 0)), (1, .int a0), (2, .int a1)]) hx hb dR_zero_1 rfl hl (by decide) rfl (fun ls hl => ?_)
  have loop1 : ∀ (n : Nat) (v3 : Int32) (v1 : Int32) (v2 : Int32) (g : fl_G) (z : ((Int32) × fl_G)) (H : Heap) (locs : List Loc) (ls : Array Slot), fR_zero_L2 n v3 v1 v2 g = some z → va_P (dC, dI) al_cl (fl_ws 14 (rf_sh ca ad) ad g) H → va_S (fl_A 14 ad) s.heap H locs → lv_has ls 4 [(3, .int v3), (0, .ref (ad 0)), (1, .int v1), (2, .int v2)] → (∀ (H : Heap) (locs : List Loc) (ls : Array Slot), va_P (dC, dI) al_cl (fl_ws 14 (rf_sh ca ad) ad z.2) H → va_S (fl_A 14 ad) s.heap H locs → lv_has ls 4 [(3, .int z.1), (0, .ref (ad 0)), (1, .int v1), (2, .int v2)] → W p l e ({ frames := 0, cells := 0, slots := 0, locals := 0 }) s m ([.ref (ad 0), .int a0, .int a1] : List Value).toArray below meth c H locs 0 0 (MQ below (fl_QV (dC, dI) al_cl 14 (rf_sh ca ad) ad g1) ([.ref (ad 0), .int a0, .int a1] : List Value).toArray s 0 0 (fl_A 14 ad)) (F0 m 22 ls [])) → W p l e ({ frames := 0, cells := 0, slots := 0, locals := 0 }) s m ([.ref (ad 0), .int a0, .int a1] : List Value).toArray below meth c H locs 0 0 (MQ below (fl_QV (dC, dI) al_cl 14 (rf_sh ca ad) ad g1) ([.ref (ad 0), .int a0, .int a1] : List Value).toArray s 0 0 (fl_A 14 ad)) (F0 m 2 ls []) := by
    intro n
    clear h hP hS hl
    induction n with
    | zero => intro v3 v1 v2 g z H locs ls h; cases h
    | succ n ih1 =>
      intro v3 v1 v2 g z H locs ls h hP hS hl K1
      have h : fR_zero_B2 (fR_zero_L2 n) v3 v1 v2 g = some z := h
      unfold fR_zero_B2 at h
      refine lv_iload_n hx hb dR_zero_2 rfl (lv_at hl 0 rfl) ?_
      refine lv_iload_n hx hb dR_zero_3 rfl (lv_at hl 2 rfl) ?_
      refine lv_iload_n hx hb dR_zero_4 rfl (lv_at hl 3 rfl) ?_
      refine lv_iadd hx hb dR_zero_5 ?_
      refine lv_icmp_ge (tgt := 22) hx hb dR_zero_6 (by decide) (fun c2 => ?_) (fun c2 => ?_)
      · replace h := fl_pos c2 h
        cases h
        exact K1 _ _ _ hP hS (lv_sub hl [0, 1, 2, 3] rfl)
      · replace h := fl_neg c2 h
        refine lv_aload_n hx hb dR_zero_9 rfl (lv_at hl 1 rfl) ?_
        refine rf_get0 (v := .ref (ad 2)) hx hb hts rf_in0 hown hK hP (q := 0) rfl 2 (by decide) (hts _ gm_504) rfl dR_zero_10 ?_
        refine lv_iload_n hx hb dR_zero_13 rfl (lv_at hl 0 rfl) ?_
        refine lv_iconst (v := 0) hx hb dR_zero_14 (by decide) ?_
        replace h := fl_ck_some h
        obtain ⟨hi3, h⟩ := h
        refine rf_iast hx hb hK hP hI hS (q := 2) rfl hi3 dR_zero_15 (fun H locs hP hS => ?_)
        have hP : va_P (dC, dI) al_cl (fl_ws 14 (rf_sh ca ad) ad (fl_up g 2 (Int32.toNatClampNeg v3) 0)) H := hP
        refine lv_iinc (v := (v3 + 1)) (lv' := [(3, .int (v3 + 1)), (0, .ref (ad 0)), (1, .int v1), (2, .int v2)]) hx hb dR_zero_16 hl (k := 0) rfl rfl (by decide) rfl (fun ls hl => ?_)
        refine lv_goto (tgt := 2) hx hb dR_zero_19 (by decide) ?_
        exact ih1 (v3 + 1) v1 v2 _ _ _ _ _ h hP hS (lv_sub hl [0, 1, 2, 3] rfl) K1
  obtain ⟨r4, g5, hc6, h⟩ := fl_bd_some h
  refine loop1 1000 a0 a0 a1 _ (r4, g5) _ _ _ hc6 hP hS (lv_sub hl [0, 1, 2, 3] rfl) (fun H locs ls hP hS hl => ?_)
  have hP : va_P (dC, dI) al_cl (fl_ws 14 (rf_sh ca ad) ad g5) H := hP
  have hl : lv_has ls 4 [(3, .int r4), (0, .ref (ad 0)), (1, .int a0), (2, .int a1)] := hl
  exact fl_vret hx hb hr hlocks hP hS h dR_zero_22
def yR_release : MethodName := ⟨"MeshedSpansModel", "release", "(I)V"⟩
def wR_release : List Cond := .code yR_release prog_8_method_11_code 3 none :: gw
theorem kR_release {R : Room} {s : State} {args : Array Value} {own : String} {ix : Nat} (hts : ∀ w ∈ gw, w.before args s = true) (hl : (Cond.methodLink own ix yR_release).before args s = true) (hR : 0 + 1 ≤ R.frames ∧ 8 + (3 + 11) + 0 ≤ R.locals) : CallW R s args own "MeshedSpansModel" ix yR_release prog_8_method_11_code 3 none wR_release { frames := 0, cells := 0, slots := 0, locals := 0 } 0 0 1 := ⟨callB_of (rm := { frames := 0, cells := 0, slots := 0, locals := 0 }) 1 hts (gw_c (ct := .code yR_release prog_8_method_11_code 3 none) gm_640) rfl rfl rfl (hts _ gm_47) hl (by decide +kernel) hR, hts _ gm_639, hts _ gm_34⟩
theorem dR_release_0 : decode prog_8_method_11_code 0 = .ok (.iconst 0, 1) := by decide +kernel
theorem dR_release_1 : decode prog_8_method_11_code 1 = .ok (.istore_n 2, 1) := by decide +kernel
theorem dR_release_2 : decode prog_8_method_11_code 2 = .ok (.iload_n 2, 1) := by decide +kernel
theorem dR_release_3 : decode prog_8_method_11_code 3 = .ok (.bipush 24, 2) := by decide +kernel
theorem dR_release_5 : decode prog_8_method_11_code 5 = .ok (.if_icmp .ge 35, 3) := by decide +kernel
theorem dR_release_8 : decode prog_8_method_11_code 8 = .ok (.aload_n 0, 1) := by decide +kernel
theorem dR_release_9 : decode prog_8_method_11_code 9 = .ok (.getfield 16, 3) := by decide +kernel
theorem dR_release_12 : decode prog_8_method_11_code 12 = .ok (.iload_n 2, 1) := by decide +kernel
theorem dR_release_13 : decode prog_8_method_11_code 13 = .ok (.aload_n 0, 1) := by decide +kernel
theorem dR_release_14 : decode prog_8_method_11_code 14 = .ok (.getfield 16, 3) := by decide +kernel
theorem dR_release_17 : decode prog_8_method_11_code 17 = .ok (.iload_n 2, 1) := by decide +kernel
theorem dR_release_18 : decode prog_8_method_11_code 18 = .ok (.iaload, 1) := by decide +kernel
theorem dR_release_19 : decode prog_8_method_11_code 19 = .ok (.iload_n 1, 1) := by decide +kernel
theorem dR_release_20 : decode prog_8_method_11_code 20 = .ok (.if_icmp .ne 7, 3) := by decide +kernel
theorem dR_release_23 : decode prog_8_method_11_code 23 = .ok (.iconst (-1), 1) := by decide +kernel
theorem dR_release_24 : decode prog_8_method_11_code 24 = .ok (.goto 9, 3) := by decide +kernel
theorem dR_release_27 : decode prog_8_method_11_code 27 = .ok (.aload_n 0, 1) := by decide +kernel
theorem dR_release_28 : decode prog_8_method_11_code 28 = .ok (.getfield 16, 3) := by decide +kernel
theorem dR_release_31 : decode prog_8_method_11_code 31 = .ok (.iload_n 2, 1) := by decide +kernel
theorem dR_release_32 : decode prog_8_method_11_code 32 = .ok (.iaload, 1) := by decide +kernel
theorem dR_release_33 : decode prog_8_method_11_code 33 = .ok (.iastore, 1) := by decide +kernel
theorem dR_release_34 : decode prog_8_method_11_code 34 = .ok (.iinc 2 1, 3) := by decide +kernel
theorem dR_release_37 : decode prog_8_method_11_code 37 = .ok (.goto (-35), 3) := by decide +kernel
theorem dR_release_40 : decode prog_8_method_11_code 40 = .ok (.aload_n 0, 1) := by decide +kernel
theorem dR_release_41 : decode prog_8_method_11_code 41 = .ok (.getfield 7, 3) := by decide +kernel
theorem dR_release_44 : decode prog_8_method_11_code 44 = .ok (.iload_n 1, 1) := by decide +kernel
theorem dR_release_45 : decode prog_8_method_11_code 45 = .ok (.iconst 0, 1) := by decide +kernel
theorem dR_release_46 : decode prog_8_method_11_code 46 = .ok (.iastore, 1) := by decide +kernel
theorem dR_release_47 : decode prog_8_method_11_code 47 = .ok (.return_, 1) := by decide +kernel
def fR_release_B2 (rec : Int32 → Int32 → fl_G → Option ((Int32) × fl_G)) (v2 : Int32) (v1 : Int32) (g : fl_G) : Option ((Int32) × fl_G) :=
  if 24 ≤ v2 then (some (v2, g)) else (fl_ck (fl_in v2 24) (if (g 3 (Int32.toNatClampNeg v2)) = v1 then (fl_ck (fl_in v2 24) (rec (v2 + 1) v1 (fl_up g 3 (Int32.toNatClampNeg v2) (-1)))) else (fl_ck (fl_in v2 24) (fl_ck (fl_in v2 24) (rec (v2 + 1) v1 (fl_up g 3 (Int32.toNatClampNeg v2) (g 3 (Int32.toNatClampNeg v2))))))))
def fR_release_L2 : Nat → Int32 → Int32 → fl_G → Option ((Int32) × fl_G)
  | 0, _, _, _ => none
  | n + 1, v2, v1, g => fR_release_B2 (fR_release_L2 n) v2 v1 g
def fR_release (a0 : Int32) (g : fl_G) : Option (Unit × fl_G) :=
  fl_bd (fR_release_L2 1000 0 a0 g) (fun r8 g9 => fl_ck (fl_in a0 12) (some ((), (fl_up g9 1 (Int32.toNatClampNeg a0) 0))))
set_option maxHeartbeats 4000000 in
set_option maxRecDepth 100000 in
theorem cR_release (l : Launch) (dC : Nat → ClassId) (dI : Nat → Nat → Nat) (ca : Nat → ClassId) (ad : Nat → Nat) (hI : fl_inj 14 ad) (a0 : Int32) {g g1 : fl_G} {r : Unit} (h : fR_release a0 g = some (r, g1)) : Met l yR_release wR_release ({ frames := 0, cells := 0, slots := 0, locals := 0 }) (va_Pc [.ref (ad 0), .int a0] (fl_Pre (dC, dI) al_cl 14 (rf_sh ca ad) ad (rf_ty ca) rf_ns g)) (fl_QV (dC, dI) al_cl 14 (rf_sh ca ad) ad g1) 0 0 (fl_A 14 ad) := by
  refine fl_of (cc := prog_8_method_11_code) (maxL := 3) (ret := none) (by decide) rfl (Nat.le_of_ble_eq_true rfl) ?_
  intro p e s m below meth c ls hx hb hr hml hts hown hlocks hP hK hN hl
  have hown : s.vm.findClass "MeshedSpansModel" = some m.cls := hown
  have hS : va_S (fl_A 14 ad) s.heap s.heap [] := va_S.rf
  have hl : lv_has ls 3 [(0, .ref (ad 0)), (1, .int a0)] := hl
  unfold fR_release at h
  refine lv_iconst (v := 0) hx hb dR_release_0 (by decide) ?_
  refine lv_istore_n (lv' := [(2, .int 0), (0, .ref (ad 0)), (1, .int a0)]) hx hb dR_release_1 rfl hl (by decide) rfl (fun ls hl => ?_)
  have loop1 : ∀ (n : Nat) (v2 : Int32) (v1 : Int32) (g : fl_G) (z : ((Int32) × fl_G)) (H : Heap) (locs : List Loc) (ls : Array Slot), fR_release_L2 n v2 v1 g = some z → va_P (dC, dI) al_cl (fl_ws 14 (rf_sh ca ad) ad g) H → va_S (fl_A 14 ad) s.heap H locs → lv_has ls 3 [(2, .int v2), (0, .ref (ad 0)), (1, .int v1)] → (∀ (H : Heap) (locs : List Loc) (ls : Array Slot), va_P (dC, dI) al_cl (fl_ws 14 (rf_sh ca ad) ad z.2) H → va_S (fl_A 14 ad) s.heap H locs → lv_has ls 3 [(2, .int z.1), (0, .ref (ad 0)), (1, .int v1)] → W p l e ({ frames := 0, cells := 0, slots := 0, locals := 0 }) s m ([.ref (ad 0), .int a0] : List Value).toArray below meth c H locs 0 0 (MQ below (fl_QV (dC, dI) al_cl 14 (rf_sh ca ad) ad g1) ([.ref (ad 0), .int a0] : List Value).toArray s 0 0 (fl_A 14 ad)) (F0 m 40 ls [])) → W p l e ({ frames := 0, cells := 0, slots := 0, locals := 0 }) s m ([.ref (ad 0), .int a0] : List Value).toArray below meth c H locs 0 0 (MQ below (fl_QV (dC, dI) al_cl 14 (rf_sh ca ad) ad g1) ([.ref (ad 0), .int a0] : List Value).toArray s 0 0 (fl_A 14 ad)) (F0 m 2 ls []) := by
    intro n
    clear h hP hS hl
    induction n with
    | zero => intro v2 v1 g z H locs ls h; cases h
    | succ n ih1 =>
      intro v2 v1 g z H locs ls h hP hS hl K1
      have h : fR_release_B2 (fR_release_L2 n) v2 v1 g = some z := h
      unfold fR_release_B2 at h
      refine lv_iload_n hx hb dR_release_2 rfl (lv_at hl 0 rfl) ?_
      refine lv_bipush (v := 24) hx hb dR_release_3 (by decide) ?_
      refine lv_icmp_ge (tgt := 40) hx hb dR_release_5 (by decide) (fun c2 => ?_) (fun c2 => ?_)
      · replace h := fl_pos c2 h
        cases h
        exact K1 _ _ _ hP hS (lv_sub hl [0, 1, 2] rfl)
      · replace h := fl_neg c2 h
        refine lv_aload_n hx hb dR_release_8 rfl (lv_at hl 1 rfl) ?_
        refine rf_get0 (v := .ref (ad 3)) hx hb hts rf_in0 hown hK hP (q := 0) rfl 3 (by decide) (hts _ gm_505) rfl dR_release_9 ?_
        refine lv_iload_n hx hb dR_release_12 rfl (lv_at hl 0 rfl) ?_
        refine lv_aload_n hx hb dR_release_13 rfl (lv_at hl 1 rfl) ?_
        refine rf_get0 (v := .ref (ad 3)) hx hb hts rf_in0 hown hK hP (q := 0) rfl 3 (by decide) (hts _ gm_505) rfl dR_release_14 ?_
        refine lv_iload_n hx hb dR_release_17 rfl (lv_at hl 0 rfl) ?_
        replace h := fl_ck_some h
        obtain ⟨hi3, h⟩ := h
        refine rf_iald hx hb hK hP (q := 3) rfl hi3 dR_release_18 ?_
        refine lv_iload_n hx hb dR_release_19 rfl (lv_at hl 2 rfl) ?_
        refine lv_icmp_ne (tgt := 27) hx hb dR_release_20 (by decide) (fun c4 => ?_) (fun c4 => ?_)
        · replace h := fl_neg c4 h
          refine lv_aload_n hx hb dR_release_27 rfl (lv_at hl 1 rfl) ?_
          refine rf_get0 (v := .ref (ad 3)) hx hb hts rf_in0 hown hK hP (q := 0) rfl 3 (by decide) (hts _ gm_505) rfl dR_release_28 ?_
          refine lv_iload_n hx hb dR_release_31 rfl (lv_at hl 0 rfl) ?_
          replace h := fl_ck_some h
          obtain ⟨hi5, h⟩ := h
          refine rf_iald hx hb hK hP (q := 3) rfl hi5 dR_release_32 ?_
          replace h := fl_ck_some h
          obtain ⟨hi6, h⟩ := h
          refine rf_iast hx hb hK hP hI hS (q := 3) rfl hi6 dR_release_33 (fun H locs hP hS => ?_)
          have hP : va_P (dC, dI) al_cl (fl_ws 14 (rf_sh ca ad) ad (fl_up g 3 (Int32.toNatClampNeg v2) (g 3 (Int32.toNatClampNeg v2)))) H := hP
          refine lv_iinc (v := (v2 + 1)) (lv' := [(2, .int (v2 + 1)), (0, .ref (ad 0)), (1, .int v1)]) hx hb dR_release_34 hl (k := 0) rfl rfl (by decide) rfl (fun ls hl => ?_)
          refine lv_goto (tgt := 2) hx hb dR_release_37 (by decide) ?_
          exact ih1 (v2 + 1) v1 _ _ _ _ _ h hP hS (lv_sub hl [0, 1, 2] rfl) K1
        · replace h := fl_pos c4 h
          refine lv_iconst (v := (-1)) hx hb dR_release_23 (by decide) ?_
          refine lv_goto (tgt := 33) hx hb dR_release_24 (by decide) ?_
          replace h := fl_ck_some h
          obtain ⟨hi7, h⟩ := h
          refine rf_iast hx hb hK hP hI hS (q := 3) rfl hi7 dR_release_33 (fun H locs hP hS => ?_)
          have hP : va_P (dC, dI) al_cl (fl_ws 14 (rf_sh ca ad) ad (fl_up g 3 (Int32.toNatClampNeg v2) (-1))) H := hP
          refine lv_iinc (v := (v2 + 1)) (lv' := [(2, .int (v2 + 1)), (0, .ref (ad 0)), (1, .int v1)]) hx hb dR_release_34 hl (k := 0) rfl rfl (by decide) rfl (fun ls hl => ?_)
          refine lv_goto (tgt := 2) hx hb dR_release_37 (by decide) ?_
          exact ih1 (v2 + 1) v1 _ _ _ _ _ h hP hS (lv_sub hl [0, 1, 2] rfl) K1
  obtain ⟨r8, g9, hc10, h⟩ := fl_bd_some h
  refine loop1 1000 0 a0 _ (r8, g9) _ _ _ hc10 hP hS (lv_sub hl [0, 1, 2] rfl) (fun H locs ls hP hS hl => ?_)
  have hP : va_P (dC, dI) al_cl (fl_ws 14 (rf_sh ca ad) ad g9) H := hP
  have hl : lv_has ls 3 [(2, .int r8), (0, .ref (ad 0)), (1, .int a0)] := hl
  refine lv_aload_n hx hb dR_release_40 rfl (lv_at hl 1 rfl) ?_
  refine rf_get0 (v := .ref (ad 1)) hx hb hts rf_in0 hown hK hP (q := 0) rfl 1 (by decide) (hts _ gm_503) rfl dR_release_41 ?_
  refine lv_iload_n hx hb dR_release_44 rfl (lv_at hl 2 rfl) ?_
  refine lv_iconst (v := 0) hx hb dR_release_45 (by decide) ?_
  replace h := fl_ck_some h
  obtain ⟨hi11, h⟩ := h
  refine rf_iast hx hb hK hP hI hS (q := 1) rfl hi11 dR_release_46 (fun H locs hP hS => ?_)
  have hP : va_P (dC, dI) al_cl (fl_ws 14 (rf_sh ca ad) ad (fl_up g9 1 (Int32.toNatClampNeg a0) 0)) H := hP
  exact fl_vret hx hb hr hlocks hP hS h dR_release_47
def yR_fullest : MethodName := ⟨"MeshedSpansModel", "fullest", "(I)I"⟩
def wR_fullest : List Cond := .code yR_fullest prog_8_method_12_code 5 (some .int) :: gw
theorem kR_fullest {R : Room} {s : State} {args : Array Value} {own : String} {ix : Nat} (hts : ∀ w ∈ gw, w.before args s = true) (hl : (Cond.methodLink own ix yR_fullest).before args s = true) (hR : 2 + 1 ≤ R.frames ∧ 8 + (5 + 11) + 43 ≤ R.locals) : CallW R s args own "MeshedSpansModel" ix yR_fullest prog_8_method_12_code 5 (some .int) wR_fullest { frames := 2, cells := 0, slots := 0, locals := 43 } 0 0 1 := ⟨callB_of (rm := { frames := 2, cells := 0, slots := 0, locals := 43 }) 1 hts (gw_c (ct := .code yR_fullest prog_8_method_12_code 5 (some .int)) gm_583) rfl rfl rfl (hts _ gm_47) hl (by decide +kernel) hR, hts _ gm_582, hts _ gm_22⟩
theorem dR_fullest_0 : decode prog_8_method_12_code 0 = .ok (.iconst (-1), 1) := by decide +kernel
theorem dR_fullest_1 : decode prog_8_method_12_code 1 = .ok (.istore_n 2, 1) := by decide +kernel
theorem dR_fullest_2 : decode prog_8_method_12_code 2 = .ok (.iconst 0, 1) := by decide +kernel
theorem dR_fullest_3 : decode prog_8_method_12_code 3 = .ok (.istore_n 3, 1) := by decide +kernel
theorem dR_fullest_4 : decode prog_8_method_12_code 4 = .ok (.iload_n 3, 1) := by decide +kernel
theorem dR_fullest_5 : decode prog_8_method_12_code 5 = .ok (.bipush 12, 2) := by decide +kernel
theorem dR_fullest_7 : decode prog_8_method_12_code 7 = .ok (.if_icmp .ge 94, 3) := by decide +kernel
theorem dR_fullest_10 : decode prog_8_method_12_code 10 = .ok (.aload_n 0, 1) := by decide +kernel
theorem dR_fullest_11 : decode prog_8_method_12_code 11 = .ok (.iload_n 3, 1) := by decide +kernel
theorem dR_fullest_12 : decode prog_8_method_12_code 12 = .ok (.iload_n 1, 1) := by decide +kernel
theorem dR_fullest_13 : decode prog_8_method_12_code 13 = .ok (.invokevirtual 60, 3) := by decide +kernel
theorem dR_fullest_16 : decode prog_8_method_12_code 16 = .ok (.ifCond .eq 79, 3) := by decide +kernel
theorem dR_fullest_19 : decode prog_8_method_12_code 19 = .ok (.aload_n 0, 1) := by decide +kernel
theorem dR_fullest_20 : decode prog_8_method_12_code 20 = .ok (.iload_n 3, 1) := by decide +kernel
theorem dR_fullest_21 : decode prog_8_method_12_code 21 = .ok (.invokevirtual 64, 3) := by decide +kernel
theorem dR_fullest_24 : decode prog_8_method_12_code 24 = .ok (.iload_n 1, 1) := by decide +kernel
theorem dR_fullest_25 : decode prog_8_method_12_code 25 = .ok (.invokestatic 56, 3) := by decide +kernel
theorem dR_fullest_28 : decode prog_8_method_12_code 28 = .ok (.if_icmp .ge 67, 3) := by decide +kernel
theorem dR_fullest_31 : decode prog_8_method_12_code 31 = .ok (.iload_n 2, 1) := by decide +kernel
theorem dR_fullest_32 : decode prog_8_method_12_code 32 = .ok (.iconst (-1), 1) := by decide +kernel
theorem dR_fullest_33 : decode prog_8_method_12_code 33 = .ok (.if_icmp .eq 44, 3) := by decide +kernel
theorem dR_fullest_36 : decode prog_8_method_12_code 36 = .ok (.aload_n 0, 1) := by decide +kernel
theorem dR_fullest_37 : decode prog_8_method_12_code 37 = .ok (.iload_n 3, 1) := by decide +kernel
theorem dR_fullest_38 : decode prog_8_method_12_code 38 = .ok (.invokevirtual 64, 3) := by decide +kernel
theorem dR_fullest_41 : decode prog_8_method_12_code 41 = .ok (.aload_n 0, 1) := by decide +kernel
theorem dR_fullest_42 : decode prog_8_method_12_code 42 = .ok (.iload_n 2, 1) := by decide +kernel
theorem dR_fullest_43 : decode prog_8_method_12_code 43 = .ok (.invokevirtual 64, 3) := by decide +kernel
theorem dR_fullest_46 : decode prog_8_method_12_code 46 = .ok (.if_icmp .gt 31, 3) := by decide +kernel
theorem dR_fullest_49 : decode prog_8_method_12_code 49 = .ok (.aload_n 0, 1) := by decide +kernel
theorem dR_fullest_50 : decode prog_8_method_12_code 50 = .ok (.iload_n 3, 1) := by decide +kernel
theorem dR_fullest_51 : decode prog_8_method_12_code 51 = .ok (.invokevirtual 64, 3) := by decide +kernel
theorem dR_fullest_54 : decode prog_8_method_12_code 54 = .ok (.aload_n 0, 1) := by decide +kernel
theorem dR_fullest_55 : decode prog_8_method_12_code 55 = .ok (.iload_n 2, 1) := by decide +kernel
theorem dR_fullest_56 : decode prog_8_method_12_code 56 = .ok (.invokevirtual 64, 3) := by decide +kernel
theorem dR_fullest_59 : decode prog_8_method_12_code 59 = .ok (.if_icmp .ne 22, 3) := by decide +kernel
theorem dR_fullest_62 : decode prog_8_method_12_code 62 = .ok (.aload_n 0, 1) := by decide +kernel
theorem dR_fullest_63 : decode prog_8_method_12_code 63 = .ok (.getfield 19, 3) := by decide +kernel
theorem dR_fullest_66 : decode prog_8_method_12_code 66 = .ok (.iload_n 3, 1) := by decide +kernel
theorem dR_fullest_67 : decode prog_8_method_12_code 67 = .ok (.iaload, 1) := by decide +kernel
theorem dR_fullest_68 : decode prog_8_method_12_code 68 = .ok (.aload_n 0, 1) := by decide +kernel
theorem dR_fullest_69 : decode prog_8_method_12_code 69 = .ok (.getfield 19, 3) := by decide +kernel
theorem dR_fullest_72 : decode prog_8_method_12_code 72 = .ok (.iload_n 2, 1) := by decide +kernel
theorem dR_fullest_73 : decode prog_8_method_12_code 73 = .ok (.iaload, 1) := by decide +kernel
theorem dR_fullest_74 : decode prog_8_method_12_code 74 = .ok (.if_icmp .ge 7, 3) := by decide +kernel
theorem dR_fullest_77 : decode prog_8_method_12_code 77 = .ok (.iconst 1, 1) := by decide +kernel
theorem dR_fullest_78 : decode prog_8_method_12_code 78 = .ok (.goto 4, 3) := by decide +kernel
theorem dR_fullest_81 : decode prog_8_method_12_code 81 = .ok (.iconst 0, 1) := by decide +kernel
theorem dR_fullest_82 : decode prog_8_method_12_code 82 = .ok (.istore 4, 2) := by decide +kernel
theorem dR_fullest_84 : decode prog_8_method_12_code 84 = .ok (.iload 4, 2) := by decide +kernel
theorem dR_fullest_86 : decode prog_8_method_12_code 86 = .ok (.ifCond .eq 7, 3) := by decide +kernel
theorem dR_fullest_89 : decode prog_8_method_12_code 89 = .ok (.iload_n 3, 1) := by decide +kernel
theorem dR_fullest_90 : decode prog_8_method_12_code 90 = .ok (.goto 4, 3) := by decide +kernel
theorem dR_fullest_93 : decode prog_8_method_12_code 93 = .ok (.iload_n 2, 1) := by decide +kernel
theorem dR_fullest_94 : decode prog_8_method_12_code 94 = .ok (.istore_n 2, 1) := by decide +kernel
theorem dR_fullest_95 : decode prog_8_method_12_code 95 = .ok (.iinc 3 1, 3) := by decide +kernel
theorem dR_fullest_98 : decode prog_8_method_12_code 98 = .ok (.goto (-94), 3) := by decide +kernel
theorem dR_fullest_101 : decode prog_8_method_12_code 101 = .ok (.iload_n 2, 1) := by decide +kernel
theorem dR_fullest_102 : decode prog_8_method_12_code 102 = .ok (.ireturn, 1) := by decide +kernel
def fR_fullest_B4 (rec : Int32 → Int32 → Int32 → fl_G → Option ((Int32 × Int32) × fl_G)) (v3 : Int32) (v2 : Int32) (v1 : Int32) (g : fl_G) : Option ((Int32 × Int32) × fl_G) :=
  if 12 ≤ v3 then (some ((v3, v2), g)) else (fl_bd (fR_isHeap v3 v1 g) (fun r3 g4 => if r3 = 0 then (rec (v3 + 1) v2 v1 g4) else (fl_bd (fR_used v3 g4) (fun r7 g8 => fl_bd (fR_cells v1 g8) (fun r10 g11 => if r10 ≤ r7 then (rec (v3 + 1) v2 v1 g11) else (if v2 = (-1) then (rec (v3 + 1) v3 v1 g11) else (fl_bd (fR_used v3 g11) (fun r16 g17 => fl_bd (fR_used v2 g17) (fun r19 g20 => if r19 < r16 then (rec (v3 + 1) v3 v1 g20) else (fl_bd (fR_used v3 g20) (fun r24 g25 => fl_bd (fR_used v2 g25) (fun r27 g28 => if r24 = r27 then (fl_ck (fl_in v3 12) (fl_ck (fl_in v2 12) (if (g28 4 (Int32.toNatClampNeg v2)) ≤ (g28 4 (Int32.toNatClampNeg v3)) then (rec (v3 + 1) v2 v1 g28) else (rec (v3 + 1) v3 v1 g28)))) else (rec (v3 + 1) v2 v1 g28)))))))))))))
def fR_fullest_L4 : Nat → Int32 → Int32 → Int32 → fl_G → Option ((Int32 × Int32) × fl_G)
  | 0, _, _, _, _ => none
  | n + 1, v3, v2, v1, g => fR_fullest_B4 (fR_fullest_L4 n) v3 v2 v1 g
def fR_fullest (a0 : Int32) (g : fl_G) : Option (Int32 × fl_G) :=
  fl_bd (fR_fullest_L4 1000 0 (-1) a0 g) (fun r37 g38 => some (r37.2, g38))
set_option maxHeartbeats 4000000 in
set_option maxRecDepth 100000 in
theorem cR_fullest (l : Launch) (dC : Nat → ClassId) (dI : Nat → Nat → Nat) (ca : Nat → ClassId) (ad : Nat → Nat) (hI : fl_inj 14 ad) (a0 : Int32) {g g1 : fl_G} {r : Int32} (h : fR_fullest a0 g = some (r, g1)) : Met l yR_fullest wR_fullest ({ frames := 2, cells := 0, slots := 0, locals := 43 }) (va_Pc [.ref (ad 0), .int a0] (fl_Pre (dC, dI) al_cl 14 (rf_sh ca ad) ad (rf_ty ca) rf_ns g)) (fl_QI (dC, dI) al_cl 14 (rf_sh ca ad) ad r g1) 0 0 (fl_A 14 ad) := by
  refine fl_of (cc := prog_8_method_12_code) (maxL := 5) (ret := (some .int)) (by decide) rfl (Nat.le_of_ble_eq_true rfl) ?_
  intro p e s m below meth c ls hx hb hr hml hts hown hlocks hP hK hN hl
  have hown : s.vm.findClass "MeshedSpansModel" = some m.cls := hown
  have hS : va_S (fl_A 14 ad) s.heap s.heap [] := va_S.rf
  have hl : lv_has ls 5 [(0, .ref (ad 0)), (1, .int a0)] := hl
  unfold fR_fullest at h
  refine lv_iconst (v := (-1)) hx hb dR_fullest_0 (by decide) ?_
  refine lv_istore_n (lv' := [(2, .int (-1)), (0, .ref (ad 0)), (1, .int a0)]) hx hb dR_fullest_1 rfl hl (by decide) rfl (fun ls hl => ?_)
  refine lv_iconst (v := 0) hx hb dR_fullest_2 (by decide) ?_
  refine lv_istore_n (lv' := [(3, .int 0), (2, .int (-1)), (0, .ref (ad 0)), (1, .int a0)]) hx hb dR_fullest_3 rfl hl (by decide) rfl (fun ls hl => ?_)
  have loop1 : ∀ (n : Nat) (v3 : Int32) (v2 : Int32) (v1 : Int32) (g : fl_G) (z : ((Int32 × Int32) × fl_G)) (H : Heap) (locs : List Loc) (ls : Array Slot), fR_fullest_L4 n v3 v2 v1 g = some z → va_P (dC, dI) al_cl (fl_ws 14 (rf_sh ca ad) ad g) H → va_S (fl_A 14 ad) s.heap H locs → lv_has ls 5 [(3, .int v3), (2, .int v2), (0, .ref (ad 0)), (1, .int v1)] → (∀ (H : Heap) (locs : List Loc) (ls : Array Slot), va_P (dC, dI) al_cl (fl_ws 14 (rf_sh ca ad) ad z.2) H → va_S (fl_A 14 ad) s.heap H locs → lv_has ls 5 [(3, .int z.1.1), (2, .int z.1.2), (0, .ref (ad 0)), (1, .int v1)] → W p l e ({ frames := 2, cells := 0, slots := 0, locals := 43 }) s m ([.ref (ad 0), .int a0] : List Value).toArray below meth c H locs 0 0 (MQ below (fl_QI (dC, dI) al_cl 14 (rf_sh ca ad) ad r g1) ([.ref (ad 0), .int a0] : List Value).toArray s 0 0 (fl_A 14 ad)) (F0 m 101 ls [])) → W p l e ({ frames := 2, cells := 0, slots := 0, locals := 43 }) s m ([.ref (ad 0), .int a0] : List Value).toArray below meth c H locs 0 0 (MQ below (fl_QI (dC, dI) al_cl 14 (rf_sh ca ad) ad r g1) ([.ref (ad 0), .int a0] : List Value).toArray s 0 0 (fl_A 14 ad)) (F0 m 4 ls []) := by
    intro n
    clear h hP hS hl
    induction n with
    | zero => intro v3 v2 v1 g z H locs ls h; cases h
    | succ n ih1 =>
      intro v3 v2 v1 g z H locs ls h hP hS hl K1
      have h : fR_fullest_B4 (fR_fullest_L4 n) v3 v2 v1 g = some z := h
      unfold fR_fullest_B4 at h
      refine lv_iload_n hx hb dR_fullest_4 rfl (lv_at hl 0 rfl) ?_
      refine lv_bipush (v := 12) hx hb dR_fullest_5 (by decide) ?_
      refine lv_icmp_ge (tgt := 101) hx hb dR_fullest_7 (by decide) (fun c2 => ?_) (fun c2 => ?_)
      · replace h := fl_pos c2 h
        cases h
        exact K1 _ _ _ hP hS (lv_sub hl [0, 1, 2, 3] rfl)
      · replace h := fl_neg c2 h
        refine lv_aload_n hx hb dR_fullest_10 rfl (lv_at hl 2 rfl) ?_
        refine lv_iload_n hx hb dR_fullest_11 rfl (lv_at hl 0 rfl) ?_
        refine lv_iload_n hx hb dR_fullest_12 rfl (lv_at hl 3 rfl) ?_
        replace h := fl_bd_some h
        obtain ⟨r3, g4, hc5, h⟩ := h
        refine fl_calli (va_runV (As := [.int v3, .int v1]) (rest := []) ⟨hx, hb, hml, hown, hts⟩ (cR_isHeap l dC dI ca ad hI v3 v1 hc5) (kR_isHeap hts (hts _ gm_584) ⟨Nat.le_of_ble_eq_true rfl, Nat.le_of_ble_eq_true rfl⟩) (fl_preV hK hP hN (rf_lt rfl (by decide)) (rf_sh0 rfl) rfl) rfl rfl hl.1 rfl (lv_room (Nat.le_of_ble_eq_true rfl)) dR_fullest_13 ⟨Nat.le_refl 0, Nat.le_refl 0⟩) hS (fun H locs hP hS => ?_)
        refine lv_if_eq (tgt := 95) hx hb dR_fullest_16 (by decide) (fun c6 => ?_) (fun c6 => ?_)
        · replace h := fl_pos c6 h
          refine lv_iinc (v := (v3 + 1)) (lv' := [(3, .int (v3 + 1)), (2, .int v2), (0, .ref (ad 0)), (1, .int v1)]) hx hb dR_fullest_95 hl (k := 0) rfl rfl (by decide) rfl (fun ls hl => ?_)
          refine lv_goto (tgt := 4) hx hb dR_fullest_98 (by decide) ?_
          exact ih1 (v3 + 1) v2 v1 _ _ _ _ _ h hP hS (lv_sub hl [0, 1, 2, 3] rfl) K1
        · replace h := fl_neg c6 h
          refine lv_aload_n hx hb dR_fullest_19 rfl (lv_at hl 2 rfl) ?_
          refine lv_iload_n hx hb dR_fullest_20 rfl (lv_at hl 0 rfl) ?_
          replace h := fl_bd_some h
          obtain ⟨r7, g8, hc9, h⟩ := h
          refine fl_calli (va_runV (As := [.int v3]) (rest := []) ⟨hx, hb, hml, hown, hts⟩ (cR_used l dC dI ca ad hI v3 hc9) (kR_used hts (hts _ gm_587) ⟨Nat.le_of_ble_eq_true rfl, Nat.le_of_ble_eq_true rfl⟩) (fl_preV hK hP hN (rf_lt rfl (by decide)) (rf_sh0 rfl) rfl) rfl rfl hl.1 rfl (lv_room (Nat.le_of_ble_eq_true rfl)) dR_fullest_21 ⟨Nat.le_refl 0, Nat.le_refl 0⟩) hS (fun H locs hP hS => ?_)
          refine lv_iload_n hx hb dR_fullest_24 rfl (lv_at hl 3 rfl) ?_
          replace h := fl_bd_some h
          obtain ⟨r10, g11, hc12, h⟩ := h
          refine fl_calli (va_runS (As := [.int v1]) (rest := [.int r7]) ⟨hx, hb, hml, hown, hts⟩ (cR_cells l dC dI ca ad hI v1 hc12) (kR_cells hts (hts _ gm_590) ⟨Nat.le_of_ble_eq_true rfl, Nat.le_of_ble_eq_true rfl⟩) (fl_preS hK hP hN) rfl rfl hl.1 rfl (lv_room (Nat.le_of_ble_eq_true rfl)) dR_fullest_25 ⟨Nat.le_refl 0, Nat.le_refl 0⟩) hS (fun H locs hP hS => ?_)
          refine lv_icmp_ge (tgt := 95) hx hb dR_fullest_28 (by decide) (fun c13 => ?_) (fun c13 => ?_)
          · replace h := fl_pos c13 h
            refine lv_iinc (v := (v3 + 1)) (lv' := [(3, .int (v3 + 1)), (2, .int v2), (0, .ref (ad 0)), (1, .int v1)]) hx hb dR_fullest_95 hl (k := 0) rfl rfl (by decide) rfl (fun ls hl => ?_)
            refine lv_goto (tgt := 4) hx hb dR_fullest_98 (by decide) ?_
            exact ih1 (v3 + 1) v2 v1 _ _ _ _ _ h hP hS (lv_sub hl [0, 1, 2, 3] rfl) K1
          · replace h := fl_neg c13 h
            refine lv_iload_n hx hb dR_fullest_31 rfl (lv_at hl 1 rfl) ?_
            refine lv_iconst (v := (-1)) hx hb dR_fullest_32 (by decide) ?_
            refine lv_icmp_eq (tgt := 77) hx hb dR_fullest_33 (by decide) (fun c14 => ?_) (fun c14 => ?_)
            · replace h := fl_pos c14 h
              refine lv_iconst (v := 1) hx hb dR_fullest_77 (by decide) ?_
              refine lv_goto (tgt := 82) hx hb dR_fullest_78 (by decide) ?_
              refine lv_istore (lv' := [(4, .int 1), (3, .int v3), (2, .int v2), (0, .ref (ad 0)), (1, .int v1)]) hx hb dR_fullest_82 hl (by decide) rfl (fun ls hl => ?_)
              refine lv_iload hx hb dR_fullest_84 (lv_at hl 0 rfl) ?_
              refine lv_if_eq (tgt := 93) hx hb dR_fullest_86 (by decide) (fun c15 => ?_) (fun c15 => ?_)
              · exact absurd c15 (by decide)
              · refine lv_iload_n hx hb dR_fullest_89 rfl (lv_at hl 1 rfl) ?_
                refine lv_goto (tgt := 94) hx hb dR_fullest_90 (by decide) ?_
                refine lv_istore_n (lv' := [(2, .int v3), (4, .int 1), (3, .int v3), (0, .ref (ad 0)), (1, .int v1)]) hx hb dR_fullest_94 rfl hl (by decide) rfl (fun ls hl => ?_)
                refine lv_iinc (v := (v3 + 1)) (lv' := [(3, .int (v3 + 1)), (2, .int v3), (4, .int 1), (0, .ref (ad 0)), (1, .int v1)]) hx hb dR_fullest_95 hl (k := 2) rfl rfl (by decide) rfl (fun ls hl => ?_)
                refine lv_goto (tgt := 4) hx hb dR_fullest_98 (by decide) ?_
                exact ih1 (v3 + 1) v3 v1 _ _ _ _ _ h hP hS (lv_sub hl [0, 1, 3, 4] rfl) K1
            · replace h := fl_neg c14 h
              refine lv_aload_n hx hb dR_fullest_36 rfl (lv_at hl 2 rfl) ?_
              refine lv_iload_n hx hb dR_fullest_37 rfl (lv_at hl 0 rfl) ?_
              replace h := fl_bd_some h
              obtain ⟨r16, g17, hc18, h⟩ := h
              refine fl_calli (va_runV (As := [.int v3]) (rest := []) ⟨hx, hb, hml, hown, hts⟩ (cR_used l dC dI ca ad hI v3 hc18) (kR_used hts (hts _ gm_587) ⟨Nat.le_of_ble_eq_true rfl, Nat.le_of_ble_eq_true rfl⟩) (fl_preV hK hP hN (rf_lt rfl (by decide)) (rf_sh0 rfl) rfl) rfl rfl hl.1 rfl (lv_room (Nat.le_of_ble_eq_true rfl)) dR_fullest_38 ⟨Nat.le_refl 0, Nat.le_refl 0⟩) hS (fun H locs hP hS => ?_)
              refine lv_aload_n hx hb dR_fullest_41 rfl (lv_at hl 2 rfl) ?_
              refine lv_iload_n hx hb dR_fullest_42 rfl (lv_at hl 1 rfl) ?_
              replace h := fl_bd_some h
              obtain ⟨r19, g20, hc21, h⟩ := h
              refine fl_calli (va_runV (As := [.int v2]) (rest := [.int r16]) ⟨hx, hb, hml, hown, hts⟩ (cR_used l dC dI ca ad hI v2 hc21) (kR_used hts (hts _ gm_587) ⟨Nat.le_of_ble_eq_true rfl, Nat.le_of_ble_eq_true rfl⟩) (fl_preV hK hP hN (rf_lt rfl (by decide)) (rf_sh0 rfl) rfl) rfl rfl hl.1 rfl (lv_room (Nat.le_of_ble_eq_true rfl)) dR_fullest_43 ⟨Nat.le_refl 0, Nat.le_refl 0⟩) hS (fun H locs hP hS => ?_)
              refine lv_icmp_gt (tgt := 77) hx hb dR_fullest_46 (by decide) (fun c22 => ?_) (fun c22 => ?_)
              · replace h := fl_pos c22 h
                refine lv_iconst (v := 1) hx hb dR_fullest_77 (by decide) ?_
                refine lv_goto (tgt := 82) hx hb dR_fullest_78 (by decide) ?_
                refine lv_istore (lv' := [(4, .int 1), (3, .int v3), (2, .int v2), (0, .ref (ad 0)), (1, .int v1)]) hx hb dR_fullest_82 hl (by decide) rfl (fun ls hl => ?_)
                refine lv_iload hx hb dR_fullest_84 (lv_at hl 0 rfl) ?_
                refine lv_if_eq (tgt := 93) hx hb dR_fullest_86 (by decide) (fun c23 => ?_) (fun c23 => ?_)
                · exact absurd c23 (by decide)
                · refine lv_iload_n hx hb dR_fullest_89 rfl (lv_at hl 1 rfl) ?_
                  refine lv_goto (tgt := 94) hx hb dR_fullest_90 (by decide) ?_
                  refine lv_istore_n (lv' := [(2, .int v3), (4, .int 1), (3, .int v3), (0, .ref (ad 0)), (1, .int v1)]) hx hb dR_fullest_94 rfl hl (by decide) rfl (fun ls hl => ?_)
                  refine lv_iinc (v := (v3 + 1)) (lv' := [(3, .int (v3 + 1)), (2, .int v3), (4, .int 1), (0, .ref (ad 0)), (1, .int v1)]) hx hb dR_fullest_95 hl (k := 2) rfl rfl (by decide) rfl (fun ls hl => ?_)
                  refine lv_goto (tgt := 4) hx hb dR_fullest_98 (by decide) ?_
                  exact ih1 (v3 + 1) v3 v1 _ _ _ _ _ h hP hS (lv_sub hl [0, 1, 3, 4] rfl) K1
              · replace h := fl_neg c22 h
                refine lv_aload_n hx hb dR_fullest_49 rfl (lv_at hl 2 rfl) ?_
                refine lv_iload_n hx hb dR_fullest_50 rfl (lv_at hl 0 rfl) ?_
                replace h := fl_bd_some h
                obtain ⟨r24, g25, hc26, h⟩ := h
                refine fl_calli (va_runV (As := [.int v3]) (rest := []) ⟨hx, hb, hml, hown, hts⟩ (cR_used l dC dI ca ad hI v3 hc26) (kR_used hts (hts _ gm_587) ⟨Nat.le_of_ble_eq_true rfl, Nat.le_of_ble_eq_true rfl⟩) (fl_preV hK hP hN (rf_lt rfl (by decide)) (rf_sh0 rfl) rfl) rfl rfl hl.1 rfl (lv_room (Nat.le_of_ble_eq_true rfl)) dR_fullest_51 ⟨Nat.le_refl 0, Nat.le_refl 0⟩) hS (fun H locs hP hS => ?_)
                refine lv_aload_n hx hb dR_fullest_54 rfl (lv_at hl 2 rfl) ?_
                refine lv_iload_n hx hb dR_fullest_55 rfl (lv_at hl 1 rfl) ?_
                replace h := fl_bd_some h
                obtain ⟨r27, g28, hc29, h⟩ := h
                refine fl_calli (va_runV (As := [.int v2]) (rest := [.int r24]) ⟨hx, hb, hml, hown, hts⟩ (cR_used l dC dI ca ad hI v2 hc29) (kR_used hts (hts _ gm_587) ⟨Nat.le_of_ble_eq_true rfl, Nat.le_of_ble_eq_true rfl⟩) (fl_preV hK hP hN (rf_lt rfl (by decide)) (rf_sh0 rfl) rfl) rfl rfl hl.1 rfl (lv_room (Nat.le_of_ble_eq_true rfl)) dR_fullest_56 ⟨Nat.le_refl 0, Nat.le_refl 0⟩) hS (fun H locs hP hS => ?_)
                refine lv_icmp_ne (tgt := 81) hx hb dR_fullest_59 (by decide) (fun c30 => ?_) (fun c30 => ?_)
                · replace h := fl_neg c30 h
                  refine lv_iconst (v := 0) hx hb dR_fullest_81 (by decide) ?_
                  refine lv_istore (lv' := [(4, .int 0), (3, .int v3), (2, .int v2), (0, .ref (ad 0)), (1, .int v1)]) hx hb dR_fullest_82 hl (by decide) rfl (fun ls hl => ?_)
                  refine lv_iload hx hb dR_fullest_84 (lv_at hl 0 rfl) ?_
                  refine lv_if_eq (tgt := 93) hx hb dR_fullest_86 (by decide) (fun c31 => ?_) (fun c31 => ?_)
                  · refine lv_iload_n hx hb dR_fullest_93 rfl (lv_at hl 2 rfl) ?_
                    refine lv_istore_n (lv' := [(2, .int v2), (4, .int 0), (3, .int v3), (0, .ref (ad 0)), (1, .int v1)]) hx hb dR_fullest_94 rfl hl (by decide) rfl (fun ls hl => ?_)
                    refine lv_iinc (v := (v3 + 1)) (lv' := [(3, .int (v3 + 1)), (2, .int v2), (4, .int 0), (0, .ref (ad 0)), (1, .int v1)]) hx hb dR_fullest_95 hl (k := 2) rfl rfl (by decide) rfl (fun ls hl => ?_)
                    refine lv_goto (tgt := 4) hx hb dR_fullest_98 (by decide) ?_
                    exact ih1 (v3 + 1) v2 v1 _ _ _ _ _ h hP hS (lv_sub hl [0, 1, 3, 4] rfl) K1
                  · exact absurd (by decide) c31
                · replace h := fl_pos c30 h
                  refine lv_aload_n hx hb dR_fullest_62 rfl (lv_at hl 2 rfl) ?_
                  refine rf_get0 (v := .ref (ad 4)) hx hb hts rf_in0 hown hK hP (q := 0) rfl 4 (by decide) (hts _ gm_506) rfl dR_fullest_63 ?_
                  refine lv_iload_n hx hb dR_fullest_66 rfl (lv_at hl 0 rfl) ?_
                  replace h := fl_ck_some h
                  obtain ⟨hi32, h⟩ := h
                  refine rf_iald hx hb hK hP (q := 4) rfl hi32 dR_fullest_67 ?_
                  refine lv_aload_n hx hb dR_fullest_68 rfl (lv_at hl 2 rfl) ?_
                  refine rf_get0 (v := .ref (ad 4)) hx hb hts rf_in0 hown hK hP (q := 0) rfl 4 (by decide) (hts _ gm_506) rfl dR_fullest_69 ?_
                  refine lv_iload_n hx hb dR_fullest_72 rfl (lv_at hl 1 rfl) ?_
                  replace h := fl_ck_some h
                  obtain ⟨hi33, h⟩ := h
                  refine rf_iald hx hb hK hP (q := 4) rfl hi33 dR_fullest_73 ?_
                  refine lv_icmp_ge (tgt := 81) hx hb dR_fullest_74 (by decide) (fun c34 => ?_) (fun c34 => ?_)
                  · replace h := fl_pos c34 h
                    refine lv_iconst (v := 0) hx hb dR_fullest_81 (by decide) ?_
                    refine lv_istore (lv' := [(4, .int 0), (3, .int v3), (2, .int v2), (0, .ref (ad 0)), (1, .int v1)]) hx hb dR_fullest_82 hl (by decide) rfl (fun ls hl => ?_)
                    refine lv_iload hx hb dR_fullest_84 (lv_at hl 0 rfl) ?_
                    refine lv_if_eq (tgt := 93) hx hb dR_fullest_86 (by decide) (fun c35 => ?_) (fun c35 => ?_)
                    · refine lv_iload_n hx hb dR_fullest_93 rfl (lv_at hl 2 rfl) ?_
                      refine lv_istore_n (lv' := [(2, .int v2), (4, .int 0), (3, .int v3), (0, .ref (ad 0)), (1, .int v1)]) hx hb dR_fullest_94 rfl hl (by decide) rfl (fun ls hl => ?_)
                      refine lv_iinc (v := (v3 + 1)) (lv' := [(3, .int (v3 + 1)), (2, .int v2), (4, .int 0), (0, .ref (ad 0)), (1, .int v1)]) hx hb dR_fullest_95 hl (k := 2) rfl rfl (by decide) rfl (fun ls hl => ?_)
                      refine lv_goto (tgt := 4) hx hb dR_fullest_98 (by decide) ?_
                      exact ih1 (v3 + 1) v2 v1 _ _ _ _ _ h hP hS (lv_sub hl [0, 1, 3, 4] rfl) K1
                    · exact absurd (by decide) c35
                  · replace h := fl_neg c34 h
                    refine lv_iconst (v := 1) hx hb dR_fullest_77 (by decide) ?_
                    refine lv_goto (tgt := 82) hx hb dR_fullest_78 (by decide) ?_
                    refine lv_istore (lv' := [(4, .int 1), (3, .int v3), (2, .int v2), (0, .ref (ad 0)), (1, .int v1)]) hx hb dR_fullest_82 hl (by decide) rfl (fun ls hl => ?_)
                    refine lv_iload hx hb dR_fullest_84 (lv_at hl 0 rfl) ?_
                    refine lv_if_eq (tgt := 93) hx hb dR_fullest_86 (by decide) (fun c36 => ?_) (fun c36 => ?_)
                    · exact absurd c36 (by decide)
                    · refine lv_iload_n hx hb dR_fullest_89 rfl (lv_at hl 1 rfl) ?_
                      refine lv_goto (tgt := 94) hx hb dR_fullest_90 (by decide) ?_
                      refine lv_istore_n (lv' := [(2, .int v3), (4, .int 1), (3, .int v3), (0, .ref (ad 0)), (1, .int v1)]) hx hb dR_fullest_94 rfl hl (by decide) rfl (fun ls hl => ?_)
                      refine lv_iinc (v := (v3 + 1)) (lv' := [(3, .int (v3 + 1)), (2, .int v3), (4, .int 1), (0, .ref (ad 0)), (1, .int v1)]) hx hb dR_fullest_95 hl (k := 2) rfl rfl (by decide) rfl (fun ls hl => ?_)
                      refine lv_goto (tgt := 4) hx hb dR_fullest_98 (by decide) ?_
                      exact ih1 (v3 + 1) v3 v1 _ _ _ _ _ h hP hS (lv_sub hl [0, 1, 3, 4] rfl) K1
  obtain ⟨r37, g38, hc39, h⟩ := fl_bd_some h
  refine loop1 1000 0 (-1) a0 _ (r37, g38) _ _ _ hc39 hP hS (lv_sub hl [0, 1, 2, 3] rfl) (fun H locs ls hP hS hl => ?_)
  have hP : va_P (dC, dI) al_cl (fl_ws 14 (rf_sh ca ad) ad g38) H := hP
  have hl : lv_has ls 5 [(3, .int r37.1), (2, .int r37.2), (0, .ref (ad 0)), (1, .int a0)] := hl
  refine lv_iload_n hx hb dR_fullest_101 rfl (lv_at hl 1 rfl) ?_
  exact fl_iret hx hb hr hlocks hP hS h dR_fullest_102
def yR_swap : MethodName := ⟨"MeshedSpansModel", "swap", "(III)V"⟩
def wR_swap : List Cond := .code yR_swap prog_8_method_14_code 5 none :: gw
theorem kR_swap {R : Room} {s : State} {args : Array Value} {own : String} {ix : Nat} (hts : ∀ w ∈ gw, w.before args s = true) (hl : (Cond.methodLink own ix yR_swap).before args s = true) (hR : 0 + 1 ≤ R.frames ∧ 8 + (5 + 11) + 0 ≤ R.locals) : CallW R s args own "MeshedSpansModel" ix yR_swap prog_8_method_14_code 5 none wR_swap { frames := 0, cells := 0, slots := 0, locals := 0 } 0 0 3 := ⟨callB_of (rm := { frames := 0, cells := 0, slots := 0, locals := 0 }) 3 hts (gw_c (ct := .code yR_swap prog_8_method_14_code 5 none) gm_606) rfl rfl rfl (hts _ gm_47) hl (by decide +kernel) hR, hts _ gm_605, hts _ gm_28⟩
theorem dR_swap_0 : decode prog_8_method_14_code 0 = .ok (.aload_n 0, 1) := by decide +kernel
theorem dR_swap_1 : decode prog_8_method_14_code 1 = .ok (.getfield 40, 3) := by decide +kernel
theorem dR_swap_4 : decode prog_8_method_14_code 4 = .ok (.bipush 16, 2) := by decide +kernel
theorem dR_swap_6 : decode prog_8_method_14_code 6 = .ok (.iload_n 1, 1) := by decide +kernel
theorem dR_swap_7 : decode prog_8_method_14_code 7 = .ok (.imul, 1) := by decide +kernel
theorem dR_swap_8 : decode prog_8_method_14_code 8 = .ok (.iload_n 2, 1) := by decide +kernel
theorem dR_swap_9 : decode prog_8_method_14_code 9 = .ok (.iadd, 1) := by decide +kernel
theorem dR_swap_10 : decode prog_8_method_14_code 10 = .ok (.iaload, 1) := by decide +kernel
theorem dR_swap_11 : decode prog_8_method_14_code 11 = .ok (.istore 4, 2) := by decide +kernel
theorem dR_swap_13 : decode prog_8_method_14_code 13 = .ok (.aload_n 0, 1) := by decide +kernel
theorem dR_swap_14 : decode prog_8_method_14_code 14 = .ok (.getfield 40, 3) := by decide +kernel
theorem dR_swap_17 : decode prog_8_method_14_code 17 = .ok (.bipush 16, 2) := by decide +kernel
theorem dR_swap_19 : decode prog_8_method_14_code 19 = .ok (.iload_n 1, 1) := by decide +kernel
theorem dR_swap_20 : decode prog_8_method_14_code 20 = .ok (.imul, 1) := by decide +kernel
theorem dR_swap_21 : decode prog_8_method_14_code 21 = .ok (.iload_n 2, 1) := by decide +kernel
theorem dR_swap_22 : decode prog_8_method_14_code 22 = .ok (.iadd, 1) := by decide +kernel
theorem dR_swap_23 : decode prog_8_method_14_code 23 = .ok (.aload_n 0, 1) := by decide +kernel
theorem dR_swap_24 : decode prog_8_method_14_code 24 = .ok (.getfield 40, 3) := by decide +kernel
theorem dR_swap_27 : decode prog_8_method_14_code 27 = .ok (.bipush 16, 2) := by decide +kernel
theorem dR_swap_29 : decode prog_8_method_14_code 29 = .ok (.iload_n 1, 1) := by decide +kernel
theorem dR_swap_30 : decode prog_8_method_14_code 30 = .ok (.imul, 1) := by decide +kernel
theorem dR_swap_31 : decode prog_8_method_14_code 31 = .ok (.iload_n 3, 1) := by decide +kernel
theorem dR_swap_32 : decode prog_8_method_14_code 32 = .ok (.iadd, 1) := by decide +kernel
theorem dR_swap_33 : decode prog_8_method_14_code 33 = .ok (.iaload, 1) := by decide +kernel
theorem dR_swap_34 : decode prog_8_method_14_code 34 = .ok (.iastore, 1) := by decide +kernel
theorem dR_swap_35 : decode prog_8_method_14_code 35 = .ok (.aload_n 0, 1) := by decide +kernel
theorem dR_swap_36 : decode prog_8_method_14_code 36 = .ok (.getfield 40, 3) := by decide +kernel
theorem dR_swap_39 : decode prog_8_method_14_code 39 = .ok (.bipush 16, 2) := by decide +kernel
theorem dR_swap_41 : decode prog_8_method_14_code 41 = .ok (.iload_n 1, 1) := by decide +kernel
theorem dR_swap_42 : decode prog_8_method_14_code 42 = .ok (.imul, 1) := by decide +kernel
theorem dR_swap_43 : decode prog_8_method_14_code 43 = .ok (.iload_n 3, 1) := by decide +kernel
theorem dR_swap_44 : decode prog_8_method_14_code 44 = .ok (.iadd, 1) := by decide +kernel
theorem dR_swap_45 : decode prog_8_method_14_code 45 = .ok (.iload 4, 2) := by decide +kernel
theorem dR_swap_47 : decode prog_8_method_14_code 47 = .ok (.iastore, 1) := by decide +kernel
theorem dR_swap_48 : decode prog_8_method_14_code 48 = .ok (.return_, 1) := by decide +kernel
def fR_swap (a0 : Int32) (a1 : Int32) (a2 : Int32) (g : fl_G) : Option (Unit × fl_G) :=
  fl_ck (fl_in ((16 * a0) + a1) 64) (fl_ck (fl_in ((16 * a0) + a2) 64) (fl_ck (fl_in ((16 * a0) + a1) 64) (fl_ck (fl_in ((16 * a0) + a2) 64) (some ((), (fl_up (fl_up g 11 (Int32.toNatClampNeg ((16 * a0) + a1)) (g 11 (Int32.toNatClampNeg ((16 * a0) + a2)))) 11 (Int32.toNatClampNeg ((16 * a0) + a2)) (g 11 (Int32.toNatClampNeg ((16 * a0) + a1)))))))))
set_option maxHeartbeats 4000000 in
set_option maxRecDepth 100000 in
theorem cR_swap (l : Launch) (dC : Nat → ClassId) (dI : Nat → Nat → Nat) (ca : Nat → ClassId) (ad : Nat → Nat) (hI : fl_inj 14 ad) (a0 : Int32) (a1 : Int32) (a2 : Int32) {g g1 : fl_G} {r : Unit} (h : fR_swap a0 a1 a2 g = some (r, g1)) : Met l yR_swap wR_swap ({ frames := 0, cells := 0, slots := 0, locals := 0 }) (va_Pc [.ref (ad 0), .int a0, .int a1, .int a2] (fl_Pre (dC, dI) al_cl 14 (rf_sh ca ad) ad (rf_ty ca) rf_ns g)) (fl_QV (dC, dI) al_cl 14 (rf_sh ca ad) ad g1) 0 0 (fl_A 14 ad) := by
  refine fl_of (cc := prog_8_method_14_code) (maxL := 5) (ret := none) (by decide) rfl (Nat.le_of_ble_eq_true rfl) ?_
  intro p e s m below meth c ls hx hb hr hml hts hown hlocks hP hK hN hl
  have hown : s.vm.findClass "MeshedSpansModel" = some m.cls := hown
  have hS : va_S (fl_A 14 ad) s.heap s.heap [] := va_S.rf
  have hl : lv_has ls 5 [(0, .ref (ad 0)), (1, .int a0), (2, .int a1), (3, .int a2)] := hl
  unfold fR_swap at h
  refine lv_aload_n hx hb dR_swap_0 rfl (lv_at hl 0 rfl) ?_
  refine rf_get0 (v := .ref (ad 11)) hx hb hts rf_in0 hown hK hP (q := 0) rfl 12 (by decide) (hts _ gm_514) rfl dR_swap_1 ?_
  refine lv_bipush (v := 16) hx hb dR_swap_4 (by decide) ?_
  refine lv_iload_n hx hb dR_swap_6 rfl (lv_at hl 1 rfl) ?_
  refine lv_imul hx hb dR_swap_7 ?_
  refine lv_iload_n hx hb dR_swap_8 rfl (lv_at hl 2 rfl) ?_
  refine lv_iadd hx hb dR_swap_9 ?_
  replace h := fl_ck_some h
  obtain ⟨hi1, h⟩ := h
  refine rf_iald hx hb hK hP (q := 11) rfl hi1 dR_swap_10 ?_
  refine lv_istore (lv' := [(4, .int (g 11 (Int32.toNatClampNeg ((16 * a0) + a1)))), (0, .ref (ad 0)), (1, .int a0), (2, .int a1), (3, .int a2)]) hx hb dR_swap_11 hl (by decide) rfl (fun ls hl => ?_)
  refine lv_aload_n hx hb dR_swap_13 rfl (lv_at hl 1 rfl) ?_
  refine rf_get0 (v := .ref (ad 11)) hx hb hts rf_in0 hown hK hP (q := 0) rfl 12 (by decide) (hts _ gm_514) rfl dR_swap_14 ?_
  refine lv_bipush (v := 16) hx hb dR_swap_17 (by decide) ?_
  refine lv_iload_n hx hb dR_swap_19 rfl (lv_at hl 2 rfl) ?_
  refine lv_imul hx hb dR_swap_20 ?_
  refine lv_iload_n hx hb dR_swap_21 rfl (lv_at hl 3 rfl) ?_
  refine lv_iadd hx hb dR_swap_22 ?_
  refine lv_aload_n hx hb dR_swap_23 rfl (lv_at hl 1 rfl) ?_
  refine rf_get0 (v := .ref (ad 11)) hx hb hts rf_in0 hown hK hP (q := 0) rfl 12 (by decide) (hts _ gm_514) rfl dR_swap_24 ?_
  refine lv_bipush (v := 16) hx hb dR_swap_27 (by decide) ?_
  refine lv_iload_n hx hb dR_swap_29 rfl (lv_at hl 2 rfl) ?_
  refine lv_imul hx hb dR_swap_30 ?_
  refine lv_iload_n hx hb dR_swap_31 rfl (lv_at hl 4 rfl) ?_
  refine lv_iadd hx hb dR_swap_32 ?_
  replace h := fl_ck_some h
  obtain ⟨hi2, h⟩ := h
  refine rf_iald hx hb hK hP (q := 11) rfl hi2 dR_swap_33 ?_
  replace h := fl_ck_some h
  obtain ⟨hi3, h⟩ := h
  refine rf_iast hx hb hK hP hI hS (q := 11) rfl hi3 dR_swap_34 (fun H locs hP hS => ?_)
  have hP : va_P (dC, dI) al_cl (fl_ws 14 (rf_sh ca ad) ad (fl_up g 11 (Int32.toNatClampNeg ((16 * a0) + a1)) (g 11 (Int32.toNatClampNeg ((16 * a0) + a2))))) H := hP
  refine lv_aload_n hx hb dR_swap_35 rfl (lv_at hl 1 rfl) ?_
  refine rf_get0 (v := .ref (ad 11)) hx hb hts rf_in0 hown hK hP (q := 0) rfl 12 (by decide) (hts _ gm_514) rfl dR_swap_36 ?_
  refine lv_bipush (v := 16) hx hb dR_swap_39 (by decide) ?_
  refine lv_iload_n hx hb dR_swap_41 rfl (lv_at hl 2 rfl) ?_
  refine lv_imul hx hb dR_swap_42 ?_
  refine lv_iload_n hx hb dR_swap_43 rfl (lv_at hl 4 rfl) ?_
  refine lv_iadd hx hb dR_swap_44 ?_
  refine lv_iload hx hb dR_swap_45 (lv_at hl 0 rfl) ?_
  replace h := fl_ck_some h
  obtain ⟨hi4, h⟩ := h
  refine rf_iast hx hb hK hP hI hS (q := 11) rfl hi4 dR_swap_47 (fun H locs hP hS => ?_)
  have hP : va_P (dC, dI) al_cl (fl_ws 14 (rf_sh ca ad) ad (fl_up (fl_up g 11 (Int32.toNatClampNeg ((16 * a0) + a1)) (g 11 (Int32.toNatClampNeg ((16 * a0) + a2)))) 11 (Int32.toNatClampNeg ((16 * a0) + a2)) (g 11 (Int32.toNatClampNeg ((16 * a0) + a1))))) H := hP
  exact fl_vret hx hb hr hlocks hP hS h dR_swap_48
def yR_attach : MethodName := ⟨"MeshedSpansModel", "attach", "(II)V"⟩
def wR_attach : List Cond := .code yR_attach prog_8_method_13_code 5 none :: gw
theorem kR_attach {R : Room} {s : State} {args : Array Value} {own : String} {ix : Nat} (hts : ∀ w ∈ gw, w.before args s = true) (hl : (Cond.methodLink own ix yR_attach).before args s = true) (hR : 1 + 1 ≤ R.frames ∧ 8 + (5 + 11) + 24 ≤ R.locals) : CallW R s args own "MeshedSpansModel" ix yR_attach prog_8_method_13_code 5 none wR_attach { frames := 1, cells := 0, slots := 0, locals := 24 } 0 0 2 := ⟨callB_of (rm := { frames := 1, cells := 0, slots := 0, locals := 24 }) 2 hts (gw_c (ct := .code yR_attach prog_8_method_13_code 5 none) gm_598) rfl rfl rfl (hts _ gm_47) hl (by decide +kernel) hR, hts _ gm_597, hts _ gm_26⟩
theorem dR_attach_0 : decode prog_8_method_13_code 0 = .ok (.aload_n 0, 1) := by decide +kernel
theorem dR_attach_1 : decode prog_8_method_13_code 1 = .ok (.getfield 34, 3) := by decide +kernel
theorem dR_attach_4 : decode prog_8_method_13_code 4 = .ok (.iload_n 1, 1) := by decide +kernel
theorem dR_attach_5 : decode prog_8_method_13_code 5 = .ok (.iload_n 2, 1) := by decide +kernel
theorem dR_attach_6 : decode prog_8_method_13_code 6 = .ok (.iastore, 1) := by decide +kernel
theorem dR_attach_7 : decode prog_8_method_13_code 7 = .ok (.iconst 0, 1) := by decide +kernel
theorem dR_attach_8 : decode prog_8_method_13_code 8 = .ok (.istore_n 3, 1) := by decide +kernel
theorem dR_attach_9 : decode prog_8_method_13_code 9 = .ok (.iconst 0, 1) := by decide +kernel
theorem dR_attach_10 : decode prog_8_method_13_code 10 = .ok (.istore 4, 2) := by decide +kernel
theorem dR_attach_12 : decode prog_8_method_13_code 12 = .ok (.iload 4, 2) := by decide +kernel
theorem dR_attach_14 : decode prog_8_method_13_code 14 = .ok (.iload_n 1, 1) := by decide +kernel
theorem dR_attach_15 : decode prog_8_method_13_code 15 = .ok (.invokestatic 56, 3) := by decide +kernel
theorem dR_attach_18 : decode prog_8_method_13_code 18 = .ok (.if_icmp .ge 41, 3) := by decide +kernel
theorem dR_attach_21 : decode prog_8_method_13_code 21 = .ok (.aload_n 0, 1) := by decide +kernel
theorem dR_attach_22 : decode prog_8_method_13_code 22 = .ok (.getfield 28, 3) := by decide +kernel
theorem dR_attach_25 : decode prog_8_method_13_code 25 = .ok (.bipush 16, 2) := by decide +kernel
theorem dR_attach_27 : decode prog_8_method_13_code 27 = .ok (.iload_n 2, 1) := by decide +kernel
theorem dR_attach_28 : decode prog_8_method_13_code 28 = .ok (.imul, 1) := by decide +kernel
theorem dR_attach_29 : decode prog_8_method_13_code 29 = .ok (.iload 4, 2) := by decide +kernel
theorem dR_attach_31 : decode prog_8_method_13_code 31 = .ok (.iadd, 1) := by decide +kernel
theorem dR_attach_32 : decode prog_8_method_13_code 32 = .ok (.iaload, 1) := by decide +kernel
theorem dR_attach_33 : decode prog_8_method_13_code 33 = .ok (.iconst (-1), 1) := by decide +kernel
theorem dR_attach_34 : decode prog_8_method_13_code 34 = .ok (.if_icmp .ne 19, 3) := by decide +kernel
theorem dR_attach_37 : decode prog_8_method_13_code 37 = .ok (.aload_n 0, 1) := by decide +kernel
theorem dR_attach_38 : decode prog_8_method_13_code 38 = .ok (.getfield 40, 3) := by decide +kernel
theorem dR_attach_41 : decode prog_8_method_13_code 41 = .ok (.bipush 16, 2) := by decide +kernel
theorem dR_attach_43 : decode prog_8_method_13_code 43 = .ok (.iload_n 1, 1) := by decide +kernel
theorem dR_attach_44 : decode prog_8_method_13_code 44 = .ok (.imul, 1) := by decide +kernel
theorem dR_attach_45 : decode prog_8_method_13_code 45 = .ok (.iload_n 3, 1) := by decide +kernel
theorem dR_attach_46 : decode prog_8_method_13_code 46 = .ok (.iadd, 1) := by decide +kernel
theorem dR_attach_47 : decode prog_8_method_13_code 47 = .ok (.iload 4, 2) := by decide +kernel
theorem dR_attach_49 : decode prog_8_method_13_code 49 = .ok (.iastore, 1) := by decide +kernel
theorem dR_attach_50 : decode prog_8_method_13_code 50 = .ok (.iinc 3 1, 3) := by decide +kernel
theorem dR_attach_53 : decode prog_8_method_13_code 53 = .ok (.iinc 4 1, 3) := by decide +kernel
theorem dR_attach_56 : decode prog_8_method_13_code 56 = .ok (.goto (-44), 3) := by decide +kernel
theorem dR_attach_59 : decode prog_8_method_13_code 59 = .ok (.aload_n 0, 1) := by decide +kernel
theorem dR_attach_60 : decode prog_8_method_13_code 60 = .ok (.getfield 37, 3) := by decide +kernel
theorem dR_attach_63 : decode prog_8_method_13_code 63 = .ok (.iload_n 1, 1) := by decide +kernel
theorem dR_attach_64 : decode prog_8_method_13_code 64 = .ok (.iload_n 3, 1) := by decide +kernel
theorem dR_attach_65 : decode prog_8_method_13_code 65 = .ok (.iastore, 1) := by decide +kernel
theorem dR_attach_66 : decode prog_8_method_13_code 66 = .ok (.iload_n 3, 1) := by decide +kernel
theorem dR_attach_67 : decode prog_8_method_13_code 67 = .ok (.iconst 1, 1) := by decide +kernel
theorem dR_attach_68 : decode prog_8_method_13_code 68 = .ok (.isub, 1) := by decide +kernel
theorem dR_attach_69 : decode prog_8_method_13_code 69 = .ok (.istore 4, 2) := by decide +kernel
theorem dR_attach_71 : decode prog_8_method_13_code 71 = .ok (.iload 4, 2) := by decide +kernel
theorem dR_attach_73 : decode prog_8_method_13_code 73 = .ok (.iconst 1, 1) := by decide +kernel
theorem dR_attach_74 : decode prog_8_method_13_code 74 = .ok (.if_icmp .lt 24, 3) := by decide +kernel
theorem dR_attach_77 : decode prog_8_method_13_code 77 = .ok (.aload_n 0, 1) := by decide +kernel
theorem dR_attach_78 : decode prog_8_method_13_code 78 = .ok (.iload_n 1, 1) := by decide +kernel
theorem dR_attach_79 : decode prog_8_method_13_code 79 = .ok (.iload 4, 2) := by decide +kernel
theorem dR_attach_81 : decode prog_8_method_13_code 81 = .ok (.aload_n 0, 1) := by decide +kernel
theorem dR_attach_82 : decode prog_8_method_13_code 82 = .ok (.iload 4, 2) := by decide +kernel
theorem dR_attach_84 : decode prog_8_method_13_code 84 = .ok (.iconst 1, 1) := by decide +kernel
theorem dR_attach_85 : decode prog_8_method_13_code 85 = .ok (.iadd, 1) := by decide +kernel
theorem dR_attach_86 : decode prog_8_method_13_code 86 = .ok (.invokevirtual 67, 3) := by decide +kernel
theorem dR_attach_89 : decode prog_8_method_13_code 89 = .ok (.invokevirtual 70, 3) := by decide +kernel
theorem dR_attach_92 : decode prog_8_method_13_code 92 = .ok (.iinc 4 (-1), 3) := by decide +kernel
theorem dR_attach_95 : decode prog_8_method_13_code 95 = .ok (.goto (-24), 3) := by decide +kernel
theorem dR_attach_98 : decode prog_8_method_13_code 98 = .ok (.return_, 1) := by decide +kernel
def fR_attach_B12 (rec : Int32 → Int32 → Int32 → Int32 → fl_G → Option ((Int32 × Int32) × fl_G)) (v4 : Int32) (v3 : Int32) (v1 : Int32) (v2 : Int32) (g : fl_G) : Option ((Int32 × Int32) × fl_G) :=
  fl_bd (fR_cells v1 g) (fun r3 g4 => if r3 ≤ v4 then (some ((v4, v3), g4)) else (fl_ck (fl_in ((16 * v2) + v4) 192) (if (g4 7 (Int32.toNatClampNeg ((16 * v2) + v4))) = (-1) then (fl_ck (fl_in ((16 * v1) + v3) 64) (rec (v4 + 1) (v3 + 1) v1 v2 (fl_up g4 11 (Int32.toNatClampNeg ((16 * v1) + v3)) v4))) else (rec (v4 + 1) v3 v1 v2 g4))))
def fR_attach_L12 : Nat → Int32 → Int32 → Int32 → Int32 → fl_G → Option ((Int32 × Int32) × fl_G)
  | 0, _, _, _, _, _ => none
  | n + 1, v4, v3, v1, v2, g => fR_attach_B12 (fR_attach_L12 n) v4 v3 v1 v2 g
def fR_attach_B71 (rec : Int32 → Int32 → Int32 → Int32 → fl_G → Option ((Int32) × fl_G)) (v4 : Int32) (v3 : Int32) (v1 : Int32) (v2 : Int32) (g : fl_G) : Option ((Int32) × fl_G) :=
  if v4 < 1 then (some (v4, g)) else (fl_bd (fR_draw (v4 + 1) g) (fun r16 g17 => fl_bd (fR_swap v1 v4 r16 g17) (fun r19 g20 => rec (v4 + (-1)) v3 v1 v2 g20)))
def fR_attach_L71 : Nat → Int32 → Int32 → Int32 → Int32 → fl_G → Option ((Int32) × fl_G)
  | 0, _, _, _, _, _ => none
  | n + 1, v4, v3, v1, v2, g => fR_attach_B71 (fR_attach_L71 n) v4 v3 v1 v2 g
def fR_attach (a0 : Int32) (a1 : Int32) (g : fl_G) : Option (Unit × fl_G) :=
  fl_ck (fl_in a0 4) (fl_bd (fR_attach_L12 1000 0 0 a0 a1 (fl_up g 9 (Int32.toNatClampNeg a0) a1)) (fun r10 g11 => fl_ck (fl_in a0 4) (fl_bd (fR_attach_L71 1000 (r10.2 - 1) r10.2 a0 a1 (fl_up g11 10 (Int32.toNatClampNeg a0) r10.2)) (fun r22 g23 => some ((), g23)))))
set_option maxHeartbeats 4000000 in
set_option maxRecDepth 100000 in
theorem cR_attach (l : Launch) (dC : Nat → ClassId) (dI : Nat → Nat → Nat) (ca : Nat → ClassId) (ad : Nat → Nat) (hI : fl_inj 14 ad) (a0 : Int32) (a1 : Int32) {g g1 : fl_G} {r : Unit} (h : fR_attach a0 a1 g = some (r, g1)) : Met l yR_attach wR_attach ({ frames := 1, cells := 0, slots := 0, locals := 24 }) (va_Pc [.ref (ad 0), .int a0, .int a1] (fl_Pre (dC, dI) al_cl 14 (rf_sh ca ad) ad (rf_ty ca) rf_ns g)) (fl_QV (dC, dI) al_cl 14 (rf_sh ca ad) ad g1) 0 0 (fl_A 14 ad) := by
  refine fl_of (cc := prog_8_method_13_code) (maxL := 5) (ret := none) (by decide) rfl (Nat.le_of_ble_eq_true rfl) ?_
  intro p e s m below meth c ls hx hb hr hml hts hown hlocks hP hK hN hl
  have hown : s.vm.findClass "MeshedSpansModel" = some m.cls := hown
  have hS : va_S (fl_A 14 ad) s.heap s.heap [] := va_S.rf
  have hl : lv_has ls 5 [(0, .ref (ad 0)), (1, .int a0), (2, .int a1)] := hl
  unfold fR_attach at h
  refine lv_aload_n hx hb dR_attach_0 rfl (lv_at hl 0 rfl) ?_
  refine rf_get0 (v := .ref (ad 9)) hx hb hts rf_in0 hown hK hP (q := 0) rfl 10 (by decide) (hts _ gm_512) rfl dR_attach_1 ?_
  refine lv_iload_n hx hb dR_attach_4 rfl (lv_at hl 1 rfl) ?_
  refine lv_iload_n hx hb dR_attach_5 rfl (lv_at hl 2 rfl) ?_
  replace h := fl_ck_some h
  obtain ⟨hi1, h⟩ := h
  refine rf_iast hx hb hK hP hI hS (q := 9) rfl hi1 dR_attach_6 (fun H locs hP hS => ?_)
  have hP : va_P (dC, dI) al_cl (fl_ws 14 (rf_sh ca ad) ad (fl_up g 9 (Int32.toNatClampNeg a0) a1)) H := hP
  refine lv_iconst (v := 0) hx hb dR_attach_7 (by decide) ?_
  refine lv_istore_n (lv' := [(3, .int 0), (0, .ref (ad 0)), (1, .int a0), (2, .int a1)]) hx hb dR_attach_8 rfl hl (by decide) rfl (fun ls hl => ?_)
  refine lv_iconst (v := 0) hx hb dR_attach_9 (by decide) ?_
  refine lv_istore (lv' := [(4, .int 0), (3, .int 0), (0, .ref (ad 0)), (1, .int a0), (2, .int a1)]) hx hb dR_attach_10 hl (by decide) rfl (fun ls hl => ?_)
  have loop2 : ∀ (n : Nat) (v4 : Int32) (v3 : Int32) (v1 : Int32) (v2 : Int32) (g : fl_G) (z : ((Int32 × Int32) × fl_G)) (H : Heap) (locs : List Loc) (ls : Array Slot), fR_attach_L12 n v4 v3 v1 v2 g = some z → va_P (dC, dI) al_cl (fl_ws 14 (rf_sh ca ad) ad g) H → va_S (fl_A 14 ad) s.heap H locs → lv_has ls 5 [(4, .int v4), (3, .int v3), (0, .ref (ad 0)), (1, .int v1), (2, .int v2)] → (∀ (H : Heap) (locs : List Loc) (ls : Array Slot), va_P (dC, dI) al_cl (fl_ws 14 (rf_sh ca ad) ad z.2) H → va_S (fl_A 14 ad) s.heap H locs → lv_has ls 5 [(4, .int z.1.1), (3, .int z.1.2), (0, .ref (ad 0)), (1, .int v1), (2, .int v2)] → W p l e ({ frames := 1, cells := 0, slots := 0, locals := 24 }) s m ([.ref (ad 0), .int a0, .int a1] : List Value).toArray below meth c H locs 0 0 (MQ below (fl_QV (dC, dI) al_cl 14 (rf_sh ca ad) ad g1) ([.ref (ad 0), .int a0, .int a1] : List Value).toArray s 0 0 (fl_A 14 ad)) (F0 m 59 ls [])) → W p l e ({ frames := 1, cells := 0, slots := 0, locals := 24 }) s m ([.ref (ad 0), .int a0, .int a1] : List Value).toArray below meth c H locs 0 0 (MQ below (fl_QV (dC, dI) al_cl 14 (rf_sh ca ad) ad g1) ([.ref (ad 0), .int a0, .int a1] : List Value).toArray s 0 0 (fl_A 14 ad)) (F0 m 12 ls []) := by
    intro n
    clear h hP hS hl
    induction n with
    | zero => intro v4 v3 v1 v2 g z H locs ls h; cases h
    | succ n ih2 =>
      intro v4 v3 v1 v2 g z H locs ls h hP hS hl K2
      have h : fR_attach_B12 (fR_attach_L12 n) v4 v3 v1 v2 g = some z := h
      unfold fR_attach_B12 at h
      refine lv_iload hx hb dR_attach_12 (lv_at hl 0 rfl) ?_
      refine lv_iload_n hx hb dR_attach_14 rfl (lv_at hl 3 rfl) ?_
      replace h := fl_bd_some h
      obtain ⟨r3, g4, hc5, h⟩ := h
      refine fl_calli (va_runS (As := [.int v1]) (rest := [.int v4]) ⟨hx, hb, hml, hown, hts⟩ (cR_cells l dC dI ca ad hI v1 hc5) (kR_cells hts (hts _ gm_590) ⟨Nat.le_of_ble_eq_true rfl, Nat.le_of_ble_eq_true rfl⟩) (fl_preS hK hP hN) rfl rfl hl.1 rfl (lv_room (Nat.le_of_ble_eq_true rfl)) dR_attach_15 ⟨Nat.le_refl 0, Nat.le_refl 0⟩) hS (fun H locs hP hS => ?_)
      refine lv_icmp_ge (tgt := 59) hx hb dR_attach_18 (by decide) (fun c6 => ?_) (fun c6 => ?_)
      · replace h := fl_pos c6 h
        cases h
        exact K2 _ _ _ hP hS (lv_sub hl [0, 1, 2, 3, 4] rfl)
      · replace h := fl_neg c6 h
        refine lv_aload_n hx hb dR_attach_21 rfl (lv_at hl 2 rfl) ?_
        refine rf_get0 (v := .ref (ad 7)) hx hb hts rf_in0 hown hK hP (q := 0) rfl 7 (by decide) (hts _ gm_509) rfl dR_attach_22 ?_
        refine lv_bipush (v := 16) hx hb dR_attach_25 (by decide) ?_
        refine lv_iload_n hx hb dR_attach_27 rfl (lv_at hl 4 rfl) ?_
        refine lv_imul hx hb dR_attach_28 ?_
        refine lv_iload hx hb dR_attach_29 (lv_at hl 0 rfl) ?_
        refine lv_iadd hx hb dR_attach_31 ?_
        replace h := fl_ck_some h
        obtain ⟨hi7, h⟩ := h
        refine rf_iald hx hb hK hP (q := 7) rfl hi7 dR_attach_32 ?_
        refine lv_iconst (v := (-1)) hx hb dR_attach_33 (by decide) ?_
        refine lv_icmp_ne (tgt := 53) hx hb dR_attach_34 (by decide) (fun c8 => ?_) (fun c8 => ?_)
        · replace h := fl_neg c8 h
          refine lv_iinc (v := (v4 + 1)) (lv' := [(4, .int (v4 + 1)), (3, .int v3), (0, .ref (ad 0)), (1, .int v1), (2, .int v2)]) hx hb dR_attach_53 hl (k := 0) rfl rfl (by decide) rfl (fun ls hl => ?_)
          refine lv_goto (tgt := 12) hx hb dR_attach_56 (by decide) ?_
          exact ih2 (v4 + 1) v3 v1 v2 _ _ _ _ _ h hP hS (lv_sub hl [0, 1, 2, 3, 4] rfl) K2
        · replace h := fl_pos c8 h
          refine lv_aload_n hx hb dR_attach_37 rfl (lv_at hl 2 rfl) ?_
          refine rf_get0 (v := .ref (ad 11)) hx hb hts rf_in0 hown hK hP (q := 0) rfl 12 (by decide) (hts _ gm_514) rfl dR_attach_38 ?_
          refine lv_bipush (v := 16) hx hb dR_attach_41 (by decide) ?_
          refine lv_iload_n hx hb dR_attach_43 rfl (lv_at hl 3 rfl) ?_
          refine lv_imul hx hb dR_attach_44 ?_
          refine lv_iload_n hx hb dR_attach_45 rfl (lv_at hl 1 rfl) ?_
          refine lv_iadd hx hb dR_attach_46 ?_
          refine lv_iload hx hb dR_attach_47 (lv_at hl 0 rfl) ?_
          replace h := fl_ck_some h
          obtain ⟨hi9, h⟩ := h
          refine rf_iast hx hb hK hP hI hS (q := 11) rfl hi9 dR_attach_49 (fun H locs hP hS => ?_)
          have hP : va_P (dC, dI) al_cl (fl_ws 14 (rf_sh ca ad) ad (fl_up g4 11 (Int32.toNatClampNeg ((16 * v1) + v3)) v4)) H := hP
          refine lv_iinc (v := (v3 + 1)) (lv' := [(3, .int (v3 + 1)), (4, .int v4), (0, .ref (ad 0)), (1, .int v1), (2, .int v2)]) hx hb dR_attach_50 hl (k := 1) rfl rfl (by decide) rfl (fun ls hl => ?_)
          refine lv_iinc (v := (v4 + 1)) (lv' := [(4, .int (v4 + 1)), (3, .int (v3 + 1)), (0, .ref (ad 0)), (1, .int v1), (2, .int v2)]) hx hb dR_attach_53 hl (k := 1) rfl rfl (by decide) rfl (fun ls hl => ?_)
          refine lv_goto (tgt := 12) hx hb dR_attach_56 (by decide) ?_
          exact ih2 (v4 + 1) (v3 + 1) v1 v2 _ _ _ _ _ h hP hS (lv_sub hl [0, 1, 2, 3, 4] rfl) K2
  obtain ⟨r10, g11, hc12, h⟩ := fl_bd_some h
  refine loop2 1000 0 0 a0 a1 _ (r10, g11) _ _ _ hc12 hP hS (lv_sub hl [0, 1, 2, 3, 4] rfl) (fun H locs ls hP hS hl => ?_)
  have hP : va_P (dC, dI) al_cl (fl_ws 14 (rf_sh ca ad) ad g11) H := hP
  have hl : lv_has ls 5 [(4, .int r10.1), (3, .int r10.2), (0, .ref (ad 0)), (1, .int a0), (2, .int a1)] := hl
  refine lv_aload_n hx hb dR_attach_59 rfl (lv_at hl 2 rfl) ?_
  refine rf_get0 (v := .ref (ad 10)) hx hb hts rf_in0 hown hK hP (q := 0) rfl 11 (by decide) (hts _ gm_513) rfl dR_attach_60 ?_
  refine lv_iload_n hx hb dR_attach_63 rfl (lv_at hl 3 rfl) ?_
  refine lv_iload_n hx hb dR_attach_64 rfl (lv_at hl 1 rfl) ?_
  replace h := fl_ck_some h
  obtain ⟨hi13, h⟩ := h
  refine rf_iast hx hb hK hP hI hS (q := 10) rfl hi13 dR_attach_65 (fun H locs hP hS => ?_)
  have hP : va_P (dC, dI) al_cl (fl_ws 14 (rf_sh ca ad) ad (fl_up g11 10 (Int32.toNatClampNeg a0) r10.2)) H := hP
  refine lv_iload_n hx hb dR_attach_66 rfl (lv_at hl 1 rfl) ?_
  refine lv_iconst (v := 1) hx hb dR_attach_67 (by decide) ?_
  refine lv_isub hx hb dR_attach_68 ?_
  refine lv_istore (lv' := [(4, .int (r10.2 - 1)), (3, .int r10.2), (0, .ref (ad 0)), (1, .int a0), (2, .int a1)]) hx hb dR_attach_69 hl (by decide) rfl (fun ls hl => ?_)
  have loop14 : ∀ (n : Nat) (v4 : Int32) (v3 : Int32) (v1 : Int32) (v2 : Int32) (g : fl_G) (z : ((Int32) × fl_G)) (H : Heap) (locs : List Loc) (ls : Array Slot), fR_attach_L71 n v4 v3 v1 v2 g = some z → va_P (dC, dI) al_cl (fl_ws 14 (rf_sh ca ad) ad g) H → va_S (fl_A 14 ad) s.heap H locs → lv_has ls 5 [(4, .int v4), (3, .int v3), (0, .ref (ad 0)), (1, .int v1), (2, .int v2)] → (∀ (H : Heap) (locs : List Loc) (ls : Array Slot), va_P (dC, dI) al_cl (fl_ws 14 (rf_sh ca ad) ad z.2) H → va_S (fl_A 14 ad) s.heap H locs → lv_has ls 5 [(4, .int z.1), (3, .int v3), (0, .ref (ad 0)), (1, .int v1), (2, .int v2)] → W p l e ({ frames := 1, cells := 0, slots := 0, locals := 24 }) s m ([.ref (ad 0), .int a0, .int a1] : List Value).toArray below meth c H locs 0 0 (MQ below (fl_QV (dC, dI) al_cl 14 (rf_sh ca ad) ad g1) ([.ref (ad 0), .int a0, .int a1] : List Value).toArray s 0 0 (fl_A 14 ad)) (F0 m 98 ls [])) → W p l e ({ frames := 1, cells := 0, slots := 0, locals := 24 }) s m ([.ref (ad 0), .int a0, .int a1] : List Value).toArray below meth c H locs 0 0 (MQ below (fl_QV (dC, dI) al_cl 14 (rf_sh ca ad) ad g1) ([.ref (ad 0), .int a0, .int a1] : List Value).toArray s 0 0 (fl_A 14 ad)) (F0 m 71 ls []) := by
    intro n
    clear h hP hS hl
    induction n with
    | zero => intro v4 v3 v1 v2 g z H locs ls h; cases h
    | succ n ih14 =>
      intro v4 v3 v1 v2 g z H locs ls h hP hS hl K14
      have h : fR_attach_B71 (fR_attach_L71 n) v4 v3 v1 v2 g = some z := h
      unfold fR_attach_B71 at h
      refine lv_iload hx hb dR_attach_71 (lv_at hl 0 rfl) ?_
      refine lv_iconst (v := 1) hx hb dR_attach_73 (by decide) ?_
      refine lv_icmp_lt (tgt := 98) hx hb dR_attach_74 (by decide) (fun c15 => ?_) (fun c15 => ?_)
      · replace h := fl_pos c15 h
        cases h
        exact K14 _ _ _ hP hS (lv_sub hl [0, 1, 2, 3, 4] rfl)
      · replace h := fl_neg c15 h
        refine lv_aload_n hx hb dR_attach_77 rfl (lv_at hl 2 rfl) ?_
        refine lv_iload_n hx hb dR_attach_78 rfl (lv_at hl 3 rfl) ?_
        refine lv_iload hx hb dR_attach_79 (lv_at hl 0 rfl) ?_
        refine lv_aload_n hx hb dR_attach_81 rfl (lv_at hl 2 rfl) ?_
        refine lv_iload hx hb dR_attach_82 (lv_at hl 0 rfl) ?_
        refine lv_iconst (v := 1) hx hb dR_attach_84 (by decide) ?_
        refine lv_iadd hx hb dR_attach_85 ?_
        replace h := fl_bd_some h
        obtain ⟨r16, g17, hc18, h⟩ := h
        refine fl_calli (va_runV (As := [.int (v4 + 1)]) (rest := [.int v4, .int v1, .ref (ad 0)]) ⟨hx, hb, hml, hown, hts⟩ (cR_draw l dC dI ca ad hI (v4 + 1) hc18) (kR_draw hts (hts _ gm_599) ⟨Nat.le_of_ble_eq_true rfl, Nat.le_of_ble_eq_true rfl⟩) (fl_preV hK hP hN (rf_lt rfl (by decide)) (rf_sh0 rfl) rfl) rfl rfl hl.1 rfl (lv_room (Nat.le_of_ble_eq_true rfl)) dR_attach_86 ⟨Nat.le_refl 0, Nat.le_refl 0⟩) hS (fun H locs hP hS => ?_)
        replace h := fl_bd_some h
        obtain ⟨r19, g20, hc21, h⟩ := h
        refine fl_callv (va_runV (As := [.int v1, .int v4, .int r16]) (rest := []) ⟨hx, hb, hml, hown, hts⟩ (cR_swap l dC dI ca ad hI v1 v4 r16 hc21) (kR_swap hts (hts _ gm_604) ⟨Nat.le_of_ble_eq_true rfl, Nat.le_of_ble_eq_true rfl⟩) (fl_preV hK hP hN (rf_lt rfl (by decide)) (rf_sh0 rfl) rfl) rfl rfl hl.1 rfl (lv_room (Nat.le_of_ble_eq_true rfl)) dR_attach_89 ⟨Nat.le_refl 0, Nat.le_refl 0⟩) hS (fun H locs hP hS => ?_)
        refine lv_iinc (v := (v4 + (-1))) (lv' := [(4, .int (v4 + (-1))), (3, .int v3), (0, .ref (ad 0)), (1, .int v1), (2, .int v2)]) hx hb dR_attach_92 hl (k := 0) rfl rfl (by decide) rfl (fun ls hl => ?_)
        refine lv_goto (tgt := 71) hx hb dR_attach_95 (by decide) ?_
        exact ih14 (v4 + (-1)) v3 v1 v2 _ _ _ _ _ h hP hS (lv_sub hl [0, 1, 2, 3, 4] rfl) K14
  obtain ⟨r22, g23, hc24, h⟩ := fl_bd_some h
  refine loop14 1000 (r10.2 - 1) r10.2 a0 a1 _ (r22, g23) _ _ _ hc24 hP hS (lv_sub hl [0, 1, 2, 3, 4] rfl) (fun H locs ls hP hS hl => ?_)
  have hP : va_P (dC, dI) al_cl (fl_ws 14 (rf_sh ca ad) ad g23) H := hP
  have hl : lv_has ls 5 [(4, .int r22), (3, .int r10.2), (0, .ref (ad 0)), (1, .int a0), (2, .int a1)] := hl
  exact fl_vret hx hb hr hlocks hP hS h dR_attach_98
def yR_begin : MethodName := ⟨"MeshedSpansModel", "begin", "(II)V"⟩
def wR_begin : List Cond := .code yR_begin prog_8_method_15_code 5 none :: gw
theorem kR_begin {R : Room} {s : State} {args : Array Value} {own : String} {ix : Nat} (hts : ∀ w ∈ gw, w.before args s = true) (hl : (Cond.methodLink own ix yR_begin).before args s = true) (hR : 1 + 1 ≤ R.frames ∧ 8 + (5 + 11) + 24 ≤ R.locals) : CallW R s args own "MeshedSpansModel" ix yR_begin prog_8_method_15_code 5 none wR_begin { frames := 1, cells := 0, slots := 0, locals := 24 } 0 0 2 := ⟨callB_of (rm := { frames := 1, cells := 0, slots := 0, locals := 24 }) 2 hts (gw_c (ct := .code yR_begin prog_8_method_15_code 5 none) gm_595) rfl rfl rfl (hts _ gm_47) hl (by decide +kernel) hR, hts _ gm_594, hts _ gm_25⟩
theorem dR_begin_0 : decode prog_8_method_15_code 0 = .ok (.aload_n 0, 1) := by decide +kernel
theorem dR_begin_1 : decode prog_8_method_15_code 1 = .ok (.iconst 1, 1) := by decide +kernel
theorem dR_begin_2 : decode prog_8_method_15_code 2 = .ok (.invokevirtual 74, 3) := by decide +kernel
theorem dR_begin_5 : decode prog_8_method_15_code 5 = .ok (.istore_n 3, 1) := by decide +kernel
theorem dR_begin_6 : decode prog_8_method_15_code 6 = .ok (.aload_n 0, 1) := by decide +kernel
theorem dR_begin_7 : decode prog_8_method_15_code 7 = .ok (.getfield 7, 3) := by decide +kernel
theorem dR_begin_10 : decode prog_8_method_15_code 10 = .ok (.iload_n 2, 1) := by decide +kernel
theorem dR_begin_11 : decode prog_8_method_15_code 11 = .ok (.iconst 1, 1) := by decide +kernel
theorem dR_begin_12 : decode prog_8_method_15_code 12 = .ok (.iastore, 1) := by decide +kernel
theorem dR_begin_13 : decode prog_8_method_15_code 13 = .ok (.aload_n 0, 1) := by decide +kernel
theorem dR_begin_14 : decode prog_8_method_15_code 14 = .ok (.getfield 19, 3) := by decide +kernel
theorem dR_begin_17 : decode prog_8_method_15_code 17 = .ok (.iload_n 2, 1) := by decide +kernel
theorem dR_begin_18 : decode prog_8_method_15_code 18 = .ok (.aload_n 0, 1) := by decide +kernel
theorem dR_begin_19 : decode prog_8_method_15_code 19 = .ok (.getfield 77, 3) := by decide +kernel
theorem dR_begin_22 : decode prog_8_method_15_code 22 = .ok (.iastore, 1) := by decide +kernel
theorem dR_begin_23 : decode prog_8_method_15_code 23 = .ok (.aload_n 0, 1) := by decide +kernel
theorem dR_begin_24 : decode prog_8_method_15_code 24 = .ok (.dup, 1) := by decide +kernel
theorem dR_begin_25 : decode prog_8_method_15_code 25 = .ok (.getfield 77, 3) := by decide +kernel
theorem dR_begin_28 : decode prog_8_method_15_code 28 = .ok (.iconst 1, 1) := by decide +kernel
theorem dR_begin_29 : decode prog_8_method_15_code 29 = .ok (.iadd, 1) := by decide +kernel
theorem dR_begin_30 : decode prog_8_method_15_code 30 = .ok (.putfield 77, 3) := by decide +kernel
theorem dR_begin_33 : decode prog_8_method_15_code 33 = .ok (.aload_n 0, 1) := by decide +kernel
theorem dR_begin_34 : decode prog_8_method_15_code 34 = .ok (.getfield 22, 3) := by decide +kernel
theorem dR_begin_37 : decode prog_8_method_15_code 37 = .ok (.iload_n 2, 1) := by decide +kernel
theorem dR_begin_38 : decode prog_8_method_15_code 38 = .ok (.iload_n 1, 1) := by decide +kernel
theorem dR_begin_39 : decode prog_8_method_15_code 39 = .ok (.iastore, 1) := by decide +kernel
theorem dR_begin_40 : decode prog_8_method_15_code 40 = .ok (.aload_n 0, 1) := by decide +kernel
theorem dR_begin_41 : decode prog_8_method_15_code 41 = .ok (.getfield 25, 3) := by decide +kernel
theorem dR_begin_44 : decode prog_8_method_15_code 44 = .ok (.iload_n 2, 1) := by decide +kernel
theorem dR_begin_45 : decode prog_8_method_15_code 45 = .ok (.iload_n 3, 1) := by decide +kernel
theorem dR_begin_46 : decode prog_8_method_15_code 46 = .ok (.iastore, 1) := by decide +kernel
theorem dR_begin_47 : decode prog_8_method_15_code 47 = .ok (.aload_n 0, 1) := by decide +kernel
theorem dR_begin_48 : decode prog_8_method_15_code 48 = .ok (.getfield 16, 3) := by decide +kernel
theorem dR_begin_51 : decode prog_8_method_15_code 51 = .ok (.iload_n 3, 1) := by decide +kernel
theorem dR_begin_52 : decode prog_8_method_15_code 52 = .ok (.iload_n 2, 1) := by decide +kernel
theorem dR_begin_53 : decode prog_8_method_15_code 53 = .ok (.iastore, 1) := by decide +kernel
theorem dR_begin_54 : decode prog_8_method_15_code 54 = .ok (.iconst 0, 1) := by decide +kernel
theorem dR_begin_55 : decode prog_8_method_15_code 55 = .ok (.istore 4, 2) := by decide +kernel
theorem dR_begin_57 : decode prog_8_method_15_code 57 = .ok (.iload 4, 2) := by decide +kernel
theorem dR_begin_59 : decode prog_8_method_15_code 59 = .ok (.bipush 16, 2) := by decide +kernel
theorem dR_begin_61 : decode prog_8_method_15_code 61 = .ok (.if_icmp .ge 22, 3) := by decide +kernel
theorem dR_begin_64 : decode prog_8_method_15_code 64 = .ok (.aload_n 0, 1) := by decide +kernel
theorem dR_begin_65 : decode prog_8_method_15_code 65 = .ok (.getfield 28, 3) := by decide +kernel
theorem dR_begin_68 : decode prog_8_method_15_code 68 = .ok (.bipush 16, 2) := by decide +kernel
theorem dR_begin_70 : decode prog_8_method_15_code 70 = .ok (.iload_n 2, 1) := by decide +kernel
theorem dR_begin_71 : decode prog_8_method_15_code 71 = .ok (.imul, 1) := by decide +kernel
theorem dR_begin_72 : decode prog_8_method_15_code 72 = .ok (.iload 4, 2) := by decide +kernel
theorem dR_begin_74 : decode prog_8_method_15_code 74 = .ok (.iadd, 1) := by decide +kernel
theorem dR_begin_75 : decode prog_8_method_15_code 75 = .ok (.iconst (-1), 1) := by decide +kernel
theorem dR_begin_76 : decode prog_8_method_15_code 76 = .ok (.iastore, 1) := by decide +kernel
theorem dR_begin_77 : decode prog_8_method_15_code 77 = .ok (.iinc 4 1, 3) := by decide +kernel
theorem dR_begin_80 : decode prog_8_method_15_code 80 = .ok (.goto (-23), 3) := by decide +kernel
theorem dR_begin_83 : decode prog_8_method_15_code 83 = .ok (.aload_n 0, 1) := by decide +kernel
theorem dR_begin_84 : decode prog_8_method_15_code 84 = .ok (.bipush 16, 2) := by decide +kernel
theorem dR_begin_86 : decode prog_8_method_15_code 86 = .ok (.iload_n 2, 1) := by decide +kernel
theorem dR_begin_87 : decode prog_8_method_15_code 87 = .ok (.imul, 1) := by decide +kernel
theorem dR_begin_88 : decode prog_8_method_15_code 88 = .ok (.bipush 16, 2) := by decide +kernel
theorem dR_begin_90 : decode prog_8_method_15_code 90 = .ok (.invokevirtual 80, 3) := by decide +kernel
theorem dR_begin_93 : decode prog_8_method_15_code 93 = .ok (.return_, 1) := by decide +kernel
def fR_begin_B57 (rec : Int32 → Int32 → Int32 → Int32 → fl_G → Option ((Int32) × fl_G)) (v4 : Int32) (v3 : Int32) (v1 : Int32) (v2 : Int32) (g : fl_G) : Option ((Int32) × fl_G) :=
  if 16 ≤ v4 then (some (v4, g)) else (fl_ck (fl_in ((16 * v2) + v4) 192) (rec (v4 + 1) v3 v1 v2 (fl_up g 7 (Int32.toNatClampNeg ((16 * v2) + v4)) (-1))))
def fR_begin_L57 : Nat → Int32 → Int32 → Int32 → Int32 → fl_G → Option ((Int32) × fl_G)
  | 0, _, _, _, _, _ => none
  | n + 1, v4, v3, v1, v2, g => fR_begin_B57 (fR_begin_L57 n) v4 v3 v1 v2 g
def fR_begin (a0 : Int32) (a1 : Int32) (g : fl_G) : Option (Unit × fl_G) :=
  fl_bd (fR_freeVirtual 1 g) (fun r1 g2 => fl_ck (fl_in a1 12) (fl_ck (fl_in a1 12) (fl_ck (fl_in a1 12) (fl_ck (fl_in a1 12) (fl_ck (fl_in r1 24) (fl_bd (fR_begin_L57 1000 0 r1 a0 a1 (fl_up (fl_up (fl_up (fl_up (fl_up (fl_up g2 1 (Int32.toNatClampNeg a1) 1) 4 (Int32.toNatClampNeg a1) ((fl_up g2 1 (Int32.toNatClampNeg a1) 1) 0 9)) 0 9 (((fl_up (fl_up g2 1 (Int32.toNatClampNeg a1) 1) 4 (Int32.toNatClampNeg a1) ((fl_up g2 1 (Int32.toNatClampNeg a1) 1) 0 9)) 0 9) + 1)) 5 (Int32.toNatClampNeg a1) a0) 6 (Int32.toNatClampNeg a1) r1) 3 (Int32.toNatClampNeg r1) a1)) (fun r12 g13 => fl_bd (fR_zero (16 * a1) 16 g13) (fun r15 g16 => some ((), g16)))))))))
set_option maxHeartbeats 4000000 in
set_option maxRecDepth 100000 in
theorem cR_begin (l : Launch) (dC : Nat → ClassId) (dI : Nat → Nat → Nat) (ca : Nat → ClassId) (ad : Nat → Nat) (hI : fl_inj 14 ad) (a0 : Int32) (a1 : Int32) {g g1 : fl_G} {r : Unit} (h : fR_begin a0 a1 g = some (r, g1)) : Met l yR_begin wR_begin ({ frames := 1, cells := 0, slots := 0, locals := 24 }) (va_Pc [.ref (ad 0), .int a0, .int a1] (fl_Pre (dC, dI) al_cl 14 (rf_sh ca ad) ad (rf_ty ca) rf_ns g)) (fl_QV (dC, dI) al_cl 14 (rf_sh ca ad) ad g1) 0 0 (fl_A 14 ad) := by
  refine fl_of (cc := prog_8_method_15_code) (maxL := 5) (ret := none) (by decide) rfl (Nat.le_of_ble_eq_true rfl) ?_
  intro p e s m below meth c ls hx hb hr hml hts hown hlocks hP hK hN hl
  have hown : s.vm.findClass "MeshedSpansModel" = some m.cls := hown
  have hS : va_S (fl_A 14 ad) s.heap s.heap [] := va_S.rf
  have hl : lv_has ls 5 [(0, .ref (ad 0)), (1, .int a0), (2, .int a1)] := hl
  unfold fR_begin at h
  refine lv_aload_n hx hb dR_begin_0 rfl (lv_at hl 0 rfl) ?_
  refine lv_iconst (v := 1) hx hb dR_begin_1 (by decide) ?_
  replace h := fl_bd_some h
  obtain ⟨r1, g2, hc3, h⟩ := h
  refine fl_calli (va_runV (As := [.int 1]) (rest := []) ⟨hx, hb, hml, hown, hts⟩ (cR_freeVirtual l dC dI ca ad hI 1 hc3) (kR_freeVirtual hts (hts _ gm_565) ⟨Nat.le_of_ble_eq_true rfl, Nat.le_of_ble_eq_true rfl⟩) (fl_preV hK hP hN (rf_lt rfl (by decide)) (rf_sh0 rfl) rfl) rfl rfl hl.1 rfl (lv_room (Nat.le_of_ble_eq_true rfl)) dR_begin_2 ⟨Nat.le_refl 0, Nat.le_refl 0⟩) hS (fun H locs hP hS => ?_)
  refine lv_istore_n (lv' := [(3, .int r1), (0, .ref (ad 0)), (1, .int a0), (2, .int a1)]) hx hb dR_begin_5 rfl hl (by decide) rfl (fun ls hl => ?_)
  refine lv_aload_n hx hb dR_begin_6 rfl (lv_at hl 1 rfl) ?_
  refine rf_get0 (v := .ref (ad 1)) hx hb hts rf_in0 hown hK hP (q := 0) rfl 1 (by decide) (hts _ gm_503) rfl dR_begin_7 ?_
  refine lv_iload_n hx hb dR_begin_10 rfl (lv_at hl 3 rfl) ?_
  refine lv_iconst (v := 1) hx hb dR_begin_11 (by decide) ?_
  replace h := fl_ck_some h
  obtain ⟨hi4, h⟩ := h
  refine rf_iast hx hb hK hP hI hS (q := 1) rfl hi4 dR_begin_12 (fun H locs hP hS => ?_)
  have hP : va_P (dC, dI) al_cl (fl_ws 14 (rf_sh ca ad) ad (fl_up g2 1 (Int32.toNatClampNeg a1) 1)) H := hP
  refine lv_aload_n hx hb dR_begin_13 rfl (lv_at hl 1 rfl) ?_
  refine rf_get0 (v := .ref (ad 4)) hx hb hts rf_in0 hown hK hP (q := 0) rfl 4 (by decide) (hts _ gm_506) rfl dR_begin_14 ?_
  refine lv_iload_n hx hb dR_begin_17 rfl (lv_at hl 3 rfl) ?_
  refine lv_aload_n hx hb dR_begin_18 rfl (lv_at hl 1 rfl) ?_
  refine rf_get0 (v := .int ((fl_up g2 1 (Int32.toNatClampNeg a1) 1) 0 9)) hx hb hts rf_in0 hown hK hP (q := 0) rfl 9 (by decide) (hts _ gm_511) rfl dR_begin_19 ?_
  replace h := fl_ck_some h
  obtain ⟨hi5, h⟩ := h
  refine rf_iast hx hb hK hP hI hS (q := 4) rfl hi5 dR_begin_22 (fun H locs hP hS => ?_)
  have hP : va_P (dC, dI) al_cl (fl_ws 14 (rf_sh ca ad) ad (fl_up (fl_up g2 1 (Int32.toNatClampNeg a1) 1) 4 (Int32.toNatClampNeg a1) ((fl_up g2 1 (Int32.toNatClampNeg a1) 1) 0 9))) H := hP
  refine lv_aload_n hx hb dR_begin_23 rfl (lv_at hl 1 rfl) ?_
  refine lv_dup hx hb dR_begin_24 rfl ?_
  refine rf_get0 (v := .int ((fl_up (fl_up g2 1 (Int32.toNatClampNeg a1) 1) 4 (Int32.toNatClampNeg a1) ((fl_up g2 1 (Int32.toNatClampNeg a1) 1) 0 9)) 0 9)) hx hb hts rf_in0 hown hK hP (q := 0) rfl 9 (by decide) (hts _ gm_511) rfl dR_begin_25 ?_
  refine lv_iconst (v := 1) hx hb dR_begin_28 (by decide) ?_
  refine lv_iadd hx hb dR_begin_29 ?_
  refine rf_put0 (iv := (((fl_up (fl_up g2 1 (Int32.toNatClampNeg a1) 1) 4 (Int32.toNatClampNeg a1) ((fl_up g2 1 (Int32.toNatClampNeg a1) 1) 0 9)) 0 9) + 1)) hx hb hts rf_in0 hown hK hP hI hS (q := 0) rfl 9 (by decide) (hts _ gm_511) rfl rfl rfl dR_begin_30 (fun H locs hP hS => ?_)
  have hP : va_P (dC, dI) al_cl (fl_ws 14 (rf_sh ca ad) ad (fl_up (fl_up (fl_up g2 1 (Int32.toNatClampNeg a1) 1) 4 (Int32.toNatClampNeg a1) ((fl_up g2 1 (Int32.toNatClampNeg a1) 1) 0 9)) 0 9 (((fl_up (fl_up g2 1 (Int32.toNatClampNeg a1) 1) 4 (Int32.toNatClampNeg a1) ((fl_up g2 1 (Int32.toNatClampNeg a1) 1) 0 9)) 0 9) + 1))) H := hP
  refine lv_aload_n hx hb dR_begin_33 rfl (lv_at hl 1 rfl) ?_
  refine rf_get0 (v := .ref (ad 5)) hx hb hts rf_in0 hown hK hP (q := 0) rfl 5 (by decide) (hts _ gm_507) rfl dR_begin_34 ?_
  refine lv_iload_n hx hb dR_begin_37 rfl (lv_at hl 3 rfl) ?_
  refine lv_iload_n hx hb dR_begin_38 rfl (lv_at hl 2 rfl) ?_
  replace h := fl_ck_some h
  obtain ⟨hi6, h⟩ := h
  refine rf_iast hx hb hK hP hI hS (q := 5) rfl hi6 dR_begin_39 (fun H locs hP hS => ?_)
  have hP : va_P (dC, dI) al_cl (fl_ws 14 (rf_sh ca ad) ad (fl_up (fl_up (fl_up (fl_up g2 1 (Int32.toNatClampNeg a1) 1) 4 (Int32.toNatClampNeg a1) ((fl_up g2 1 (Int32.toNatClampNeg a1) 1) 0 9)) 0 9 (((fl_up (fl_up g2 1 (Int32.toNatClampNeg a1) 1) 4 (Int32.toNatClampNeg a1) ((fl_up g2 1 (Int32.toNatClampNeg a1) 1) 0 9)) 0 9) + 1)) 5 (Int32.toNatClampNeg a1) a0)) H := hP
  refine lv_aload_n hx hb dR_begin_40 rfl (lv_at hl 1 rfl) ?_
  refine rf_get0 (v := .ref (ad 6)) hx hb hts rf_in0 hown hK hP (q := 0) rfl 6 (by decide) (hts _ gm_508) rfl dR_begin_41 ?_
  refine lv_iload_n hx hb dR_begin_44 rfl (lv_at hl 3 rfl) ?_
  refine lv_iload_n hx hb dR_begin_45 rfl (lv_at hl 0 rfl) ?_
  replace h := fl_ck_some h
  obtain ⟨hi7, h⟩ := h
  refine rf_iast hx hb hK hP hI hS (q := 6) rfl hi7 dR_begin_46 (fun H locs hP hS => ?_)
  have hP : va_P (dC, dI) al_cl (fl_ws 14 (rf_sh ca ad) ad (fl_up (fl_up (fl_up (fl_up (fl_up g2 1 (Int32.toNatClampNeg a1) 1) 4 (Int32.toNatClampNeg a1) ((fl_up g2 1 (Int32.toNatClampNeg a1) 1) 0 9)) 0 9 (((fl_up (fl_up g2 1 (Int32.toNatClampNeg a1) 1) 4 (Int32.toNatClampNeg a1) ((fl_up g2 1 (Int32.toNatClampNeg a1) 1) 0 9)) 0 9) + 1)) 5 (Int32.toNatClampNeg a1) a0) 6 (Int32.toNatClampNeg a1) r1)) H := hP
  refine lv_aload_n hx hb dR_begin_47 rfl (lv_at hl 1 rfl) ?_
  refine rf_get0 (v := .ref (ad 3)) hx hb hts rf_in0 hown hK hP (q := 0) rfl 3 (by decide) (hts _ gm_505) rfl dR_begin_48 ?_
  refine lv_iload_n hx hb dR_begin_51 rfl (lv_at hl 0 rfl) ?_
  refine lv_iload_n hx hb dR_begin_52 rfl (lv_at hl 3 rfl) ?_
  replace h := fl_ck_some h
  obtain ⟨hi8, h⟩ := h
  refine rf_iast hx hb hK hP hI hS (q := 3) rfl hi8 dR_begin_53 (fun H locs hP hS => ?_)
  have hP : va_P (dC, dI) al_cl (fl_ws 14 (rf_sh ca ad) ad (fl_up (fl_up (fl_up (fl_up (fl_up (fl_up g2 1 (Int32.toNatClampNeg a1) 1) 4 (Int32.toNatClampNeg a1) ((fl_up g2 1 (Int32.toNatClampNeg a1) 1) 0 9)) 0 9 (((fl_up (fl_up g2 1 (Int32.toNatClampNeg a1) 1) 4 (Int32.toNatClampNeg a1) ((fl_up g2 1 (Int32.toNatClampNeg a1) 1) 0 9)) 0 9) + 1)) 5 (Int32.toNatClampNeg a1) a0) 6 (Int32.toNatClampNeg a1) r1) 3 (Int32.toNatClampNeg r1) a1)) H := hP
  refine lv_iconst (v := 0) hx hb dR_begin_54 (by decide) ?_
  refine lv_istore (lv' := [(4, .int 0), (3, .int r1), (0, .ref (ad 0)), (1, .int a0), (2, .int a1)]) hx hb dR_begin_55 hl (by decide) rfl (fun ls hl => ?_)
  have loop9 : ∀ (n : Nat) (v4 : Int32) (v3 : Int32) (v1 : Int32) (v2 : Int32) (g : fl_G) (z : ((Int32) × fl_G)) (H : Heap) (locs : List Loc) (ls : Array Slot), fR_begin_L57 n v4 v3 v1 v2 g = some z → va_P (dC, dI) al_cl (fl_ws 14 (rf_sh ca ad) ad g) H → va_S (fl_A 14 ad) s.heap H locs → lv_has ls 5 [(4, .int v4), (3, .int v3), (0, .ref (ad 0)), (1, .int v1), (2, .int v2)] → (∀ (H : Heap) (locs : List Loc) (ls : Array Slot), va_P (dC, dI) al_cl (fl_ws 14 (rf_sh ca ad) ad z.2) H → va_S (fl_A 14 ad) s.heap H locs → lv_has ls 5 [(4, .int z.1), (3, .int v3), (0, .ref (ad 0)), (1, .int v1), (2, .int v2)] → W p l e ({ frames := 1, cells := 0, slots := 0, locals := 24 }) s m ([.ref (ad 0), .int a0, .int a1] : List Value).toArray below meth c H locs 0 0 (MQ below (fl_QV (dC, dI) al_cl 14 (rf_sh ca ad) ad g1) ([.ref (ad 0), .int a0, .int a1] : List Value).toArray s 0 0 (fl_A 14 ad)) (F0 m 83 ls [])) → W p l e ({ frames := 1, cells := 0, slots := 0, locals := 24 }) s m ([.ref (ad 0), .int a0, .int a1] : List Value).toArray below meth c H locs 0 0 (MQ below (fl_QV (dC, dI) al_cl 14 (rf_sh ca ad) ad g1) ([.ref (ad 0), .int a0, .int a1] : List Value).toArray s 0 0 (fl_A 14 ad)) (F0 m 57 ls []) := by
    intro n
    clear h hP hS hl
    induction n with
    | zero => intro v4 v3 v1 v2 g z H locs ls h; cases h
    | succ n ih9 =>
      intro v4 v3 v1 v2 g z H locs ls h hP hS hl K9
      have h : fR_begin_B57 (fR_begin_L57 n) v4 v3 v1 v2 g = some z := h
      unfold fR_begin_B57 at h
      refine lv_iload hx hb dR_begin_57 (lv_at hl 0 rfl) ?_
      refine lv_bipush (v := 16) hx hb dR_begin_59 (by decide) ?_
      refine lv_icmp_ge (tgt := 83) hx hb dR_begin_61 (by decide) (fun c10 => ?_) (fun c10 => ?_)
      · replace h := fl_pos c10 h
        cases h
        exact K9 _ _ _ hP hS (lv_sub hl [0, 1, 2, 3, 4] rfl)
      · replace h := fl_neg c10 h
        refine lv_aload_n hx hb dR_begin_64 rfl (lv_at hl 2 rfl) ?_
        refine rf_get0 (v := .ref (ad 7)) hx hb hts rf_in0 hown hK hP (q := 0) rfl 7 (by decide) (hts _ gm_509) rfl dR_begin_65 ?_
        refine lv_bipush (v := 16) hx hb dR_begin_68 (by decide) ?_
        refine lv_iload_n hx hb dR_begin_70 rfl (lv_at hl 4 rfl) ?_
        refine lv_imul hx hb dR_begin_71 ?_
        refine lv_iload hx hb dR_begin_72 (lv_at hl 0 rfl) ?_
        refine lv_iadd hx hb dR_begin_74 ?_
        refine lv_iconst (v := (-1)) hx hb dR_begin_75 (by decide) ?_
        replace h := fl_ck_some h
        obtain ⟨hi11, h⟩ := h
        refine rf_iast hx hb hK hP hI hS (q := 7) rfl hi11 dR_begin_76 (fun H locs hP hS => ?_)
        have hP : va_P (dC, dI) al_cl (fl_ws 14 (rf_sh ca ad) ad (fl_up g 7 (Int32.toNatClampNeg ((16 * v2) + v4)) (-1))) H := hP
        refine lv_iinc (v := (v4 + 1)) (lv' := [(4, .int (v4 + 1)), (3, .int v3), (0, .ref (ad 0)), (1, .int v1), (2, .int v2)]) hx hb dR_begin_77 hl (k := 0) rfl rfl (by decide) rfl (fun ls hl => ?_)
        refine lv_goto (tgt := 57) hx hb dR_begin_80 (by decide) ?_
        exact ih9 (v4 + 1) v3 v1 v2 _ _ _ _ _ h hP hS (lv_sub hl [0, 1, 2, 3, 4] rfl) K9
  obtain ⟨r12, g13, hc14, h⟩ := fl_bd_some h
  refine loop9 1000 0 r1 a0 a1 _ (r12, g13) _ _ _ hc14 hP hS (lv_sub hl [0, 1, 2, 3, 4] rfl) (fun H locs ls hP hS hl => ?_)
  have hP : va_P (dC, dI) al_cl (fl_ws 14 (rf_sh ca ad) ad g13) H := hP
  have hl : lv_has ls 5 [(4, .int r12), (3, .int r1), (0, .ref (ad 0)), (1, .int a0), (2, .int a1)] := hl
  refine lv_aload_n hx hb dR_begin_83 rfl (lv_at hl 2 rfl) ?_
  refine lv_bipush (v := 16) hx hb dR_begin_84 (by decide) ?_
  refine lv_iload_n hx hb dR_begin_86 rfl (lv_at hl 4 rfl) ?_
  refine lv_imul hx hb dR_begin_87 ?_
  refine lv_bipush (v := 16) hx hb dR_begin_88 (by decide) ?_
  replace h := fl_bd_some h
  obtain ⟨r15, g16, hc17, h⟩ := h
  refine fl_callv (va_runV (As := [.int (16 * a1), .int 16]) (rest := []) ⟨hx, hb, hml, hown, hts⟩ (cR_zero l dC dI ca ad hI (16 * a1) 16 hc17) (kR_zero hts (hts _ gm_575) ⟨Nat.le_of_ble_eq_true rfl, Nat.le_of_ble_eq_true rfl⟩) (fl_preV hK hP hN (rf_lt rfl (by decide)) (rf_sh0 rfl) rfl) rfl rfl hl.1 rfl (lv_room (Nat.le_of_ble_eq_true rfl)) dR_begin_90 ⟨Nat.le_refl 0, Nat.le_refl 0⟩) hS (fun H locs hP hS => ?_)
  exact fl_vret hx hb hr hlocks hP hS h dR_begin_93
