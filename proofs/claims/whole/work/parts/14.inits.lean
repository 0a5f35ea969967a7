theorem vp_in_lit {i : Int32} {n : Nat} (h : fl_in i n) : vp_in i n := h.vp
theorem mc_df0 : ∀ j, j < 8 → defaultValue (mc_t0 j) = vp_V [.null, .null, .null, .null, .null, .null, .int 0, .int 0] j := by
  intro j hj
  rcases (show j = 0 ∨ j = 1 ∨ j = 2 ∨ j = 3 ∨ j = 4 ∨ j = 5 ∨ j = 6 ∨ j = 7 by omega) with rfl | rfl | rfl | rfl | rfl | rfl | rfl | rfl <;> rfl
theorem mc_df1 : ∀ j, j < 1 → defaultValue (mc_t1 j) = vp_V [.int 0] j := by
  intro j hj
  rcases (show j = 0 by omega) with rfl <;> rfl
theorem mc_df2 : ∀ j, j < 3 → defaultValue (mc_t2 j) = vp_V [.null, .null, .null] j := by
  intro j hj
  rcases (show j = 0 ∨ j = 1 ∨ j = 2 by omega) with rfl | rfl | rfl <;> rfl
theorem mc_df3 : ∀ j, j < 3 → defaultValue (mc_t3 j) = vp_V [.null, .null, .int 0] j := by
  intro j hj
  rcases (show j = 0 ∨ j = 1 ∨ j = 2 by omega) with rfl | rfl | rfl <;> rfl
theorem mc_df4 : ∀ j, j < 5 → defaultValue (mc_t4 j) = vp_V [.int 0, .int 0, .int 0, .int 0, .int 0] j := by
  intro j hj
  rcases (show j = 0 ∨ j = 1 ∨ j = 2 ∨ j = 3 ∨ j = 4 by omega) with rfl | rfl | rfl | rfl | rfl <;> rfl
theorem mc_df5 : ∀ j, j < 3 → defaultValue (mc_t5 j) = vp_V [.null, .null, .int 0] j := by
  intro j hj
  rcases (show j = 0 ∨ j = 1 ∨ j = 2 by omega) with rfl | rfl | rfl <;> rfl
def mc_f24 : Nat → Int32 := upd (upd (upd (upd (upd (upd (upd (upd (upd (upd (upd (upd (upd (upd (upd (upd (upd (upd (upd (upd (upd (upd (upd (upd (fun _ => 0) (Int32.toNatClampNeg 0) (-1)) (Int32.toNatClampNeg 1) (-1)) (Int32.toNatClampNeg 2) (-1)) (Int32.toNatClampNeg 3) (-1)) (Int32.toNatClampNeg 4) (-1)) (Int32.toNatClampNeg 5) (-1)) (Int32.toNatClampNeg 6) (-1)) (Int32.toNatClampNeg 7) (-1)) (Int32.toNatClampNeg 8) (-1)) (Int32.toNatClampNeg 9) (-1)) (Int32.toNatClampNeg 10) (-1)) (Int32.toNatClampNeg 11) (-1)) (Int32.toNatClampNeg 12) (-1)) (Int32.toNatClampNeg 13) (-1)) (Int32.toNatClampNeg 14) (-1)) (Int32.toNatClampNeg 15) (-1)) (Int32.toNatClampNeg 16) (-1)) (Int32.toNatClampNeg 17) (-1)) (Int32.toNatClampNeg 18) (-1)) (Int32.toNatClampNeg 19) (-1)) (Int32.toNatClampNeg 20) (-1)) (Int32.toNatClampNeg 21) (-1)) (Int32.toNatClampNeg 22) (-1)) (Int32.toNatClampNeg 23) (-1)
def mc_g0 (seed : Int32) : fl_G := fun q => ([fun _ => 0, fun _ => seed, fun _ => 0, fun _ => 0, mc_f24, fun _ => 0, fun _ => 0, fun _ => 0, fun _ => 0, fun _ => 0, upd (fun _ => -1) 4 0, upd (fun _ => -1) 4 0, upd (fun _ => -1) 4 0, upd (fun _ => -1) 4 0, upd (fun _ => -1) 4 0, upd (fun _ => -1) 4 0, upd (fun _ => -1) 4 0, upd (fun _ => -1) 4 0, upd (fun _ => -1) 4 0, upd (fun _ => -1) 4 0, upd (fun _ => -1) 4 0, upd (fun _ => -1) 4 0, fun _ => 0, upd (fun _ => 0) 0 (-1), fun _ => 0, upd (fun _ => 0) 0 (-1), fun _ => 0, upd (fun _ => 0) 0 (-1), fun _ => 0, upd (fun _ => 0) 0 (-1), fun _ => 0, fun _ => 0] : List (Nat → Int32)).getD q (fun _ => 0)
theorem dD_init_0 : decode prog_4_method_1_code 0 = .ok (.aload_n 0, 1) := by decide +kernel
theorem dD_init_1 : decode prog_4_method_1_code 1 = .ok (.invokespecial 1, 3) := by decide +kernel
theorem dD_init_4 : decode prog_4_method_1_code 4 = .ok (.aload_n 0, 1) := by decide +kernel
theorem dD_init_5 : decode prog_4_method_1_code 5 = .ok (.iload_n 1, 1) := by decide +kernel
theorem dD_init_6 : decode prog_4_method_1_code 6 = .ok (.putfield 7, 3) := by decide +kernel
theorem dD_init_9 : decode prog_4_method_1_code 9 = .ok (.return_, 1) := by decide +kernel
def yD_init : MethodName := ⟨"MeshedSpans$Draws", "<init>", "(I)V"⟩
def wD_init : List Cond := .code yD_init prog_4_method_1_code 2 none :: gw
theorem kD_init {R : Room} {s : State} {args : Array Value} {own : String} {ix : Nat} (hts : ∀ w ∈ gw, w.before args s = true) (hl : (Cond.methodLink own ix yD_init).before args s = true) (hR : 1 + 1 ≤ R.frames ∧ 8 + (2 + 11) + 14 ≤ R.locals) : CallB R s args own ix yD_init prog_4_method_1_code 2 none wD_init ({ frames := 1, cells := 0, slots := 0, locals := 14 }) 0 0 1 ∧ yD_init.name = "<init>" ∧ (Cond.instanceMethod yD_init).before args s = true := ⟨callB_of (rm := { frames := 1, cells := 0, slots := 0, locals := 14 }) 1 hts (gw_c (ct := .code yD_init prog_4_method_1_code 2 none) gm_62) rfl rfl rfl (hts _ gm_42) hl (by decide +kernel) hR, rfl, hts _ gm_61⟩
set_option maxHeartbeats 8000000 in
set_option maxRecDepth 100000 in
theorem cD_init (l : Launch) (dC : Nat → ClassId) (dI : Nat → Nat → Nat) (h0 sz : Nat) (a0 : Int32) : Met l yD_init wD_init ({ frames := 1, cells := 0, slots := 0, locals := 14 }) (va_Pc [.ref h0, .int a0] (fun U => U.heap.size = sz ∧ va_P (dC, dI) al_cl [(h0, .inr (1, [.int 0]))] U.heap ∧ va_K (dC, dI) al_cl [] U ∧ va_D (fun _ => True) [(h0, .inr (1, [.int 0]))])) (va_Qv (fun _ : Unit => True) (fun (_ : Unit) (t : State) => va_P (dC, dI) al_cl [(h0, .inr (1, [.int a0]))] t.heap ∧ va_K (dC, dI) al_cl [] t ∧ va_D (va_A [(h0, .inr (1, [.int 0]))] sz) [(h0, .inr (1, [.int a0]))]) (va_A [(h0, .inr (1, [.int 0]))] sz)) 0 0 (va_A [(h0, .inr (1, [.int 0]))] sz) := by
  refine Met.ofW (cc := prog_4_method_1_code) (maxL := 2) (ret := none) (by decide) rfl ?_
  intro p e s m args below meth c s₁ B hml hv
  obtain ⟨rfl, hsz, hP, hK, hD0⟩ := hv
  have hx := B.exec
  have hb := B.bytes
  have hr := B.returns
  have hts0 := atoms_spec (ws := wD_init) B.pre
  have hts : ∀ w ∈ gw, w.before _ s = true := fun w hw => hts0 w (List.mem_cons_of_mem _ hw)
  have hown : s.vm.findClass "MeshedSpans$Draws" = some m.cls := findClass_of_methodNamed B.named
  have hlocks := B.notSynchronized
  have hin : meth.name = "<init>" := (name_of_methodNamed B.named B.method).1
  subst hsz
  have hD := hD0.self (sz := s.heap.size)
  obtain ⟨A, hAe⟩ : ∃ A, va_A [(h0, .inr (1, [.int 0]))] s.heap.size = A := ⟨_, rfl⟩
  rw [hAe] at hD
  have hA : ∀ q : Nat, s.heap.size ≤ q → A q := fun q h => by rw [← hAe]; exact Or.inr h
  have hS : va_S A s.heap s.heap [] := va_S.rf
  have hl := lv_entry ([.ref h0, .int a0]) (n := 2) (Nat.le_of_ble_eq_true rfl)
  rw [lg_entry_eq]
  generalize (lg_sl ([.ref h0, .int a0]) ++ List.replicate (2 - (lg_sl ([.ref h0, .int a0])).length) Slot.unset).toArray = ls at hl ⊢
  have hl : lv_has ls 2 [(0, .ref h0), (1, .int a0)] := hl
  refine lv_aload_n hx hb dD_init_0 rfl (lv_at hl 0 rfl) ?_
  refine W.objInit hx hb hown (hts _ gm_63) (hts _ gm_56) (hts _ gm_57) rfl (by rw [hml]; exact hl.1) rfl dD_init_1 (Nat.le_of_ble_eq_true rfl) (Nat.le_of_ble_eq_true rfl) ?_
  refine W.eq (g2 := F0 m 4 ls []) rfl ?_
  refine lv_aload_n hx hb dD_init_4 rfl (lv_at hl 0 rfl) ?_
  refine lv_iload_n hx hb dD_init_5 rfl (lv_at hl 1 rfl) ?_
  refine va_put (D := (dC, dI)) (ci := 1) (v := .int a0) (ty := .int) (C := "MeshedSpans$Draws") (T := mc_T1) (N := 1) hx hb hts mc_in1 mc_t1 mc_tok1 mc_nm1 hown hK hP hD hS 0 rfl rfl 0 (by decide) (hts _ gm_64) (fun _ h9 => h9) rfl (by decide +kernel) rfl rfl (Nat.le_of_ble_eq_true rfl) dD_init_6 (fun H locs hP hD hS => ?_)
  have hP : va_P (dC, dI) al_cl [(h0, .inr (1, [.int a0]))] H := hP
  have hD : va_D A [(h0, .inr (1, [.int a0]))] := hD
  exact W.vret hx hb hr (fun t ht hW => ⟨⟨(), rfl, trivial, by rw [ht]; exact hP, va_K.moved hW.alike hK, by rw [hAe]; exact hD⟩, by rw [hAe]; exact hS.F ht⟩) (by rw [hAe]; exact hS.2.2) dD_init_9
theorem dM_init_0 : decode prog_5_method_1_code 0 = .ok (.aload_n 0, 1) := by decide +kernel
theorem dM_init_1 : decode prog_5_method_1_code 1 = .ok (.invokespecial 3, 3) := by decide +kernel
theorem dM_init_4 : decode prog_5_method_1_code 4 = .ok (.aload_n 0, 1) := by decide +kernel
theorem dM_init_5 : decode prog_5_method_1_code 5 = .ok (.iload_n 1, 1) := by decide +kernel
theorem dM_init_6 : decode prog_5_method_1_code 6 = .ok (.putfield 9, 3) := by decide +kernel
theorem dM_init_9 : decode prog_5_method_1_code 9 = .ok (.aload_n 0, 1) := by decide +kernel
theorem dM_init_10 : decode prog_5_method_1_code 10 = .ok (.iconst (-1), 1) := by decide +kernel
theorem dM_init_11 : decode prog_5_method_1_code 11 = .ok (.putfield 15, 3) := by decide +kernel
theorem dM_init_14 : decode prog_5_method_1_code 14 = .ok (.aload_n 0, 1) := by decide +kernel
theorem dM_init_15 : decode prog_5_method_1_code 15 = .ok (.iconst (-1), 1) := by decide +kernel
theorem dM_init_16 : decode prog_5_method_1_code 16 = .ok (.putfield 18, 3) := by decide +kernel
theorem dM_init_19 : decode prog_5_method_1_code 19 = .ok (.aload_n 0, 1) := by decide +kernel
theorem dM_init_20 : decode prog_5_method_1_code 20 = .ok (.iconst (-1), 1) := by decide +kernel
theorem dM_init_21 : decode prog_5_method_1_code 21 = .ok (.putfield 21, 3) := by decide +kernel
theorem dM_init_24 : decode prog_5_method_1_code 24 = .ok (.aload_n 0, 1) := by decide +kernel
theorem dM_init_25 : decode prog_5_method_1_code 25 = .ok (.iconst 0, 1) := by decide +kernel
theorem dM_init_26 : decode prog_5_method_1_code 26 = .ok (.putfield 24, 3) := by decide +kernel
theorem dM_init_29 : decode prog_5_method_1_code 29 = .ok (.return_, 1) := by decide +kernel
def yM_init : MethodName := ⟨"MeshedSpans$Miniheap", "<init>", "(I)V"⟩
def wM_init : List Cond := .code yM_init prog_5_method_1_code 2 none :: gw
theorem kM_init {R : Room} {s : State} {args : Array Value} {own : String} {ix : Nat} (hts : ∀ w ∈ gw, w.before args s = true) (hl : (Cond.methodLink own ix yM_init).before args s = true) (hR : 1 + 1 ≤ R.frames ∧ 8 + (2 + 11) + 14 ≤ R.locals) : CallB R s args own ix yM_init prog_5_method_1_code 2 none wM_init ({ frames := 1, cells := 0, slots := 0, locals := 14 }) 0 0 1 ∧ yM_init.name = "<init>" ∧ (Cond.instanceMethod yM_init).before args s = true := ⟨callB_of (rm := { frames := 1, cells := 0, slots := 0, locals := 14 }) 1 hts (gw_c (ct := .code yM_init prog_5_method_1_code 2 none) gm_106) rfl rfl rfl (hts _ gm_45) hl (by decide +kernel) hR, rfl, hts _ gm_105⟩
set_option maxHeartbeats 8000000 in
set_option maxRecDepth 100000 in
theorem cM_init (l : Launch) (dC : Nat → ClassId) (dI : Nat → Nat → Nat) (h0 sz : Nat) (a0 : Int32) : Met l yM_init wM_init ({ frames := 1, cells := 0, slots := 0, locals := 14 }) (va_Pc [.ref h0, .int a0] (fun U => U.heap.size = sz ∧ va_P (dC, dI) al_cl [(h0, .inr (4, [.int 0, .int 0, .int 0, .int 0, .int 0]))] U.heap ∧ va_K (dC, dI) al_cl [] U ∧ va_D (fun _ => True) [(h0, .inr (4, [.int 0, .int 0, .int 0, .int 0, .int 0]))])) (va_Qv (fun _ : Unit => True) (fun (_ : Unit) (t : State) => va_P (dC, dI) al_cl [(h0, .inr (4, [.int a0, .int (-1), .int (-1), .int (-1), .int 0]))] t.heap ∧ va_K (dC, dI) al_cl [] t ∧ va_D (va_A [(h0, .inr (4, [.int 0, .int 0, .int 0, .int 0, .int 0]))] sz) [(h0, .inr (4, [.int a0, .int (-1), .int (-1), .int (-1), .int 0]))]) (va_A [(h0, .inr (4, [.int 0, .int 0, .int 0, .int 0, .int 0]))] sz)) 0 0 (va_A [(h0, .inr (4, [.int 0, .int 0, .int 0, .int 0, .int 0]))] sz) := by
  refine Met.ofW (cc := prog_5_method_1_code) (maxL := 2) (ret := none) (by decide) rfl ?_
  intro p e s m args below meth c s₁ B hml hv
  obtain ⟨rfl, hsz, hP, hK, hD0⟩ := hv
  have hx := B.exec
  have hb := B.bytes
  have hr := B.returns
  have hts0 := atoms_spec (ws := wM_init) B.pre
  have hts : ∀ w ∈ gw, w.before _ s = true := fun w hw => hts0 w (List.mem_cons_of_mem _ hw)
  have hown : s.vm.findClass "MeshedSpans$Miniheap" = some m.cls := findClass_of_methodNamed B.named
  have hlocks := B.notSynchronized
  have hin : meth.name = "<init>" := (name_of_methodNamed B.named B.method).1
  subst hsz
  have hD := hD0.self (sz := s.heap.size)
  obtain ⟨A, hAe⟩ : ∃ A, va_A [(h0, .inr (4, [.int 0, .int 0, .int 0, .int 0, .int 0]))] s.heap.size = A := ⟨_, rfl⟩
  rw [hAe] at hD
  have hA : ∀ q : Nat, s.heap.size ≤ q → A q := fun q h => by rw [← hAe]; exact Or.inr h
  have hS : va_S A s.heap s.heap [] := va_S.rf
  have hl := lv_entry ([.ref h0, .int a0]) (n := 2) (Nat.le_of_ble_eq_true rfl)
  rw [lg_entry_eq]
  generalize (lg_sl ([.ref h0, .int a0]) ++ List.replicate (2 - (lg_sl ([.ref h0, .int a0])).length) Slot.unset).toArray = ls at hl ⊢
  have hl : lv_has ls 2 [(0, .ref h0), (1, .int a0)] := hl
  refine lv_aload_n hx hb dM_init_0 rfl (lv_at hl 0 rfl) ?_
  refine W.objInit hx hb hown (hts _ gm_107) (hts _ gm_56) (hts _ gm_57) rfl (by rw [hml]; exact hl.1) rfl dM_init_1 (Nat.le_of_ble_eq_true rfl) (Nat.le_of_ble_eq_true rfl) ?_
  refine W.eq (g2 := F0 m 4 ls []) rfl ?_
  refine lv_aload_n hx hb dM_init_4 rfl (lv_at hl 0 rfl) ?_
  refine lv_iload_n hx hb dM_init_5 rfl (lv_at hl 1 rfl) ?_
  refine va_putF (D := (dC, dI)) (ci := 4) (v := .int a0) (ty := .int) (C := "MeshedSpans$Miniheap") (T := mc_T4) (N := 5) hx hb hts mc_in4 mc_t4 mc_tok4 mc_nm4 hown hK hP hD hS 0 rfl rfl 0 (by decide) (hts _ gm_108) (fun _ h9 => h9) rfl hin rfl (by decide +kernel) rfl rfl (Nat.le_of_ble_eq_true rfl) dM_init_6 (fun H locs hP hD hS => ?_)
  have hP : va_P (dC, dI) al_cl [(h0, .inr (4, [.int a0, .int 0, .int 0, .int 0, .int 0]))] H := hP
  have hD : va_D A [(h0, .inr (4, [.int a0, .int 0, .int 0, .int 0, .int 0]))] := hD
  refine lv_aload_n hx hb dM_init_9 rfl (lv_at hl 0 rfl) ?_
  refine lv_iconst (v := (-1)) hx hb dM_init_10 (by decide) ?_
  refine va_put (D := (dC, dI)) (ci := 4) (v := .int (-1)) (ty := .int) (C := "MeshedSpans$Miniheap") (T := mc_T4) (N := 5) hx hb hts mc_in4 mc_t4 mc_tok4 mc_nm4 hown hK hP hD hS 0 rfl rfl 1 (by decide) (hts _ gm_109) (fun _ h9 => h9) rfl (by decide +kernel) rfl rfl (Nat.le_of_ble_eq_true rfl) dM_init_11 (fun H locs hP hD hS => ?_)
  have hP : va_P (dC, dI) al_cl [(h0, .inr (4, [.int a0, .int (-1), .int 0, .int 0, .int 0]))] H := hP
  have hD : va_D A [(h0, .inr (4, [.int a0, .int (-1), .int 0, .int 0, .int 0]))] := hD
  refine lv_aload_n hx hb dM_init_14 rfl (lv_at hl 0 rfl) ?_
  refine lv_iconst (v := (-1)) hx hb dM_init_15 (by decide) ?_
  refine va_put (D := (dC, dI)) (ci := 4) (v := .int (-1)) (ty := .int) (C := "MeshedSpans$Miniheap") (T := mc_T4) (N := 5) hx hb hts mc_in4 mc_t4 mc_tok4 mc_nm4 hown hK hP hD hS 0 rfl rfl 2 (by decide) (hts _ gm_110) (fun _ h9 => h9) rfl (by decide +kernel) rfl rfl (Nat.le_of_ble_eq_true rfl) dM_init_16 (fun H locs hP hD hS => ?_)
  have hP : va_P (dC, dI) al_cl [(h0, .inr (4, [.int a0, .int (-1), .int (-1), .int 0, .int 0]))] H := hP
  have hD : va_D A [(h0, .inr (4, [.int a0, .int (-1), .int (-1), .int 0, .int 0]))] := hD
  refine lv_aload_n hx hb dM_init_19 rfl (lv_at hl 0 rfl) ?_
  refine lv_iconst (v := (-1)) hx hb dM_init_20 (by decide) ?_
  refine va_put (D := (dC, dI)) (ci := 4) (v := .int (-1)) (ty := .int) (C := "MeshedSpans$Miniheap") (T := mc_T4) (N := 5) hx hb hts mc_in4 mc_t4 mc_tok4 mc_nm4 hown hK hP hD hS 0 rfl rfl 3 (by decide) (hts _ gm_111) (fun _ h9 => h9) rfl (by decide +kernel) rfl rfl (Nat.le_of_ble_eq_true rfl) dM_init_21 (fun H locs hP hD hS => ?_)
  have hP : va_P (dC, dI) al_cl [(h0, .inr (4, [.int a0, .int (-1), .int (-1), .int (-1), .int 0]))] H := hP
  have hD : va_D A [(h0, .inr (4, [.int a0, .int (-1), .int (-1), .int (-1), .int 0]))] := hD
  refine lv_aload_n hx hb dM_init_24 rfl (lv_at hl 0 rfl) ?_
  refine lv_iconst (v := 0) hx hb dM_init_25 (by decide) ?_
  refine va_put (D := (dC, dI)) (ci := 4) (v := .int 0) (ty := .int) (C := "MeshedSpans$Miniheap") (T := mc_T4) (N := 5) hx hb hts mc_in4 mc_t4 mc_tok4 mc_nm4 hown hK hP hD hS 0 rfl rfl 4 (by decide) (hts _ gm_112) (fun _ h9 => h9) rfl (by decide +kernel) rfl rfl (Nat.le_of_ble_eq_true rfl) dM_init_26 (fun H locs hP hD hS => ?_)
  have hP : va_P (dC, dI) al_cl [(h0, .inr (4, [.int a0, .int (-1), .int (-1), .int (-1), .int 0]))] H := hP
  have hD : va_D A [(h0, .inr (4, [.int a0, .int (-1), .int (-1), .int (-1), .int 0]))] := hD
  exact W.vret hx hb hr (fun t ht hW => ⟨⟨(), rfl, trivial, by rw [ht]; exact hP, va_K.moved hW.alike hK, by rw [hAe]; exact hD⟩, by rw [hAe]; exact hS.F ht⟩) (by rw [hAe]; exact hS.2.2) dM_init_29
theorem dB_init_0 : decode prog_3_method_1_code 0 = .ok (.aload_n 0, 1) := by decide +kernel
theorem dB_init_1 : decode prog_3_method_1_code 1 = .ok (.invokespecial 3, 3) := by decide +kernel
theorem dB_init_4 : decode prog_3_method_1_code 4 = .ok (.aload_n 0, 1) := by decide +kernel
theorem dB_init_5 : decode prog_3_method_1_code 5 = .ok (.sipush 384, 3) := by decide +kernel
theorem dB_init_8 : decode prog_3_method_1_code 8 = .ok (.newarray .int, 2) := by decide +kernel
theorem dB_init_10 : decode prog_3_method_1_code 10 = .ok (.putfield 9, 3) := by decide +kernel
theorem dB_init_13 : decode prog_3_method_1_code 13 = .ok (.aload_n 0, 1) := by decide +kernel
theorem dB_init_14 : decode prog_3_method_1_code 14 = .ok (.sipush 384, 3) := by decide +kernel
theorem dB_init_17 : decode prog_3_method_1_code 17 = .ok (.newarray .boolean, 2) := by decide +kernel
theorem dB_init_19 : decode prog_3_method_1_code 19 = .ok (.putfield 15, 3) := by decide +kernel
theorem dB_init_22 : decode prog_3_method_1_code 22 = .ok (.aload_n 0, 1) := by decide +kernel
theorem dB_init_23 : decode prog_3_method_1_code 23 = .ok (.iconst 0, 1) := by decide +kernel
theorem dB_init_24 : decode prog_3_method_1_code 24 = .ok (.putfield 19, 3) := by decide +kernel
theorem dB_init_27 : decode prog_3_method_1_code 27 = .ok (.return_, 1) := by decide +kernel
def yB_init : MethodName := ⟨"MeshedSpans$Blocks", "<init>", "()V"⟩
def wB_init : List Cond := .code yB_init prog_3_method_1_code 1 none :: gw
theorem kB_init {R : Room} {s : State} {args : Array Value} {own : String} {ix : Nat} (hts : ∀ w ∈ gw, w.before args s = true) (hl : (Cond.methodLink own ix yB_init).before args s = true) (hR : 1 + 1 ≤ R.frames ∧ 8 + (1 + 11) + 14 ≤ R.locals) : CallB R s args own ix yB_init prog_3_method_1_code 1 none wB_init ({ frames := 1, cells := 2, slots := 768, locals := 14 }) 2 768 0 ∧ yB_init.name = "<init>" ∧ (Cond.instanceMethod yB_init).before args s = true := ⟨callB_of (rm := { frames := 1, cells := 2, slots := 768, locals := 14 }) 0 hts (gw_c (ct := .code yB_init prog_3_method_1_code 1 none) gm_89) rfl rfl rfl (hts _ gm_44) hl (by decide +kernel) hR, rfl, hts _ gm_88⟩
set_option maxHeartbeats 8000000 in
set_option maxRecDepth 100000 in
theorem cB_init (l : Launch) (dC : Nat → ClassId) (dI : Nat → Nat → Nat) (h0 sz : Nat) : Met l yB_init wB_init ({ frames := 1, cells := 2, slots := 768, locals := 14 }) (va_Pc [.ref h0] (fun U => U.heap.size = sz ∧ va_P (dC, dI) al_cl [(h0, .inr (3, [.null, .null, .int 0]))] U.heap ∧ va_K (dC, dI) al_cl [] U ∧ va_D (fun _ => True) [(h0, .inr (3, [.null, .null, .int 0]))])) (va_Qv (fun _ : Unit => True) (fun (_ : Unit) (t : State) => ∃ (q1 : Nat) (q3 : Nat) (k2 : ClassId) (k4 : ClassId), va_P (dC, dI) al_cl [(h0, .inr (3, [.ref q1, .ref q3, .int 0])), (q1, .inl (k2, 384, .inl (fun _ => 0))), (q3, .inl (k4, 384, .inl (fun _ => 0)))] t.heap ∧ va_K (dC, dI) al_cl [(k2, .int), (k4, .boolean)] t ∧ va_D (va_A [(h0, .inr (3, [.null, .null, .int 0]))] sz) [(h0, .inr (3, [.ref q1, .ref q3, .int 0])), (q1, .inl (k2, 384, .inl (fun _ => 0))), (q3, .inl (k4, 384, .inl (fun _ => 0)))]) (va_A [(h0, .inr (3, [.null, .null, .int 0]))] sz)) 2 768 (va_A [(h0, .inr (3, [.null, .null, .int 0]))] sz) := by
  refine Met.ofW (cc := prog_3_method_1_code) (maxL := 1) (ret := none) (by decide) rfl ?_
  intro p e s m args below meth c s₁ B hml hv
  obtain ⟨rfl, hsz, hP, hK, hD0⟩ := hv
  have hx := B.exec
  have hb := B.bytes
  have hr := B.returns
  have hts0 := atoms_spec (ws := wB_init) B.pre
  have hts : ∀ w ∈ gw, w.before _ s = true := fun w hw => hts0 w (List.mem_cons_of_mem _ hw)
  have hown : s.vm.findClass "MeshedSpans$Blocks" = some m.cls := findClass_of_methodNamed B.named
  have hlocks := B.notSynchronized
  have hin : meth.name = "<init>" := (name_of_methodNamed B.named B.method).1
  subst hsz
  have hD := hD0.self (sz := s.heap.size)
  obtain ⟨A, hAe⟩ : ∃ A, va_A [(h0, .inr (3, [.null, .null, .int 0]))] s.heap.size = A := ⟨_, rfl⟩
  rw [hAe] at hD
  have hA : ∀ q : Nat, s.heap.size ≤ q → A q := fun q h => by rw [← hAe]; exact Or.inr h
  have hS : va_S A s.heap s.heap [] := va_S.rf
  have hl := lv_entry ([.ref h0]) (n := 1) (Nat.le_of_ble_eq_true rfl)
  rw [lg_entry_eq]
  generalize (lg_sl ([.ref h0]) ++ List.replicate (1 - (lg_sl ([.ref h0])).length) Slot.unset).toArray = ls at hl ⊢
  have hl : lv_has ls 1 [(0, .ref h0)] := hl
  refine lv_aload_n hx hb dB_init_0 rfl (lv_at hl 0 rfl) ?_
  refine W.objInit hx hb hown (hts _ gm_90) (hts _ gm_56) (hts _ gm_57) rfl (by rw [hml]; exact hl.1) rfl dB_init_1 (Nat.le_of_ble_eq_true rfl) (Nat.le_of_ble_eq_true rfl) ?_
  refine W.eq (g2 := F0 m 4 ls []) rfl ?_
  refine lv_aload_n hx hb dB_init_4 rfl (lv_at hl 0 rfl) ?_
  refine lv_sipush (v := 384) hx hb dB_init_5 (by decide) ?_
  refine va_newa (atype := .int) (a0 := (384, .inl (fun _ => 0))) (ty := .int) hx hb (hts _ gm_84) rfl hK hP hD hS hA (fun _ => rfl) (by decide) (by decide) (by decide) (Nat.le_of_ble_eq_true rfl) (Nat.le_of_ble_eq_true rfl) dB_init_8 (fun q1 k2 H hK hP hD hS => ?_)
  have hP : va_P (dC, dI) al_cl [(h0, .inr (3, [.null, .null, .int 0])), (q1, .inl (k2, 384, .inl (fun _ => 0)))] H := hP
  have hD : va_D A [(h0, .inr (3, [.null, .null, .int 0])), (q1, .inl (k2, 384, .inl (fun _ => 0)))] := hD
  have hK : va_K (dC, dI) al_cl [(k2, .int)] s := hK
  refine W.widen (k := 1) (n := 384) (by omega) (by omega) ?_
  refine va_putF (D := (dC, dI)) (ci := 3) (v := .ref q1) (ty := .array .int) (C := "MeshedSpans$Blocks") (T := mc_T3) (N := 3) hx hb hts mc_in3 mc_t3 mc_tok3 mc_nm3 hown hK hP hD hS 0 rfl rfl 0 (by decide) (hts _ gm_91) (fun _ h9 => h9) rfl hin rfl (by decide +kernel) rfl rfl (Nat.le_of_ble_eq_true rfl) dB_init_10 (fun H locs hP hD hS => ?_)
  have hP : va_P (dC, dI) al_cl [(h0, .inr (3, [.ref q1, .null, .int 0])), (q1, .inl (k2, 384, .inl (fun _ => 0)))] H := hP
  have hD : va_D A [(h0, .inr (3, [.ref q1, .null, .int 0])), (q1, .inl (k2, 384, .inl (fun _ => 0)))] := hD
  refine lv_aload_n hx hb dB_init_13 rfl (lv_at hl 0 rfl) ?_
  refine lv_sipush (v := 384) hx hb dB_init_14 (by decide) ?_
  refine va_newa (atype := .boolean) (a0 := (384, .inl (fun _ => 0))) (ty := .boolean) hx hb (hts _ gm_101) rfl hK hP hD hS hA (fun _ => rfl) (by decide) (by decide) (by decide) (Nat.le_of_ble_eq_true rfl) (Nat.le_of_ble_eq_true rfl) dB_init_17 (fun q3 k4 H hK hP hD hS => ?_)
  have hP : va_P (dC, dI) al_cl [(h0, .inr (3, [.ref q1, .null, .int 0])), (q1, .inl (k2, 384, .inl (fun _ => 0))), (q3, .inl (k4, 384, .inl (fun _ => 0)))] H := hP
  have hD : va_D A [(h0, .inr (3, [.ref q1, .null, .int 0])), (q1, .inl (k2, 384, .inl (fun _ => 0))), (q3, .inl (k4, 384, .inl (fun _ => 0)))] := hD
  have hK : va_K (dC, dI) al_cl [(k2, .int), (k4, .boolean)] s := hK
  refine W.widen (k := 2) (n := 768) (by omega) (by omega) ?_
  refine va_putF (D := (dC, dI)) (ci := 3) (v := .ref q3) (ty := .array .boolean) (C := "MeshedSpans$Blocks") (T := mc_T3) (N := 3) hx hb hts mc_in3 mc_t3 mc_tok3 mc_nm3 hown hK hP hD hS 0 rfl rfl 1 (by decide) (hts _ gm_92) (fun _ h9 => h9) rfl hin rfl (by decide +kernel) rfl rfl (Nat.le_of_ble_eq_true rfl) dB_init_19 (fun H locs hP hD hS => ?_)
  have hP : va_P (dC, dI) al_cl [(h0, .inr (3, [.ref q1, .ref q3, .int 0])), (q1, .inl (k2, 384, .inl (fun _ => 0))), (q3, .inl (k4, 384, .inl (fun _ => 0)))] H := hP
  have hD : va_D A [(h0, .inr (3, [.ref q1, .ref q3, .int 0])), (q1, .inl (k2, 384, .inl (fun _ => 0))), (q3, .inl (k4, 384, .inl (fun _ => 0)))] := hD
  refine lv_aload_n hx hb dB_init_22 rfl (lv_at hl 0 rfl) ?_
  refine lv_iconst (v := 0) hx hb dB_init_23 (by decide) ?_
  refine va_put (D := (dC, dI)) (ci := 3) (v := .int 0) (ty := .int) (C := "MeshedSpans$Blocks") (T := mc_T3) (N := 3) hx hb hts mc_in3 mc_t3 mc_tok3 mc_nm3 hown hK hP hD hS 0 rfl rfl 2 (by decide) (hts _ gm_93) (fun _ h9 => h9) rfl (by decide +kernel) rfl rfl (Nat.le_of_ble_eq_true rfl) dB_init_24 (fun H locs hP hD hS => ?_)
  have hP : va_P (dC, dI) al_cl [(h0, .inr (3, [.ref q1, .ref q3, .int 0])), (q1, .inl (k2, 384, .inl (fun _ => 0))), (q3, .inl (k4, 384, .inl (fun _ => 0)))] H := hP
  have hD : va_D A [(h0, .inr (3, [.ref q1, .ref q3, .int 0])), (q1, .inl (k2, 384, .inl (fun _ => 0))), (q3, .inl (k4, 384, .inl (fun _ => 0)))] := hD
  exact W.vret hx hb hr (fun t ht hW => ⟨⟨(), rfl, trivial, q1, q3, k2, k4, by rw [ht]; exact hP, va_K.moved hW.alike hK, by rw [hAe]; exact hD⟩, by rw [hAe]; exact hS.F ht⟩) (by rw [hAe]; exact hS.2.2) dB_init_27
theorem dA_init_0 : decode prog_2_method_1_code 0 = .ok (.aload_n 0, 1) := by decide +kernel
theorem dA_init_1 : decode prog_2_method_1_code 1 = .ok (.invokespecial 3, 3) := by decide +kernel
theorem dA_init_4 : decode prog_2_method_1_code 4 = .ok (.aload_n 0, 1) := by decide +kernel
theorem dA_init_5 : decode prog_2_method_1_code 5 = .ok (.aconst_null, 1) := by decide +kernel
theorem dA_init_6 : decode prog_2_method_1_code 6 = .ok (.putfield 9, 3) := by decide +kernel
theorem dA_init_9 : decode prog_2_method_1_code 9 = .ok (.aload_n 0, 1) := by decide +kernel
theorem dA_init_10 : decode prog_2_method_1_code 10 = .ok (.bipush 16, 2) := by decide +kernel
theorem dA_init_12 : decode prog_2_method_1_code 12 = .ok (.newarray .int, 2) := by decide +kernel
theorem dA_init_14 : decode prog_2_method_1_code 14 = .ok (.putfield 15, 3) := by decide +kernel
theorem dA_init_17 : decode prog_2_method_1_code 17 = .ok (.aload_n 0, 1) := by decide +kernel
theorem dA_init_18 : decode prog_2_method_1_code 18 = .ok (.iconst 0, 1) := by decide +kernel
theorem dA_init_19 : decode prog_2_method_1_code 19 = .ok (.putfield 19, 3) := by decide +kernel
theorem dA_init_22 : decode prog_2_method_1_code 22 = .ok (.return_, 1) := by decide +kernel
def yA_init : MethodName := ⟨"MeshedSpans$Attachment", "<init>", "()V"⟩
def wA_init : List Cond := .code yA_init prog_2_method_1_code 1 none :: gw
theorem kA_init {R : Room} {s : State} {args : Array Value} {own : String} {ix : Nat} (hts : ∀ w ∈ gw, w.before args s = true) (hl : (Cond.methodLink own ix yA_init).before args s = true) (hR : 1 + 1 ≤ R.frames ∧ 8 + (1 + 11) + 14 ≤ R.locals) : CallB R s args own ix yA_init prog_2_method_1_code 1 none wA_init ({ frames := 1, cells := 1, slots := 16, locals := 14 }) 1 16 0 ∧ yA_init.name = "<init>" ∧ (Cond.instanceMethod yA_init).before args s = true := ⟨callB_of (rm := { frames := 1, cells := 1, slots := 16, locals := 14 }) 0 hts (gw_c (ct := .code yA_init prog_2_method_1_code 1 none) gm_128) rfl rfl rfl (hts _ gm_46) hl (by decide +kernel) hR, rfl, hts _ gm_127⟩
set_option maxHeartbeats 8000000 in
set_option maxRecDepth 100000 in
theorem cA_init (l : Launch) (dC : Nat → ClassId) (dI : Nat → Nat → Nat) (h0 sz : Nat) : Met l yA_init wA_init ({ frames := 1, cells := 1, slots := 16, locals := 14 }) (va_Pc [.ref h0] (fun U => U.heap.size = sz ∧ va_P (dC, dI) al_cl [(h0, .inr (5, [.null, .null, .int 0]))] U.heap ∧ va_K (dC, dI) al_cl [] U ∧ va_D (fun _ => True) [(h0, .inr (5, [.null, .null, .int 0]))])) (va_Qv (fun _ : Unit => True) (fun (_ : Unit) (t : State) => ∃ (q1 : Nat) (k2 : ClassId), va_P (dC, dI) al_cl [(h0, .inr (5, [.null, .ref q1, .int 0])), (q1, .inl (k2, 16, .inl (fun _ => 0)))] t.heap ∧ va_K (dC, dI) al_cl [(k2, .int)] t ∧ va_D (va_A [(h0, .inr (5, [.null, .null, .int 0]))] sz) [(h0, .inr (5, [.null, .ref q1, .int 0])), (q1, .inl (k2, 16, .inl (fun _ => 0)))]) (va_A [(h0, .inr (5, [.null, .null, .int 0]))] sz)) 1 16 (va_A [(h0, .inr (5, [.null, .null, .int 0]))] sz) := by
  refine Met.ofW (cc := prog_2_method_1_code) (maxL := 1) (ret := none) (by decide) rfl ?_
  intro p e s m args below meth c s₁ B hml hv
  obtain ⟨rfl, hsz, hP, hK, hD0⟩ := hv
  have hx := B.exec
  have hb := B.bytes
  have hr := B.returns
  have hts0 := atoms_spec (ws := wA_init) B.pre
  have hts : ∀ w ∈ gw, w.before _ s = true := fun w hw => hts0 w (List.mem_cons_of_mem _ hw)
  have hown : s.vm.findClass "MeshedSpans$Attachment" = some m.cls := findClass_of_methodNamed B.named
  have hlocks := B.notSynchronized
  have hin : meth.name = "<init>" := (name_of_methodNamed B.named B.method).1
  subst hsz
  have hD := hD0.self (sz := s.heap.size)
  obtain ⟨A, hAe⟩ : ∃ A, va_A [(h0, .inr (5, [.null, .null, .int 0]))] s.heap.size = A := ⟨_, rfl⟩
  rw [hAe] at hD
  have hA : ∀ q : Nat, s.heap.size ≤ q → A q := fun q h => by rw [← hAe]; exact Or.inr h
  have hS : va_S A s.heap s.heap [] := va_S.rf
  have hl := lv_entry ([.ref h0]) (n := 1) (Nat.le_of_ble_eq_true rfl)
  rw [lg_entry_eq]
  generalize (lg_sl ([.ref h0]) ++ List.replicate (1 - (lg_sl ([.ref h0])).length) Slot.unset).toArray = ls at hl ⊢
  have hl : lv_has ls 1 [(0, .ref h0)] := hl
  refine lv_aload_n hx hb dA_init_0 rfl (lv_at hl 0 rfl) ?_
  refine W.objInit hx hb hown (hts _ gm_129) (hts _ gm_56) (hts _ gm_57) rfl (by rw [hml]; exact hl.1) rfl dA_init_1 (Nat.le_of_ble_eq_true rfl) (Nat.le_of_ble_eq_true rfl) ?_
  refine W.eq (g2 := F0 m 4 ls []) rfl ?_
  refine lv_aload_n hx hb dA_init_4 rfl (lv_at hl 0 rfl) ?_
  refine lv_null hx hb dA_init_5 ?_
  refine va_put (D := (dC, dI)) (ci := 5) (v := .null) (ty := .object "MeshedSpans$Miniheap") (C := "MeshedSpans$Attachment") (T := mc_T5) (N := 3) hx hb hts mc_in5 mc_t5 mc_tok5 mc_nm5 hown hK hP hD hS 0 rfl rfl 0 (by decide) (hts _ gm_130) (fun _ h9 => h9) rfl (by decide +kernel) rfl rfl (Nat.le_of_ble_eq_true rfl) dA_init_6 (fun H locs hP hD hS => ?_)
  have hP : va_P (dC, dI) al_cl [(h0, .inr (5, [.null, .null, .int 0]))] H := hP
  have hD : va_D A [(h0, .inr (5, [.null, .null, .int 0]))] := hD
  refine lv_aload_n hx hb dA_init_9 rfl (lv_at hl 0 rfl) ?_
  refine lv_bipush (v := 16) hx hb dA_init_10 (by decide) ?_
  refine va_newa (atype := .int) (a0 := (16, .inl (fun _ => 0))) (ty := .int) hx hb (hts _ gm_84) rfl hK hP hD hS hA (fun _ => rfl) (by decide) (by decide) (by decide) (Nat.le_of_ble_eq_true rfl) (Nat.le_of_ble_eq_true rfl) dA_init_12 (fun q1 k2 H hK hP hD hS => ?_)
  have hP : va_P (dC, dI) al_cl [(h0, .inr (5, [.null, .null, .int 0])), (q1, .inl (k2, 16, .inl (fun _ => 0)))] H := hP
  have hD : va_D A [(h0, .inr (5, [.null, .null, .int 0])), (q1, .inl (k2, 16, .inl (fun _ => 0)))] := hD
  have hK : va_K (dC, dI) al_cl [(k2, .int)] s := hK
  refine W.widen (k := 1) (n := 16) (by omega) (by omega) ?_
  refine va_putF (D := (dC, dI)) (ci := 5) (v := .ref q1) (ty := .array .int) (C := "MeshedSpans$Attachment") (T := mc_T5) (N := 3) hx hb hts mc_in5 mc_t5 mc_tok5 mc_nm5 hown hK hP hD hS 0 rfl rfl 1 (by decide) (hts _ gm_131) (fun _ h9 => h9) rfl hin rfl (by decide +kernel) rfl rfl (Nat.le_of_ble_eq_true rfl) dA_init_14 (fun H locs hP hD hS => ?_)
  have hP : va_P (dC, dI) al_cl [(h0, .inr (5, [.null, .ref q1, .int 0])), (q1, .inl (k2, 16, .inl (fun _ => 0)))] H := hP
  have hD : va_D A [(h0, .inr (5, [.null, .ref q1, .int 0])), (q1, .inl (k2, 16, .inl (fun _ => 0)))] := hD
  refine lv_aload_n hx hb dA_init_17 rfl (lv_at hl 0 rfl) ?_
  refine lv_iconst (v := 0) hx hb dA_init_18 (by decide) ?_
  refine va_put (D := (dC, dI)) (ci := 5) (v := .int 0) (ty := .int) (C := "MeshedSpans$Attachment") (T := mc_T5) (N := 3) hx hb hts mc_in5 mc_t5 mc_tok5 mc_nm5 hown hK hP hD hS 0 rfl rfl 2 (by decide) (hts _ gm_132) (fun _ h9 => h9) rfl (by decide +kernel) rfl rfl (Nat.le_of_ble_eq_true rfl) dA_init_19 (fun H locs hP hD hS => ?_)
  have hP : va_P (dC, dI) al_cl [(h0, .inr (5, [.null, .ref q1, .int 0])), (q1, .inl (k2, 16, .inl (fun _ => 0)))] H := hP
  have hD : va_D A [(h0, .inr (5, [.null, .ref q1, .int 0])), (q1, .inl (k2, 16, .inl (fun _ => 0)))] := hD
  exact W.vret hx hb hr (fun t ht hW => ⟨⟨(), rfl, trivial, q1, k2, by rw [ht]; exact hP, va_K.moved hW.alike hK, by rw [hAe]; exact hD⟩, by rw [hAe]; exact hS.F ht⟩) (by rw [hAe]; exact hS.2.2) dA_init_22
theorem dP_init_0 : decode prog_6_method_1_code 0 = .ok (.aload_n 0, 1) := by decide +kernel
theorem dP_init_1 : decode prog_6_method_1_code 1 = .ok (.invokespecial 3, 3) := by decide +kernel
theorem dP_init_4 : decode prog_6_method_1_code 4 = .ok (.aload_n 0, 1) := by decide +kernel
theorem dP_init_5 : decode prog_6_method_1_code 5 = .ok (.sipush 192, 3) := by decide +kernel
theorem dP_init_8 : decode prog_6_method_1_code 8 = .ok (.newarray .int, 2) := by decide +kernel
theorem dP_init_10 : decode prog_6_method_1_code 10 = .ok (.putfield 9, 3) := by decide +kernel
theorem dP_init_13 : decode prog_6_method_1_code 13 = .ok (.aload_n 0, 1) := by decide +kernel
theorem dP_init_14 : decode prog_6_method_1_code 14 = .ok (.bipush 24, 2) := by decide +kernel
theorem dP_init_16 : decode prog_6_method_1_code 16 = .ok (.newarray .int, 2) := by decide +kernel
theorem dP_init_18 : decode prog_6_method_1_code 18 = .ok (.putfield 15, 3) := by decide +kernel
theorem dP_init_21 : decode prog_6_method_1_code 21 = .ok (.iconst 0, 1) := by decide +kernel
theorem dP_init_22 : decode prog_6_method_1_code 22 = .ok (.istore_n 1, 1) := by decide +kernel
theorem dP_init_23 : decode prog_6_method_1_code 23 = .ok (.iload_n 1, 1) := by decide +kernel
theorem dP_init_24 : decode prog_6_method_1_code 24 = .ok (.bipush 24, 2) := by decide +kernel
theorem dP_init_26 : decode prog_6_method_1_code 26 = .ok (.if_icmp .ge 16, 3) := by decide +kernel
theorem dP_init_29 : decode prog_6_method_1_code 29 = .ok (.aload_n 0, 1) := by decide +kernel
theorem dP_init_30 : decode prog_6_method_1_code 30 = .ok (.getfield 15, 3) := by decide +kernel
theorem dP_init_33 : decode prog_6_method_1_code 33 = .ok (.iload_n 1, 1) := by decide +kernel
theorem dP_init_34 : decode prog_6_method_1_code 34 = .ok (.iconst (-1), 1) := by decide +kernel
theorem dP_init_35 : decode prog_6_method_1_code 35 = .ok (.iastore, 1) := by decide +kernel
theorem dP_init_36 : decode prog_6_method_1_code 36 = .ok (.iinc 1 1, 3) := by decide +kernel
theorem dP_init_39 : decode prog_6_method_1_code 39 = .ok (.goto (-16), 3) := by decide +kernel
theorem dP_init_42 : decode prog_6_method_1_code 42 = .ok (.aload_n 0, 1) := by decide +kernel
theorem dP_init_43 : decode prog_6_method_1_code 43 = .ok (.bipush 12, 2) := by decide +kernel
theorem dP_init_45 : decode prog_6_method_1_code 45 = .ok (.newarray .int, 2) := by decide +kernel
theorem dP_init_47 : decode prog_6_method_1_code 47 = .ok (.putfield 18, 3) := by decide +kernel
theorem dP_init_50 : decode prog_6_method_1_code 50 = .ok (.return_, 1) := by decide +kernel
def yP_init : MethodName := ⟨"MeshedSpans$Spans", "<init>", "()V"⟩
def wP_init : List Cond := .code yP_init prog_6_method_1_code 2 none :: gw
theorem kP_init {R : Room} {s : State} {args : Array Value} {own : String} {ix : Nat} (hts : ∀ w ∈ gw, w.before args s = true) (hl : (Cond.methodLink own ix yP_init).before args s = true) (hR : 1 + 1 ≤ R.frames ∧ 8 + (2 + 11) + 14 ≤ R.locals) : CallB R s args own ix yP_init prog_6_method_1_code 2 none wP_init ({ frames := 1, cells := 3, slots := 228, locals := 14 }) 3 228 0 ∧ yP_init.name = "<init>" ∧ (Cond.instanceMethod yP_init).before args s = true := ⟨callB_of (rm := { frames := 1, cells := 3, slots := 228, locals := 14 }) 0 hts (gw_c (ct := .code yP_init prog_6_method_1_code 2 none) gm_72) rfl rfl rfl (hts _ gm_43) hl (by decide +kernel) hR, rfl, hts _ gm_71⟩
set_option maxHeartbeats 8000000 in
set_option maxRecDepth 100000 in
theorem cP_init (l : Launch) (dC : Nat → ClassId) (dI : Nat → Nat → Nat) (h0 sz : Nat) : Met l yP_init wP_init ({ frames := 1, cells := 3, slots := 228, locals := 14 }) (va_Pc [.ref h0] (fun U => U.heap.size = sz ∧ va_P (dC, dI) al_cl [(h0, .inr (2, [.null, .null, .null]))] U.heap ∧ va_K (dC, dI) al_cl [] U ∧ va_D (fun _ => True) [(h0, .inr (2, [.null, .null, .null]))])) (va_Qv (fun _ : Unit => True) (fun (_ : Unit) (t : State) => ∃ (q1 : Nat) (q3 : Nat) (q30 : Nat) (k2 : ClassId) (k4 : ClassId) (k31 : ClassId), va_P (dC, dI) al_cl [(h0, .inr (2, [.ref q1, .ref q3, .ref q30])), (q1, .inl (k2, 192, .inl (fun _ => 0))), (q3, .inl (k4, 24, .inl (upd (upd (upd (upd (upd (upd (upd (upd (upd (upd (upd (upd (upd (upd (upd (upd (upd (upd (upd (upd (upd (upd (upd (upd (fun _ => 0) (Int32.toNatClampNeg 0) (-1)) (Int32.toNatClampNeg 1) (-1)) (Int32.toNatClampNeg 2) (-1)) (Int32.toNatClampNeg 3) (-1)) (Int32.toNatClampNeg 4) (-1)) (Int32.toNatClampNeg 5) (-1)) (Int32.toNatClampNeg 6) (-1)) (Int32.toNatClampNeg 7) (-1)) (Int32.toNatClampNeg 8) (-1)) (Int32.toNatClampNeg 9) (-1)) (Int32.toNatClampNeg 10) (-1)) (Int32.toNatClampNeg 11) (-1)) (Int32.toNatClampNeg 12) (-1)) (Int32.toNatClampNeg 13) (-1)) (Int32.toNatClampNeg 14) (-1)) (Int32.toNatClampNeg 15) (-1)) (Int32.toNatClampNeg 16) (-1)) (Int32.toNatClampNeg 17) (-1)) (Int32.toNatClampNeg 18) (-1)) (Int32.toNatClampNeg 19) (-1)) (Int32.toNatClampNeg 20) (-1)) (Int32.toNatClampNeg 21) (-1)) (Int32.toNatClampNeg 22) (-1)) (Int32.toNatClampNeg 23) (-1)))), (q30, .inl (k31, 12, .inl (fun _ => 0)))] t.heap ∧ va_K (dC, dI) al_cl [(k2, .int), (k4, .int), (k31, .int)] t ∧ va_D (va_A [(h0, .inr (2, [.null, .null, .null]))] sz) [(h0, .inr (2, [.ref q1, .ref q3, .ref q30])), (q1, .inl (k2, 192, .inl (fun _ => 0))), (q3, .inl (k4, 24, .inl (upd (upd (upd (upd (upd (upd (upd (upd (upd (upd (upd (upd (upd (upd (upd (upd (upd (upd (upd (upd (upd (upd (upd (upd (fun _ => 0) (Int32.toNatClampNeg 0) (-1)) (Int32.toNatClampNeg 1) (-1)) (Int32.toNatClampNeg 2) (-1)) (Int32.toNatClampNeg 3) (-1)) (Int32.toNatClampNeg 4) (-1)) (Int32.toNatClampNeg 5) (-1)) (Int32.toNatClampNeg 6) (-1)) (Int32.toNatClampNeg 7) (-1)) (Int32.toNatClampNeg 8) (-1)) (Int32.toNatClampNeg 9) (-1)) (Int32.toNatClampNeg 10) (-1)) (Int32.toNatClampNeg 11) (-1)) (Int32.toNatClampNeg 12) (-1)) (Int32.toNatClampNeg 13) (-1)) (Int32.toNatClampNeg 14) (-1)) (Int32.toNatClampNeg 15) (-1)) (Int32.toNatClampNeg 16) (-1)) (Int32.toNatClampNeg 17) (-1)) (Int32.toNatClampNeg 18) (-1)) (Int32.toNatClampNeg 19) (-1)) (Int32.toNatClampNeg 20) (-1)) (Int32.toNatClampNeg 21) (-1)) (Int32.toNatClampNeg 22) (-1)) (Int32.toNatClampNeg 23) (-1)))), (q30, .inl (k31, 12, .inl (fun _ => 0)))]) (va_A [(h0, .inr (2, [.null, .null, .null]))] sz)) 3 228 (va_A [(h0, .inr (2, [.null, .null, .null]))] sz) := by
  refine Met.ofW (cc := prog_6_method_1_code) (maxL := 2) (ret := none) (by decide) rfl ?_
  intro p e s m args below meth c s₁ B hml hv
  obtain ⟨rfl, hsz, hP, hK, hD0⟩ := hv
  have hx := B.exec
  have hb := B.bytes
  have hr := B.returns
  have hts0 := atoms_spec (ws := wP_init) B.pre
  have hts : ∀ w ∈ gw, w.before _ s = true := fun w hw => hts0 w (List.mem_cons_of_mem _ hw)
  have hown : s.vm.findClass "MeshedSpans$Spans" = some m.cls := findClass_of_methodNamed B.named
  have hlocks := B.notSynchronized
  have hin : meth.name = "<init>" := (name_of_methodNamed B.named B.method).1
  subst hsz
  have hD := hD0.self (sz := s.heap.size)
  obtain ⟨A, hAe⟩ : ∃ A, va_A [(h0, .inr (2, [.null, .null, .null]))] s.heap.size = A := ⟨_, rfl⟩
  rw [hAe] at hD
  have hA : ∀ q : Nat, s.heap.size ≤ q → A q := fun q h => by rw [← hAe]; exact Or.inr h
  have hS : va_S A s.heap s.heap [] := va_S.rf
  have hl := lv_entry ([.ref h0]) (n := 2) (Nat.le_of_ble_eq_true rfl)
  rw [lg_entry_eq]
  generalize (lg_sl ([.ref h0]) ++ List.replicate (2 - (lg_sl ([.ref h0])).length) Slot.unset).toArray = ls at hl ⊢
  have hl : lv_has ls 2 [(0, .ref h0)] := hl
  refine lv_aload_n hx hb dP_init_0 rfl (lv_at hl 0 rfl) ?_
  refine W.objInit hx hb hown (hts _ gm_73) (hts _ gm_56) (hts _ gm_57) rfl (by rw [hml]; exact hl.1) rfl dP_init_1 (Nat.le_of_ble_eq_true rfl) (Nat.le_of_ble_eq_true rfl) ?_
  refine W.eq (g2 := F0 m 4 ls []) rfl ?_
  refine lv_aload_n hx hb dP_init_4 rfl (lv_at hl 0 rfl) ?_
  refine lv_sipush (v := 192) hx hb dP_init_5 (by decide) ?_
  refine va_newa (atype := .int) (a0 := (192, .inl (fun _ => 0))) (ty := .int) hx hb (hts _ gm_84) rfl hK hP hD hS hA (fun _ => rfl) (by decide) (by decide) (by decide) (Nat.le_of_ble_eq_true rfl) (Nat.le_of_ble_eq_true rfl) dP_init_8 (fun q1 k2 H hK hP hD hS => ?_)
  have hP : va_P (dC, dI) al_cl [(h0, .inr (2, [.null, .null, .null])), (q1, .inl (k2, 192, .inl (fun _ => 0)))] H := hP
  have hD : va_D A [(h0, .inr (2, [.null, .null, .null])), (q1, .inl (k2, 192, .inl (fun _ => 0)))] := hD
  have hK : va_K (dC, dI) al_cl [(k2, .int)] s := hK
  refine W.widen (k := 1) (n := 192) (by omega) (by omega) ?_
  refine va_putF (D := (dC, dI)) (ci := 2) (v := .ref q1) (ty := .array .int) (C := "MeshedSpans$Spans") (T := mc_T2) (N := 3) hx hb hts mc_in2 mc_t2 mc_tok2 mc_nm2 hown hK hP hD hS 0 rfl rfl 0 (by decide) (hts _ gm_74) (fun _ h9 => h9) rfl hin rfl (by decide +kernel) rfl rfl (Nat.le_of_ble_eq_true rfl) dP_init_10 (fun H locs hP hD hS => ?_)
  have hP : va_P (dC, dI) al_cl [(h0, .inr (2, [.ref q1, .null, .null])), (q1, .inl (k2, 192, .inl (fun _ => 0)))] H := hP
  have hD : va_D A [(h0, .inr (2, [.ref q1, .null, .null])), (q1, .inl (k2, 192, .inl (fun _ => 0)))] := hD
  refine lv_aload_n hx hb dP_init_13 rfl (lv_at hl 0 rfl) ?_
  refine lv_bipush (v := 24) hx hb dP_init_14 (by decide) ?_
  refine va_newa (atype := .int) (a0 := (24, .inl (fun _ => 0))) (ty := .int) hx hb (hts _ gm_84) rfl hK hP hD hS hA (fun _ => rfl) (by decide) (by decide) (by decide) (Nat.le_of_ble_eq_true rfl) (Nat.le_of_ble_eq_true rfl) dP_init_16 (fun q3 k4 H hK hP hD hS => ?_)
  have hP : va_P (dC, dI) al_cl [(h0, .inr (2, [.ref q1, .null, .null])), (q1, .inl (k2, 192, .inl (fun _ => 0))), (q3, .inl (k4, 24, .inl (fun _ => 0)))] H := hP
  have hD : va_D A [(h0, .inr (2, [.ref q1, .null, .null])), (q1, .inl (k2, 192, .inl (fun _ => 0))), (q3, .inl (k4, 24, .inl (fun _ => 0)))] := hD
  have hK : va_K (dC, dI) al_cl [(k2, .int), (k4, .int)] s := hK
  refine W.widen (k := 2) (n := 216) (by omega) (by omega) ?_
  refine va_putF (D := (dC, dI)) (ci := 2) (v := .ref q3) (ty := .array .int) (C := "MeshedSpans$Spans") (T := mc_T2) (N := 3) hx hb hts mc_in2 mc_t2 mc_tok2 mc_nm2 hown hK hP hD hS 0 rfl rfl 1 (by decide) (hts _ gm_75) (fun _ h9 => h9) rfl hin rfl (by decide +kernel) rfl rfl (Nat.le_of_ble_eq_true rfl) dP_init_18 (fun H locs hP hD hS => ?_)
  have hP : va_P (dC, dI) al_cl [(h0, .inr (2, [.ref q1, .ref q3, .null])), (q1, .inl (k2, 192, .inl (fun _ => 0))), (q3, .inl (k4, 24, .inl (fun _ => 0)))] H := hP
  have hD : va_D A [(h0, .inr (2, [.ref q1, .ref q3, .null])), (q1, .inl (k2, 192, .inl (fun _ => 0))), (q3, .inl (k4, 24, .inl (fun _ => 0)))] := hD
  refine lv_iconst (v := 0) hx hb dP_init_21 (by decide) ?_
  refine lv_istore_n (lv' := [(1, .int 0), (0, .ref h0)]) hx hb dP_init_22 rfl hl (by decide) rfl (fun ls hl => ?_)
  refine lv_iload_n hx hb dP_init_23 rfl (lv_at hl 0 rfl) ?_
  refine lv_bipush (v := 24) hx hb dP_init_24 (by decide) ?_
  refine lv_icmp_ge (tgt := 42) hx hb dP_init_26 (by decide) (fun c5 => absurd c5 (by decide)) (fun _ => ?_)
  refine lv_aload_n hx hb dP_init_29 rfl (lv_at hl 1 rfl) ?_
  refine va_get (D := (dC, dI)) (ci := 2) (v := .ref q3) (C := "MeshedSpans$Spans") (T := mc_T2) (N := 3) hx hb hts mc_in2 hown hK hP 0 rfl rfl 1 (by decide) (hts _ gm_75) (fun _ h9 => h9) rfl dP_init_30 ?_
  refine lv_iload_n hx hb dP_init_33 rfl (lv_at hl 0 rfl) ?_
  refine lv_iconst (v := (-1)) hx hb dP_init_34 (by decide) ?_
  refine va_iast hx hb hK hP hD hS 2 1 rfl rfl (vp_in_lit (by decide)) dP_init_35 (fun H locs hP hD hS => ?_)
  have hP : va_P (dC, dI) al_cl [(h0, .inr (2, [.ref q1, .ref q3, .null])), (q1, .inl (k2, 192, .inl (fun _ => 0))), (q3, .inl (k4, 24, .inl (upd (fun _ => 0) (Int32.toNatClampNeg 0) (-1))))] H := hP
  have hD : va_D A [(h0, .inr (2, [.ref q1, .ref q3, .null])), (q1, .inl (k2, 192, .inl (fun _ => 0))), (q3, .inl (k4, 24, .inl (upd (fun _ => 0) (Int32.toNatClampNeg 0) (-1))))] := hD
  refine lv_iinc (v := 1) (lv' := [(1, .int 1), (0, .ref h0)]) hx hb dP_init_36 hl (k := 0) rfl (by decide) (by decide) rfl (fun ls hl => ?_)
  refine lv_goto (tgt := 23) hx hb dP_init_39 (by decide) ?_
  refine lv_iload_n hx hb dP_init_23 rfl (lv_at hl 0 rfl) ?_
  refine lv_bipush (v := 24) hx hb dP_init_24 (by decide) ?_
  refine lv_icmp_ge (tgt := 42) hx hb dP_init_26 (by decide) (fun c6 => absurd c6 (by decide)) (fun _ => ?_)
  refine lv_aload_n hx hb dP_init_29 rfl (lv_at hl 1 rfl) ?_
  refine va_get (D := (dC, dI)) (ci := 2) (v := .ref q3) (C := "MeshedSpans$Spans") (T := mc_T2) (N := 3) hx hb hts mc_in2 hown hK hP 0 rfl rfl 1 (by decide) (hts _ gm_75) (fun _ h9 => h9) rfl dP_init_30 ?_
  refine lv_iload_n hx hb dP_init_33 rfl (lv_at hl 0 rfl) ?_
  refine lv_iconst (v := (-1)) hx hb dP_init_34 (by decide) ?_
  refine va_iast hx hb hK hP hD hS 2 1 rfl rfl (vp_in_lit (by decide)) dP_init_35 (fun H locs hP hD hS => ?_)
  have hP : va_P (dC, dI) al_cl [(h0, .inr (2, [.ref q1, .ref q3, .null])), (q1, .inl (k2, 192, .inl (fun _ => 0))), (q3, .inl (k4, 24, .inl (upd (upd (fun _ => 0) (Int32.toNatClampNeg 0) (-1)) (Int32.toNatClampNeg 1) (-1))))] H := hP
  have hD : va_D A [(h0, .inr (2, [.ref q1, .ref q3, .null])), (q1, .inl (k2, 192, .inl (fun _ => 0))), (q3, .inl (k4, 24, .inl (upd (upd (fun _ => 0) (Int32.toNatClampNeg 0) (-1)) (Int32.toNatClampNeg 1) (-1))))] := hD
  refine lv_iinc (v := 2) (lv' := [(1, .int 2), (0, .ref h0)]) hx hb dP_init_36 hl (k := 0) rfl (by decide) (by decide) rfl (fun ls hl => ?_)
  refine lv_goto (tgt := 23) hx hb dP_init_39 (by decide) ?_
  refine lv_iload_n hx hb dP_init_23 rfl (lv_at hl 0 rfl) ?_
  refine lv_bipush (v := 24) hx hb dP_init_24 (by decide) ?_
  refine lv_icmp_ge (tgt := 42) hx hb dP_init_26 (by decide) (fun c7 => absurd c7 (by decide)) (fun _ => ?_)
  refine lv_aload_n hx hb dP_init_29 rfl (lv_at hl 1 rfl) ?_
  refine va_get (D := (dC, dI)) (ci := 2) (v := .ref q3) (C := "MeshedSpans$Spans") (T := mc_T2) (N := 3) hx hb hts mc_in2 hown hK hP 0 rfl rfl 1 (by decide) (hts _ gm_75) (fun _ h9 => h9) rfl dP_init_30 ?_
  refine lv_iload_n hx hb dP_init_33 rfl (lv_at hl 0 rfl) ?_
  refine lv_iconst (v := (-1)) hx hb dP_init_34 (by decide) ?_
  refine va_iast hx hb hK hP hD hS 2 1 rfl rfl (vp_in_lit (by decide)) dP_init_35 (fun H locs hP hD hS => ?_)
  have hP : va_P (dC, dI) al_cl [(h0, .inr (2, [.ref q1, .ref q3, .null])), (q1, .inl (k2, 192, .inl (fun _ => 0))), (q3, .inl (k4, 24, .inl (upd (upd (upd (fun _ => 0) (Int32.toNatClampNeg 0) (-1)) (Int32.toNatClampNeg 1) (-1)) (Int32.toNatClampNeg 2) (-1))))] H := hP
  have hD : va_D A [(h0, .inr (2, [.ref q1, .ref q3, .null])), (q1, .inl (k2, 192, .inl (fun _ => 0))), (q3, .inl (k4, 24, .inl (upd (upd (upd (fun _ => 0) (Int32.toNatClampNeg 0) (-1)) (Int32.toNatClampNeg 1) (-1)) (Int32.toNatClampNeg 2) (-1))))] := hD
  refine lv_iinc (v := 3) (lv' := [(1, .int 3), (0, .ref h0)]) hx hb dP_init_36 hl (k := 0) rfl (by decide) (by decide) rfl (fun ls hl => ?_)
  refine lv_goto (tgt := 23) hx hb dP_init_39 (by decide) ?_
  refine lv_iload_n hx hb dP_init_23 rfl (lv_at hl 0 rfl) ?_
  refine lv_bipush (v := 24) hx hb dP_init_24 (by decide) ?_
  refine lv_icmp_ge (tgt := 42) hx hb dP_init_26 (by decide) (fun c8 => absurd c8 (by decide)) (fun _ => ?_)
  refine lv_aload_n hx hb dP_init_29 rfl (lv_at hl 1 rfl) ?_
  refine va_get (D := (dC, dI)) (ci := 2) (v := .ref q3) (C := "MeshedSpans$Spans") (T := mc_T2) (N := 3) hx hb hts mc_in2 hown hK hP 0 rfl rfl 1 (by decide) (hts _ gm_75) (fun _ h9 => h9) rfl dP_init_30 ?_
  refine lv_iload_n hx hb dP_init_33 rfl (lv_at hl 0 rfl) ?_
  refine lv_iconst (v := (-1)) hx hb dP_init_34 (by decide) ?_
  refine va_iast hx hb hK hP hD hS 2 1 rfl rfl (vp_in_lit (by decide)) dP_init_35 (fun H locs hP hD hS => ?_)
  have hP : va_P (dC, dI) al_cl [(h0, .inr (2, [.ref q1, .ref q3, .null])), (q1, .inl (k2, 192, .inl (fun _ => 0))), (q3, .inl (k4, 24, .inl (upd (upd (upd (upd (fun _ => 0) (Int32.toNatClampNeg 0) (-1)) (Int32.toNatClampNeg 1) (-1)) (Int32.toNatClampNeg 2) (-1)) (Int32.toNatClampNeg 3) (-1))))] H := hP
  have hD : va_D A [(h0, .inr (2, [.ref q1, .ref q3, .null])), (q1, .inl (k2, 192, .inl (fun _ => 0))), (q3, .inl (k4, 24, .inl (upd (upd (upd (upd (fun _ => 0) (Int32.toNatClampNeg 0) (-1)) (Int32.toNatClampNeg 1) (-1)) (Int32.toNatClampNeg 2) (-1)) (Int32.toNatClampNeg 3) (-1))))] := hD
  refine lv_iinc (v := 4) (lv' := [(1, .int 4), (0, .ref h0)]) hx hb dP_init_36 hl (k := 0) rfl (by decide) (by decide) rfl (fun ls hl => ?_)
  refine lv_goto (tgt := 23) hx hb dP_init_39 (by decide) ?_
  refine lv_iload_n hx hb dP_init_23 rfl (lv_at hl 0 rfl) ?_
  refine lv_bipush (v := 24) hx hb dP_init_24 (by decide) ?_
  refine lv_icmp_ge (tgt := 42) hx hb dP_init_26 (by decide) (fun c9 => absurd c9 (by decide)) (fun _ => ?_)
  refine lv_aload_n hx hb dP_init_29 rfl (lv_at hl 1 rfl) ?_
  refine va_get (D := (dC, dI)) (ci := 2) (v := .ref q3) (C := "MeshedSpans$Spans") (T := mc_T2) (N := 3) hx hb hts mc_in2 hown hK hP 0 rfl rfl 1 (by decide) (hts _ gm_75) (fun _ h9 => h9) rfl dP_init_30 ?_
  refine lv_iload_n hx hb dP_init_33 rfl (lv_at hl 0 rfl) ?_
  refine lv_iconst (v := (-1)) hx hb dP_init_34 (by decide) ?_
  refine va_iast hx hb hK hP hD hS 2 1 rfl rfl (vp_in_lit (by decide)) dP_init_35 (fun H locs hP hD hS => ?_)
  have hP : va_P (dC, dI) al_cl [(h0, .inr (2, [.ref q1, .ref q3, .null])), (q1, .inl (k2, 192, .inl (fun _ => 0))), (q3, .inl (k4, 24, .inl (upd (upd (upd (upd (upd (fun _ => 0) (Int32.toNatClampNeg 0) (-1)) (Int32.toNatClampNeg 1) (-1)) (Int32.toNatClampNeg 2) (-1)) (Int32.toNatClampNeg 3) (-1)) (Int32.toNatClampNeg 4) (-1))))] H := hP
  have hD : va_D A [(h0, .inr (2, [.ref q1, .ref q3, .null])), (q1, .inl (k2, 192, .inl (fun _ => 0))), (q3, .inl (k4, 24, .inl (upd (upd (upd (upd (upd (fun _ => 0) (Int32.toNatClampNeg 0) (-1)) (Int32.toNatClampNeg 1) (-1)) (Int32.toNatClampNeg 2) (-1)) (Int32.toNatClampNeg 3) (-1)) (Int32.toNatClampNeg 4) (-1))))] := hD
  refine lv_iinc (v := 5) (lv' := [(1, .int 5), (0, .ref h0)]) hx hb dP_init_36 hl (k := 0) rfl (by decide) (by decide) rfl (fun ls hl => ?_)
  refine lv_goto (tgt := 23) hx hb dP_init_39 (by decide) ?_
  refine lv_iload_n hx hb dP_init_23 rfl (lv_at hl 0 rfl) ?_
  refine lv_bipush (v := 24) hx hb dP_init_24 (by decide) ?_
  refine lv_icmp_ge (tgt := 42) hx hb dP_init_26 (by decide) (fun c10 => absurd c10 (by decide)) (fun _ => ?_)
  refine lv_aload_n hx hb dP_init_29 rfl (lv_at hl 1 rfl) ?_
  refine va_get (D := (dC, dI)) (ci := 2) (v := .ref q3) (C := "MeshedSpans$Spans") (T := mc_T2) (N := 3) hx hb hts mc_in2 hown hK hP 0 rfl rfl 1 (by decide) (hts _ gm_75) (fun _ h9 => h9) rfl dP_init_30 ?_
  refine lv_iload_n hx hb dP_init_33 rfl (lv_at hl 0 rfl) ?_
  refine lv_iconst (v := (-1)) hx hb dP_init_34 (by decide) ?_
  refine va_iast hx hb hK hP hD hS 2 1 rfl rfl (vp_in_lit (by decide)) dP_init_35 (fun H locs hP hD hS => ?_)
  have hP : va_P (dC, dI) al_cl [(h0, .inr (2, [.ref q1, .ref q3, .null])), (q1, .inl (k2, 192, .inl (fun _ => 0))), (q3, .inl (k4, 24, .inl (upd (upd (upd (upd (upd (upd (fun _ => 0) (Int32.toNatClampNeg 0) (-1)) (Int32.toNatClampNeg 1) (-1)) (Int32.toNatClampNeg 2) (-1)) (Int32.toNatClampNeg 3) (-1)) (Int32.toNatClampNeg 4) (-1)) (Int32.toNatClampNeg 5) (-1))))] H := hP
  have hD : va_D A [(h0, .inr (2, [.ref q1, .ref q3, .null])), (q1, .inl (k2, 192, .inl (fun _ => 0))), (q3, .inl (k4, 24, .inl (upd (upd (upd (upd (upd (upd (fun _ => 0) (Int32.toNatClampNeg 0) (-1)) (Int32.toNatClampNeg 1) (-1)) (Int32.toNatClampNeg 2) (-1)) (Int32.toNatClampNeg 3) (-1)) (Int32.toNatClampNeg 4) (-1)) (Int32.toNatClampNeg 5) (-1))))] := hD
  refine lv_iinc (v := 6) (lv' := [(1, .int 6), (0, .ref h0)]) hx hb dP_init_36 hl (k := 0) rfl (by decide) (by decide) rfl (fun ls hl => ?_)
  refine lv_goto (tgt := 23) hx hb dP_init_39 (by decide) ?_
  refine lv_iload_n hx hb dP_init_23 rfl (lv_at hl 0 rfl) ?_
  refine lv_bipush (v := 24) hx hb dP_init_24 (by decide) ?_
  refine lv_icmp_ge (tgt := 42) hx hb dP_init_26 (by decide) (fun c11 => absurd c11 (by decide)) (fun _ => ?_)
  refine lv_aload_n hx hb dP_init_29 rfl (lv_at hl 1 rfl) ?_
  refine va_get (D := (dC, dI)) (ci := 2) (v := .ref q3) (C := "MeshedSpans$Spans") (T := mc_T2) (N := 3) hx hb hts mc_in2 hown hK hP 0 rfl rfl 1 (by decide) (hts _ gm_75) (fun _ h9 => h9) rfl dP_init_30 ?_
  refine lv_iload_n hx hb dP_init_33 rfl (lv_at hl 0 rfl) ?_
  refine lv_iconst (v := (-1)) hx hb dP_init_34 (by decide) ?_
  refine va_iast hx hb hK hP hD hS 2 1 rfl rfl (vp_in_lit (by decide)) dP_init_35 (fun H locs hP hD hS => ?_)
  have hP : va_P (dC, dI) al_cl [(h0, .inr (2, [.ref q1, .ref q3, .null])), (q1, .inl (k2, 192, .inl (fun _ => 0))), (q3, .inl (k4, 24, .inl (upd (upd (upd (upd (upd (upd (upd (fun _ => 0) (Int32.toNatClampNeg 0) (-1)) (Int32.toNatClampNeg 1) (-1)) (Int32.toNatClampNeg 2) (-1)) (Int32.toNatClampNeg 3) (-1)) (Int32.toNatClampNeg 4) (-1)) (Int32.toNatClampNeg 5) (-1)) (Int32.toNatClampNeg 6) (-1))))] H := hP
  have hD : va_D A [(h0, .inr (2, [.ref q1, .ref q3, .null])), (q1, .inl (k2, 192, .inl (fun _ => 0))), (q3, .inl (k4, 24, .inl (upd (upd (upd (upd (upd (upd (upd (fun _ => 0) (Int32.toNatClampNeg 0) (-1)) (Int32.toNatClampNeg 1) (-1)) (Int32.toNatClampNeg 2) (-1)) (Int32.toNatClampNeg 3) (-1)) (Int32.toNatClampNeg 4) (-1)) (Int32.toNatClampNeg 5) (-1)) (Int32.toNatClampNeg 6) (-1))))] := hD
  refine lv_iinc (v := 7) (lv' := [(1, .int 7), (0, .ref h0)]) hx hb dP_init_36 hl (k := 0) rfl (by decide) (by decide) rfl (fun ls hl => ?_)
  refine lv_goto (tgt := 23) hx hb dP_init_39 (by decide) ?_
  refine lv_iload_n hx hb dP_init_23 rfl (lv_at hl 0 rfl) ?_
  refine lv_bipush (v := 24) hx hb dP_init_24 (by decide) ?_
  refine lv_icmp_ge (tgt := 42) hx hb dP_init_26 (by decide) (fun c12 => absurd c12 (by decide)) (fun _ => ?_)
  refine lv_aload_n hx hb dP_init_29 rfl (lv_at hl 1 rfl) ?_
  refine va_get (D := (dC, dI)) (ci := 2) (v := .ref q3) (C := "MeshedSpans$Spans") (T := mc_T2) (N := 3) hx hb hts mc_in2 hown hK hP 0 rfl rfl 1 (by decide) (hts _ gm_75) (fun _ h9 => h9) rfl dP_init_30 ?_
  refine lv_iload_n hx hb dP_init_33 rfl (lv_at hl 0 rfl) ?_
  refine lv_iconst (v := (-1)) hx hb dP_init_34 (by decide) ?_
  refine va_iast hx hb hK hP hD hS 2 1 rfl rfl (vp_in_lit (by decide)) dP_init_35 (fun H locs hP hD hS => ?_)
  have hP : va_P (dC, dI) al_cl [(h0, .inr (2, [.ref q1, .ref q3, .null])), (q1, .inl (k2, 192, .inl (fun _ => 0))), (q3, .inl (k4, 24, .inl (upd (upd (upd (upd (upd (upd (upd (upd (fun _ => 0) (Int32.toNatClampNeg 0) (-1)) (Int32.toNatClampNeg 1) (-1)) (Int32.toNatClampNeg 2) (-1)) (Int32.toNatClampNeg 3) (-1)) (Int32.toNatClampNeg 4) (-1)) (Int32.toNatClampNeg 5) (-1)) (Int32.toNatClampNeg 6) (-1)) (Int32.toNatClampNeg 7) (-1))))] H := hP
  have hD : va_D A [(h0, .inr (2, [.ref q1, .ref q3, .null])), (q1, .inl (k2, 192, .inl (fun _ => 0))), (q3, .inl (k4, 24, .inl (upd (upd (upd (upd (upd (upd (upd (upd (fun _ => 0) (Int32.toNatClampNeg 0) (-1)) (Int32.toNatClampNeg 1) (-1)) (Int32.toNatClampNeg 2) (-1)) (Int32.toNatClampNeg 3) (-1)) (Int32.toNatClampNeg 4) (-1)) (Int32.toNatClampNeg 5) (-1)) (Int32.toNatClampNeg 6) (-1)) (Int32.toNatClampNeg 7) (-1))))] := hD
  refine lv_iinc (v := 8) (lv' := [(1, .int 8), (0, .ref h0)]) hx hb dP_init_36 hl (k := 0) rfl (by decide) (by decide) rfl (fun ls hl => ?_)
  refine lv_goto (tgt := 23) hx hb dP_init_39 (by decide) ?_
  refine lv_iload_n hx hb dP_init_23 rfl (lv_at hl 0 rfl) ?_
  refine lv_bipush (v := 24) hx hb dP_init_24 (by decide) ?_
  refine lv_icmp_ge (tgt := 42) hx hb dP_init_26 (by decide) (fun c13 => absurd c13 (by decide)) (fun _ => ?_)
  refine lv_aload_n hx hb dP_init_29 rfl (lv_at hl 1 rfl) ?_
  refine va_get (D := (dC, dI)) (ci := 2) (v := .ref q3) (C := "MeshedSpans$Spans") (T := mc_T2) (N := 3) hx hb hts mc_in2 hown hK hP 0 rfl rfl 1 (by decide) (hts _ gm_75) (fun _ h9 => h9) rfl dP_init_30 ?_
  refine lv_iload_n hx hb dP_init_33 rfl (lv_at hl 0 rfl) ?_
  refine lv_iconst (v := (-1)) hx hb dP_init_34 (by decide) ?_
  refine va_iast hx hb hK hP hD hS 2 1 rfl rfl (vp_in_lit (by decide)) dP_init_35 (fun H locs hP hD hS => ?_)
  have hP : va_P (dC, dI) al_cl [(h0, .inr (2, [.ref q1, .ref q3, .null])), (q1, .inl (k2, 192, .inl (fun _ => 0))), (q3, .inl (k4, 24, .inl (upd (upd (upd (upd (upd (upd (upd (upd (upd (fun _ => 0) (Int32.toNatClampNeg 0) (-1)) (Int32.toNatClampNeg 1) (-1)) (Int32.toNatClampNeg 2) (-1)) (Int32.toNatClampNeg 3) (-1)) (Int32.toNatClampNeg 4) (-1)) (Int32.toNatClampNeg 5) (-1)) (Int32.toNatClampNeg 6) (-1)) (Int32.toNatClampNeg 7) (-1)) (Int32.toNatClampNeg 8) (-1))))] H := hP
  have hD : va_D A [(h0, .inr (2, [.ref q1, .ref q3, .null])), (q1, .inl (k2, 192, .inl (fun _ => 0))), (q3, .inl (k4, 24, .inl (upd (upd (upd (upd (upd (upd (upd (upd (upd (fun _ => 0) (Int32.toNatClampNeg 0) (-1)) (Int32.toNatClampNeg 1) (-1)) (Int32.toNatClampNeg 2) (-1)) (Int32.toNatClampNeg 3) (-1)) (Int32.toNatClampNeg 4) (-1)) (Int32.toNatClampNeg 5) (-1)) (Int32.toNatClampNeg 6) (-1)) (Int32.toNatClampNeg 7) (-1)) (Int32.toNatClampNeg 8) (-1))))] := hD
  refine lv_iinc (v := 9) (lv' := [(1, .int 9), (0, .ref h0)]) hx hb dP_init_36 hl (k := 0) rfl (by decide) (by decide) rfl (fun ls hl => ?_)
  refine lv_goto (tgt := 23) hx hb dP_init_39 (by decide) ?_
  refine lv_iload_n hx hb dP_init_23 rfl (lv_at hl 0 rfl) ?_
  refine lv_bipush (v := 24) hx hb dP_init_24 (by decide) ?_
  refine lv_icmp_ge (tgt := 42) hx hb dP_init_26 (by decide) (fun c14 => absurd c14 (by decide)) (fun _ => ?_)
  refine lv_aload_n hx hb dP_init_29 rfl (lv_at hl 1 rfl) ?_
  refine va_get (D := (dC, dI)) (ci := 2) (v := .ref q3) (C := "MeshedSpans$Spans") (T := mc_T2) (N := 3) hx hb hts mc_in2 hown hK hP 0 rfl rfl 1 (by decide) (hts _ gm_75) (fun _ h9 => h9) rfl dP_init_30 ?_
  refine lv_iload_n hx hb dP_init_33 rfl (lv_at hl 0 rfl) ?_
  refine lv_iconst (v := (-1)) hx hb dP_init_34 (by decide) ?_
  refine va_iast hx hb hK hP hD hS 2 1 rfl rfl (vp_in_lit (by decide)) dP_init_35 (fun H locs hP hD hS => ?_)
  have hP : va_P (dC, dI) al_cl [(h0, .inr (2, [.ref q1, .ref q3, .null])), (q1, .inl (k2, 192, .inl (fun _ => 0))), (q3, .inl (k4, 24, .inl (upd (upd (upd (upd (upd (upd (upd (upd (upd (upd (fun _ => 0) (Int32.toNatClampNeg 0) (-1)) (Int32.toNatClampNeg 1) (-1)) (Int32.toNatClampNeg 2) (-1)) (Int32.toNatClampNeg 3) (-1)) (Int32.toNatClampNeg 4) (-1)) (Int32.toNatClampNeg 5) (-1)) (Int32.toNatClampNeg 6) (-1)) (Int32.toNatClampNeg 7) (-1)) (Int32.toNatClampNeg 8) (-1)) (Int32.toNatClampNeg 9) (-1))))] H := hP
  have hD : va_D A [(h0, .inr (2, [.ref q1, .ref q3, .null])), (q1, .inl (k2, 192, .inl (fun _ => 0))), (q3, .inl (k4, 24, .inl (upd (upd (upd (upd (upd (upd (upd (upd (upd (upd (fun _ => 0) (Int32.toNatClampNeg 0) (-1)) (Int32.toNatClampNeg 1) (-1)) (Int32.toNatClampNeg 2) (-1)) (Int32.toNatClampNeg 3) (-1)) (Int32.toNatClampNeg 4) (-1)) (Int32.toNatClampNeg 5) (-1)) (Int32.toNatClampNeg 6) (-1)) (Int32.toNatClampNeg 7) (-1)) (Int32.toNatClampNeg 8) (-1)) (Int32.toNatClampNeg 9) (-1))))] := hD
  refine lv_iinc (v := 10) (lv' := [(1, .int 10), (0, .ref h0)]) hx hb dP_init_36 hl (k := 0) rfl (by decide) (by decide) rfl (fun ls hl => ?_)
  refine lv_goto (tgt := 23) hx hb dP_init_39 (by decide) ?_
  refine lv_iload_n hx hb dP_init_23 rfl (lv_at hl 0 rfl) ?_
  refine lv_bipush (v := 24) hx hb dP_init_24 (by decide) ?_
  refine lv_icmp_ge (tgt := 42) hx hb dP_init_26 (by decide) (fun c15 => absurd c15 (by decide)) (fun _ => ?_)
  refine lv_aload_n hx hb dP_init_29 rfl (lv_at hl 1 rfl) ?_
  refine va_get (D := (dC, dI)) (ci := 2) (v := .ref q3) (C := "MeshedSpans$Spans") (T := mc_T2) (N := 3) hx hb hts mc_in2 hown hK hP 0 rfl rfl 1 (by decide) (hts _ gm_75) (fun _ h9 => h9) rfl dP_init_30 ?_
  refine lv_iload_n hx hb dP_init_33 rfl (lv_at hl 0 rfl) ?_
  refine lv_iconst (v := (-1)) hx hb dP_init_34 (by decide) ?_
  refine va_iast hx hb hK hP hD hS 2 1 rfl rfl (vp_in_lit (by decide)) dP_init_35 (fun H locs hP hD hS => ?_)
  have hP : va_P (dC, dI) al_cl [(h0, .inr (2, [.ref q1, .ref q3, .null])), (q1, .inl (k2, 192, .inl (fun _ => 0))), (q3, .inl (k4, 24, .inl (upd (upd (upd (upd (upd (upd (upd (upd (upd (upd (upd (fun _ => 0) (Int32.toNatClampNeg 0) (-1)) (Int32.toNatClampNeg 1) (-1)) (Int32.toNatClampNeg 2) (-1)) (Int32.toNatClampNeg 3) (-1)) (Int32.toNatClampNeg 4) (-1)) (Int32.toNatClampNeg 5) (-1)) (Int32.toNatClampNeg 6) (-1)) (Int32.toNatClampNeg 7) (-1)) (Int32.toNatClampNeg 8) (-1)) (Int32.toNatClampNeg 9) (-1)) (Int32.toNatClampNeg 10) (-1))))] H := hP
  have hD : va_D A [(h0, .inr (2, [.ref q1, .ref q3, .null])), (q1, .inl (k2, 192, .inl (fun _ => 0))), (q3, .inl (k4, 24, .inl (upd (upd (upd (upd (upd (upd (upd (upd (upd (upd (upd (fun _ => 0) (Int32.toNatClampNeg 0) (-1)) (Int32.toNatClampNeg 1) (-1)) (Int32.toNatClampNeg 2) (-1)) (Int32.toNatClampNeg 3) (-1)) (Int32.toNatClampNeg 4) (-1)) (Int32.toNatClampNeg 5) (-1)) (Int32.toNatClampNeg 6) (-1)) (Int32.toNatClampNeg 7) (-1)) (Int32.toNatClampNeg 8) (-1)) (Int32.toNatClampNeg 9) (-1)) (Int32.toNatClampNeg 10) (-1))))] := hD
  refine lv_iinc (v := 11) (lv' := [(1, .int 11), (0, .ref h0)]) hx hb dP_init_36 hl (k := 0) rfl (by decide) (by decide) rfl (fun ls hl => ?_)
  refine lv_goto (tgt := 23) hx hb dP_init_39 (by decide) ?_
  refine lv_iload_n hx hb dP_init_23 rfl (lv_at hl 0 rfl) ?_
  refine lv_bipush (v := 24) hx hb dP_init_24 (by decide) ?_
  refine lv_icmp_ge (tgt := 42) hx hb dP_init_26 (by decide) (fun c16 => absurd c16 (by decide)) (fun _ => ?_)
  refine lv_aload_n hx hb dP_init_29 rfl (lv_at hl 1 rfl) ?_
  refine va_get (D := (dC, dI)) (ci := 2) (v := .ref q3) (C := "MeshedSpans$Spans") (T := mc_T2) (N := 3) hx hb hts mc_in2 hown hK hP 0 rfl rfl 1 (by decide) (hts _ gm_75) (fun _ h9 => h9) rfl dP_init_30 ?_
  refine lv_iload_n hx hb dP_init_33 rfl (lv_at hl 0 rfl) ?_
  refine lv_iconst (v := (-1)) hx hb dP_init_34 (by decide) ?_
  refine va_iast hx hb hK hP hD hS 2 1 rfl rfl (vp_in_lit (by decide)) dP_init_35 (fun H locs hP hD hS => ?_)
  have hP : va_P (dC, dI) al_cl [(h0, .inr (2, [.ref q1, .ref q3, .null])), (q1, .inl (k2, 192, .inl (fun _ => 0))), (q3, .inl (k4, 24, .inl (upd (upd (upd (upd (upd (upd (upd (upd (upd (upd (upd (upd (fun _ => 0) (Int32.toNatClampNeg 0) (-1)) (Int32.toNatClampNeg 1) (-1)) (Int32.toNatClampNeg 2) (-1)) (Int32.toNatClampNeg 3) (-1)) (Int32.toNatClampNeg 4) (-1)) (Int32.toNatClampNeg 5) (-1)) (Int32.toNatClampNeg 6) (-1)) (Int32.toNatClampNeg 7) (-1)) (Int32.toNatClampNeg 8) (-1)) (Int32.toNatClampNeg 9) (-1)) (Int32.toNatClampNeg 10) (-1)) (Int32.toNatClampNeg 11) (-1))))] H := hP
  have hD : va_D A [(h0, .inr (2, [.ref q1, .ref q3, .null])), (q1, .inl (k2, 192, .inl (fun _ => 0))), (q3, .inl (k4, 24, .inl (upd (upd (upd (upd (upd (upd (upd (upd (upd (upd (upd (upd (fun _ => 0) (Int32.toNatClampNeg 0) (-1)) (Int32.toNatClampNeg 1) (-1)) (Int32.toNatClampNeg 2) (-1)) (Int32.toNatClampNeg 3) (-1)) (Int32.toNatClampNeg 4) (-1)) (Int32.toNatClampNeg 5) (-1)) (Int32.toNatClampNeg 6) (-1)) (Int32.toNatClampNeg 7) (-1)) (Int32.toNatClampNeg 8) (-1)) (Int32.toNatClampNeg 9) (-1)) (Int32.toNatClampNeg 10) (-1)) (Int32.toNatClampNeg 11) (-1))))] := hD
  refine lv_iinc (v := 12) (lv' := [(1, .int 12), (0, .ref h0)]) hx hb dP_init_36 hl (k := 0) rfl (by decide) (by decide) rfl (fun ls hl => ?_)
  refine lv_goto (tgt := 23) hx hb dP_init_39 (by decide) ?_
  refine lv_iload_n hx hb dP_init_23 rfl (lv_at hl 0 rfl) ?_
  refine lv_bipush (v := 24) hx hb dP_init_24 (by decide) ?_
  refine lv_icmp_ge (tgt := 42) hx hb dP_init_26 (by decide) (fun c17 => absurd c17 (by decide)) (fun _ => ?_)
  refine lv_aload_n hx hb dP_init_29 rfl (lv_at hl 1 rfl) ?_
  refine va_get (D := (dC, dI)) (ci := 2) (v := .ref q3) (C := "MeshedSpans$Spans") (T := mc_T2) (N := 3) hx hb hts mc_in2 hown hK hP 0 rfl rfl 1 (by decide) (hts _ gm_75) (fun _ h9 => h9) rfl dP_init_30 ?_
  refine lv_iload_n hx hb dP_init_33 rfl (lv_at hl 0 rfl) ?_
  refine lv_iconst (v := (-1)) hx hb dP_init_34 (by decide) ?_
  refine va_iast hx hb hK hP hD hS 2 1 rfl rfl (vp_in_lit (by decide)) dP_init_35 (fun H locs hP hD hS => ?_)
  have hP : va_P (dC, dI) al_cl [(h0, .inr (2, [.ref q1, .ref q3, .null])), (q1, .inl (k2, 192, .inl (fun _ => 0))), (q3, .inl (k4, 24, .inl (upd (upd (upd (upd (upd (upd (upd (upd (upd (upd (upd (upd (upd (fun _ => 0) (Int32.toNatClampNeg 0) (-1)) (Int32.toNatClampNeg 1) (-1)) (Int32.toNatClampNeg 2) (-1)) (Int32.toNatClampNeg 3) (-1)) (Int32.toNatClampNeg 4) (-1)) (Int32.toNatClampNeg 5) (-1)) (Int32.toNatClampNeg 6) (-1)) (Int32.toNatClampNeg 7) (-1)) (Int32.toNatClampNeg 8) (-1)) (Int32.toNatClampNeg 9) (-1)) (Int32.toNatClampNeg 10) (-1)) (Int32.toNatClampNeg 11) (-1)) (Int32.toNatClampNeg 12) (-1))))] H := hP
  have hD : va_D A [(h0, .inr (2, [.ref q1, .ref q3, .null])), (q1, .inl (k2, 192, .inl (fun _ => 0))), (q3, .inl (k4, 24, .inl (upd (upd (upd (upd (upd (upd (upd (upd (upd (upd (upd (upd (upd (fun _ => 0) (Int32.toNatClampNeg 0) (-1)) (Int32.toNatClampNeg 1) (-1)) (Int32.toNatClampNeg 2) (-1)) (Int32.toNatClampNeg 3) (-1)) (Int32.toNatClampNeg 4) (-1)) (Int32.toNatClampNeg 5) (-1)) (Int32.toNatClampNeg 6) (-1)) (Int32.toNatClampNeg 7) (-1)) (Int32.toNatClampNeg 8) (-1)) (Int32.toNatClampNeg 9) (-1)) (Int32.toNatClampNeg 10) (-1)) (Int32.toNatClampNeg 11) (-1)) (Int32.toNatClampNeg 12) (-1))))] := hD
  refine lv_iinc (v := 13) (lv' := [(1, .int 13), (0, .ref h0)]) hx hb dP_init_36 hl (k := 0) rfl (by decide) (by decide) rfl (fun ls hl => ?_)
  refine lv_goto (tgt := 23) hx hb dP_init_39 (by decide) ?_
  refine lv_iload_n hx hb dP_init_23 rfl (lv_at hl 0 rfl) ?_
  refine lv_bipush (v := 24) hx hb dP_init_24 (by decide) ?_
  refine lv_icmp_ge (tgt := 42) hx hb dP_init_26 (by decide) (fun c18 => absurd c18 (by decide)) (fun _ => ?_)
  refine lv_aload_n hx hb dP_init_29 rfl (lv_at hl 1 rfl) ?_
  refine va_get (D := (dC, dI)) (ci := 2) (v := .ref q3) (C := "MeshedSpans$Spans") (T := mc_T2) (N := 3) hx hb hts mc_in2 hown hK hP 0 rfl rfl 1 (by decide) (hts _ gm_75) (fun _ h9 => h9) rfl dP_init_30 ?_
  refine lv_iload_n hx hb dP_init_33 rfl (lv_at hl 0 rfl) ?_
  refine lv_iconst (v := (-1)) hx hb dP_init_34 (by decide) ?_
  refine va_iast hx hb hK hP hD hS 2 1 rfl rfl (vp_in_lit (by decide)) dP_init_35 (fun H locs hP hD hS => ?_)
  have hP : va_P (dC, dI) al_cl [(h0, .inr (2, [.ref q1, .ref q3, .null])), (q1, .inl (k2, 192, .inl (fun _ => 0))), (q3, .inl (k4, 24, .inl (upd (upd (upd (upd (upd (upd (upd (upd (upd (upd (upd (upd (upd (upd (fun _ => 0) (Int32.toNatClampNeg 0) (-1)) (Int32.toNatClampNeg 1) (-1)) (Int32.toNatClampNeg 2) (-1)) (Int32.toNatClampNeg 3) (-1)) (Int32.toNatClampNeg 4) (-1)) (Int32.toNatClampNeg 5) (-1)) (Int32.toNatClampNeg 6) (-1)) (Int32.toNatClampNeg 7) (-1)) (Int32.toNatClampNeg 8) (-1)) (Int32.toNatClampNeg 9) (-1)) (Int32.toNatClampNeg 10) (-1)) (Int32.toNatClampNeg 11) (-1)) (Int32.toNatClampNeg 12) (-1)) (Int32.toNatClampNeg 13) (-1))))] H := hP
  have hD : va_D A [(h0, .inr (2, [.ref q1, .ref q3, .null])), (q1, .inl (k2, 192, .inl (fun _ => 0))), (q3, .inl (k4, 24, .inl (upd (upd (upd (upd (upd (upd (upd (upd (upd (upd (upd (upd (upd (upd (fun _ => 0) (Int32.toNatClampNeg 0) (-1)) (Int32.toNatClampNeg 1) (-1)) (Int32.toNatClampNeg 2) (-1)) (Int32.toNatClampNeg 3) (-1)) (Int32.toNatClampNeg 4) (-1)) (Int32.toNatClampNeg 5) (-1)) (Int32.toNatClampNeg 6) (-1)) (Int32.toNatClampNeg 7) (-1)) (Int32.toNatClampNeg 8) (-1)) (Int32.toNatClampNeg 9) (-1)) (Int32.toNatClampNeg 10) (-1)) (Int32.toNatClampNeg 11) (-1)) (Int32.toNatClampNeg 12) (-1)) (Int32.toNatClampNeg 13) (-1))))] := hD
  refine lv_iinc (v := 14) (lv' := [(1, .int 14), (0, .ref h0)]) hx hb dP_init_36 hl (k := 0) rfl (by decide) (by decide) rfl (fun ls hl => ?_)
  refine lv_goto (tgt := 23) hx hb dP_init_39 (by decide) ?_
  refine lv_iload_n hx hb dP_init_23 rfl (lv_at hl 0 rfl) ?_
  refine lv_bipush (v := 24) hx hb dP_init_24 (by decide) ?_
  refine lv_icmp_ge (tgt := 42) hx hb dP_init_26 (by decide) (fun c19 => absurd c19 (by decide)) (fun _ => ?_)
  refine lv_aload_n hx hb dP_init_29 rfl (lv_at hl 1 rfl) ?_
  refine va_get (D := (dC, dI)) (ci := 2) (v := .ref q3) (C := "MeshedSpans$Spans") (T := mc_T2) (N := 3) hx hb hts mc_in2 hown hK hP 0 rfl rfl 1 (by decide) (hts _ gm_75) (fun _ h9 => h9) rfl dP_init_30 ?_
  refine lv_iload_n hx hb dP_init_33 rfl (lv_at hl 0 rfl) ?_
  refine lv_iconst (v := (-1)) hx hb dP_init_34 (by decide) ?_
  refine va_iast hx hb hK hP hD hS 2 1 rfl rfl (vp_in_lit (by decide)) dP_init_35 (fun H locs hP hD hS => ?_)
  have hP : va_P (dC, dI) al_cl [(h0, .inr (2, [.ref q1, .ref q3, .null])), (q1, .inl (k2, 192, .inl (fun _ => 0))), (q3, .inl (k4, 24, .inl (upd (upd (upd (upd (upd (upd (upd (upd (upd (upd (upd (upd (upd (upd (upd (fun _ => 0) (Int32.toNatClampNeg 0) (-1)) (Int32.toNatClampNeg 1) (-1)) (Int32.toNatClampNeg 2) (-1)) (Int32.toNatClampNeg 3) (-1)) (Int32.toNatClampNeg 4) (-1)) (Int32.toNatClampNeg 5) (-1)) (Int32.toNatClampNeg 6) (-1)) (Int32.toNatClampNeg 7) (-1)) (Int32.toNatClampNeg 8) (-1)) (Int32.toNatClampNeg 9) (-1)) (Int32.toNatClampNeg 10) (-1)) (Int32.toNatClampNeg 11) (-1)) (Int32.toNatClampNeg 12) (-1)) (Int32.toNatClampNeg 13) (-1)) (Int32.toNatClampNeg 14) (-1))))] H := hP
  have hD : va_D A [(h0, .inr (2, [.ref q1, .ref q3, .null])), (q1, .inl (k2, 192, .inl (fun _ => 0))), (q3, .inl (k4, 24, .inl (upd (upd (upd (upd (upd (upd (upd (upd (upd (upd (upd (upd (upd (upd (upd (fun _ => 0) (Int32.toNatClampNeg 0) (-1)) (Int32.toNatClampNeg 1) (-1)) (Int32.toNatClampNeg 2) (-1)) (Int32.toNatClampNeg 3) (-1)) (Int32.toNatClampNeg 4) (-1)) (Int32.toNatClampNeg 5) (-1)) (Int32.toNatClampNeg 6) (-1)) (Int32.toNatClampNeg 7) (-1)) (Int32.toNatClampNeg 8) (-1)) (Int32.toNatClampNeg 9) (-1)) (Int32.toNatClampNeg 10) (-1)) (Int32.toNatClampNeg 11) (-1)) (Int32.toNatClampNeg 12) (-1)) (Int32.toNatClampNeg 13) (-1)) (Int32.toNatClampNeg 14) (-1))))] := hD
  refine lv_iinc (v := 15) (lv' := [(1, .int 15), (0, .ref h0)]) hx hb dP_init_36 hl (k := 0) rfl (by decide) (by decide) rfl (fun ls hl => ?_)
  refine lv_goto (tgt := 23) hx hb dP_init_39 (by decide) ?_
  refine lv_iload_n hx hb dP_init_23 rfl (lv_at hl 0 rfl) ?_
  refine lv_bipush (v := 24) hx hb dP_init_24 (by decide) ?_
  refine lv_icmp_ge (tgt := 42) hx hb dP_init_26 (by decide) (fun c20 => absurd c20 (by decide)) (fun _ => ?_)
  refine lv_aload_n hx hb dP_init_29 rfl (lv_at hl 1 rfl) ?_
  refine va_get (D := (dC, dI)) (ci := 2) (v := .ref q3) (C := "MeshedSpans$Spans") (T := mc_T2) (N := 3) hx hb hts mc_in2 hown hK hP 0 rfl rfl 1 (by decide) (hts _ gm_75) (fun _ h9 => h9) rfl dP_init_30 ?_
  refine lv_iload_n hx hb dP_init_33 rfl (lv_at hl 0 rfl) ?_
  refine lv_iconst (v := (-1)) hx hb dP_init_34 (by decide) ?_
  refine va_iast hx hb hK hP hD hS 2 1 rfl rfl (vp_in_lit (by decide)) dP_init_35 (fun H locs hP hD hS => ?_)
  have hP : va_P (dC, dI) al_cl [(h0, .inr (2, [.ref q1, .ref q3, .null])), (q1, .inl (k2, 192, .inl (fun _ => 0))), (q3, .inl (k4, 24, .inl (upd (upd (upd (upd (upd (upd (upd (upd (upd (upd (upd (upd (upd (upd (upd (upd (fun _ => 0) (Int32.toNatClampNeg 0) (-1)) (Int32.toNatClampNeg 1) (-1)) (Int32.toNatClampNeg 2) (-1)) (Int32.toNatClampNeg 3) (-1)) (Int32.toNatClampNeg 4) (-1)) (Int32.toNatClampNeg 5) (-1)) (Int32.toNatClampNeg 6) (-1)) (Int32.toNatClampNeg 7) (-1)) (Int32.toNatClampNeg 8) (-1)) (Int32.toNatClampNeg 9) (-1)) (Int32.toNatClampNeg 10) (-1)) (Int32.toNatClampNeg 11) (-1)) (Int32.toNatClampNeg 12) (-1)) (Int32.toNatClampNeg 13) (-1)) (Int32.toNatClampNeg 14) (-1)) (Int32.toNatClampNeg 15) (-1))))] H := hP
  have hD : va_D A [(h0, .inr (2, [.ref q1, .ref q3, .null])), (q1, .inl (k2, 192, .inl (fun _ => 0))), (q3, .inl (k4, 24, .inl (upd (upd (upd (upd (upd (upd (upd (upd (upd (upd (upd (upd (upd (upd (upd (upd (fun _ => 0) (Int32.toNatClampNeg 0) (-1)) (Int32.toNatClampNeg 1) (-1)) (Int32.toNatClampNeg 2) (-1)) (Int32.toNatClampNeg 3) (-1)) (Int32.toNatClampNeg 4) (-1)) (Int32.toNatClampNeg 5) (-1)) (Int32.toNatClampNeg 6) (-1)) (Int32.toNatClampNeg 7) (-1)) (Int32.toNatClampNeg 8) (-1)) (Int32.toNatClampNeg 9) (-1)) (Int32.toNatClampNeg 10) (-1)) (Int32.toNatClampNeg 11) (-1)) (Int32.toNatClampNeg 12) (-1)) (Int32.toNatClampNeg 13) (-1)) (Int32.toNatClampNeg 14) (-1)) (Int32.toNatClampNeg 15) (-1))))] := hD
  refine lv_iinc (v := 16) (lv' := [(1, .int 16), (0, .ref h0)]) hx hb dP_init_36 hl (k := 0) rfl (by decide) (by decide) rfl (fun ls hl => ?_)
  refine lv_goto (tgt := 23) hx hb dP_init_39 (by decide) ?_
  refine lv_iload_n hx hb dP_init_23 rfl (lv_at hl 0 rfl) ?_
  refine lv_bipush (v := 24) hx hb dP_init_24 (by decide) ?_
  refine lv_icmp_ge (tgt := 42) hx hb dP_init_26 (by decide) (fun c21 => absurd c21 (by decide)) (fun _ => ?_)
  refine lv_aload_n hx hb dP_init_29 rfl (lv_at hl 1 rfl) ?_
  refine va_get (D := (dC, dI)) (ci := 2) (v := .ref q3) (C := "MeshedSpans$Spans") (T := mc_T2) (N := 3) hx hb hts mc_in2 hown hK hP 0 rfl rfl 1 (by decide) (hts _ gm_75) (fun _ h9 => h9) rfl dP_init_30 ?_
  refine lv_iload_n hx hb dP_init_33 rfl (lv_at hl 0 rfl) ?_
  refine lv_iconst (v := (-1)) hx hb dP_init_34 (by decide) ?_
  refine va_iast hx hb hK hP hD hS 2 1 rfl rfl (vp_in_lit (by decide)) dP_init_35 (fun H locs hP hD hS => ?_)
  have hP : va_P (dC, dI) al_cl [(h0, .inr (2, [.ref q1, .ref q3, .null])), (q1, .inl (k2, 192, .inl (fun _ => 0))), (q3, .inl (k4, 24, .inl (upd (upd (upd (upd (upd (upd (upd (upd (upd (upd (upd (upd (upd (upd (upd (upd (upd (fun _ => 0) (Int32.toNatClampNeg 0) (-1)) (Int32.toNatClampNeg 1) (-1)) (Int32.toNatClampNeg 2) (-1)) (Int32.toNatClampNeg 3) (-1)) (Int32.toNatClampNeg 4) (-1)) (Int32.toNatClampNeg 5) (-1)) (Int32.toNatClampNeg 6) (-1)) (Int32.toNatClampNeg 7) (-1)) (Int32.toNatClampNeg 8) (-1)) (Int32.toNatClampNeg 9) (-1)) (Int32.toNatClampNeg 10) (-1)) (Int32.toNatClampNeg 11) (-1)) (Int32.toNatClampNeg 12) (-1)) (Int32.toNatClampNeg 13) (-1)) (Int32.toNatClampNeg 14) (-1)) (Int32.toNatClampNeg 15) (-1)) (Int32.toNatClampNeg 16) (-1))))] H := hP
  have hD : va_D A [(h0, .inr (2, [.ref q1, .ref q3, .null])), (q1, .inl (k2, 192, .inl (fun _ => 0))), (q3, .inl (k4, 24, .inl (upd (upd (upd (upd (upd (upd (upd (upd (upd (upd (upd (upd (upd (upd (upd (upd (upd (fun _ => 0) (Int32.toNatClampNeg 0) (-1)) (Int32.toNatClampNeg 1) (-1)) (Int32.toNatClampNeg 2) (-1)) (Int32.toNatClampNeg 3) (-1)) (Int32.toNatClampNeg 4) (-1)) (Int32.toNatClampNeg 5) (-1)) (Int32.toNatClampNeg 6) (-1)) (Int32.toNatClampNeg 7) (-1)) (Int32.toNatClampNeg 8) (-1)) (Int32.toNatClampNeg 9) (-1)) (Int32.toNatClampNeg 10) (-1)) (Int32.toNatClampNeg 11) (-1)) (Int32.toNatClampNeg 12) (-1)) (Int32.toNatClampNeg 13) (-1)) (Int32.toNatClampNeg 14) (-1)) (Int32.toNatClampNeg 15) (-1)) (Int32.toNatClampNeg 16) (-1))))] := hD
  refine lv_iinc (v := 17) (lv' := [(1, .int 17), (0, .ref h0)]) hx hb dP_init_36 hl (k := 0) rfl (by decide) (by decide) rfl (fun ls hl => ?_)
  refine lv_goto (tgt := 23) hx hb dP_init_39 (by decide) ?_
  refine lv_iload_n hx hb dP_init_23 rfl (lv_at hl 0 rfl) ?_
  refine lv_bipush (v := 24) hx hb dP_init_24 (by decide) ?_
  refine lv_icmp_ge (tgt := 42) hx hb dP_init_26 (by decide) (fun c22 => absurd c22 (by decide)) (fun _ => ?_)
  refine lv_aload_n hx hb dP_init_29 rfl (lv_at hl 1 rfl) ?_
  refine va_get (D := (dC, dI)) (ci := 2) (v := .ref q3) (C := "MeshedSpans$Spans") (T := mc_T2) (N := 3) hx hb hts mc_in2 hown hK hP 0 rfl rfl 1 (by decide) (hts _ gm_75) (fun _ h9 => h9) rfl dP_init_30 ?_
  refine lv_iload_n hx hb dP_init_33 rfl (lv_at hl 0 rfl) ?_
  refine lv_iconst (v := (-1)) hx hb dP_init_34 (by decide) ?_
  refine va_iast hx hb hK hP hD hS 2 1 rfl rfl (vp_in_lit (by decide)) dP_init_35 (fun H locs hP hD hS => ?_)
  have hP : va_P (dC, dI) al_cl [(h0, .inr (2, [.ref q1, .ref q3, .null])), (q1, .inl (k2, 192, .inl (fun _ => 0))), (q3, .inl (k4, 24, .inl (upd (upd (upd (upd (upd (upd (upd (upd (upd (upd (upd (upd (upd (upd (upd (upd (upd (upd (fun _ => 0) (Int32.toNatClampNeg 0) (-1)) (Int32.toNatClampNeg 1) (-1)) (Int32.toNatClampNeg 2) (-1)) (Int32.toNatClampNeg 3) (-1)) (Int32.toNatClampNeg 4) (-1)) (Int32.toNatClampNeg 5) (-1)) (Int32.toNatClampNeg 6) (-1)) (Int32.toNatClampNeg 7) (-1)) (Int32.toNatClampNeg 8) (-1)) (Int32.toNatClampNeg 9) (-1)) (Int32.toNatClampNeg 10) (-1)) (Int32.toNatClampNeg 11) (-1)) (Int32.toNatClampNeg 12) (-1)) (Int32.toNatClampNeg 13) (-1)) (Int32.toNatClampNeg 14) (-1)) (Int32.toNatClampNeg 15) (-1)) (Int32.toNatClampNeg 16) (-1)) (Int32.toNatClampNeg 17) (-1))))] H := hP
  have hD : va_D A [(h0, .inr (2, [.ref q1, .ref q3, .null])), (q1, .inl (k2, 192, .inl (fun _ => 0))), (q3, .inl (k4, 24, .inl (upd (upd (upd (upd (upd (upd (upd (upd (upd (upd (upd (upd (upd (upd (upd (upd (upd (upd (fun _ => 0) (Int32.toNatClampNeg 0) (-1)) (Int32.toNatClampNeg 1) (-1)) (Int32.toNatClampNeg 2) (-1)) (Int32.toNatClampNeg 3) (-1)) (Int32.toNatClampNeg 4) (-1)) (Int32.toNatClampNeg 5) (-1)) (Int32.toNatClampNeg 6) (-1)) (Int32.toNatClampNeg 7) (-1)) (Int32.toNatClampNeg 8) (-1)) (Int32.toNatClampNeg 9) (-1)) (Int32.toNatClampNeg 10) (-1)) (Int32.toNatClampNeg 11) (-1)) (Int32.toNatClampNeg 12) (-1)) (Int32.toNatClampNeg 13) (-1)) (Int32.toNatClampNeg 14) (-1)) (Int32.toNatClampNeg 15) (-1)) (Int32.toNatClampNeg 16) (-1)) (Int32.toNatClampNeg 17) (-1))))] := hD
  refine lv_iinc (v := 18) (lv' := [(1, .int 18), (0, .ref h0)]) hx hb dP_init_36 hl (k := 0) rfl (by decide) (by decide) rfl (fun ls hl => ?_)
  refine lv_goto (tgt := 23) hx hb dP_init_39 (by decide) ?_
  refine lv_iload_n hx hb dP_init_23 rfl (lv_at hl 0 rfl) ?_
  refine lv_bipush (v := 24) hx hb dP_init_24 (by decide) ?_
  refine lv_icmp_ge (tgt := 42) hx hb dP_init_26 (by decide) (fun c23 => absurd c23 (by decide)) (fun _ => ?_)
  refine lv_aload_n hx hb dP_init_29 rfl (lv_at hl 1 rfl) ?_
  refine va_get (D := (dC, dI)) (ci := 2) (v := .ref q3) (C := "MeshedSpans$Spans") (T := mc_T2) (N := 3) hx hb hts mc_in2 hown hK hP 0 rfl rfl 1 (by decide) (hts _ gm_75) (fun _ h9 => h9) rfl dP_init_30 ?_
  refine lv_iload_n hx hb dP_init_33 rfl (lv_at hl 0 rfl) ?_
  refine lv_iconst (v := (-1)) hx hb dP_init_34 (by decide) ?_
  refine va_iast hx hb hK hP hD hS 2 1 rfl rfl (vp_in_lit (by decide)) dP_init_35 (fun H locs hP hD hS => ?_)
  have hP : va_P (dC, dI) al_cl [(h0, .inr (2, [.ref q1, .ref q3, .null])), (q1, .inl (k2, 192, .inl (fun _ => 0))), (q3, .inl (k4, 24, .inl (upd (upd (upd (upd (upd (upd (upd (upd (upd (upd (upd (upd (upd (upd (upd (upd (upd (upd (upd (fun _ => 0) (Int32.toNatClampNeg 0) (-1)) (Int32.toNatClampNeg 1) (-1)) (Int32.toNatClampNeg 2) (-1)) (Int32.toNatClampNeg 3) (-1)) (Int32.toNatClampNeg 4) (-1)) (Int32.toNatClampNeg 5) (-1)) (Int32.toNatClampNeg 6) (-1)) (Int32.toNatClampNeg 7) (-1)) (Int32.toNatClampNeg 8) (-1)) (Int32.toNatClampNeg 9) (-1)) (Int32.toNatClampNeg 10) (-1)) (Int32.toNatClampNeg 11) (-1)) (Int32.toNatClampNeg 12) (-1)) (Int32.toNatClampNeg 13) (-1)) (Int32.toNatClampNeg 14) (-1)) (Int32.toNatClampNeg 15) (-1)) (Int32.toNatClampNeg 16) (-1)) (Int32.toNatClampNeg 17) (-1)) (Int32.toNatClampNeg 18) (-1))))] H := hP
  have hD : va_D A [(h0, .inr (2, [.ref q1, .ref q3, .null])), (q1, .inl (k2, 192, .inl (fun _ => 0))), (q3, .inl (k4, 24, .inl (upd (upd (upd (upd (upd (upd (upd (upd (upd (upd (upd (upd (upd (upd (upd (upd (upd (upd (upd (fun _ => 0) (Int32.toNatClampNeg 0) (-1)) (Int32.toNatClampNeg 1) (-1)) (Int32.toNatClampNeg 2) (-1)) (Int32.toNatClampNeg 3) (-1)) (Int32.toNatClampNeg 4) (-1)) (Int32.toNatClampNeg 5) (-1)) (Int32.toNatClampNeg 6) (-1)) (Int32.toNatClampNeg 7) (-1)) (Int32.toNatClampNeg 8) (-1)) (Int32.toNatClampNeg 9) (-1)) (Int32.toNatClampNeg 10) (-1)) (Int32.toNatClampNeg 11) (-1)) (Int32.toNatClampNeg 12) (-1)) (Int32.toNatClampNeg 13) (-1)) (Int32.toNatClampNeg 14) (-1)) (Int32.toNatClampNeg 15) (-1)) (Int32.toNatClampNeg 16) (-1)) (Int32.toNatClampNeg 17) (-1)) (Int32.toNatClampNeg 18) (-1))))] := hD
  refine lv_iinc (v := 19) (lv' := [(1, .int 19), (0, .ref h0)]) hx hb dP_init_36 hl (k := 0) rfl (by decide) (by decide) rfl (fun ls hl => ?_)
  refine lv_goto (tgt := 23) hx hb dP_init_39 (by decide) ?_
  refine lv_iload_n hx hb dP_init_23 rfl (lv_at hl 0 rfl) ?_
  refine lv_bipush (v := 24) hx hb dP_init_24 (by decide) ?_
  refine lv_icmp_ge (tgt := 42) hx hb dP_init_26 (by decide) (fun c24 => absurd c24 (by decide)) (fun _ => ?_)
  refine lv_aload_n hx hb dP_init_29 rfl (lv_at hl 1 rfl) ?_
  refine va_get (D := (dC, dI)) (ci := 2) (v := .ref q3) (C := "MeshedSpans$Spans") (T := mc_T2) (N := 3) hx hb hts mc_in2 hown hK hP 0 rfl rfl 1 (by decide) (hts _ gm_75) (fun _ h9 => h9) rfl dP_init_30 ?_
  refine lv_iload_n hx hb dP_init_33 rfl (lv_at hl 0 rfl) ?_
  refine lv_iconst (v := (-1)) hx hb dP_init_34 (by decide) ?_
  refine va_iast hx hb hK hP hD hS 2 1 rfl rfl (vp_in_lit (by decide)) dP_init_35 (fun H locs hP hD hS => ?_)
  have hP : va_P (dC, dI) al_cl [(h0, .inr (2, [.ref q1, .ref q3, .null])), (q1, .inl (k2, 192, .inl (fun _ => 0))), (q3, .inl (k4, 24, .inl (upd (upd (upd (upd (upd (upd (upd (upd (upd (upd (upd (upd (upd (upd (upd (upd (upd (upd (upd (upd (fun _ => 0) (Int32.toNatClampNeg 0) (-1)) (Int32.toNatClampNeg 1) (-1)) (Int32.toNatClampNeg 2) (-1)) (Int32.toNatClampNeg 3) (-1)) (Int32.toNatClampNeg 4) (-1)) (Int32.toNatClampNeg 5) (-1)) (Int32.toNatClampNeg 6) (-1)) (Int32.toNatClampNeg 7) (-1)) (Int32.toNatClampNeg 8) (-1)) (Int32.toNatClampNeg 9) (-1)) (Int32.toNatClampNeg 10) (-1)) (Int32.toNatClampNeg 11) (-1)) (Int32.toNatClampNeg 12) (-1)) (Int32.toNatClampNeg 13) (-1)) (Int32.toNatClampNeg 14) (-1)) (Int32.toNatClampNeg 15) (-1)) (Int32.toNatClampNeg 16) (-1)) (Int32.toNatClampNeg 17) (-1)) (Int32.toNatClampNeg 18) (-1)) (Int32.toNatClampNeg 19) (-1))))] H := hP
  have hD : va_D A [(h0, .inr (2, [.ref q1, .ref q3, .null])), (q1, .inl (k2, 192, .inl (fun _ => 0))), (q3, .inl (k4, 24, .inl (upd (upd (upd (upd (upd (upd (upd (upd (upd (upd (upd (upd (upd (upd (upd (upd (upd (upd (upd (upd (fun _ => 0) (Int32.toNatClampNeg 0) (-1)) (Int32.toNatClampNeg 1) (-1)) (Int32.toNatClampNeg 2) (-1)) (Int32.toNatClampNeg 3) (-1)) (Int32.toNatClampNeg 4) (-1)) (Int32.toNatClampNeg 5) (-1)) (Int32.toNatClampNeg 6) (-1)) (Int32.toNatClampNeg 7) (-1)) (Int32.toNatClampNeg 8) (-1)) (Int32.toNatClampNeg 9) (-1)) (Int32.toNatClampNeg 10) (-1)) (Int32.toNatClampNeg 11) (-1)) (Int32.toNatClampNeg 12) (-1)) (Int32.toNatClampNeg 13) (-1)) (Int32.toNatClampNeg 14) (-1)) (Int32.toNatClampNeg 15) (-1)) (Int32.toNatClampNeg 16) (-1)) (Int32.toNatClampNeg 17) (-1)) (Int32.toNatClampNeg 18) (-1)) (Int32.toNatClampNeg 19) (-1))))] := hD
  refine lv_iinc (v := 20) (lv' := [(1, .int 20), (0, .ref h0)]) hx hb dP_init_36 hl (k := 0) rfl (by decide) (by decide) rfl (fun ls hl => ?_)
  refine lv_goto (tgt := 23) hx hb dP_init_39 (by decide) ?_
  refine lv_iload_n hx hb dP_init_23 rfl (lv_at hl 0 rfl) ?_
  refine lv_bipush (v := 24) hx hb dP_init_24 (by decide) ?_
  refine lv_icmp_ge (tgt := 42) hx hb dP_init_26 (by decide) (fun c25 => absurd c25 (by decide)) (fun _ => ?_)
  refine lv_aload_n hx hb dP_init_29 rfl (lv_at hl 1 rfl) ?_
  refine va_get (D := (dC, dI)) (ci := 2) (v := .ref q3) (C := "MeshedSpans$Spans") (T := mc_T2) (N := 3) hx hb hts mc_in2 hown hK hP 0 rfl rfl 1 (by decide) (hts _ gm_75) (fun _ h9 => h9) rfl dP_init_30 ?_
  refine lv_iload_n hx hb dP_init_33 rfl (lv_at hl 0 rfl) ?_
  refine lv_iconst (v := (-1)) hx hb dP_init_34 (by decide) ?_
  refine va_iast hx hb hK hP hD hS 2 1 rfl rfl (vp_in_lit (by decide)) dP_init_35 (fun H locs hP hD hS => ?_)
  have hP : va_P (dC, dI) al_cl [(h0, .inr (2, [.ref q1, .ref q3, .null])), (q1, .inl (k2, 192, .inl (fun _ => 0))), (q3, .inl (k4, 24, .inl (upd (upd (upd (upd (upd (upd (upd (upd (upd (upd (upd (upd (upd (upd (upd (upd (upd (upd (upd (upd (upd (fun _ => 0) (Int32.toNatClampNeg 0) (-1)) (Int32.toNatClampNeg 1) (-1)) (Int32.toNatClampNeg 2) (-1)) (Int32.toNatClampNeg 3) (-1)) (Int32.toNatClampNeg 4) (-1)) (Int32.toNatClampNeg 5) (-1)) (Int32.toNatClampNeg 6) (-1)) (Int32.toNatClampNeg 7) (-1)) (Int32.toNatClampNeg 8) (-1)) (Int32.toNatClampNeg 9) (-1)) (Int32.toNatClampNeg 10) (-1)) (Int32.toNatClampNeg 11) (-1)) (Int32.toNatClampNeg 12) (-1)) (Int32.toNatClampNeg 13) (-1)) (Int32.toNatClampNeg 14) (-1)) (Int32.toNatClampNeg 15) (-1)) (Int32.toNatClampNeg 16) (-1)) (Int32.toNatClampNeg 17) (-1)) (Int32.toNatClampNeg 18) (-1)) (Int32.toNatClampNeg 19) (-1)) (Int32.toNatClampNeg 20) (-1))))] H := hP
  have hD : va_D A [(h0, .inr (2, [.ref q1, .ref q3, .null])), (q1, .inl (k2, 192, .inl (fun _ => 0))), (q3, .inl (k4, 24, .inl (upd (upd (upd (upd (upd (upd (upd (upd (upd (upd (upd (upd (upd (upd (upd (upd (upd (upd (upd (upd (upd (fun _ => 0) (Int32.toNatClampNeg 0) (-1)) (Int32.toNatClampNeg 1) (-1)) (Int32.toNatClampNeg 2) (-1)) (Int32.toNatClampNeg 3) (-1)) (Int32.toNatClampNeg 4) (-1)) (Int32.toNatClampNeg 5) (-1)) (Int32.toNatClampNeg 6) (-1)) (Int32.toNatClampNeg 7) (-1)) (Int32.toNatClampNeg 8) (-1)) (Int32.toNatClampNeg 9) (-1)) (Int32.toNatClampNeg 10) (-1)) (Int32.toNatClampNeg 11) (-1)) (Int32.toNatClampNeg 12) (-1)) (Int32.toNatClampNeg 13) (-1)) (Int32.toNatClampNeg 14) (-1)) (Int32.toNatClampNeg 15) (-1)) (Int32.toNatClampNeg 16) (-1)) (Int32.toNatClampNeg 17) (-1)) (Int32.toNatClampNeg 18) (-1)) (Int32.toNatClampNeg 19) (-1)) (Int32.toNatClampNeg 20) (-1))))] := hD
  refine lv_iinc (v := 21) (lv' := [(1, .int 21), (0, .ref h0)]) hx hb dP_init_36 hl (k := 0) rfl (by decide) (by decide) rfl (fun ls hl => ?_)
  refine lv_goto (tgt := 23) hx hb dP_init_39 (by decide) ?_
  refine lv_iload_n hx hb dP_init_23 rfl (lv_at hl 0 rfl) ?_
  refine lv_bipush (v := 24) hx hb dP_init_24 (by decide) ?_
  refine lv_icmp_ge (tgt := 42) hx hb dP_init_26 (by decide) (fun c26 => absurd c26 (by decide)) (fun _ => ?_)
  refine lv_aload_n hx hb dP_init_29 rfl (lv_at hl 1 rfl) ?_
  refine va_get (D := (dC, dI)) (ci := 2) (v := .ref q3) (C := "MeshedSpans$Spans") (T := mc_T2) (N := 3) hx hb hts mc_in2 hown hK hP 0 rfl rfl 1 (by decide) (hts _ gm_75) (fun _ h9 => h9) rfl dP_init_30 ?_
  refine lv_iload_n hx hb dP_init_33 rfl (lv_at hl 0 rfl) ?_
  refine lv_iconst (v := (-1)) hx hb dP_init_34 (by decide) ?_
  refine va_iast hx hb hK hP hD hS 2 1 rfl rfl (vp_in_lit (by decide)) dP_init_35 (fun H locs hP hD hS => ?_)
  have hP : va_P (dC, dI) al_cl [(h0, .inr (2, [.ref q1, .ref q3, .null])), (q1, .inl (k2, 192, .inl (fun _ => 0))), (q3, .inl (k4, 24, .inl (upd (upd (upd (upd (upd (upd (upd (upd (upd (upd (upd (upd (upd (upd (upd (upd (upd (upd (upd (upd (upd (upd (fun _ => 0) (Int32.toNatClampNeg 0) (-1)) (Int32.toNatClampNeg 1) (-1)) (Int32.toNatClampNeg 2) (-1)) (Int32.toNatClampNeg 3) (-1)) (Int32.toNatClampNeg 4) (-1)) (Int32.toNatClampNeg 5) (-1)) (Int32.toNatClampNeg 6) (-1)) (Int32.toNatClampNeg 7) (-1)) (Int32.toNatClampNeg 8) (-1)) (Int32.toNatClampNeg 9) (-1)) (Int32.toNatClampNeg 10) (-1)) (Int32.toNatClampNeg 11) (-1)) (Int32.toNatClampNeg 12) (-1)) (Int32.toNatClampNeg 13) (-1)) (Int32.toNatClampNeg 14) (-1)) (Int32.toNatClampNeg 15) (-1)) (Int32.toNatClampNeg 16) (-1)) (Int32.toNatClampNeg 17) (-1)) (Int32.toNatClampNeg 18) (-1)) (Int32.toNatClampNeg 19) (-1)) (Int32.toNatClampNeg 20) (-1)) (Int32.toNatClampNeg 21) (-1))))] H := hP
  have hD : va_D A [(h0, .inr (2, [.ref q1, .ref q3, .null])), (q1, .inl (k2, 192, .inl (fun _ => 0))), (q3, .inl (k4, 24, .inl (upd (upd (upd (upd (upd (upd (upd (upd (upd (upd (upd (upd (upd (upd (upd (upd (upd (upd (upd (upd (upd (upd (fun _ => 0) (Int32.toNatClampNeg 0) (-1)) (Int32.toNatClampNeg 1) (-1)) (Int32.toNatClampNeg 2) (-1)) (Int32.toNatClampNeg 3) (-1)) (Int32.toNatClampNeg 4) (-1)) (Int32.toNatClampNeg 5) (-1)) (Int32.toNatClampNeg 6) (-1)) (Int32.toNatClampNeg 7) (-1)) (Int32.toNatClampNeg 8) (-1)) (Int32.toNatClampNeg 9) (-1)) (Int32.toNatClampNeg 10) (-1)) (Int32.toNatClampNeg 11) (-1)) (Int32.toNatClampNeg 12) (-1)) (Int32.toNatClampNeg 13) (-1)) (Int32.toNatClampNeg 14) (-1)) (Int32.toNatClampNeg 15) (-1)) (Int32.toNatClampNeg 16) (-1)) (Int32.toNatClampNeg 17) (-1)) (Int32.toNatClampNeg 18) (-1)) (Int32.toNatClampNeg 19) (-1)) (Int32.toNatClampNeg 20) (-1)) (Int32.toNatClampNeg 21) (-1))))] := hD
  refine lv_iinc (v := 22) (lv' := [(1, .int 22), (0, .ref h0)]) hx hb dP_init_36 hl (k := 0) rfl (by decide) (by decide) rfl (fun ls hl => ?_)
  refine lv_goto (tgt := 23) hx hb dP_init_39 (by decide) ?_
  refine lv_iload_n hx hb dP_init_23 rfl (lv_at hl 0 rfl) ?_
  refine lv_bipush (v := 24) hx hb dP_init_24 (by decide) ?_
  refine lv_icmp_ge (tgt := 42) hx hb dP_init_26 (by decide) (fun c27 => absurd c27 (by decide)) (fun _ => ?_)
  refine lv_aload_n hx hb dP_init_29 rfl (lv_at hl 1 rfl) ?_
  refine va_get (D := (dC, dI)) (ci := 2) (v := .ref q3) (C := "MeshedSpans$Spans") (T := mc_T2) (N := 3) hx hb hts mc_in2 hown hK hP 0 rfl rfl 1 (by decide) (hts _ gm_75) (fun _ h9 => h9) rfl dP_init_30 ?_
  refine lv_iload_n hx hb dP_init_33 rfl (lv_at hl 0 rfl) ?_
  refine lv_iconst (v := (-1)) hx hb dP_init_34 (by decide) ?_
  refine va_iast hx hb hK hP hD hS 2 1 rfl rfl (vp_in_lit (by decide)) dP_init_35 (fun H locs hP hD hS => ?_)
  have hP : va_P (dC, dI) al_cl [(h0, .inr (2, [.ref q1, .ref q3, .null])), (q1, .inl (k2, 192, .inl (fun _ => 0))), (q3, .inl (k4, 24, .inl (upd (upd (upd (upd (upd (upd (upd (upd (upd (upd (upd (upd (upd (upd (upd (upd (upd (upd (upd (upd (upd (upd (upd (fun _ => 0) (Int32.toNatClampNeg 0) (-1)) (Int32.toNatClampNeg 1) (-1)) (Int32.toNatClampNeg 2) (-1)) (Int32.toNatClampNeg 3) (-1)) (Int32.toNatClampNeg 4) (-1)) (Int32.toNatClampNeg 5) (-1)) (Int32.toNatClampNeg 6) (-1)) (Int32.toNatClampNeg 7) (-1)) (Int32.toNatClampNeg 8) (-1)) (Int32.toNatClampNeg 9) (-1)) (Int32.toNatClampNeg 10) (-1)) (Int32.toNatClampNeg 11) (-1)) (Int32.toNatClampNeg 12) (-1)) (Int32.toNatClampNeg 13) (-1)) (Int32.toNatClampNeg 14) (-1)) (Int32.toNatClampNeg 15) (-1)) (Int32.toNatClampNeg 16) (-1)) (Int32.toNatClampNeg 17) (-1)) (Int32.toNatClampNeg 18) (-1)) (Int32.toNatClampNeg 19) (-1)) (Int32.toNatClampNeg 20) (-1)) (Int32.toNatClampNeg 21) (-1)) (Int32.toNatClampNeg 22) (-1))))] H := hP
  have hD : va_D A [(h0, .inr (2, [.ref q1, .ref q3, .null])), (q1, .inl (k2, 192, .inl (fun _ => 0))), (q3, .inl (k4, 24, .inl (upd (upd (upd (upd (upd (upd (upd (upd (upd (upd (upd (upd (upd (upd (upd (upd (upd (upd (upd (upd (upd (upd (upd (fun _ => 0) (Int32.toNatClampNeg 0) (-1)) (Int32.toNatClampNeg 1) (-1)) (Int32.toNatClampNeg 2) (-1)) (Int32.toNatClampNeg 3) (-1)) (Int32.toNatClampNeg 4) (-1)) (Int32.toNatClampNeg 5) (-1)) (Int32.toNatClampNeg 6) (-1)) (Int32.toNatClampNeg 7) (-1)) (Int32.toNatClampNeg 8) (-1)) (Int32.toNatClampNeg 9) (-1)) (Int32.toNatClampNeg 10) (-1)) (Int32.toNatClampNeg 11) (-1)) (Int32.toNatClampNeg 12) (-1)) (Int32.toNatClampNeg 13) (-1)) (Int32.toNatClampNeg 14) (-1)) (Int32.toNatClampNeg 15) (-1)) (Int32.toNatClampNeg 16) (-1)) (Int32.toNatClampNeg 17) (-1)) (Int32.toNatClampNeg 18) (-1)) (Int32.toNatClampNeg 19) (-1)) (Int32.toNatClampNeg 20) (-1)) (Int32.toNatClampNeg 21) (-1)) (Int32.toNatClampNeg 22) (-1))))] := hD
  refine lv_iinc (v := 23) (lv' := [(1, .int 23), (0, .ref h0)]) hx hb dP_init_36 hl (k := 0) rfl (by decide) (by decide) rfl (fun ls hl => ?_)
  refine lv_goto (tgt := 23) hx hb dP_init_39 (by decide) ?_
  refine lv_iload_n hx hb dP_init_23 rfl (lv_at hl 0 rfl) ?_
  refine lv_bipush (v := 24) hx hb dP_init_24 (by decide) ?_
  refine lv_icmp_ge (tgt := 42) hx hb dP_init_26 (by decide) (fun c28 => absurd c28 (by decide)) (fun _ => ?_)
  refine lv_aload_n hx hb dP_init_29 rfl (lv_at hl 1 rfl) ?_
  refine va_get (D := (dC, dI)) (ci := 2) (v := .ref q3) (C := "MeshedSpans$Spans") (T := mc_T2) (N := 3) hx hb hts mc_in2 hown hK hP 0 rfl rfl 1 (by decide) (hts _ gm_75) (fun _ h9 => h9) rfl dP_init_30 ?_
  refine lv_iload_n hx hb dP_init_33 rfl (lv_at hl 0 rfl) ?_
  refine lv_iconst (v := (-1)) hx hb dP_init_34 (by decide) ?_
  refine va_iast hx hb hK hP hD hS 2 1 rfl rfl (vp_in_lit (by decide)) dP_init_35 (fun H locs hP hD hS => ?_)
  have hP : va_P (dC, dI) al_cl [(h0, .inr (2, [.ref q1, .ref q3, .null])), (q1, .inl (k2, 192, .inl (fun _ => 0))), (q3, .inl (k4, 24, .inl (upd (upd (upd (upd (upd (upd (upd (upd (upd (upd (upd (upd (upd (upd (upd (upd (upd (upd (upd (upd (upd (upd (upd (upd (fun _ => 0) (Int32.toNatClampNeg 0) (-1)) (Int32.toNatClampNeg 1) (-1)) (Int32.toNatClampNeg 2) (-1)) (Int32.toNatClampNeg 3) (-1)) (Int32.toNatClampNeg 4) (-1)) (Int32.toNatClampNeg 5) (-1)) (Int32.toNatClampNeg 6) (-1)) (Int32.toNatClampNeg 7) (-1)) (Int32.toNatClampNeg 8) (-1)) (Int32.toNatClampNeg 9) (-1)) (Int32.toNatClampNeg 10) (-1)) (Int32.toNatClampNeg 11) (-1)) (Int32.toNatClampNeg 12) (-1)) (Int32.toNatClampNeg 13) (-1)) (Int32.toNatClampNeg 14) (-1)) (Int32.toNatClampNeg 15) (-1)) (Int32.toNatClampNeg 16) (-1)) (Int32.toNatClampNeg 17) (-1)) (Int32.toNatClampNeg 18) (-1)) (Int32.toNatClampNeg 19) (-1)) (Int32.toNatClampNeg 20) (-1)) (Int32.toNatClampNeg 21) (-1)) (Int32.toNatClampNeg 22) (-1)) (Int32.toNatClampNeg 23) (-1))))] H := hP
  have hD : va_D A [(h0, .inr (2, [.ref q1, .ref q3, .null])), (q1, .inl (k2, 192, .inl (fun _ => 0))), (q3, .inl (k4, 24, .inl (upd (upd (upd (upd (upd (upd (upd (upd (upd (upd (upd (upd (upd (upd (upd (upd (upd (upd (upd (upd (upd (upd (upd (upd (fun _ => 0) (Int32.toNatClampNeg 0) (-1)) (Int32.toNatClampNeg 1) (-1)) (Int32.toNatClampNeg 2) (-1)) (Int32.toNatClampNeg 3) (-1)) (Int32.toNatClampNeg 4) (-1)) (Int32.toNatClampNeg 5) (-1)) (Int32.toNatClampNeg 6) (-1)) (Int32.toNatClampNeg 7) (-1)) (Int32.toNatClampNeg 8) (-1)) (Int32.toNatClampNeg 9) (-1)) (Int32.toNatClampNeg 10) (-1)) (Int32.toNatClampNeg 11) (-1)) (Int32.toNatClampNeg 12) (-1)) (Int32.toNatClampNeg 13) (-1)) (Int32.toNatClampNeg 14) (-1)) (Int32.toNatClampNeg 15) (-1)) (Int32.toNatClampNeg 16) (-1)) (Int32.toNatClampNeg 17) (-1)) (Int32.toNatClampNeg 18) (-1)) (Int32.toNatClampNeg 19) (-1)) (Int32.toNatClampNeg 20) (-1)) (Int32.toNatClampNeg 21) (-1)) (Int32.toNatClampNeg 22) (-1)) (Int32.toNatClampNeg 23) (-1))))] := hD
  refine lv_iinc (v := 24) (lv' := [(1, .int 24), (0, .ref h0)]) hx hb dP_init_36 hl (k := 0) rfl (by decide) (by decide) rfl (fun ls hl => ?_)
  refine lv_goto (tgt := 23) hx hb dP_init_39 (by decide) ?_
  refine lv_iload_n hx hb dP_init_23 rfl (lv_at hl 0 rfl) ?_
  refine lv_bipush (v := 24) hx hb dP_init_24 (by decide) ?_
  refine lv_icmp_ge (tgt := 42) hx hb dP_init_26 (by decide) (fun _ => ?_) (fun c29 => absurd (by decide) c29)
  refine lv_aload_n hx hb dP_init_42 rfl (lv_at hl 1 rfl) ?_
  refine lv_bipush (v := 12) hx hb dP_init_43 (by decide) ?_
  refine va_newa (atype := .int) (a0 := (12, .inl (fun _ => 0))) (ty := .int) hx hb (hts _ gm_84) rfl hK hP hD hS hA (fun _ => rfl) (by decide) (by decide) (by decide) (Nat.le_of_ble_eq_true rfl) (Nat.le_of_ble_eq_true rfl) dP_init_45 (fun q30 k31 H hK hP hD hS => ?_)
  have hP : va_P (dC, dI) al_cl [(h0, .inr (2, [.ref q1, .ref q3, .null])), (q1, .inl (k2, 192, .inl (fun _ => 0))), (q3, .inl (k4, 24, .inl (upd (upd (upd (upd (upd (upd (upd (upd (upd (upd (upd (upd (upd (upd (upd (upd (upd (upd (upd (upd (upd (upd (upd (upd (fun _ => 0) (Int32.toNatClampNeg 0) (-1)) (Int32.toNatClampNeg 1) (-1)) (Int32.toNatClampNeg 2) (-1)) (Int32.toNatClampNeg 3) (-1)) (Int32.toNatClampNeg 4) (-1)) (Int32.toNatClampNeg 5) (-1)) (Int32.toNatClampNeg 6) (-1)) (Int32.toNatClampNeg 7) (-1)) (Int32.toNatClampNeg 8) (-1)) (Int32.toNatClampNeg 9) (-1)) (Int32.toNatClampNeg 10) (-1)) (Int32.toNatClampNeg 11) (-1)) (Int32.toNatClampNeg 12) (-1)) (Int32.toNatClampNeg 13) (-1)) (Int32.toNatClampNeg 14) (-1)) (Int32.toNatClampNeg 15) (-1)) (Int32.toNatClampNeg 16) (-1)) (Int32.toNatClampNeg 17) (-1)) (Int32.toNatClampNeg 18) (-1)) (Int32.toNatClampNeg 19) (-1)) (Int32.toNatClampNeg 20) (-1)) (Int32.toNatClampNeg 21) (-1)) (Int32.toNatClampNeg 22) (-1)) (Int32.toNatClampNeg 23) (-1)))), (q30, .inl (k31, 12, .inl (fun _ => 0)))] H := hP
  have hD : va_D A [(h0, .inr (2, [.ref q1, .ref q3, .null])), (q1, .inl (k2, 192, .inl (fun _ => 0))), (q3, .inl (k4, 24, .inl (upd (upd (upd (upd (upd (upd (upd (upd (upd (upd (upd (upd (upd (upd (upd (upd (upd (upd (upd (upd (upd (upd (upd (upd (fun _ => 0) (Int32.toNatClampNeg 0) (-1)) (Int32.toNatClampNeg 1) (-1)) (Int32.toNatClampNeg 2) (-1)) (Int32.toNatClampNeg 3) (-1)) (Int32.toNatClampNeg 4) (-1)) (Int32.toNatClampNeg 5) (-1)) (Int32.toNatClampNeg 6) (-1)) (Int32.toNatClampNeg 7) (-1)) (Int32.toNatClampNeg 8) (-1)) (Int32.toNatClampNeg 9) (-1)) (Int32.toNatClampNeg 10) (-1)) (Int32.toNatClampNeg 11) (-1)) (Int32.toNatClampNeg 12) (-1)) (Int32.toNatClampNeg 13) (-1)) (Int32.toNatClampNeg 14) (-1)) (Int32.toNatClampNeg 15) (-1)) (Int32.toNatClampNeg 16) (-1)) (Int32.toNatClampNeg 17) (-1)) (Int32.toNatClampNeg 18) (-1)) (Int32.toNatClampNeg 19) (-1)) (Int32.toNatClampNeg 20) (-1)) (Int32.toNatClampNeg 21) (-1)) (Int32.toNatClampNeg 22) (-1)) (Int32.toNatClampNeg 23) (-1)))), (q30, .inl (k31, 12, .inl (fun _ => 0)))] := hD
  have hK : va_K (dC, dI) al_cl [(k2, .int), (k4, .int), (k31, .int)] s := hK
  refine W.widen (k := 3) (n := 228) (by omega) (by omega) ?_
  refine va_putF (D := (dC, dI)) (ci := 2) (v := .ref q30) (ty := .array .int) (C := "MeshedSpans$Spans") (T := mc_T2) (N := 3) hx hb hts mc_in2 mc_t2 mc_tok2 mc_nm2 hown hK hP hD hS 0 rfl rfl 2 (by decide) (hts _ gm_76) (fun _ h9 => h9) rfl hin rfl (by decide +kernel) rfl rfl (Nat.le_of_ble_eq_true rfl) dP_init_47 (fun H locs hP hD hS => ?_)
  have hP : va_P (dC, dI) al_cl [(h0, .inr (2, [.ref q1, .ref q3, .ref q30])), (q1, .inl (k2, 192, .inl (fun _ => 0))), (q3, .inl (k4, 24, .inl (upd (upd (upd (upd (upd (upd (upd (upd (upd (upd (upd (upd (upd (upd (upd (upd (upd (upd (upd (upd (upd (upd (upd (upd (fun _ => 0) (Int32.toNatClampNeg 0) (-1)) (Int32.toNatClampNeg 1) (-1)) (Int32.toNatClampNeg 2) (-1)) (Int32.toNatClampNeg 3) (-1)) (Int32.toNatClampNeg 4) (-1)) (Int32.toNatClampNeg 5) (-1)) (Int32.toNatClampNeg 6) (-1)) (Int32.toNatClampNeg 7) (-1)) (Int32.toNatClampNeg 8) (-1)) (Int32.toNatClampNeg 9) (-1)) (Int32.toNatClampNeg 10) (-1)) (Int32.toNatClampNeg 11) (-1)) (Int32.toNatClampNeg 12) (-1)) (Int32.toNatClampNeg 13) (-1)) (Int32.toNatClampNeg 14) (-1)) (Int32.toNatClampNeg 15) (-1)) (Int32.toNatClampNeg 16) (-1)) (Int32.toNatClampNeg 17) (-1)) (Int32.toNatClampNeg 18) (-1)) (Int32.toNatClampNeg 19) (-1)) (Int32.toNatClampNeg 20) (-1)) (Int32.toNatClampNeg 21) (-1)) (Int32.toNatClampNeg 22) (-1)) (Int32.toNatClampNeg 23) (-1)))), (q30, .inl (k31, 12, .inl (fun _ => 0)))] H := hP
  have hD : va_D A [(h0, .inr (2, [.ref q1, .ref q3, .ref q30])), (q1, .inl (k2, 192, .inl (fun _ => 0))), (q3, .inl (k4, 24, .inl (upd (upd (upd (upd (upd (upd (upd (upd (upd (upd (upd (upd (upd (upd (upd (upd (upd (upd (upd (upd (upd (upd (upd (upd (fun _ => 0) (Int32.toNatClampNeg 0) (-1)) (Int32.toNatClampNeg 1) (-1)) (Int32.toNatClampNeg 2) (-1)) (Int32.toNatClampNeg 3) (-1)) (Int32.toNatClampNeg 4) (-1)) (Int32.toNatClampNeg 5) (-1)) (Int32.toNatClampNeg 6) (-1)) (Int32.toNatClampNeg 7) (-1)) (Int32.toNatClampNeg 8) (-1)) (Int32.toNatClampNeg 9) (-1)) (Int32.toNatClampNeg 10) (-1)) (Int32.toNatClampNeg 11) (-1)) (Int32.toNatClampNeg 12) (-1)) (Int32.toNatClampNeg 13) (-1)) (Int32.toNatClampNeg 14) (-1)) (Int32.toNatClampNeg 15) (-1)) (Int32.toNatClampNeg 16) (-1)) (Int32.toNatClampNeg 17) (-1)) (Int32.toNatClampNeg 18) (-1)) (Int32.toNatClampNeg 19) (-1)) (Int32.toNatClampNeg 20) (-1)) (Int32.toNatClampNeg 21) (-1)) (Int32.toNatClampNeg 22) (-1)) (Int32.toNatClampNeg 23) (-1)))), (q30, .inl (k31, 12, .inl (fun _ => 0)))] := hD
  exact W.vret hx hb hr (fun t ht hW => ⟨⟨(), rfl, trivial, q1, q3, q30, k2, k4, k31, by rw [ht]; exact hP, va_K.moved hW.alike hK, by rw [hAe]; exact hD⟩, by rw [hAe]; exact hS.F ht⟩) (by rw [hAe]; exact hS.2.2) dP_init_50
