theorem fl_appL {D : va_G} {cl : List vw_C} {w1 w2 : va_W} {H : Heap} (h : va_P D cl (w1 ++ w2) H) : va_P D cl w1 H := fun k q hk => h k q (by rw [List.getElem?_append_left (List.getElem?_eq_some_iff.mp hk).1]; exact hk)
theorem fl_appR {D : va_G} {cl : List vw_C} {w1 w2 : va_W} {H : Heap} (h : va_P D cl (w1 ++ w2) H) : va_P D cl w2 H := fun k q hk => h (w1.length + k) q (by rw [List.getElem?_append_right (by omega), Nat.add_sub_cancel_left]; exact hk)
theorem fl_DR {A : Nat → Prop} {w1 w2 : va_W} (h : va_D A (w1 ++ w2)) : va_D A w2 := by
  have key : ∀ (k : Nat) (q : Nat × va_E), w2[k]? = some q → (w1 ++ w2)[w1.length + k]? = some q := fun k q hk => by rw [List.getElem?_append_right (by omega), Nat.add_sub_cancel_left]; exact hk
  refine ⟨fun i j p q hi hj hpq => ?_, fun k q hk => h.2 _ q (key k q hk)⟩
  have := h.1 _ _ p q (key i p hi) (key j q hj) hpq
  omega
theorem fl_Dx {A : Nat → Prop} {w1 w2 : va_W} (h : va_D A (w1 ++ w2)) {i j : Nat} {p q : Nat × va_E} (hi : w1[i]? = some p) (hj : w2[j]? = some q) : p.1 ≠ q.1 := fun e => by
  have hl := (List.getElem?_eq_some_iff.mp hi).1
  have h1 : (w1 ++ w2)[i]? = some p := by rw [List.getElem?_append_left hl]; exact hi
  have h2 : (w1 ++ w2)[w1.length + j]? = some q := by rw [List.getElem?_append_right (by omega), Nat.add_sub_cancel_left]; exact hj
  have := h.1 _ _ p q h1 h2 e
  omega
theorem fl_isN_tab {w : Cond} (h : fl_isN w = true) : w.onTables = true := by
  cases w <;> first | rfl | (simp [fl_isN] at h; done)
set_option maxHeartbeats 8000000 in
set_option maxRecDepth 100000 in
/-- the law from its entry, over what the pure part owes -/
theorem whole_open (Rel : lw_R) (hSim : lw_Sim Rel) (hR0 : ∀ seed, Rel 0 (mc_g0 seed) (rf_g0 seed)) {p : Program} {e : Env} {s : State} {m : MethodId} {below : List Frame} {meth : Method} {c : Code} (l : Launch) {b L : Nat} {xs : Nat → Int32} (hL : L ≤ 1537) (C0 : lw_At p s m meth c b L xs) : W p l e room_1 s m #[Value.ref b] below meth c s.heap [] 0 0 (lw_Z below #[Value.ref b] s) (entryFrame m ([Value.ref b] : List Value).toArray 4) := by
  obtain ⟨hx, hb, hr, hml, hown, hts0, hX, hbl, hlocks, hgv⟩ := id C0
  have hts : ∀ w ∈ gw, w.before #[Value.ref b] s = true := fun w hw => hts0 w (gw_tbl w hw)
  have hown : s.vm.findClass "MeshedSpansLaw" = some m.cls := hown
  have hA : ∀ q : Nat, s.heap.size ≤ q → (fun q : Nat => s.heap.size ≤ q) q := fun _ h => h
  have hbA : ¬ (fun q : Nat => s.heap.size ≤ q) b := Nat.not_le.mpr hbl
  have hN : fl_N mc_ns s := fun w hw => ⟨(mc_ns_in w hw).2, va_Nw.of (fl_isN_tab (mc_ns_in w hw).2) (hts0 w (mc_ns_in w hw).1)⟩
  have hO1 : va_AO "MeshedSpans$Miniheap" s := va_AO.of (hts0 (.arrayOver (.object "MeshedSpans$Miniheap")) (by decide +kernel))
  have hO2 : va_AO "MeshedSpans$Attachment" s := va_AO.of (hts0 (.arrayOver (.object "MeshedSpans$Attachment")) (by decide +kernel))
  obtain ⟨c0, iS0, hKn0⟩ := u_known (C := "MeshedSpans") (T := mc_T0) (N := 8) (n := 8) hts mc_in0 (hts _ gm_51)
  obtain ⟨c1, iS1, hKn1⟩ := u_known (C := "MeshedSpans$Draws") (T := mc_T1) (N := 1) (n := 1) hts mc_in1 (hts _ gm_59)
  obtain ⟨c2, iS2, hKn2⟩ := u_known (C := "MeshedSpans$Spans") (T := mc_T2) (N := 3) (n := 3) hts mc_in2 (hts _ gm_69)
  obtain ⟨c3, iS3, hKn3⟩ := u_known (C := "MeshedSpans$Blocks") (T := mc_T3) (N := 3) (n := 3) hts mc_in3 (hts _ gm_86)
  obtain ⟨c4, iS4, hKn4⟩ := u_known (C := "MeshedSpans$Miniheap") (T := mc_T4) (N := 5) (n := 5) hts mc_in4 (hts _ gm_103)
  obtain ⟨c5, iS5, hKn5⟩ := u_known (C := "MeshedSpans$Attachment") (T := mc_T5) (N := 3) (n := 3) hts mc_in5 (hts _ gm_125)
  obtain ⟨c6, iS6, hKn6⟩ := u_known (C := "MeshedSpansModel") (T := rf_T0) (N := 16) (n := 16) hts rf_in0 (hts _ gm_497)
  obtain ⟨dC, dI, hKc⟩ : ∃ (dC : Nat → ClassId) (dI : Nat → Nat → Nat), ∀ (k : Nat) (q : vw_C), al_cl[k]? = some q → u_Kn s q.1 q.2.1 q.2.2 (dC k) (dI k) := by
    refine ⟨fun k => if k = 0 then c0 else if k = 1 then c1 else if k = 2 then c2 else if k = 3 then c3 else if k = 4 then c4 else if k = 5 then c5 else c6, fun k => if k = 0 then iS0 else if k = 1 then iS1 else if k = 2 then iS2 else if k = 3 then iS3 else if k = 4 then iS4 else if k = 5 then iS5 else iS6, ?_⟩
    intro k q hq
    match k, hq with
    | 0, hq => cases hq; exact hKn0
    | 1, hq => cases hq; exact hKn1
    | 2, hq => cases hq; exact hKn2
    | 3, hq => cases hq; exact hKn3
    | 4, hq => cases hq; exact hKn4
    | 5, hq => cases hq; exact hKn5
    | 6, hq => cases hq; exact hKn6
    | k + 7, hq => simp [al_cl] at hq
  have hS : va_S (fun q : Nat => s.heap.size ≤ q) s.heap s.heap [] := va_S.rf
  have hK : va_K (dC, dI) al_cl [] s := ⟨hKc, fun k q h => by simp at h⟩
  have hP : va_P (dC, dI) al_cl [] s.heap := fun k q h => by simp at h
  have hD : va_D (fun q : Nat => s.heap.size ≤ q) [] := ⟨fun i j p q h => by simp at h, fun k q h => by simp at h⟩
  have hl := lv_entry ([.ref b]) (n := 4) (Nat.le_of_ble_eq_true rfl)
  rw [lg_entry_eq]
  generalize (lg_sl ([.ref b]) ++ List.replicate (4 - (lg_sl ([.ref b])).length) Slot.unset).toArray = ls at hl ⊢
  have hl : lv_has ls 4 [(0, .ref b)] := hl
  refine va_new (ci := 0) (fs := [.null, .null, .null, .null, .null, .null, .int 0, .int 0]) (C := "MeshedSpans") (T := mc_T0) (N := 8) hx hb hts mc_in0 mc_t0 mc_tok0 hown (hts _ gm_50) (hts _ gm_51) (hts _ gm_41) hK hP hD hS hA rfl mc_df0 (Nat.le_of_ble_eq_true rfl) (Nat.le_of_ble_eq_true rfl) dL_law_0 (fun q0 H hP hD hS => ?_)
  have hP : va_P (dC, dI) al_cl [(q0, .inr (0, [.null, .null, .null, .null, .null, .null, .int 0, .int 0]))] H := hP
  have hD : va_D (fun q : Nat => s.heap.size ≤ q) [(q0, .inr (0, [.null, .null, .null, .null, .null, .null, .int 0, .int 0]))] := hD
  refine W.widen (k := 1) (n := 8) (by omega) (by omega) ?_
  refine lv_dup hx hb dL_law_3 rfl ?_
  refine lv_aload_n hx hb dL_law_4 rfl (lv_at hl 0 rfl) ?_
  refine lv_iconst (v := 0) hx hb dL_law_5 (by decide) ?_
  refine va_calli (va_runS (As := [.ref b, .int 0]) (rest := [.ref q0, .ref q0]) ⟨hx, hb, hml, hown, hts⟩ (cL_cell l b L xs hL) (kL_cell hts (hts _ gm_493) ⟨Nat.le_of_ble_eq_true rfl, Nat.le_of_ble_eq_true rfl⟩) ⟨fun a U g mk q => ⟨q.1, va_X.moved (u := U) (U := U.calling g mk a) (Vm.Alike.refl U.vm) q.2.1, q.2.2⟩, fun U hU hW => ⟨rfl, by rw [hU]; exact va_X.moved hW.alike (hX.kept (hS.2.1 b hbl hbA)), by rw [hU]; exact Nat.lt_of_lt_of_le hbl hS.1⟩⟩ rfl rfl hl.1 rfl (lv_room (Nat.le_of_ble_eq_true rfl)) dL_law_6 ⟨Nat.le_of_ble_eq_true rfl, Nat.le_of_ble_eq_true rfl⟩) hS (fun q _ h => h.elim) (fun q h => h.elim) (fun r u t H1 locs ht hvm hw hB hz1 hk1 hS => ?_)
  have hP := hP.kept (fun k q hk => hk1 _ (hP k q hk).lt (fun h => h))
  clear hz1 hk1 ht hvm hB
  generalize H1 = H at hP hS ⊢
  have hF := va_free (wc := [(q0, .inr (0, [.null, .null, .null, .null, .null, .null, .int 0, .int 0]))]) hD hS hA [0] rfl
  refine va_callv (va_runI (As := [.int r]) (rest := [.ref q0]) ⟨hx, hb, hml, hown, hts⟩ (cS_init l dC dI q0 H.size r) (kS_init hts (hts _ gm_52) ⟨Nat.le_of_ble_eq_true rfl, Nat.le_of_ble_eq_true rfl⟩) ⟨fun a U g mk q => by obtain ⟨q0, q1, qP, qK, qD, qX, qY⟩ := q; exact ⟨q0, q1, qP, va_K.moved (u := U) (U := U.calling g mk a) (Vm.Alike.refl U.vm) qK, qD, va_AO.moved (u := U) (U := U.calling g mk a) (Vm.Alike.refl U.vm) qX, va_AO.moved (u := U) (U := U.calling g mk a) (Vm.Alike.refl U.vm) qY⟩, fun U hU hW => ⟨rfl, by rw [hU], by rw [hU]; exact hP, va_K.moved hW.alike hK, hD.weaken (fun _ _ _ _ => trivial), va_AO.moved hW.alike hO1, va_AO.moved hW.alike hO2⟩⟩ rfl rfl hl.1 rfl (lv_room (Nat.le_of_ble_eq_true rfl)) dL_law_9 ⟨Nat.le_of_ble_eq_true rfl, Nat.le_of_ble_eq_true rfl⟩) hS (fun q _ h => hF q h) hF (fun u t H1 locs ht hvm _ hB hz1 hk1 hS => ?_)
  obtain ⟨ad, ca, had0, hI, hAd1, hP1, hK1⟩ := hB
  rw [ht] at hP1
  have hK1 := va_K.moved hvm.symm hK1
  have hAd : ∀ i, i < 32 → s.heap.size ≤ ad i := fun i hi => hF _ (hAd1 i hi)
  clear hP hD hF hz1 hk1 hAd1 ht hvm
  subst had0
  generalize H1 = H at hP1 hS ⊢
  refine W.widen (k := 32) (n := 1175) (by omega) (by omega) ?_
  refine lv_astore_n (lv' := [(1, .ref (ad 0)), (0, .ref b)]) hx hb dL_law_12 rfl hl (by decide) rfl (fun ls hl => ?_)
  have hD1 : va_D (fun q : Nat => s.heap.size ≤ q) (fl_ws 32 (mc_sh ca ad) ad (mc_g0 r)) := (fl_D hI _).weaken (fun k q hk h => by obtain ⟨i, hi, e⟩ := h; rw [e]; exact hAd i hi)
  refine va_new (ci := 6) (fs := [.int 0, .null, .null, .null, .null, .null, .null, .null, .null, .int 0, .null, .null, .null, .int 0, .null, .null]) (C := "MeshedSpansModel") (T := rf_T0) (N := 16) hx hb hts rf_in0 rf_t0 rf_tok0 hown (hts _ gm_496) (hts _ gm_497) (hts _ gm_47) hK1 hP1 hD1 hS hA rfl rf_df0 (Nat.le_of_ble_eq_true rfl) (Nat.le_of_ble_eq_true rfl) dL_law_13 (fun q1 H hP2 hD2 hS => ?_)
  have hPc := fl_appL hP2
  have hPm := fl_appR hP2
  have hDm := fl_DR hD2
  have hne : ∀ i, i < 32 → ad i ≠ q1 := fun i hi => fl_Dx hD2 (fl_at hi) (show _ = some (q1, _) from (rfl : ([(q1, (.inr (6, [.int 0, .null, .null, .null, .null, .null, .null, .null, .null, .int 0, .null, .null, .null, .int 0, .null, .null]) : va_E))] : va_W)[0]? = some (q1, .inr (6, [.int 0, .null, .null, .null, .null, .null, .null, .null, .null, .int 0, .null, .null, .null, .int 0, .null, .null]))))
  clear hP1 hD1 hP2 hD2
  refine W.widen (k := 33) (n := 1191) (by omega) (by omega) ?_
  refine lv_dup hx hb dL_law_16 rfl ?_
  refine lv_aload_n hx hb dL_law_17 rfl (lv_at hl 1 rfl) ?_
  refine lv_iconst (v := 0) hx hb dL_law_18 (by decide) ?_
  refine va_calli (va_runS (As := [.ref b, .int 0]) (rest := [.ref q1, .ref q1]) ⟨hx, hb, hml, hown, hts⟩ (cL_cell l b L xs hL) (kL_cell hts (hts _ gm_493) ⟨Nat.le_of_ble_eq_true rfl, Nat.le_of_ble_eq_true rfl⟩) ⟨fun a U g mk q => ⟨q.1, va_X.moved (u := U) (U := U.calling g mk a) (Vm.Alike.refl U.vm) q.2.1, q.2.2⟩, fun U hU hW => ⟨rfl, by rw [hU]; exact va_X.moved hW.alike (hX.kept (hS.2.1 b hbl hbA)), by rw [hU]; exact Nat.lt_of_lt_of_le hbl hS.1⟩⟩ rfl rfl hl.1 rfl (lv_room (Nat.le_of_ble_eq_true rfl)) dL_law_19 ⟨Nat.le_of_ble_eq_true rfl, Nat.le_of_ble_eq_true rfl⟩) hS (fun q _ h => h.elim) (fun q h => h.elim) (fun r2 u t H1 locs ht hvm hw2 hB hz1 hk1 hS => ?_)
  have hrr : r2 = r := by rw [hw2, hw]
  subst hrr
  have hPc := hPc.kept (fun k q hk => hk1 _ (hPc k q hk).lt (fun h => h))
  have hPm := hPm.kept (fun k q hk => hk1 _ (hPm k q hk).lt (fun h => h))
  clear hz1 hk1 ht hvm hB
  generalize H1 = H at hPc hPm hS ⊢
  have hF := va_free (wc := [(q1, .inr (6, [.int 0, .null, .null, .null, .null, .null, .null, .null, .null, .int 0, .null, .null, .null, .int 0, .null, .null]))]) hDm hS hA [0] rfl
  refine va_callv (va_runI (As := [.int r2]) (rest := [.ref q1]) ⟨hx, hb, hml, hown, hts⟩ (cR_init l dC dI q1 H.size r2) (kR_init hts (hts _ gm_498) ⟨Nat.le_of_ble_eq_true rfl, Nat.le_of_ble_eq_true rfl⟩) ⟨fun a U g mk q => by obtain ⟨q0, q1, qP, qK, qD⟩ := q; exact ⟨q0, q1, qP, va_K.moved (u := U) (U := U.calling g mk a) (Vm.Alike.refl U.vm) qK, qD⟩, fun U hU hW => ⟨rfl, by rw [hU], by rw [hU]; exact hPm, va_K.moved hW.alike hK, hDm.weaken (fun _ _ _ _ => trivial)⟩⟩ rfl rfl hl.1 rfl (lv_room (Nat.le_of_ble_eq_true rfl)) dL_law_22 ⟨Nat.le_of_ble_eq_true rfl, Nat.le_of_ble_eq_true rfl⟩) hS (fun q _ h => hF q h) hF (fun u t H1 locs ht hvm _ hB hz1 hk1 hS => ?_)
  obtain ⟨bd, cb, hbd0, hJ, hBd1, hPr, hK2⟩ := hB
  rw [ht] at hPr
  have hK2 := va_K.moved hvm.symm hK2
  have hBd : ∀ i, i < 14 → s.heap.size ≤ bd i := fun i hi => hF _ (hBd1 i hi)
  have hAl : ∀ i, i < 32 → ad i < H.size := fun i hi => (hPc i _ (fl_at hi)).lt
  have hnot : ∀ i, i < 32 → ¬ va_A [(q1, .inr (6, [.int 0, .null, .null, .null, .null, .null, .null, .null, .null, .int 0, .null, .null, .null, .int 0, .null, .null]))] H.size (ad i) := by
    intro i hi h
    rcases h with ⟨k, e, h⟩ | h
    · rcases k with _ | k
      · cases h
        exact hne i hi rfl
      · cases h
    · exact absurd (hAl i hi) (Nat.not_lt.mpr h)
  have hdis : ∀ i j, i < 32 → j < 14 → ad i ≠ bd j := fun i j hi hj h => hnot i hi (by rw [h]; exact hBd1 j hj)
  have hPc := hPc.kept (fun k q hk => by obtain ⟨hk2, rfl⟩ := fl_of_at hk; exact hk1 _ (hAl k hk2) (hnot k hk2))
  subst hbd0
  refine W.widen (k := 46) (n := 1767) (by omega) (by omega) ?_
  refine lv_astore_n (lv' := [(2, .ref (bd 0)), (1, .ref (ad 0)), (0, .ref b)]) hx hb dL_law_25 rfl hl (by decide) rfl (fun ls hl => ?_)
  refine lv_iconst (v := 1) hx hb dL_law_26 (by decide) ?_
  refine lv_istore_n (lv' := [(3, .int 1), (2, .ref (bd 0)), (1, .ref (ad 0)), (0, .ref b)]) hx hb dL_law_27 rfl hl (by decide) rfl (fun ls hl => ?_)
  exact law_loop Rel hSim hL C0 hI hJ hdis hAd hBd hK1 hK2 hN 513 0 1 _ _ _ _ _ (by omega) (by omega) rfl (hR0 r2) hPc hPr hS hl
