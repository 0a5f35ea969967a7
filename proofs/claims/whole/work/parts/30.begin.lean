theorem begin_rel {c r c' r' : fl_G} {p d s : Nat} (h : Rl 0 c r) (hp : p < 12) (hd : d < 4) (hs : s < 24) (ep : r 1 p = 0) (es : r 3 s = -1)
    (a1 : ∀ x, r' 1 x = if x = p then 1 else r 1 x) (a3 : ∀ x, r' 3 x = if x = s then nI p else r 3 x) (a2 : ∀ x, r' 2 x = if 16 * p ≤ x ∧ x < 16 * p + 16 then 0 else r 2 x) (a4 : ∀ x, r' 4 x = if x = p then r 0 9 else r 4 x) (a5 : ∀ x, r' 5 x = if x = p then nI d else r 5 x) (a6 : ∀ x, r' 6 x = if x = p then nI s else r 6 x) (a7 : ∀ x, r' 7 x = if 16 * p ≤ x ∧ x < 16 * p + 16 then -1 else r 7 x) (a0 : ∀ x, r' 0 x = if x = 9 then r 0 9 + 1 else r 0 x) (aq : ∀ q, 8 ≤ q → r' q = r q)
    (b4 : ∀ x, c' 4 x = if x = s then nI p else c 4 x) (b5 : ∀ x, c' 5 x = if x = p then c 5 p + 1 else c 5 x) (b3 : ∀ x, c' 3 x = if 16 * p ≤ x ∧ x < 16 * p + 16 then 0 else c 3 x) (bp : c' (10 + p) 1 = c 0 6 ∧ c' (10 + p) 2 = nI d ∧ c' (10 + p) 3 = nI s ∧ c' (10 + p) 4 = nI 0) (b0 : ∀ x, c' 0 x = if x = 6 then c 0 6 + 1 else c 0 x) (bq : ∀ q, q ≠ 0 → q ≠ 3 → q ≠ 4 → q ≠ 5 → q ≠ 10 + p → c' q = c q) : Rl 0 c' r' ∧ r' 1 p = 1 ∧ r' 5 p = nI d ∧ uc r' p (16 / 2 ^ d) = 0 := by
  obtain ⟨⟨i1, i2, i3, i4, i5, i6, i7, i8, i9⟩, k1, k2, k3, k4, k5, k6, k7, k8, k9, k10⟩ := h
  obtain ⟨f1, f3, f4, f5, f6⟩ := span_open (u := 1) hs hp i1 i3 k2 k3 k4 es ep one_ne a1 a3 a2 b4 b5 b3
  have e8 := aq 8 (by decide)
  have e9 := aq 9 (by decide)
  have e10 := aq 10 (by decide)
  have e11 := aq 11 (by decide)
  have new : ∀ v q, v < 24 → q < 12 → r 3 v = nI q → v ≠ s ∧ q ≠ p := fun v q hv hq e => ⟨fun z => by rw [z, es] at e; exact absurd e.symm (nI_m1 (by omega)), fun z => by rw [z] at e; exact absurd e ((i3 p hp).mp ep v hv)⟩
  have old : ∀ v q, v < 24 → q < 12 → q ≠ p → r' 3 v = nI q → r 3 v = nI q := fun v q hv hq hn e => by
    rw [a3] at e
    by_cases z : v = s
    · rw [if_pos z] at e; exact absurd (nI_inj (by omega) (by omega) e).symm hn
    · rw [if_neg z] at e; exact e
  have keep3 : ∀ v q, v < 24 → q < 12 → r 3 v = nI q → r' 3 v = nI q := fun v q hv hq e => by rw [a3, if_neg (new v q hv hq e).1, e]
  have keep1 : ∀ q, q ≠ p → r' 1 q = r 1 q := fun q hn => by rw [a1, if_neg hn]
  have keep7 : ∀ q k, q ≠ p → k < 16 → r' 7 (16 * q + k) = r 7 (16 * q + k) := fun q k hn hk => by rw [a7, if_neg (by omega)]
  have p7 : ∀ k, k < 16 → r' 7 (16 * p + k) = -1 := fun k hk => by rw [a7, if_pos (by omega)]
  have hu : r' 1 p = 1 := by rw [a1, if_pos rfl]
  have huc : ∀ n, n ≤ 16 → uc r' p n = 0 := fun n hn => cr_zero _ _ (fun k _ hk => by simp [p7 k (by omega)])
  have uco : ∀ q n, q ≠ p → n ≤ 16 → uc r' q n = uc r q n := fun q n hq hn => cr_congr _ _ (fun k _ hk => by simp only [keep7 q k hq (by omega)])
  have h2 := c2_le hd
  have lg0 : r 8 s = 0 := by
    rcases Classical.em (r 8 s = 0) with q | q
    · exact q
    · obtain ⟨x, hx, e, -⟩ := lg_map i7 hs q
      rw [es] at e; exact absurd e.symm (nI_m1 (by omega))
  have one1 : ∀ q, q < 12 → r 1 q ≠ 0 → q ≠ p := fun q hq hn z => hn (by rw [z]; exact ep)
  refine ⟨⟨⟨f1, ?_, f3, ?_, ?_, ?_, ?_, ?_, ?_⟩, ?_, f4, f5, f6, ?_, ?_, ?_, ?_, ?_, ?_⟩, hu, by rw [a5, if_pos rfl], huc _ (by omega)⟩
  · intro q hq
    by_cases z : q = p
    · rw [z, hu]; exact Or.inr (Or.inl rfl)
    · rw [keep1 q z]; exact i2 q hq
  · intro q hq hq1
    by_cases z : q = p
    · subst z
      rw [a5, if_pos rfl, a6, if_pos rfl]
      exact ⟨⟨d, hd, rfl⟩, s, hs, rfl, by rw [a3, if_pos rfl]⟩
    · rw [keep1 q z] at hq1
      rw [a5, if_neg z, a6, if_neg z]
      obtain ⟨x, hh, y1, y2, y3⟩ := i4 q hq hq1
      exact ⟨x, hh, y1, y2, keep3 hh q y1 hq y3⟩
  · intro q e k hq he hk hq1 hq5
    by_cases z : q = p
    · subst z; exact Or.inl (p7 k hk)
    · rw [keep1 q z] at hq1
      rw [a5, if_neg z] at hq5
      rw [keep7 q k z hk]
      rcases i5 q e k hq he hk hq1 hq5 with y | ⟨y1, v, y2, y3, y4⟩
      · exact Or.inl y
      · exact Or.inr ⟨y1, v, y2, y3, keep3 v q y2 hq y4⟩
  · intro q v w hq hv hw hq1 e1 e2
    have z : q ≠ p := fun z => by rw [z, hu] at hq1; exact absurd hq1 (by decide)
    rw [keep1 q z] at hq1
    exact i6 q v w hq hv hw hq1 (old v q hv hq z e1) (old w q hw hq z e2)
  · intro v hv
    rw [e8]
    rcases i7 v hv with y | ⟨n, n1, n2, n3, n4, n5, n6⟩
    · exact Or.inl y
    · refine Or.inr ⟨n, n1, n2, n3, n4, fun j hj => ?_, n6⟩
      obtain ⟨q, hq, y1, y2⟩ := n5 j hj
      exact ⟨q, hq, keep3 _ q (by omega) hq y1, by rw [keep1 q (new _ q (by omega) hq y1).2]; exact y2⟩
  · intro v q hv hq e1 hq1
    have z : q ≠ p := fun z => by rw [z, hu] at hq1; exact absurd hq1 (by decide)
    rw [keep1 q z] at hq1
    rw [e8]
    exact i8 v q hv hq (old v q hv hq z e1) hq1
  · intro e he
    have h2' := c2_le he
    rw [e9, e10, e11]
    rcases i9 e he with y | ⟨q, m, y1, y2, y3, y4, y5, y6, y7, y8⟩
    · exact Or.inl y
    · have z := one1 q y1 (by rw [y3]; decide)
      refine Or.inr ⟨q, m, y1, y2, by rw [keep1 q z]; exact y3, by rw [a5, if_neg z]; exact y4, y5, by rw [uco q _ z (by omega)]; exact y6, fun j hj => ?_, y8⟩
      obtain ⟨k, x1, x2, x3⟩ := y7 j hj
      exact ⟨k, x1, x2, by rw [keep7 q k z (by omega)]; exact x3⟩
  · refine ⟨?_, ?_, ?_⟩
    · rw [bq 1 (by decide) (by decide) (by decide) (by decide) (by omega), a0, if_neg (by decide)]; exact k1.1
    · rw [b0, if_pos rfl, a0, if_pos rfl, k1.2.1]
    · rw [b0, if_neg (by decide), a0, if_neg (by decide)]; exact k1.2.2
  · intro q hq hq1
    by_cases z : q = p
    · subst z
      obtain ⟨x1, x2, x3, x4⟩ := bp
      rw [x1, x2, x3, a4, if_pos rfl, a5, if_pos rfl, a6, if_pos rfl]
      refine ⟨k1.2.1, rfl, rfl, 0, by decide, x4, fun k hk => ?_⟩
      rw [p7 k hk]; simp
    · rw [keep1 q z] at hq1
      rw [bq (10 + q) (by omega) (by omega) (by omega) (by omega) (by omega), a4, if_neg z, a5, if_neg z, a6, if_neg z]
      obtain ⟨x1, x2, x3, U, x4, x5, x6⟩ := k5 q hq hq1
      exact ⟨x1, x2, x3, U, x4, x5, fun k hk => by rw [keep7 q k z hk]; exact x6 k hk⟩
  · intro q hq hq1
    have z : q ≠ p := fun z => hq1 (by rw [z]; exact hu)
    rw [keep1 q z] at hq1
    rw [bq (10 + q) (by omega) (by omega) (by omega) (by omega) (by omega)]
    exact k6 q hq hq1
  · intro e he
    rw [bq (23 + 2 * e) (by omega) (by omega) (by omega) (by omega) (by omega), bq (24 + 2 * e) (by omega) (by omega) (by omega) (by omega) (by omega), e9, e10, e11]
    exact k7 e he
  · intro a hA
    rw [bq 7 (by decide) (by decide) (by decide) (by decide) (by omega), k8 a hA]
    refine congrArg nI ?_
    by_cases z : a / 16 = s
    · have x1 : bsz r a = 0 := by simp [bsz, z, es, lg0]
      have e3 : r' 3 s = nI p := by rw [a3, if_pos rfl]
      have eP : pP r' s = p := pP_of hp e3
      rw [x1, bsz, z, if_neg (by rw [e8, lg0]; simp), eP, if_neg]
      rw [p7 _ (Nat.lt_of_le_of_lt (Nat.div_le_self _ _) (by omega))]
      intro y; exact absurd y.2.2.1.symm (nI_m1 (by omega))
    · refine (at_congr i1 hA (by rw [a3, if_neg z]) (by rw [e8]) (fun q hq e => ?_)).2.symm
      have y := (new _ q (by omega) hq e).2
      exact ⟨keep1 q y, by rw [a5, if_neg y], fun k hk => keep7 q k y hk⟩
  · intro a hA
    rw [bq 8 (by decide) (by decide) (by decide) (by decide) (by omega), k9 a hA]
    by_cases z : a / 16 = s
    · have x1 : ins r a = false := by simp [ins, z, es]
      have e3 : r' 3 s = nI p := by rw [a3, if_pos rfl]
      have eP : pP r' s = p := pP_of hp e3
      have x2 : ins r' a = false := by
        simp only [ins, z, eP, hu, p7 _ (Nat.lt_of_le_of_lt (Nat.div_le_self (a % 16) _) (show a % 16 < 16 by omega)), decide_eq_false_iff_not]
        intro y
        rcases y.2 with w | w
        · exact absurd w (by decide)
        · exact absurd w.2.symm (nI_m1 (by omega))
      rw [x1, x2]
    · rw [(at_congr i1 hA (r' := r') (by rw [a3, if_neg z]) (by rw [e8]) (fun q hq e => by
        have y := (new _ q (by omega) hq e).2
        exact ⟨keep1 q y, by rw [a5, if_neg y], fun k hk => keep7 q k y hk⟩)).1]
  · show c' 6 2 = _
    rw [bq 6 (by decide) (by decide) (by decide) (by decide) (by omega), k10]
    have hsm : sm (fun p => if r 1 p = 1 then uc r p (16 / 2 ^ pK r p) else 0) 0 12 = sm (fun p => if r' 1 p = 1 then uc r' p (16 / 2 ^ pK r' p) else 0) 0 12 := by
      refine sm_congr 12 0 (fun q _ hq => ?_)
      by_cases z : q = p
      · subst z
        rw [if_neg (by rw [ep]; decide), if_pos hu, huc _ (by rw [pK, a5, if_pos rfl, nI_clamp (by omega)]; omega)]
      · rw [keep1 q z]
        by_cases y : r 1 q = 1
        · obtain ⟨⟨e, he, e5⟩, -⟩ := i4 q (by omega) y
          have h2' := c2_le he
          have y1 : pK r q = e := pK_of he e5
          have y2 : pK r' q = e := pK_of he (by rw [a5, if_neg z, e5])
          rw [if_pos y, if_pos y, y1, y2, uco q _ z (by omega)]
        · rw [if_neg y, if_neg y]
    refine congrArg nI ?_
    unfold bcnt
    rw [e8, hsm]
