theorem cell_clear {c r c' r' : fl_G} {p d k s V : Nat} (h : Rl 0 c r) (hp : p < 12) (hd : d < 4) (hs : s < 24) (hu : r 1 p = 1) (e5 : r 5 p = nI d) (hk : k < 16 / 2 ^ d) (e7 : r 7 (16 * p + k) = nI s) (e3 : r 3 s = nI p) (hV : V < 2 ^ 16) (hbV : ∀ x, x < 16 → V.testBit x = decide (r' 7 (16 * p + x) ≠ -1))
    (a7 : ∀ x, r' 7 x = if x = 16 * p + k then -1 else r 7 x) (aq : ∀ q, q ≠ 0 → q ≠ 7 → q ≠ 10 → q ≠ 11 → r' q = r q) (h9 : rI9 r') (h1 : kL1 c' r') (h7 : kL7 c' r')
    (b7 : ∀ x, c' 7 x = if x = 16 * s + k * 2 ^ d then 0 else c 7 x) (b8 : ∀ x, c' 8 x = if 16 * s + k * 2 ^ d ≤ x ∧ x < 16 * s + k * 2 ^ d + 2 ^ d then 0 else c 8 x) (b6 : c' 6 2 = c 6 2 - 1) (bM : ∀ x, c' (10 + p) x = if x = 4 then nI V else c (10 + p) x) (bq : ∀ q, q ≠ 1 → q ≠ 6 → q ≠ 7 → q ≠ 8 → q ≠ 10 + p → q < 23 → c' q = c q) : Rl 0 c' r' := by
  obtain ⟨⟨i1, i2, i3, i4, i5, i6, i7, i8, i9⟩, k1, k2, k3, k4, k5, k6, k7, k8, k9, k10⟩ := h
  have h2 := c2_le hd
  have hw := p2_cases hd
  have f1 := aq 1 (by decide) (by decide) (by decide) (by decide)
  have f2 := aq 2 (by decide) (by decide) (by decide) (by decide)
  have f3 := aq 3 (by decide) (by decide) (by decide) (by decide)
  have f4 := aq 4 (by decide) (by decide) (by decide) (by decide)
  have f5 := aq 5 (by decide) (by decide) (by decide) (by decide)
  have f6 := aq 6 (by decide) (by decide) (by decide) (by decide)
  have f8 := aq 8 (by decide) (by decide) (by decide) (by decide)
  have keep7 : ∀ q j, j < 16 → (q ≠ p ∨ j ≠ k) → r' 7 (16 * q + j) = r 7 (16 * q + j) := fun q j hj hn => by rw [a7, if_neg (by omega)]
  have p7 : r' 7 (16 * p + k) = -1 := by rw [a7, if_pos rfl]
  have uco : ∀ q n, q ≠ p → n ≤ 16 → uc r' q n = uc r q n := fun q n hq hn => cr_congr _ _ (fun j _ hj => by simp only [keep7 q j (by omega) (Or.inl hq)])
  have ucp : uc r p (16 / 2 ^ d) = uc r' p (16 / 2 ^ d) + 1 := cr_more _ 0 k (by omega) (by omega) (by simp [p7]) (by simp [e7, nI_m1 (show s < 2 ^ 31 by omega)]) (fun x _ hx hne => by simp only [keep7 p x (by omega) (Or.inr hne)])
  have big : ∀ v, v < 24 → r 3 v = nI p → r 8 v = 0 := fun v hv e => by
    rcases Classical.em (r 8 v = 0) with q | q
    · exact q
    · obtain ⟨x, hx, e', e1⟩ := lg_map i7 hv q
      rw [e] at e'
      have := nI_inj (by omega) (by omega) e'
      rw [← this, hu] at e1; exact absurd e1 (by decide)
  have atk : ∀ a, a < 384 → r 3 (a / 16) = nI p → a % 16 / 2 ^ d = k → (ins r' a = false ∧ bsz r' a = 0) ∧ (ins r a = decide (a / 16 = s)) ∧ bsz r a = if a / 16 = s ∧ a % 2 ^ d = 0 then 2 ^ d else 0 := fun a hA e ei => by
    have eP : pP r (a / 16) = p := pP_of hp e
    have eK : pK r p = d := pK_of hd e5
    have eP' : pP r' (a / 16) = p := pP_of hp (by rw [f3, e])
    have eK' : pK r' p = d := pK_of hd (by rw [f5, e5])
    have m1' := nI_m1 (show p < 2 ^ 31 by omega)
    have lg := big _ (by omega) e
    refine ⟨⟨?_, ?_⟩, ?_, ?_⟩
    · simp only [ins, eP', f1, hu, eK', ei, p7, decide_eq_false_iff_not]
      intro y
      rcases y.2 with w | w
      · exact absurd w (by decide)
      · exact absurd w.2.symm (nI_m1 (by omega))
    · rw [bsz, f8, lg, if_neg (by simp), eP', eK', ei, p7, if_neg]
      intro y; exact absurd y.2.2.1.symm (nI_m1 (by omega))
    · simp only [ins, eP, hu, eK, ei, e7, e]
      by_cases z : a / 16 = s
      · simp [z, m1']
      · have : ¬ nI s = nI (a / 16) := fun y => z (nI_inj (by omega) (by omega) y).symm
        simp [z, this]
    · rw [bsz, lg, if_neg (by simp), eP, hu, eK, ei, e7, e]
      by_cases z : a / 16 = s
      · simp [z, m1']
      · have : ¬ nI s = nI (a / 16) := fun y => z (nI_inj (by omega) (by omega) y).symm
        simp [z, this]
  have ato : ∀ a, a < 384 → ¬ (r 3 (a / 16) = nI p ∧ a % 16 / 2 ^ d = k) → ins r' a = ins r a ∧ bsz r' a = bsz r a := fun a hA hn =>
    at_congr2 i1 hA (by rw [f3]) (by rw [f8]) (fun q hq e => ⟨by rw [f1], by rw [f5], by
      refine keep7 q _ (Nat.lt_of_le_of_lt (Nat.div_le_self _ _) (by omega)) ?_
      by_cases z : q = p
      · right
        intro y
        rw [z, pK_of hd e5] at y
        exact hn ⟨by rw [e, z], y⟩
      · exact Or.inl z⟩)
  refine ⟨⟨?_, ?_, ?_, ?_, ?_, ?_, ?_, ?_, h9⟩, h1, ?_, ?_, ?_, ?_, ?_, h7, ?_, ?_, ?_⟩
  · simp only [rI1, f3]; exact i1
  · simp only [rI2, f1]; exact i2
  · simp only [rI3, f1, f3]; exact i3
  · simp only [rI4, f1, f3, f5, f6]; exact i4
  · intro q e j hq he hj hq1 hq5
    rw [f1] at hq1; rw [f5] at hq5; rw [f3]
    by_cases z : q = p ∧ j = k
    · obtain ⟨rfl, rfl⟩ := z
      exact Or.inl p7
    · rw [keep7 q j hj (by omega)]; exact i5 q e j hq he hj hq1 hq5
  · simp only [rI6, f1, f3]; exact i6
  · simp only [rI7, f1, f3, f8]; exact i7
  · simp only [rI8, f1, f3, f8]; exact i8
  · simp only [kL2, f2, bq 3 (by decide) (by decide) (by decide) (by decide) (by omega) (by decide)]; exact k2
  · simp only [kL3, f3, bq 4 (by decide) (by decide) (by decide) (by decide) (by omega) (by decide)]; exact k3
  · simp only [kL4, vc, f3, bq 5 (by decide) (by decide) (by decide) (by decide) (by omega) (by decide)]; exact k4
  · intro q hq hq1
    rw [f1] at hq1
    rw [f4, f5, f6]
    obtain ⟨x1, x2, x3, W, x4, x5, x6⟩ := k5 q hq hq1
    by_cases z : q = p
    · subst z
      rw [bM, if_neg (by decide), bM, if_neg (by decide), bM, if_neg (by decide), bM, if_pos rfl]
      exact ⟨x1, x2, x3, V, hV, rfl, hbV⟩
    · rw [bq (10 + q) (by omega) (by omega) (by omega) (by omega) (by omega) (by omega)]
      exact ⟨x1, x2, x3, W, x4, x5, fun j hj => by rw [keep7 q j hj (Or.inl z)]; exact x6 j hj⟩
  · intro q hq hq1
    rw [f1] at hq1
    have z : q ≠ p := fun z => hq1 (by rw [z]; exact hu)
    rw [bq (10 + q) (by omega) (by omega) (by omega) (by omega) (by omega) (by omega)]
    exact k6 q hq hq1
  · intro a hA
    rw [b7, k8 a hA]
    obtain ⟨c1, c2, -⟩ := cell_iff (a := a) (s := s) hw hk
    by_cases z : r 3 (a / 16) = nI p ∧ a % 16 / 2 ^ d = k
    · obtain ⟨⟨-, x1⟩, -, x2⟩ := atk a hA z.1 z.2
      rw [x1, x2]
      by_cases y : a / 16 = s ∧ a % 2 ^ d = 0
      · rw [if_pos (c2.mp ⟨y.1, z.2, y.2⟩)]; rfl
      · rw [if_neg y, if_neg (fun w => y ⟨(c2.mpr w).1, (c2.mpr w).2.2⟩)]
    · rw [(ato a hA z).2, if_neg]
      intro w
      have := c2.mpr w
      exact z ⟨by rw [this.1]; exact e3, this.2.1⟩
  · intro a hA
    rw [b8, k9 a hA]
    obtain ⟨c1, c2, -⟩ := cell_iff (a := a) (s := s) hw hk
    by_cases z : r 3 (a / 16) = nI p ∧ a % 16 / 2 ^ d = k
    · obtain ⟨⟨x1, -⟩, x2, -⟩ := atk a hA z.1 z.2
      rw [x1, x2]
      by_cases y : a / 16 = s
      · rw [if_pos (c1.mp ⟨y, z.2⟩)]; simp
      · rw [if_neg (fun w => y (c1.mpr w).1)]; simp [y]
    · rw [(ato a hA z).1, if_neg]
      intro w
      have := c1.mpr w
      exact z ⟨by rw [this.1]; exact e3, this.2⟩
  · show c' 6 2 = _
    have hsm : sm (fun p => if r 1 p = 1 then uc r p (16 / 2 ^ pK r p) else 0) 0 12 = sm (fun p => if r' 1 p = 1 then uc r' p (16 / 2 ^ pK r' p) else 0) 0 12 + 1 := by
      have eK : ∀ q, pK r' q = pK r q := fun q => by unfold pK; rw [f5]
      refine sm_more 12 0 p (by omega) (by omega) ?_ (fun q _ hq hne => ?_)
      · simp only [f1, hu, if_true, eK, pK_of hd e5, ucp]
      · simp only [f1, eK]
        by_cases y : r 1 q = 1
        · obtain ⟨⟨e, he, e5'⟩, -⟩ := i4 q (by omega) y
          have h2' := c2_le he
          rw [if_pos y, if_pos y, pK_of he e5', uco q _ hne (by omega)]
        · rw [if_neg y, if_neg y]
    have hb : bcnt r = bcnt r' + 1 := by
      unfold bcnt
      rw [f8, hsm]
      omega
    rw [b6, k10, hb, dec1]
/-- the vector after a cell has come back -/
theorem putback_9 {r r' : fl_G} {p d m k : Nat} (i9 : rI9 r) (hp : p < 12) (hd : d < 4) (hk : k < 16 / 2 ^ d) (hu : r 1 p = 1) (e5 : r 5 p = nI d) (e9 : r 9 d = nI p) (e10 : r 10 d = nI m) (hm : m < 16) (e7 : r 7 (16 * p + k) ≠ -1)
    (a7 : ∀ x, r' 7 x = if x = 16 * p + k then -1 else r 7 x) (aq : ∀ q, q ≠ 0 → q ≠ 7 → q ≠ 10 → q ≠ 11 → r' q = r q) (a10 : ∀ x, r' 10 x = if x = d then nI (m + 1) else r 10 x) (ao : ∀ x, x < 16 * d ∨ 16 * d + 16 ≤ x → r' 11 x = r 11 x) (f : Nat → Int32) (hf : ∀ j, f j = if j = m then nI k else r 11 (16 * d + j)) (ai : ∃ i j, i < m + 1 ∧ j < m + 1 ∧ ∀ x, x < 16 → r' 11 (16 * d + x) = xc f i j x) : rI9 r' := by
  have h2 := c2_le hd
  have f1 := aq 1 (by decide) (by decide) (by decide) (by decide)
  have f5 := aq 5 (by decide) (by decide) (by decide) (by decide)
  have f9 := aq 9 (by decide) (by decide) (by decide) (by decide)
  have keep7 : ∀ q j, j < 16 → (q ≠ p ∨ j ≠ k) → r' 7 (16 * q + j) = r 7 (16 * q + j) := fun q j hj hn => by rw [a7, if_neg (by omega)]
  have p7 : r' 7 (16 * p + k) = -1 := by rw [a7, if_pos rfl]
  intro e he
  have h2' := c2_le he
  rw [f9, f1, f5]
  by_cases z : e = d
  · subst z
    rcases i9 e he with ⟨y, -⟩ | ⟨q, n, y1, y2, y3, y4, y5, y6, y7, y8⟩
    · rw [e9] at y; exact absurd y (nI_m1 (by omega))
    · have hq : q = p := nI_inj (by omega) (by omega) (by rw [← y2, e9])
      subst hq
      have hn : n = m := nI_inj (by omega) (by omega) (by rw [← y5, e10])
      subst hn
      have ucp : uc r q (16 / 2 ^ e) = uc r' q (16 / 2 ^ e) + 1 := cr_more _ 0 k (by omega) (by omega) (by simp [p7]) (by simp [e7]) (fun x _ hx hne => by simp only [keep7 q x (by omega) (Or.inr hne)])
      obtain ⟨i, j, hi, hj, hx⟩ := ai
      have ent : ∀ x, x < n + 1 → ∃ t, t < 16 / 2 ^ e ∧ f x = nI t ∧ r' 7 (16 * q + t) = -1 := fun x hx' => by
        rw [hf]
        by_cases w : x = n
        · rw [if_pos w]; exact ⟨k, hk, rfl, p7⟩
        · rw [if_neg w]
          obtain ⟨t, t1, t2, t3⟩ := y7 x (by omega)
          refine ⟨t, t1, t2, ?_⟩
          rw [keep7 q t (by omega) (Or.inr (fun v => e7 (by rw [← v]; exact t3)))]
          exact t3
      have finj : ∀ x y, x < n + 1 → y < n + 1 → f x = f y → x = y := fun x y hx' hy' hxy => by
        rw [hf, hf] at hxy
        by_cases w1 : x = n <;> by_cases w2 : y = n
        · omega
        · rw [if_pos w1, if_neg w2] at hxy
          obtain ⟨t, t1, t2, t3⟩ := y7 y (by omega)
          rw [t2] at hxy
          have := nI_inj (by omega) (by omega) hxy
          rw [← this] at t3; exact absurd t3 e7
        · rw [if_neg w1, if_pos w2] at hxy
          obtain ⟨t, t1, t2, t3⟩ := y7 x (by omega)
          rw [t2] at hxy
          have := nI_inj (by omega) (by omega) hxy
          rw [this] at t3; exact absurd t3 e7
        · rw [if_neg w1, if_neg w2] at hxy
          exact y8 x y (by omega) (by omega) hxy
      refine Or.inr ⟨q, n + 1, y1, y2, y3, y4, by rw [a10, if_pos rfl], by omega, fun x hx' => ?_, fun x y hx' hy' hxy => ?_⟩
      · rw [hx x (by omega)]
        obtain ⟨x2, h3, h4⟩ := xc_sg f hi hj hx'
        rw [h4]
        exact ent x2 h3
      · rw [hx x (by omega), hx y (by omega)] at hxy
        exact xc_inj hi hj finj x y hx' hy' hxy
  · rw [a10, if_neg z]
    rcases i9 e he with y | ⟨q, n, y1, y2, y3, y4, y5, y6, y7, y8⟩
    · exact Or.inl y
    · have zq : q ≠ p := fun w => by
        rw [w, e5] at y4
        exact z (nI_inj (by omega) (by omega) y4).symm
      have hn16 : n ≤ 16 := by omega
      refine Or.inr ⟨q, n, y1, y2, y3, y4, y5, ?_, fun j hj => ?_, fun i j hi hj hij => ?_⟩
      · have : uc r' q (16 / 2 ^ e) = uc r q (16 / 2 ^ e) := cr_congr _ _ (fun j _ hj => by simp only [keep7 q j (by omega) (Or.inl zq)])
        rw [this]; exact y6
      · rw [ao _ (by omega)]
        obtain ⟨t, t1, t2, t3⟩ := y7 j hj
        exact ⟨t, t1, t2, by rw [keep7 q t (by omega) (Or.inl zq)]; exact t3⟩
      · rw [ao _ (by omega), ao _ (by omega)] at hij
        exact y8 i j hi hj hij
