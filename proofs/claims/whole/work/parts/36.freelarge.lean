/-! a large block comes back -/
theorem large_L {s n a : Nat} (h24 : s < 24) (hs : s + n ≤ 24) (hn : n ≤ 4) : ∀ (d m j : Nat) (c r : fl_G), j + d = n → d < m → kL3 c r → kL4 c r → r 8 s = nI n → (∀ t, j ≤ t → t < n → ∃ p, p < 12 ∧ r 3 (s + t) = nI p ∧ r 1 p = 2 ∧ ∀ w, w < 24 → r 3 w = nI p → w = s + t) →
    ∃ c' r', fS_closeLarge_L20 m (nI j) (nI n) (nI s) (nI a) c = some (nI n, c') ∧ fR_freeLarge_L2 m (nI (s + j)) (nI s) r = some (nI (s + n), r') ∧ kL3 c' r' ∧ kL4 c' r' ∧ (∀ q, q ≠ 4 → q ≠ 5 → c' q = c q) ∧ (∀ q, q ≠ 1 → q ≠ 3 → r' q = r q) ∧ (∀ z, r' 3 z = if s + j ≤ z ∧ z < s + n then -1 else r 3 z) ∧
      (∀ p, p < 12 → r' 1 p = r 1 p ∨ (r' 1 p = 0 ∧ r 1 p = 2 ∧ ∃ t, j ≤ t ∧ t < n ∧ r 3 (s + t) = nI p)) ∧ (∀ t p, j ≤ t → t < n → p < 12 → r 3 (s + t) = nI p → r' 1 p = 0)
  | 0, m + 1, j, c, r, hj, hm, k3, k4, e8, ha => by
    refine ⟨c, r, ?_, ?_, k3, k4, fun _ _ _ => rfl, fun _ _ _ => rfl, fun z => by rw [if_neg (by omega)], fun p _ => Or.inl rfl, fun t p h1 h2 => by omega⟩
    · show fS_closeLarge_B20 _ _ _ _ _ _ = _
      rw [fS_closeLarge_B20, show j = n by omega, if_pos (nI_le (Nat.le_refl _) (by omega))]
    · show fR_freeLarge_B2 _ _ _ _ = _
      rw [fR_freeLarge_B2, fl_ck_pos (fl_in_nI h24 (by decide)), nI_clamp (by omega), e8, nI_add, show j = n by omega, if_pos (nI_le (Nat.le_refl _) (by omega))]
  | d + 1, m + 1, j, c, r, hj, hm, k3, k4, e8, ha => by
    obtain ⟨p, hp, e3, e1, hq⟩ := ha j (Nat.le_refl _) (by omega)
    obtain ⟨r0, z1, z2, z3⟩ := releaseR_only r (p := p) 24 1000 0 r (by omega) (by omega)
    obtain ⟨r1, hr1⟩ : ∃ r1, r1 = fl_up r0 1 p 0 := ⟨_, rfl⟩
    obtain ⟨c1, hc1⟩ : ∃ c1, c1 = fl_up (fl_up c 5 p (c 5 p - 1)) 4 (s + j) (-1) := ⟨_, rfl⟩
    have a1 : ∀ x, r1 1 x = if x = p then 0 else r 1 x := fun x => by rw [hr1, fl_up_at, z2 1 (by decide)]; simp
    have a3 : ∀ z, r1 3 z = if z = s + j then -1 else r 3 z := fun z => by
      rw [hr1, fl_up_ne _ _ _ (by decide), z3 z]
      by_cases w : z = s + j
      · rw [if_pos w, if_pos ⟨by omega, by omega, by rw [w]; exact e3⟩]
      · rw [if_neg w, if_neg (fun y => w (hq z y.2.1 y.2.2))]
    have aq : ∀ q, q ≠ 1 → q ≠ 3 → r1 q = r q := fun q h1 h3 => by rw [hr1, fl_up_ne _ _ _ h1, z2 q h3]
    have b4 : ∀ x, c1 4 x = if x = s + j then -1 else c 4 x := fun x => by rw [hc1, fl_up_at, fl_up_ne _ _ _ (by decide)]; simp
    have b5 : ∀ x, c1 5 x = if x = p then c 5 p - 1 else c 5 x := fun x => by rw [hc1, fl_up_ne _ _ _ (by decide), fl_up_at]; simp
    have bq : ∀ q, q ≠ 4 → q ≠ 5 → c1 q = c q := fun q h4 h5 => by rw [hc1, fl_up_ne _ _ _ h4, fl_up_ne _ _ _ h5]
    obtain ⟨l3, l4⟩ := span_close (show s + j < 24 by omega) hp k3 k4 e3 (fun x _ => a3 x) b4 b5
    have hne : ∀ t q, t < n → t ≠ j → r 3 (s + t) = nI q → q ≠ p := fun t q ht hn' e w => by
      have := hq (s + t) (by omega) (by rw [e, w]); omega
    obtain ⟨c', r', f1, f2, f3, f4, f5, f6, f7, f8, f9⟩ := large_L (a := a) h24 hs hn d m (j + 1) c1 r1 (by omega) (by omega) l3 l4 (by rw [aq 8 (by decide) (by decide)]; exact e8) (fun t h1 h2 => by
      obtain ⟨q, y1, y2, y3, y4⟩ := ha t (by omega) h2
      refine ⟨q, y1, by rw [a3, if_neg (by omega)]; exact y2, by rw [a1, if_neg (hne t q h2 (by omega) y2)]; exact y3, fun w hw e => ?_⟩
      rw [a3] at e
      by_cases x : w = s + j
      · rw [if_pos x] at e; exact absurd e.symm (nI_m1 (by omega))
      · rw [if_neg x] at e; exact y4 w hw e)
    refine ⟨c', r', ?_, ?_, f3, f4, fun q h4 h5 => by rw [f5 q h4 h5, bq q h4 h5], fun q h1 h3 => by rw [f6 q h1 h3, aq q h1 h3], fun z => ?_, fun q hq' => ?_, fun t q h1 h2 hq' e => ?_⟩
    · show fS_closeLarge_B20 _ _ _ _ _ _ = _
      rw [fS_closeLarge_B20, if_neg (nI_ge (by omega) (by omega)), nI_add, unmap_spec k3 (by omega) hp e3, fl_bd_mk, ← hc1, nI_1, f1]
    · show fR_freeLarge_B2 _ _ _ _ = _
      rw [fR_freeLarge_B2, fl_ck_pos (fl_in_nI (show s < 24 by omega) (by decide)), nI_clamp (by omega), e8, nI_add, if_neg (nI_ge (by omega) (by omega)), fl_ck_pos (fl_in_nI (show s + j < 24 by omega) (by decide)), nI_clamp (by omega), e3, fR_release, fl_bd_of (show fR_release_L2 1000 0 (nI p) r = some (nI 24, r0) from z1), fl_ck_pos (fl_in_nI hp (by decide)), nI_clamp (by omega), fl_bd_mk, ← hr1, nI_1]
      exact f2
    · rw [f7 z, a3 z]
      by_cases w : z = s + j
      · rw [if_neg (by omega), if_pos w, if_pos (by omega)]
      · rw [if_neg w]
        by_cases y : s + j ≤ z ∧ z < s + n
        · rw [if_pos (by omega), if_pos y]
        · rw [if_neg (by omega), if_neg y]
    · by_cases w : q = p
      · subst w
        refine Or.inr ⟨?_, e1, j, Nat.le_refl _, by omega, e3⟩
        rcases f8 q hq' with y | ⟨y, -⟩
        · rw [y, a1, if_pos rfl]
        · exact y
      · rcases f8 q hq' with y | ⟨y1, y2, t, y3, y4, y5⟩
        · rw [y, a1, if_neg w]; exact Or.inl rfl
        · rw [a1, if_neg w] at y2
          rw [a3, if_neg (by omega)] at y5
          exact Or.inr ⟨y1, y2, t, by omega, y4, y5⟩
    · by_cases w : t = j
      · subst w
        have : q = p := nI_inj (by omega) (by omega) (by rw [← e, e3])
        subst this
        rcases f8 q hp with y | ⟨y, -⟩
        · rw [y, a1, if_pos rfl]
        · exact y
      · exact f9 t q (by omega) h2 hq' (by rw [a3, if_neg (by omega)]; exact e)
theorem unbig_rel {c r c1 r1 c2 : fl_G} {n s : Nat} (h : Rl 0 c r) (n1 : 1 ≤ n) (n4 : n ≤ 4) (hs : s + n ≤ 24) (e8 : r 8 s = nI n) (hl : ∀ j, j < n → ∃ p, p < 12 ∧ r 3 (s + j) = nI p ∧ r 1 p = 2) (hz : ∀ j, 0 < j → j < n → r 8 (s + j) = 0)
    (f5 : kL3 c1 r1) (f6 : kL4 c1 r1) (g2 : ∀ q, q ≠ 4 → q ≠ 5 → c1 q = c q) (g1 : ∀ q, q ≠ 1 → q ≠ 3 → r1 q = r q) (g3 : ∀ z, r1 3 z = if s + 0 ≤ z ∧ z < s + n then -1 else r 3 z)
    (g6 : ∀ p, p < 12 → r1 1 p = r 1 p ∨ (r1 1 p = 0 ∧ r 1 p = 2 ∧ ∃ t, 0 ≤ t ∧ t < n ∧ r 3 (s + t) = nI p)) (g7 : ∀ t p, 0 ≤ t → t < n → p < 12 → r 3 (s + t) = nI p → r1 1 p = 0)
    (d1 : ∀ q, q ≠ 6 → q ≠ 7 → q ≠ 8 → c2 q = c1 q) (d7 : ∀ x, c2 7 x = if x = 16 * s then 0 else c1 7 x) (d8 : ∀ x, c2 8 x = if 16 * s ≤ x ∧ x < 16 * s + 16 * n then 0 else c1 8 x) (d6 : c2 6 2 = c1 6 2 - 1) : Rl 0 c2 (fl_up r1 8 s 0) := by
  obtain ⟨⟨i1, i2, i3, i4, i5, i6, i7, i8, i9⟩, k1, k2, k3, k4, k5, k6, k7, k8, k9, k10⟩ := h
  obtain ⟨R, hR⟩ : ∃ R, R = fl_up r1 8 s 0 := ⟨_, rfl⟩
  rw [← hR]
  have u : ∀ q, q ≠ 8 → R q = r1 q := fun q hq => by rw [hR]; exact fl_up_ne _ _ _ hq
  have u8 : ∀ v, R 8 v = if v = s then 0 else r 8 v := fun v => by rw [hR, fl_up_at, g1 8 (by decide) (by decide)]; simp
  have e0 : R 0 = r 0 := by rw [u 0 (by decide), g1 0 (by decide) (by decide)]
  have e2 : R 2 = r 2 := by rw [u 2 (by decide), g1 2 (by decide) (by decide)]
  have e4 : R 4 = r 4 := by rw [u 4 (by decide), g1 4 (by decide) (by decide)]
  have e5 : R 5 = r 5 := by rw [u 5 (by decide), g1 5 (by decide) (by decide)]
  have e6 : R 6 = r 6 := by rw [u 6 (by decide), g1 6 (by decide) (by decide)]
  have e7 : R 7 = r 7 := by rw [u 7 (by decide), g1 7 (by decide) (by decide)]
  have e9 : R 9 = r 9 := by rw [u 9 (by decide), g1 9 (by decide) (by decide)]
  have e10 : R 10 = r 10 := by rw [u 10 (by decide), g1 10 (by decide) (by decide)]
  have e11 : R 11 = r 11 := by rw [u 11 (by decide), g1 11 (by decide) (by decide)]
  have e1u : R 1 = r1 1 := u 1 (by decide)
  have e3u : R 3 = r1 3 := u 3 (by decide)
  have e3o : ∀ v, v < s ∨ s + n ≤ v → R 3 v = r 3 v := fun v hv => by rw [e3u, g3, if_neg (by omega)]
  have e3i : ∀ v, s ≤ v → v < s + n → R 3 v = -1 := fun v h1 h2 => by rw [e3u, g3, if_pos (by omega)]
  have hin : ∀ v, s ≤ v → v < s + n → ∃ p, p < 12 ∧ r 3 v = nI p ∧ r 1 p = 2 ∧ R 1 p = 0 := fun v h1 h2 => by
    obtain ⟨p, hp, y1, y2⟩ := hl (v - s) (by omega)
    have y3 := g7 (v - s) p (by omega) (by omega) hp y1
    rw [show s + (v - s) = v by omega] at y1
    exact ⟨p, hp, y1, y2, by rw [e1u]; exact y3⟩
  have in8 : ∀ v, s < v → v < s + n → r 8 v = 0 := fun v h1 h2 => by
    have := hz (v - s) (by omega) (by omega)
    rw [show s + (v - s) = v by omega] at this; exact this
  have D1 : ∀ v p, v < 24 → p < 12 → r 3 v = nI p → (v < s ∨ s + n ≤ v) → R 3 v = nI p ∧ R 1 p = r 1 p := fun v p hv hp e ho => by
    refine ⟨by rw [e3o v ho, e], ?_⟩
    rw [e1u]
    rcases g6 p hp with y | ⟨-, y2, t, -, y3, y4⟩
    · exact y
    · have := i6 p v (s + t) hp hv (by omega) y2 e y4
      omega
  have D2 : ∀ v p, v < 24 → p < 12 → R 3 v = nI p → r 3 v = nI p ∧ (v < s ∨ s + n ≤ v) ∧ R 1 p = r 1 p := fun v p hv hp e => by
    have ho : v < s ∨ s + n ≤ v := by
      rcases Nat.lt_or_ge v s with y | y
      · exact Or.inl y
      · rcases Nat.lt_or_ge v (s + n) with y2 | y2
        · rw [e3i v y y2] at e; exact absurd e.symm (nI_m1 (by omega))
        · exact Or.inr y2
    rw [e3o v ho] at e
    exact ⟨e, ho, (D1 v p hv hp e ho).2⟩
  have D3 : ∀ p, p < 12 → (R 1 p = 1 ↔ r 1 p = 1) := fun p hp => by
    rw [e1u]
    rcases g6 p hp with y | ⟨y, y2, -⟩
    · rw [y]
    · rw [y, y2]; decide
  have D4 : ∀ v p, v < 24 → p < 12 → r 3 v = nI p → r 1 p ≠ 2 → (v < s ∨ s + n ≤ v) := fun v p hv hp e hn => by
    rcases Nat.lt_or_ge v s with y | y
    · exact Or.inl y
    · rcases Nat.lt_or_ge v (s + n) with y2 | y2
      · obtain ⟨q, hq, z1, z2, -⟩ := hin v y y2
        rw [e] at z1
        rw [nI_inj (by omega) (by omega) z1] at hn
        exact absurd z2 hn
      · exact Or.inr y2
  have D5 : ∀ a, a < 384 → (a / 16 < s ∨ s + n ≤ a / 16) → ins R a = ins r a ∧ bsz R a = bsz r a := fun a hA ho =>
    at_congr i1 hA (e3o _ ho) (by rw [u8, if_neg (by omega)]) (fun p hp e => ⟨(D1 _ p (by omega) hp e ho).2, by rw [e5], fun k _ => by rw [e7]⟩)
  have D6 : ∀ a, a < 384 → s ≤ a / 16 → a / 16 < s + n → ins R a = false ∧ bsz R a = 0 ∧ bsz r a = if a = 16 * s then 16 * n else 0 := fun a hA h1 h2 => by
    have b1 := e3i _ h1 h2
    obtain ⟨p, hp, y1, y2, -⟩ := hin _ h1 h2
    have eP := pP_of hp y1
    have z8 : R 8 (a / 16) = 0 := by
      rw [u8]
      by_cases w : a / 16 = s
      · rw [if_pos w]
      · rw [if_neg w]; exact in8 _ (by omega) h2
    refine ⟨by simp [ins, b1], by simp [bsz, b1, z8], ?_⟩
    by_cases e : a = 16 * s
    · rw [if_pos e, bsz, show a / 16 = s by omega, if_pos ⟨by omega, by rw [e8]; exact nI_ne0 (by omega) (by omega)⟩, e8, nI_clamp (by omega)]
    · rw [if_neg e, bsz, if_neg, if_neg]
      · rw [eP, y2]; intro q; exact absurd q.2.1 (by decide)
      · intro q
        by_cases w : a / 16 = s
        · omega
        · exact q.2 (in8 _ (by omega) h2)
  refine ⟨⟨?_, ?_, ?_, ?_, ?_, ?_, ?_, ?_, ?_⟩, ?_, ?_, ?_, ?_, ?_, ?_, ?_, ?_, ?_, ?_⟩
  · intro v hv
    rcases Nat.lt_or_ge v s with y | y
    · rw [e3o v (Or.inl y)]; exact i1 v hv
    · rcases Nat.lt_or_ge v (s + n) with y2 | y2
      · exact Or.inl (e3i v y y2)
      · rw [e3o v (Or.inr y2)]; exact i1 v hv
  · intro p hp
    rw [e1u]
    rcases g6 p hp with y | ⟨y, -⟩
    · rw [y]; exact i2 p hp
    · exact Or.inl y
  · intro p hp
    constructor
    · intro h0 v hv e
      obtain ⟨y1, -, y2⟩ := D2 v p hv hp e
      exact (i3 p hp).mp (by rw [← y2]; exact h0) v hv y1
    · intro hn
      rw [e1u]
      rcases g6 p hp with y | ⟨y, -⟩
      · by_cases w : ∃ t, t < n ∧ r 3 (s + t) = nI p
        · obtain ⟨t, w1, w2⟩ := w
          exact g7 t p (by omega) w1 hp w2
        · rw [y]
          refine (i3 p hp).mpr (fun v hv e => ?_)
          rcases Nat.lt_or_ge v s with x | x
          · exact hn v hv (by rw [e3o v (Or.inl x)]; exact e)
          · rcases Nat.lt_or_ge v (s + n) with x2 | x2
            · exact w ⟨v - s, by omega, by rw [show s + (v - s) = v by omega]; exact e⟩
            · exact hn v hv (by rw [e3o v (Or.inr x2)]; exact e)
      · exact y
  · intro p hp hu
    have hu' := (D3 p hp).mp hu
    obtain ⟨a, hh, b1, b2, b3⟩ := i4 p hp hu'
    rw [e5, e6]
    exact ⟨a, hh, b1, b2, (D1 hh p b1 hp b3 (D4 hh p b1 hp b3 (by rw [hu']; decide))).1⟩
  · intro p d k hp hd hk hu h5
    have hu' := (D3 p hp).mp hu
    rw [e5] at h5
    rw [e7]
    rcases i5 p d k hp hd hk hu' h5 with q | ⟨q1, v, q2, q3, q4⟩
    · exact Or.inl q
    · exact Or.inr ⟨q1, v, q2, q3, (D1 v p q2 hp q4 (D4 v p q2 hp q4 (by rw [hu']; decide))).1⟩
  · intro p v w hp hv hw hu hv3 hw3
    obtain ⟨y1, -, y2⟩ := D2 v p hv hp hv3
    exact i6 p v w hp hv hw (by rw [← y2]; exact hu) y1 (D2 w p hw hp hw3).1
  · intro v hv
    rw [u8]
    by_cases e : v = s
    · rw [if_pos e]; exact Or.inl rfl
    · rw [if_neg e]
      rcases i7 v hv with q | ⟨m, m1, m2, m3, m4, m5, m6⟩
      · exact Or.inl q
      · have hd : ∀ j, j < m → (v + j < s ∨ s + n ≤ v + j) := fun j hj => by
          rcases Nat.lt_or_ge (v + j) s with x | x
          · exact Or.inl x
          · rcases Nat.lt_or_ge (v + j) (s + n) with x2 | x2
            · exfalso
              rcases Nat.lt_or_ge v s with y | y
              · have := m6 (s - v) (by omega) (by omega)
                rw [show v + (s - v) = s by omega, e8] at this
                exact nI_ne0 (by omega) (by omega) this
              · have := in8 v (by omega) (by omega)
                rw [m4] at this
                exact nI_ne0 (by omega) (by omega) this
            · exact Or.inr x2
        refine Or.inr ⟨m, m1, m2, m3, m4, fun j hj => ?_, fun j h1 h2 => ?_⟩
        · obtain ⟨p, hp, a1, a2⟩ := m5 j hj
          obtain ⟨b1, b2⟩ := D1 (v + j) p (by omega) hp a1 (hd j hj)
          exact ⟨p, hp, b1, by rw [b2]; exact a2⟩
        · rw [u8]
          by_cases e2 : v + j = s
          · rw [if_pos e2]
          · rw [if_neg e2]; exact m6 j h1 h2
  · intro v p hv hp hv3 hu
    obtain ⟨y1, y2, y3⟩ := D2 v p hv hp hv3
    obtain ⟨w, m, w1, w2, w3, w4⟩ := i8 v p hv hp y1 (by rw [← y3]; exact hu)
    refine ⟨w, m, w1, w2, w3, ?_⟩
    rw [u8, if_neg]
    · exact w4
    · intro e
      rw [e, e8] at w4
      have := nI_inj (by omega) (by omega) w4
      omega
  · intro d hd
    rw [e9, e10]
    rcases i9 d hd with q | ⟨p, m, q1, q2, q3, q4, q5, q6, q7, q8⟩
    · exact Or.inl q
    · refine Or.inr ⟨p, m, q1, q2, (D3 p q1).mpr q3, by rw [e5]; exact q4, q5, ?_, ?_, ?_⟩
      · unfold uc; rw [e7]; exact q6
      · rw [e11, e7]; exact q7
      · rw [e11]; exact q8
  · simp only [kL1, d1 1 (by decide) (by decide) (by decide), d1 0 (by decide) (by decide) (by decide), g2 1 (by decide) (by decide), g2 0 (by decide) (by decide), e0]
    exact k1
  · intro i hi; rw [d1 3 (by decide) (by decide) (by decide), g2 3 (by decide) (by decide), e2]; exact k2 i hi
  · intro i hi; rw [d1 4 (by decide) (by decide) (by decide), e3u]; exact f5 i hi
  · intro p hp; rw [d1 5 (by decide) (by decide) (by decide)]; unfold vc; rw [e3u]; exact f6 p hp
  · intro p hp hu
    rw [d1 (10 + p) (by omega) (by omega) (by omega), g2 (10 + p) (by omega) (by omega), e4, e5, e6, e7]
    exact k5 p hp ((D3 p hp).mp hu)
  · intro p hp hu
    rw [d1 (10 + p) (by omega) (by omega) (by omega), g2 (10 + p) (by omega) (by omega)]
    exact k6 p hp (fun q => hu ((D3 p hp).mpr q))
  · intro d hd
    rw [d1 (23 + 2 * d) (by omega) (by omega) (by omega), g2 (23 + 2 * d) (by omega) (by omega), d1 (24 + 2 * d) (by omega) (by omega) (by omega), g2 (24 + 2 * d) (by omega) (by omega), e9, e10, e11]
    exact k7 d hd
  · intro a hA
    rw [d7, g2 7 (by decide) (by decide), k8 a hA]
    rcases Nat.lt_or_ge (a / 16) s with q | q
    · rw [if_neg (by omega), (D5 a hA (Or.inl q)).2]
    · rcases Nat.lt_or_ge (a / 16) (s + n) with q2 | q2
      · obtain ⟨-, x1, x2⟩ := D6 a hA q q2
        rw [x1, x2]
        by_cases e : a = 16 * s
        · rw [if_pos e]; rfl
        · rw [if_neg e, if_neg e]
      · rw [if_neg (by omega), (D5 a hA (Or.inr q2)).2]
  · intro a hA
    rw [d8, g2 8 (by decide) (by decide), k9 a hA]
    rcases Nat.lt_or_ge (a / 16) s with q | q
    · rw [if_neg (by omega), (D5 a hA (Or.inl q)).1]
    · rcases Nat.lt_or_ge (a / 16) (s + n) with q2 | q2
      · obtain ⟨x1, -⟩ := D6 a hA q q2
        rw [if_pos (by omega), x1, if_neg (by decide)]
      · rw [if_neg (by omega), (D5 a hA (Or.inr q2)).1]
  · show c2 6 2 = _
    rw [d6, g2 6 (by decide) (by decide), k10]
    have x1 : cr (fun v => decide (r 8 v ≠ 0)) 0 24 = cr (fun v => decide (R 8 v ≠ 0)) 0 24 + 1 := by
      refine cr_more 24 0 s (by omega) (by omega) (by simp [u8]) (by simp [e8, nI_ne0 (show 0 < n by omega) (show n < 2 ^ 31 by omega)]) (fun v _ _ hv => by simp [u8, hv])
    have x2 : sm (fun p => if R 1 p = 1 then uc R p (16 / 2 ^ pK R p) else 0) 0 12 = sm (fun p => if r 1 p = 1 then uc r p (16 / 2 ^ pK r p) else 0) 0 12 := by
      refine sm_congr 12 0 (fun p _ hp => ?_)
      have e1 : uc R p = uc r p := by funext m; unfold uc; rw [e7]
      have e2 : pK R p = pK r p := by unfold pK; rw [e5]
      simp only [D3 p (by omega), e1, e2]
    have x3 : bcnt r = bcnt R + 1 := by
      unfold bcnt
      rw [x1, x2]
      omega
    rw [x3, dec1]
theorem freeLarge {c r : fl_G} (h : Rl 0 c r) {a : Nat} (ha : a < 384) (hb : a % 16 = 0 ∧ r 8 (a / 16) ≠ 0) : ∃ c' r', fS_free (nI a) c = some (1, c') ∧ fR_free (nI a) r = some (1, r') ∧ Rl 0 c' r' := by
  have hh := h
  obtain ⟨⟨i1, i2, i3, i4, i5, i6, i7, i8, i9⟩, k1, k2, k3, k4, k5, k6, k7, k8, k9, k10⟩ := h
  obtain ⟨s, hs⟩ : ∃ s, s = a / 16 := ⟨_, rfl⟩
  have ea : a = 16 * s := by omega
  rcases i7 s (by omega) with y | ⟨n, n1, n4, n24, e8, hl, hz⟩
  · rw [hs] at y; exact absurd y hb.2
  have eb := bsz_big hb
  rw [← hs, e8, nI_clamp (by omega)] at eb
  obtain ⟨p, hp, e3, e1⟩ := hl 0 (by omega)
  rw [Nat.add_zero] at e3
  obtain ⟨c1, r1, f1, f2, f3, f4, f5, f6, f7, f8, f9⟩ := large_L (a := a) (show s < 24 by omega) n24 n4 n 1000 0 c r (by omega) (by omega) k3 k4 e8 (fun t _ ht => by
    obtain ⟨q, hq, y1, y2⟩ := hl t ht
    exact ⟨q, hq, y1, y2, fun w hw e => i6 q w (s + t) hq hw (by omega) y2 e y1⟩)
  obtain ⟨c2, b1, b2, b3, b4, b5⟩ := remove_spec c1 ha (w := 16 * n) (by rw [f5 7 (by decide) (by decide), k8 a ha, eb]) (by omega) (by omega)
  refine ⟨c2, fl_up r1 8 s 0, ?_, ?_, unbig_rel hh n1 n4 n24 e8 hl hz f3 f4 f5 f6 f7 f8 f9 b2 (by rw [← ea]; exact b3) (by rw [← ea]; exact b4) b5⟩
  · rw [fS_free, beginsAt_eq hh ha, fl_bd_mk, eb, if_neg (show ¬ (if 16 * n = 0 then (0 : Int32) else 1) = 0 by rw [if_neg (by omega)]; decide), behindC_p k3 ha hp (by rw [← hs]; exact e3), exists_no k6 hp (by rw [e1]; decide), fl_bd_mk, if_pos rfl, fl_bd_mk, fl_cs_N, fS_closeLarge, wordsAt_eq k8 ha, fl_bd_mk, eb, dv16 (by omega), dv16 (by omega), show 16 * n / 16 = n by omega, ← hs, fl_bd_of (show fS_closeLarge_L20 1000 0 (nI n) (nI s) (nI a) c = some (nI n, c1) from f1), fl_bd_mk, b1, fl_bd_mk]
  · rw [fR_free, (isLarge_eq i7 ha).1 hb, fl_bd_mk, if_neg one_ne, dv16 (by omega), ← hs, fR_freeLarge, fl_bd_of (show fR_freeLarge_L2 1000 (nI s) (nI s) r = some (nI (s + n), r1) from f2), fl_ck_pos (fl_in_nI (by omega) (by decide)), nI_clamp (by omega), fl_bd_mk]
theorem s_free : lw_S1 fS_free fR_free Rl := by
  intro k x c r _ h
  have hno : x < 0 ∨ nI 384 ≤ x → ∃ v gC' gR', fS_free x c = some (v, gC') ∧ fR_free x r = some (v, gR') ∧ Rl (k + 1) gC' gR' := fun hx => ⟨0, c, r, by rw [fS_free, beginsAt_no c hx]; rfl, by rw [fR_free, isLarge_no r hx, fl_bd_mk, if_pos rfl, isSmall_no r hx]; rfl, h⟩
  rcases pk_ix x (n := 384) (by decide) with hx | hx | ⟨a, ha, rfl⟩
  · exact hno (Or.inl hx)
  · exact hno (Or.inr hx)
  · have h1 := h.1.1
    have h4 := h.1.2.2.2.1
    have h7 := h.1.2.2.2.2.2.2.1
    by_cases hb : a % 16 = 0 ∧ r 8 (a / 16) ≠ 0
    · obtain ⟨c', r', e1, e2, e3⟩ := freeLarge h ha hb
      exact ⟨1, c', r', e1, e2, e3⟩
    · by_cases hs : sq r a ∧ a % 2 ^ pK r (pP r (a / 16)) = 0
      · obtain ⟨c', r', e1, e2, e3⟩ := freeSmall h ha hb hs
        exact ⟨1, c', r', e1, e2, e3⟩
      · refine ⟨0, c, r, ?_, ?_, h⟩
        · rw [fS_free, beginsAt_eq h ha, fl_bd_mk, bsz_no hb hs, if_pos (show (if 0 = 0 then (0 : Int32) else 1) = 0 from rfl)]
        · rw [fR_free, (isLarge_eq h7 ha).2 hb, fl_bd_mk, if_pos rfl, (isSmall_eq h1 h4 ha).2 hs, fl_bd_mk, if_pos rfl]
