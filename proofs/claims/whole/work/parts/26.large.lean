theorem at_congr {r r' : fl_G} (i1 : rI1 r) {a : Nat} (ha : a < 384) (e3 : r' 3 (a / 16) = r 3 (a / 16)) (e8 : r' 8 (a / 16) = r 8 (a / 16)) (hp : ∀ p, p < 12 → r 3 (a / 16) = nI p → r' 1 p = r 1 p ∧ r' 5 p = r 5 p ∧ ∀ k, k < 16 → r' 7 (16 * p + k) = r 7 (16 * p + k)) : ins r' a = ins r a ∧ bsz r' a = bsz r a := by
  rcases i1 (a / 16) (by omega) with e | ⟨p, hp12, e⟩
  · simp [ins, bsz, e3, e8, e]
  · obtain ⟨p1, p2, p3⟩ := hp p hp12 e
    have eP : pP r (a / 16) = p := pP_of hp12 e
    have eP' : pP r' (a / 16) = p := pP_of hp12 (by rw [e3, e])
    have eK : pK r' p = pK r p := by rw [pK, pK, p2]
    have e7 := p3 (a % 16 / 2 ^ pK r p) (Nat.lt_of_le_of_lt (Nat.div_le_self _ _) (by omega))
    unfold ins bsz
    rw [eP, eP', e3, e8, p1, eK, e7]
    exact ⟨rfl, rfl⟩
theorem sm_congr {f g : Nat → Nat} : ∀ (d i : Nat), (∀ j, i ≤ j → j < i + d → f j = g j) → sm f i d = sm g i d
  | 0, _, _ => rfl
  | d + 1, i, h => by rw [sm_s, sm_s, h i (Nat.le_refl _) (by omega), sm_congr d (i + 1) (fun j h1 h2 => h j (by omega) (by omega))]
theorem lg_map {r : fl_G} (i7 : rI7 r) {v : Nat} (hv : v < 24) (h : r 8 v ≠ 0) : ∃ p, p < 12 ∧ r 3 v = nI p ∧ r 1 p = 2 := by
  rcases i7 v hv with e | ⟨n, n1, n2, -, e, hj, -⟩
  · exact absurd e h
  · exact hj 0 (by omega)
theorem big_rel {c r c1 r1 c2 : fl_G} {n s : Nat} (h : Rl 0 c r) (n1 : 1 ≤ n) (n4 : n ≤ 4) (hs : s + n ≤ 24) (ha : af r s n) (f1 : rI1 r1) (f3 : rI3 r1) (f4 : kL2 c1 r1) (f5 : kL3 c1 r1) (f6 : kL4 c1 r1) (g1 : ∀ q, q ≠ 1 → q ≠ 2 → q ≠ 3 → r1 q = r q) (g2 : ∀ q, q ≠ 3 → q ≠ 4 → q ≠ 5 → c1 q = c q)
    (g3 : ∀ v, v < s + 0 ∨ s + n ≤ v → r1 3 v = r 3 v) (g4 : ∀ t, 0 ≤ t → t < n → ∃ p, p < 12 ∧ r1 3 (s + t) = nI p ∧ r 1 p = 0 ∧ r1 1 p = 2) (g5 : ∀ t u, 0 ≤ t → t < n → 0 ≤ u → u < n → r1 3 (s + t) = r1 3 (s + u) → t = u)
    (g6 : ∀ p, p < 12 → r1 1 p = r 1 p ∨ (r 1 p = 0 ∧ r1 1 p = 2 ∧ ∃ t, 0 ≤ t ∧ t < n ∧ r1 3 (s + t) = nI p))
    (d1 : ∀ q, q ≠ 6 → q ≠ 7 → q ≠ 8 → c2 q = c1 q) (d7 : ∀ x, c2 7 x = if x = 16 * s then nI (16 * n) else c1 7 x) (d8 : ∀ x, c2 8 x = if 16 * s ≤ x ∧ x < 16 * s + 16 * n then 1 else c1 8 x) (d6 : c2 6 2 = c1 6 2 + 1) : Rl 0 c2 (fl_up r1 8 s (nI n)) := by
  obtain ⟨⟨i1, i2, i3, i4, i5, i6, i7, i8, i9⟩, k1, k2, k3, k4, k5, k6, k7, k8, k9, k10⟩ := h
  obtain ⟨R, hR⟩ : ∃ R, R = fl_up r1 8 s (nI n) := ⟨_, rfl⟩
  rw [← hR]
  have u : ∀ q, q ≠ 8 → R q = r1 q := fun q hq => by rw [hR]; exact fl_up_ne _ _ _ hq
  have u8 : ∀ v, R 8 v = if v = s then nI n else r 8 v := fun v => by rw [hR, fl_up_at, g1 8 (by decide) (by decide) (by decide)]; simp
  have e0 : R 0 = r 0 := by rw [u 0 (by decide), g1 0 (by decide) (by decide) (by decide)]
  have e4 : R 4 = r 4 := by rw [u 4 (by decide), g1 4 (by decide) (by decide) (by decide)]
  have e5 : R 5 = r 5 := by rw [u 5 (by decide), g1 5 (by decide) (by decide) (by decide)]
  have e6 : R 6 = r 6 := by rw [u 6 (by decide), g1 6 (by decide) (by decide) (by decide)]
  have e7 : R 7 = r 7 := by rw [u 7 (by decide), g1 7 (by decide) (by decide) (by decide)]
  have e9 : R 9 = r 9 := by rw [u 9 (by decide), g1 9 (by decide) (by decide) (by decide)]
  have e10 : R 10 = r 10 := by rw [u 10 (by decide), g1 10 (by decide) (by decide) (by decide)]
  have e11 : R 11 = r 11 := by rw [u 11 (by decide), g1 11 (by decide) (by decide) (by decide)]
  have e3o : ∀ v, v < s ∨ s + n ≤ v → R 3 v = r 3 v := fun v hv => by rw [u 3 (by decide)]; exact g3 v hv
  have e1u : R 1 = r1 1 := u 1 (by decide)
  have e3u : R 3 = r1 3 := u 3 (by decide)
  have free8 : ∀ v, s ≤ v → v < s + n → r 3 v = -1 ∧ r 8 v = 0 := fun v h1 h2 => by
    have e : r 3 v = -1 := by have := ha (v - s) (by omega); rw [show s + (v - s) = v by omega] at this; exact this
    refine ⟨e, ?_⟩
    rcases Classical.em (r 8 v = 0) with q | q
    · exact q
    · obtain ⟨p, hp, e', -⟩ := lg_map i7 (by omega) q
      rw [e] at e'; exact absurd e'.symm (nI_m1 (by omega))
  have D1 : ∀ v p, v < 24 → p < 12 → r 3 v = nI p → (v < s ∨ s + n ≤ v) ∧ R 3 v = nI p ∧ R 1 p = r 1 p := fun v p hv hp e => by
    have ho : v < s ∨ s + n ≤ v := by
      rcases Nat.lt_or_ge v s with q | q
      · exact Or.inl q
      · rcases Nat.lt_or_ge v (s + n) with q2 | q2
        · rw [(free8 v q q2).1] at e; exact absurd e.symm (nI_m1 (by omega))
        · exact Or.inr q2
    refine ⟨ho, by rw [e3o v ho, e], ?_⟩
    rw [e1u]
    rcases g6 p hp with q | ⟨q, -⟩
    · exact q
    · exact absurd e ((i3 p hp).mp q v hv)
  have D2 : ∀ v p, v < 24 → p < 12 → R 3 v = nI p → (r 3 v = nI p ∧ (v < s ∨ s + n ≤ v)) ∨ (s ≤ v ∧ v < s + n ∧ r 1 p = 0 ∧ R 1 p = 2) := fun v p hv hp e => by
    rcases Nat.lt_or_ge v s with q | q
    · exact Or.inl ⟨by rw [← e3o v (Or.inl q)]; exact e, Or.inl q⟩
    · rcases Nat.lt_or_ge v (s + n) with q2 | q2
      · obtain ⟨p', hp', a1, a2, a3⟩ := g4 (v - s) (by omega) (by omega)
        rw [show s + (v - s) = v by omega, ← e3u, e] at a1
        have := nI_inj (by omega) (by omega) a1
        subst this
        exact Or.inr ⟨q, q2, a2, by rw [e1u]; exact a3⟩
      · exact Or.inl ⟨by rw [← e3o v (Or.inr q2)]; exact e, Or.inr q2⟩
  have D3 : ∀ p, p < 12 → (R 1 p = 1 ↔ r 1 p = 1) := fun p hp => by
    rw [e1u]
    rcases g6 p hp with q | ⟨q, q2, -⟩
    · rw [q]
    · rw [q, q2]; decide
  have D5 : ∀ a, a < 384 → (a / 16 < s ∨ s + n ≤ a / 16) → ins R a = ins r a ∧ bsz R a = bsz r a := fun a hA ho =>
    at_congr i1 hA (e3o _ ho) (by rw [u8, if_neg (by omega)]) (fun p hp e => ⟨(D1 _ p (by omega) hp e).2.2, by rw [e5], fun k _ => by rw [e7]⟩)
  have D6 : ∀ a, a < 384 → s ≤ a / 16 → a / 16 < s + n → ins R a = true ∧ ins r a = false ∧ bsz r a = 0 ∧ bsz R a = if a = 16 * s then 16 * n else 0 := fun a hA h1 h2 => by
    obtain ⟨b1, b2⟩ := free8 _ h1 h2
    obtain ⟨p, hp, a1, a2, a3⟩ := g4 (a / 16 - s) (by omega) (by omega)
    rw [show s + (a / 16 - s) = a / 16 by omega, ← e3u] at a1
    rw [← e1u] at a3
    have eP := pP_of hp a1
    refine ⟨by simp [ins, a1, eP, a3, nI_m1 (show p < 2 ^ 31 by omega)], by simp [ins, b1], by simp [bsz, b1, b2], ?_⟩
    by_cases e : a = 16 * s
    · rw [if_pos e, bsz, if_pos ⟨by omega, by rw [u8, if_pos (by omega)]; exact nI_ne0 (by omega) (by omega)⟩, u8, if_pos (by omega), nI_clamp (by omega)]
    · rw [if_neg e, bsz, if_neg, if_neg]
      · rw [eP, a3]; intro q; exact absurd q.2.1 (by decide)
      · intro q
        rw [u8] at q
        by_cases e2 : a / 16 = s
        · omega
        · rw [if_neg e2, b2] at q; exact q.2 rfl
  refine ⟨⟨?_, ?_, ?_, ?_, ?_, ?_, ?_, ?_, ?_⟩, ?_, ?_, ?_, ?_, ?_, ?_, ?_, ?_, ?_, ?_⟩
  · intro v hv; rw [e3u]; exact f1 v hv
  · intro p hp
    rw [e1u]
    rcases g6 p hp with q | ⟨-, q2, -⟩
    · rw [q]; exact i2 p hp
    · rw [q2]; exact Or.inr (Or.inr rfl)
  · intro p hp; rw [e1u, e3u]; exact f3 p hp
  · intro p hp hu
    obtain ⟨a, hh, b1, b2, b3⟩ := i4 p hp ((D3 p hp).mp hu)
    rw [e5, e6]
    exact ⟨a, hh, b1, b2, (D1 hh p b1 hp b3).2.1⟩
  · intro p d k hp hd hk hu h5
    rw [e5] at h5
    rw [e7]
    rcases i5 p d k hp hd hk ((D3 p hp).mp hu) h5 with q | ⟨q1, v, q2, q3, q4⟩
    · exact Or.inl q
    · exact Or.inr ⟨q1, v, q2, q3, (D1 v p q2 hp q4).2.1⟩
  · intro p v w hp hv hw hu hv3 hw3
    rcases D2 v p hv hp hv3 with ⟨a1, -⟩ | ⟨a1, a2, a3, -⟩ <;> rcases D2 w p hw hp hw3 with ⟨b1, -⟩ | ⟨b1, b2, b3, -⟩
    · exact i6 p v w hp hv hw (by rw [← (D1 v p hv hp a1).2.2]; exact hu) a1 b1
    · exact absurd a1 ((i3 p hp).mp b3 v hv)
    · exact absurd b1 ((i3 p hp).mp a3 w hw)
    · have := g5 (v - s) (w - s) (by omega) (by omega) (by omega) (by omega) (by rw [show s + (v - s) = v by omega, show s + (w - s) = w by omega, ← e3u, hv3, hw3])
      omega
  · intro v hv
    by_cases e : v = s
    · subst e
      refine Or.inr ⟨n, n1, n4, hs, by rw [u8, if_pos rfl], fun j hj => ?_, fun j h1 h2 => ?_⟩
      · obtain ⟨p, hp, a1, a2, a3⟩ := g4 j (by omega) hj
        exact ⟨p, hp, by rw [e3u]; exact a1, by rw [e1u]; exact a3⟩
      · rw [u8, if_neg (by omega)]; exact (free8 _ (by omega) (by omega)).2
    · rw [u8, if_neg e]
      rcases i7 v hv with q | ⟨m, m1, m2, m3, m4, m5, m6⟩
      · exact Or.inl q
      · refine Or.inr ⟨m, m1, m2, m3, m4, fun j hj => ?_, fun j h1 h2 => ?_⟩
        · obtain ⟨p, hp, a1, a2⟩ := m5 j hj
          obtain ⟨-, b1, b2⟩ := D1 (v + j) p (by omega) hp a1
          exact ⟨p, hp, b1, by rw [b2]; exact a2⟩
        · rw [u8]
          by_cases e2 : v + j = s
          · obtain ⟨p, hp, a1, a2⟩ := m5 j h2
            rw [e2, (free8 s (by omega) (by omega)).1] at a1
            exact absurd a1.symm (nI_m1 (by omega))
          · rw [if_neg e2]; exact m6 j h1 h2
  · intro v p hv hp hv3 hu
    rcases D2 v p hv hp hv3 with ⟨a1, a2⟩ | ⟨a1, a2, a3, -⟩
    · obtain ⟨w, m, w1, w2, w3, w4⟩ := i8 v p hv hp a1 (by rw [← (D1 v p hv hp a1).2.2]; exact hu)
      refine ⟨w, m, w1, w2, w3, ?_⟩
      rw [u8, if_neg]
      · exact w4
      · intro e
        rw [e, (free8 s (by omega) (by omega)).2] at w4
        have : m = 0 := ((nI_eq0 (by omega)).mp w4.symm)
        omega
    · exact ⟨s, n, a1, a2, n4, by rw [u8, if_pos rfl]⟩
  · intro d hd
    rw [e9, e10]
    rcases i9 d hd with q | ⟨p, m, q1, q2, q3, q4, q5, q6, q7, q8⟩
    · exact Or.inl q
    · refine Or.inr ⟨p, m, q1, q2, (D3 p q1).mpr q3, by rw [e5]; exact q4, q5, ?_, ?_, ?_⟩
      · unfold uc; rw [e7]; exact q6
      · rw [e11, e7]; exact q7
      · rw [e11]; exact q8
  · simp only [kL1, d1 1 (by decide) (by decide) (by decide), d1 0 (by decide) (by decide) (by decide), g2 1 (by decide) (by decide) (by decide), g2 0 (by decide) (by decide) (by decide), e0]
    exact k1
  · intro i hi; rw [d1 3 (by decide) (by decide) (by decide), u 2 (by decide)]; exact f4 i hi
  · intro i hi; rw [d1 4 (by decide) (by decide) (by decide), e3u]; exact f5 i hi
  · intro p hp; rw [d1 5 (by decide) (by decide) (by decide)]; unfold vc; rw [e3u]; exact f6 p hp
  · intro p hp hu
    rw [d1 (10 + p) (by omega) (by omega) (by omega), g2 (10 + p) (by omega) (by omega) (by omega), e4, e5, e6, e7]
    exact k5 p hp ((D3 p hp).mp hu)
  · intro p hp hu
    rw [d1 (10 + p) (by omega) (by omega) (by omega), g2 (10 + p) (by omega) (by omega) (by omega)]
    exact k6 p hp (fun q => hu ((D3 p hp).mpr q))
  · intro d hd
    rw [d1 (23 + 2 * d) (by omega) (by omega) (by omega), g2 (23 + 2 * d) (by omega) (by omega) (by omega), d1 (24 + 2 * d) (by omega) (by omega) (by omega), g2 (24 + 2 * d) (by omega) (by omega) (by omega), e9, e10, e11]
    exact k7 d hd
  · intro a hA
    rw [d7, g2 7 (by decide) (by decide) (by decide), k8 a hA]
    rcases Nat.lt_or_ge (a / 16) s with q | q
    · rw [if_neg (by omega), (D5 a hA (Or.inl q)).2]
    · rcases Nat.lt_or_ge (a / 16) (s + n) with q2 | q2
      · obtain ⟨-, -, x1, x2⟩ := D6 a hA q q2
        rw [x1, x2]
        by_cases e : a = 16 * s
        · rw [if_pos e, if_pos e]
        · rw [if_neg e, if_neg e]
      · rw [if_neg (by omega), (D5 a hA (Or.inr q2)).2]
  · intro a hA
    rw [d8, g2 8 (by decide) (by decide) (by decide), k9 a hA]
    rcases Nat.lt_or_ge (a / 16) s with q | q
    · rw [if_neg (by omega), (D5 a hA (Or.inl q)).1]
    · rcases Nat.lt_or_ge (a / 16) (s + n) with q2 | q2
      · obtain ⟨x1, -⟩ := D6 a hA q q2
        rw [if_pos (by omega), x1, if_pos rfl]
      · rw [if_neg (by omega), (D5 a hA (Or.inr q2)).1]
  · show c2 6 2 = _
    rw [d6, g2 6 (by decide) (by decide) (by decide), k10, nI_1]
    refine congrArg nI ?_
    have x1 : cr (fun v => decide (R 8 v ≠ 0)) 0 24 = cr (fun v => decide (r 8 v ≠ 0)) 0 24 + 1 := by
      refine cr_more 24 0 s (by omega) (by omega) (by simp [(free8 s (by omega) (by omega)).2]) (by simp [u8, nI_ne0 (show 0 < n by omega) (show n < 2 ^ 31 by omega)]) (fun v _ _ hv => by simp [u8, hv])
    have x2 : sm (fun p => if R 1 p = 1 then uc R p (16 / 2 ^ pK R p) else 0) 0 12 = sm (fun p => if r 1 p = 1 then uc r p (16 / 2 ^ pK r p) else 0) 0 12 := by
      refine sm_congr 12 0 (fun p _ hp => ?_)
      have e1 : uc R p = uc r p := by funext m; unfold uc; rw [e7]
      have e2 : pK R p = pK r p := by unfold pK; rw [e5]
      simp only [D3 p (by omega), e1, e2]
    unfold bcnt
    rw [x1, x2]
    omega
theorem big_spec {c r : fl_G} (h : Rl 0 c r) {n : Nat} (n1 : 1 ≤ n) (n4 : n ≤ 4) : ∃ v c' r', fS_makeLarge (nI n) c = some (v, c') ∧ fR_big (nI n) r = some (v, r') ∧ Rl 0 c' r' := by
  have hh := h
  obtain ⟨⟨i1, i2, i3, i4, i5, i6, i7, i8, i9⟩, k1, k2, k3, k4, k5, k6, k7, k8, k9, k10⟩ := h
  obtain ⟨s, hs, eC⟩ := row_spec k3 n1 (by omega)
  obtain ⟨s', hs', eR⟩ := freeV_spec r n1 (by omega)
  have := lr_uniq hs hs'
  subst this
  have hfl : fsp r ≤ 12 := cr_le _ _ _
  rw [fS_makeLarge, eC, fl_bd_mk, fR_big, eR, fl_bd_mk, freeSpans_spec, fl_bd_mk]
  rcases hs with ⟨h1, h2, h3⟩ | ⟨h1, -⟩
  · rw [if_neg (show ¬ s = 24 by omega), if_neg (nI_m1 (by omega)), freeOnes_spec i3 k4, fl_bd_mk]
    by_cases hf : n ≤ fsp r
    · rw [if_pos (nI_le hf (by omega)), if_neg (nI_nlt hf (by omega)), if_neg (fun q => by have := nI_inj (a := s) (b := 24) (by omega) (by decide) q; omega)]
      obtain ⟨c1, r1, e1, e2, f1, f3, f4, f5, f6, g1, g2, g3, g4, g5, g6⟩ := big_loop h1 n4 n 1000 0 c r (by omega) (by omega) i1 i3 k2 k3 k4 hf (fun t _ ht => h2 t ht)
      obtain ⟨c2, d0, d1, d7, d8, d6⟩ := add_spec c1 (a := 16 * s) (m := 16 * n) (by omega) (by omega)
      refine ⟨nI (16 * s), c2, fl_up r1 8 s (nI n), ?_, ?_, big_rel hh n1 n4 h1 h2 f1 f3 f4 f5 f6 g1 g2 g3 g4 g5 g6 d1 d7 d8 d6⟩
      · rw [show (0 : Int32) = nI 0 from rfl, e1, fl_bd_mk, show (16 : Int32) = nI 16 from rfl, pk_mul, pk_mul, Nat.mul_comm s 16, Nat.mul_comm n 16, d0, fl_bd_mk]
      · rw [fl_bd_of (show fR_big_L24 1000 0 (nI s) (nI n) r = some (nI n, r1) from e2), fl_ck_pos (fl_in_nI (by omega) (by decide)), nI_clamp (by omega), show (16 : Int32) = nI 16 from rfl, pk_mul]
    · rw [if_neg (nI_ge (by omega) (by omega)), if_pos (nI_lt (by omega) (by omega))]
      exact ⟨_, c, r, rfl, rfl, hh⟩
  · subst h1
    rw [if_pos rfl, if_pos rfl]
    refine ⟨-1, c, r, rfl, ?_, hh⟩
    by_cases hf : nI (fsp r) < nI n
    · rw [if_pos hf]
    · rw [if_neg hf, if_pos (show nI 24 = 24 from rfl)]
