theorem fl_lt_mk {β : Type} (o : Option Nat) (k : Option Nat → Option β) : fl_lt o k = k o := rfl
theorem spent_eq {c r : fl_G} (k7 : kL7 c r) {d : Nat} (hd : d < 4) (i9 : rI9 r) : (r 9 d = -1 ∨ r 10 d = 0 → fA_isSpent (23 + 2 * d) c = some (1, c)) ∧ (¬ (r 9 d = -1 ∨ r 10 d = 0) → fA_isSpent (23 + 2 * d) c = some (0, c)) := by
  obtain ⟨y1, y2, y3, -⟩ := k7 d hd
  rw [fA_isSpent, fl_ck_pos (mc_kdB hd)]
  rcases i9 d hd with ⟨z1, z2⟩ | ⟨p, m, z1, z2, -⟩
  · rw [y2 z1, rf_m1]
    exact ⟨fun _ => rfl, fun h => absurd (Or.inl z1) h⟩
  · rw [y3 p z1 z2, rf_nI (by omega), y1]
    rw [fl_lt_mk, fl_cs_S]
    by_cases e : r 10 d = 0
    · rw [if_pos e]; exact ⟨fun _ => rfl, fun h => absurd (Or.inr e) h⟩
    · rw [if_neg e]
      exact ⟨fun h => h.elim (fun q => absurd (q.symm.trans z2).symm (nI_m1 (by omega))) (fun q => absurd q e), fun _ => rfl⟩
theorem hand_spec {c r : fl_G} (h : Rl 0 c r) {d : Nat} (hd : d < 4) (hn : ¬ (r 9 d = -1 ∨ r 10 d = 0)) : ∃ v c' r', cHO (nI d) c = some (v, c') ∧ rHO (nI d) r = some (v, r') ∧ Rl 0 c' r' := by
  have hh := h
  obtain ⟨⟨i1, i2, i3, i4, i5, i6, i7, i8, i9⟩, k1, k2, k3, k4, k5, k6, k7, k8, k9, k10⟩ := h
  rcases i9 d hd with ⟨z, -⟩ | ⟨p, m, hp, e9, hu, e5, e10, hsum, hent, hinj⟩
  · exact absurd (Or.inl z) hn
  have h2 := c2_le hd
  have hw := p2_cases hd
  have m1 : 1 ≤ m := by
    rcases Nat.eq_zero_or_pos m with z | z
    · exact absurd (Or.inr (by rw [e10, z]; rfl)) hn
    · exact z
  obtain ⟨k, hk, ek, e7⟩ := hent (m - 1) (by omega)
  obtain ⟨-, s, hs, e6, e3⟩ := i4 p hp hu
  obtain ⟨-, n2, n3, U, hU, eU, hb⟩ := k5 p hp hu
  obtain ⟨y1, -, y3, y4⟩ := k7 d hd
  obtain ⟨-, -, hkw⟩ := cell_iff (a := 0) (s := s) hw hk
  have hk16 : k < 16 := by omega
  have hkw2 : k * 2 ^ d < 16 := by omega
  -- the reference
  obtain ⟨r0, hr0⟩ : ∃ r0, r0 = fl_up (fl_up r 10 d (nI (m - 1))) 7 (16 * p + k) (nI s) := ⟨_, rfl⟩
  obtain ⟨r1, a1, a2, a3⟩ := zero_spec r0 (a := 16 * p + k * 2 ^ d) (m := 2 ^ d) (by omega)
  have hR : rHO (nI d) r = some (nI (16 * s + k * 2 ^ d), r1) := by
    unfold rHO
    simp only [nI_clamp (show d < 2 ^ 31 by omega), fl_ck_pos (fl_in_nI hd (show 4 < 2 ^ 31 by decide)), e10, e9]
    rw [show nI m - 1 = nI (m - 1) from pk_sub (b := 1) m1]
    simp only [fl_up_self, show (16 : Int32) = nI 16 from rfl, pk_mul, nI_add]
    rw [fl_ck_pos (fl_in_nI (by omega) (by decide)), fl_ck_pos (fl_in_nI hp (by decide))]
    simp only [nI_clamp (show 16 * d + (m - 1) < 2 ^ 31 by omega), fl_up_ne r d (nI (m - 1)) (show 11 ≠ 10 by decide), fl_up_ne r d (nI (m - 1)) (show 6 ≠ 10 by decide), ek, nI_clamp (show p < 2 ^ 31 by omega), e6, nI_add]
    rw [fl_ck_pos (fl_in_nI (by omega) (by decide)), nI_clamp (by omega), sl_k d hd k hk16, nI_add, sl_c hd, ← hr0, a1, fl_bd_mk, fl_ck_pos (fl_in_nI hp (by decide)), a2 6 (by decide), hr0, fl_up_ne _ _ _ (by decide), fl_up_ne _ _ _ (by decide), e6, pk_mul, nI_add]
  -- the class
  obtain ⟨c1, hc1⟩ : ∃ c1, c1 = fl_up c (23 + 2 * d) 2 (nI (m - 1)) := ⟨_, rfl⟩
  obtain ⟨c2, hc2⟩ : ∃ c2, c2 = fl_up c1 (10 + p) 4 (nI (U ||| 2 ^ k)) := ⟨_, rfl⟩
  have q1 : ∀ q, q ≠ 23 + 2 * d → c1 q = c q := fun q hq => by rw [hc1, fl_up_ne _ _ _ hq]
  have q2 : ∀ q, q ≠ 10 + p → c2 q = c1 q := fun q hq => by rw [hc2, fl_up_ne _ _ _ hq]
  have kk3 : kL3 c2 r := fun v hv => by rw [q2 4 (by omega), q1 4 (by omega)]; exact k3 v hv
  have hO : fA_handOut (23 + 2 * d) c = some (nI (16 * s + k * 2 ^ d), c2) := by
    rw [fA_handOut, fl_ck_pos (mc_kdB hd), (spent_eq k7 hd i9).2 hn, fl_bd_mk, if_pos rfl, y1, e10, show nI m - 1 = nI (m - 1) from pk_sub (b := 1) m1, ← hc1, ln_A d hd]
    have x1 : c1 (23 + 2 * d) 2 = nI (m - 1) := by rw [hc1, fl_up_self]
    have x2 : c1 (23 + 2 * d) 0 = nI (10 + p) := by rw [hc1, fl_up_k _ _ (by decide)]; exact y3 p hp e9
    have x3 : c1 (23 + 2 * d + 1) (m - 1) = nI k := by rw [q1 _ (by omega), show 23 + 2 * d + 1 = 24 + 2 * d by omega, y4 _ (by omega), ek]
    have x4 : c1 (10 + p) 4 = nI U := by rw [q1 _ (by omega)]; exact eU
    rw [x1, x2, fl_ck_pos (fl_in_nI (by omega) (by decide)), nI_clamp (by omega), x3, rf_nI (by omega)]
    show fl_ck (mc_kd (10 + p) = 4) _ = _
    rw [fl_ck_pos (mc_kdM hp), fM_setUsed, fl_ck_pos (mc_kdM hp), x4, nI_set hU hk16, ← hc2, fl_bd_mk]
    have x5 : c2 (23 + 2 * d) 0 = nI (10 + p) := by rw [q2 _ (by omega)]; exact x2
    rw [x5, rf_nI (by omega)]
    show fl_ck (mc_kd (10 + p) = 4) _ = _
    have x6 : c2 (10 + p) 2 = nI d := by rw [hc2, fl_up_k _ _ (by decide), q1 _ (by omega), n2, e5]
    have x7 : c2 (10 + p) 3 = nI s := by rw [hc2, fl_up_k _ _ (by decide), q1 _ (by omega), n3, e6]
    rw [fl_ck_pos (mc_kdM hp), fM_addressOf, fl_ck_pos (mc_kdM hp), x6, wordsC_spec c2 hd, fl_bd_mk, x7, fl_bd_mk, show (16 : Int32) = nI 16 from rfl, pk_mul, pk_mul, nI_add, Nat.mul_comm s 16]
  have hA : 16 * s + k * 2 ^ d < 384 := by omega
  obtain ⟨c3, b1, b2, b3⟩ := clear_spec c2 (a := 16 * p + k * 2 ^ d) (m := 2 ^ d) (by omega)
  obtain ⟨c4, d0, d1, d7, d8, d6⟩ := add_spec c3 (a := 16 * s + k * 2 ^ d) (m := 2 ^ d) hA (by omega)
  have hC : cHO (nI d) c = some (nI (16 * s + k * 2 ^ d), c4) := by
    rw [cHO, nI_clamp (by omega), hO, fl_bd_mk, if_neg (nI_m1 (by omega)), wordsC_spec c2 hd, fl_bd_mk, fP_clear, placeOf_eq kk3 hA hp (by rw [show (16 * s + k * 2 ^ d) / 16 = s by omega]; exact e3), fl_bd_mk, show (16 * s + k * 2 ^ d) % 16 = k * 2 ^ d by omega, b1, fl_bd_mk, fl_bd_mk, wordsC_spec c3 hd, fl_bd_mk, d0, fl_bd_mk]
  refine ⟨_, c4, r1, hC, hR, hand_rel hh hp hd hs m1 e9 hu e5 e10 hsum hent hinj hk ek e7 e6 e3 hU eU hb ?_ ?_ ?_ ?_ ?_ ?_ ?_ ?_ ?_ ?_ ?_⟩
  · intro x; rw [a2 10 (by decide), hr0, fl_up_ne _ _ _ (by decide), fl_up_at]; simp
  · intro x; rw [a2 7 (by decide), hr0, fl_up_at, fl_up_ne _ _ _ (by decide)]; simp
  · intro x; rw [a3 x, hr0, fl_up_ne _ _ _ (by decide), fl_up_ne _ _ _ (by decide)]
  · intro q z2 z7 z10; rw [a2 q z2, hr0, fl_up_ne _ _ _ z7, fl_up_ne _ _ _ z10]
  · intro x; rw [d1 3 (by decide) (by decide) (by decide), b3 x, q2 3 (by omega), q1 3 (by omega)]
  · intro x; rw [d7 x, b2 7 (by decide), q2 7 (by omega), q1 7 (by omega)]
  · intro x; rw [d8 x, b2 8 (by decide), q2 8 (by omega), q1 8 (by omega)]
  · rw [d6, b2 6 (by decide), q2 6 (by omega), q1 6 (by omega)]
  · intro x; rw [d1 _ (by omega) (by omega) (by omega), b2 _ (by omega), q2 _ (by omega), hc1, fl_up_at]; simp
  · intro x; rw [d1 _ (by omega) (by omega) (by omega), b2 _ (by omega), hc2, fl_up_at, q1 _ (by omega)]; simp
  · intro q z3 z6 z7 z8 zA zM; rw [d1 q z6 z7 z8, b2 q z3, q2 q zM, q1 q zA]
theorem new_spec {c r : fl_G} (h : Rl 0 c r) {d : Nat} (hd : d < 4) (hsp : r 9 d = -1 ∨ r 10 d = 0) : ∃ v c' r', fl_bd (fS_attachNext (nI d) c) (fun _ g23 => cHO (nI d) g23) = some (v, c') ∧ rNew (nI d) r = some (v, r') ∧ Rl 0 c' r' := by
  have hh := h
  obtain ⟨⟨i1, i2, i3, i4, i5, i6, i7, i8, i9⟩, k1, k2, k3, k4, k5, k6, k7, k8, k9, k10⟩ := h
  obtain ⟨o, x, hf, eC, eR⟩ := fullest_spec i5 k5 k6 hd
  have cl := nI_clamp (show d < 2 ^ 31 by omega)
  have refuse : ∀ g, g = c → cHO (nI d) g = some (-1, g) := fun g hg => by
    subst hg
    rw [cHO, cl, fA_handOut, fl_ck_pos (mc_kdB hd), (spent_eq k7 hd i9).1 hsp, fl_bd_mk, if_neg one_ne, fl_bd_mk, if_pos rfl]
  have fin : ∀ c1 r1, Rl 0 c1 r1 → ∀ p, p < 12 → r1 1 p = 1 → r1 5 p = nI d → uc r1 p (16 / 2 ^ d) < 16 / 2 ^ d → ∃ v c' r', fl_bd (fA_attach (23 + 2 * d) (10 + p) c1) (fun _ g => cHO (nI d) g) = some (v, c') ∧ fl_bd (fR_attach (nI d) (nI p) r1) (fun _ g => rHO (nI d) g) = some (v, r') ∧ Rl 0 c' r' := fun c1 r1 h1 p hp hu e5 hr => by
    obtain ⟨c2, r2, m, b1, b2, b3, b4, b5, b6, b7⟩ := attach_spec h1 hp hd hu e5 hr
    have hm16 : m < 2 ^ 31 := by omega
    obtain ⟨v, c3, r3, d1, d2, d3⟩ := hand_spec b3 hd (by rw [b4, b5]; exact fun z => z.elim (fun q => nI_m1 (by omega) q) (fun q => nI_ne0 (by omega) hm16 q))
    exact ⟨v, c3, r3, by rw [b1, fl_bd_mk, d1], by rw [b2, fl_bd_mk, d2], d3⟩
  rw [fS_attachNext, eC, fl_bd_mk, rNew, eR, fl_bd_mk]
  rcases hf with ⟨rfl, rfl⟩ | ⟨p, hp, rfl, rfl, hu, e5, hr⟩
  · rw [if_pos rfl, fl_cs_N, fS_newMiniheap, lowFree_spec i3 k4, fl_bd_mk, freePh_spec, fl_bd_mk]
    obtain ⟨s, hs, eV⟩ := row_spec k3 (n := 1) (by decide) (by decide)
    obtain ⟨s', hs', eW⟩ := freeV_spec r (n := 1) (by decide) (by decide)
    have := lr_uniq hs hs'
    subst this
    by_cases hl : lf r = 12
    · rw [show (1 : Int32) = nI 1 from rfl, eV, fl_bd_mk, if_pos hl, isPhysical_no c (Or.inl (by decide)), fl_bd_mk, if_pos rfl, fl_bd_mk, fl_cs_N, fl_bd_mk, hl, if_pos (show nI 12 = 12 from rfl), refuse c rfl]
      exact ⟨_, c, r, rfl, rfl, hh⟩
    · have hlt : lf r < 12 := by have := lf_le r; omega
      rw [if_neg hl, if_neg (show ¬ nI (lf r) = 12 from fun q => hl (nI_inj (a := lf r) (b := 12) (by omega) (by decide) q)), fl_bd_of (show fR_freeVirtual 1 r = some (nI s, r) from eW)]
      rcases hs with ⟨s1, s2, -⟩ | ⟨s1, -⟩
      · have es : r 3 s = -1 := by have := s2 0 (by decide); rw [Nat.add_zero] at this; exact this
        rw [if_neg (show ¬ nI s = 24 from fun q => by have := nI_inj (a := s) (b := 24) (by omega) (by decide) q; omega)]
        rw [if_neg (show ¬ s = 24 by omega)] at eV
        have hF : fP_lowestFree c = some (nI (lf r), c) := by rw [lowFree_spec i3 k4, if_neg hl]
        obtain ⟨c1, n0, n4, n5, n3, np, nz, nq⟩ := beginC_spec (d := d) hlt (show s < 24 by omega) hF eV
        obtain ⟨r1, m0, m1, m3, m2, m4, m5, m6, m7, mz, mq⟩ := beginR_spec (d := d) hlt (show s < 24 by omega) eW
        obtain ⟨h1, h2, h3, h4⟩ := begin_rel hh hlt hd (show s < 24 by omega) (lf_free hlt) es m1 m3 m2 m4 m5 m6 m7 mz mq n4 n5 n3 np nz nq
        have h5 := c2_le hd
        obtain ⟨v, c2, r2, z1, z2, z3⟩ := fin c1 r1 h1 (lf r) hlt h2 h3 (by omega)
        rw [fS_newMiniheap, hF, fl_bd_mk] at n0
        rw [n0, fl_bd_mk, fl_cs_S, fl_ck_pos (fl_in_nI hd (by decide)), cl, m0, fl_bd_mk]
        refine ⟨v, c2, r2, ?_, z2, z3⟩
        obtain ⟨u1, g1, w1, w2⟩ := fl_bd_some z1
        rw [w1, fl_bd_mk, fl_bd_mk]
        exact w2
      · rw [if_pos s1] at eV
        rw [s1, if_pos (show nI 24 = 24 from rfl), fl_bd_of (show fP_lowestUnmappedRow 1 c = some (-1, c) from eV), isPhysical_yes c hlt, fl_bd_mk, if_neg one_ne, if_pos rfl, fl_bd_mk, fl_cs_N, fl_bd_mk, refuse c rfl]
        exact ⟨_, c, r, rfl, rfl, hh⟩
  · rw [if_neg (nI_m1 (by omega)), fl_cs_S, fl_ck_pos (fl_in_nI hd (by decide)), cl]
    obtain ⟨v, c2, r2, z1, z2, z3⟩ := fin c r hh p hp hu e5 hr
    refine ⟨v, c2, r2, ?_, z2, z3⟩
    obtain ⟨u1, g1, w1, w2⟩ := fl_bd_some z1
    rw [w1, fl_bd_mk, fl_bd_mk]
    exact w2
theorem small_spec {c r : fl_G} (h : Rl 0 c r) {d : Nat} (hd : d < 4) : ∃ v c' r', fS_makeSmall (nI d) c = some (v, c') ∧ fR_small (nI d) r = some (v, r') ∧ Rl 0 c' r' := by
  have cl := nI_clamp (show d < 2 ^ 31 by omega)
  have k7 := h.2.2.2.2.2.2.2.1
  have i9 := h.1.2.2.2.2.2.2.2.2
  rw [makeSmall_eq, small_eq, fl_ck_pos (fl_in_nI hd (by decide)), fl_ck_pos (fl_in_nI hd (by decide)), fl_ck_pos (fl_in_nI hd (by decide)), cl]
  by_cases hs : r 9 d = -1 ∨ r 10 d = 0
  · rw [(spent_eq k7 hd i9).1 hs, fl_bd_mk, if_neg one_ne]
    obtain ⟨v, c', r', a1, a2, a3⟩ := new_spec h hd hs
    refine ⟨v, c', r', a1, ?_, a3⟩
    rcases hs with q | q
    · rw [if_pos q, a2]
    · by_cases q2 : r 9 d = -1
      · rw [if_pos q2, a2]
      · rw [if_neg q2, if_pos q, a2]
  · rw [(spent_eq k7 hd i9).2 hs, fl_bd_mk, if_pos rfl, if_neg (fun q => hs (Or.inl q)), if_neg (fun q => hs (Or.inr q))]
    exact hand_spec h hd hs

/-! malloc -/
theorem Rl_k {k k' : Nat} {c r : fl_G} (h : Rl k c r) : Rl k' c r := h
theorem least_1 : ∀ n, 1 ≤ n → n ≤ 8 → ∀ g, fS_leastClassFor (nI n) g = some (nI (if n = 1 then 0 else if n = 2 then 1 else if n ≤ 4 then 2 else 3), g) := by
  intro n h1 h8 g
  rcases (show n = 1 ∨ n = 2 ∨ n = 3 ∨ n = 4 ∨ n = 5 ∨ n = 6 ∨ n = 7 ∨ n = 8 by omega) with rfl | rfl | rfl | rfl | rfl | rfl | rfl | rfl <;> rfl
theorem s_malloc : lw_S1 fS_malloc fR_malloc Rl := by
  intro k x c r _ h
  rcases pk_ix x (n := 65) (by decide) with hx | hx | ⟨n, hn, rfl⟩
  · refine ⟨-1, c, r, ?_, ?_, h⟩
    · rw [fS_malloc, if_pos (Int32.lt_trans hx (by decide))]
    · rw [fR_malloc, fR_within, if_pos (Int32.lt_trans hx (by decide))]; rfl
  · have h64 : (64 : Int32) < x := ge_of (n := 64) (by decide) hx
    have h1 : ¬ x < 1 := fun q => absurd (Int32.lt_trans h64 q) (by decide)
    refine ⟨-1, c, r, ?_, ?_, h⟩
    · rw [fS_malloc, if_neg h1, if_neg (Int32.not_le.mpr h64)]
    · rw [fR_malloc, fR_within, if_neg h1, if_pos h64]; rfl
  · rcases Nat.eq_zero_or_pos n with z | z
    · subst z
      refine ⟨-1, c, r, ?_, ?_, h⟩
      · rw [fS_malloc, if_pos (show nI 0 < 1 by decide)]
      · rw [fR_malloc, fR_within, if_pos (show nI 0 < 1 by decide)]; rfl
    · have h1 : ¬ nI n < 1 := nI_nlt (b := 1) z (by omega)
      have h64 : nI n ≤ 64 := nI_le (b := 64) (by omega) (by decide)
      rw [fS_malloc, if_neg h1, if_pos h64, fR_malloc, fR_within, if_neg h1, if_neg (Int32.not_lt.mpr h64), fl_bd_mk, if_neg one_ne]
      by_cases h8 : n ≤ 8
      · rw [if_pos (show nI n ≤ 8 from nI_le (b := 8) h8 (by decide)), if_pos (show nI n ≤ 8 from nI_le (b := 8) h8 (by decide)), least_1 n z h8, fl_bd_mk]
        by_cases e1 : n = 1
        · obtain ⟨v, c', r', a1, a2, a3⟩ := small_spec h (d := 0) (by decide)
          rw [if_pos e1, if_pos (show nI n = 1 by rw [e1]; rfl), a1, fl_bd_mk, fl_bd_of (show fR_small 0 r = some (v, r') from a2)]
          exact ⟨v, c', r', rfl, rfl, a3⟩
        · rw [if_neg e1, if_neg (show ¬ nI n = 1 from fun q => e1 (nI_inj (b := 1) (by omega) (by decide) q))]
          by_cases e2 : n = 2
          · obtain ⟨v, c', r', a1, a2, a3⟩ := small_spec h (d := 1) (by decide)
            rw [if_pos e2, if_pos (show nI n = 2 by rw [e2]; rfl), a1, fl_bd_mk, fl_bd_of (show fR_small 1 r = some (v, r') from a2)]
            exact ⟨v, c', r', rfl, rfl, a3⟩
          · rw [if_neg e2, if_neg (show ¬ nI n = 2 from fun q => e2 (nI_inj (b := 2) (by omega) (by decide) q))]
            by_cases e4 : n ≤ 4
            · obtain ⟨v, c', r', a1, a2, a3⟩ := small_spec h (d := 2) (by decide)
              rw [if_pos e4, if_neg (show ¬ 4 < nI n from nI_nlt (a := 4) e4 (by decide)), a1, fl_bd_mk, fl_bd_of (show fR_small 2 r = some (v, r') from a2)]
              exact ⟨v, c', r', rfl, rfl, a3⟩
            · obtain ⟨v, c', r', a1, a2, a3⟩ := small_spec h (d := 3) (by decide)
              rw [if_neg e4, if_pos (show 4 < nI n from nI_lt (a := 4) (by omega) (by omega)), a1, fl_bd_mk, fl_bd_of (show fR_small 3 r = some (v, r') from a2)]
              exact ⟨v, c', r', rfl, rfl, a3⟩
      · have n8 : ¬ nI n ≤ 8 := nI_ge (a := 8) (by omega) (by omega)
        obtain ⟨v, c', r', a1, a2, a3⟩ := big_spec h (n := (n + 15) / 16) (by omega) (by omega)
        have x1 : (nI n + 16 - 1) / 16 = nI ((n + 15) / 16) := by
          rw [show (16 : Int32) = nI 16 from rfl, nI_add, show (1 : Int32) = nI 1 from rfl, pk_sub (by omega), pk_div (by omega) (by decide) (by decide)]
          rfl
        have x2 : (nI n + 15) / 16 = nI ((n + 15) / 16) := by
          rw [show (15 : Int32) = nI 15 from rfl, nI_add, show (16 : Int32) = nI 16 from rfl, pk_div (by omega) (by decide) (by decide)]
        rw [if_neg n8, if_neg n8, x1, x2, a1, fl_bd_mk, a2, fl_bd_mk]
        exact ⟨v, c', r', rfl, rfl, a3⟩
