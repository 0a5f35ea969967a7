theorem xc_same (f : Nat → Int32) (i x : Nat) : xc f i i x = f x := by
  unfold xc
  by_cases h : x = i
  · rw [if_pos h, h]
  · rw [if_neg h, if_neg h]
theorem putC {c : fl_G} {d m k : Nat} (hd : d < 4) (hm : m < 16) (hl : c (23 + 2 * d) 2 = nI m) : ∃ c2, fA_putBack (23 + 2 * d) (nI k) c = some ((), c2) ∧ (∀ q, q ≠ 1 → q ≠ 23 + 2 * d → q ≠ 24 + 2 * d → c2 q = c q) ∧ c2 (23 + 2 * d) 2 = nI (m + 1) ∧ c2 (23 + 2 * d) 0 = c (23 + 2 * d) 0 ∧ (∀ x, c2 (24 + 2 * d) x = xc (fun y => if y = m then nI k else c (24 + 2 * d) y) m (if m = 0 then m else dw (c 1 0) (m + 1)) x) ∧ c2 1 0 = if m = 0 then c 1 0 else nx (c 1 0) := by
  obtain ⟨c1, hc1⟩ : ∃ c1, c1 = fl_up (fl_up c (24 + 2 * d) m (nI k)) (23 + 2 * d) 2 (nI (m + 1)) := ⟨_, rfl⟩
  have q1 : ∀ q, q ≠ 23 + 2 * d → q ≠ 24 + 2 * d → c1 q = c q := fun q h1 h2 => by rw [hc1, fl_up_ne _ _ _ h1, fl_up_ne _ _ _ h2]
  have q2 : c1 (23 + 2 * d) 2 = nI (m + 1) := by rw [hc1, fl_up_self]
  have q3 : c1 (23 + 2 * d) 0 = c (23 + 2 * d) 0 := by rw [hc1, fl_up_k _ _ (by decide), fl_up_ne _ _ _ (by omega)]
  have q4 : ∀ x, c1 (24 + 2 * d) x = if x = m then nI k else c (24 + 2 * d) x := fun x => by rw [hc1, fl_up_ne _ _ _ (by omega), fl_up_at]; simp
  have hh : fA_putBack (23 + 2 * d) (nI k) c = if nI (m + 1) ≤ 1 then some ((), c1) else fl_bd (fD_below (nI (m + 1)) c1) (fun r12 g13 => fl_bd (fD_exchange (24 + 2 * d) (nI m) r12 g13) (fun r15 g16 => some ((), g16))) := by
    rw [fA_putBack, fl_ck_pos (mc_kdB hd), ln_A d hd, hl, if_neg (show ¬ Int32.ofNat 16 ≤ nI m from n_16 hm), fl_ck_pos (fl_in_nI hm (by decide)), nI_clamp (by omega), fl_up_ne _ _ _ (show 23 + 2 * d ≠ 23 + 2 * d + 1 by omega), hl, nI_1, show 23 + 2 * d + 1 = 24 + 2 * d by omega, ← hc1, q2, dec1]
  rw [hh]
  by_cases m0 : m = 0
  · refine ⟨c1, ?_, fun q _ h2 h3 => q1 q h2 h3, q2, q3, fun x => ?_, ?_⟩
    · rw [if_pos (by rw [m0]; decide)]
    · rw [if_pos m0, xc_same]; exact q4 x
    · rw [if_pos m0, q1 1 (by omega) (by omega)]
  · have hj : dw (c 1 0) (m + 1) < m + 1 := dw_lt (by omega)
    have e10 : c1 1 0 = c 1 0 := by rw [q1 1 (by omega) (by omega)]
    obtain ⟨c2, a1, a2, a3⟩ := exch_spec (fl_up c1 1 0 (nx (c1 1 0))) (kd24 d hd) (ln24 d hd) (by omega) (i := m) (j := dw (c1 1 0) (m + 1)) (by omega) (by rw [e10]; omega)
    refine ⟨c2, ?_, fun q h1 h2 h3 => by rw [a2 q h3, fl_up_ne _ _ _ h1, q1 q h2 h3], by rw [a2 _ (by omega), fl_up_ne _ _ _ (by omega)]; exact q2, by rw [a2 _ (by omega), fl_up_ne _ _ _ (by omega)]; exact q3, fun x => ?_, ?_⟩
    · rw [if_neg (show ¬ nI (m + 1) ≤ 1 from nI_ge (a := 1) (by omega) (by omega)), below_spec c1 (by omega) (by omega), fl_bd_mk, a1, fl_bd_mk]
    · rw [a3 x, fl_up_ne _ _ _ (by omega), if_neg m0, e10]
      unfold xc
      rw [q4, q4, q4]
    · rw [if_neg m0, a2 1 (by omega), fl_up_self, e10]
theorem freeSmall {c r : fl_G} (h : Rl 0 c r) {a : Nat} (ha : a < 384) (hb : ¬ (a % 16 = 0 ∧ r 8 (a / 16) ≠ 0)) (hs : sq r a ∧ a % 2 ^ pK r (pP r (a / 16)) = 0) : ∃ c' r', fS_free (nI a) c = some (1, c') ∧ fR_free (nI a) r = some (1, r') ∧ Rl 0 c' r' := by
  have hh := h
  obtain ⟨⟨i1, i2, i3, i4, i5, i6, i7, i8, i9⟩, k1, k2, k3, k4, k5, k6, k7, k8, k9, k10⟩ := h
  have eb := bsz_small hb hs
  have hidx := sq_idx i1 ha hs.1
  have hcell := (cellAt_eq i1 i4 ha).1 hs.1
  have hsm := (isSmall_eq i1 i4 ha).1 hs
  obtain ⟨p, hp, e3⟩ : ∃ p, p < 12 ∧ r 3 (a / 16) = nI p := by
    rcases i1 (a / 16) (by omega) with e | e
    · exact absurd e hs.1.1
    · exact e
  have eP := pP_of hp e3
  obtain ⟨hs1, hs2⟩ := hs
  obtain ⟨-, hu, e7⟩ := hs1
  rw [eP] at hu e7 hs2 eb hidx hcell
  obtain ⟨⟨d, hd, e5⟩, -⟩ := i4 p hp hu
  have eK := pK_of hd e5
  rw [eK] at e7 hs2 eb hidx hcell
  have h2 := c2_le hd
  have hw := p2_cases hd
  have hp2 := p2_le hd
  obtain ⟨s, hsd⟩ : ∃ s, s = a / 16 := ⟨_, rfl⟩
  obtain ⟨k, hkd⟩ : ∃ k, k = a % 16 / 2 ^ d := ⟨_, rfl⟩
  rw [← hkd] at e7 hidx hcell
  rw [← hsd] at e3 e7
  have hs24 : s < 24 := by omega
  have hk16 : k < 16 := by rw [hkd]; exact Nat.lt_of_le_of_lt (Nat.div_le_self _ _) (by omega)
  have hk : k < 16 / 2 ^ d := by
    rcases i5 p d k hp hd hk16 hu e5 with y | ⟨y, -⟩
    · rw [e7] at y; exact absurd y (nI_m1 (by omega))
    · exact y
  obtain ⟨-, ci2, hkw⟩ := cell_iff (a := a) (s := s) hw hk
  have ea : a = 16 * s + k * 2 ^ d := ci2.mp ⟨hsd.symm, hkd.symm, hs2⟩
  obtain ⟨-, n2, -, U, hU, eU, hbU⟩ := k5 p hp hu
  obtain ⟨V, hVd⟩ : ∃ V, V = U &&& (2 ^ 32 - 1 - 2 ^ k) := ⟨_, rfl⟩
  have hV : V < 2 ^ 16 := by rw [hVd]; exact Nat.lt_of_le_of_lt Nat.and_le_left hU
  obtain ⟨c1, hc1⟩ : ∃ c1, c1 = fl_up c (10 + p) 4 (nI V) := ⟨_, rfl⟩
  have q1 : ∀ q, q ≠ 10 + p → c1 q = c q := fun q hq => by rw [hc1, fl_up_ne _ _ _ hq]
  have q1p : ∀ x, c1 (10 + p) x = if x = 4 then nI V else c (10 + p) x := fun x => by rw [hc1, fl_up_at]; simp
  have hbV : ∀ x, x < 16 → V.testBit x = decide ((if 16 * p + x = 16 * p + k then (-1 : Int32) else r 7 (16 * p + x)) ≠ -1) := fun x hx => by
    rw [hVd, tb_clr hk16 hx, hbU x hx]
    by_cases y : x = k
    · simp [y]
    · rw [if_neg (by omega)]; simp [y]
  have hC : fS_free (nI a) c = fl_bd (fS_giveBackCell (10 + p) (nI k) c) (fun _ g20 => fl_bd (fB_remove (nI a) g20) (fun _ g23 => some (1, g23))) := by
    rw [fS_free, beginsAt_eq hh ha, fl_bd_mk, eb, if_neg (show ¬ (if 2 ^ d = 0 then (0 : Int32) else 1) = 0 by rw [if_neg (by omega)]; decide), behindC_p k3 ha hp (by rw [← hsd]; exact e3), exists_yes k5 i4 hp hu, fl_bd_mk, if_neg one_ne, fl_bd_mk, fl_cs_S, fl_ck_pos (mc_kdM hp), fM_cellAt, fl_ck_pos (mc_kdM hp), n2, e5, wordsC_spec c hd, fl_bd_mk, fl_ck_pos (nI_ne0 (by omega) (by omega)), rm16 (by omega), pk_div (by omega) (by omega) (by omega), fl_bd_mk, ← hkd]
  have hG : fS_giveBackCell (10 + p) (nI k) c = (if fl_rf (c (23 + 2 * d) 0) = some (10 + p) then (fl_bd (fA_putBack (23 + 2 * d) (nI k) c1) (fun r21 g22 => some ((), g22))) else (fl_bd (fM_isEmpty (10 + p) c1) (fun r11 g12 => if r11 = 0 then (some ((), g12)) else (fl_bd (fP_unmapAllOf (nI p) g12) (fun r15 g16 => fl_bd (fM_end (10 + p) g16) (fun r18 g19 => some ((), g19))))))) := by
    have ob : fl_ob 32 (fl_rf (c (23 + 2 * d) 0)) = true := by
      obtain ⟨-, y2, y3, -⟩ := k7 d hd
      rcases i9 d hd with ⟨y, -⟩ | ⟨q, n, y1, y, -⟩
      · rw [y2 y]; decide
      · rw [y3 q y1 y, rf_nI (by omega)]; simp [fl_ob]; omega
    have x2 : c1 (10 + p) 2 = nI d := by rw [q1p, if_neg (by decide), n2, e5]
    rw [fS_giveBackCell, fl_ck_pos (mc_kdM hp), fM_setFree, fl_ck_pos (mc_kdM hp), eU, nI_clr hU hk16, ← hVd, ← hc1, fl_bd_mk, x2, fl_ck_pos (fl_in_nI hd (by decide)), nI_clamp (by omega), q1 (23 + 2 * d) (by omega), fl_lt_mk, fl_ck_pos ob, fl_ck_pos (show fl_ob 32 (some (10 + p)) = true by simp [fl_ob]; omega), show Int32.ofNat (10 + p - 10) = nI p by rw [show 10 + p - 10 = p by omega]; rfl]
  obtain ⟨r1, hr1⟩ : ∃ r1, r1 = fl_up r 7 (16 * p + k) (-1) := ⟨_, rfl⟩
  have r1q : ∀ q, q ≠ 7 → r1 q = r q := fun q hq => by rw [hr1, fl_up_ne _ _ _ hq]
  have r17 : ∀ x, r1 7 x = if x = 16 * p + k then -1 else r 7 x := fun x => by rw [hr1, fl_up_at]; simp
  have dv : nI (16 * p + k) / 16 = nI p := by rw [dv16 (by omega), show (16 * p + k) / 16 = p by omega]
  have rmm : fl_rem (nI (16 * p + k)) 16 = nI k := by rw [rm16 (by omega), show (16 * p + k) % 16 = k by omega]
  have h7a : c 7 a = nI (2 ^ d) := by rw [k8 a ha, eb]
  by_cases hat : r 9 d = nI p
  · -- attached
    rcases i9 d hd with ⟨y, -⟩ | ⟨p', m, y1, y2, y3, y4, y5, y6, y7, y8⟩
    · rw [hat] at y; exact absurd y (nI_m1 (by omega))
    have hpp : p' = p := nI_inj (by omega) (by omega) (by rw [← y2, hat])
    subst hpp
    have ucpos : 0 < uc r p' (16 / 2 ^ d) := cr_pos _ 0 k (by omega) (by omega) (by simp [e7, nI_m1 (show s < 2 ^ 31 by omega)])
    have hm : m < 16 := by omega
    obtain ⟨z1, -, z3, z4⟩ := k7 d hd
    obtain ⟨c2, a1, a2, a3, a4, a5, a6⟩ := putC (c := c1) (k := k) hd hm (by rw [q1 _ (by omega), z1, y5])
    obtain ⟨c3, b1, b2, b3, b4, b5⟩ := remove_spec c2 ha (w := 2 ^ d) (by rw [a2 7 (by omega) (by omega) (by omega), q1 7 (by omega)]; exact h7a) (by omega) (by omega)
    obtain ⟨r2, hr2⟩ : ∃ r2, r2 = fl_up (fl_up r1 11 (16 * d + m) (nI k)) 10 d (nI (m + 1)) := ⟨_, rfl⟩
    have r2q : ∀ q, q ≠ 7 → q ≠ 10 → q ≠ 11 → r2 q = r q := fun q h7 h10 h11 => by rw [hr2, fl_up_ne _ _ _ h10, fl_up_ne _ _ _ h11, r1q q h7]
    have r27 : r2 7 = r1 7 := by rw [hr2, fl_up_ne _ _ _ (by decide), fl_up_ne _ _ _ (by decide)]
    have r210 : ∀ x, r2 10 x = if x = d then nI (m + 1) else r 10 x := fun x => by rw [hr2, fl_up_at, fl_up_ne _ _ _ (by decide), r1q 10 (by decide)]; simp
    have r211 : ∀ x, r2 11 x = if x = 16 * d + m then nI k else r 11 x := fun x => by rw [hr2, fl_up_ne _ _ _ (by decide), fl_up_at, r1q 11 (by decide)]; simp
    have hR : fR_free (nI a) r = if nI (m + 1) ≤ 1 then some (1, r2) else fl_bd (fR_draw (nI (m + 1)) r2) (fun r27 g28 => fl_bd (fR_swap (nI d) (nI m) r27 g28) (fun r30 g31 => some (1, g31))) := by
      rw [fR_free, (isLarge_eq i7 ha).2 hb, fl_bd_mk, if_pos rfl, hsm, fl_bd_mk, if_neg one_ne, hcell, fl_bd_mk]
      simp only [dv, nI_clamp (show p' < 2 ^ 31 by omega), e5, nI_clamp (show d < 2 ^ 31 by omega), nI_clamp (show 16 * p' + k < 2 ^ 31 by omega), fl_ck_pos (fl_in_nI hp (show 12 < 2 ^ 31 by decide)), fl_ck_pos (fl_in_nI hidx (show 192 < 2 ^ 31 by decide)), fl_ck_pos (fl_in_nI hd (show 4 < 2 ^ 31 by decide)), ← hr1, r1q 9 (by decide), r1q 10 (by decide), hat, y5, nI_1, rmm]
      rw [if_pos trivial, show (16 : Int32) = nI 16 from rfl, pk_mul, nI_add, show 16 * d + (m + 1) = (16 * d + m) + 1 by omega, dec1, dec1, fl_ck_pos (fl_in_nI (by omega) (by decide)), nI_clamp (by omega), ← hr2]
    have x0 : r2 0 = r 0 := r2q 0 (by decide) (by decide) (by decide)
    obtain ⟨r4, e1, e2, e3', e4, e5', e6⟩ : ∃ r4, fR_free (nI a) r = some (1, r4) ∧ (∀ q, q ≠ 0 → q ≠ 7 → q ≠ 10 → q ≠ 11 → r4 q = r q) ∧ (r4 7 = r1 7 ∧ ∀ x, r4 10 x = if x = d then nI (m + 1) else r 10 x) ∧ (∀ x, x < 16 * d ∨ 16 * d + 16 ≤ x → r4 11 x = r 11 x) ∧ (∀ x, x < 16 → r4 11 (16 * d + x) = xc (fun y => if y = m then nI k else r 11 (16 * d + y)) m (if m = 0 then m else dw (r 0 0) (m + 1)) x) ∧ (∀ x, r4 0 x = if x = 0 then (if m = 0 then r 0 0 else nx (r 0 0)) else r 0 x) := by
      have f11 : ∀ x, r2 11 (16 * d + x) = if x = m then nI k else r 11 (16 * d + x) := fun x => by
        rw [r211]
        by_cases w : x = m
        · rw [if_pos (by omega), if_pos w]
        · rw [if_neg (by omega), if_neg w]
      by_cases m0 : m = 0
      · refine ⟨r2, ?_, fun q _ h7 h10 h11 => r2q q h7 h10 h11, ⟨r27, r210⟩, fun x hx => ?_, fun x hx => ?_, fun x => ?_⟩
        · rw [hR, if_pos (by rw [m0]; decide)]
        · rw [r211, if_neg (by omega)]
        · rw [if_pos m0, xc_same]; exact f11 x
        · rw [if_pos m0, x0]
          by_cases w : x = 0
          · rw [if_pos w, w]
          · rw [if_neg w]
      · have hj : dw (r2 0 0) (m + 1) < m + 1 := dw_lt (by omega)
        obtain ⟨r3, w1, w2, w3, w4⟩ := swap_spec (fl_up r2 0 0 (nx (r2 0 0))) hd (i := m) (j := dw (r2 0 0) (m + 1)) (by omega) (by omega)
        have y11 : (fl_up r2 0 0 (nx (r2 0 0))) 11 = r2 11 := fl_up_ne _ _ _ (by decide)
        refine ⟨r3, ?_, fun q h0 h7 h10 h11 => by rw [w2 q h11, fl_up_ne _ _ _ h0, r2q q h7 h10 h11], ⟨by rw [w2 7 (by decide), fl_up_ne _ _ _ (by decide), r27], fun x => by rw [w2 10 (by decide), fl_up_ne _ _ _ (by decide)]; exact r210 x⟩, fun x hx => by rw [w4 x hx, y11, r211, if_neg (by omega)], fun x hx => ?_, fun x => ?_⟩
        · rw [hR, if_neg (show ¬ nI (m + 1) ≤ 1 from nI_ge (a := 1) (by omega) (by omega)), draw_spec r2 (by omega) (by omega), fl_bd_mk, w1, fl_bd_mk]
        · rw [w3 x hx, y11, if_neg m0, x0]
          unfold xc
          simp only [f11]
        · rw [w2 0 (by decide), fl_up_at, x0, if_neg m0]; simp
    refine ⟨c3, r4, ?_, e1, ?_⟩
    · rw [hC, hG, z3 p' hp hat, rf_nI (by omega), if_pos rfl, a1, fl_bd_mk, fl_bd_mk, b1, fl_bd_mk]
    · have cq : ∀ q, q ≠ 1 → q ≠ 6 → q ≠ 7 → q ≠ 8 → q ≠ 10 + p' → q ≠ 23 + 2 * d → q ≠ 24 + 2 * d → c3 q = c q := fun q h1 h6 h7 h8 hM hA hB => by rw [b2 q h6 h7 h8, a2 q h1 hA hB, q1 q hM]
      have r47 : ∀ x, r4 7 x = if x = 16 * p' + k then -1 else r 7 x := fun x => by rw [e3'.1]; exact r17 x
      refine cell_clear (p := p') (d := d) (k := k) (s := s) (V := V) hh hp hd hs24 hu e5 hk e7 e3 hV (fun x hx => by rw [r47]; exact hbV x hx) r47 e2 ?_ ?_ ?_ ?_ ?_ ?_ ?_ ?_
      · refine putback_9 i9 hp hd hk hu e5 hat y5 hm (by rw [e7]; exact nI_m1 (by omega)) r47 e2 e3'.2 e4 (fun y => if y = m then nI k else r 11 (16 * d + y)) (fun _ => rfl) ⟨m, _, by omega, ?_, e5'⟩
        by_cases m0 : m = 0
        · rw [if_pos m0]; omega
        · rw [if_neg m0]; exact dw_lt (by omega)
      · refine ⟨?_, ?_, ?_⟩
        · rw [b2 1 (by decide) (by decide) (by decide), a6, q1 1 (by omega), k1.1, e6, if_pos rfl]
        · rw [cq 0 (by decide) (by decide) (by decide) (by decide) (by omega) (by omega) (by omega), e6, if_neg (by decide)]; exact k1.2.1
        · rw [cq 0 (by decide) (by decide) (by decide) (by decide) (by omega) (by omega) (by omega), e6, if_neg (by decide)]; exact k1.2.2
      · intro e he
        rw [e2 9 (by decide) (by decide) (by decide) (by decide)]
        obtain ⟨t1, t2, t3, t4⟩ := k7 e he
        by_cases w : e = d
        · subst w
          rw [b2 _ (by omega) (by omega) (by omega), b2 _ (by omega) (by omega) (by omega), a3, a4, q1 _ (by omega), e3'.2, if_pos rfl]
          refine ⟨rfl, t2, t3, fun j hj => ?_⟩
          rw [a5, e5' j hj, q1 (24 + 2 * e) (by omega), q1 1 (by omega), k1.1]
          by_cases m0 : m = 0
          · rw [if_pos m0, xc_same, xc_same, t4 j hj]
          · rw [if_neg m0]
            have hj' : dw (r 0 0) (m + 1) < m + 1 := dw_lt (by omega)
            unfold xc
            simp only [t4 m (by omega), t4 _ (show dw (r 0 0) (m + 1) < 16 by omega), t4 j hj]
        · rw [cq _ (by omega) (by omega) (by omega) (by omega) (by omega) (by omega) (by omega), cq _ (by omega) (by omega) (by omega) (by omega) (by omega) (by omega) (by omega), e3'.2, if_neg w]
          exact ⟨t1, t2, t3, fun j hj => by rw [e4 _ (by omega)]; exact t4 j hj⟩
      · intro x; rw [b3, a2 7 (by omega) (by omega) (by omega), q1 7 (by omega), ← ea]
      · intro x; rw [b4, a2 8 (by omega) (by omega) (by omega), q1 8 (by omega), ← ea]
      · rw [b5, a2 6 (by omega) (by omega) (by omega), q1 6 (by omega)]
      · intro x; rw [b2 _ (by omega) (by omega) (by omega), a2 _ (by omega) (by omega) (by omega)]; exact q1p x
      · intro q h1 h6 h7 h8 hM h23; exact cq q h1 h6 h7 h8 hM (by omega) (by omega)
  · -- not attached
    have ho : ¬ fl_rf (c (23 + 2 * d) 0) = some (10 + p) := by
      obtain ⟨-, y2, y3, -⟩ := k7 d hd
      rcases i9 d hd with ⟨y, -⟩ | ⟨q, n, y1, y, -⟩
      · rw [y2 y, rf_m1]; intro w; cases w
      · rw [y3 q y1 y, rf_nI (by omega)]
        intro w
        have := Option.some.inj w
        exact hat (by rw [y, show q = p by omega])
    have hnh : ∀ e, e < 4 → r 9 e ≠ nI p := fun e he w => by
      rcases i9 e he with ⟨y, -⟩ | ⟨q, n, y1, y2, y3, y4, -⟩
      · rw [w] at y; exact nI_m1 (by omega) y
      · have : q = p := nI_inj (by omega) (by omega) (by rw [← y2, w])
        rw [this, e5] at y4
        have : e = d := nI_inj (by omega) (by omega) y4.symm
        exact hat (by rw [← this]; exact w)
    obtain ⟨c3, b1, b2, b3, b4, b5⟩ := remove_spec c1 ha (w := 2 ^ d) (by rw [q1 7 (by omega)]; exact h7a) (by omega) (by omega)
    have cq : ∀ q, q ≠ 6 → q ≠ 7 → q ≠ 8 → q ≠ 10 + p → c3 q = c q := fun q h6 h7 h8 hM => by rw [b2 q h6 h7 h8, q1 q hM]
    have hRl : Rl 0 c3 r1 := by
      refine cell_clear (p := p) (d := d) (k := k) (s := s) (V := V) hh hp hd hs24 hu e5 hk e7 e3 hV (fun x hx => by rw [r17]; exact hbV x hx) r17 (fun q _ h7 _ _ => r1q q h7) ?_ ?_ ?_ ?_ ?_ ?_ ?_ ?_
      · intro e he
        have h2' := c2_le he
        rw [r1q 9 (by decide), r1q 10 (by decide), r1q 1 (by decide), r1q 5 (by decide), r1q 11 (by decide)]
        rcases i9 e he with y | ⟨q, n, y1, y2, y3, y4, y5, y6, y7, y8⟩
        · exact Or.inl y
        · have zq : q ≠ p := fun w => hnh e he (by rw [y2, w])
          have kp : ∀ j, j < 16 → r1 7 (16 * q + j) = r 7 (16 * q + j) := fun j hj => by rw [r17, if_neg (by omega)]
          refine Or.inr ⟨q, n, y1, y2, y3, y4, y5, ?_, fun j hj => ?_, y8⟩
          · have : uc r1 q (16 / 2 ^ e) = uc r q (16 / 2 ^ e) := cr_congr _ _ (fun j _ hj => by simp only [kp j (by omega)])
            rw [this]; exact y6
          · obtain ⟨t, t1, t2, t3⟩ := y7 j hj
            exact ⟨t, t1, t2, by rw [kp t (by omega)]; exact t3⟩
      · simp only [kL1, r1q 0 (by decide), cq 1 (by decide) (by decide) (by decide) (by omega), cq 0 (by decide) (by decide) (by decide) (by omega)]; exact k1
      · intro e he
        rw [r1q 9 (by decide), r1q 10 (by decide), r1q 11 (by decide), cq _ (by omega) (by omega) (by omega) (by omega), cq _ (by omega) (by omega) (by omega) (by omega)]
        exact k7 e he
      · intro x; rw [b3, q1 7 (by omega), ← ea]
      · intro x; rw [b4, q1 8 (by omega), ← ea]
      · rw [b5, q1 6 (by omega)]
      · intro x; rw [b2 _ (by omega) (by omega) (by omega)]; exact q1p x
      · intro q _ h6 h7 h8 hM _; exact cq q h6 h7 h8 hM
    have hu1 : r1 1 p = 1 := by rw [r1q 1 (by decide)]; exact hu
    have e51 : r1 5 p = nI d := by rw [r1q 5 (by decide)]; exact e5
    have hR : fR_free (nI a) r = if nI (uc r1 p (16 / 2 ^ d)) = 0 then (fl_bd (fR_release (nI p) r1) (fun r20 g21 => some (1, g21))) else (some (1, r1)) := by
      rw [fR_free, (isLarge_eq i7 ha).2 hb, fl_bd_mk, if_pos rfl, hsm, fl_bd_mk, if_neg one_ne, hcell, fl_bd_mk]
      simp only [dv, nI_clamp (show p < 2 ^ 31 by omega), e5, nI_clamp (show d < 2 ^ 31 by omega), nI_clamp (show 16 * p + k < 2 ^ 31 by omega), fl_ck_pos (fl_in_nI hp (show 12 < 2 ^ 31 by decide)), fl_ck_pos (fl_in_nI hidx (show 192 < 2 ^ 31 by decide)), fl_ck_pos (fl_in_nI hd (show 4 < 2 ^ 31 by decide)), ← hr1, r1q 9 (by decide)]
      rw [if_neg hat, used_spec hp hd e51, fl_bd_mk]
    have hule := uc_le r1 p (16 / 2 ^ d)
    have hE : nI V = 0 ↔ uc r1 p (16 / 2 ^ d) = 0 := by
      rw [nI_eq0 (by omega), ← uc_16 hRl.1.2.2.2.2.1 hp hd hu1 e51]
      constructor
      · intro w
        refine cr_zero _ _ (fun j _ hj => ?_)
        have := hbV j (by omega)
        rw [w, Nat.zero_testBit, ← r17] at this
        exact this.symm
      · intro w
        apply Nat.eq_of_testBit_eq
        intro j
        rw [Nat.zero_testBit]
        by_cases hj : j < 16
        · rw [hbV j hj, ← r17]; exact cr_eq0 w j (by omega) (by omega)
        · exact Nat.testBit_lt_two_pow (Nat.lt_of_lt_of_le hV (Nat.pow_le_pow_right (by decide) (by omega)))
    have hEm : fM_isEmpty (10 + p) c1 = some (if nI V = 0 then 1 else 0, c1) := by
      rw [fM_isEmpty, fl_ck_pos (mc_kdM hp), q1p, if_pos rfl]
      by_cases w : nI V = 0
      · rw [if_pos w, if_pos w]
      · rw [if_neg w, if_neg w]
    by_cases hz : uc r1 p (16 / 2 ^ d) = 0
    · -- it is released
      have k31 : kL3 c1 r1 := fun v hv => by rw [q1 4 (by omega), r1q 3 (by decide)]; exact k3 v hv
      have k41 : kL4 c1 r1 := fun q hq => by rw [q1 5 (by omega)]; unfold vc; rw [r1q 3 (by decide)]; exact k4 q hq
      obtain ⟨c4, r4, g1, g2, g3, g4, g5, g6, g7⟩ := release_L hp 24 1000 0 c1 r1 (by omega) (by omega) k31 k41
      obtain ⟨c5, hc5⟩ : ∃ c5, c5 = fl_up (fl_up (fl_up (fl_up c4 (10 + p) 1 (-1)) (10 + p) 2 (-1)) (10 + p) 3 (-1)) (10 + p) 4 0 := ⟨_, rfl⟩
      have c5q : ∀ q, q ≠ 10 + p → c5 q = c4 q := fun q hq => by rw [hc5, fl_up_ne _ _ _ hq, fl_up_ne _ _ _ hq, fl_up_ne _ _ _ hq, fl_up_ne _ _ _ hq]
      have c52 : c5 (10 + p) 2 = -1 := by rw [hc5]; simp [fl_up_at]
      obtain ⟨c6, w1, w2, w3, w4, w5⟩ := remove_spec c5 ha (w := 2 ^ d) (by rw [c5q 7 (by omega), g5 7 (by decide) (by decide), q1 7 (by omega)]; exact h7a) (by omega) (by omega)
      refine ⟨c6, fl_up r4 1 p 0, ?_, ?_, ?_⟩
      · rw [hC, hG, if_neg ho, hEm, fl_bd_mk, if_pos (hE.mpr hz), if_neg one_ne, fP_unmapAllOf, fl_bd_of (show fP_unmapAllOf_L2 1000 0 (nI p) c1 = some (nI 24, c4) from g1), fl_bd_mk, fM_end, fl_ck_pos (mc_kdM hp), ← hc5, fl_bd_mk, fl_bd_mk, w1, fl_bd_mk]
      · rw [hR, hz, if_pos (show nI 0 = 0 from rfl), fR_release, fl_bd_of (show fR_release_L2 1000 0 (nI p) r1 = some (nI 24, r4) from g2), fl_ck_pos (fl_in_nI hp (by decide)), nI_clamp (by omega), fl_bd_mk]
      · refine release_rel (p := p) hRl hp hu1 (fun j hj => ?_) (fun e he => by rw [r1q 9 (by decide)]; exact hnh e he) (fun x => ?_) (fun z => ?_) (fun q n1 n3 => ?_) ?_ ?_ ?_ ?_ ?_ ?_ ?_
        · have := uc_16 hRl.1.2.2.2.2.1 hp hd hu1 e51
          rw [hz] at this
          have := cr_eq0 this j (by omega) (by omega)
          simpa using this
        · rw [fl_up_at, g6 1 (by decide)]; simp
        · rw [fl_up_ne _ _ _ (by decide), g7 z]; simp
        · rw [fl_up_ne _ _ _ n1, g6 q n3]
        · intro v hv; rw [w2 4 (by decide) (by decide) (by decide), c5q 4 (by omega), fl_up_ne _ _ _ (by decide)]; exact g3 v hv
        · intro q hq; rw [w2 5 (by decide) (by decide) (by decide), c5q 5 (by omega)]; unfold vc; rw [fl_up_ne _ _ _ (by decide)]; exact g4 q hq
        · rw [w2 _ (by omega) (by omega) (by omega)]; exact c52
        · intro x; rw [w3, b3, c5q 7 (by omega), g5 7 (by decide) (by decide)]
        · intro x; rw [w4, b4, c5q 8 (by omega), g5 8 (by decide) (by decide)]
        · rw [w5, b5, c5q 6 (by omega), g5 6 (by decide) (by decide)]
        · intro q h4 h5 h6 h7 h8 hM; rw [w2 q h6 h7 h8, c5q q hM, g5 q h4 h5, b2 q h6 h7 h8]
    · refine ⟨c3, r1, ?_, ?_, hRl⟩
      · rw [hC, hG, if_neg ho, hEm, fl_bd_mk, if_neg (fun w => hz (hE.mp w)), if_pos rfl, fl_bd_mk, b1, fl_bd_mk]
      · rw [hR, if_neg (fun w => hz ((nI_eq0 (by omega)).mp w))]
