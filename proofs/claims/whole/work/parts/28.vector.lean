theorem Rl_frame {c c' r r' : fl_G} (hr : ∀ q, q ≠ 0 → q ≠ 9 → q ≠ 10 → q ≠ 11 → r' q = r q) (hc : ∀ q, q ≠ 1 → q < 23 → c' q = c q) (h1 : kL1 c' r') (h9 : rI9 r') (h7 : kL7 c' r') (h : Rl 0 c r) : Rl 0 c' r' := by
  obtain ⟨⟨i1, i2, i3, i4, i5, i6, i7, i8, -⟩, -, k2, k3, k4, k5, k6, -, k8, k9, k10⟩ := h
  have ec2 : ∀ p, p < 12 → c' (10 + p) = c (10 + p) := fun p hp => hc _ (by omega) (by omega)
  have e1 := hr 1 (by decide) (by decide) (by decide) (by decide)
  have e2 := hr 2 (by decide) (by decide) (by decide) (by decide)
  have e3 := hr 3 (by decide) (by decide) (by decide) (by decide)
  have e4 := hr 4 (by decide) (by decide) (by decide) (by decide)
  have e5 := hr 5 (by decide) (by decide) (by decide) (by decide)
  have e6 := hr 6 (by decide) (by decide) (by decide) (by decide)
  have e7 := hr 7 (by decide) (by decide) (by decide) (by decide)
  have e8 := hr 8 (by decide) (by decide) (by decide) (by decide)
  refine ⟨⟨?_, ?_, ?_, ?_, ?_, ?_, ?_, ?_, h9⟩, h1, ?_, ?_, ?_, ?_, ?_, h7, ?_, ?_, ?_⟩
  · simp only [rI1, e3]; exact i1
  · simp only [rI2, e1]; exact i2
  · simp only [rI3, e1, e3]; exact i3
  · simp only [rI4, e1, e3, e5, e6]; exact i4
  · simp only [rI5, e1, e3, e5, e7]; exact i5
  · simp only [rI6, e1, e3]; exact i6
  · simp only [rI7, e1, e3, e8]; exact i7
  · simp only [rI8, e1, e3, e8]; exact i8
  · simp only [kL2, e2, hc 3 (by decide) (by decide)]; exact k2
  · simp only [kL3, e3, hc 4 (by decide) (by decide)]; exact k3
  · simp only [kL4, vc, e3, hc 5 (by decide) (by decide)]; exact k4
  · intro p hp hu
    rw [ec2 p hp, e4, e5, e6, e7]
    rw [e1] at hu
    exact k5 p hp hu
  · intro p hp hu
    rw [ec2 p hp]
    rw [e1] at hu
    exact k6 p hp hu
  · simp only [kL8, bsz, pP, pK, e1, e3, e5, e7, e8, hc 7 (by decide) (by decide)]; exact k8
  · simp only [kL9, ins, pP, pK, e1, e3, e5, e7, hc 8 (by decide) (by decide)]; exact k9
  · simp only [kL10, bcnt, uc, pK, e1, e5, e7, e8, hc 6 (by decide) (by decide)]; exact k10
theorem isUsed_spec {c r : fl_G} {p k U : Nat} (hp : p < 12) (hk : k < 16) (hU : U < 2 ^ 16) (eU : c (10 + p) 4 = nI U) (hb : U.testBit k = decide (r 7 (16 * p + k) ≠ -1)) : fM_isUsed (10 + p) (nI k) c = some (if r 7 (16 * p + k) = -1 then 0 else 1, c) := by
  rw [fM_isUsed, fl_ck_pos (mc_kdM hp), eU]
  by_cases e : r 7 (16 * p + k) = -1
  · rw [if_pos ((nI_tst hU hk).mpr (by rw [hb]; simp [e])), if_pos e]
  · rw [if_neg (fun q => by have := (nI_tst hU hk).mp q; rw [hb] at this; simp [e] at this), if_neg e]
def Ent (r : fl_G) (p d k m : Nat) : Prop := (∀ j, j < m → ∃ x, x < k ∧ r 11 (16 * d + j) = nI x ∧ r 7 (16 * p + x) = -1) ∧ (∀ i j, i < m → j < m → r 11 (16 * d + i) = r 11 (16 * d + j) → i = j)
theorem cr_last (P : Nat → Bool) (k : Nat) : cr P 0 (k + 1) = cr P 0 k + (if P k then 1 else 0) := by
  rw [cr_split P k 1 0, Nat.zero_add]; simp [cr]
theorem build_L {p d U : Nat} (hp : p < 12) (hd : d < 4) (hU : U < 2 ^ 16) : ∀ (e n k m : Nat) (c r : fl_G), k + e = 16 / 2 ^ d → e < n → m ≤ k → c (10 + p) 4 = nI U → (∀ x, x < 16 → U.testBit x = decide (r 7 (16 * p + x) ≠ -1)) → (∀ j, j < 16 → c (24 + 2 * d) j = r 11 (16 * d + j)) → c (23 + 2 * d) 2 = nI m → Ent r p d k m → m + cr (fun x => decide (r 7 (16 * p + x) ≠ -1)) 0 k = k →
    ∃ m' c' r', fA_attach_L21 n (nI k) (nI (16 / 2 ^ d)) (23 + 2 * d) (10 + p) c = some (nI (16 / 2 ^ d), c') ∧ fR_attach_L12 n (nI k) (nI m) (nI d) (nI p) r = some ((nI (16 / 2 ^ d), nI m'), r') ∧ m' + uc r p (16 / 2 ^ d) = 16 / 2 ^ d ∧ (∀ j, j < 16 → c' (24 + 2 * d) j = r' 11 (16 * d + j)) ∧ c' (23 + 2 * d) 2 = nI m' ∧ c' (23 + 2 * d) 0 = c (23 + 2 * d) 0 ∧ Ent r' p d (16 / 2 ^ d) m' ∧ (∀ q, q ≠ 23 + 2 * d → q ≠ 24 + 2 * d → c' q = c q) ∧ (∀ q, q ≠ 11 → r' q = r q) ∧ (∀ x, x < 16 * d ∨ 16 * d + 16 ≤ x → r' 11 x = r 11 x)
  | 0, n + 1, k, m, c, r, hk, hn, hm, eU, hb, hrow, hlen, hE, hc => by
    have h2 := c2_le hd
    refine ⟨m, c, r, ?_, ?_, ?_, hrow, hlen, rfl, by rw [show 16 / 2 ^ d = k by omega]; exact hE, fun _ _ _ => rfl, fun _ _ => rfl, fun _ _ => rfl⟩
    · show fA_attach_B21 _ _ _ _ _ _ = _
      rw [fA_attach_B21, show k = 16 / 2 ^ d by omega, if_pos (nI_le (Nat.le_refl _) (by omega))]
    · show fR_attach_B12 _ _ _ _ _ _ = _
      rw [fR_attach_B12, cells_spec r hd, fl_bd_mk, show k = 16 / 2 ^ d by omega, if_pos (nI_le (Nat.le_refl _) (by omega))]
    · unfold uc; rw [show 16 / 2 ^ d = k by omega]; exact hc
  | e + 1, n + 1, k, m, c, r, hk, hn, hm, eU, hb, hrow, hlen, hE, hc => by
    have h2 := c2_le hd
    have sC : fA_attach_L21 (n + 1) (nI k) (nI (16 / 2 ^ d)) (23 + 2 * d) (10 + p) c = if r 7 (16 * p + k) = -1 then fA_attach_L21 n (nI (k + 1)) (nI (16 / 2 ^ d)) (23 + 2 * d) (10 + p) (fl_up (fl_up c (24 + 2 * d) m (nI k)) (23 + 2 * d) 2 (nI (m + 1))) else fA_attach_L21 n (nI (k + 1)) (nI (16 / 2 ^ d)) (23 + 2 * d) (10 + p) c := by
      show fA_attach_B21 _ _ _ _ _ _ = _
      rw [fA_attach_B21, if_neg (nI_ge (by omega) (by omega)), fl_ck_pos (mc_kdM hp), isUsed_spec hp (by omega) hU eU (hb k (by omega)), fl_bd_mk]
      by_cases q : r 7 (16 * p + k) = -1
      · rw [if_pos q, if_pos rfl, fl_ck_pos (mc_kdB hd), hlen, ln_A d hd, fl_ck_pos (fl_in_nI (by omega) (by decide)), nI_clamp (by omega), if_pos q, nI_1, fl_up_ne _ _ _ (show 23 + 2 * d ≠ 23 + 2 * d + 1 by omega), hlen, nI_1, show 23 + 2 * d + 1 = 24 + 2 * d by omega]
      · rw [if_neg q, if_neg one_ne, if_neg q, nI_1]
    have sR : fR_attach_L12 (n + 1) (nI k) (nI m) (nI d) (nI p) r = if r 7 (16 * p + k) = -1 then fR_attach_L12 n (nI (k + 1)) (nI (m + 1)) (nI d) (nI p) (fl_up r 11 (16 * d + m) (nI k)) else fR_attach_L12 n (nI (k + 1)) (nI m) (nI d) (nI p) r := by
      show fR_attach_B12 _ _ _ _ _ _ = _
      rw [fR_attach_B12, cells_spec r hd, fl_bd_mk, if_neg (nI_ge (by omega) (by omega)), show (16 : Int32) = nI 16 from rfl, pk_mul, nI_add, fl_ck_pos (fl_in_nI (by omega) (by decide)), nI_clamp (by omega), pk_mul, nI_add, fl_ck_pos (fl_in_nI (by omega) (by decide)), nI_clamp (by omega), nI_1, nI_1]
    rw [sC, sR]
    have hl := cr_last (fun x => decide (r 7 (16 * p + x) ≠ -1)) k
    by_cases q : r 7 (16 * p + k) = -1
    · rw [if_pos q, if_pos q]
      have hr7 : (fl_up r 11 (16 * d + m) (nI k)) 7 = r 7 := fl_up_ne _ _ _ (by decide)
      have hn11 : ∀ j, (fl_up r 11 (16 * d + m) (nI k)) 11 (16 * d + j) = if j = m then nI k else r 11 (16 * d + j) := fun j => by
        rw [fl_up_at]; simp only [true_and]
        by_cases z : j = m
        · rw [if_pos (by omega), if_pos z]
        · rw [if_neg (by omega), if_neg z]
      obtain ⟨m', c', r', a1, a2, a3, a4, a5, a5b, a6, a7, a8, a9⟩ := build_L hp hd hU e n (k + 1) (m + 1) (fl_up (fl_up c (24 + 2 * d) m (nI k)) (23 + 2 * d) 2 (nI (m + 1))) (fl_up r 11 (16 * d + m) (nI k)) (by omega) (by omega) (by omega)
        (by rw [fl_up_ne _ _ _ (by omega), fl_up_ne _ _ _ (by omega)]; exact eU) (by rw [hr7]; exact hb)
        (fun j hj => by
          rw [hn11 j, fl_up_ne _ _ _ (by omega), fl_up_at]; simp only [true_and]
          by_cases z : j = m
          · rw [if_pos z, if_pos z]
          · rw [if_neg z, if_neg z, hrow j hj])
        (by rw [fl_up_self])
        ⟨fun j hj => by
          rw [hn11 j, hr7]
          by_cases z : j = m
          · rw [if_pos z]; exact ⟨k, by omega, rfl, q⟩
          · rw [if_neg z]
            obtain ⟨x, x1, x2, x3⟩ := hE.1 j (by omega)
            exact ⟨x, by omega, x2, x3⟩, fun i j hi hj hij => by
          rw [hn11 i, hn11 j] at hij
          by_cases z1 : i = m <;> by_cases z2 : j = m
          · omega
          · rw [if_pos z1, if_neg z2] at hij
            obtain ⟨x, x1, x2, -⟩ := hE.1 j (by omega)
            rw [x2] at hij
            have := nI_inj (by omega) (by omega) hij; omega
          · rw [if_neg z1, if_pos z2] at hij
            obtain ⟨x, x1, x2, -⟩ := hE.1 i (by omega)
            rw [x2] at hij
            have := nI_inj (by omega) (by omega) hij; omega
          · rw [if_neg z1, if_neg z2] at hij
            exact hE.2 i j (by omega) (by omega) hij⟩
        (by rw [hr7, hl, if_neg (by simp [q])]; omega)
      refine ⟨m', c', r', a1, a2, ?_, a4, a5, ?_, a6, ?_, ?_, ?_⟩
      · unfold uc at a3 ⊢; rw [hr7] at a3; exact a3
      · rw [a5b, fl_up_k _ _ (by decide), fl_up_ne _ _ _ (by omega)]
      · intro z z1 z2; rw [a7 z z1 z2, fl_up_ne _ _ _ z1, fl_up_ne _ _ _ z2]
      · intro z z1; rw [a8 z z1, fl_up_ne _ _ _ z1]
      · intro x hx; rw [a9 x hx, fl_up_at, if_neg (by omega)]
    · rw [if_neg q, if_neg q]
      exact build_L hp hd hU e n (k + 1) m c r (by omega) (by omega) (by omega) eU hb hrow hlen ⟨fun j hj => by obtain ⟨x, x1, x2, x3⟩ := hE.1 j hj; exact ⟨x, by omega, x2, x3⟩, hE.2⟩ (by rw [hl, if_pos (by simp [q])]; omega)
theorem kd24 : ∀ d, d < 4 → mc_kd (24 + 2 * d) = 10 := by decide
theorem ln24 : ∀ d, d < 4 → mc_ln (24 + 2 * d) = 16 := by decide
theorem shuf_L {d m : Nat} (hd : d < 4) (hm : m ≤ 16) (y : Int32) : ∀ (i n : Nat) (c r : fl_G), i < n → i < m → (∀ j, j < 16 → c (24 + 2 * d) j = r 11 (16 * d + j)) → c 1 0 = r 0 0 →
    ∃ c' r', fD_shuffle_L4 n (nI i) (24 + 2 * d) (nI m) c = some (nI 0, c') ∧ fR_attach_L71 n (nI i) (nI m) (nI d) y r = some (nI 0, r') ∧ (∀ j, j < 16 → c' (24 + 2 * d) j = r' 11 (16 * d + j)) ∧ c' 1 0 = r' 0 0 ∧ (∀ q, q ≠ 1 → q ≠ 24 + 2 * d → c' q = c q) ∧ (∀ q, q ≠ 0 → q ≠ 11 → r' q = r q) ∧ (∀ k, k ≠ 0 → r' 0 k = r 0 k) ∧ (∀ x, x < 16 * d ∨ 16 * d + 16 ≤ x → r' 11 x = r 11 x) ∧ (∀ j, j < m → ∃ j', j' < m ∧ r' 11 (16 * d + j) = r 11 (16 * d + j')) ∧ ((∀ a b, a < m → b < m → r 11 (16 * d + a) = r 11 (16 * d + b) → a = b) → ∀ a b, a < m → b < m → r' 11 (16 * d + a) = r' 11 (16 * d + b) → a = b)
  | 0, n + 1, c, r, hn, him, hrow, hx => by
    refine ⟨c, r, ?_, ?_, hrow, hx, fun _ _ _ => rfl, fun _ _ _ => rfl, fun _ _ => rfl, fun _ _ => rfl, fun j hj => ⟨j, hj, rfl⟩, fun h => h⟩
    · show fD_shuffle_B4 _ _ _ _ _ = _
      rw [fD_shuffle_B4, if_pos (show nI 0 < 1 by decide)]
    · show fR_attach_B71 _ _ _ _ _ _ = _
      rw [fR_attach_B71, if_pos (show nI 0 < 1 by decide)]
  | i + 1, n + 1, c, r, hn, him, hrow, hx => by
    have hj : dw (r 0 0) (i + 2) < i + 2 := dw_lt (by omega)
    generalize hJ : dw (r 0 0) (i + 2) = j at hj
    obtain ⟨c1, a1, a2, a3⟩ := exch_spec (fl_up c 1 0 (nx (c 1 0))) (kd24 d hd) (ln24 d hd) (by omega) (i := i + 1) (j := j) (by omega) (by omega)
    obtain ⟨r1, b1, b2, b3, b4⟩ := swap_spec (fl_up r 0 0 (nx (r 0 0))) hd (i := i + 1) (j := j) (by omega) (by omega)
    have hc24 : (fl_up c 1 0 (nx (c 1 0))) (24 + 2 * d) = c (24 + 2 * d) := fl_up_ne _ _ _ (by omega)
    have hr11 : (fl_up r 0 0 (nx (r 0 0))) 11 = r 11 := fl_up_ne _ _ _ (by decide)
    have b3' : ∀ x, x < 16 → r1 11 (16 * d + x) = xc (fun z => r 11 (16 * d + z)) (i + 1) j x := fun x hx => by rw [b3 x hx, hr11]
    have hlt : ¬ nI (i + 1) < 1 := nI_nlt (b := 1) (by omega) (by omega)
    obtain ⟨c', r', e1, e2, e3, e4, e5, e6, e7, e8, e9, e10⟩ := shuf_L hd hm y i n c1 r1 (by omega) (by omega)
      (fun x hx => by
        rw [a3 x, b3' x hx, hc24]
        unfold xc
        rw [hrow (i + 1) (by omega), hrow j (by omega), hrow x hx])
      (by rw [a2 1 (by omega), b2 0 (by decide), fl_up_self, fl_up_self, hx])
    refine ⟨c', r', ?_, ?_, e3, e4, ?_, ?_, ?_, ?_, ?_, ?_⟩
    · show fD_shuffle_B4 _ _ _ _ _ = _
      rw [fD_shuffle_B4, if_neg hlt, nI_1, below_spec c (by omega) (by omega), fl_bd_mk, hx, show i + 1 + 1 = i + 2 from rfl, hJ, ← hx, a1, fl_bd_mk, pk_m1, e1]
    · show fR_attach_B71 _ _ _ _ _ _ = _
      rw [fR_attach_B71, if_neg hlt, nI_1, draw_spec r (by omega) (by omega), fl_bd_mk, show i + 1 + 1 = i + 2 from rfl, hJ, b1, fl_bd_mk, pk_m1, e2]
    · intro q q1 q2; rw [e5 q q1 q2, a2 q q2, fl_up_ne _ _ _ q1]
    · intro q q1 q2; rw [e6 q q1 q2, b2 q q2, fl_up_ne _ _ _ q1]
    · intro k hk; rw [e7 k hk, b2 0 (by decide), fl_up_k _ _ hk]
    · intro x hx; rw [e8 x hx, b4 x hx, hr11]
    · intro x hx
      obtain ⟨x1, h1, h2⟩ := e9 x hx
      obtain ⟨x2, h3, h4⟩ := xc_sg (fun z => r 11 (16 * d + z)) (show i + 1 < m by omega) (show j < m by omega) h1
      exact ⟨x2, h3, by rw [h2, b3' x1 (by omega), h4]⟩
    · intro hinj
      apply e10
      intro a b ha hb hab
      rw [b3' a (by omega), b3' b (by omega)] at hab
      exact xc_inj (show i + 1 < m by omega) (show j < m by omega) hinj a b ha hb hab
