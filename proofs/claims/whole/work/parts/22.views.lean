theorem nI_eq0 {n : Nat} (h : n < 2 ^ 31) : nI n = 0 ↔ n = 0 := by
  rw [show (0 : Int32) = nI 0 from rfl, nI_eq h (by decide)]
theorem vc_le (r : fl_G) (p : Nat) : vc r p ≤ 24 := cr_le _ _ _
theorem vc_0 {r : fl_G} (h3 : rI3 r) {p : Nat} (hp : p < 12) : vc r p = 0 ↔ r 1 p = 0 := by
  rw [h3 p hp]
  constructor
  · intro h v hv e
    have := cr_eq0 h v (Nat.zero_le _) (by omega)
    simp [e] at this
  · intro h
    exact cr_zero _ _ (fun v _ hv => by simp [h v (by omega)])
theorem virt_0 {c r : fl_G} (h3 : rI3 r) (h4 : kL4 c r) {p : Nat} (hp : p < 12) : c 5 p = 0 ↔ r 1 p = 0 := by
  rw [h4 p hp, nI_eq0 (by have := vc_le r p; omega), vc_0 h3 hp]
theorem freeC_L (c : fl_G) : ∀ (d n i f : Nat), i + d = 12 → d < n → fP_freeOnes_L4 n (nI i) (nI f) c = some ((nI 12, nI (f + cr (fun p => decide (c 5 p = 0)) i d)), c)
  | 0, n + 1, i, f, hi, hn => by
    show fP_freeOnes_B4 _ _ _ _ = _
    rw [fP_freeOnes_B4, show i = 12 by omega, if_pos (show (12 : Int32) ≤ nI 12 by decide)]
    rfl
  | d + 1, n + 1, i, f, hi, hn => by
    show fP_freeOnes_B4 _ _ _ _ = _
    rw [fP_freeOnes_B4, if_neg (n_12 (by omega)), fl_ck_pos (fl_in_nI (by omega) (by decide)), nI_clamp (by omega), cr_s]
    by_cases h : c 5 i = 0
    · rw [if_pos h, nI_1, nI_1, freeC_L c d n (i + 1) (f + 1) (by omega) (by omega)]
      simp only [h, decide_true, if_true, Nat.add_assoc]
    · rw [if_neg h, nI_1, freeC_L c d n (i + 1) f (by omega) (by omega)]
      simp [h]
theorem freeR_L (r : fl_G) : ∀ (d n i f : Nat), i + d = 12 → d < n → fR_freeSpans_L4 n (nI i) (nI f) r = some ((nI 12, nI (f + cr (fun p => decide (r 1 p = 0)) i d)), r)
  | 0, n + 1, i, f, hi, hn => by
    show fR_freeSpans_B4 _ _ _ _ = _
    rw [fR_freeSpans_B4, show i = 12 by omega, if_pos (show (12 : Int32) ≤ nI 12 by decide)]
    rfl
  | d + 1, n + 1, i, f, hi, hn => by
    show fR_freeSpans_B4 _ _ _ _ = _
    rw [fR_freeSpans_B4, if_neg (n_12 (by omega)), fl_ck_pos (fl_in_nI (by omega) (by decide)), nI_clamp (by omega), cr_s]
    by_cases h : r 1 i = 0
    · rw [if_pos h, nI_1, nI_1, freeR_L r d n (i + 1) (f + 1) (by omega) (by omega)]
      simp only [h, decide_true, if_true, Nat.add_assoc]
    · rw [if_neg h, nI_1, freeR_L r d n (i + 1) f (by omega) (by omega)]
      simp [h]
def fsp (r : fl_G) : Nat := cr (fun p => decide (r 1 p = 0)) 0 12
theorem freeOnes_spec {c r : fl_G} (h3 : rI3 r) (h4 : kL4 c r) : fP_freeOnes c = some (nI (fsp r), c) := by
  rw [fP_freeOnes, show (0 : Int32) = nI 0 from rfl, freeC_L c 12 1000 0 0 (by omega) (by omega), fl_bd_mk, Nat.zero_add, fsp]
  rw [cr_congr (P := fun p => decide (c 5 p = 0)) (Q := fun p => decide (r 1 p = 0)) 12 0 (fun j _ hj => by simp only [virt_0 h3 h4 (show j < 12 by omega)])]
theorem freeSpans_spec (r : fl_G) : fR_freeSpans r = some (nI (fsp r), r) := by
  rw [fR_freeSpans, show (0 : Int32) = nI 0 from rfl, freeR_L r 12 1000 0 0 (by omega) (by omega), fl_bd_mk, Nat.zero_add, fsp]
theorem s_freeSpans : lw_S0 fS_freeSpans fR_freeSpans Rl := fun k c r _ h => ⟨nI (fsp r), c, r, by rw [fS_freeSpans, freeOnes_spec h.1.2.2.1 h.2.2.2.2.1, fl_bd_mk], freeSpans_spec r, h⟩
/-! the miniheaps of a class -/
theorem isOf_iff {c r : fl_G} (h5 : kL5 c r) (h6 : kL6 c r) {p d : Nat} (hp : p < 12) (hd : d < 4) : c (10 + p) 2 = nI d ↔ (r 1 p = 1 ∧ r 5 p = nI d) := by
  by_cases h : r 1 p = 1
  · rw [(h5 p hp h).2.1]; simp [h]
  · rw [h6 p hp h]
    constructor
    · intro e; exact absurd e.symm (nI_m1 (by omega))
    · intro e; exact absurd e.1 h
theorem isOf_spec {c r : fl_G} (h5 : kL5 c r) (h6 : kL6 c r) {p d : Nat} (hp : p < 12) (hd : d < 4) : fM_isOf (10 + p) (nI d) c = some (if r 1 p = 1 ∧ r 5 p = nI d then 1 else 0, c) := by
  rw [fM_isOf, fl_ck_pos (mc_kdM hp)]
  by_cases h : r 1 p = 1 ∧ r 5 p = nI d
  · rw [if_pos ((isOf_iff h5 h6 hp hd).mpr h), if_pos h]
  · rw [if_neg (fun e => h ((isOf_iff h5 h6 hp hd).mp e)), if_neg h]
theorem isHeap_spec (r : fl_G) {p : Nat} (x : Int32) (hp : p < 12) : fR_isHeap (nI p) x r = some (if r 1 p = 1 ∧ r 5 p = x then 1 else 0, r) := by
  rw [fR_isHeap, fl_ck_pos (fl_in_nI hp (by decide)), fl_ck_pos (fl_in_nI hp (by decide)), nI_clamp (by omega)]
  by_cases h1 : r 1 p = 1
  · by_cases h2 : r 5 p = x
    · rw [if_pos h1, if_pos h2, if_pos ⟨h1, h2⟩]
    · rw [if_pos h1, if_neg h2, if_neg (fun q => h2 q.2)]
  · rw [if_neg h1, if_neg (fun q => h1 q.1)]
theorem heapsC_L {c r : fl_G} (h5 : kL5 c r) (h6 : kL6 c r) {q : Nat} (hq : q < 4) : ∀ (d n i f : Nat), i + d = 12 → d < n → fS_heaps_L13 n (nI i) (nI f) (nI q) c = some ((nI 12, nI (f + cr (fun p => decide (r 1 p = 1 ∧ r 5 p = nI q)) i d)), c)
  | 0, n + 1, i, f, hi, hn => by
    show fS_heaps_B13 _ _ _ _ _ = _
    rw [fS_heaps_B13, show i = 12 by omega, if_pos (show (12 : Int32) ≤ nI 12 by decide)]
    rfl
  | d + 1, n + 1, i, f, hi, hn => by
    show fS_heaps_B13 _ _ _ _ _ = _
    rw [fS_heaps_B13, if_neg (n_12 (by omega)), fl_ck_pos (fl_in_nI (by omega) (by decide)), nI_clamp (by omega), isOf_spec h5 h6 (by omega) hq, fl_bd_mk, cr_s]
    by_cases h : r 1 i = 1 ∧ r 5 i = nI q
    · rw [if_pos h, if_neg one_ne, nI_1, nI_1, heapsC_L h5 h6 hq d n (i + 1) (f + 1) (by omega) (by omega)]
      simp only [h, and_self, decide_true, if_true, Nat.add_assoc]
    · rw [if_neg h, if_pos rfl, nI_1, heapsC_L h5 h6 hq d n (i + 1) f (by omega) (by omega)]
      simp [h]
theorem heapsR_L (r : fl_G) {q : Nat} : ∀ (d n i f : Nat), i + d = 12 → d < n → fR_heaps_L15 n (nI i) (nI f) (nI q) r = some ((nI 12, nI (f + cr (fun p => decide (r 1 p = 1 ∧ r 5 p = nI q)) i d)), r)
  | 0, n + 1, i, f, hi, hn => by
    show fR_heaps_B15 _ _ _ _ _ = _
    rw [fR_heaps_B15, show i = 12 by omega, if_pos (show (12 : Int32) ≤ nI 12 by decide)]
    rfl
  | d + 1, n + 1, i, f, hi, hn => by
    show fR_heaps_B15 _ _ _ _ _ = _
    rw [fR_heaps_B15, if_neg (n_12 (by omega)), isHeap_spec r _ (by omega), fl_bd_mk, cr_s]
    by_cases h : r 1 i = 1 ∧ r 5 i = nI q
    · rw [if_pos h, if_neg one_ne, nI_1, nI_1, heapsR_L r d n (i + 1) (f + 1) (by omega) (by omega)]
      simp only [h, and_self, decide_true, if_true, Nat.add_assoc]
    · rw [if_neg h, if_pos rfl, nI_1, heapsR_L r d n (i + 1) f (by omega) (by omega)]
      simp [h]
theorem s_heaps : lw_S1 fS_heaps fR_heaps Rl := by
  intro k x c r _ h
  rcases pk_ix x (n := 4) (by decide) with hx | hx | ⟨j, hj, rfl⟩
  · refine ⟨-1, c, r, ?_, ?_, h⟩
    · rw [fS_heaps, isClass_no c (Or.inl hx)]; rfl
    · rw [fR_heaps, show (3 : Int32) = nI 3 from rfl, within_no 3 (by decide) r (Or.inl hx)]; rfl
  · refine ⟨-1, c, r, ?_, ?_, h⟩
    · rw [fS_heaps, isClass_no c (Or.inr hx)]; rfl
    · rw [fR_heaps, show (3 : Int32) = nI 3 from rfl, within_no 3 (by decide) r (Or.inr hx)]; rfl
  · refine ⟨nI (0 + cr (fun p => decide (r 1 p = 1 ∧ r 5 p = nI j)) 0 12), c, r, ?_, ?_, h⟩
    · rw [fS_heaps, isClass_yes c hj, fl_bd_mk, if_neg one_ne, show (0 : Int32) = nI 0 from rfl, heapsC_L h.2.2.2.2.2.1 h.2.2.2.2.2.2.1 hj 12 1000 0 0 (by omega) (by omega), fl_bd_mk]
    · rw [fR_heaps, show (3 : Int32) = nI 3 from rfl, within_yes 3 (by decide) r (by omega), fl_bd_mk, if_neg one_ne, show (0 : Int32) = nI 0 from rfl, heapsR_L r 12 1000 0 0 (by omega) (by omega), fl_bd_mk]
/-! attached and vector -/
theorem rf_m1 : fl_rf (-1) = none := by decide
theorem rf_nI {n : Nat} (h : n < 2 ^ 31) : fl_rf (nI n) = some n := by
  rw [fl_rf, if_neg (nI_pos h), nI_clamp h]
theorem s_attached : lw_S1 fS_attached fR_attached Rl := by
  intro k x c r _ h
  rcases pk_ix x (n := 4) (by decide) with hx | hx | ⟨j, hj, rfl⟩
  · refine ⟨-1, c, r, ?_, ?_, h⟩
    · rw [fS_attached, isClass_no c (Or.inl hx)]; rfl
    · rw [fR_attached, show (3 : Int32) = nI 3 from rfl, within_no 3 (by decide) r (Or.inl hx)]; rfl
  · refine ⟨-1, c, r, ?_, ?_, h⟩
    · rw [fS_attached, isClass_no c (Or.inr hx)]; rfl
    · rw [fR_attached, show (3 : Int32) = nI 3 from rfl, within_no 3 (by decide) r (Or.inr hx)]; rfl
  · obtain ⟨-, l1, l2, -⟩ := h.2.2.2.2.2.2.2.1 j hj
    rcases h.1.2.2.2.2.2.2.2.2 j hj with ⟨e1, -⟩ | ⟨p, m, hp, e1, e2, -⟩
    · refine ⟨-1, c, r, ?_, ?_, h⟩
      · rw [fS_attached, isClass_yes c hj, fl_bd_mk, if_neg one_ne, fl_ck_pos (fl_in_nI hj (by decide)), nI_clamp (by omega), l1 e1, rf_m1]; rfl
      · rw [fR_attached, show (3 : Int32) = nI 3 from rfl, within_yes 3 (by decide) r (by omega), fl_bd_mk, if_neg one_ne, fl_ck_pos (fl_in_nI hj (by decide)), fl_ck_pos (fl_in_nI hj (by decide)), nI_clamp (by omega), if_pos e1]
    · refine ⟨r 4 p, c, r, ?_, ?_, h⟩
      · rw [fS_attached, isClass_yes c hj, fl_bd_mk, if_neg one_ne, fl_ck_pos (fl_in_nI hj (by decide)), nI_clamp (by omega), l2 p hp e1, rf_nI (by omega)]
        show fl_ck (mc_kd (10 + p) = 4) _ = _
        rw [fl_ck_pos (mc_kdM hp), (h.2.2.2.2.2.1 p hp e2).1]
      · rw [fR_attached, show (3 : Int32) = nI 3 from rfl, within_yes 3 (by decide) r (by omega), fl_bd_mk, if_neg one_ne, fl_ck_pos (fl_in_nI hj (by decide)), fl_ck_pos (fl_in_nI hj (by decide)), nI_clamp (by omega), e1, if_neg (nI_m1 (by omega)), fl_ck_pos (fl_in_nI hp (by decide)), nI_clamp (by omega)]
theorem within_m {x : Int32} {m : Nat} (hm : m < 2 ^ 30) (g : fl_G) (h : x < 0 ∨ nI m ≤ x) : fR_within x 0 (nI m - 1) g = some (0, g) := by
  unfold fR_within
  by_cases h0 : x < 0
  · rw [if_pos h0]
  · rw [if_neg h0, if_pos]
    have h1 := h.resolve_left h0
    have e := pk_sub_toInt (a := m) (b := 1) hm (by decide)
    rw [Int32.le_iff_toInt_le, nI_toInt (by omega)] at h1
    rw [Int32.lt_iff_toInt_lt, show (nI m - 1).toInt = _ from e]
    omega
theorem within_j {j m : Nat} (hm : m < 2 ^ 30) (g : fl_G) (h : j < m) : fR_within (nI j) 0 (nI m - 1) g = some (1, g) := by
  unfold fR_within
  rw [if_neg (nI_pos (by omega)), if_neg]
  have e := pk_sub_toInt (a := m) (b := 1) hm (by decide)
  rw [Int32.lt_iff_toInt_lt, show (nI m - 1).toInt = _ from e, nI_toInt (by omega)]
  omega
theorem ln_A : ∀ d, d < 4 → mc_ln (23 + 2 * d + 1) = 16 := by decide
theorem c2_le {c : Nat} (hc : c < 4) : 2 ≤ 16 / 2 ^ c ∧ 16 / 2 ^ c ≤ 16 := (by decide : ∀ c, c < 4 → 2 ≤ 16 / 2 ^ c ∧ 16 / 2 ^ c ≤ 16) c hc
theorem s_vector : lw_S2 fS_vector fR_vector Rl := by
  intro k x y c r _ h
  rcases pk_ix x (n := 4) (by decide) with hx | hx | ⟨j, hj, rfl⟩
  · refine ⟨-1, c, r, ?_, ?_, h⟩
    · rw [fS_vector, isClass_no c (Or.inl hx)]; rfl
    · rw [fR_vector, show (3 : Int32) = nI 3 from rfl, within_no 3 (by decide) r (Or.inl hx)]; rfl
  · refine ⟨-1, c, r, ?_, ?_, h⟩
    · rw [fS_vector, isClass_no c (Or.inr hx)]; rfl
    · rw [fR_vector, show (3 : Int32) = nI 3 from rfl, within_no 3 (by decide) r (Or.inr hx)]; rfl
  · obtain ⟨l0, l1, l2, l3⟩ := h.2.2.2.2.2.2.2.1 j hj
    have hC : fS_vector (nI j) y c = fl_bd (fA_cellAtPlace (23 + 2 * j) y c) (fun r6 g7 => some (r6, g7)) := by
      rw [fS_vector, isClass_yes c hj, fl_bd_mk, if_neg one_ne, fl_ck_pos (fl_in_nI hj (by decide)), nI_clamp (by omega)]
    have hR : fR_vector (nI j) y r = (if r 9 j = -1 then some (-1, r) else fl_bd (fR_within y 0 (r 10 j - 1) r) (fun r8 g9 => if r8 = 0 then (some ((-1), g9)) else (fl_ck (fl_in ((16 * nI j) + y) 64) (some ((g9 11 (Int32.toNatClampNeg ((16 * nI j) + y))), g9))))) := by
      rw [fR_vector, show (3 : Int32) = nI 3 from rfl, within_yes 3 (by decide) r (by omega), fl_bd_mk, if_neg one_ne, fl_ck_pos (fl_in_nI hj (by decide)), fl_ck_pos (fl_in_nI hj (by decide)), nI_clamp (by omega)]
    have kd : mc_kd (23 + 2 * j) = 5 := mc_kdB hj
    rcases h.1.2.2.2.2.2.2.2.2 j hj with ⟨e1, e2⟩ | ⟨p, m, hp, e1, e2, e3, e4, e5, -⟩
    · refine ⟨-1, c, r, ?_, ?_, h⟩
      · rw [hC, fA_cellAtPlace]
        by_cases hy : y < 0
        · rw [if_pos hy]; rfl
        · rw [if_neg hy, fl_ck_pos kd, l0, e2, if_pos (Int32.not_lt.mp hy)]; rfl
      · rw [hR, if_pos e1]
    · have hm : m ≤ 16 := by have := (c2_le hj).2; omega
      rcases pk_ix y (n := m) (by omega) with hy | hy | ⟨i, hi, rfl⟩
      · refine ⟨-1, c, r, ?_, ?_, h⟩
        · rw [hC, fA_cellAtPlace, if_pos hy]; rfl
        · rw [hR, e1, if_neg (nI_m1 (by omega)), e4, within_m (by omega) r (Or.inl hy)]; rfl
      · refine ⟨-1, c, r, ?_, ?_, h⟩
        · rw [hC, fA_cellAtPlace]
          by_cases hy0 : y < 0
          · rw [if_pos hy0]; rfl
          · rw [if_neg hy0, fl_ck_pos kd, l0, e4, if_pos hy]; rfl
        · rw [hR, e1, if_neg (nI_m1 (by omega)), e4, within_m (by omega) r (Or.inr hy)]; rfl
      · refine ⟨r 11 (16 * j + i), c, r, ?_, ?_, h⟩
        · rw [hC, fA_cellAtPlace, if_neg (nI_pos (by omega)), fl_ck_pos kd, l0, e4, if_neg (nI_ge hi (by omega)), ln_A j hj, fl_ck_pos (fl_in_nI (by omega) (by decide)), nI_clamp (by omega), fl_bd_mk, show 23 + 2 * j + 1 = 24 + 2 * j by omega, l3 i (by omega)]
        · rw [hR, e1, if_neg (nI_m1 (by omega)), e4, within_j (by omega) r hi, fl_bd_mk, if_neg one_ne, show (16 : Int32) = nI 16 from rfl, pk_mul, nI_add, fl_ck_pos (fl_in_nI (by omega) (by decide)), nI_clamp (by omega)]
