/-! used cells -/
theorem used_L {r : fl_G} {p c : Nat} (hp : p < 12) (hc : c < 4) (e5 : r 5 p = nI c) : ∀ (d n i f : Nat), i + d = 16 / 2 ^ c → d < n → fR_used_L4 n (nI i) (nI f) (nI p) r = some ((nI (16 / 2 ^ c), nI (f + cr (fun k => decide (r 7 (16 * p + k) ≠ -1)) i d)), r)
  | 0, n + 1, i, f, hi, hn => by
    show fR_used_B4 _ _ _ _ _ = _
    have := c2_le hc
    rw [fR_used_B4, fl_ck_pos (fl_in_nI hp (by decide)), nI_clamp (by omega), e5, cells_spec r hc, fl_bd_mk, show i = 16 / 2 ^ c by omega, if_pos (nI_le (Nat.le_refl _) (by omega))]
    rfl
  | d + 1, n + 1, i, f, hi, hn => by
    show fR_used_B4 _ _ _ _ _ = _
    have := c2_le hc
    rw [fR_used_B4, fl_ck_pos (fl_in_nI hp (by decide)), nI_clamp (show p < 2 ^ 31 by omega), e5, cells_spec r hc, fl_bd_mk, if_neg (nI_ge (by omega) (by omega)), show (16 : Int32) = nI 16 from rfl, pk_mul, nI_add, fl_ck_pos (fl_in_nI (by omega) (by decide)), nI_clamp (by omega), cr_s]
    by_cases h : r 7 (16 * p + i) = -1
    · rw [if_pos h, nI_1, used_L hp hc e5 d n (i + 1) f (by omega) (by omega)]
      simp [h]
    · rw [if_neg h, nI_1, nI_1, used_L hp hc e5 d n (i + 1) (f + 1) (by omega) (by omega)]
      simp only [h, ne_eq, not_false_eq_true, decide_true, if_true, Nat.add_assoc]
theorem used_spec {r : fl_G} {p c : Nat} (hp : p < 12) (hc : c < 4) (e5 : r 5 p = nI c) : fR_used (nI p) r = some (nI (uc r p (16 / 2 ^ c)), r) := by
  have := c2_le hc
  rw [fR_used, show (0 : Int32) = nI 0 from rfl, used_L hp hc e5 (16 / 2 ^ c) 1000 0 0 (by omega) (by omega), fl_bd_mk, Nat.zero_add, uc]
theorem uc_le (r : fl_G) (p n : Nat) : uc r p n ≤ n := cr_le _ _ _
theorem uc_16 {r : fl_G} (h5 : rI5 r) {p c : Nat} (hp : p < 12) (hc : c < 4) (hu : r 1 p = 1) (e5 : r 5 p = nI c) : uc r p 16 = uc r p (16 / 2 ^ c) := by
  have := c2_le hc
  have hz : cr (fun k => decide (r 7 (16 * p + k) ≠ -1)) (0 + 16 / 2 ^ c) (16 - 16 / 2 ^ c) = 0 := by
    refine cr_zero _ _ (fun j h1 h2 => ?_)
    rcases h5 p c j hp hc (by omega) hu e5 with e | ⟨e, -⟩
    · simp [e]
    · omega
  have hs := cr_split (fun k => decide (r 7 (16 * p + k) ≠ -1)) (16 / 2 ^ c) (16 - 16 / 2 ^ c) 0
  rw [show 16 / 2 ^ c + (16 - 16 / 2 ^ c) = 16 by omega, hz, Nat.add_zero] at hs
  exact hs
theorem usedC_spec {c r : fl_G} (h5 : rI5 r) (k5 : kL5 c r) {p d : Nat} (hp : p < 12) (hd : d < 4) (hu : r 1 p = 1) (e5 : r 5 p = nI d) : fM_usedCells (10 + p) c = some (nI (uc r p (16 / 2 ^ d)), c) := by
  obtain ⟨-, -, -, U, hU, eU, hb⟩ := k5 p hp hu
  rw [fM_usedCells, fl_ck_pos (mc_kdM hp), eU, bc_spec hU, fl_bd_mk, ← uc_16 h5 hp hd hu e5, uc, cr_congr (P := U.testBit) (Q := fun k => decide (r 7 (16 * p + k) ≠ -1)) 16 0 (fun j _ hj => hb j (by omega))]
/-! blocks -/
theorem blocks_L4 {r : fl_G} (h7 : rI7 r) : ∀ (d n i f : Nat), i + d = 24 → d < n → fR_blocks_L4 n (nI i) (nI f) r = some ((nI 24, nI (f + cr (fun v => decide (r 8 v ≠ 0)) i d)), r)
  | 0, n + 1, i, f, hi, hn => by
    show fR_blocks_B4 _ _ _ _ = _
    rw [fR_blocks_B4, show i = 24 by omega, if_pos (show (24 : Int32) ≤ nI 24 by decide)]
    rfl
  | d + 1, n + 1, i, f, hi, hn => by
    show fR_blocks_B4 _ _ _ _ = _
    rw [fR_blocks_B4, if_neg (n_24 (by omega)), fl_ck_pos (fl_in_nI (by omega) (by decide)), nI_clamp (by omega), cr_s]
    by_cases h : r 8 i = 0
    · rw [if_pos ((lg_le h7 (by omega)).mpr h), nI_1, blocks_L4 h7 d n (i + 1) f (by omega) (by omega)]
      simp [h]
    · rw [if_neg (fun q => h ((lg_le h7 (by omega)).mp q)), nI_1, nI_1, blocks_L4 h7 d n (i + 1) (f + 1) (by omega) (by omega)]
      simp only [h, ne_eq, not_false_eq_true, decide_true, if_true, Nat.add_assoc]
theorem sm_s (f : Nat → Nat) (i d : Nat) : sm f i (d + 1) = f i + sm f (i + 1) d := rfl
theorem blocks_L35 {r : fl_G} (h4 : rI4 r) : ∀ (d n i f : Nat), i + d = 12 → d < n → fR_blocks_L35 n (nI i) (nI f) r = some ((nI 12, nI (f + sm (fun p => if r 1 p = 1 then uc r p (16 / 2 ^ pK r p) else 0) i d)), r)
  | 0, n + 1, i, f, hi, hn => by
    show fR_blocks_B35 _ _ _ _ = _
    rw [fR_blocks_B35, show i = 12 by omega, if_pos (show (12 : Int32) ≤ nI 12 by decide)]
    rfl
  | d + 1, n + 1, i, f, hi, hn => by
    show fR_blocks_B35 _ _ _ _ = _
    rw [fR_blocks_B35, if_neg (n_12 (by omega)), fl_ck_pos (fl_in_nI (by omega) (by decide)), nI_clamp (by omega), sm_s]
    by_cases h : r 1 i = 1
    · obtain ⟨⟨c, hc, ec⟩, -⟩ := h4 i (by omega) h
      rw [if_pos h, used_spec (by omega) hc ec, fl_bd_mk, nI_1, nI_add, blocks_L35 h4 d n (i + 1) _ (by omega) (by omega), if_pos h, pK_of hc ec, Nat.add_assoc]
    · rw [if_neg h, nI_1, blocks_L35 h4 d n (i + 1) f (by omega) (by omega), if_neg h, Nat.zero_add]
theorem s_blocks : lw_S0 fS_blocks fR_blocks Rl := by
  intro k c r _ h
  refine ⟨nI (bcnt r), c, r, ?_, ?_, h⟩
  · rw [fS_blocks, fB_howMany, fl_bd_mk, h.2.2.2.2.2.2.2.2.2.2]
  · rw [fR_blocks, show (0 : Int32) = nI 0 from rfl, blocks_L4 h.1.2.2.2.2.2.2.1 24 1000 0 0 (by omega) (by omega), fl_bd_mk, blocks_L35 h.1.2.2.2.1 12 1000 0 _ (by omega) (by omega), fl_bd_mk, Nat.zero_add, bcnt]
/-! the first of a kind -/
def fd (P : Nat → Bool) : Nat → Nat → Nat
  | i, 0 => i
  | i, d + 1 => if P i then i else fd P (i + 1) d
theorem fd_le (P : Nat → Bool) : ∀ (d i : Nat), i ≤ fd P i d ∧ fd P i d ≤ i + d
  | 0, i => ⟨Nat.le_refl _, Nat.le_refl _⟩
  | d + 1, i => by
    unfold fd
    split
    · omega
    · have := fd_le P d (i + 1); omega
theorem fd_yes {P : Nat → Bool} : ∀ (d i : Nat), fd P i d < i + d → P (fd P i d) = true
  | 0, i, h => by simp [fd] at h
  | d + 1, i, h => by
    unfold fd at h ⊢
    split
    · assumption
    · rename_i hn
      rw [if_neg hn] at h
      exact fd_yes d (i + 1) (by omega)
theorem fd_no {P : Nat → Bool} : ∀ (d i j : Nat), i ≤ j → j < fd P i d → P j = false
  | 0, i, j, h1, h2 => by simp [fd] at h2; omega
  | d + 1, i, j, h1, h2 => by
    unfold fd at h2
    split at h2
    · omega
    · rename_i hn
      by_cases e : i = j
      · subst e; simpa using hn
      · exact fd_no d (i + 1) j (by omega) h2
def lf (r : fl_G) : Nat := fd (fun p => decide (r 1 p = 0)) 0 12
theorem freePh_L (r : fl_G) : ∀ (d n i : Nat), i + d = 12 → d < n → fR_freePhysical_L2 n (nI i) r = some (nI (fd (fun p => decide (r 1 p = 0)) i d), r)
  | 0, n + 1, i, hi, hn => by
    show fR_freePhysical_B2 _ _ _ = _
    rw [fR_freePhysical_B2, show i = 12 by omega, if_pos (show (12 : Int32) ≤ nI 12 by decide)]
    rfl
  | d + 1, n + 1, i, hi, hn => by
    show fR_freePhysical_B2 _ _ _ = _
    rw [fR_freePhysical_B2, if_neg (n_12 (by omega)), fl_ck_pos (fl_in_nI (by omega) (by decide)), nI_clamp (by omega)]
    by_cases h : r 1 i = 0
    · rw [if_pos h]; simp [fd, h]
    · rw [if_neg h, nI_1, freePh_L r d n (i + 1) (by omega) (by omega)]; simp [fd, h]
theorem freePh_spec (r : fl_G) : fR_freePhysical r = some (nI (lf r), r) := by
  rw [fR_freePhysical, show (0 : Int32) = nI 0 from rfl, freePh_L r 12 1000 0 (by omega) (by omega), fl_bd_mk, lf]
theorem lowFree_L {c r : fl_G} (h3 : rI3 r) (h4 : kL4 c r) : ∀ (d n i : Nat), i + d = 12 → d < n → fP_lowestFree_L2 n (nI i) c = some (if fd (fun p => decide (r 1 p = 0)) i d = 12 then -1 else nI (fd (fun p => decide (r 1 p = 0)) i d), c)
  | 0, n + 1, i, hi, hn => by
    show fP_lowestFree_B2 _ _ _ = _
    rw [fP_lowestFree_B2, show i = 12 by omega, if_pos (show (12 : Int32) ≤ nI 12 by decide)]
    rfl
  | d + 1, n + 1, i, hi, hn => by
    show fP_lowestFree_B2 _ _ _ = _
    rw [fP_lowestFree_B2, if_neg (n_12 (by omega)), fl_ck_pos (fl_in_nI (by omega) (by decide)), nI_clamp (by omega)]
    by_cases h : r 1 i = 0
    · rw [if_pos ((virt_0 h3 h4 (by omega)).mpr h)]; simp only [fd, h, decide_true, if_true]; rw [if_neg (by omega)]
    · rw [if_neg (fun q => h ((virt_0 h3 h4 (by omega)).mp q)), nI_1, lowFree_L h3 h4 d n (i + 1) (by omega) (by omega)]; simp [fd, h]
theorem lowFree_spec {c r : fl_G} (h3 : rI3 r) (h4 : kL4 c r) : fP_lowestFree c = some (if lf r = 12 then -1 else nI (lf r), c) := by
  rw [fP_lowestFree, show (0 : Int32) = nI 0 from rfl, lowFree_L h3 h4 12 1000 0 (by omega) (by omega), lf]
theorem lf_le (r : fl_G) : lf r ≤ 12 := by have := (fd_le (fun p => decide (r 1 p = 0)) 12 0).2; unfold lf; omega
theorem lf_free {r : fl_G} (h : lf r < 12) : r 1 (lf r) = 0 := by
  have := fd_yes (P := fun p => decide (r 1 p = 0)) 12 0 (by unfold lf at h; omega)
  unfold lf
  simpa using this
theorem lf_none {r : fl_G} (h : lf r = 12) : ∀ p, p < 12 → r 1 p ≠ 0 := fun p hp => by
  have := fd_no (P := fun p => decide (r 1 p = 0)) 12 0 p (by omega) (by unfold lf at h; omega)
  simpa using this
theorem fsp_lf {r : fl_G} (h : 0 < fsp r) : lf r < 12 := by
  rcases Nat.lt_or_ge (lf r) 12 with q | q
  · exact q
  · have h1 := lf_none (r := r) (by have := lf_le r; omega)
    have : fsp r = 0 := cr_zero _ _ (fun j _ hj => by simp [h1 j (by omega)])
    omega
/-! rows of virtual spans -/
def af (r : fl_G) (v n : Nat) : Prop := ∀ k, k < n → r 3 (v + k) = -1
/-- the first row of n free spans begins at s; s = 24 when there is none -/
def lr (r : fl_G) (n s : Nat) : Prop := (s + n ≤ 24 ∧ af r s n ∧ ∀ w, w < s → ¬ af r w n) ∨ (s = 24 ∧ ∀ w, w + n ≤ 24 → ¬ af r w n)
theorem fv_in (r : fl_G) {v n : Nat} (hv : v + n ≤ 24) : ∀ (d m k : Nat) (b : Int32), k + d = n → d < m → (b = 0 ∨ b = 1) → ∃ b', (b' = 0 ∨ b' = 1) ∧ (b' = 1 ↔ b = 1 ∧ ∀ t, k ≤ t → t < n → r 3 (v + t) = -1) ∧ fR_freeVirtual_L15 m (nI k) b (nI v) (nI n) r = some ((nI n, b'), r)
  | 0, m + 1, k, b, hk, hm, hb => by
    refine ⟨b, hb, ⟨fun h => ⟨h, fun t h1 h2 => by omega⟩, fun h => h.1⟩, ?_⟩
    show fR_freeVirtual_B15 _ _ _ _ _ _ = _
    rw [fR_freeVirtual_B15, show k = n by omega, if_pos (nI_le (Nat.le_refl _) (by omega))]
  | d + 1, m + 1, k, b, hk, hm, hb => by
    have st : fR_freeVirtual_L15 (m + 1) (nI k) b (nI v) (nI n) r = fR_freeVirtual_L15 m (nI (k + 1)) (if b = 1 ∧ r 3 (v + k) = -1 then 1 else 0) (nI v) (nI n) r := by
      show fR_freeVirtual_B15 _ _ _ _ _ _ = _
      rw [fR_freeVirtual_B15, if_neg (nI_ge (by omega) (by omega)), nI_1, nI_add, fl_ck_pos (fl_in_nI (by omega) (by decide)), nI_clamp (by omega)]
      rcases hb with rfl | rfl
      · rw [if_pos rfl, if_neg (by simp)]
      · rw [if_neg one_ne]
        by_cases h : r 3 (v + k) = -1
        · rw [if_pos h, if_pos ⟨rfl, h⟩]
        · rw [if_neg h, if_neg (fun q => h q.2)]
    rw [st]
    obtain ⟨b', h1, h2, h3⟩ := fv_in r hv d m (k + 1) (if b = 1 ∧ r 3 (v + k) = -1 then 1 else 0) (by omega) (by omega) (by split <;> simp)
    refine ⟨b', h1, ?_, h3⟩
    rw [h2]
    constructor
    · intro ⟨e1, e2⟩
      split at e1
      · rename_i hh
        exact ⟨hh.1, fun t a1 a2 => by
          by_cases e : t = k
          · rw [e]; exact hh.2
          · exact e2 t (by omega) a2⟩
      · exact absurd e1 (by decide)
    · intro ⟨e1, e2⟩
      rw [if_pos ⟨e1, e2 k (Nat.le_refl _) (by omega)⟩]
      exact ⟨rfl, fun t a1 a2 => e2 t (by omega) a2⟩
theorem lt24 {x : Nat} (h : 24 < x) (hx : x < 2 ^ 31) : (24 : Int32) < nI x := nI_lt (a := 24) h hx
theorem nlt24 {x : Nat} (h : x ≤ 24) : ¬ (24 : Int32) < nI x := nI_nlt (a := 24) h (by decide)
theorem back1 : ∀ i, i < 24 → nI i - nI (i + 1) + 1 = nI 0 := by decide
theorem fv_out (r : fl_G) {n : Nat} (hn : 1 ≤ n) (hn4 : n ≤ 24) : ∀ (d m v : Nat), v + d = 25 - n → d < m → (∀ w, w < v → ¬ af r w n) → ∃ s, lr r n s ∧ fR_freeVirtual_L2 m (nI v) (nI n) r = some (nI s, r)
  | 0, m + 1, v, hv, hm, hw => by
    refine ⟨24, Or.inr ⟨rfl, fun w h => hw w (by omega)⟩, ?_⟩
    show fR_freeVirtual_B2 _ _ _ _ = _
    rw [fR_freeVirtual_B2, nI_add, if_pos (lt24 (by omega) (by omega))]
    rfl
  | d + 1, m + 1, v, hv, hm, hw => by
    obtain ⟨b', h1, h2, h3⟩ := fv_in r (v := v) (n := n) (by omega) n 1000 0 1 (by omega) (by omega) (Or.inr rfl)
    have st : fR_freeVirtual_L2 (m + 1) (nI v) (nI n) r = if b' = 0 then fR_freeVirtual_L2 m (nI (v + 1)) (nI n) r else some (nI v, r) := by
      show fR_freeVirtual_B2 _ _ _ _ = _
      rw [fR_freeVirtual_B2, nI_add, if_neg (nlt24 (by omega)), show (0 : Int32) = nI 0 from rfl, h3, fl_bd_mk, nI_1]
    rw [st]
    rcases h1 with rfl | rfl
    · rw [if_pos rfl]
      refine fv_out r hn hn4 d m (v + 1) (by omega) (by omega) (fun w h => ?_)
      by_cases e : w = v
      · subst e
        intro ha
        exact absurd (h2.mpr ⟨rfl, fun t _ ht => ha t ht⟩) (by decide)
      · exact hw w (by omega)
    · rw [if_neg one_ne]
      exact ⟨v, Or.inl ⟨by omega, fun k hk => (h2.mp rfl).2 k (by omega) hk, hw⟩, rfl⟩
theorem freeV_spec (r : fl_G) {n : Nat} (hn : 1 ≤ n) (hn4 : n ≤ 24) : ∃ s, lr r n s ∧ fR_freeVirtual (nI n) r = some (nI s, r) := by
  obtain ⟨s, h1, h2⟩ := fv_out r hn hn4 (25 - n) 1000 0 (by omega) (by omega) (fun w h => by omega)
  exact ⟨s, h1, by rw [fR_freeVirtual, show (0 : Int32) = nI 0 from rfl, h2]⟩
theorem lr_uniq {r : fl_G} {n s t : Nat} (h1 : lr r n s) (h2 : lr r n t) : s = t := by
  rcases h1 with ⟨a1, a2, a3⟩ | ⟨a1, a2⟩ <;> rcases h2 with ⟨b1, b2, b3⟩ | ⟨b1, b2⟩
  · rcases Nat.lt_trichotomy s t with q | q | q
    · exact absurd a2 (b3 s q)
    · exact q
    · exact absurd b2 (a3 t q)
  · exact absurd a2 (b2 s a1)
  · exact absurd b2 (a2 t b1)
  · omega
theorem row_L {c r : fl_G} (k3 : kL3 c r) {n : Nat} (hn : 1 ≤ n) (hn4 : n ≤ 24) : ∀ (d m i j : Nat), i + d = 24 → d < m → j < n → j ≤ i → (∀ t, i - j ≤ t → t < i → r 3 t = -1) → (j = i ∨ r 3 (i - j - 1) ≠ -1) → (∀ w, w + n ≤ i → ¬ af r w n) → ∃ s, lr r n s ∧ fP_lowestUnmappedRow_L4 m (nI i) (nI j) (nI n) c = some (if s = 24 then -1 else nI s, c)
  | 0, m + 1, i, j, hi, hm, hj, hji, h1, h2, h3 => by
    refine ⟨24, Or.inr ⟨rfl, fun w h => h3 w (by omega)⟩, ?_⟩
    show fP_lowestUnmappedRow_B4 _ _ _ _ _ = _
    rw [fP_lowestUnmappedRow_B4, show i = 24 by omega, if_pos (show (24 : Int32) ≤ nI 24 by decide), if_pos rfl]
  | d + 1, m + 1, i, j, hi, hm, hj, hji, h1, h2, h3 => by
    have st : fP_lowestUnmappedRow_L4 (m + 1) (nI i) (nI j) (nI n) c = if r 3 i = -1 then (if nI (j + 1) = nI n then some (nI i - nI n + 1, c) else fP_lowestUnmappedRow_L4 m (nI (i + 1)) (nI (j + 1)) (nI n) c) else fP_lowestUnmappedRow_L4 m (nI (i + 1)) (nI 0) (nI n) c := by
      show fP_lowestUnmappedRow_B4 _ _ _ _ _ = _
      rw [fP_lowestUnmappedRow_B4, if_neg (n_24 (by omega)), fl_ck_pos (fl_in_nI (by omega) (by decide)), nI_clamp (by omega), k3 i (by omega), nI_1, nI_1, if_neg (show ¬ (0 : Int32) = nI n from fun q => nI_ne0 (by omega) (by omega) q.symm)]
      rfl
    rw [st]
    by_cases hf : r 3 i = -1
    · rw [if_pos hf]
      by_cases he : j + 1 = n
      · rw [if_pos (by rw [he])]
        refine ⟨i + 1 - n, Or.inl ⟨by omega, fun k hk => ?_, fun w hw => h3 w (by omega)⟩, ?_⟩
        · by_cases e : i + 1 - n + k = i
          · rw [e]; exact hf
          · exact h1 _ (by omega) (by omega)
        · rw [if_neg (by omega)]
          by_cases e : n ≤ i
          · rw [pk_sub e, nI_1, show i - n + 1 = i + 1 - n by omega]
          · have : n = i + 1 := by omega
            subst this
            rw [show i + 1 - (i + 1) = 0 by omega]
            rw [back1 i (by omega)]
      · rw [if_neg (fun q => he ((nI_eq (by omega) (by omega)).mp q))]
        refine row_L k3 hn hn4 d m (i + 1) (j + 1) (by omega) (by omega) (by omega) (by omega) (fun t a1 a2 => ?_) ?_ (fun w hw ha => ?_)
        · by_cases e : t = i
          · rw [e]; exact hf
          · exact h1 t (by omega) (by omega)
        · rcases h2 with e | e
          · exact Or.inl (by omega)
          · exact Or.inr (by rw [show i + 1 - (j + 1) - 1 = i - j - 1 by omega]; exact e)
        · by_cases e : w + n ≤ i
          · exact h3 w e ha
          · rcases h2 with e2 | e2
            · omega
            · have := ha (i - j - 1 - w) (by omega)
              rw [show w + (i - j - 1 - w) = i - j - 1 by omega] at this
              exact e2 this
    · rw [if_neg hf]
      refine row_L k3 hn hn4 d m (i + 1) 0 (by omega) (by omega) (by omega) (by omega) (fun t a1 a2 => by omega) (Or.inr (by rw [show i + 1 - 0 - 1 = i by omega]; exact hf)) (fun w hw ha => ?_)
      by_cases e : w + n ≤ i
      · exact h3 w e ha
      · have := ha (i - w) (by omega)
        rw [show w + (i - w) = i by omega] at this
        exact hf this
theorem row_spec {c r : fl_G} (k3 : kL3 c r) {n : Nat} (hn : 1 ≤ n) (hn4 : n ≤ 24) : ∃ s, lr r n s ∧ fP_lowestUnmappedRow (nI n) c = some (if s = 24 then -1 else nI s, c) := by
  obtain ⟨s, h1, h2⟩ := row_L k3 hn hn4 24 1000 0 0 (by omega) (by omega) (by omega) (by omega) (fun t a b => by omega) (Or.inl rfl) (fun w h => by omega)
  exact ⟨s, h1, by rw [fP_lowestUnmappedRow, show (0 : Int32) = nI 0 from rfl, h2]⟩
