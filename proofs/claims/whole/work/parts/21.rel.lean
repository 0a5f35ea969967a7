theorem n_4 {i : Nat} (h : i < 4) : ¬ (4 : Int32) ≤ nI i := fun q => nI_ge (a := i) (b := 4) h (by decide) q
theorem n_12 {i : Nat} (h : i < 12) : ¬ (12 : Int32) ≤ nI i := fun q => nI_ge (a := i) (b := 12) h (by decide) q
theorem n_16 {i : Nat} (h : i < 16) : ¬ (16 : Int32) ≤ nI i := fun q => nI_ge (a := i) (b := 16) h (by decide) q
theorem n_24 {i : Nat} (h : i < 24) : ¬ (24 : Int32) ≤ nI i := fun q => nI_ge (a := i) (b := 24) h (by decide) q
theorem n_384 {i : Nat} (h : i < 384) : ¬ (384 : Int32) ≤ nI i := fun q => nI_ge (a := i) (b := 384) h (by decide) q
/-! the two states tied together -/
def uc (r : fl_G) (p n : Nat) : Nat := cr (fun k => decide (r 7 (16 * p + k) ≠ -1)) 0 n
def vc (r : fl_G) (p : Nat) : Nat := cr (fun v => decide (r 3 v = nI p)) 0 24
def pP (r : fl_G) (v : Nat) : Nat := (r 3 v).toNatClampNeg
def pK (r : fl_G) (p : Nat) : Nat := (r 5 p).toNatClampNeg
def ins (r : fl_G) (a : Nat) : Bool := decide (r 3 (a / 16) ≠ -1 ∧ (r 1 (pP r (a / 16)) = 2 ∨ (r 1 (pP r (a / 16)) = 1 ∧ r 7 (16 * pP r (a / 16) + a % 16 / 2 ^ pK r (pP r (a / 16))) = nI (a / 16))))
def bsz (r : fl_G) (a : Nat) : Nat := if a % 16 = 0 ∧ r 8 (a / 16) ≠ 0 then 16 * (r 8 (a / 16)).toNatClampNeg else if r 3 (a / 16) ≠ -1 ∧ r 1 (pP r (a / 16)) = 1 ∧ r 7 (16 * pP r (a / 16) + a % 16 / 2 ^ pK r (pP r (a / 16))) = nI (a / 16) ∧ a % 2 ^ pK r (pP r (a / 16)) = 0 then 2 ^ pK r (pP r (a / 16)) else 0
def sm (f : Nat → Nat) : Nat → Nat → Nat
  | _, 0 => 0
  | i, d + 1 => f i + sm f (i + 1) d
def bcnt (r : fl_G) : Nat := cr (fun v => decide (r 8 v ≠ 0)) 0 24 + sm (fun p => if r 1 p = 1 then uc r p (16 / 2 ^ pK r p) else 0) 0 12
def rI1 (r : fl_G) : Prop := ∀ v, v < 24 → r 3 v = -1 ∨ ∃ p, p < 12 ∧ r 3 v = nI p
def rI2 (r : fl_G) : Prop := ∀ p, p < 12 → r 1 p = 0 ∨ r 1 p = 1 ∨ r 1 p = 2
def rI3 (r : fl_G) : Prop := ∀ p, p < 12 → (r 1 p = 0 ↔ ∀ v, v < 24 → r 3 v ≠ nI p)
def rI4 (r : fl_G) : Prop := ∀ p, p < 12 → r 1 p = 1 → (∃ c, c < 4 ∧ r 5 p = nI c) ∧ ∃ h, h < 24 ∧ r 6 p = nI h ∧ r 3 h = nI p
def rI5 (r : fl_G) : Prop := ∀ p c k, p < 12 → c < 4 → k < 16 → r 1 p = 1 → r 5 p = nI c → r 7 (16 * p + k) = -1 ∨ (k < 16 / 2 ^ c ∧ ∃ v, v < 24 ∧ r 7 (16 * p + k) = nI v ∧ r 3 v = nI p)
def rI6 (r : fl_G) : Prop := ∀ p v w, p < 12 → v < 24 → w < 24 → r 1 p = 2 → r 3 v = nI p → r 3 w = nI p → v = w
def rI7 (r : fl_G) : Prop := ∀ v, v < 24 → r 8 v = 0 ∨ ∃ n, 1 ≤ n ∧ n ≤ 4 ∧ v + n ≤ 24 ∧ r 8 v = nI n ∧ (∀ j, j < n → ∃ p, p < 12 ∧ r 3 (v + j) = nI p ∧ r 1 p = 2) ∧ (∀ j, 0 < j → j < n → r 8 (v + j) = 0)
def rI8 (r : fl_G) : Prop := ∀ v p, v < 24 → p < 12 → r 3 v = nI p → r 1 p = 2 → ∃ w n, w ≤ v ∧ v < w + n ∧ n ≤ 4 ∧ r 8 w = nI n
def rI9 (r : fl_G) : Prop := ∀ c, c < 4 → (r 9 c = -1 ∧ r 10 c = 0) ∨ ∃ p m, p < 12 ∧ r 9 c = nI p ∧ r 1 p = 1 ∧ r 5 p = nI c ∧ r 10 c = nI m ∧ m + uc r p (16 / 2 ^ c) = 16 / 2 ^ c ∧ (∀ j, j < m → ∃ k, k < 16 / 2 ^ c ∧ r 11 (16 * c + j) = nI k ∧ r 7 (16 * p + k) = -1) ∧ (∀ i j, i < m → j < m → r 11 (16 * c + i) = r 11 (16 * c + j) → i = j)
def rInv (r : fl_G) : Prop := rI1 r ∧ rI2 r ∧ rI3 r ∧ rI4 r ∧ rI5 r ∧ rI6 r ∧ rI7 r ∧ rI8 r ∧ rI9 r
def kL1 (c r : fl_G) : Prop := c 1 0 = r 0 0 ∧ c 0 6 = r 0 9 ∧ c 0 7 = r 0 13
def kL2 (c r : fl_G) : Prop := ∀ i, i < 192 → c 3 i = r 2 i
def kL3 (c r : fl_G) : Prop := ∀ v, v < 24 → c 4 v = r 3 v
def kL4 (c r : fl_G) : Prop := ∀ p, p < 12 → c 5 p = nI (vc r p)
def kL5 (c r : fl_G) : Prop := ∀ p, p < 12 → r 1 p = 1 → c (10 + p) 1 = r 4 p ∧ c (10 + p) 2 = r 5 p ∧ c (10 + p) 3 = r 6 p ∧ ∃ U, U < 2 ^ 16 ∧ c (10 + p) 4 = nI U ∧ ∀ k, k < 16 → U.testBit k = decide (r 7 (16 * p + k) ≠ -1)
def kL6 (c r : fl_G) : Prop := ∀ p, p < 12 → r 1 p ≠ 1 → c (10 + p) 2 = -1
def kL7 (c r : fl_G) : Prop := ∀ d, d < 4 → c (23 + 2 * d) 2 = r 10 d ∧ (r 9 d = -1 → c (23 + 2 * d) 0 = -1) ∧ (∀ p, p < 12 → r 9 d = nI p → c (23 + 2 * d) 0 = nI (10 + p)) ∧ ∀ j, j < 16 → c (24 + 2 * d) j = r 11 (16 * d + j)
def kL8 (c r : fl_G) : Prop := ∀ a, a < 384 → c 7 a = nI (bsz r a)
def kL9 (c r : fl_G) : Prop := ∀ a, a < 384 → c 8 a = if ins r a = true then 1 else 0
def kL10 (c r : fl_G) : Prop := c 6 2 = nI (bcnt r)
def kLnk (c r : fl_G) : Prop := kL1 c r ∧ kL2 c r ∧ kL3 c r ∧ kL4 c r ∧ kL5 c r ∧ kL6 c r ∧ kL7 c r ∧ kL8 c r ∧ kL9 c r ∧ kL10 c r
def Rl : lw_R := fun _ c r => rInv r ∧ kLnk c r
/-! the small questions -/
theorem ge_of {x : Int32} {n : Nat} (hn : n + 1 < 2 ^ 31) (h : nI (n + 1) ≤ x) : nI n < x := by
  rw [Int32.le_iff_toInt_le, nI_toInt hn] at h
  rw [Int32.lt_iff_toInt_lt, nI_toInt (by omega)]
  omega
theorem within_no {x : Int32} (n : Nat) (hn : n + 1 < 2 ^ 31) (g : fl_G) (h : x < 0 ∨ nI (n + 1) ≤ x) : fR_within x 0 (nI n) g = some (0, g) := by
  unfold fR_within
  by_cases h0 : x < 0
  · rw [if_pos h0]
  · rw [if_neg h0, if_pos (ge_of hn (h.resolve_left h0))]
theorem within_yes {i : Nat} (n : Nat) (hn : n + 1 < 2 ^ 31) (g : fl_G) (h : i ≤ n) : fR_within (nI i) 0 (nI n) g = some (1, g) := by
  unfold fR_within
  rw [if_neg (nI_pos (by omega)), if_neg (nI_nlt h (by omega))]
theorem isClass_no {x : Int32} (g : fl_G) (h : x < 0 ∨ nI 4 ≤ x) : fS_isClass x g = some (0, g) := by
  unfold fS_isClass
  by_cases h0 : x < 0
  · rw [if_pos h0]
  · rw [if_neg h0, if_pos (show (4 : Int32) ≤ x from h.resolve_left h0)]
theorem isClass_yes {i : Nat} (g : fl_G) (h : i < 4) : fS_isClass (nI i) g = some (1, g) := by
  unfold fS_isClass
  rw [if_neg (nI_pos (by omega)), if_neg (n_4 h)]
theorem isPhysical_no {x : Int32} (g : fl_G) (h : x < 0 ∨ nI 12 ≤ x) : fS_isPhysical x g = some (0, g) := by
  unfold fS_isPhysical
  by_cases h0 : x < 0
  · rw [if_pos h0]
  · rw [if_neg h0, if_pos (show (12 : Int32) ≤ x from h.resolve_left h0)]
theorem isPhysical_yes {i : Nat} (g : fl_G) (h : i < 12) : fS_isPhysical (nI i) g = some (1, g) := by
  unfold fS_isPhysical
  rw [if_neg (nI_pos (by omega)), if_neg (n_12 h)]
theorem isVirtual_no {x : Int32} (g : fl_G) (h : x < 0 ∨ nI 24 ≤ x) : fS_isVirtual x g = some (0, g) := by
  unfold fS_isVirtual
  by_cases h0 : x < 0
  · rw [if_pos h0]
  · rw [if_neg h0, if_pos (show (24 : Int32) ≤ x from h.resolve_left h0)]
theorem isVirtual_yes {i : Nat} (g : fl_G) (h : i < 24) : fS_isVirtual (nI i) g = some (1, g) := by
  unfold fS_isVirtual
  rw [if_neg (nI_pos (by omega)), if_neg (n_24 h)]
theorem isAddress_no {x : Int32} (g : fl_G) (h : x < 0 ∨ nI 384 ≤ x) : fS_isAddress x g = some (0, g) := by
  unfold fS_isAddress
  by_cases h0 : x < 0
  · rw [if_pos h0]
  · rw [if_neg h0, if_pos (show (384 : Int32) ≤ x from h.resolve_left h0)]
theorem isAddress_yes {i : Nat} (g : fl_G) (h : i < 384) : fS_isAddress (nI i) g = some (1, g) := by
  unfold fS_isAddress
  rw [if_neg (nI_pos (by omega)), if_neg (n_384 h)]
theorem one_ne : ¬ (1 : Int32) = 0 := by decide
/-! a call that changes nothing -/
theorem s_seed : lw_SV fS_seed fR_seed Rl := by
  intro k x c r _ h
  obtain ⟨hI, ⟨e1, e2, e3⟩, h2, h3, h4, h5, h6, h7, h8, h9, h10⟩ := h
  refine ⟨fl_up c 1 0 x, fl_up r 0 0 x, rfl, rfl, ?_, ?_⟩
  · have e : ∀ q, q ≠ 0 → fl_up r 0 0 x q = r q := fun q hq => fl_up_ne r 0 x hq
    simp only [rInv, rI1, rI2, rI3, rI4, rI5, rI6, rI7, rI8, rI9, uc, e 3 (by decide), e 1 (by decide), e 5 (by decide), e 6 (by decide), e 7 (by decide), e 8 (by decide), e 9 (by decide), e 10 (by decide), e 11 (by decide)]
    exact hI
  · have e : ∀ q, q ≠ 0 → fl_up r 0 0 x q = r q := fun q hq => fl_up_ne r 0 x hq
    have ec : ∀ q, q ≠ 1 → fl_up c 1 0 x q = c q := fun q hq => fl_up_ne c 0 x hq
    refine ⟨⟨?_, ?_, ?_⟩, ?_⟩
    · rw [fl_up_self, fl_up_self]
    · rw [ec 0 (by decide), fl_up_k r x (by decide), e2]
    · rw [ec 0 (by decide), fl_up_k r x (by decide), e3]
    · have ec2 : ∀ p, fl_up c 1 0 x (10 + p) = c (10 + p) := fun p => ec _ (by omega)
      have ec3 : ∀ p, fl_up c 1 0 x (23 + p) = c (23 + p) := fun p => ec _ (by omega)
      have ec4 : ∀ p, fl_up c 1 0 x (24 + p) = c (24 + p) := fun p => ec _ (by omega)
      simp only [kL2, kL3, kL4, kL5, kL6, kL7, kL8, kL9, kL10, vc, bsz, ins, bcnt, uc, pP, pK, ec2, ec3, ec4, ec 3 (by decide), ec 4 (by decide), ec 5 (by decide), ec 7 (by decide), ec 8 (by decide), ec 6 (by decide), e 2 (by decide), e 3 (by decide), e 1 (by decide), e 4 (by decide), e 5 (by decide), e 6 (by decide), e 7 (by decide), e 8 (by decide), e 9 (by decide), e 10 (by decide), e 11 (by decide)]
      exact ⟨h2, h3, h4, h5, h6, h7, h8, h9, h10⟩
theorem s_probes : lw_S0 fS_probes fR_probes Rl := fun k c r _ h => ⟨_, c, r, rfl, by rw [fR_probes, h.2.1.2.2], h⟩
theorem s_mapped : lw_S1 fS_mapped fR_mapped Rl := by
  intro k x c r _ h
  rcases pk_ix x (n := 24) (by decide) with hx | hx | ⟨j, hj, rfl⟩
  · refine ⟨-1, c, r, ?_, ?_, h⟩
    · rw [fS_mapped, fP_physicalOf, isVirtual_no c (Or.inl hx)]; rfl
    · rw [fR_mapped, show (23 : Int32) = nI 23 from rfl, within_no 23 (by decide) r (Or.inl hx)]; rfl
  · refine ⟨-1, c, r, ?_, ?_, h⟩
    · rw [fS_mapped, fP_physicalOf, isVirtual_no c (Or.inr hx)]; rfl
    · rw [fR_mapped, show (23 : Int32) = nI 23 from rfl, within_no 23 (by decide) r (Or.inr hx)]; rfl
  · refine ⟨r 3 j, c, r, ?_, ?_, h⟩
    · rw [fS_mapped, fP_physicalOf, isVirtual_yes c hj, fl_bd_mk, if_neg one_ne, fl_ck_pos (fl_in_nI hj (by decide)), fl_bd_mk, nI_clamp (by omega), h.2.2.2.1 j hj]
    · rw [fR_mapped, show (23 : Int32) = nI 23 from rfl, within_yes 23 (by decide) r (by omega), fl_bd_mk, if_neg one_ne, fl_ck_pos (fl_in_nI hj (by decide)), nI_clamp (by omega)]
/-! counts -/
theorem count_L (p : Nat) : ∀ (d n i f : Nat) (r : fl_G), i + d = 24 → d < n → fR_count_L16 n (nI i) (nI f) (nI p) r = some ((nI 24, nI (f + cr (fun v => decide (r 3 v = nI p)) i d)), r)
  | 0, n + 1, i, f, r, hi, hn => by
    show fR_count_B16 _ _ _ _ _ = _
    rw [fR_count_B16, show i = 24 by omega, if_pos (show (24 : Int32) ≤ nI 24 by decide)]
    rfl
  | d + 1, n + 1, i, f, r, hi, hn => by
    show fR_count_B16 _ _ _ _ _ = _
    rw [fR_count_B16, if_neg (n_24 (by omega)), fl_ck_pos (fl_in_nI (by omega) (by decide)), nI_clamp (by omega), cr_s]
    by_cases h : r 3 i = nI p
    · rw [if_pos h, nI_1, nI_1, count_L p d n (i + 1) (f + 1) r (by omega) (by omega)]
      simp only [h, decide_true, if_true]
      rw [show f + 1 + cr (fun v => decide (r 3 v = nI p)) (i + 1) d = f + (1 + cr (fun v => decide (r 3 v = nI p)) (i + 1) d) by omega]
    · rw [if_neg h, nI_1, count_L p d n (i + 1) f r (by omega) (by omega)]
      simp [h]
theorem s_count : lw_S1 fS_count fR_count Rl := by
  intro k x c r _ h
  rcases pk_ix x (n := 12) (by decide) with hx | hx | ⟨j, hj, rfl⟩
  · refine ⟨-1, c, r, ?_, ?_, h⟩
    · rw [fS_count, fP_virtualsOf, isPhysical_no c (Or.inl hx)]; rfl
    · rw [fR_count, show (11 : Int32) = nI 11 from rfl, within_no 11 (by decide) r (Or.inl hx)]; rfl
  · refine ⟨-1, c, r, ?_, ?_, h⟩
    · rw [fS_count, fP_virtualsOf, isPhysical_no c (Or.inr hx)]; rfl
    · rw [fR_count, show (11 : Int32) = nI 11 from rfl, within_no 11 (by decide) r (Or.inr hx)]; rfl
  · refine ⟨nI (vc r j), c, r, ?_, ?_, h⟩
    · rw [fS_count, fP_virtualsOf, isPhysical_yes c hj, fl_bd_mk, if_neg one_ne, fl_ck_pos (fl_in_nI hj (by decide)), fl_bd_mk, nI_clamp (by omega), h.2.2.2.2.1 j hj]
    · rw [fR_count, show (11 : Int32) = nI 11 from rfl, within_yes 11 (by decide) r (by omega), fl_bd_mk, if_neg one_ne, show (0 : Int32) = nI 0 from rfl, count_L j 24 1000 0 0 r (by omega) (by omega), fl_bd_mk, Nat.zero_add, vc]
