theorem fl_cs_S {β : Type} (q : Nat) (a : Option β) (k : Nat → Option β) : fl_cs (some q) a k = k q := rfl
theorem fl_cs_N {β : Type} (a : Option β) (k : Nat → Option β) : fl_cs none a k = a := rfl
/-! the fullest with room -/
theorem isFull_spec {c r : fl_G} (h5 : rI5 r) (k5 : kL5 c r) {p d : Nat} (hp : p < 12) (hd : d < 4) (hu : r 1 p = 1) (e5 : r 5 p = nI d) : fM_isFull (10 + p) c = some (if uc r p (16 / 2 ^ d) = 16 / 2 ^ d then 1 else 0, c) := by
  have h1 := c2_le hd
  have h2 := uc_le r p (16 / 2 ^ d)
  rw [fM_isFull, fl_ck_pos (mc_kdM hp), usedC_spec h5 k5 hp hd hu e5, fl_bd_mk, (k5 p hp hu).2.1, e5, cellsC_spec c hd, fl_bd_mk]
  by_cases e : uc r p (16 / 2 ^ d) = 16 / 2 ^ d
  · rw [if_pos (by rw [e]), if_pos e]
  · rw [if_neg (fun q => e (nI_inj (by omega) (by omega) q)), if_neg e]
theorem sub_pos {a b : Nat} (ha : a < 2 ^ 30) (hb : b < 2 ^ 30) : (0 < nI a - nI b ↔ b < a) ∧ (nI a - nI b = 0 ↔ a = b) := by
  have e := pk_sub_toInt ha hb
  have z : (0 : Int32).toInt = 0 := by decide
  constructor
  · rw [Int32.lt_iff_toInt_lt, e, z]; omega
  · rw [← Int32.toInt_inj, e, z]; omega
/-- which of two goes first -/
def gb (r : fl_G) (n p b : Nat) : Prop := uc r b n < uc r p n ∨ (uc r p n = uc r b n ∧ r 4 p < r 4 b)
theorem goes_spec {c r : fl_G} (h5 : rI5 r) (k5 : kL5 c r) {p b d : Nat} (hp : p < 12) (hb : b < 12) (hd : d < 4) (hu : r 1 p = 1) (hv : r 1 b = 1) (e5 : r 5 p = nI d) (f5 : r 5 b = nI d) : (gb r (16 / 2 ^ d) p b → fM_goesBefore (10 + p) (10 + b) c = some (1, c)) ∧ (¬ gb r (16 / 2 ^ d) p b → fM_goesBefore (10 + p) (10 + b) c = some (0, c)) := by
  have h1 := c2_le hd
  have h2 := uc_le r p (16 / 2 ^ d)
  have h3 := uc_le r b (16 / 2 ^ d)
  obtain ⟨s1, s2⟩ := sub_pos (a := uc r p (16 / 2 ^ d)) (b := uc r b (16 / 2 ^ d)) (by omega) (by omega)
  rw [fM_goesBefore, fl_ck_pos (mc_kdM hp), usedC_spec h5 k5 hp hd hu e5, fl_bd_mk, fl_ck_pos (mc_kdM hb), usedC_spec h5 k5 hb hd hv f5, fl_bd_mk, (k5 p hp hu).1, (k5 b hb hv).1]
  unfold gb
  by_cases a1 : uc r b (16 / 2 ^ d) < uc r p (16 / 2 ^ d)
  · rw [if_pos (s1.mpr a1)]
    exact ⟨fun _ => rfl, fun h => absurd (Or.inl a1) h⟩
  · rw [if_neg (fun q => a1 (s1.mp q))]
    by_cases a2 : uc r p (16 / 2 ^ d) = uc r b (16 / 2 ^ d)
    · rw [if_pos (s2.mpr a2)]
      by_cases a3 : r 4 b ≤ r 4 p
      · rw [if_pos a3]
        exact ⟨fun h => (h.elim (fun q => absurd q a1) (fun q => absurd q.2 (Int32.not_lt.mpr a3))), fun _ => rfl⟩
      · rw [if_neg a3]
        exact ⟨fun _ => rfl, fun h => absurd (Or.inr ⟨a2, Int32.not_le.mp a3⟩) h⟩
    · rw [if_neg (fun q => a2 (s2.mp q))]
      exact ⟨fun h => (h.elim (fun q => absurd q a1) (fun q => absurd q.1 a2)), fun _ => rfl⟩
/-- what the search has found so far -/
def fb (r : fl_G) (d : Nat) (o : Option Nat) (x : Int32) : Prop := (o = none ∧ x = -1) ∨ ∃ p, p < 12 ∧ o = some (10 + p) ∧ x = nI p ∧ r 1 p = 1 ∧ r 5 p = nI d ∧ uc r p (16 / 2 ^ d) < 16 / 2 ^ d
theorem fullest_L {c r : fl_G} (h5 : rI5 r) (k5 : kL5 c r) (k6 : kL6 c r) {d : Nat} (hd : d < 4) : ∀ (e n i : Nat) (o : Option Nat) (x : Int32), i + e = 12 → e < n → fb r d o x → ∃ o' x', fb r d o' x' ∧ fS_fullestWithRoom_L4 n (nI i) o (nI d) c = some ((nI 12, o'), c) ∧ fR_fullest_L4 n (nI i) x (nI d) r = some ((nI 12, x'), r)
  | 0, n + 1, i, o, x, hi, hn, hf => by
    refine ⟨o, x, hf, ?_, ?_⟩
    · show fS_fullestWithRoom_B4 _ _ _ _ _ = _
      rw [fS_fullestWithRoom_B4, show i = 12 by omega, if_pos (show (12 : Int32) ≤ nI 12 by decide)]
    · show fR_fullest_B4 _ _ _ _ _ = _
      rw [fR_fullest_B4, show i = 12 by omega, if_pos (show (12 : Int32) ≤ nI 12 by decide)]
  | e + 1, n + 1, i, o, x, hi, hn, hf => by
    have hi12 : i < 12 := by omega
    have hc2 := c2_le hd
    have hul := uc_le r i (16 / 2 ^ d)
    have sC : fS_fullestWithRoom_L4 (n + 1) (nI i) o (nI d) c = fl_bd (fM_isOf (10 + i) (nI d) c) (fun r4 g5 => if r4 = 0 then (fS_fullestWithRoom_L4 n (nI (i + 1)) o (nI d) g5) else (fl_bd (fM_isFull (10 + i) g5) (fun r8 g9 => if r8 = 0 then (fl_cs o (fS_fullestWithRoom_L4 n (nI (i + 1)) (some (10 + i)) (nI d) g9) (fun q12 => fl_bd (fM_goesBefore (10 + i) q12 g9) (fun r13 g14 => if r13 = 0 then (fS_fullestWithRoom_L4 n (nI (i + 1)) (some q12) (nI d) g14) else (fS_fullestWithRoom_L4 n (nI (i + 1)) (some (10 + i)) (nI d) g14)))) else (fS_fullestWithRoom_L4 n (nI (i + 1)) o (nI d) g9)))) := by
      show fS_fullestWithRoom_B4 _ _ _ _ _ = _
      rw [fS_fullestWithRoom_B4, if_neg (n_12 hi12), fl_ck_pos (fl_in_nI hi12 (by decide)), nI_clamp (by omega), nI_1]
    have sR : fR_fullest_L4 (n + 1) (nI i) x (nI d) r = fl_bd (fR_isHeap (nI i) (nI d) r) (fun r3 g4 => if r3 = 0 then (fR_fullest_L4 n (nI (i + 1)) x (nI d) g4) else (fl_bd (fR_used (nI i) g4) (fun r7 g8 => fl_bd (fR_cells (nI d) g8) (fun r10 g11 => if r10 ≤ r7 then (fR_fullest_L4 n (nI (i + 1)) x (nI d) g11) else (if x = (-1) then (fR_fullest_L4 n (nI (i + 1)) (nI i) (nI d) g11) else (fl_bd (fR_used (nI i) g11) (fun r16 g17 => fl_bd (fR_used x g17) (fun r19 g20 => if r19 < r16 then (fR_fullest_L4 n (nI (i + 1)) (nI i) (nI d) g20) else (fl_bd (fR_used (nI i) g20) (fun r24 g25 => fl_bd (fR_used x g25) (fun r27 g28 => if r24 = r27 then (fl_ck (fl_in (nI i) 12) (fl_ck (fl_in x 12) (if (g28 4 (Int32.toNatClampNeg x)) ≤ (g28 4 (Int32.toNatClampNeg (nI i))) then (fR_fullest_L4 n (nI (i + 1)) x (nI d) g28) else (fR_fullest_L4 n (nI (i + 1)) (nI i) (nI d) g28)))) else (fR_fullest_L4 n (nI (i + 1)) x (nI d) g28)))))))))))) := by
      show fR_fullest_B4 _ _ _ _ _ = _
      rw [fR_fullest_B4, if_neg (n_12 hi12), nI_1]
    rw [sC, sR, isOf_spec k5 k6 hi12 hd, fl_bd_mk, isHeap_spec r _ hi12, fl_bd_mk]
    by_cases hh : r 1 i = 1 ∧ r 5 i = nI d
    · rw [if_pos hh, if_neg one_ne, if_neg one_ne, isFull_spec h5 k5 hi12 hd hh.1 hh.2, fl_bd_mk, used_spec hi12 hd hh.2, fl_bd_mk, cells_spec r hd, fl_bd_mk]
      by_cases hfull : uc r i (16 / 2 ^ d) = 16 / 2 ^ d
      · rw [if_pos hfull, if_neg one_ne, if_pos (nI_le (by omega) (by omega))]
        exact fullest_L h5 k5 k6 hd e n (i + 1) o x (by omega) (by omega) hf
      · rw [if_neg hfull, if_pos rfl, if_neg (nI_ge (by omega) (by omega))]
        have hnew : fb r d (some (10 + i)) (nI i) := Or.inr ⟨i, hi12, rfl, rfl, hh.1, hh.2, by omega⟩
        rcases hf with ⟨rfl, rfl⟩ | ⟨b, hb, rfl, rfl, b1, b2, b3⟩
        · rw [if_pos rfl]
          rw [fl_cs_N]
          exact fullest_L h5 k5 k6 hd e n (i + 1) _ _ (by omega) (by omega) hnew
        · have hold : fb r d (some (10 + b)) (nI b) := Or.inr ⟨b, hb, rfl, rfl, b1, b2, b3⟩
          have hg := goes_spec h5 k5 hi12 hb hd hh.1 b1 hh.2 b2
          rw [if_neg (nI_m1 (by omega)), used_spec hi12 hd hh.2, fl_bd_mk, used_spec hb hd b2, fl_bd_mk, used_spec hi12 hd hh.2, fl_bd_mk, used_spec hb hd b2, fl_bd_mk, fl_ck_pos (fl_in_nI hi12 (by decide)), fl_ck_pos (fl_in_nI hb (by decide)), nI_clamp (by omega), nI_clamp (by omega)]
          rw [fl_cs_S]
          by_cases hgb : gb r (16 / 2 ^ d) i b
          · rw [hg.1 hgb, fl_bd_mk, if_neg one_ne]
            have hR : (if nI (uc r b (16 / 2 ^ d)) < nI (uc r i (16 / 2 ^ d)) then fR_fullest_L4 n (nI (i + 1)) (nI i) (nI d) r else if nI (uc r i (16 / 2 ^ d)) = nI (uc r b (16 / 2 ^ d)) then if r 4 b ≤ r 4 i then fR_fullest_L4 n (nI (i + 1)) (nI b) (nI d) r else fR_fullest_L4 n (nI (i + 1)) (nI i) (nI d) r else fR_fullest_L4 n (nI (i + 1)) (nI b) (nI d) r) = fR_fullest_L4 n (nI (i + 1)) (nI i) (nI d) r := by
              rcases hgb with q | ⟨q1, q2⟩
              · rw [if_pos (nI_lt q (by omega))]
              · rw [if_neg (nI_nlt (by omega) (by omega)), if_pos (by rw [q1]), if_neg (Int32.not_le.mpr q2)]
            rw [hR]
            exact fullest_L h5 k5 k6 hd e n (i + 1) _ _ (by omega) (by omega) hnew
          · rw [hg.2 hgb, fl_bd_mk, if_pos rfl]
            have hR : (if nI (uc r b (16 / 2 ^ d)) < nI (uc r i (16 / 2 ^ d)) then fR_fullest_L4 n (nI (i + 1)) (nI i) (nI d) r else if nI (uc r i (16 / 2 ^ d)) = nI (uc r b (16 / 2 ^ d)) then if r 4 b ≤ r 4 i then fR_fullest_L4 n (nI (i + 1)) (nI b) (nI d) r else fR_fullest_L4 n (nI (i + 1)) (nI i) (nI d) r else fR_fullest_L4 n (nI (i + 1)) (nI b) (nI d) r) = fR_fullest_L4 n (nI (i + 1)) (nI b) (nI d) r := by
              have q1 : ¬ uc r b (16 / 2 ^ d) < uc r i (16 / 2 ^ d) := fun q => hgb (Or.inl q)
              rw [if_neg (nI_nlt (by omega) (by omega))]
              by_cases q2 : uc r i (16 / 2 ^ d) = uc r b (16 / 2 ^ d)
              · rw [if_pos (by rw [q2])]
                by_cases q3 : r 4 b ≤ r 4 i
                · rw [if_pos q3]
                · exact absurd (Or.inr ⟨q2, Int32.not_le.mp q3⟩) hgb
              · rw [if_neg (fun q => q2 (nI_inj (by omega) (by omega) q))]
            rw [hR]
            exact fullest_L h5 k5 k6 hd e n (i + 1) _ _ (by omega) (by omega) hold
    · rw [if_neg hh, if_pos rfl, if_pos rfl]
      exact fullest_L h5 k5 k6 hd e n (i + 1) o x (by omega) (by omega) hf
theorem fullest_spec {c r : fl_G} (h5 : rI5 r) (k5 : kL5 c r) (k6 : kL6 c r) {d : Nat} (hd : d < 4) : ∃ o x, fb r d o x ∧ fS_fullestWithRoom (nI d) c = some (o, c) ∧ fR_fullest (nI d) r = some (x, r) := by
  obtain ⟨o, x, h1, h2, h3⟩ := fullest_L h5 k5 k6 hd 12 1000 0 none (-1) (by omega) (by omega) (Or.inl ⟨rfl, rfl⟩)
  exact ⟨o, x, h1, by rw [fS_fullestWithRoom, show (0 : Int32) = nI 0 from rfl, h2, fl_bd_mk], by rw [fR_fullest, show (0 : Int32) = nI 0 from rfl, h3, fl_bd_mk]⟩
/-! draws -/
theorem ush16 (x : Int32) : ∃ t, t < 65536 ∧ fl_ushr x 16 = nI t := by
  have h := pk_ushr x 16 16 (by decide)
  have h2 : x.toBitVec.toNat < 2 ^ 32 := x.toBitVec.isLt
  refine ⟨x.toBitVec.toNat / 2 ^ 16, by omega, ?_⟩
  apply i32_ext
  rw [nI_tn (by omega)]
  exact h
def nx (x : Int32) : Int32 := x * 1664525 + 1013904223
def dw (x : Int32) (n : Nat) : Nat := (fl_ushr (nx x) 16).toNatClampNeg % n
theorem dw_lt {x : Int32} {n : Nat} (h : 0 < n) : dw x n < n := Nat.mod_lt _ h
theorem rem_dw {x : Int32} {n : Nat} (h0 : 0 < n) (hn : n < 2 ^ 31) : fl_rem (fl_ushr (nx x) 16) (nI n) = nI (dw x n) := by
  obtain ⟨t, ht, e⟩ := ush16 (nx x)
  unfold dw
  rw [e, nI_clamp (by omega)]
  exact pk_rem (by omega) h0 hn
theorem draw_spec (r : fl_G) {n : Nat} (h0 : 0 < n) (hn : n < 2 ^ 31) : fR_draw (nI n) r = some (nI (dw (r 0 0) n), fl_up r 0 0 (nx (r 0 0))) := by
  rw [fR_draw, fl_ck_pos (nI_ne0 h0 hn), fl_up_self]
  exact congrArg some (congrArg (fun z => (z, fl_up r 0 0 (nx (r 0 0)))) (rem_dw h0 hn))
theorem below_spec (c : fl_G) {n : Nat} (h0 : 0 < n) (hn : n < 2 ^ 31) : fD_below (nI n) c = some (nI (dw (c 1 0) n), fl_up c 1 0 (nx (c 1 0))) := by
  rw [fD_below, if_neg (nI_nle h0 hn), fl_ck_pos (nI_ne0 h0 hn), fl_up_self]
  exact congrArg some (congrArg (fun z => (z, fl_up c 1 0 (nx (c 1 0)))) (rem_dw h0 hn))
/-- exchange of two places -/
def xc (f : Nat → Int32) (i j : Nat) : Nat → Int32 := fun x => if x = j then f i else if x = i then f j else f x
theorem xc_sg (f : Nat → Int32) {i j m : Nat} (hi : i < m) (hj : j < m) {x : Nat} (hx : x < m) : ∃ y, y < m ∧ xc f i j x = f y := by
  unfold xc
  by_cases h1 : x = j
  · exact ⟨i, hi, by rw [if_pos h1]⟩
  · by_cases h2 : x = i
    · exact ⟨j, hj, by rw [if_neg h1, if_pos h2]⟩
    · exact ⟨x, hx, by rw [if_neg h1, if_neg h2]⟩
theorem xc_inj {f : Nat → Int32} {i j m : Nat} (hi : i < m) (hj : j < m) (hf : ∀ x y, x < m → y < m → f x = f y → x = y) : ∀ x y, x < m → y < m → xc f i j x = xc f i j y → x = y := by
  intro x y hx hy h
  unfold xc at h
  by_cases a1 : x = j <;> by_cases b1 : y = j
  · omega
  · rw [if_pos a1, if_neg b1] at h
    by_cases b2 : y = i
    · rw [if_pos b2] at h; have := hf i j hi hj h; omega
    · rw [if_neg b2] at h; have := hf i y hi hy h; omega
  · rw [if_neg a1, if_pos b1] at h
    by_cases a2 : x = i
    · rw [if_pos a2] at h; have := hf j i hj hi h; omega
    · rw [if_neg a2] at h; have := hf x i hx hi h; omega
  · rw [if_neg a1, if_neg b1] at h
    by_cases a2 : x = i <;> by_cases b2 : y = i
    · omega
    · rw [if_pos a2, if_neg b2] at h; have := hf j y hj hy h; omega
    · rw [if_neg a2, if_pos b2] at h; have := hf x j hx hj h; omega
    · rw [if_neg a2, if_neg b2] at h; exact hf x y hx hy h
theorem exch_spec (c : fl_G) {q n i j : Nat} (hq : mc_kd q = 10) (hl : mc_ln q = n) (hn : n ≤ 1000) (hi : i < n) (hj : j < n) : ∃ c', fD_exchange q (nI i) (nI j) c = some ((), c') ∧ (∀ z, z ≠ q → c' z = c z) ∧ ∀ x, c' q x = xc (c q) i j x := by
  refine ⟨fl_up (fl_up c q i (c q j)) q j (c q i), ?_, fun z hz => by rw [fl_up_ne _ _ _ hz, fl_up_ne _ _ _ hz], fun x => ?_⟩
  · rw [fD_exchange, fl_ck_pos hq, hl, fl_ck_pos (fl_in_nI hi (by omega)), fl_ck_pos (fl_in_nI hj (by omega)), fl_ck_pos (fl_in_nI hi (by omega)), fl_ck_pos (fl_in_nI hj (by omega)), nI_clamp (by omega), nI_clamp (by omega)]
  · rw [fl_up_at]; simp only [true_and]; unfold xc
    by_cases e : x = j
    · rw [if_pos e, if_pos e]
    · rw [if_neg e, if_neg e, fl_up_at]; simp only [true_and]
theorem swap_spec (r : fl_G) {d i j : Nat} (hd : d < 4) (hi : i < 16) (hj : j < 16) : ∃ r', fR_swap (nI d) (nI i) (nI j) r = some ((), r') ∧ (∀ z, z ≠ 11 → r' z = r z) ∧ (∀ x, x < 16 → r' 11 (16 * d + x) = xc (fun y => r 11 (16 * d + y)) i j x) ∧ ∀ x, x < 16 * d ∨ 16 * d + 16 ≤ x → r' 11 x = r 11 x := by
  refine ⟨fl_up (fl_up r 11 (16 * d + i) (r 11 (16 * d + j))) 11 (16 * d + j) (r 11 (16 * d + i)), ?_, fun z hz => by rw [fl_up_ne _ _ _ hz, fl_up_ne _ _ _ hz], fun x hx => ?_, fun x hx => ?_⟩
  · rw [fR_swap, show (16 : Int32) = nI 16 from rfl, pk_mul, nI_add, nI_add, fl_ck_pos (fl_in_nI (by omega) (by decide)), fl_ck_pos (fl_in_nI (by omega) (by decide)), fl_ck_pos (fl_in_nI (by omega) (by decide)), fl_ck_pos (fl_in_nI (by omega) (by decide)), nI_clamp (by omega), nI_clamp (by omega)]
  · rw [fl_up_at]; simp only [true_and]; unfold xc
    by_cases e : x = j
    · rw [if_pos (by omega), if_pos e]
    · rw [if_neg (by omega), if_neg e, fl_up_at]; simp only [true_and]
      by_cases e2 : x = i
      · rw [if_pos (by omega), if_pos e2]
      · rw [if_neg (by omega), if_neg e2]
  · rw [fl_up_at, if_neg (by omega), fl_up_at, if_neg (by omega)]
