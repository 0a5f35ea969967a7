/-! pure rows -/
theorem fl_bd_mk {α β : Type} (r : α) (g : fl_G) (k : α → fl_G → Option β) : fl_bd (some (r, g)) k = k r g := rfl
theorem fl_bd_of {α β : Type} {x : Option (α × fl_G)} {r : α} {g : fl_G} {k : α → fl_G → Option β} (h : x = some (r, g)) : fl_bd x k = k r g := by rw [h]; rfl
theorem fl_up_q (g : fl_G) (q k : Nat) (v : Int32) : fl_up g q k v q = upd (g q) k v := by simp [fl_up, fl_st]
theorem fl_up_ne (g : fl_G) {q a : Nat} (k : Nat) (v : Int32) (h : a ≠ q) : fl_up g q k v a = g a := by simp [fl_up, fl_st, h]
theorem fl_up_at (g : fl_G) (q k a b : Nat) (v : Int32) : fl_up g q k v a b = if a = q ∧ b = k then v else g a b := by
  by_cases h : a = q
  · subst h
    rw [fl_up_q]
    by_cases h2 : b = k
    · subst h2; simp [upd]
    · simp [upd, h2]
  · rw [fl_up_ne g k v h, if_neg (fun q => h q.1)]
theorem fl_up_self (g : fl_G) (q k : Nat) (v : Int32) : fl_up g q k v q k = v := by rw [fl_up_at]; simp
theorem fl_up_k (g : fl_G) {q k b : Nat} (v : Int32) (h : b ≠ k) : fl_up g q k v q b = g q b := by rw [fl_up_at]; simp [h]
theorem fl_in_nI {i n : Nat} (h : i < n) (hn : n < 2 ^ 31) : fl_in (nI i) n := ⟨nI_pos' (by omega), by rw [nI_clamp (by omega)]; exact h⟩
theorem nI_m1 {n : Nat} (h : n < 2 ^ 31) : nI n ≠ -1 := by
  intro e
  have h1 := nI_toInt h
  rw [e] at h1
  have h2 : (-1 : Int32).toInt = -1 := by decide
  omega
theorem nI_ne {a b : Nat} (ha : a < 2 ^ 31) (hb : b < 2 ^ 31) (h : a ≠ b) : nI a ≠ nI b := fun e => h ((nI_eq ha hb).mp e)
theorem nI_lit3 : (3 : Int32) = nI 3 := rfl
theorem nI_lit4 : (4 : Int32) = nI 4 := rfl
theorem nI_lit12 : (12 : Int32) = nI 12 := rfl
theorem nI_lit24 : (24 : Int32) = nI 24 := rfl
theorem nI_lit16 : (16 : Int32) = nI 16 := rfl
theorem nI_lit384 : (384 : Int32) = nI 384 := rfl
/-- how many of the d from i on have P -/
def cr (P : Nat → Bool) : Nat → Nat → Nat
  | _, 0 => 0
  | i, d + 1 => (if P i then 1 else 0) + cr P (i + 1) d
theorem cr_le (P : Nat → Bool) : ∀ (d i : Nat), cr P i d ≤ d
  | 0, _ => Nat.le_refl _
  | d + 1, i => by
    have h := cr_le P d (i + 1)
    unfold cr
    split <;> omega
theorem cr_congr {P Q : Nat → Bool} : ∀ (d i : Nat), (∀ j, i ≤ j → j < i + d → P j = Q j) → cr P i d = cr Q i d
  | 0, _, _ => rfl
  | d + 1, i, h => by
    unfold cr
    rw [h i (Nat.le_refl _) (by omega), cr_congr d (i + 1) (fun j h1 h2 => h j (by omega) (by omega))]
theorem cr_zero {P : Nat → Bool} : ∀ (d i : Nat), (∀ j, i ≤ j → j < i + d → P j = false) → cr P i d = 0
  | 0, _, _ => rfl
  | d + 1, i, h => by
    unfold cr
    rw [h i (Nat.le_refl _) (by omega), cr_zero d (i + 1) (fun j h1 h2 => h j (by omega) (by omega))]
    rfl
theorem cr_pos {P : Nat → Bool} : ∀ (d i j : Nat), i ≤ j → j < i + d → P j = true → 0 < cr P i d
  | 0, i, j, h1, h2, _ => by omega
  | d + 1, i, j, h1, h2, h => by
    unfold cr
    by_cases e : i = j
    · subst e; rw [if_pos h]; omega
    · have := cr_pos d (i + 1) j (by omega) (by omega) h
      omega
theorem cr_eq0 {P : Nat → Bool} {d i : Nat} (h : cr P i d = 0) : ∀ j, i ≤ j → j < i + d → P j = false := by
  intro j h1 h2
  cases e : P j with
  | false => rfl
  | true => have := cr_pos d i j h1 h2 e; omega
theorem cr_full {P : Nat → Bool} : ∀ (d i : Nat), (∀ j, i ≤ j → j < i + d → P j = true) → cr P i d = d
  | 0, _, _ => rfl
  | d + 1, i, h => by
    unfold cr
    rw [h i (Nat.le_refl _) (by omega), cr_full d (i + 1) (fun j h1 h2 => h j (by omega) (by omega))]
    simp; omega
theorem cr_lt {P : Nat → Bool} : ∀ (d i j : Nat), i ≤ j → j < i + d → P j = false → cr P i d < d
  | 0, i, j, h1, h2, _ => by omega
  | d + 1, i, j, h1, h2, h => by
    unfold cr
    by_cases e : i = j
    · subst e
      have := cr_le P d (i + 1)
      rw [if_neg (by rw [h]; decide)]
      omega
    · have := cr_lt d (i + 1) j (by omega) (by omega) h
      split <;> omega
/-- one point more -/
theorem cr_more {P Q : Nat → Bool} : ∀ (d i j : Nat), i ≤ j → j < i + d → P j = false → Q j = true → (∀ x, i ≤ x → x < i + d → x ≠ j → P x = Q x) → cr Q i d = cr P i d + 1
  | 0, i, j, h1, h2, _, _, _ => by omega
  | d + 1, i, j, h1, h2, hp, hq, h => by
    unfold cr
    by_cases e : i = j
    · subst e
      rw [hp, hq, cr_congr (P := Q) (Q := P) d (i + 1) (fun x a b => (h x (by omega) (by omega) (by omega)).symm)]
      simp; omega
    · rw [h i (Nat.le_refl _) (by omega) e, cr_more d (i + 1) j (by omega) (by omega) hp hq (fun x a b c => h x (by omega) (by omega) c)]
      omega
theorem cr_s (P : Nat → Bool) (i d : Nat) : cr P i (d + 1) = (if P i then 1 else 0) + cr P (i + 1) d := rfl
theorem cr_split (P : Nat → Bool) : ∀ (d e i : Nat), cr P i (d + e) = cr P i d + cr P (i + d) e
  | 0, e, i => by simp [cr]
  | d + 1, e, i => by
    rw [show d + 1 + e = (d + e) + 1 by omega, cr_s, cr_s, cr_split P d e (i + 1), show i + 1 + d = i + (d + 1) by omega]
    omega
/-! bits -/
theorem nI_bv {n : Nat} : (nI n).toBitVec = BitVec.ofNat 32 n := rfl
theorem i32_ext {a b : Int32} (h : a.toBitVec.toNat = b.toBitVec.toNat) : a = b := Int32.toBitVec_inj.mp (BitVec.eq_of_toNat_eq h)
theorem nI_tn {n : Nat} (h : n < 2 ^ 32) : (nI n).toBitVec.toNat = n := pk_tn h
theorem or_lt16 {a b : Nat} (ha : a < 2 ^ 16) (hb : b < 2 ^ 16) : a ||| b < 2 ^ 16 := Nat.or_lt_two_pow ha hb
theorem nI_or {a b : Nat} (ha : a < 2 ^ 16) (hb : b < 2 ^ 16) : nI a ||| nI b = nI (a ||| b) := by
  apply i32_ext
  rw [Int32.toBitVec_or, BitVec.toNat_or, nI_tn (by omega), nI_tn (by omega), nI_tn (Nat.lt_trans (or_lt16 ha hb) (by decide))]
theorem nI_andW {a b : Nat} (ha : a < 2 ^ 32) (hb : b < 2 ^ 32) : nI a &&& nI b = nI (a &&& b) := by
  apply i32_ext
  rw [Int32.toBitVec_and, BitVec.toNat_and, nI_tn ha, nI_tn hb, nI_tn (Nat.lt_of_le_of_lt Nat.and_le_left (by omega))]
theorem nI_and {a b : Nat} (ha : a < 2 ^ 16) (hb : b < 2 ^ 32) : nI a &&& nI b = nI (a &&& b) := nI_andW (by omega) hb
theorem i1_shl : ∀ k, k < 16 → (1 : Int32) <<< (nI k &&& 31) = nI (2 ^ k) := by decide
theorem i1_not : ∀ k, k < 16 → (nI (2 ^ k) ^^^ (-1 : Int32)) = nI (2 ^ 32 - 1 - 2 ^ k) := by decide
theorem pow16 {k : Nat} (h : k < 16) : 2 ^ k < 2 ^ 16 := Nat.pow_lt_pow_right (by decide) h
theorem nI_set {U k : Nat} (hU : U < 2 ^ 16) (hk : k < 16) : nI U ||| ((1 : Int32) <<< (nI k &&& 31)) = nI (U ||| 2 ^ k) := by
  rw [i1_shl k hk, nI_or hU (pow16 hk)]
theorem tb_set {U k j : Nat} : (U ||| 2 ^ k).testBit j = (U.testBit j || decide (j = k)) := by
  rw [Nat.testBit_or, Nat.testBit_two_pow]
  by_cases h : j = k
  · subst h; simp
  · simp [h, Ne.symm h]
theorem nI_clr {U k : Nat} (hU : U < 2 ^ 16) (hk : k < 16) : nI U &&& (((1 : Int32) <<< (nI k &&& 31)) ^^^ (-1)) = nI (U &&& (2 ^ 32 - 1 - 2 ^ k)) := by
  rw [i1_shl k hk, i1_not k hk, nI_and hU (by have := Nat.two_pow_pos k; omega)]
theorem tb_clr {U k j : Nat} (hk : k < 16) (hj : j < 16) : (U &&& (2 ^ 32 - 1 - 2 ^ k)).testBit j = (U.testBit j && !decide (j = k)) := by
  rw [Nat.testBit_and]
  congr 1
  have h : ∀ k, k < 16 → ∀ j, j < 16 → (2 ^ 32 - 1 - 2 ^ k).testBit j = !decide (j = k) := by decide
  exact h k hk j hj
theorem nI_tst {U k : Nat} (hU : U < 2 ^ 16) (hk : k < 16) : (nI U &&& ((1 : Int32) <<< (nI k &&& 31)) = 0) ↔ U.testBit k = false := by
  rw [i1_shl k hk, nI_and hU (Nat.lt_trans (pow16 hk) (by decide)), show (0 : Int32) = nI 0 from rfl, nI_eq (Nat.lt_of_le_of_lt Nat.and_le_left (by omega)) (by omega)]
  constructor
  · intro h
    have h1 : (U &&& 2 ^ k).testBit k = (0 : Nat).testBit k := by rw [h]
    rw [Nat.testBit_and, Nat.testBit_two_pow_self, Nat.zero_testBit, Bool.and_true] at h1
    exact h1
  · intro h
    apply Nat.eq_of_testBit_eq
    intro i
    rw [Nat.testBit_and, Nat.testBit_two_pow, Nat.zero_testBit]
    by_cases e : k = i
    · subst e; rw [h]; rfl
    · simp [e]
theorem nI_and0 {U V : Nat} (hU : U < 2 ^ 16) (hV : V < 2 ^ 16) : (nI U &&& nI V = 0) ↔ ∀ k, k < 16 → U.testBit k = false ∨ V.testBit k = false := by
  rw [nI_and hU (by omega), show (0 : Int32) = nI 0 from rfl, nI_eq (Nat.lt_of_le_of_lt Nat.and_le_left (by omega)) (by omega)]
  constructor
  · intro h k hk
    have h1 : (U &&& V).testBit k = (0 : Nat).testBit k := by rw [h]
    rw [Nat.testBit_and, Nat.zero_testBit, Bool.and_eq_false_iff] at h1
    exact h1
  · intro h
    apply Nat.eq_of_testBit_eq
    intro i
    rw [Nat.testBit_and, Nat.zero_testBit]
    by_cases hi : i < 16
    · rcases h i hi with e | e <;> rw [e] <;> simp
    · rw [Nat.testBit_lt_two_pow (Nat.lt_of_lt_of_le hU (Nat.pow_le_pow_right (by decide) (by omega)))]
      rfl
/-! the count of the used cells -/
def bcN (n : Nat) : Nat :=
  let a := n - (n / 2 &&& 1431655765)
  let b := (a &&& 858993459) + (a / 4 &&& 858993459)
  let c := (b + b / 16) &&& 252645135
  let d := c + c / 256
  let e := d + d / 65536
  e &&& 63
theorem land_split {k x y M m : Nat} (hy : y < 2 ^ k) (hm : m < 2 ^ k) : (2 ^ k * x + y) &&& (2 ^ k * M + m) = 2 ^ k * (x &&& M) + (y &&& m) := by
  apply Nat.eq_of_testBit_eq
  intro i
  rw [Nat.testBit_and, Nat.testBit_two_pow_mul_add _ hy, Nat.testBit_two_pow_mul_add _ hm, Nat.testBit_two_pow_mul_add _ (Nat.lt_of_le_of_lt Nat.and_le_left hy)]
  split <;> rw [Nat.testBit_and]
def b_1 (x : Nat) : Nat := x - (x / 2 &&& 85)
def b_2 (x : Nat) : Nat := (b_1 x &&& 51) + (b_1 x / 4 &&& 51)
def b_3 (x : Nat) : Nat := (b_2 x + b_2 x / 16) &&& 15
theorem b_f1 : ∀ x, x < 256 → (x / 2 &&& 85) ≤ x ∧ (x / 2 &&& 5592405) = (x / 2 &&& 85) ∧ b_1 x < 256 ∧ (b_1 x &&& 3355443) = (b_1 x &&& 51) ∧ (b_1 x / 4 &&& 3355443) = (b_1 x / 4 &&& 51) ∧ b_2 x ≤ 68 ∧ ((b_2 x + b_2 x / 16) &&& 986895) = b_3 x ∧ b_3 x = cr x.testBit 0 8 ∧ b_2 x % 16 ≤ 4 := by decide +kernel
theorem b_f2 : ∀ t, t < 2 → ∀ x, x < 256 → ((128 * t + x / 2) &&& 85) = (x / 2 &&& 85) := by decide +kernel
theorem b_f3 : ∀ t, t < 4 → ∀ x, x < 256 → ((64 * t + b_1 x / 4) &&& 51) = (b_1 x / 4 &&& 51) := by decide +kernel
theorem cr_shift (P : Nat → Bool) (s : Nat) : ∀ (d i : Nat), cr P (i + s) d = cr (fun j => P (j + s)) i d
  | 0, _ => rfl
  | d + 1, i => by
    rw [cr_s, cr_s, show i + s + 1 = (i + 1) + s by omega, cr_shift P s d (i + 1)]
theorem bcN_eq {U : Nat} (hU : U < 2 ^ 16) : bcN U = cr U.testBit 0 16 := by
  obtain ⟨h, l, hh, hl, rfl⟩ : ∃ h l, h < 256 ∧ l < 256 ∧ U = 256 * h + l := ⟨U / 256, U % 256, by omega, by omega, by omega⟩
  obtain ⟨p1, p2, p3, p4, p5, p6, p7, p8, p9⟩ := b_f1 h hh
  obtain ⟨q1, q2, q3, q4, q5, q6, q7, q8, q9⟩ := b_f1 l hl
  have L := fun (x y M m : Nat) (hy : y < 256) (hm : m < 256) => land_split (k := 8) (x := x) (y := y) (M := M) (m := m) hy hm
  have e1 : (256 * h + l) / 2 &&& 1431655765 = 256 * (h / 2 &&& 85) + (l / 2 &&& 85) := by
    have h1 := L (h / 2) (128 * (h % 2) + l / 2) 5592405 85 (by omega) (by omega)
    rw [show 2 ^ 8 * (h / 2) + (128 * (h % 2) + l / 2) = (256 * h + l) / 2 by omega, show 2 ^ 8 * 5592405 + 85 = 1431655765 from rfl, b_f2 (h % 2) (by omega) l hl, p2] at h1
    exact h1
  have e2 : 256 * h + l - ((256 * h + l) / 2 &&& 1431655765) = 256 * b_1 h + b_1 l := by
    rw [e1]; unfold b_1; omega
  have e3 : (256 * b_1 h + b_1 l) &&& 858993459 = 256 * (b_1 h &&& 51) + (b_1 l &&& 51) := by
    have h1 := L (b_1 h) (b_1 l) 3355443 51 q3 (by omega)
    rw [show 2 ^ 8 * 3355443 + 51 = 858993459 from rfl, p4] at h1
    exact h1
  have e4 : (256 * b_1 h + b_1 l) / 4 &&& 858993459 = 256 * (b_1 h / 4 &&& 51) + (b_1 l / 4 &&& 51) := by
    have h1 := L (b_1 h / 4) (64 * (b_1 h % 4) + b_1 l / 4) 3355443 51 (by omega) (by omega)
    rw [show 2 ^ 8 * (b_1 h / 4) + (64 * (b_1 h % 4) + b_1 l / 4) = (256 * b_1 h + b_1 l) / 4 by omega, show 2 ^ 8 * 3355443 + 51 = 858993459 from rfl, b_f3 (b_1 h % 4) (by omega) l hl, p5] at h1
    exact h1
  have e5 : (256 * b_1 h + b_1 l &&& 858993459) + ((256 * b_1 h + b_1 l) / 4 &&& 858993459) = 256 * b_2 h + b_2 l := by
    rw [e3, e4]; unfold b_2; omega
  have e6 : (256 * b_2 h + b_2 l) + (256 * b_2 h + b_2 l) / 16 &&& 252645135 = 256 * b_3 h + b_3 l := by
    have h1 := L (b_2 h + b_2 h / 16) (b_2 l + b_2 l / 16 + 16 * (b_2 h % 16)) 986895 15 (by omega) (by omega)
    rw [show 2 ^ 8 * (b_2 h + b_2 h / 16) + (b_2 l + b_2 l / 16 + 16 * (b_2 h % 16)) = (256 * b_2 h + b_2 l) + (256 * b_2 h + b_2 l) / 16 by omega, show 2 ^ 8 * 986895 + 15 = 252645135 from rfl, p7] at h1
    rw [h1]
    have h2 : (b_2 l + b_2 l / 16 + 16 * (b_2 h % 16)) &&& 15 = b_3 l := by
      unfold b_3
      rw [show (15 : Nat) = 2 ^ 4 - 1 from rfl, Nat.and_two_pow_sub_one_eq_mod, Nat.and_two_pow_sub_one_eq_mod]
      omega
    rw [h2]
  have c1 : cr h.testBit 0 8 ≤ 8 := cr_le _ _ _
  have c2 : cr l.testBit 0 8 ≤ 8 := cr_le _ _ _
  have e7 : cr (256 * h + l).testBit 0 16 = cr l.testBit 0 8 + cr h.testBit 0 8 := by
    rw [show (16 : Nat) = 8 + 8 from rfl, cr_split, cr_shift (256 * h + l).testBit 8 8 0]
    congr 1
    · apply cr_congr
      intro j _ hj
      have := Nat.testBit_two_pow_mul_add (i := 8) h (b_lt := (show l < 2 ^ 8 from hl)) j
      rw [if_pos (by omega)] at this
      exact this
    · apply cr_congr
      intro j _ hj
      have := Nat.testBit_two_pow_mul_add (i := 8) h (b_lt := (show l < 2 ^ 8 from hl)) (j + 8)
      rw [if_neg (by omega), Nat.add_sub_cancel] at this
      exact this
  rw [e7]
  unfold bcN
  simp only []
  rw [e2, e5, e6, p8, q8, show (63 : Nat) = 2 ^ 6 - 1 from rfl, Nat.and_two_pow_sub_one_eq_mod]
  clear e1 e2 e3 e4 e5 e6 e7 p1 p2 p3 p4 p5 p6 p7 p8 p9 q1 q2 q3 q4 q5 q6 q7 q8 q9 L
  generalize cr h.testBit 0 8 = u at *
  generalize cr l.testBit 0 8 = w at *
  have d1 : (256 * u + w) / 256 = u := by omega
  rw [d1]
  have d2 : (256 * u + w + u) / 65536 = 0 := by omega
  rw [d2]
  omega
theorem us_N {n k : Nat} (hn : n < 2 ^ 32) (hk : k < 32) (e : ((Int32.toUInt32 (nI k) &&& Int32.toUInt32 31).toBitVec % 32).toNat = k) : fl_ushr (nI n) (nI k) = nI (n / 2 ^ k) := pk_ushrN hn (nI k) k e
theorem bc_spec {U : Nat} (h : U < 2 ^ 16) (g : fl_G) : fJ_bitCount (nI U) g = some (nI (cr U.testBit 0 16), g) := by
  rw [← bcN_eq h]
  unfold fJ_bitCount bcN
  simp only []
  have l1 : U / 2 &&& 1431655765 ≤ U / 2 := Nat.and_le_left
  have e1 : nI U - (fl_ushr (nI U) 1 &&& 1431655765) = nI (U - (U / 2 &&& 1431655765)) := by
    rw [show (1 : Int32) = nI 1 from rfl, us_N (by omega) (by omega) (by decide), show (1431655765 : Int32) = nI 1431655765 from rfl, Nat.pow_one, nI_andW (by omega) (by omega), pk_sub (by omega)]
  rw [e1]
  generalize hA : U - (U / 2 &&& 1431655765) = A
  have hA2 : A < 2 ^ 16 := by omega
  have l2 : A &&& 858993459 ≤ A := Nat.and_le_left
  have l3 : A / 4 &&& 858993459 ≤ A / 4 := Nat.and_le_left
  have e2 : (nI A &&& 858993459) + (fl_ushr (nI A) 2 &&& 858993459) = nI ((A &&& 858993459) + (A / 4 &&& 858993459)) := by
    rw [show (2 : Int32) = nI 2 from rfl, us_N (by omega) (by omega) (by decide), show (858993459 : Int32) = nI 858993459 from rfl, nI_andW (by omega) (by omega), nI_andW (by omega) (by omega), nI_add]
  rw [e2]
  generalize hB : (A &&& 858993459) + (A / 4 &&& 858993459) = B
  have hB2 : B < 2 ^ 17 := by omega
  have e3 : (nI B + fl_ushr (nI B) 4) &&& 252645135 = nI ((B + B / 16) &&& 252645135) := by
    rw [show (4 : Int32) = nI 4 from rfl, us_N (by omega) (by omega) (by decide), show (252645135 : Int32) = nI 252645135 from rfl, nI_add, nI_andW (by omega) (by omega)]
  rw [e3]
  have l4 : (B + B / 16) &&& 252645135 ≤ B + B / 16 := Nat.and_le_left
  generalize hC : (B + B / 16) &&& 252645135 = C
  have hC2 : C < 2 ^ 18 := by omega
  have e4 : nI C + fl_ushr (nI C) 8 = nI (C + C / 256) := by
    rw [show (8 : Int32) = nI 8 from rfl, us_N (by omega) (by omega) (by decide), nI_add]
  rw [e4]
  generalize hD : C + C / 256 = D
  have hD2 : D < 2 ^ 19 := by omega
  have e5 : (nI D + fl_ushr (nI D) 16) &&& 63 = nI ((D + D / 65536) &&& 63) := by
    rw [show (16 : Int32) = nI 16 from rfl, us_N (by omega) (by omega) (by decide), show (63 : Int32) = nI 63 from rfl, nI_add, nI_andW (by omega) (by omega)]
  rw [e5]
