/-! who may be meshed -/
def mb (r : fl_G) (d p : Nat) : Prop := r 1 p = 1 ∧ r 5 p = nI d ∧ r 9 d ≠ nI p ∧ 0 < uc r p (16 / 2 ^ d) ∧ uc r p (16 / 2 ^ d) < 16 / 2 ^ d
def gI (c r : fl_G) : Prop := rI5 r ∧ rI9 r ∧ kL5 c r ∧ kL6 c r ∧ kL7 c r
theorem gI_of {c r c' r' : fl_G} (h : gI c r) (hc : ∀ q, q ≠ 0 → q ≠ 1 → q ≠ 31 → c' q = c q) (hr : ∀ q, q ≠ 0 → q ≠ 12 → q ≠ 13 → r' q = r q) : gI c' r' := by
  obtain ⟨i5, i9, k5, k6, k7⟩ := h
  have e1 := hr 1 (by decide) (by decide) (by decide)
  have e3 := hr 3 (by decide) (by decide) (by decide)
  have e4 := hr 4 (by decide) (by decide) (by decide)
  have e5 := hr 5 (by decide) (by decide) (by decide)
  have e6 := hr 6 (by decide) (by decide) (by decide)
  have e7 := hr 7 (by decide) (by decide) (by decide)
  have e9 := hr 9 (by decide) (by decide) (by decide)
  have e10 := hr 10 (by decide) (by decide) (by decide)
  have e11 := hr 11 (by decide) (by decide) (by decide)
  refine ⟨?_, ?_, ?_, ?_, ?_⟩
  · simp only [rI5, e1, e3, e5, e7]; exact i5
  · simp only [rI9, uc, e1, e5, e7, e9, e10, e11]; exact i9
  · intro p hp hu
    rw [hc (10 + p) (by omega) (by omega) (by omega), e4, e5, e6, e7]
    rw [e1] at hu
    exact k5 p hp hu
  · intro p hp hu
    rw [hc (10 + p) (by omega) (by omega) (by omega)]
    rw [e1] at hu
    exact k6 p hp hu
  · intro d hd
    rw [hc (23 + 2 * d) (by omega) (by omega) (by omega), hc (24 + 2 * d) (by omega) (by omega) (by omega), e9, e10, e11]
    exact k7 d hd
theorem mb_of {r r' : fl_G} (hr : ∀ q, q ≠ 0 → q ≠ 12 → q ≠ 13 → r' q = r q) (d p : Nat) : mb r' d p ↔ mb r d p := by
  unfold mb uc
  rw [hr 1 (by decide) (by decide) (by decide), hr 5 (by decide) (by decide) (by decide), hr 9 (by decide) (by decide) (by decide), hr 7 (by decide) (by decide) (by decide)]
theorem held_iff {c r : fl_G} (h : gI c r) {d p : Nat} (hd : d < 4) (hp : p < 12) : (fl_rf (c (23 + 2 * d) 0) = some (10 + p) ↔ r 9 d = nI p) ∧ fl_ob 32 (fl_rf (c (23 + 2 * d) 0)) = true := by
  obtain ⟨-, i9, -, -, k7⟩ := h
  obtain ⟨-, y2, y3, -⟩ := k7 d hd
  rcases i9 d hd with ⟨y, -⟩ | ⟨q, n, y1, y, -⟩
  · rw [y2 y, rf_m1, y]
    exact ⟨⟨fun w => (by cases w), fun w => absurd w.symm (nI_m1 (by omega))⟩, rfl⟩
  · rw [y3 q y1 y, rf_nI (by omega), y]
    refine ⟨⟨fun w => ?_, fun w => ?_⟩, by simp [fl_ob]; omega⟩
    · have := Option.some.inj w
      rw [show q = p by omega]
    · rw [nI_inj (by omega) (by omega) w]
theorem isEmpty_spec {c r : fl_G} (h : gI c r) {p d : Nat} (hp : p < 12) (hd : d < 4) (hu : r 1 p = 1) (e5 : r 5 p = nI d) : fM_isEmpty (10 + p) c = some (if uc r p (16 / 2 ^ d) = 0 then 1 else 0, c) := by
  obtain ⟨i5, -, k5, -, -⟩ := h
  obtain ⟨-, -, -, U, hU, eU, hb⟩ := k5 p hp hu
  have hE : nI U = 0 ↔ uc r p (16 / 2 ^ d) = 0 := by
    rw [nI_eq0 (by omega), ← uc_16 i5 hp hd hu e5]
    constructor
    · intro w
      refine cr_zero _ _ (fun j _ hj => ?_)
      have := hb j (by omega)
      rw [w, Nat.zero_testBit] at this
      exact this.symm
    · intro w
      apply Nat.eq_of_testBit_eq
      intro j
      rw [Nat.zero_testBit]
      by_cases hj : j < 16
      · rw [hb j hj]; exact cr_eq0 w j (by omega) (by omega)
      · exact Nat.testBit_lt_two_pow (Nat.lt_of_lt_of_le hU (Nat.pow_le_pow_right (by decide) (by omega)))
  rw [fM_isEmpty, fl_ck_pos (mc_kdM hp), eU]
  by_cases w : uc r p (16 / 2 ^ d) = 0
  · rw [if_pos (hE.mpr w), if_pos w]
  · rw [if_neg (fun y => w (hE.mp y)), if_neg w]
theorem meshable_yes {c r : fl_G} (h : gI c r) {p d : Nat} (hp : p < 12) (hd : d < 4) (hm : mb r d p) : fS_isMeshable (10 + p) (nI d) c = some (1, c) := by
  obtain ⟨hu, e5, hn, h0, hl⟩ := hm
  have hh := held_iff h hd hp
  rw [fS_isMeshable, fl_ck_pos (mc_kdM hp), isOf_spec h.2.2.1 h.2.2.2.1 hp hd, fl_bd_mk, if_pos (show r 1 p = 1 ∧ r 5 p = nI d from ⟨hu, e5⟩), if_neg one_ne, fl_ck_pos (fl_in_nI hd (by decide)), nI_clamp (by omega), fl_lt_mk, fl_ck_pos hh.2, fl_ck_pos (show fl_ob 32 (some (10 + p)) = true by simp [fl_ob]; omega), if_neg (fun w => hn (hh.1.mp w)), isEmpty_spec h hp hd hu e5, fl_bd_mk, if_neg (show ¬ uc r p (16 / 2 ^ d) = 0 by omega), if_pos rfl, isFull_spec h.1 h.2.2.1 hp hd hu e5, fl_bd_mk, if_neg (show ¬ uc r p (16 / 2 ^ d) = 16 / 2 ^ d by omega), if_pos rfl]
theorem meshable_no {c r : fl_G} (h : gI c r) {p d : Nat} (hp : p < 12) (hd : d < 4) (hm : ¬ mb r d p) : fS_isMeshable (10 + p) (nI d) c = some (0, c) := by
  have hh := held_iff h hd hp
  rw [fS_isMeshable, fl_ck_pos (mc_kdM hp), isOf_spec h.2.2.1 h.2.2.2.1 hp hd, fl_bd_mk]
  by_cases w : r 1 p = 1 ∧ r 5 p = nI d
  · rw [if_pos w, if_neg one_ne, fl_ck_pos (fl_in_nI hd (by decide)), nI_clamp (by omega), fl_lt_mk, fl_ck_pos hh.2, fl_ck_pos (show fl_ob 32 (some (10 + p)) = true by simp [fl_ob]; omega)]
    by_cases w2 : r 9 d = nI p
    · rw [if_pos (hh.1.mpr w2)]
    · rw [if_neg (fun y => w2 (hh.1.mp y)), isEmpty_spec h hp hd w.1 w.2, fl_bd_mk]
      by_cases w3 : uc r p (16 / 2 ^ d) = 0
      · rw [if_pos w3, if_neg one_ne]
      · rw [if_neg w3, if_pos rfl, isFull_spec h.1 h.2.2.1 hp hd w.1 w.2, fl_bd_mk]
        have := uc_le r p (16 / 2 ^ d)
        by_cases w4 : uc r p (16 / 2 ^ d) = 16 / 2 ^ d
        · rw [if_pos w4, if_neg one_ne]
        · exact absurd ⟨w.1, w.2, w2, by omega, by omega⟩ hm
  · rw [if_neg w, if_pos rfl]
/-! an entry is put among the entries -/
theorem ins_L {p m d : Nat} (hp : p < 12) (hm : m < 12) : ∀ (j n : Nat) (c r : fl_G), j < n → j ≤ m → (∀ i, i < j → c 31 i = r 12 i ∧ ∃ q, q < 12 ∧ r 12 i = nI q ∧ c (10 + q) 1 = r 4 q) →
    ∃ t c' r', t ≤ j ∧ fS_insertByNumber_L13 n (nI j) (r 4 p) (nI p) (nI m) c = some (nI t, c') ∧ fR_candidates_L52 n (nI j) (nI p) (nI m) (nI d) r = some (nI t, r') ∧ (∀ q, q ≠ 31 → c' q = c q) ∧ (∀ q, q ≠ 12 → r' q = r q) ∧ (∀ x, c' 31 x = if t < x ∧ x ≤ j then c 31 (x - 1) else c 31 x) ∧ (∀ x, r' 12 x = if t < x ∧ x ≤ j then r 12 (x - 1) else r 12 x)
  | 0, n + 1, c, r, hn, hj, hE => by
    refine ⟨0, c, r, Nat.le_refl _, ?_, ?_, fun _ _ => rfl, fun _ _ => rfl, fun x => by rw [if_neg (by omega)], fun x => by rw [if_neg (by omega)]⟩
    · show fS_insertByNumber_B13 _ _ _ _ _ _ = _
      rw [fS_insertByNumber_B13, if_pos (show nI 0 ≤ 0 by decide)]
    · show fR_candidates_B52 _ _ _ _ _ _ = _
      rw [fR_candidates_B52, if_pos (show nI 0 ≤ 0 by decide)]
  | j + 1, n + 1, c, r, hn, hj, hE => by
    obtain ⟨e1, q, hq, e2, e3⟩ := hE j (by omega)
    have sC : fS_insertByNumber_L13 (n + 1) (nI (j + 1)) (r 4 p) (nI p) (nI m) c = if r 4 q ≤ r 4 p then some (nI (j + 1), c) else fS_insertByNumber_L13 n (nI j) (r 4 p) (nI p) (nI m) (fl_up c 31 (j + 1) (nI q)) := by
      show fS_insertByNumber_B13 _ _ _ _ _ _ = _
      rw [fS_insertByNumber_B13, if_neg (nI_nle (by omega) (by omega)), dec1, pk_m1]
      simp only [nI_clamp (show j < 2 ^ 31 by omega), nI_clamp (show j + 1 < 2 ^ 31 by omega), e1, e2, nI_clamp (show q < 2 ^ 31 by omega), e3, fl_ck_pos (fl_in_nI (show j < 12 by omega) (show 12 < 2 ^ 31 by decide)), fl_ck_pos (fl_in_nI (show j + 1 < 12 by omega) (show 12 < 2 ^ 31 by decide)), fl_ck_pos (fl_in_nI hq (show 12 < 2 ^ 31 by decide))]
    have sR : fR_candidates_L52 (n + 1) (nI (j + 1)) (nI p) (nI m) (nI d) r = if r 4 q ≤ r 4 p then some (nI (j + 1), r) else fR_candidates_L52 n (nI j) (nI p) (nI m) (nI d) (fl_up r 12 (j + 1) (nI q)) := by
      show fR_candidates_B52 _ _ _ _ _ _ = _
      rw [fR_candidates_B52, if_neg (nI_nle (by omega) (by omega)), dec1, pk_m1]
      simp only [nI_clamp (show j < 2 ^ 31 by omega), nI_clamp (show j + 1 < 2 ^ 31 by omega), e2, nI_clamp (show q < 2 ^ 31 by omega), nI_clamp (show p < 2 ^ 31 by omega), fl_ck_pos (fl_in_nI (show j < 12 by omega) (show 12 < 2 ^ 31 by decide)), fl_ck_pos (fl_in_nI (show j + 1 < 12 by omega) (show 12 < 2 ^ 31 by decide)), fl_ck_pos (fl_in_nI hq (show 12 < 2 ^ 31 by decide)), fl_ck_pos (fl_in_nI hp (show 12 < 2 ^ 31 by decide))]
    rw [sC, sR]
    by_cases w : r 4 q ≤ r 4 p
    · rw [if_pos w, if_pos w]
      exact ⟨j + 1, c, r, Nat.le_refl _, rfl, rfl, fun _ _ => rfl, fun _ _ => rfl, fun x => by rw [if_neg (by omega)], fun x => by rw [if_neg (by omega)]⟩
    · rw [if_neg w, if_neg w]
      obtain ⟨c1, hc1⟩ : ∃ c1, c1 = fl_up c 31 (j + 1) (nI q) := ⟨_, rfl⟩
      obtain ⟨r1, hr1⟩ : ∃ r1, r1 = fl_up r 12 (j + 1) (nI q) := ⟨_, rfl⟩
      have a1 : ∀ q, q ≠ 31 → c1 q = c q := fun q hq => by rw [hc1, fl_up_ne _ _ _ hq]
      have a2 : ∀ x, c1 31 x = if x = j + 1 then nI q else c 31 x := fun x => by rw [hc1, fl_up_at]; simp
      have b1 : ∀ q, q ≠ 12 → r1 q = r q := fun q hq => by rw [hr1, fl_up_ne _ _ _ hq]
      have b2 : ∀ x, r1 12 x = if x = j + 1 then nI q else r 12 x := fun x => by rw [hr1, fl_up_at]; simp
      rw [← hc1, ← hr1]
      obtain ⟨t, c', r', f1, f2, f3, f4, f5, f6, f7⟩ := ins_L (d := d) hp hm j n c1 r1 (by omega) (by omega) (fun i hi => by
        obtain ⟨y1, y, y2, y3, y4⟩ := hE i (by omega)
        rw [a2, if_neg (by omega), b2, if_neg (by omega)]
        exact ⟨y1, y, y2, y3, by rw [a1 _ (by omega), b1 4 (by decide)]; exact y4⟩)
      rw [b1 4 (by decide)] at f2
      refine ⟨t, c', r', by omega, f2, f3, fun q hq => by rw [f4 q hq, a1 q hq], fun q hq => by rw [f5 q hq, b1 q hq], fun x => ?_, fun x => ?_⟩
      · rw [f6 x]
        by_cases y : t < x ∧ x ≤ j
        · rw [if_pos y, if_pos (by omega), a2, if_neg (by omega)]
        · rw [if_neg y, a2]
          by_cases z : x = j + 1
          · rw [if_pos z, if_pos (by omega), z, Nat.add_sub_cancel, e1, e2]
          · rw [if_neg z, if_neg (by omega)]
      · rw [f7 x]
        by_cases y : t < x ∧ x ≤ j
        · rw [if_pos y, if_pos (by omega), b2, if_neg (by omega)]
        · rw [if_neg y, b2]
          by_cases z : x = j + 1
          · rw [if_pos z, if_pos (by omega), z, Nat.add_sub_cancel, e2]
          · rw [if_neg z, if_neg (by omega)]
def Es (c r : fl_G) (d m i : Nat) : Prop := (∀ x, x < m → c 31 x = r 12 x ∧ ∃ q, q < i ∧ r 12 x = nI q ∧ mb r d q) ∧ (∀ x y, x < m → y < m → r 12 x = r 12 y → x = y)
theorem gather_L {d : Nat} (hd : d < 4) : ∀ (e n i m : Nat) (c r : fl_G), i + e = 12 → e < n → m ≤ i → gI c r → Es c r d m i →
    ∃ M c' r', M ≤ 12 ∧ fS_gatherMeshable_L4 n (nI i) (nI m) (nI d) c = some ((nI 12, nI M), c') ∧ fR_candidates_L4 n (nI i) (nI m) (nI d) r = some ((nI 12, nI M), r') ∧ (∀ q, q ≠ 31 → c' q = c q) ∧ (∀ q, q ≠ 12 → r' q = r q) ∧ Es c' r' d M 12
  | 0, n + 1, i, m, c, r, hi, hn, hm, h, hE => by
    have : i = 12 := by omega
    subst this
    refine ⟨m, c, r, hm, ?_, ?_, fun _ _ => rfl, fun _ _ => rfl, hE⟩
    · show fS_gatherMeshable_B4 _ _ _ _ _ = _
      rw [fS_gatherMeshable_B4, if_pos (show (12 : Int32) ≤ nI 12 by decide)]
    · show fR_candidates_B4 _ _ _ _ _ = _
      rw [fR_candidates_B4, if_pos (show (12 : Int32) ≤ nI 12 by decide)]
  | e + 1, n + 1, i, m, c, r, hi, hn, hm, h, hE => by
    have hi12 : i < 12 := by omega
    by_cases w : mb r d i
    · have sC : fS_gatherMeshable_L4 (n + 1) (nI i) (nI m) (nI d) c = fl_bd (fS_insertByNumber (nI i) (nI m) c) (fun _ g9 => fS_gatherMeshable_L4 n (nI (i + 1)) (nI (m + 1)) (nI d) g9) := by
        show fS_gatherMeshable_B4 _ _ _ _ _ = _
        rw [fS_gatherMeshable_B4, if_neg (n_12 hi12), fl_ck_pos (fl_in_nI hi12 (by decide)), nI_clamp (by omega), meshable_yes h hi12 hd w, fl_bd_mk, if_neg one_ne, nI_1, nI_1]
      have sR : fR_candidates_L4 (n + 1) (nI i) (nI m) (nI d) r = fl_bd (fR_candidates_L52 1000 (nI m) (nI i) (nI m) (nI d) r) (fun r28 g29 => fl_ck (fl_in r28 12) (fR_candidates_L4 n (nI (i + 1)) (nI (m + 1)) (nI d) (fl_up g29 12 (Int32.toNatClampNeg r28) (nI i)))) := by
        show fR_candidates_B4 _ _ _ _ _ = _
        rw [fR_candidates_B4, if_neg (n_12 hi12), isHeap_spec r (nI d) hi12, fl_bd_mk, if_pos (show r 1 i = 1 ∧ r 5 i = nI d from ⟨w.1, w.2.1⟩), if_neg one_ne, fl_ck_pos (fl_in_nI hd (by decide)), nI_clamp (by omega), if_neg w.2.2.1, used_spec hi12 hd w.2.1, fl_bd_mk]
        have hul := w.2.2.2.1
        have hul2 := w.2.2.2.2
        have h2 := c2_le hd
        rw [if_neg (nI_nle (by omega) (by omega)), used_spec hi12 hd w.2.1, fl_bd_mk, cells_spec r hd, fl_bd_mk, if_neg (nI_ge (by omega) (by omega)), nI_1, nI_1]
      obtain ⟨t, c1, r1, g1, g2, g3, g4, g5, g6, g7⟩ := ins_L (d := d) hi12 (show m < 12 by omega) m 1000 c r (by omega) (Nat.le_refl _) (fun x hx => by
        obtain ⟨y1, q, y2, y3, y4⟩ := hE.1 x hx
        exact ⟨y1, q, by omega, y3, (h.2.2.1 q (by omega) y4.1).1⟩)
      obtain ⟨c2, hc2⟩ : ∃ c2, c2 = fl_up c1 31 t (nI i) := ⟨_, rfl⟩
      obtain ⟨r2, hr2⟩ : ∃ r2, r2 = fl_up r1 12 t (nI i) := ⟨_, rfl⟩
      have a1 : ∀ q, q ≠ 31 → c2 q = c q := fun q hq => by rw [hc2, fl_up_ne _ _ _ hq, g4 q hq]
      have b1 : ∀ q, q ≠ 12 → r2 q = r q := fun q hq => by rw [hr2, fl_up_ne _ _ _ hq, g5 q hq]
      have a2 : ∀ x, c2 31 x = if x = t then nI i else if t < x ∧ x ≤ m then c 31 (x - 1) else c 31 x := fun x => by rw [hc2, fl_up_at, g6]; simp
      have b2 : ∀ x, r2 12 x = if x = t then nI i else if t < x ∧ x ≤ m then r 12 (x - 1) else r 12 x := fun x => by rw [hr2, fl_up_at, g7]; simp
      have key : ∀ x, x < m + 1 → (x = t ∧ c2 31 x = nI i ∧ r2 12 x = nI i) ∨ (x ≠ t ∧ ∃ y, y < m ∧ c2 31 x = c 31 y ∧ r2 12 x = r 12 y ∧ ((x < t ∧ y = x) ∨ (t < x ∧ y + 1 = x))) := fun x hx => by
        rw [a2, b2]
        by_cases y : x = t
        · rw [if_pos y, if_pos y]; exact Or.inl ⟨y, rfl, rfl⟩
        · rw [if_neg y, if_neg y]
          by_cases z : t < x ∧ x ≤ m
          · rw [if_pos z, if_pos z]; exact Or.inr ⟨y, x - 1, by omega, rfl, rfl, Or.inr ⟨z.1, by omega⟩⟩
          · rw [if_neg z, if_neg z]; exact Or.inr ⟨y, x, by omega, rfl, rfl, Or.inl ⟨by omega, rfl⟩⟩
      have hmb : ∀ q, mb r2 d q ↔ mb r d q := fun q => mb_of (fun z _ z12 _ => b1 z z12) d q
      have hE2 : Es c2 r2 d (m + 1) (i + 1) := by
        refine ⟨fun x hx => ?_, fun x y hx hy e => ?_⟩
        · rcases key x hx with ⟨-, y1, y2⟩ | ⟨-, y, y0, y1, y2, -⟩
          · rw [y1, y2]; exact ⟨rfl, i, by omega, rfl, (hmb i).mpr w⟩
          · obtain ⟨z1, q, z2, z3, z4⟩ := hE.1 y y0
            rw [y1, y2]; exact ⟨z1, q, by omega, z3, (hmb q).mpr z4⟩
        · have no : ∀ u, u < m → r 12 u ≠ nI i := fun u hu e' => by
            obtain ⟨-, q, z2, z3, -⟩ := hE.1 u hu
            rw [z3] at e'
            have := nI_inj (by omega) (by omega) e'
            omega
          rcases key x hx with ⟨x0, -, x2⟩ | ⟨x0, u, u0, -, u2, u3⟩ <;> rcases key y hy with ⟨y0, -, y2⟩ | ⟨y0, v, v0, -, v2, v3⟩
          · omega
          · rw [x2, v2] at e; exact absurd e.symm (no v v0)
          · rw [u2, y2] at e; exact absurd e (no u u0)
          · rw [u2, v2] at e
            have := hE.2 u v u0 v0 e
            omega
      obtain ⟨M, c', r', f0, f1, f2, f3, f4, f5⟩ := gather_L hd e n (i + 1) (m + 1) c2 r2 (by omega) (by omega) (by omega) (gI_of h (fun q _ _ z => a1 q z) (fun q _ z _ => b1 q z)) hE2
      refine ⟨M, c', r', f0, ?_, ?_, fun q hq => by rw [f3 q hq, a1 q hq], fun q hq => by rw [f4 q hq, b1 q hq], f5⟩
      · rw [sC, fS_insertByNumber, fl_ck_pos (fl_in_nI hi12 (by decide)), nI_clamp (by omega), (h.2.2.1 i hi12 w.1).1, g2, fl_bd_mk, fl_ck_pos (fl_in_nI (show t < 12 by omega) (by decide)), nI_clamp (by omega), fl_bd_mk, ← hc2, f1]
      · rw [sR, g3, fl_bd_mk, fl_ck_pos (fl_in_nI (show t < 12 by omega) (by decide)), nI_clamp (by omega), ← hr2, f2]
    · have sC : fS_gatherMeshable_L4 (n + 1) (nI i) (nI m) (nI d) c = fS_gatherMeshable_L4 n (nI (i + 1)) (nI m) (nI d) c := by
        show fS_gatherMeshable_B4 _ _ _ _ _ = _
        rw [fS_gatherMeshable_B4, if_neg (n_12 hi12), fl_ck_pos (fl_in_nI hi12 (by decide)), nI_clamp (by omega), meshable_no h hi12 hd w, fl_bd_mk, if_pos rfl, nI_1]
      have sR : fR_candidates_L4 (n + 1) (nI i) (nI m) (nI d) r = fR_candidates_L4 n (nI (i + 1)) (nI m) (nI d) r := by
        show fR_candidates_B4 _ _ _ _ _ = _
        rw [fR_candidates_B4, if_neg (n_12 hi12), isHeap_spec r (nI d) hi12, fl_bd_mk, nI_1]
        have h2 := c2_le hd
        have hule := uc_le r i (16 / 2 ^ d)
        by_cases w1 : r 1 i = 1 ∧ r 5 i = nI d
        · rw [if_pos w1, if_neg one_ne, fl_ck_pos (fl_in_nI hd (by decide)), nI_clamp (by omega)]
          by_cases w2 : r 9 d = nI i
          · rw [if_pos w2]
          · rw [if_neg w2, used_spec hi12 hd w1.2, fl_bd_mk]
            by_cases w3 : uc r i (16 / 2 ^ d) = 0
            · rw [w3, if_pos (show nI 0 ≤ 0 by decide)]
            · rw [if_neg (nI_nle (by omega) (by omega)), used_spec hi12 hd w1.2, fl_bd_mk, cells_spec r hd, fl_bd_mk]
              by_cases w4 : uc r i (16 / 2 ^ d) = 16 / 2 ^ d
              · rw [w4, if_pos (nI_le (Nat.le_refl _) (by omega))]
              · exact absurd ⟨w1.1, w1.2, w2, by omega, by omega⟩ w
        · rw [if_neg w1, if_pos rfl]
      obtain ⟨M, c', r', f0, f1, f2, f3, f4, f5⟩ := gather_L hd e n (i + 1) m c r (by omega) (by omega) (by omega) h ⟨fun x hx => by
        obtain ⟨z1, q, z2, z3, z4⟩ := hE.1 x hx
        exact ⟨z1, q, by omega, z3, z4⟩, hE.2⟩
      exact ⟨M, c', r', f0, by rw [sC, f1], by rw [sR, f2], f3, f4, f5⟩
