/-! a probe -/
theorem Rl_side {c c' r r' : fl_G} (hc : ∀ q, q ≠ 0 → q ≠ 1 → q ≠ 31 → c' q = c q) (hr : ∀ q, q ≠ 0 → q ≠ 12 → q ≠ 13 → r' q = r q) (h1 : kL1 c' r') (h : Rl 0 c r) : Rl 0 c' r' := by
  have e9 := hr 9 (by decide) (by decide) (by decide)
  have e10 := hr 10 (by decide) (by decide) (by decide)
  have e11 := hr 11 (by decide) (by decide) (by decide)
  have e1 := hr 1 (by decide) (by decide) (by decide)
  have e2 := hr 2 (by decide) (by decide) (by decide)
  have e3 := hr 3 (by decide) (by decide) (by decide)
  have e4 := hr 4 (by decide) (by decide) (by decide)
  have e5 := hr 5 (by decide) (by decide) (by decide)
  have e6 := hr 6 (by decide) (by decide) (by decide)
  have e7 := hr 7 (by decide) (by decide) (by decide)
  have e8 := hr 8 (by decide) (by decide) (by decide)
  obtain ⟨hI, -, k2, k3, k4, k5, k6, k7, k8, k9, k10⟩ := h
  refine ⟨?_, h1, ?_, ?_, ?_, ?_, ?_, ?_, ?_, ?_, ?_⟩
  · simp only [rInv, rI1, rI2, rI3, rI4, rI5, rI6, rI7, rI8, rI9, uc, e1, e3, e5, e6, e7, e8, e9, e10, e11]; exact hI
  · simp only [kL2, e2, hc 3 (by decide) (by decide) (by decide)]; exact k2
  · simp only [kL3, e3, hc 4 (by decide) (by decide) (by decide)]; exact k3
  · simp only [kL4, vc, e3, hc 5 (by decide) (by decide) (by decide)]; exact k4
  · intro p hp hu
    rw [hc (10 + p) (by omega) (by omega) (by omega), e4, e5, e6, e7]
    rw [e1] at hu
    exact k5 p hp hu
  · intro p hp hu
    rw [hc (10 + p) (by omega) (by omega) (by omega)]
    rw [e1] at hu
    exact k6 p hp hu
  · intro d hd
    rw [hc (23 + 2 * d) (by omega) (by omega) (by omega), hc (24 + 2 * d) (by omega) (by omega) (by omega), e9, e10, e11]
    exact k7 d hd
  · simp only [kL8, bsz, pP, pK, e1, e3, e5, e7, e8, hc 7 (by decide) (by decide) (by decide)]; exact k8
  · simp only [kL9, ins, pP, pK, e1, e3, e5, e7, hc 8 (by decide) (by decide) (by decide)]; exact k9
  · simp only [kL10, bcnt, uc, pK, e1, e5, e7, e8, hc 6 (by decide) (by decide) (by decide)]; exact k10
theorem meets_one (x y : Int32) : ∀ (e n k : Nat) (r : fl_G), k + e = 16 → e < n → fR_meets_L5 n (nI k) 1 x y r = some ((nI 16, 1), r)
  | 0, n + 1, k, r, hk, hn => by
    show fR_meets_B5 _ _ _ _ _ _ = _
    rw [fR_meets_B5, show k = 16 by omega, if_pos (show (16 : Int32) ≤ nI 16 by decide)]
  | e + 1, n + 1, k, r, hk, hn => by
    show fR_meets_B5 _ _ _ _ _ _ = _
    rw [fR_meets_B5, if_neg (n_16 (by omega)), if_neg one_ne, nI_1, meets_one x y e n (k + 1) r (by omega) (by omega)]
theorem meets_st {p q d : Nat} (hp : p < 12) (hq : q < 12) (hd : d < 4) {r : fl_G} (e5 : r 5 p = nI d) {n k : Nat} (hk : k < 16) : fR_meets_L5 (n + 1) (nI k) 0 (nI p) (nI q) r = if k < 16 / 2 ^ d ∧ r 7 (16 * p + k) ≠ -1 ∧ r 7 (16 * q + k) ≠ -1 then fR_meets_L5 n (nI (k + 1)) 1 (nI p) (nI q) r else fR_meets_L5 n (nI (k + 1)) 0 (nI p) (nI q) r := by
  have h2 := c2_le hd
  show fR_meets_B5 _ _ _ _ _ _ = _
  rw [fR_meets_B5, if_neg (n_16 hk), if_pos rfl, fl_ck_pos (fl_in_nI hp (by decide)), nI_clamp (by omega), e5, cells_spec r hd, fl_bd_mk, nI_1]
  by_cases w1 : k < 16 / 2 ^ d
  · rw [if_neg (nI_ge (by omega) (by omega)), show (16 : Int32) = nI 16 from rfl, pk_mul, pk_mul, nI_add, nI_add, fl_ck_pos (fl_in_nI (show 16 * p + k < 192 by omega) (by decide)), nI_clamp (by omega)]
    by_cases w2 : r 7 (16 * p + k) = -1
    · rw [if_pos w2, if_neg (fun z => z.2.1 w2)]
    · rw [if_neg w2, fl_ck_pos (fl_in_nI (show 16 * q + k < 192 by omega) (by decide)), nI_clamp (by omega)]
      by_cases w3 : r 7 (16 * q + k) = -1
      · rw [if_pos w3, if_neg (fun z => z.2.2 w3)]
      · rw [if_neg w3, if_pos ⟨w1, w2, w3⟩]
  · rw [if_pos (nI_le (by omega) (by omega)), if_neg (fun z => w1 z.1)]
theorem meets_no {p q d : Nat} (hp : p < 12) (hq : q < 12) (hd : d < 4) {r : fl_G} (e5 : r 5 p = nI d) (hz : ∀ x, x < 16 → r 7 (16 * p + x) = -1 ∨ r 7 (16 * q + x) = -1) : ∀ (e n k : Nat), k + e = 16 → e < n → fR_meets_L5 n (nI k) 0 (nI p) (nI q) r = some ((nI 16, 0), r)
  | 0, n + 1, k, hk, hn => by
    show fR_meets_B5 _ _ _ _ _ _ = _
    rw [fR_meets_B5, show k = 16 by omega, if_pos (show (16 : Int32) ≤ nI 16 by decide)]
  | e + 1, n + 1, k, hk, hn => by
    rw [meets_st hp hq hd e5 (by omega), if_neg, meets_no hp hq hd e5 hz e n (k + 1) (by omega) (by omega)]
    intro z
    rcases hz k (by omega) with y | y
    · exact z.2.1 y
    · exact z.2.2 y
theorem meets_yes {p q d : Nat} (hp : p < 12) (hq : q < 12) (hd : d < 4) {r : fl_G} (e5 : r 5 p = nI d) {x : Nat} (hx : x < 16 / 2 ^ d) (h7 : r 7 (16 * p + x) ≠ -1) (h8 : r 7 (16 * q + x) ≠ -1) : ∀ (e n k : Nat), k + e = 16 → e < n → k ≤ x → fR_meets_L5 n (nI k) 0 (nI p) (nI q) r = some ((nI 16, 1), r)
  | 0, n + 1, k, hk, hn, hl => by have := c2_le hd; omega
  | e + 1, n + 1, k, hk, hn, hl => by
    rw [meets_st hp hq hd e5 (by omega)]
    by_cases w : k < 16 / 2 ^ d ∧ r 7 (16 * p + k) ≠ -1 ∧ r 7 (16 * q + k) ≠ -1
    · rw [if_pos w, meets_one _ _ e n (k + 1) r (by omega) (by omega)]
    · rw [if_neg w]
      have : k ≠ x := fun z => w (by rw [z]; exact ⟨hx, h7, h8⟩)
      exact meets_yes hp hq hd e5 hx h7 h8 e n (k + 1) (by omega) (by omega) (by omega)
theorem probe_rel {c r : fl_G} (h : Rl 0 c r) {i j p q d : Nat} (hi : i < 12) (hj : j < 12) (hij : i ≠ j) (hp : p < 12) (hq : q < 12) (hpq : p ≠ q) (hd : d < 4) (ci : c 31 i = nI p) (cj : c 31 j = nI q) (ri : r 12 i = nI p) (rj : r 12 j = nI q) (up : r 1 p = 1) (uq : r 1 q = 1) (dp : r 5 p = nI d) (dq : r 5 q = nI d) (np : ∀ e, e < 4 → r 9 e ≠ nI p) (nq : ∀ e, e < 4 → r 9 e ≠ nI q) :
    ∃ v c' r', fS_probeAndMesh (nI i) (nI j) c = some (v, c') ∧ fR_probe (nI i) (nI j) r = some (v, r') ∧ Rl 0 c' r' ∧ r' 5 = r 5 ∧ r' 9 = r 9 ∧ r' 12 = r 12 ∧ ((v = 0 ∧ c' 31 = c 31 ∧ r' 13 = r 13 ∧ r' 1 = r 1) ∨ (v = 1 ∧ (∀ x, c' 31 x = if x = i ∨ x = j then -1 else c 31 x) ∧ (∀ x, r' 13 x = if x = i ∨ x = j then 1 else r 13 x) ∧ ∀ x, x ≠ p → x ≠ q → r' 1 x = r 1 x)) := by
  obtain ⟨c1, hc1⟩ : ∃ c1, c1 = fl_up c 0 7 (c 0 7 + 1) := ⟨_, rfl⟩
  obtain ⟨r1, hr1⟩ : ∃ r1, r1 = fl_up r 0 13 (r 0 13 + 1) := ⟨_, rfl⟩
  have c1q : ∀ z, z ≠ 0 → c1 z = c z := fun z hz => by rw [hc1, fl_up_ne _ _ _ hz]
  have r1q : ∀ z, z ≠ 0 → r1 z = r z := fun z hz => by rw [hr1, fl_up_ne _ _ _ hz]
  have c131 := c1q 31 (by decide)
  have r112 := r1q 12 (by decide)
  have h1 : Rl 0 c1 r1 := Rl_side (fun z z0 _ _ => c1q z z0) (fun z z0 _ _ => r1q z z0) (by
    obtain ⟨y1, y2, y3⟩ := h.2.1
    refine ⟨?_, ?_, ?_⟩
    · rw [c1q 1 (by decide), hr1, fl_up_k _ _ (by decide)]; exact y1
    · rw [hc1, hr1, fl_up_k _ _ (by decide), fl_up_k _ _ (by decide)]; exact y2
    · rw [hc1, hr1, fl_up_self, fl_up_self, y3]) h
  have hC : fS_probeAndMesh (nI i) (nI j) c = fl_bd (fM_getsInTheWayOf (10 + p) (10 + q) c1) (fun r15 g16 => if r15 = 0 then (fl_bd (fM_usedCells (10 + p) g16) (fun r19 g20 => fl_bd (fM_usedCells (10 + q) g20) (fun r22 g23 => if r19 < r22 then (fl_bd (fS_join (10 + q) (10 + p) g23) (fun _ g27 => some (1, (fl_up (fl_up g27 31 i (-1)) 31 j (-1))))) else (fl_bd (fS_join (10 + p) (10 + q) g23) (fun _ g32 => some (1, (fl_up (fl_up g32 31 i (-1)) 31 j (-1)))))))) else (some (0, g16))) := by
    rw [fS_probeAndMesh]
    simp only [fl_ck_pos (fl_in_nI hi (show 12 < 2 ^ 31 by decide)), fl_ck_pos (fl_in_nI hj (show 12 < 2 ^ 31 by decide)), nI_clamp (show i < 2 ^ 31 by omega), nI_clamp (show j < 2 ^ 31 by omega), ci, cj, isPhysical_yes c hp, isPhysical_yes c hq, fl_bd_mk, one_ne, if_false, ← hc1, c131, nI_clamp (show p < 2 ^ 31 by omega), nI_clamp (show q < 2 ^ 31 by omega), fl_ck_pos (fl_in_nI hp (show 12 < 2 ^ 31 by decide)), fl_ck_pos (fl_in_nI hq (show 12 < 2 ^ 31 by decide))]
  have hR : fR_probe (nI i) (nI j) r = fl_bd (fR_meets (nI p) (nI q) r1) (fun r3 g4 => if r3 = 0 then (fl_bd (fR_used (nI p) (fl_up (fl_up g4 13 i (1 &&& 1)) 13 j (1 &&& 1))) (fun r9 g10 => fl_bd (fR_used (nI q) g10) (fun r12 g13 => if r9 < r12 then (fl_bd (fR_merge (nI q) (nI p) g13) (fun _ g17 => some (1, g17))) else (fl_bd (fR_merge (nI p) (nI q) g13) (fun _ g20 => some (1, g20)))))) else (some (0, g4))) := by
    rw [fR_probe]
    simp only [fl_ck_pos (fl_in_nI hi (show 12 < 2 ^ 31 by decide)), fl_ck_pos (fl_in_nI hj (show 12 < 2 ^ 31 by decide)), nI_clamp (show i < 2 ^ 31 by omega), nI_clamp (show j < 2 ^ 31 by omega), ← hr1, r112, ri, rj]
  have up1 : r1 1 p = 1 := by rw [r1q 1 (by decide)]; exact up
  have uq1 : r1 1 q = 1 := by rw [r1q 1 (by decide)]; exact uq
  have dp1 : r1 5 p = nI d := by rw [r1q 5 (by decide)]; exact dp
  have dq1 : r1 5 q = nI d := by rw [r1q 5 (by decide)]; exact dq
  obtain ⟨-, -, -, U, hU, eU, hbU⟩ := h1.2.2.2.2.2.1 p hp up1
  obtain ⟨-, -, -, V, hV, eV, hbV⟩ := h1.2.2.2.2.2.1 q hq uq1
  have i5 := h1.1.2.2.2.2.1
  by_cases dj : ∀ k, k < 16 → r1 7 (16 * p + k) = -1 ∨ r1 7 (16 * q + k) = -1
  · have eC : fM_getsInTheWayOf (10 + p) (10 + q) c1 = some (0, c1) := by
      rw [fM_getsInTheWayOf, fl_ck_pos (mc_kdM hp), fl_ck_pos (mc_kdM hq), eU, eV, if_pos]
      refine (nI_and0 hU hV).mpr (fun k hk => ?_)
      rw [hbU k hk, hbV k hk]
      rcases dj k hk with y | y
      · exact Or.inl (by simp [y])
      · exact Or.inr (by simp [y])
    have eR : fR_meets (nI p) (nI q) r1 = some (0, r1) := by
      rw [fR_meets, fl_bd_of (show fR_meets_L5 1000 0 0 (nI p) (nI q) r1 = some ((nI 16, 0), r1) from meets_no hp hq hd dp1 dj 16 1000 0 (by omega) (by omega)), fl_ck_pos (Or.inl rfl)]
    obtain ⟨r2, hr2⟩ : ∃ r2, r2 = fl_up (fl_up r1 13 i 1) 13 j 1 := ⟨_, rfl⟩
    have r2q : ∀ z, z ≠ 13 → r2 z = r1 z := fun z hz => by rw [hr2, fl_up_ne _ _ _ hz, fl_up_ne _ _ _ hz]
    have r213 : ∀ x, r2 13 x = if x = i ∨ x = j then 1 else r 13 x := fun x => by
      rw [hr2, fl_up_at, fl_up_at, r1q 13 (by decide)]
      by_cases w1 : x = j
      · simp [w1]
      · by_cases w2 : x = i
        · simp [w2]
        · simp [w1, w2]
    have h2 : Rl 0 c1 r2 := Rl_side (fun _ _ _ _ => rfl) (fun z _ _ z13 => r2q z z13) (by
      obtain ⟨y1, y2, y3⟩ := h1.2.1
      rw [kL1, r2q 0 (by decide)]; exact ⟨y1, y2, y3⟩) h1
    have dp2 : r2 5 p = nI d := by rw [r2q 5 (by decide)]; exact dp1
    have dq2 : r2 5 q = nI d := by rw [r2q 5 (by decide)]; exact dq1
    have up2 : r2 1 p = 1 := by rw [r2q 1 (by decide)]; exact up1
    have uq2 : r2 1 q = 1 := by rw [r2q 1 (by decide)]; exact uq1
    have n9 : r2 9 = r 9 := by rw [r2q 9 (by decide), r1q 9 (by decide)]
    have m7 : r2 7 = r1 7 := r2q 7 (by decide)
    have fin : ∀ {a b : Nat}, (a = p ∧ b = q) ∨ (a = q ∧ b = p) → ∃ c' r', fl_bd (fS_join (10 + a) (10 + b) c1) (fun _ g27 => some ((1 : Int32), (fl_up (fl_up g27 31 i (-1)) 31 j (-1)))) = some (1, c') ∧ fl_bd (fR_merge (nI a) (nI b) r2) (fun _ g17 => some ((1 : Int32), g17)) = some (1, r') ∧ Rl 0 c' r' ∧ r' 5 = r 5 ∧ r' 9 = r 9 ∧ r' 12 = r 12 ∧ (∀ x, c' 31 x = if x = i ∨ x = j then -1 else c 31 x) ∧ (∀ x, r' 13 x = if x = i ∨ x = j then 1 else r 13 x) ∧ ∀ x, x ≠ p → x ≠ q → r' 1 x = r 1 x := by
      intro a b hab
      obtain ⟨c3, r3, j1, j2, j3, j4, j5, j6⟩ : ∃ c' r', fS_join (10 + a) (10 + b) c1 = some ((), c') ∧ fR_merge (nI a) (nI b) r2 = some ((), r') ∧ Rl 0 c' r' ∧ (∀ x, r' 1 x = if x = b then 0 else r2 1 x) ∧ (∀ z, z ≠ 1 → z ≠ 2 → z ≠ 3 → z ≠ 7 → r' z = r2 z) ∧ (∀ z, z ≠ 3 → z ≠ 4 → z ≠ 5 → z ≠ 10 + a → z ≠ 10 + b → c' z = c1 z) := by
        rcases hab with ⟨rfl, rfl⟩ | ⟨rfl, rfl⟩
        · exact join_rel h2 hp hq hpq hd up2 uq2 dp2 dq2 (by rw [n9]; exact np) (by rw [n9]; exact nq) (by rw [m7]; exact dj)
        · exact join_rel h2 hq hp (Ne.symm hpq) hd uq2 up2 dq2 dp2 (by rw [n9]; exact nq) (by rw [n9]; exact np) (by rw [m7]; exact fun k hk => (dj k hk).symm)
      have ha : a < 12 ∧ b < 12 := by
        rcases hab with ⟨rfl, rfl⟩ | ⟨rfl, rfl⟩
        · exact ⟨hp, hq⟩
        · exact ⟨hq, hp⟩
      obtain ⟨c4, hc4⟩ : ∃ c4, c4 = fl_up (fl_up c3 31 i (-1)) 31 j (-1) := ⟨_, rfl⟩
      have c4q : ∀ z, z ≠ 31 → c4 z = c3 z := fun z hz => by rw [hc4, fl_up_ne _ _ _ hz, fl_up_ne _ _ _ hz]
      refine ⟨c4, r3, by rw [j1, fl_bd_mk, ← hc4], by rw [j2, fl_bd_mk], Rl_side (fun z _ _ z31 => c4q z z31) (fun _ _ _ _ => rfl) (by
        obtain ⟨y1, y2, y3⟩ := j3.2.1
        rw [kL1, c4q 1 (by decide), c4q 0 (by decide)]; exact ⟨y1, y2, y3⟩) j3, ?_, ?_, ?_, fun x => ?_, fun x => ?_, fun x xp xq => ?_⟩
      · rw [j5 5 (by decide) (by decide) (by decide) (by decide), r2q 5 (by decide), r1q 5 (by decide)]
      · rw [j5 9 (by decide) (by decide) (by decide) (by decide), n9]
      · rw [j5 12 (by decide) (by decide) (by decide) (by decide), r2q 12 (by decide), r112]
      · rw [hc4, fl_up_at, fl_up_at, j6 31 (by decide) (by decide) (by decide) (by omega) (by omega), c131]
        by_cases w1 : x = j
        · simp [w1]
        · by_cases w2 : x = i
          · simp [w2]
          · simp [w1, w2]
      · rw [j5 13 (by decide) (by decide) (by decide) (by decide)]; exact r213 x
      · rw [j4, if_neg (by rcases hab with ⟨rfl, rfl⟩ | ⟨rfl, rfl⟩ <;> assumption), r2q 1 (by decide), r1q 1 (by decide)]
    have hC2 : fS_probeAndMesh (nI i) (nI j) c = if nI (uc r2 p (16 / 2 ^ d)) < nI (uc r2 q (16 / 2 ^ d)) then (fl_bd (fS_join (10 + q) (10 + p) c1) (fun _ g27 => some (1, (fl_up (fl_up g27 31 i (-1)) 31 j (-1))))) else (fl_bd (fS_join (10 + p) (10 + q) c1) (fun _ g32 => some (1, (fl_up (fl_up g32 31 i (-1)) 31 j (-1))))) := by
      rw [hC, eC, fl_bd_mk, if_pos rfl, usedC_spec h2.1.2.2.2.2.1 h2.2.2.2.2.2.1 hp hd up2 dp2, fl_bd_mk, usedC_spec h2.1.2.2.2.2.1 h2.2.2.2.2.2.1 hq hd uq2 dq2, fl_bd_mk]
    have hR2 : fR_probe (nI i) (nI j) r = if nI (uc r2 p (16 / 2 ^ d)) < nI (uc r2 q (16 / 2 ^ d)) then (fl_bd (fR_merge (nI q) (nI p) r2) (fun _ g17 => some (1, g17))) else (fl_bd (fR_merge (nI p) (nI q) r2) (fun _ g20 => some (1, g20))) := by
      rw [hR, eR, fl_bd_mk, if_pos rfl, show (1 : Int32) &&& 1 = 1 from rfl, ← hr2, used_spec hp hd dp2, fl_bd_mk, used_spec hq hd dq2, fl_bd_mk]
    rw [hC2, hR2]
    by_cases w : nI (uc r2 p (16 / 2 ^ d)) < nI (uc r2 q (16 / 2 ^ d))
    · rw [if_pos w, if_pos w]
      obtain ⟨c', r', y1, y2, y3, y4, y5, y6, y7, y8, y9⟩ := fin (a := q) (b := p) (Or.inr ⟨rfl, rfl⟩)
      exact ⟨1, c', r', y1, y2, y3, y4, y5, y6, Or.inr ⟨rfl, y7, y8, y9⟩⟩
    · rw [if_neg w, if_neg w]
      obtain ⟨c', r', y1, y2, y3, y4, y5, y6, y7, y8, y9⟩ := fin (a := p) (b := q) (Or.inl ⟨rfl, rfl⟩)
      exact ⟨1, c', r', y1, y2, y3, y4, y5, y6, Or.inr ⟨rfl, y7, y8, y9⟩⟩
  · obtain ⟨k, hk, w1, w2⟩ : ∃ k, k < 16 ∧ r1 7 (16 * p + k) ≠ -1 ∧ r1 7 (16 * q + k) ≠ -1 := by
      apply Classical.byContradiction
      intro hn
      apply dj
      intro k hk
      by_cases y : r1 7 (16 * p + k) = -1
      · exact Or.inl y
      · by_cases y2 : r1 7 (16 * q + k) = -1
        · exact Or.inr y2
        · exact absurd ⟨k, hk, y, y2⟩ hn
    have hkn : k < 16 / 2 ^ d := by
      rcases i5 p d k hp hd hk up1 dp1 with y | ⟨y, -⟩
      · exact absurd y w1
      · exact y
    refine ⟨0, c1, r1, ?_, ?_, h1, r1q 5 (by decide), r1q 9 (by decide), r112, Or.inl ⟨rfl, c131, r1q 13 (by decide), r1q 1 (by decide)⟩⟩
    · rw [hC, fM_getsInTheWayOf, fl_ck_pos (mc_kdM hp), fl_ck_pos (mc_kdM hq), eU, eV, if_neg, fl_bd_mk, if_neg one_ne]
      intro y
      rcases (nI_and0 hU hV).mp y k hk with z | z
      · rw [hbU k hk] at z; simp [w1] at z
      · rw [hbV k hk] at z; simp [w2] at z
    · rw [hR, fR_meets, fl_bd_of (show fR_meets_L5 1000 0 0 (nI p) (nI q) r1 = some ((nI 16, 1), r1) from meets_yes hp hq hd dp1 hkn w1 w2 16 1000 0 (by omega) (by omega) (by omega)), fl_ck_pos (Or.inr rfl), fl_bd_mk, if_neg one_ne]
theorem probe_i {c : fl_G} {i j : Nat} (hi : i < 12) (ci : c 31 i = -1) : fS_probeAndMesh (nI i) (nI j) c = some (0, c) := by
  have e : fS_isPhysical (c 31 (nI i).toNatClampNeg) c = some (0, c) := by rw [nI_clamp (by omega), ci, isPhysical_no c (Or.inl (by decide))]
  rw [fS_probeAndMesh, fl_ck_pos (fl_in_nI hi (by decide)), fl_bd_of e, if_pos rfl]
theorem probe_j {c : fl_G} {i j p : Nat} (hi : i < 12) (hj : j < 12) (hp : p < 12) (ci : c 31 i = nI p) (cj : c 31 j = -1) : fS_probeAndMesh (nI i) (nI j) c = some (0, c) := by
  have e : fS_isPhysical (c 31 (nI i).toNatClampNeg) c = some (1, c) := by rw [nI_clamp (by omega), ci, isPhysical_yes c hp]
  have e2 : fS_isPhysical (c 31 (nI j).toNatClampNeg) c = some (0, c) := by rw [nI_clamp (by omega), cj, isPhysical_no c (Or.inl (by decide))]
  rw [fS_probeAndMesh, fl_ck_pos (fl_in_nI hi (by decide)), fl_bd_of e, if_neg one_ne, fl_ck_pos (fl_in_nI hj (by decide)), fl_bd_of e2, if_pos rfl]
/-! the rounds of probes -/
def MI (c r : fl_G) (d m : Nat) : Prop := Rl 0 c r ∧ (∀ x, x < m → (r 13 x = 0 ∧ c 31 x = r 12 x ∧ ∃ q, q < 12 ∧ r 12 x = nI q ∧ r 1 q = 1 ∧ r 5 q = nI d ∧ ∀ e, e < 4 → r 9 e ≠ nI q) ∨ (r 13 x ≠ 0 ∧ c 31 x = -1)) ∧ (∀ x y, x < m → y < m → r 12 x = r 12 y → x = y)
theorem inner_L {d m t : Nat} (hd : d < 4) (hm : m ≤ 12) (ht : t < 100) (X Y : Int32) : ∀ (e n i : Nat) (b : Int32) (c r : fl_G), i + e = m / 2 → e < n → MI c r d m →
    ∃ b' c' r', fS_mesh_L70 n (nI i) (nI t) b (nI (m / 2)) (nI m) X Y c = some ((nI (m / 2), b'), c') ∧ fR_mesh_L142 n (nI i) (nI t) b (nI (m / 2)) (nI m) X Y r = some ((nI (m / 2), b'), r') ∧ MI c' r' d m
  | 0, n + 1, i, b, c, r, hi, hn, h => by
    refine ⟨b, c, r, ?_, ?_, h⟩
    · show fS_mesh_B70 _ _ _ _ _ _ _ _ _ = _
      rw [fS_mesh_B70, show i = m / 2 by omega, if_pos (nI_le (Nat.le_refl _) (by omega))]
    · show fR_mesh_B142 _ _ _ _ _ _ _ _ _ = _
      rw [fR_mesh_B142, show i = m / 2 by omega, if_pos (nI_le (Nat.le_refl _) (by omega))]
  | e + 1, n + 1, i, b, c, r, hi, hn, h => by
    have hh : 0 < m / 2 := by omega
    obtain ⟨j, hj⟩ : ∃ j, j = m / 2 + (i + t) % (m / 2) := ⟨_, rfl⟩
    have hmod : (i + t) % (m / 2) < m / 2 := Nat.mod_lt _ hh
    have hjm : j < m := by omega
    have hij : i ≠ j := by omega
    have ej : nI (m / 2) + fl_rem (nI i + nI t) (nI (m / 2)) = nI j := by
      rw [nI_add, show fl_rem (nI (i + t)) (nI (m / 2)) = nI ((i + t) % (m / 2)) from pk_rem (by omega) hh (by omega), nI_add, ← hj]
    have sC : fS_mesh_L70 (n + 1) (nI i) (nI t) b (nI (m / 2)) (nI m) X Y c = fl_bd (fS_probeAndMesh (nI i) (nI j) c) (fun r19 g20 => if r19 = 0 then fS_mesh_L70 n (nI (i + 1)) (nI t) b (nI (m / 2)) (nI m) X Y g20 else fS_mesh_L70 n (nI (i + 1)) (nI t) (b + 1) (nI (m / 2)) (nI m) X Y g20) := by
      show fS_mesh_B70 _ _ _ _ _ _ _ _ _ = _
      rw [fS_mesh_B70, if_neg (nI_ge (by omega) (by omega)), fl_ck_pos (nI_ne0 hh (by omega)), ej, nI_1]
    have sR : fR_mesh_L142 (n + 1) (nI i) (nI t) b (nI (m / 2)) (nI m) X Y r = if r 13 i = 0 then (if r 13 j = 0 then fl_bd (fR_probe (nI i) (nI j) r) (fun r40 g41 => if r40 = 0 then fR_mesh_L142 n (nI (i + 1)) (nI t) b (nI (m / 2)) (nI m) X Y g41 else fR_mesh_L142 n (nI (i + 1)) (nI t) (b + 1) (nI (m / 2)) (nI m) X Y g41) else fR_mesh_L142 n (nI (i + 1)) (nI t) b (nI (m / 2)) (nI m) X Y r) else fR_mesh_L142 n (nI (i + 1)) (nI t) b (nI (m / 2)) (nI m) X Y r := by
      show fR_mesh_B142 _ _ _ _ _ _ _ _ _ = _
      rw [fR_mesh_B142, if_neg (nI_ge (by omega) (by omega)), fl_ck_pos (nI_ne0 hh (by omega)), ej, nI_1, fl_ck_pos (fl_in_nI (show i < 12 by omega) (by decide)), fl_ck_pos (fl_in_nI (show j < 12 by omega) (by decide)), nI_clamp (show i < 2 ^ 31 by omega), nI_clamp (show j < 2 ^ 31 by omega)]
    rw [sC, sR]
    obtain ⟨hR, hE, hU⟩ := h
    rcases hE i (by omega) with ⟨x1, x2, p, hp, x3, x4, x5, x6⟩ | ⟨x1, x2⟩
    · rw [if_pos x1]
      rcases hE j hjm with ⟨y1, y2, q, hq, y3, y4, y5, y6⟩ | ⟨y1, y2⟩
      · rw [if_pos y1]
        have hpq : p ≠ q := fun w => hij (hU i j (by omega) hjm (by rw [x3, y3, w]))
        obtain ⟨v, c1, r1, f1, f2, f3, f4, f5, f6, f7⟩ := probe_rel hR (show i < 12 by omega) (show j < 12 by omega) hij hp hq hpq hd (by rw [x2, x3]) (by rw [y2, y3]) x3 y3 x4 y4 x5 y5 x6 y6
        rw [f1, fl_bd_mk, f2, fl_bd_mk]
        have hU1 : ∀ x y, x < m → y < m → r1 12 x = r1 12 y → x = y := by rw [f6]; exact hU
        rcases f7 with ⟨z0, z1, z2, z3⟩ | ⟨z0, z1, z2, z3⟩
        · rw [z0, if_pos rfl, if_pos rfl]
          exact inner_L hd hm ht X Y e n (i + 1) b c1 r1 (by omega) (by omega) ⟨f3, by rw [z1, z2, z3, f4, f5, f6]; exact hE, hU1⟩
        · rw [z0, if_neg one_ne, if_neg one_ne]
          refine inner_L hd hm ht X Y e n (i + 1) (b + 1) c1 r1 (by omega) (by omega) ⟨f3, fun x hx => ?_, hU1⟩
          rw [z1, z2, f4, f5, f6]
          by_cases w : x = i ∨ x = j
          · rw [if_pos w, if_pos w]; exact Or.inr ⟨one_ne, rfl⟩
          · rw [if_neg w, if_neg w]
            rcases hE x hx with ⟨a1, a2, u, hu, a3, a4, a5, a6⟩ | ⟨a1, a2⟩
            · refine Or.inl ⟨a1, a2, u, hu, a3, ?_, a5, a6⟩
              rw [z3 u (fun y => w (Or.inl (hU x i hx (by omega) (by rw [a3, x3, y])))) (fun y => w (Or.inr (hU x j hx hjm (by rw [a3, y3, y]))))]
              exact a4
            · exact Or.inr ⟨a1, a2⟩
      · rw [if_neg y1, probe_j (show i < 12 by omega) (show j < 12 by omega) hp (by rw [x2, x3]) y2, fl_bd_mk, if_pos rfl]
        exact inner_L hd hm ht X Y e n (i + 1) b c r (by omega) (by omega) ⟨hR, hE, hU⟩
    · rw [if_neg x1, probe_i (show i < 12 by omega) x2, fl_bd_mk, if_pos rfl]
      exact inner_L hd hm ht X Y e n (i + 1) b c r (by omega) (by omega) ⟨hR, hE, hU⟩
theorem outer_L {d m y : Nat} (hd : d < 4) (hm : m ≤ 12) (hy : y ≤ 16) (X : Int32) : ∀ (e n t : Nat) (b : Int32) (c r : fl_G), t + e = y → e < n → MI c r d m →
    ∃ T b' c' r', fS_mesh_L54 n (nI t) b (nI (m / 2)) (nI m) X (nI y) c = some ((T, b'), c') ∧ fR_mesh_L126 n (nI t) b (nI (m / 2)) (nI m) X (nI y) r = some ((T, b'), r') ∧ MI c' r' d m
  | 0, n + 1, t, b, c, r, ht, hn, h => by
    refine ⟨nI t, b, c, r, ?_, ?_, h⟩
    · show fS_mesh_B54 _ _ _ _ _ _ _ _ = _
      rw [fS_mesh_B54, if_pos (nI_le (by omega) (by omega))]
    · show fR_mesh_B126 _ _ _ _ _ _ _ _ = _
      rw [fR_mesh_B126, if_pos (nI_le (by omega) (by omega))]
  | e + 1, n + 1, t, b, c, r, ht, hn, h => by
    have sC : fS_mesh_L54 (n + 1) (nI t) b (nI (m / 2)) (nI m) X (nI y) c = if nI (m / 2) ≤ nI t then some ((nI t, b), c) else fl_bd (fS_mesh_L70 1000 0 (nI t) b (nI (m / 2)) (nI m) X (nI y) c) (fun r23 g24 => fS_mesh_L54 n (nI (t + 1)) r23.2 (nI (m / 2)) (nI m) X (nI y) g24) := by
      show fS_mesh_B54 _ _ _ _ _ _ _ _ = _
      rw [fS_mesh_B54, if_neg (nI_ge (by omega) (by omega)), nI_1]
    have sR : fR_mesh_L126 (n + 1) (nI t) b (nI (m / 2)) (nI m) X (nI y) r = if nI (m / 2) ≤ nI t then some ((nI t, b), r) else fl_bd (fR_mesh_L142 1000 0 (nI t) b (nI (m / 2)) (nI m) X (nI y) r) (fun r23 g24 => fR_mesh_L126 n (nI (t + 1)) r23.2 (nI (m / 2)) (nI m) X (nI y) g24) := by
      show fR_mesh_B126 _ _ _ _ _ _ _ _ = _
      rw [fR_mesh_B126, if_neg (nI_ge (by omega) (by omega)), nI_1]
    rw [sC, sR]
    by_cases w : nI (m / 2) ≤ nI t
    · rw [if_pos w, if_pos w]
      exact ⟨nI t, b, c, r, rfl, rfl, h⟩
    · rw [if_neg w, if_neg w]
      obtain ⟨b1, c1, r1, f1, f2, f3⟩ := inner_L (t := t) hd hm (by omega) X (nI y) (m / 2) 1000 0 b c r (by omega) (by omega) h
      rw [fl_bd_of (show fS_mesh_L70 1000 0 (nI t) b (nI (m / 2)) (nI m) X (nI y) c = _ from f1), fl_bd_of (show fR_mesh_L142 1000 0 (nI t) b (nI (m / 2)) (nI m) X (nI y) r = _ from f2)]
      exact outer_L hd hm hy X e n (t + 1) b1 c1 r1 (by omega) (by omega) f3
theorem unheld {r : fl_G} (i9 : rI9 r) {d p : Nat} (hd : d < 4) (hp : p < 12) (e5 : r 5 p = nI d) (hn : r 9 d ≠ nI p) : ∀ e, e < 4 → r 9 e ≠ nI p := fun e he w => by
  rcases i9 e he with ⟨y, -⟩ | ⟨q, n, y1, y2, y3, y4, -⟩
  · rw [w] at y; exact nI_m1 (by omega) y
  · have : q = p := nI_inj (by omega) (by omega) (by rw [← y2, w])
    rw [this, e5] at y4
    have : e = d := nI_inj (by omega) (by omega) y4.symm
    exact hn (by rw [← this]; exact w)
theorem mesh_main {c r : fl_G} (h : Rl 0 c r) {d y : Nat} (hd : d < 4) (y1 : 1 ≤ y) (y16 : y ≤ 16) : ∃ v c' r', fS_mesh (nI d) (nI y) c = some (v, c') ∧ fR_mesh (nI d) (nI y) r = some (v, r') ∧ Rl 0 c' r' := by
  obtain ⟨r0, hr0⟩ : ∃ r0, r0 = fl_up r 0 13 0 := ⟨_, rfl⟩
  have r0q : ∀ z, z ≠ 0 → r0 z = r z := fun z hz => by rw [hr0, fl_up_ne _ _ _ hz]
  have hg : gI c r0 := gI_of (c := c) (r := r) ⟨h.1.2.2.2.2.1, h.1.2.2.2.2.2.2.2.2, h.2.2.2.2.2.1, h.2.2.2.2.2.2.1, h.2.2.2.2.2.2.2.1⟩ (fun _ _ _ _ => rfl) (fun z z0 _ _ => r0q z z0)
  obtain ⟨M, c1, r1, f0, f1, f2, f3, f4, f5⟩ := gather_L hd 12 1000 0 0 c r0 (by omega) (by omega) (by omega) hg ⟨fun x hx => by omega, fun x _ hx => by omega⟩
  have hx : c1 1 0 = r1 0 0 := by rw [f3 1 (by decide), f4 0 (by decide), hr0, fl_up_k _ _ (by decide)]; exact h.2.1.1
  obtain ⟨c2, r2, w, g1, g2, g3, g4, g5, g6, g7, g8, g9⟩ : ∃ c2 r2 w, fD_shuffle 31 (nI M) c1 = some ((), c2) ∧ fR_mesh_L37 1000 (nI M - 1) (nI M) (nI d) (nI y) r1 = some (w, r2) ∧ (∀ j, j < M → c2 31 j = r2 12 j) ∧ c2 1 0 = r2 0 0 ∧ (∀ q, q ≠ 1 → q ≠ 31 → c2 q = c1 q) ∧ (∀ q, q ≠ 0 → q ≠ 12 → r2 q = r1 q) ∧ (∀ k, k ≠ 0 → r2 0 k = r1 0 k) ∧ (∀ j, j < M → ∃ j', j' < M ∧ r2 12 j = r1 12 j') ∧ (∀ a b, a < M → b < M → r2 12 a = r2 12 b → a = b) := by
    rcases M with - | M
    · refine ⟨c1, r1, nI 0 - 1, ?_, ?_, fun j hj => by omega, hx, fun _ _ _ => rfl, fun _ _ _ => rfl, fun _ _ => rfl, fun j hj => by omega, fun a _ ha => by omega⟩
      · rw [fD_shuffle]
        show fl_bd (fD_shuffle_B4 _ _ _ _ _) _ = _
        rw [fD_shuffle_B4, if_pos (show nI 0 - 1 < 1 by decide), fl_bd_mk]
      · show fR_mesh_B37 _ _ _ _ _ _ = _
        rw [fR_mesh_B37, if_pos (show nI 0 - 1 < 1 by decide)]
    · obtain ⟨c2, r2, e1, e2, e3, e4, e5, e6, e7, e8, e9⟩ := mshuf_L (m := M + 1) f0 (nI d) (nI y) M 1000 c1 r1 (by omega) (by omega) (fun j hj => (f5.1 j hj).1) hx
      exact ⟨c2, r2, nI 0, by rw [fD_shuffle, dec1, e1, fl_bd_mk], by rw [dec1, e2], e3, e4, e5, e6, e7, e8, e9 f5.2⟩
  obtain ⟨r3, u1, u2, u3⟩ := undone_L (nI M) (nI d) (nI y) 12 1000 0 r2 (by omega) (by omega)
  obtain ⟨c3, hc3⟩ : ∃ c3, c3 = fl_up c2 0 7 0 := ⟨_, rfl⟩
  have c3q : ∀ z, z ≠ 0 → c3 z = c2 z := fun z hz => by rw [hc3, fl_up_ne _ _ _ hz]
  have cq : ∀ z, z ≠ 0 → z ≠ 1 → z ≠ 31 → c3 z = c z := fun z z0 z1 z31 => by rw [c3q z z0, g5 z z1 z31, f3 z z31]
  have rq : ∀ z, z ≠ 0 → z ≠ 12 → z ≠ 13 → r3 z = r z := fun z z0 z12 z13 => by rw [u2 z z13, g6 z z0 z12, f4 z z12, r0q z z0]
  have r1q : ∀ z, z ≠ 0 → z ≠ 12 → z ≠ 13 → r3 z = r1 z := fun z z0 z12 z13 => by rw [u2 z z13, g6 z z0 z12]
  have r30 : ∀ k, k ≠ 0 → r3 0 k = r0 0 k := fun k hk => by rw [u2 0 (by decide), g7 k hk, f4 0 (by decide)]
  have hRl : Rl 0 c3 r3 := Rl_side cq rq (by
    obtain ⟨y1, y2, y3⟩ := h.2.1
    refine ⟨?_, ?_, ?_⟩
    · rw [c3q 1 (by decide), g4, u2 0 (by decide)]
    · rw [hc3, fl_up_k _ _ (by decide), g5 0 (by decide) (by decide), f3 0 (by decide), r30 9 (by decide), hr0, fl_up_k _ _ (by decide)]; exact y2
    · rw [hc3, fl_up_self, r30 13 (by decide), hr0, fl_up_self]) h
  have hMI : MI c3 r3 d M := by
    refine ⟨hRl, fun x hx => Or.inl ⟨?_, ?_, ?_⟩, ?_⟩
    · rw [u3, if_pos (by omega)]
    · rw [c3q 31 (by decide), u2 12 (by decide)]; exact g3 x hx
    · obtain ⟨x', z1, z2⟩ := g8 x hx
      obtain ⟨-, q, z3, z4, z5⟩ := f5.1 x' z1
      have z6 := (mb_of r1q d q).mpr z5
      refine ⟨q, z3, by rw [u2 12 (by decide), z2, z4], z6.1, z6.2.1, unheld hRl.1.2.2.2.2.2.2.2.2 hd z3 z6.2.1 z6.2.2.1⟩
    · rw [u2 12 (by decide)]; exact g9
  obtain ⟨T, b', c4, r4, o1, o2, o3⟩ := outer_L (y := y) hd f0 y16 (nI d) y 1000 0 0 c3 r3 (by omega) (by omega) hMI
  have hdv : nI M / 2 = nI (M / 2) := pk_div (by omega) (by decide) (by decide)
  refine ⟨b', c4, r4, ?_, ?_, o3.1⟩
  · rw [fS_mesh, isClass_yes c hd, fl_bd_mk, if_neg one_ne, if_neg (show ¬ nI y < 1 from nI_nlt (b := 1) y1 (by omega)), if_pos (show nI y ≤ 16 from nI_le (b := 16) y16 (by decide)), fS_gatherMeshable, fl_bd_of (show fS_gatherMeshable_L4 1000 0 0 (nI d) c = some ((nI 12, nI M), c1) from f1), fl_bd_mk, g1, fl_bd_mk, ← hc3, hdv, fl_bd_of (show fS_mesh_L54 1000 0 0 (nI (M / 2)) (nI M) (nI d) (nI y) c3 = some ((T, b'), c4) from o1)]
  · rw [fR_mesh, show (3 : Int32) = nI 3 from rfl, within_yes 3 (by decide) r (by omega), fl_bd_mk, if_neg one_ne, fR_within, if_neg (show ¬ nI y < 1 from nI_nlt (b := 1) y1 (by omega)), if_neg (show ¬ 16 < nI y from nI_nlt (a := 16) y16 (by decide)), fl_bd_mk, if_neg one_ne, ← hr0, fR_candidates, fl_bd_of (show fR_candidates_L4 1000 0 0 (nI d) r0 = some ((nI 12, nI M), r1) from f2), fl_bd_mk, g2, fl_bd_mk, fl_bd_of (show fR_mesh_L94 1000 0 (nI M) (nI d) (nI y) r2 = some (nI 12, r3) from u1), hdv, fl_bd_of (show fR_mesh_L126 1000 0 0 (nI (M / 2)) (nI M) (nI d) (nI y) r3 = some ((T, b'), r4) from o2)]
theorem s_mesh : lw_S2 fS_mesh fR_mesh Rl := by
  intro k x y c r _ h
  have hno : x < 0 ∨ nI 4 ≤ x → ∃ v gC' gR', fS_mesh x y c = some (v, gC') ∧ fR_mesh x y r = some (v, gR') ∧ Rl (k + 1) gC' gR' := fun hx => ⟨-1, c, r, by rw [fS_mesh, isClass_no c hx]; rfl, by rw [fR_mesh, show (3 : Int32) = nI 3 from rfl, within_no 3 (by decide) r hx]; rfl, h⟩
  rcases pk_ix x (n := 4) (by decide) with hx | hx | ⟨d, hd, rfl⟩
  · exact hno (Or.inl hx)
  · exact hno (Or.inr hx)
  · have hlt : y < 1 → ∃ v gC' gR', fS_mesh (nI d) y c = some (v, gC') ∧ fR_mesh (nI d) y r = some (v, gR') ∧ Rl (k + 1) gC' gR' := fun hy => ⟨-1, c, r, by rw [fS_mesh, isClass_yes c hd, fl_bd_mk, if_neg one_ne, if_pos hy], by rw [fR_mesh, show (3 : Int32) = nI 3 from rfl, within_yes 3 (by decide) r (by omega), fl_bd_mk, if_neg one_ne, fR_within, if_pos hy]; rfl, h⟩
    rcases pk_ix y (n := 17) (by decide) with hy | hy | ⟨j, hj, rfl⟩
    · refine hlt ?_
      rw [Int32.lt_iff_toInt_lt] at *
      have e0 : (0 : Int32).toInt = 0 := by decide
      have e1 : (1 : Int32).toInt = 1 := by decide
      omega
    · by_cases hy1 : y < 1
      · exact hlt hy1
      · have h16 : (16 : Int32) < y := ge_of (n := 16) (by decide) hy
        have hn16 : ¬ y ≤ 16 := fun z => by
          rw [Int32.lt_iff_toInt_lt] at h16
          rw [Int32.le_iff_toInt_le] at z
          omega
        exact ⟨-1, c, r, by rw [fS_mesh, isClass_yes c hd, fl_bd_mk, if_neg one_ne, if_neg hy1, if_neg hn16], by rw [fR_mesh, show (3 : Int32) = nI 3 from rfl, within_yes 3 (by decide) r (by omega), fl_bd_mk, if_neg one_ne, fR_within, if_neg hy1, if_pos h16]; rfl, h⟩
    · by_cases j0 : j = 0
      · subst j0; exact hlt (by decide)
      · obtain ⟨v, c', r', e1, e2, e3⟩ := mesh_main h hd (show 1 ≤ j by omega) (show j ≤ 16 by omega)
        exact ⟨v, c', r', e1, e2, e3⟩
