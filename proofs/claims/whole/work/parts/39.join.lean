/-! two miniheaps become one: words, spans -/
theorem word_L {p q k w : Nat} (hp : p < 12) (hq : q < 12) (hpq : p ≠ q) (hw : k * w + w ≤ 16) : ∀ (e n j : Nat) (r : fl_G), j + e = k * w + w → e < n → ∃ r', fR_merge_L72 n (nI j) (nI k) (nI w) (nI p) (nI q) r = some (nI (k * w + w), r') ∧ (∀ z, z ≠ 2 → r' z = r z) ∧ ∀ x, r' 2 x = if 16 * p + j ≤ x ∧ x < 16 * p + (k * w + w) then r 2 (16 * q + (x - 16 * p)) else r 2 x
  | 0, n + 1, j, r, hj, hn => by
    refine ⟨r, ?_, fun _ _ => rfl, fun x => by rw [if_neg (by omega)]⟩
    show fR_merge_B72 _ _ _ _ _ _ _ = _
    rw [fR_merge_B72, pk_mul, nI_add, show j = k * w + w by omega, if_pos (nI_le (Nat.le_refl _) (by omega))]
  | e + 1, n + 1, j, r, hj, hn => by
    obtain ⟨r1, hr1⟩ : ∃ r1, r1 = fl_up r 2 (16 * p + j) (r 2 (16 * q + j)) := ⟨_, rfl⟩
    have a2 : ∀ x, r1 2 x = if x = 16 * p + j then r 2 (16 * q + j) else r 2 x := fun x => by rw [hr1, fl_up_at]; simp
    obtain ⟨r', h1, h2, h3⟩ := word_L hp hq hpq hw e n (j + 1) r1 (by omega) (by omega)
    refine ⟨r', ?_, fun z hz => by rw [h2 z hz, hr1, fl_up_ne _ _ _ hz], fun x => ?_⟩
    · show fR_merge_B72 _ _ _ _ _ _ _ = _
      rw [fR_merge_B72, pk_mul, nI_add, if_neg (nI_ge (by omega) (by omega)), show (16 : Int32) = nI 16 from rfl, pk_mul, pk_mul, nI_add, nI_add, fl_ck_pos (fl_in_nI (show 16 * q + j < 192 by omega) (by decide)), fl_ck_pos (fl_in_nI (show 16 * p + j < 192 by omega) (by decide)), nI_clamp (by omega), nI_clamp (by omega), ← hr1, nI_1, h1]
    · rw [h3 x, a2, a2]
      by_cases y : x = 16 * p + j
      · rw [if_neg (by omega), if_pos y, if_pos (by omega), y, show 16 * p + j - 16 * p = j by omega]
      · rw [if_neg y]
        by_cases y2 : 16 * p + j ≤ x ∧ x < 16 * p + (k * w + w)
        · rw [if_pos (by omega), if_pos y2, if_neg (by omega)]
        · rw [if_neg (by omega), if_neg y2]
theorem copy_spec (c : fl_G) {p q b w : Nat} (hp : p < 12) (hq : q < 12) (hb : b + w ≤ 16) : ∃ c', fP_copy (nI q) (nI p) (nI b) (nI w) c = some ((), c') ∧ (∀ z, z ≠ 3 → c' z = c z) ∧ ∀ x, c' 3 x = if 16 * p + b ≤ x ∧ x < 16 * p + (b + w) then c 3 (16 * q + (x - 16 * p)) else c 3 x := by
  refine ⟨fl_st c 3 (va_cpy (c 3) (c 3) (16 * q + b) (16 * p + b) w), ?_, fun z hz => by simp [fl_st, hz], fun x => ?_⟩
  · rw [fP_copy, show (16 : Int32) = nI 16 from rfl, pk_mul, pk_mul, nI_add, nI_add, Nat.mul_comm q 16, Nat.mul_comm p 16]
    rw [fl_ck_pos ⟨⟨nI_pos' (by omega), nI_pos' (by omega), nI_pos' (by omega)⟩, by rw [nI_clamp (by omega), nI_clamp (by omega)]; omega, by rw [nI_clamp (by omega), nI_clamp (by omega)]; omega⟩, nI_clamp (by omega), nI_clamp (by omega), nI_clamp (by omega)]
  · have : fl_st c 3 (va_cpy (c 3) (c 3) (16 * q + b) (16 * p + b) w) 3 = va_cpy (c 3) (c 3) (16 * q + b) (16 * p + b) w := by simp [fl_st]
    rw [this, va_cpy]
    by_cases y : 16 * p + b ≤ x ∧ x < 16 * p + (b + w)
    · rw [if_pos (by omega), if_pos y, show 16 * q + b + (x - (16 * p + b)) = 16 * q + (x - 16 * p) by omega]
    · rw [if_neg (by omega), if_neg y]
theorem copy_L {p q d U : Nat} (hp : p < 12) (hq : q < 12) (hpq : p ≠ q) (hd : d < 4) (hU : U < 2 ^ 16) : ∀ (e n k : Nat) (c r : fl_G), k + e = 16 / 2 ^ d → e < n → kL2 c r → c (10 + q) 4 = nI U → (∀ x, x < 16 → U.testBit x = decide (r 7 (16 * q + x) ≠ -1)) → r 5 p = nI d →
    ∃ c' r', fS_join_L20 n (nI k) (nI (16 / 2 ^ d)) (nI (2 ^ d)) (10 + p) (10 + q) c = some (nI (16 / 2 ^ d), c') ∧ fR_merge_L12 n (nI k) (nI (2 ^ d)) (nI p) (nI q) r = some (nI (16 / 2 ^ d), r') ∧ kL2 c' r' ∧ (∀ z, z ≠ 3 → c' z = c z) ∧ (∀ z, z ≠ 2 → z ≠ 7 → r' z = r z) ∧ ∀ x, r' 7 x = if 16 * p + k ≤ x ∧ x < 16 * p + 16 / 2 ^ d ∧ r 7 (16 * q + (x - 16 * p)) ≠ -1 then r 7 (16 * q + (x - 16 * p)) else r 7 x
  | 0, n + 1, k, c, r, hk, hn, k2, eU, hb, e5 => by
    have h2 := c2_le hd
    refine ⟨c, r, ?_, ?_, k2, fun _ _ => rfl, fun _ _ _ => rfl, fun x => by rw [if_neg (by omega)]⟩
    · show fS_join_B20 _ _ _ _ _ _ _ = _
      rw [fS_join_B20, show k = 16 / 2 ^ d by omega, if_pos (nI_le (Nat.le_refl _) (by omega))]
    · show fR_merge_B12 _ _ _ _ _ _ = _
      rw [fR_merge_B12, fl_ck_pos (fl_in_nI hp (by decide)), nI_clamp (by omega), e5, cells_spec r hd, fl_bd_mk, show k = 16 / 2 ^ d by omega, if_pos (nI_le (Nat.le_refl _) (by omega))]
  | e + 1, n + 1, k, c, r, hk, hn, k2, eU, hb, e5 => by
    have h2 := c2_le hd
    have hkw := (cell_iff (a := 0) (s := 0) (p2_cases hd) (show k < 16 / 2 ^ d by omega)).2.2
    have e7x : ∀ x, x < 16 → 16 * q + x ≠ 16 * p + k := fun x hx => by omega
    have sC : fS_join_L20 (n + 1) (nI k) (nI (16 / 2 ^ d)) (nI (2 ^ d)) (10 + p) (10 + q) c = if r 7 (16 * q + k) = -1 then fS_join_L20 n (nI (k + 1)) (nI (16 / 2 ^ d)) (nI (2 ^ d)) (10 + p) (10 + q) c else fl_bd (fP_copy (nI q) (nI p) (nI (k * 2 ^ d)) (nI (2 ^ d)) c) (fun _ g17 => fS_join_L20 n (nI (k + 1)) (nI (16 / 2 ^ d)) (nI (2 ^ d)) (10 + p) (10 + q) g17) := by
      show fS_join_B20 _ _ _ _ _ _ _ = _
      rw [fS_join_B20, if_neg (nI_ge (by omega) (by omega)), fl_ck_pos (mc_kdM hq), isUsed_spec hq (by omega) hU eU (hb k (by omega)), fl_bd_mk, nI_1, fl_ck_pos (mc_kdM hp), pk_mul, show Int32.ofNat (10 + q - 10) = nI q by rw [show 10 + q - 10 = q by omega]; rfl, show Int32.ofNat (10 + p - 10) = nI p by rw [show 10 + p - 10 = p by omega]; rfl]
      by_cases y : r 7 (16 * q + k) = -1
      · rw [if_pos y, if_pos rfl, if_pos y]
      · rw [if_neg y, if_neg one_ne, if_neg y]
    have sR : fR_merge_L12 (n + 1) (nI k) (nI (2 ^ d)) (nI p) (nI q) r = if r 7 (16 * q + k) = -1 then fR_merge_L12 n (nI (k + 1)) (nI (2 ^ d)) (nI p) (nI q) r else fl_bd (fR_merge_L72 1000 (nI (k * 2 ^ d)) (nI k) (nI (2 ^ d)) (nI p) (nI q) (fl_up r 7 (16 * p + k) (r 7 (16 * q + k)))) (fun _ g17 => fR_merge_L12 n (nI (k + 1)) (nI (2 ^ d)) (nI p) (nI q) g17) := by
      show fR_merge_B12 _ _ _ _ _ _ = _
      rw [fR_merge_B12, fl_ck_pos (fl_in_nI hp (by decide)), nI_clamp (by omega), e5, cells_spec r hd, fl_bd_mk, if_neg (nI_ge (by omega) (by omega)), show (16 : Int32) = nI 16 from rfl, pk_mul, pk_mul, nI_add, nI_add, pk_mul, nI_1]
      simp only [fl_ck_pos (fl_in_nI (show 16 * q + k < 192 by omega) (show 192 < 2 ^ 31 by decide)), fl_ck_pos (fl_in_nI (show 16 * p + k < 192 by omega) (show 192 < 2 ^ 31 by decide)), nI_clamp (show 16 * q + k < 2 ^ 31 by omega), nI_clamp (show 16 * p + k < 2 ^ 31 by omega)]
    rw [sC, sR]
    by_cases y : r 7 (16 * q + k) = -1
    · rw [if_pos y, if_pos y]
      obtain ⟨c', r', f1, f2, f3, f4, f5, f6⟩ := copy_L hp hq hpq hd hU e n (k + 1) c r (by omega) (by omega) k2 eU hb e5
      refine ⟨c', r', f1, f2, f3, f4, f5, fun x => ?_⟩
      rw [f6 x]
      by_cases z : 16 * p + k ≤ x ∧ x < 16 * p + 16 / 2 ^ d ∧ r 7 (16 * q + (x - 16 * p)) ≠ -1
      · have : x ≠ 16 * p + k := fun w => by
          apply z.2.2; rw [w, show 16 * p + k - 16 * p = k by omega]; exact y
        rw [if_pos ⟨by omega, z.2⟩, if_pos z]
      · rw [if_neg (fun w => z ⟨by omega, w.2⟩), if_neg z]
    · rw [if_neg y, if_neg y]
      obtain ⟨c1, a1, a2, a3⟩ := copy_spec c hp hq (b := k * 2 ^ d) (w := 2 ^ d) hkw
      obtain ⟨r1, hr1⟩ : ∃ r1, r1 = fl_up r 7 (16 * p + k) (r 7 (16 * q + k)) := ⟨_, rfl⟩
      have r17 : ∀ x, r1 7 x = if x = 16 * p + k then r 7 (16 * q + k) else r 7 x := fun x => by rw [hr1, fl_up_at]; simp
      have r1q : ∀ z, z ≠ 7 → r1 z = r z := fun z hz => by rw [hr1, fl_up_ne _ _ _ hz]
      obtain ⟨r2, b1, b2, b3⟩ := word_L hp hq hpq hkw (2 ^ d) 1000 (k * 2 ^ d) r1 (by omega) (by have := p2_le hd; omega)
      rw [a1, fl_bd_mk, ← hr1, b1, fl_bd_mk]
      obtain ⟨c', r', f1, f2, f3, f4, f5, f6⟩ := copy_L hp hq hpq hd hU e n (k + 1) c1 r2 (by omega) (by omega) (fun x hx => by
        rw [a3, b3, r1q 2 (by decide)]
        by_cases z : 16 * p + k * 2 ^ d ≤ x ∧ x < 16 * p + (k * 2 ^ d + 2 ^ d)
        · rw [if_pos z, if_pos z]; exact k2 _ (by omega)
        · rw [if_neg z, if_neg z]; exact k2 x hx) (by rw [a2 _ (by omega)]; exact eU) (fun x hx => by rw [b2 7 (by decide), r17, if_neg (e7x x hx)]; exact hb x hx) (by rw [b2 5 (by decide), r1q 5 (by decide)]; exact e5)
      refine ⟨c', r', f1, f2, f3, fun z hz => by rw [f4 z hz, a2 z hz], fun z h2 h7 => by rw [f5 z h2 h7, b2 z h2, r1q z h7], fun x => ?_⟩
      rw [f6 x, b2 7 (by decide), r17, r17]
      by_cases w : x = 16 * p + k
      · rw [if_neg (by omega), if_pos w, if_pos ⟨by omega, by omega, by rw [w, show 16 * p + k - 16 * p = k by omega]; exact y⟩, w, show 16 * p + k - 16 * p = k by omega]
      · rw [if_neg w]
        by_cases z1 : 16 * p + (k + 1) ≤ x ∧ x < 16 * p + 16 / 2 ^ d
        · rw [if_neg (e7x (x - 16 * p) (by omega))]
          by_cases z2 : r 7 (16 * q + (x - 16 * p)) = -1
          · rw [if_neg (fun w => w.2.2 z2), if_neg (fun w => w.2.2 z2)]
          · rw [if_pos ⟨z1.1, z1.2, z2⟩, if_pos ⟨by omega, z1.2, z2⟩]
        · rw [if_neg (fun w => z1 ⟨w.1, w.2.1⟩), if_neg (fun w => z1 ⟨by omega, w.2.1⟩)]
theorem span_map {c r c1 r1 : fl_G} {v p : Nat} (hv : v < 24) (hp : p < 12) (k3 : kL3 c r) (k4 : kL4 c r) (ev : r 3 v = -1)
    (a3 : ∀ x, x < 24 → r1 3 x = if x = v then nI p else r 3 x) (b4 : ∀ x, c1 4 x = if x = v then nI p else c 4 x) (b5 : ∀ x, c1 5 x = if x = p then c 5 p + 1 else c 5 x) : kL3 c1 r1 ∧ kL4 c1 r1 := by
  refine ⟨fun x hx => by rw [b4 x, a3 x hx, k3 x hx], fun x hx => ?_⟩
  rw [b5 x]
  by_cases e : x = p
  · subst e
    rw [if_pos rfl, k4 x hx, nI_1]
    refine congrArg nI ?_
    refine (cr_more (P := fun w => decide (r 3 w = nI x)) (Q := fun w => decide (r1 3 w = nI x)) 24 0 v (by omega) (by omega) ?_ ?_ (fun w _ hw hne => ?_)).symm
    · simp [ev, (nI_m1 (show x < 2 ^ 31 by omega)).symm]
    · simp [a3 v hv]
    · simp [a3 w (by omega), hne]
  · rw [if_neg e, k4 x hx]
    refine congrArg nI (cr_congr 24 0 (fun w _ hw => ?_))
    by_cases e2 : w = v
    · subst e2
      simp [a3 w (by omega), ev, (nI_m1 (show x < 2 ^ 31 by omega)).symm, nI_ne (show p < 2 ^ 31 by omega) (show x < 2 ^ 31 by omega) (Ne.symm e)]
    · simp [a3 w (by omega), e2]
theorem remap_L {p q : Nat} (hp : p < 12) (hq : q < 12) (y : Int32) : ∀ (e n i : Nat) (c r : fl_G), i + e = 24 → e < n → kL3 c r → kL4 c r → ∃ c' r', fP_remapAllOf_L2 n (nI i) (nI q) (nI p) c = some (nI 24, c') ∧ fR_merge_L122 n (nI i) y (nI p) (nI q) r = some (nI 24, r') ∧ kL3 c' r' ∧ kL4 c' r' ∧ (∀ z, z ≠ 4 → z ≠ 5 → c' z = c z) ∧ (∀ z, z ≠ 3 → r' z = r z) ∧ (∀ z, r' 3 z = if i ≤ z ∧ z < 24 ∧ r 3 z = nI q then nI p else r 3 z)
  | 0, n + 1, i, c, r, hi, hn, k3, k4 => by
    refine ⟨c, r, ?_, ?_, k3, k4, fun _ _ _ => rfl, fun _ _ => rfl, fun z => by rw [if_neg (by omega)]⟩
    · show fP_remapAllOf_B2 _ _ _ _ _ = _
      rw [fP_remapAllOf_B2, show i = 24 by omega, if_pos (show (24 : Int32) ≤ nI 24 by decide)]
    · show fR_merge_B122 _ _ _ _ _ _ = _
      rw [fR_merge_B122, show i = 24 by omega, if_pos (show (24 : Int32) ≤ nI 24 by decide)]
  | e + 1, n + 1, i, c, r, hi, hn, k3, k4 => by
    have hi24 : i < 24 := by omega
    have sC : fP_remapAllOf_L2 (n + 1) (nI i) (nI q) (nI p) c = if r 3 i = nI q then fl_bd (fP_unmap (nI i) c) (fun _ g6 => fl_bd (fP_map (nI i) (nI p) g6) (fun _ g9 => fP_remapAllOf_L2 n (nI (i + 1)) (nI q) (nI p) g9)) else fP_remapAllOf_L2 n (nI (i + 1)) (nI q) (nI p) c := by
      show fP_remapAllOf_B2 _ _ _ _ _ = _
      rw [fP_remapAllOf_B2, if_neg (n_24 hi24), fl_ck_pos (fl_in_nI hi24 (by decide)), nI_clamp (by omega), k3 i hi24, nI_1]
    have sR : fR_merge_L122 (n + 1) (nI i) y (nI p) (nI q) r = fR_merge_L122 n (nI (i + 1)) y (nI p) (nI q) (fl_up r 3 i (if r 3 i = nI q then nI p else r 3 i)) := by
      show fR_merge_B122 _ _ _ _ _ _ = _
      rw [fR_merge_B122, if_neg (n_24 hi24)]
      simp only [fl_ck_pos (fl_in_nI hi24 (show 24 < 2 ^ 31 by decide)), nI_clamp (show i < 2 ^ 31 by omega), nI_1]
      by_cases w : r 3 i = nI q
      · rw [if_pos w, if_pos w]
      · rw [if_neg w, if_neg w]
    obtain ⟨r1, hr1⟩ : ∃ r1, r1 = fl_up r 3 i (if r 3 i = nI q then nI p else r 3 i) := ⟨_, rfl⟩
    have r13 : ∀ x, r1 3 x = if x = i ∧ r 3 i = nI q then nI p else r 3 x := fun x => by
      rw [hr1, fl_up_at]
      by_cases w : x = i
      · subst w; simp
      · simp [w]
    have r1q : ∀ z, z ≠ 3 → r1 z = r z := fun z hz => by rw [hr1, fl_up_ne _ _ _ hz]
    obtain ⟨c2, s1, s2, s3, s4⟩ : ∃ c2, fP_remapAllOf_L2 (n + 1) (nI i) (nI q) (nI p) c = fP_remapAllOf_L2 n (nI (i + 1)) (nI q) (nI p) c2 ∧ (∀ z, z ≠ 4 → z ≠ 5 → c2 z = c z) ∧ kL3 c2 r1 ∧ kL4 c2 r1 := by
      by_cases w : r 3 i = nI q
      · obtain ⟨c1, hc1⟩ : ∃ c1, c1 = fl_up (fl_up c 5 q (c 5 q - 1)) 4 i (-1) := ⟨_, rfl⟩
        obtain ⟨c2, hc2⟩ : ∃ c2, c2 = fl_up (fl_up c1 4 i (nI p)) 5 p (c1 5 p + 1) := ⟨_, rfl⟩
        obtain ⟨rm, hrm⟩ : ∃ rm, rm = fl_up r 3 i (-1) := ⟨_, rfl⟩
        have rm3 : ∀ x, rm 3 x = if x = i then -1 else r 3 x := fun x => by rw [hrm, fl_up_at]; simp
        obtain ⟨l3, l4⟩ := span_close (c1 := c1) (r1 := rm) hi24 hq k3 k4 w (fun x _ => rm3 x) (fun x => by rw [hc1, fl_up_at, fl_up_ne _ _ _ (by decide)]; simp) (fun x => by rw [hc1, fl_up_ne _ _ _ (by decide), fl_up_at]; simp)
        obtain ⟨m3, m4⟩ := span_map (c1 := c2) (r1 := r1) hi24 hp l3 l4 (by rw [rm3, if_pos rfl]) (fun x _ => by
          rw [r13, rm3]
          by_cases y : x = i
          · rw [if_pos ⟨y, w⟩, if_pos y]
          · rw [if_neg (fun z => y z.1), if_neg y, if_neg y]) (fun x => by rw [hc2, fl_up_ne _ _ _ (by decide), fl_up_at]; simp) (fun x => by rw [hc2, fl_up_at, fl_up_ne _ _ _ (by decide)]; simp)
        refine ⟨c2, ?_, fun z h4 h5 => by rw [hc2, fl_up_ne _ _ _ h5, fl_up_ne _ _ _ h4, hc1, fl_up_ne _ _ _ h4, fl_up_ne _ _ _ h5], m3, m4⟩
        rw [sC, if_pos w, unmap_spec k3 hi24 hq w, fl_bd_mk, ← hc1, map_spec c1 hi24 hp, fl_bd_mk, ← hc2]
      · have e13 : r1 3 = r 3 := funext (fun x => by rw [r13, if_neg (fun z => w z.2)])
        refine ⟨c, by rw [sC, if_neg w], fun _ _ _ => rfl, fun v hv => by rw [e13]; exact k3 v hv, fun v hv => by unfold vc; rw [e13]; exact k4 v hv⟩
    obtain ⟨c', r', f1, f2, f3, f4, f5, f6, f7⟩ := remap_L hp hq y e n (i + 1) c2 r1 (by omega) (by omega) s3 s4
    refine ⟨c', r', by rw [s1, f1], by rw [sR, ← hr1, f2], f3, f4, fun z h4 h5 => by rw [f5 z h4 h5, s2 z h4 h5], fun z hz => by rw [f6 z hz, r1q z hz], fun z => ?_⟩
    rw [f7 z, r13 z]
    by_cases y : z = i
    · subst y
      rw [if_neg (by omega)]
      by_cases w : r 3 z = nI q
      · rw [if_pos ⟨rfl, w⟩, if_pos ⟨by omega, hi24, w⟩]
      · rw [if_neg (fun x => w x.2), if_neg (fun x => w x.2.2)]
    · rw [if_neg (show ¬ (z = i ∧ r 3 i = nI q) from fun x => y x.1)]
      by_cases w : i ≤ z ∧ z < 24 ∧ r 3 z = nI q
      · rw [if_pos ⟨by omega, w.2⟩, if_pos w]
      · rw [if_neg (fun x => w ⟨by omega, x.2⟩), if_neg w]
