/-! the entries are shuffled, the marks cleared -/
theorem kd31 : mc_kd 31 = 10 := rfl
theorem ln31 : mc_ln 31 = 12 := rfl
theorem mshuf_L {m : Nat} (hm : m ≤ 12) (y z : Int32) : ∀ (i n : Nat) (c r : fl_G), i < n → i < m → (∀ j, j < m → c 31 j = r 12 j) → c 1 0 = r 0 0 →
    ∃ c' r', fD_shuffle_L4 n (nI i) 31 (nI m) c = some (nI 0, c') ∧ fR_mesh_L37 n (nI i) (nI m) y z r = some (nI 0, r') ∧ (∀ j, j < m → c' 31 j = r' 12 j) ∧ c' 1 0 = r' 0 0 ∧ (∀ q, q ≠ 1 → q ≠ 31 → c' q = c q) ∧ (∀ q, q ≠ 0 → q ≠ 12 → r' q = r q) ∧ (∀ k, k ≠ 0 → r' 0 k = r 0 k) ∧ (∀ j, j < m → ∃ j', j' < m ∧ r' 12 j = r 12 j') ∧ ((∀ a b, a < m → b < m → r 12 a = r 12 b → a = b) → ∀ a b, a < m → b < m → r' 12 a = r' 12 b → a = b)
  | 0, n + 1, c, r, hn, him, hrow, hx => by
    refine ⟨c, r, ?_, ?_, hrow, hx, fun _ _ _ => rfl, fun _ _ _ => rfl, fun _ _ => rfl, fun j hj => ⟨j, hj, rfl⟩, fun h => h⟩
    · show fD_shuffle_B4 _ _ _ _ _ = _
      rw [fD_shuffle_B4, if_pos (show nI 0 < 1 by decide)]
    · show fR_mesh_B37 _ _ _ _ _ _ = _
      rw [fR_mesh_B37, if_pos (show nI 0 < 1 by decide)]
  | i + 1, n + 1, c, r, hn, him, hrow, hx => by
    have hj : dw (r 0 0) (i + 2) < i + 2 := dw_lt (by omega)
    generalize hJ : dw (r 0 0) (i + 2) = j at hj
    obtain ⟨c1, a1, a2, a3⟩ := exch_spec (fl_up c 1 0 (nx (c 1 0))) kd31 ln31 (by omega) (i := i + 1) (j := j) (by omega) (by omega)
    obtain ⟨r0, hr0⟩ : ∃ r0, r0 = fl_up r 0 0 (nx (r 0 0)) := ⟨_, rfl⟩
    obtain ⟨r1, hr1⟩ : ∃ r1, r1 = fl_up (fl_up r0 12 (i + 1) (r0 12 j)) 12 j (r0 12 (i + 1)) := ⟨_, rfl⟩
    have hc31 : (fl_up c 1 0 (nx (c 1 0))) 31 = c 31 := fl_up_ne _ _ _ (by omega)
    have r012 : r0 12 = r 12 := by rw [hr0, fl_up_ne _ _ _ (by decide)]
    have b2 : ∀ q, q ≠ 12 → r1 q = r0 q := fun q hq => by rw [hr1, fl_up_ne _ _ _ hq, fl_up_ne _ _ _ hq]
    have b3 : ∀ x, r1 12 x = xc (r 12) (i + 1) j x := fun x => by
      rw [hr1, fl_up_at, fl_up_at, r012]
      unfold xc
      simp
    have hlt : ¬ nI (i + 1) < 1 := nI_nlt (b := 1) (by omega) (by omega)
    obtain ⟨c', r', e1, e2, e3, e4, e5, e6, e7, e9, e10⟩ := mshuf_L hm y z i n c1 r1 (by omega) (by omega)
      (fun x hx => by
        rw [a3 x, b3 x, hc31]
        unfold xc
        rw [hrow (i + 1) (by omega), hrow j (by omega), hrow x hx])
      (by rw [a2 1 (by omega), b2 0 (by decide), hr0, fl_up_self, fl_up_self, hx])
    refine ⟨c', r', ?_, ?_, e3, e4, ?_, ?_, ?_, ?_, ?_⟩
    · show fD_shuffle_B4 _ _ _ _ _ = _
      rw [fD_shuffle_B4, if_neg hlt, nI_1, below_spec c (by omega) (by omega), fl_bd_mk, hx, show i + 1 + 1 = i + 2 from rfl, hJ, ← hx, a1, fl_bd_mk, pk_m1, e1]
    · show fR_mesh_B37 _ _ _ _ _ _ = _
      rw [fR_mesh_B37, if_neg hlt, nI_1, draw_spec r (by omega) (by omega), fl_bd_mk, show i + 1 + 1 = i + 2 from rfl, hJ, ← hr0, pk_m1]
      simp only [fl_ck_pos (fl_in_nI (show i + 1 < 12 by omega) (show 12 < 2 ^ 31 by decide)), fl_ck_pos (fl_in_nI (show j < 12 by omega) (show 12 < 2 ^ 31 by decide)), nI_clamp (show i + 1 < 2 ^ 31 by omega), nI_clamp (show j < 2 ^ 31 by omega)]
      rw [← hr1, e2]
    · intro q q1 q2; rw [e5 q q1 q2, a2 q q2, fl_up_ne _ _ _ q1]
    · intro q q1 q2; rw [e6 q q1 q2, b2 q q2, hr0, fl_up_ne _ _ _ q1]
    · intro k hk; rw [e7 k hk, b2 0 (by decide), hr0, fl_up_k _ _ hk]
    · intro x hx
      obtain ⟨x1, h1, h2⟩ := e9 x hx
      obtain ⟨x2, h3, h4⟩ := xc_sg (r 12) (show i + 1 < m by omega) (show j < m by omega) h1
      exact ⟨x2, h3, by rw [h2, b3 x1, h4]⟩
    · intro hinj
      apply e10
      intro a b ha hb hab
      rw [b3 a, b3 b] at hab
      exact xc_inj (show i + 1 < m by omega) (show j < m by omega) hinj a b ha hb hab
theorem undone_L (x y z : Int32) : ∀ (e n i : Nat) (r : fl_G), i + e = 12 → e < n → ∃ r', fR_mesh_L94 n (nI i) x y z r = some (nI 12, r') ∧ (∀ q, q ≠ 13 → r' q = r q) ∧ ∀ t, r' 13 t = if i ≤ t ∧ t < 12 then 0 else r 13 t
  | 0, n + 1, i, r, hi, hn => by
    refine ⟨r, ?_, fun _ _ => rfl, fun t => by rw [if_neg (by omega)]⟩
    show fR_mesh_B94 _ _ _ _ _ _ = _
    rw [fR_mesh_B94, show i = 12 by omega, if_pos (show (12 : Int32) ≤ nI 12 by decide)]
  | e + 1, n + 1, i, r, hi, hn => by
    obtain ⟨r', h1, h2, h3⟩ := undone_L x y z e n (i + 1) (fl_up r 13 i 0) (by omega) (by omega)
    refine ⟨r', ?_, fun q hq => by rw [h2 q hq, fl_up_ne _ _ _ hq], fun t => ?_⟩
    · show fR_mesh_B94 _ _ _ _ _ _ = _
      rw [fR_mesh_B94, if_neg (n_12 (by omega)), fl_ck_pos (fl_in_nI (show i < 12 by omega) (by decide)), nI_clamp (by omega), show (0 : Int32) &&& 1 = 0 from rfl, nI_1, h1]
    · rw [h3 t, fl_up_at]
      by_cases e : t = i
      · subst e; rw [if_neg (by omega), if_pos ⟨rfl, rfl⟩, if_pos (by omega)]
      · by_cases e2 : i ≤ t ∧ t < 12
        · rw [if_pos (by omega), if_pos e2]
        · rw [if_neg (by omega), if_neg (fun q => e q.2), if_neg e2]
