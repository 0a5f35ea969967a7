theorem n_192 {i : Nat} (h : i < 192) : ¬ (192 : Int32) ≤ nI i := fun q => nI_ge (a := i) (b := 192) h (by decide) q
/-! rows of words, of marks -/
theorem zero_L {a m : Nat} (h : a + m ≤ 192) : ∀ (d n i : Nat) (r : fl_G), i + d = a + m → d < n → ∃ r', fR_zero_L2 n (nI i) (nI a) (nI m) r = some (nI (a + m), r') ∧ (∀ q, q ≠ 2 → r' q = r q) ∧ ∀ x, r' 2 x = if i ≤ x ∧ x < a + m then 0 else r 2 x
  | 0, n + 1, i, r, hi, hn => by
    refine ⟨r, ?_, fun _ _ => rfl, fun x => by rw [if_neg (by omega)]⟩
    show fR_zero_B2 _ _ _ _ _ = _
    rw [fR_zero_B2, nI_add, show i = a + m by omega, if_pos (nI_le (Nat.le_refl _) (by omega))]
  | d + 1, n + 1, i, r, hi, hn => by
    obtain ⟨r', h1, h2, h3⟩ := zero_L h d n (i + 1) (fl_up r 2 i 0) (by omega) (by omega)
    refine ⟨r', ?_, fun q hq => by rw [h2 q hq, fl_up_ne r _ _ hq], fun x => ?_⟩
    · show fR_zero_B2 _ _ _ _ _ = _
      rw [fR_zero_B2, nI_add, if_neg (nI_ge (by omega) (by omega)), fl_ck_pos (fl_in_nI (by omega) (by decide)), nI_clamp (by omega), nI_1, h1]
    · rw [h3 x, fl_up_at]
      by_cases e : x = i
      · subst e; rw [if_neg (by omega), if_pos ⟨rfl, rfl⟩, if_pos (by omega)]
      · by_cases e2 : i ≤ x ∧ x < a + m
        · rw [if_pos (by omega), if_pos e2]
        · rw [if_neg (by omega), if_neg (fun q => e q.2), if_neg e2]
theorem zero_spec (r : fl_G) {a m : Nat} (h : a + m ≤ 192) : ∃ r', fR_zero (nI a) (nI m) r = some ((), r') ∧ (∀ q, q ≠ 2 → r' q = r q) ∧ ∀ x, r' 2 x = if a ≤ x ∧ x < a + m then 0 else r 2 x := by
  obtain ⟨r', h1, h2, h3⟩ := zero_L h m 1000 a r rfl (by omega)
  exact ⟨r', by rw [fR_zero, h1, fl_bd_mk], h2, h3⟩
theorem clear_L {a m : Nat} (h : a + m ≤ 192) : ∀ (d n i : Nat) (r : fl_G), i + d = a + m → d < n → ∃ r', fP_clearPlaces_L6 n (nI i) (nI a) (nI m) r = some (nI (a + m), r') ∧ (∀ q, q ≠ 3 → r' q = r q) ∧ ∀ x, r' 3 x = if i ≤ x ∧ x < a + m then 0 else r 3 x
  | 0, n + 1, i, r, hi, hn => by
    refine ⟨r, ?_, fun _ _ => rfl, fun x => by rw [if_neg (by omega)]⟩
    show fP_clearPlaces_B6 _ _ _ _ _ = _
    rw [fP_clearPlaces_B6, nI_add, show i = a + m by omega, if_pos (nI_le (Nat.le_refl _) (by omega))]
  | d + 1, n + 1, i, r, hi, hn => by
    obtain ⟨r', h1, h2, h3⟩ := clear_L h d n (i + 1) (fl_up r 3 i 0) (by omega) (by omega)
    refine ⟨r', ?_, fun q hq => by rw [h2 q hq, fl_up_ne r _ _ hq], fun x => ?_⟩
    · show fP_clearPlaces_B6 _ _ _ _ _ = _
      rw [fP_clearPlaces_B6, nI_add, if_neg (nI_ge (by omega) (by omega)), if_neg (n_192 (by omega)), fl_ck_pos (fl_in_nI (by omega) (by decide)), nI_clamp (by omega), nI_1, h1]
    · rw [h3 x, fl_up_at]
      by_cases e : x = i
      · subst e; rw [if_neg (by omega), if_pos ⟨rfl, rfl⟩, if_pos (by omega)]
      · by_cases e2 : i ≤ x ∧ x < a + m
        · rw [if_pos (by omega), if_pos e2]
        · rw [if_neg (by omega), if_neg (fun q => e q.2), if_neg e2]
theorem clear_spec (c : fl_G) {a m : Nat} (h : a + m ≤ 192) : ∃ c', fP_clearPlaces (nI a) (nI m) c = some ((), c') ∧ (∀ q, q ≠ 3 → c' q = c q) ∧ ∀ x, c' 3 x = if a ≤ x ∧ x < a + m then 0 else c 3 x := by
  obtain ⟨r', h1, h2, h3⟩ := clear_L h m 1000 a c rfl (by omega)
  exact ⟨r', by rw [fP_clearPlaces, if_neg (nI_pos (by omega)), h1, fl_bd_mk], h2, h3⟩
theorem mark_L {a m : Nat} (b : Int32) (h : a + m ≤ 384) : ∀ (d n i : Nat) (r : fl_G), i + d = a + m → d < n → ∃ r', fB_mark_L3 n (nI i) (nI a) (nI m) b r = some (nI (a + m), r') ∧ (∀ q, q ≠ 8 → r' q = r q) ∧ ∀ x, r' 8 x = if i ≤ x ∧ x < a + m then b &&& 1 else r 8 x
  | 0, n + 1, i, r, hi, hn => by
    refine ⟨r, ?_, fun _ _ => rfl, fun x => by rw [if_neg (by omega)]⟩
    show fB_mark_B3 _ _ _ _ _ _ = _
    rw [fB_mark_B3, nI_add, show i = a + m by omega, if_pos (nI_le (Nat.le_refl _) (by omega))]
  | d + 1, n + 1, i, r, hi, hn => by
    obtain ⟨r', h1, h2, h3⟩ := mark_L b h d n (i + 1) (fl_up r 8 i (b &&& 1)) (by omega) (by omega)
    refine ⟨r', ?_, fun q hq => by rw [h2 q hq, fl_up_ne r _ _ hq], fun x => ?_⟩
    · show fB_mark_B3 _ _ _ _ _ _ = _
      rw [fB_mark_B3, nI_add, if_neg (nI_ge (by omega) (by omega)), if_neg (n_384 (by omega)), fl_ck_pos (fl_in_nI (by omega) (by decide)), nI_clamp (by omega), nI_1, h1]
    · rw [h3 x, fl_up_at]
      by_cases e : x = i
      · subst e; rw [if_neg (by omega), if_pos ⟨rfl, rfl⟩, if_pos (by omega)]
      · by_cases e2 : i ≤ x ∧ x < a + m
        · rw [if_pos (by omega), if_pos e2]
        · rw [if_neg (by omega), if_neg (fun q => e q.2), if_neg e2]
theorem mark_spec (c : fl_G) (b : Int32) {a m : Nat} (h : a + m ≤ 384) (hm : m < 900) : ∃ c', fB_mark (nI a) (nI m) b c = some ((), c') ∧ (∀ q, q ≠ 8 → c' q = c q) ∧ ∀ x, c' 8 x = if a ≤ x ∧ x < a + m then b &&& 1 else c 8 x := by
  obtain ⟨r', h1, h2, h3⟩ := mark_L b h m 1000 a c rfl (by omega)
  exact ⟨r', by rw [fB_mark, h1, fl_bd_mk], h2, h3⟩
theorem add_spec (c : fl_G) {a m : Nat} (ha : a < 384) (h : a + m ≤ 384) : ∃ c', fB_add (nI a) (nI m) c = some ((), c') ∧ (∀ q, q ≠ 6 → q ≠ 7 → q ≠ 8 → c' q = c q) ∧ (∀ x, c' 7 x = if x = a then nI m else c 7 x) ∧ (∀ x, c' 8 x = if a ≤ x ∧ x < a + m then 1 else c 8 x) ∧ c' 6 2 = c 6 2 + 1 := by
  obtain ⟨c1, h1, h2, h3⟩ := mark_spec (fl_up c 7 a (nI m)) 1 h (by omega)
  refine ⟨fl_up c1 6 2 (c1 6 2 + 1), ?_, fun q q6 q7 q8 => ?_, fun x => ?_, fun x => ?_, ?_⟩
  · rw [fB_add, isAddress_yes c ha, fl_bd_mk, if_neg one_ne, fl_ck_pos (fl_in_nI ha (by decide)), nI_clamp (by omega), h1, fl_bd_mk]
  · rw [fl_up_ne _ _ _ q6, h2 q q8, fl_up_ne _ _ _ q7]
  · rw [fl_up_ne _ _ _ (by decide), h2 7 (by decide), fl_up_at]; simp
  · rw [fl_up_ne _ _ _ (by decide), h3 x, fl_up_ne _ _ _ (by decide)]; rfl
  · rw [fl_up_self, h2 6 (by decide), fl_up_ne _ _ _ (by decide)]
theorem map_spec (c : fl_G) {v p : Nat} (hv : v < 24) (hp : p < 12) : fP_map (nI v) (nI p) c = some ((), fl_up (fl_up c 4 v (nI p)) 5 p (c 5 p + 1)) := by
  rw [fP_map, isVirtual_yes c hv, fl_bd_mk, if_neg one_ne, isPhysical_yes c hp, fl_bd_mk, if_neg one_ne, fl_ck_pos (fl_in_nI hv (by decide)), fl_ck_pos (fl_in_nI hp (by decide)), fl_ck_pos (fl_in_nI hp (by decide)), nI_clamp (by omega), nI_clamp (by omega), fl_up_ne c _ _ (show 5 ≠ 4 by decide)]
theorem open_spec (c : fl_G) {v p : Nat} (hv : v < 24) (hp : p < 12) : ∃ c', fP_open (nI v) (nI p) c = some ((), c') ∧ (∀ q, q ≠ 3 → q ≠ 4 → q ≠ 5 → c' q = c q) ∧ (∀ x, c' 4 x = if x = v then nI p else c 4 x) ∧ (∀ x, c' 5 x = if x = p then c 5 p + 1 else c 5 x) ∧ ∀ x, c' 3 x = if 16 * p ≤ x ∧ x < 16 * p + 16 then 0 else c 3 x := by
  obtain ⟨c1, h1, h2, h3⟩ := clear_spec (fl_up (fl_up c 4 v (nI p)) 5 p (c 5 p + 1)) (a := 16 * p) (m := 16) (by omega)
  refine ⟨c1, ?_, fun q q3 q4 q5 => ?_, fun x => ?_, fun x => ?_, fun x => ?_⟩
  · rw [fP_open, map_spec c hv hp, fl_bd_mk, show (16 : Int32) = nI 16 from rfl, pk_mul, Nat.mul_comm p 16, h1, fl_bd_mk]
  · rw [h2 q q3, fl_up_ne _ _ _ q5, fl_up_ne _ _ _ q4]
  · rw [h2 4 (by decide), fl_up_ne _ _ _ (by decide), fl_up_at]; simp
  · rw [h2 5 (by decide), fl_up_at]; simp only [true_and]
    by_cases e : x = p
    · rw [if_pos e, if_pos e]
    · rw [if_neg e, if_neg e, fl_up_ne _ _ _ (by decide)]
  · rw [h3 x, fl_up_ne _ _ _ (by decide), fl_up_ne _ _ _ (by decide)]
theorem nI_inj {a b : Nat} (ha : a < 2 ^ 31) (hb : b < 2 ^ 31) (h : nI a = nI b) : a = b := (nI_eq ha hb).mp h
/-! a span is opened: p was free, v unmapped -/
theorem span_open {c r c1 r1 : fl_G} {v p : Nat} (hv : v < 24) (hp : p < 12) (i1 : rI1 r) (i3 : rI3 r) (k2 : kL2 c r) (k3 : kL3 c r) (k4 : kL4 c r) (ev : r 3 v = -1) (ep : r 1 p = 0) {u : Int32} (hu : u ≠ 0)
    (a1 : ∀ x, r1 1 x = if x = p then u else r 1 x) (a3 : ∀ x, r1 3 x = if x = v then nI p else r 3 x) (a2 : ∀ x, r1 2 x = if 16 * p ≤ x ∧ x < 16 * p + 16 then 0 else r 2 x)
    (b4 : ∀ x, c1 4 x = if x = v then nI p else c 4 x) (b5 : ∀ x, c1 5 x = if x = p then c 5 p + 1 else c 5 x) (b3 : ∀ x, c1 3 x = if 16 * p ≤ x ∧ x < 16 * p + 16 then 0 else c 3 x) : rI1 r1 ∧ rI3 r1 ∧ kL2 c1 r1 ∧ kL3 c1 r1 ∧ kL4 c1 r1 := by
  have hm : (-1 : Int32) ≠ nI p := (nI_m1 (by omega)).symm
  refine ⟨fun x hx => ?_, fun x hx => ?_, fun x hx => ?_, fun x hx => ?_, fun x hx => ?_⟩
  · rw [a3 x]
    by_cases e : x = v
    · rw [if_pos e]; exact Or.inr ⟨p, hp, rfl⟩
    · rw [if_neg e]; exact i1 x hx
  · rw [a1 x]
    by_cases e : x = p
    · rw [if_pos e]
      constructor
      · intro h; exact absurd h hu
      · intro h
        exact absurd (by rw [a3 v, if_pos rfl, e]) (h v hv)
    · rw [if_neg e, i3 x hx]
      constructor
      · intro h w hw
        rw [a3 w]
        by_cases e2 : w = v
        · rw [if_pos e2]; exact nI_ne (by omega) (by omega) (Ne.symm e)
        · rw [if_neg e2]; exact h w hw
      · intro h w hw
        have := h w hw
        rw [a3 w] at this
        by_cases e2 : w = v
        · rw [e2, ev]; exact (nI_m1 (by omega)).symm
        · rw [if_neg e2] at this; exact this
  · rw [b3 x, a2 x, k2 x hx]
  · rw [b4 x, a3 x, k3 x hx]
  · rw [b5 x]
    by_cases e : x = p
    · subst e
      rw [if_pos rfl, k4 x hx, nI_1]
      refine congrArg nI ?_
      refine (cr_more (P := fun w => decide (r 3 w = nI x)) (Q := fun w => decide (r1 3 w = nI x)) 24 0 v (by omega) (by omega) ?_ ?_ (fun w _ _ hw => ?_)).symm
      · simp [ev, hm]
      · simp [a3]
      · simp [a3, hw]
    · rw [if_neg e, k4 x hx]
      refine congrArg nI ?_
      refine cr_congr 24 0 (fun w _ _ => ?_)
      by_cases e2 : w = v
      · subst e2
        simp [a3, ev, (nI_m1 (show x < 2 ^ 31 by omega)).symm, nI_ne (show p < 2 ^ 31 by omega) (show x < 2 ^ 31 by omega) (Ne.symm e)]
      · simp [a3, e2]
theorem fsp_take {r r1 : fl_G} {p : Nat} (hp : p < 12) (ep : r 1 p = 0) {u : Int32} (hu : u ≠ 0) (a1 : ∀ x, r1 1 x = if x = p then u else r 1 x) : fsp r = fsp r1 + 1 := by
  refine cr_more (P := fun x => decide (r1 1 x = 0)) (Q := fun x => decide (r 1 x = 0)) 12 0 p (by omega) (by omega) ?_ ?_ (fun x _ _ hx => ?_)
  · simp [a1, hu]
  · simp [ep]
  · simp [a1, hx]
theorem two_ne : (2 : Int32) ≠ 0 := by decide
theorem big_loop {n s : Nat} (hs : s + n ≤ 24) (hn : n ≤ 4) : ∀ (d m j : Nat) (c r : fl_G), j + d = n → d < m → rI1 r → rI3 r → kL2 c r → kL3 c r → kL4 c r → d ≤ fsp r → (∀ t, j ≤ t → t < n → r 3 (s + t) = -1) →
    ∃ c' r', fS_makeLarge_L29 m (nI j) (nI s) (nI n) c = some (nI n, c') ∧ fR_big_L24 m (nI j) (nI s) (nI n) r = some (nI n, r') ∧ rI1 r' ∧ rI3 r' ∧ kL2 c' r' ∧ kL3 c' r' ∧ kL4 c' r' ∧ (∀ q, q ≠ 1 → q ≠ 2 → q ≠ 3 → r' q = r q) ∧ (∀ q, q ≠ 3 → q ≠ 4 → q ≠ 5 → c' q = c q) ∧
      (∀ v, v < s + j ∨ s + n ≤ v → r' 3 v = r 3 v) ∧ (∀ t, j ≤ t → t < n → ∃ p, p < 12 ∧ r' 3 (s + t) = nI p ∧ r 1 p = 0 ∧ r' 1 p = 2) ∧ (∀ t u, j ≤ t → t < n → j ≤ u → u < n → r' 3 (s + t) = r' 3 (s + u) → t = u) ∧
      (∀ p, p < 12 → r' 1 p = r 1 p ∨ (r 1 p = 0 ∧ r' 1 p = 2 ∧ ∃ t, j ≤ t ∧ t < n ∧ r' 3 (s + t) = nI p))
  | 0, m + 1, j, c, r, hj, hm, i1, i3, k2, k3, k4, hf, ha => by
    refine ⟨c, r, ?_, ?_, i1, i3, k2, k3, k4, fun _ _ _ _ => rfl, fun _ _ _ _ => rfl, fun _ _ => rfl, fun t h1 h2 => by omega, fun t u h1 h2 => by omega, fun p _ => Or.inl rfl⟩
    · show fS_makeLarge_B29 _ _ _ _ _ = _
      rw [fS_makeLarge_B29, show j = n by omega, if_pos (nI_le (Nat.le_refl _) (by omega))]
    · show fR_big_B24 _ _ _ _ _ = _
      rw [fR_big_B24, show j = n by omega, if_pos (nI_le (Nat.le_refl _) (by omega))]
  | d + 1, m + 1, j, c, r, hj, hm, i1, i3, k2, k3, k4, hf, ha => by
    have hp := fsp_lf (r := r) (by omega)
    have ep := lf_free hp
    have eC := lowFree_spec i3 k4
    rw [if_neg (by omega)] at eC
    have eR := freePh_spec r
    generalize lf r = p at hp ep eC eR
    obtain ⟨c1, o1, o2, o3, o4, o5⟩ := open_spec c (v := s + j) (by omega) hp
    obtain ⟨r1, z1, z2, z3⟩ := zero_spec (fl_up (fl_up r 1 p 2) 3 (s + j) (nI p)) (a := 16 * p) (m := 16) (by omega)
    have a1 : ∀ x, r1 1 x = if x = p then 2 else r 1 x := fun x => by rw [z2 1 (by decide), fl_up_ne _ _ _ (by decide), fl_up_at]; simp
    have a3 : ∀ x, r1 3 x = if x = s + j then nI p else r 3 x := fun x => by rw [z2 3 (by decide), fl_up_at, fl_up_ne _ _ _ (by decide)]; simp
    have a2 : ∀ x, r1 2 x = if 16 * p ≤ x ∧ x < 16 * p + 16 then 0 else r 2 x := fun x => by rw [z3 x, fl_up_ne _ _ _ (by decide), fl_up_ne _ _ _ (by decide)]
    have aq : ∀ q, q ≠ 1 → q ≠ 2 → q ≠ 3 → r1 q = r q := fun q h1 h2 h3 => by rw [z2 q h2, fl_up_ne _ _ _ h3, fl_up_ne _ _ _ h1]
    obtain ⟨j1, j3, l2, l3, l4⟩ := span_open (by omega) hp i1 i3 k2 k3 k4 (ha j (Nat.le_refl _) (by omega)) ep two_ne a1 a3 a2 o3 o4 o5
    have hfs := fsp_take hp ep two_ne a1
    obtain ⟨c', r', e1, e2, f1, f3, f4, f5, f6, g1, g2, g3, g4, g5, g6⟩ := big_loop hs hn d m (j + 1) c1 r1 (by omega) (by omega) j1 j3 l2 l3 l4 (by omega) (fun t h1 h2 => by rw [a3, if_neg (by omega)]; exact ha t (by omega) h2)
    have hj3 : r' 3 (s + j) = nI p := by rw [g3 (s + j) (Or.inl (by omega)), a3, if_pos rfl]
    have hp1 : r' 1 p = 2 := by
      rcases g6 p hp with e | ⟨e, -⟩
      · rw [e, a1, if_pos rfl]
      · rw [a1, if_pos rfl] at e; exact absurd e two_ne
    have hne : ∀ q, r1 1 q = 0 → q ≠ p ∧ r 1 q = 0 := fun q e => by
      rw [a1] at e
      by_cases eq : q = p
      · rw [if_pos eq] at e; exact absurd e two_ne
      · rw [if_neg eq] at e; exact ⟨eq, e⟩
    refine ⟨c', r', ?_, ?_, f1, f3, f4, f5, f6, fun q h1 h2 h3 => by rw [g1 q h1 h2 h3, aq q h1 h2 h3], fun q h1 h2 h3 => by rw [g2 q h1 h2 h3, o2 q h1 h2 h3], fun v hv => ?_, fun t h1 h2 => ?_, fun t u h1 h2 h3 h4 he => ?_, fun q hq => ?_⟩
    · show fS_makeLarge_B29 _ _ _ _ _ = _
      rw [fS_makeLarge_B29, if_neg (nI_ge (by omega) (by omega)), eC, fl_bd_mk, nI_add, o1, fl_bd_mk, nI_1, e1]
    · show fR_big_B24 _ _ _ _ _ = _
      rw [fR_big_B24, if_neg (nI_ge (by omega) (by omega)), eR, fl_bd_mk, fl_ck_pos (fl_in_nI hp (by decide)), nI_add, fl_ck_pos (fl_in_nI (by omega) (by decide)), nI_clamp (by omega), nI_clamp (by omega), show (16 : Int32) = nI 16 from rfl, pk_mul, z1, fl_bd_mk, nI_1, e2]
    · rw [g3 v (by omega), a3, if_neg (by omega)]
    · by_cases e : t = j
      · subst e; exact ⟨p, hp, hj3, ep, hp1⟩
      · obtain ⟨q, q1, q2, q3, q4⟩ := g4 t (by omega) h2
        exact ⟨q, q1, q2, (hne q q3).2, q4⟩
    · by_cases e : t = j
      · by_cases e' : u = j
        · omega
        · obtain ⟨q, q1, q2, q3, -⟩ := g4 u (by omega) h4
          rw [e, hj3, q2] at he
          exact absurd (nI_inj (by omega) (by omega) he).symm (hne q q3).1
      · by_cases e' : u = j
        · obtain ⟨q, q1, q2, q3, -⟩ := g4 t (by omega) h2
          rw [e', hj3, q2] at he
          exact absurd (nI_inj (by omega) (by omega) he) (hne q q3).1
        · exact g5 t u (by omega) h2 (by omega) h4 he
    · rcases g6 q hq with e | ⟨e, e2, t, h1, h2, h3⟩
      · rw [e, a1]
        by_cases eq : q = p
        · rw [if_pos eq, eq]
          exact Or.inr ⟨ep, rfl, j, Nat.le_refl _, by omega, hj3⟩
        · rw [if_neg eq]; exact Or.inl rfl
      · exact Or.inr ⟨(hne q e).2, e2, t, by omega, h2, h3⟩
