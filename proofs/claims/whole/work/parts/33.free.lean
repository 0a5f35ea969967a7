theorem remove_spec (c : fl_G) {a w : Nat} (ha : a < 384) (h7 : c 7 a = nI w) (w1 : 1 ≤ w) (h : a + w ≤ 384) : ∃ c', fB_remove (nI a) c = some ((), c') ∧ (∀ q, q ≠ 6 → q ≠ 7 → q ≠ 8 → c' q = c q) ∧ (∀ x, c' 7 x = if x = a then 0 else c 7 x) ∧ (∀ x, c' 8 x = if a ≤ x ∧ x < a + w then 0 else c 8 x) ∧ c' 6 2 = c 6 2 - 1 := by
  obtain ⟨c1, h1, h2, h3⟩ := mark_spec c 0 h (by omega)
  refine ⟨fl_up (fl_up c1 7 a 0) 6 2 (c 6 2 - 1), ?_, fun q q6 q7 q8 => ?_, fun x => ?_, fun x => ?_, ?_⟩
  · have hb : fB_beginsAt (nI a) c = some (1, c) := by
      rw [fB_beginsAt, fB_wordsAt, isAddress_yes c ha, fl_bd_mk, if_neg one_ne, fl_ck_pos (fl_in_nI ha (by decide)), nI_clamp (by omega), h7, fl_bd_mk, if_neg (nI_nle (by omega) (by omega))]
    rw [fB_remove, hb, fl_bd_mk, if_neg one_ne]
    simp only [nI_clamp (show a < 2 ^ 31 by omega), h7, h1, fl_bd_mk, fl_ck_pos (fl_in_nI ha (show 384 < 2 ^ 31 by decide))]
    rw [fl_up_ne _ _ _ (show 6 ≠ 7 by decide), h2 6 (by decide)]
  · rw [fl_up_ne _ _ _ q6, fl_up_ne _ _ _ q7, h2 q q8]
  · rw [fl_up_ne _ _ _ (by decide), fl_up_at, h2 7 (by decide)]; simp
  · rw [fl_up_ne _ _ _ (by decide), fl_up_ne _ _ _ (by decide), h3 x]; rfl
  · rw [fl_up_self]
theorem dec1 (n : Nat) : nI (n + 1) - 1 = nI n := nI_pred n
/-- a virtual span is no more mapped -/
theorem span_close {c r c1 r1 : fl_G} {v p : Nat} (hv : v < 24) (hp : p < 12) (k3 : kL3 c r) (k4 : kL4 c r) (ev : r 3 v = nI p)
    (a3 : ∀ x, x < 24 → r1 3 x = if x = v then -1 else r 3 x) (b4 : ∀ x, c1 4 x = if x = v then -1 else c 4 x) (b5 : ∀ x, c1 5 x = if x = p then c 5 p - 1 else c 5 x) : kL3 c1 r1 ∧ kL4 c1 r1 := by
  refine ⟨fun x hx => by rw [b4 x, a3 x hx, k3 x hx], fun x hx => ?_⟩
  rw [b5 x]
  by_cases e : x = p
  · subst e
    have := cr_more (P := fun w => decide (r1 3 w = nI x)) (Q := fun w => decide (r 3 w = nI x)) 24 0 v (by omega) (by omega) (by simp [a3 v hv, (nI_m1 (show x < 2 ^ 31 by omega)).symm]) (by simp [ev]) (fun w _ hw hne => by simp [a3 w (by omega), hne])
    have e2 : vc r x = vc r1 x + 1 := this
    rw [if_pos rfl, k4 x hx, e2, dec1]
  · rw [if_neg e, k4 x hx]
    refine congrArg nI (cr_congr 24 0 (fun w _ hw => ?_))
    by_cases e2 : w = v
    · subst e2
      simp [a3 w (by omega), ev, (nI_m1 (show x < 2 ^ 31 by omega)).symm, nI_ne (show p < 2 ^ 31 by omega) (show x < 2 ^ 31 by omega) (Ne.symm e)]
    · simp [a3 w (by omega), e2]
theorem unmap_spec {c r : fl_G} (k3 : kL3 c r) {v p : Nat} (hv : v < 24) (hp : p < 12) (ev : r 3 v = nI p) : fP_unmap (nI v) c = some ((), fl_up (fl_up c 5 p (c 5 p - 1)) 4 v (-1)) := by
  rw [fP_unmap, physOf_eq k3 hv, fl_bd_mk, ev, if_neg (nI_m1 (by omega)), fl_ck_pos (fl_in_nI hp (by decide)), fl_ck_pos (fl_in_nI hp (by decide)), fl_ck_pos (fl_in_nI hv (by decide)), nI_clamp (by omega), nI_clamp (by omega)]
/-- all virtual spans of p, in both states at once -/
theorem release_L {p : Nat} (hp : p < 12) : ∀ (d n i : Nat) (c r : fl_G), i + d = 24 → d < n → kL3 c r → kL4 c r → ∃ c' r', fP_unmapAllOf_L2 n (nI i) (nI p) c = some (nI 24, c') ∧ fR_release_L2 n (nI i) (nI p) r = some (nI 24, r') ∧ kL3 c' r' ∧ kL4 c' r' ∧ (∀ q, q ≠ 4 → q ≠ 5 → c' q = c q) ∧ (∀ q, q ≠ 3 → r' q = r q) ∧ (∀ z, r' 3 z = if i ≤ z ∧ z < 24 ∧ r 3 z = nI p then -1 else r 3 z)
  | 0, n + 1, i, c, r, hi, hn, k3, k4 => by
    refine ⟨c, r, ?_, ?_, k3, k4, fun _ _ _ => rfl, fun _ _ => rfl, fun z => by rw [if_neg (by omega)]⟩
    · show fP_unmapAllOf_B2 _ _ _ _ = _
      rw [fP_unmapAllOf_B2, show i = 24 by omega, if_pos (show (24 : Int32) ≤ nI 24 by decide)]
    · show fR_release_B2 _ _ _ _ = _
      rw [fR_release_B2, show i = 24 by omega, if_pos (show (24 : Int32) ≤ nI 24 by decide)]
  | d + 1, n + 1, i, c, r, hi, hn, k3, k4 => by
    have hi24 : i < 24 := by omega
    have sC : fP_unmapAllOf_L2 (n + 1) (nI i) (nI p) c = if r 3 i = nI p then fl_bd (fP_unmap (nI i) c) (fun _ g6 => fP_unmapAllOf_L2 n (nI (i + 1)) (nI p) g6) else fP_unmapAllOf_L2 n (nI (i + 1)) (nI p) c := by
      show fP_unmapAllOf_B2 _ _ _ _ = _
      rw [fP_unmapAllOf_B2, if_neg (n_24 hi24), fl_ck_pos (fl_in_nI hi24 (by decide)), nI_clamp (by omega), k3 i hi24, nI_1]
    have sR : fR_release_L2 (n + 1) (nI i) (nI p) r = if r 3 i = nI p then fR_release_L2 n (nI (i + 1)) (nI p) (fl_up r 3 i (-1)) else fR_release_L2 n (nI (i + 1)) (nI p) (fl_up r 3 i (r 3 i)) := by
      show fR_release_B2 _ _ _ _ = _
      rw [fR_release_B2, if_neg (n_24 hi24)]
      simp only [fl_ck_pos (fl_in_nI hi24 (show 24 < 2 ^ 31 by decide)), nI_clamp (show i < 2 ^ 31 by omega), nI_1]
    rw [sC, sR]
    by_cases e : r 3 i = nI p
    · rw [if_pos e, if_pos e, unmap_spec k3 hi24 hp e, fl_bd_mk]
      have a3 : ∀ x, (fl_up r 3 i (-1)) 3 x = if x = i then -1 else r 3 x := fun x => by rw [fl_up_at]; simp
      obtain ⟨l3, l4⟩ := span_close (c1 := fl_up (fl_up c 5 p (c 5 p - 1)) 4 i (-1)) (r1 := fl_up r 3 i (-1)) hi24 hp k3 k4 e (fun x _ => a3 x) (fun x => by rw [fl_up_at, fl_up_ne _ _ _ (by decide)]; simp) (fun x => by rw [fl_up_ne _ _ _ (by decide), fl_up_at]; simp)
      obtain ⟨c', r', b1, b2, b3, b4, b5, b6, b7⟩ := release_L hp d n (i + 1) (fl_up (fl_up c 5 p (c 5 p - 1)) 4 i (-1)) (fl_up r 3 i (-1)) (by omega) (by omega) l3 l4
      refine ⟨c', r', b1, b2, b3, b4, fun q q4 q5 => by rw [b5 q q4 q5, fl_up_ne _ _ _ q4, fl_up_ne _ _ _ q5], fun q q3 => by rw [b6 q q3, fl_up_ne _ _ _ q3], fun z => ?_⟩
      rw [b7 z, a3 z]
      by_cases y : z = i
      · subst y
        rw [if_neg (by omega), if_pos rfl, if_pos ⟨by omega, hi24, e⟩]
      · rw [if_neg y]
        by_cases y2 : i ≤ z ∧ z < 24 ∧ r 3 z = nI p
        · rw [if_pos ⟨by omega, y2.2⟩, if_pos y2]
        · rw [if_neg (fun w => y2 ⟨by omega, w.2⟩), if_neg y2]
    · rw [if_neg e, if_neg e]
      have a3 : ∀ x, (fl_up r 3 i (r 3 i)) 3 x = r 3 x := fun x => by
        rw [fl_up_at]
        by_cases y : x = i
        · simp [y]
        · simp [y]
      have a3' : (fl_up r 3 i (r 3 i)) 3 = r 3 := funext a3
      obtain ⟨c', r', b1, b2, b3, b4, b5, b6, b7⟩ := release_L hp d n (i + 1) c (fl_up r 3 i (r 3 i)) (by omega) (by omega) (fun v hv => by rw [a3]; exact k3 v hv) (fun q hq => by unfold vc; rw [a3']; exact k4 q hq)
      refine ⟨c', r', b1, b2, b3, b4, b5, fun q q3 => by rw [b6 q q3, fl_up_ne _ _ _ q3], fun z => ?_⟩
      rw [b7 z, a3 z]
      by_cases y : z = i
      · subst y
        rw [if_neg (by omega), if_neg (fun w => e w.2.2)]
      · by_cases y2 : i ≤ z ∧ z < 24 ∧ r 3 z = nI p
        · rw [if_pos ⟨by omega, y2.2⟩, if_pos y2]
        · rw [if_neg (fun w => y2 ⟨by omega, w.2⟩), if_neg y2]
theorem releaseR_only (r : fl_G) {p : Nat} : ∀ (d n i : Nat) (r : fl_G), i + d = 24 → d < n → ∃ r', fR_release_L2 n (nI i) (nI p) r = some (nI 24, r') ∧ (∀ q, q ≠ 3 → r' q = r q) ∧ (∀ z, r' 3 z = if i ≤ z ∧ z < 24 ∧ r 3 z = nI p then -1 else r 3 z)
  | 0, n + 1, i, r, hi, hn => by
    refine ⟨r, ?_, fun _ _ => rfl, fun z => by rw [if_neg (by omega)]⟩
    show fR_release_B2 _ _ _ _ = _
    rw [fR_release_B2, show i = 24 by omega, if_pos (show (24 : Int32) ≤ nI 24 by decide)]
  | d + 1, n + 1, i, r, hi, hn => by
    have hi24 : i < 24 := by omega
    have sR : fR_release_L2 (n + 1) (nI i) (nI p) r = fR_release_L2 n (nI (i + 1)) (nI p) (fl_up r 3 i (if r 3 i = nI p then -1 else r 3 i)) := by
      show fR_release_B2 _ _ _ _ = _
      rw [fR_release_B2, if_neg (n_24 hi24)]
      simp only [fl_ck_pos (fl_in_nI hi24 (show 24 < 2 ^ 31 by decide)), nI_clamp (show i < 2 ^ 31 by omega), nI_1]
      by_cases e : r 3 i = nI p
      · rw [if_pos e, if_pos e]
      · rw [if_neg e, if_neg e]
    obtain ⟨r', b1, b2, b3⟩ := releaseR_only r d n (i + 1) (fl_up r 3 i (if r 3 i = nI p then -1 else r 3 i)) (by omega) (by omega)
    refine ⟨r', by rw [sR, b1], fun q q3 => by rw [b2 q q3, fl_up_ne _ _ _ q3], fun z => ?_⟩
    rw [b3 z, fl_up_at]; simp only [true_and]
    by_cases y : z = i
    · subst y
      rw [if_neg (by omega), if_pos rfl]
      by_cases e : r 3 z = nI p
      · rw [if_pos e, if_pos ⟨by omega, hi24, e⟩]
      · rw [if_neg e, if_neg (fun w => e w.2.2)]
    · rw [if_neg y]
      by_cases y2 : i ≤ z ∧ z < 24 ∧ r 3 z = nI p
      · rw [if_pos ⟨by omega, y2.2⟩, if_pos y2]
      · rw [if_neg (fun w => y2 ⟨by omega, w.2⟩), if_neg y2]
/-- an empty miniheap that no class holds is released -/
theorem release_rel {c r c' r' : fl_G} {p : Nat} (h : Rl 0 c r) (hp : p < 12) (hu : r 1 p = 1) (hf : ∀ k, k < 16 → r 7 (16 * p + k) = -1) (hnh : ∀ d, d < 4 → r 9 d ≠ nI p)
    (a1 : ∀ x, r' 1 x = if x = p then 0 else r 1 x) (a3 : ∀ z, r' 3 z = if z < 24 ∧ r 3 z = nI p then -1 else r 3 z) (aq : ∀ q, q ≠ 1 → q ≠ 3 → r' q = r q)
    (l3 : kL3 c' r') (l4 : kL4 c' r') (bM : c' (10 + p) 2 = -1) (b7 : ∀ x, c' 7 x = c 7 x) (b8 : ∀ x, c' 8 x = c 8 x) (b6 : c' 6 2 = c 6 2) (bq : ∀ q, q ≠ 4 → q ≠ 5 → q ≠ 6 → q ≠ 7 → q ≠ 8 → q ≠ 10 + p → c' q = c q) : Rl 0 c' r' := by
  obtain ⟨⟨i1, i2, i3, i4, i5, i6, i7, i8, i9⟩, k1, k2, k3, k4, k5, k6, k7, k8, k9, k10⟩ := h
  have f0 := aq 0 (by decide) (by decide)
  have f2 := aq 2 (by decide) (by decide)
  have f4 := aq 4 (by decide) (by decide)
  have f5 := aq 5 (by decide) (by decide)
  have f6 := aq 6 (by decide) (by decide)
  have f7 := aq 7 (by decide) (by decide)
  have f8 := aq 8 (by decide) (by decide)
  have f9 := aq 9 (by decide) (by decide)
  have f10 := aq 10 (by decide) (by decide)
  have f11 := aq 11 (by decide) (by decide)
  have keep1 : ∀ q, q ≠ p → r' 1 q = r 1 q := fun q hn => by rw [a1, if_neg hn]
  have keep3 : ∀ v q, q < 12 → q ≠ p → r 3 v = nI q → r' 3 v = nI q := fun v q hq hn e => by
    rw [a3, if_neg]
    · exact e
    · intro w; rw [e] at w; exact hn (nI_inj (by omega) (by omega) w.2)
  have old : ∀ v q, q < 12 → r' 3 v = nI q → r 3 v = nI q ∧ (v < 24 → q ≠ p) := fun v q hq e => by
    rw [a3] at e
    by_cases w : v < 24 ∧ r 3 v = nI p
    · rw [if_pos w] at e; exact absurd e.symm (nI_m1 (by omega))
    · rw [if_neg w] at e; exact ⟨e, fun hv z => w ⟨hv, by rw [e, z]⟩⟩
  have p0 : r' 1 p = 0 := by rw [a1, if_pos rfl]
  have one1 : ∀ q, r' 1 q ≠ 0 → q ≠ p := fun q hn z => hn (by rw [z]; exact p0)
  have huc : ∀ n, n ≤ 16 → uc r p n = 0 := fun n hn => cr_zero _ _ (fun k _ hk => by simp [hf k (by omega)])
  have atp : ∀ a, a < 384 → r 3 (a / 16) = nI p → (ins r a = false ∧ bsz r a = 0) ∧ (ins r' a = false ∧ bsz r' a = 0) := fun a hA e => by
    have e3 : r' 3 (a / 16) = -1 := by rw [a3, if_pos ⟨by omega, e⟩]
    have eP : pP r (a / 16) = p := pP_of hp e
    have lg : r 8 (a / 16) = 0 := by
      rcases Classical.em (r 8 (a / 16) = 0) with q | q
      · exact q
      · obtain ⟨x, hx, e', e1⟩ := lg_map i7 (by omega) q
        rw [e] at e'
        rw [← nI_inj (by omega) (by omega) e', hu] at e1; exact absurd e1 (by decide)
    have i7' := hf (a % 16 / 2 ^ pK r p) (Nat.lt_of_le_of_lt (Nat.div_le_self _ _) (by omega))
    refine ⟨⟨?_, ?_⟩, by simp [ins, e3], by simp [bsz, e3, f8, lg]⟩
    · simp only [ins, eP, hu, i7', decide_eq_false_iff_not]
      intro y
      rcases y.2 with w | w
      · exact absurd w (by decide)
      · exact absurd w.2.symm (nI_m1 (by omega))
    · rw [bsz, lg, if_neg (by simp), eP, i7', if_neg]
      intro y; exact absurd y.2.2.1.symm (nI_m1 (by omega))
  have ato : ∀ a, a < 384 → r 3 (a / 16) ≠ nI p → ins r' a = ins r a ∧ bsz r' a = bsz r a := fun a hA hn =>
    at_congr i1 hA (by rw [a3, if_neg (fun w => hn w.2)]) (by rw [f8]) (fun q hq e => ⟨keep1 q (fun z => hn (by rw [e, z])), by rw [f5], fun k _ => by rw [f7]⟩)
  refine ⟨⟨?_, ?_, ?_, ?_, ?_, ?_, ?_, ?_, ?_⟩, ?_, ?_, l3, l4, ?_, ?_, ?_, ?_, ?_, ?_⟩
  · intro v hv
    rw [a3]
    by_cases w : v < 24 ∧ r 3 v = nI p
    · rw [if_pos w]; exact Or.inl rfl
    · rw [if_neg w]; exact i1 v hv
  · intro q hq
    by_cases z : q = p
    · rw [z, p0]; exact Or.inl rfl
    · rw [keep1 q z]; exact i2 q hq
  · intro q hq
    by_cases z : q = p
    · subst z
      rw [p0]
      exact ⟨fun _ v hv e => (old v q hq e).2 hv rfl, fun _ => rfl⟩
    · rw [keep1 q z, i3 q hq]
      exact ⟨fun w v hv e => w v hv (old v q hq e).1, fun w v hv e => w v hv (keep3 v q hq z e)⟩
  · intro q hq hq1
    have z := one1 q (by rw [hq1]; decide)
    rw [keep1 q z] at hq1
    rw [f5, f6]
    obtain ⟨x, hh, y1, y2, y3⟩ := i4 q hq hq1
    exact ⟨x, hh, y1, y2, keep3 hh q hq z y3⟩
  · intro q e k hq he hk hq1 hq5
    have z := one1 q (by rw [hq1]; decide)
    rw [keep1 q z] at hq1
    rw [f5] at hq5
    rw [f7]
    rcases i5 q e k hq he hk hq1 hq5 with y | ⟨y1, v, y2, y3, y4⟩
    · exact Or.inl y
    · exact Or.inr ⟨y1, v, y2, y3, keep3 v q hq z y4⟩
  · intro q v w hq hv hw hq1 e1 e2
    have z := one1 q (by rw [hq1]; decide)
    rw [keep1 q z] at hq1
    exact i6 q v w hq hv hw hq1 (old v q hq e1).1 (old w q hq e2).1
  · intro v hv
    rw [f8]
    rcases i7 v hv with y | ⟨n, n1, n2, n3, n4, n5, n6⟩
    · exact Or.inl y
    · refine Or.inr ⟨n, n1, n2, n3, n4, fun j hj => ?_, n6⟩
      obtain ⟨q, hq, y1, y2⟩ := n5 j hj
      have z : q ≠ p := fun z => by rw [z, hu] at y2; exact absurd y2 (by decide)
      exact ⟨q, hq, keep3 _ q hq z y1, by rw [keep1 q z]; exact y2⟩
  · intro v q hv hq e1 hq1
    have z := one1 q (by rw [hq1]; decide)
    rw [keep1 q z] at hq1
    rw [f8]
    exact i8 v q hv hq (old v q hq e1).1 hq1
  · intro e he
    rw [f9, f10, f11, f5, f7]
    rcases i9 e he with y | ⟨q, m, y1, y2, y3, y4, y5, y6, y7, y8⟩
    · exact Or.inl y
    · have z : q ≠ p := fun z => hnh e he (by rw [y2, z])
      exact Or.inr ⟨q, m, y1, y2, by rw [keep1 q z]; exact y3, y4, y5, by unfold uc; rw [f7]; exact y6, y7, y8⟩
  · simp only [kL1, f0, bq 1 (by decide) (by decide) (by decide) (by decide) (by decide) (by omega), bq 0 (by decide) (by decide) (by decide) (by decide) (by decide) (by omega)]; exact k1
  · simp only [kL2, f2, bq 3 (by decide) (by decide) (by decide) (by decide) (by decide) (by omega)]; exact k2
  · intro q hq hq1
    have z := one1 q (by rw [hq1]; decide)
    rw [keep1 q z] at hq1
    rw [bq (10 + q) (by omega) (by omega) (by omega) (by omega) (by omega) (by omega), f4, f5, f6, f7]
    exact k5 q hq hq1
  · intro q hq hq1
    by_cases z : q = p
    · subst z; exact bM
    · rw [keep1 q z] at hq1
      rw [bq (10 + q) (by omega) (by omega) (by omega) (by omega) (by omega) (by omega)]
      exact k6 q hq hq1
  · intro e he
    rw [bq (23 + 2 * e) (by omega) (by omega) (by omega) (by omega) (by omega) (by omega), bq (24 + 2 * e) (by omega) (by omega) (by omega) (by omega) (by omega) (by omega), f9, f10, f11]
    exact k7 e he
  · intro a hA
    rw [b7, k8 a hA]
    by_cases e : r 3 (a / 16) = nI p
    · rw [(atp a hA e).1.2, (atp a hA e).2.2]
    · rw [(ato a hA e).2]
  · intro a hA
    rw [b8, k9 a hA]
    by_cases e : r 3 (a / 16) = nI p
    · rw [(atp a hA e).1.1, (atp a hA e).2.1]
    · rw [(ato a hA e).1]
  · show c' 6 2 = _
    rw [b6, k10]
    have hsm : sm (fun p => if r 1 p = 1 then uc r p (16 / 2 ^ pK r p) else 0) 0 12 = sm (fun p => if r' 1 p = 1 then uc r' p (16 / 2 ^ pK r' p) else 0) 0 12 := by
      refine sm_congr 12 0 (fun q _ hq => ?_)
      have e1 : uc r' q = uc r q := by funext m; unfold uc; rw [f7]
      have e2 : pK r' q = pK r q := by unfold pK; rw [f5]
      simp only [e1, e2]
      by_cases z : q = p
      · subst z
        obtain ⟨⟨e, he, e5⟩, -⟩ := i4 q hp hu
        have := c2_le he
        rw [if_pos hu, p0, if_neg (by decide), pK_of he e5, huc _ (by omega)]
      · rw [keep1 q z]
    refine congrArg nI ?_
    unfold bcnt
    rw [f8, hsm]
