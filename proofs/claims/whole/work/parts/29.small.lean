theorem attach_spec {c r : fl_G} (h : Rl 0 c r) {p d : Nat} (hp : p < 12) (hd : d < 4) (hu : r 1 p = 1) (e5 : r 5 p = nI d) (hroom : uc r p (16 / 2 ^ d) < 16 / 2 ^ d) : ∃ c' r' m, fA_attach (23 + 2 * d) (10 + p) c = some ((), c') ∧ fR_attach (nI d) (nI p) r = some ((), r') ∧ Rl 0 c' r' ∧ r' 9 d = nI p ∧ r' 10 d = nI m ∧ 1 ≤ m ∧ m ≤ 16 := by
  have hh := h
  obtain ⟨⟨i1, i2, i3, i4, i5, i6, i7, i8, i9⟩, k1, k2, k3, k4, k5, k6, k7, k8, k9, k10⟩ := h
  have h2 := c2_le hd
  obtain ⟨-, n2, -, U, hU, eU, hb⟩ := k5 p hp hu
  obtain ⟨g1, hg1⟩ : ∃ g1, g1 = fl_up (fl_up c (23 + 2 * d) 0 (nI (10 + p))) (23 + 2 * d) 2 0 := ⟨_, rfl⟩
  have gq : ∀ q, q ≠ 23 + 2 * d → g1 q = c q := fun q hq => by rw [hg1, fl_up_ne _ _ _ hq, fl_up_ne _ _ _ hq]
  have r7 : (fl_up r 9 d (nI p)) 7 = r 7 := fl_up_ne _ _ _ (by decide)
  have r11 : (fl_up r 9 d (nI p)) 11 = r 11 := fl_up_ne _ _ _ (by decide)
  obtain ⟨m, c2, r2, a1, a2, a3, a4, a5, a5b, a6, a7, a8, a9⟩ := build_L hp hd hU (16 / 2 ^ d) 1000 0 0 g1 (fl_up r 9 d (nI p)) (by omega) (by omega) (by omega) (by rw [gq _ (by omega)]; exact eU) (by rw [r7]; exact hb) (fun j hj => by rw [gq _ (by omega), r11]; exact (k7 d hd).2.2.2 j hj) (by rw [hg1, fl_up_self]; rfl) ⟨fun j hj => by omega, fun i j hi => by omega⟩ rfl
  unfold uc at a3; rw [r7] at a3
  have a3' : m + uc r p (16 / 2 ^ d) = 16 / 2 ^ d := a3
  have hm1 : 1 ≤ m := by omega
  have hm16 : m ≤ 16 := by omega
  have x11 : (fl_up r2 10 d (nI m)) 11 = r2 11 := fl_up_ne _ _ _ (by decide)
  have x0 : (fl_up r2 10 d (nI m)) 0 = r2 0 := fl_up_ne _ _ _ (by decide)
  obtain ⟨c4, r4, b1, b2, b3, b4, b5, b6, b7, b8, b9, b10⟩ := shuf_L hd hm16 (nI p) (m - 1) 1000 c2 (fl_up r2 10 d (nI m)) (by omega) (by omega) (by rw [x11]; exact a4) (by rw [x0, a7 1 (by omega) (by omega), gq 1 (by omega), a8 0 (by decide), fl_up_ne _ _ _ (by decide)]; exact k1.1)
  have R9 : r4 9 = fun x => if x = d then nI p else r 9 x := by
    funext x
    rw [b6 9 (by decide) (by decide), fl_up_ne _ _ _ (by decide), a8 9 (by decide), fl_up_at]; simp
  have R10 : r4 10 = fun x => if x = d then nI m else r 10 x := by
    funext x
    rw [b6 10 (by decide) (by decide), fl_up_at, a8 10 (by decide), fl_up_ne _ _ _ (by decide)]; simp
  have Rq : ∀ q, q ≠ 0 → q ≠ 9 → q ≠ 10 → q ≠ 11 → r4 q = r q := fun q q0 q9 q10 q11 => by rw [b6 q q0 q11, fl_up_ne _ _ _ q10, a8 q q11, fl_up_ne _ _ _ q9]
  have R11 : ∀ x, x < 16 * d ∨ 16 * d + 16 ≤ x → r4 11 x = r 11 x := fun x hx => by rw [b8 x hx, x11, a9 x hx, r11]
  have Cq : ∀ q, q ≠ 1 → q ≠ 23 + 2 * d → q ≠ 24 + 2 * d → c4 q = c q := fun q q1 q2 q3 => by rw [b5 q q1 q3, a7 q q2 q3, gq q q2]
  have R7 := Rq 7 (by decide) (by decide) (by decide) (by decide)
  have R1 := Rq 1 (by decide) (by decide) (by decide) (by decide)
  have R5 := Rq 5 (by decide) (by decide) (by decide) (by decide)
  refine ⟨c4, r4, m, ?_, ?_, Rl_frame Rq (fun q q1 q2 => Cq q q1 (by omega) (by omega)) ?_ ?_ ?_ hh, by rw [R9]; simp, by rw [R10]; simp, hm1, hm16⟩
  · rw [fA_attach, fl_ck_pos (mc_kdB hd), show Int32.ofNat (10 + p) = nI (10 + p) from rfl, fl_ck_pos (rf_nI (by omega)), fl_ck_pos (mc_kdM hp), ← hg1, gq (10 + p) (by omega), n2, e5, cellsC_spec g1 hd, fl_bd_mk, show (0 : Int32) = nI 0 from rfl, a1, fl_bd_mk, a5, fD_shuffle, show (1 : Int32) = nI 1 from rfl, pk_sub hm1, show 23 + 2 * d + 1 = 24 + 2 * d by omega, b1, fl_bd_mk, fl_bd_mk]
  · rw [fR_attach]
    simp only [fl_ck_pos (fl_in_nI hd (show 4 < 2 ^ 31 by decide)), nI_clamp (show d < 2 ^ 31 by omega)]
    rw [fl_bd_of (show fR_attach_L12 1000 0 0 (nI d) (nI p) (fl_up r 9 d (nI p)) = some ((nI (16 / 2 ^ d), nI m), r2) from a2), show (1 : Int32) = nI 1 from rfl, pk_sub hm1, b2, fl_bd_mk]
  · refine ⟨b4, ?_, ?_⟩
    · rw [Cq 0 (by decide) (by omega) (by omega), b7 9 (by decide), x0, a8 0 (by decide), fl_up_ne _ _ _ (by decide)]; exact k1.2.1
    · rw [Cq 0 (by decide) (by omega) (by omega), b7 13 (by decide), x0, a8 0 (by decide), fl_up_ne _ _ _ (by decide)]; exact k1.2.2
  · intro d' hd'
    by_cases e : d' = d
    · subst e
      refine Or.inr ⟨p, m, hp, by rw [R9]; simp, by rw [R1]; exact hu, by rw [R5]; exact e5, by rw [R10]; simp, by unfold uc; rw [R7]; exact a3, fun j hj => ?_, b10 (by rw [x11]; exact a6.2)⟩
      obtain ⟨j', j1, j2⟩ := b9 j hj
      obtain ⟨x, y1, y2, y3⟩ := a6.1 j' j1
      rw [a8 7 (by decide), r7] at y3
      exact ⟨x, y1, by rw [j2, x11]; exact y2, by rw [R7]; exact y3⟩
    · rw [R9, R10, R1, R5, R7]
      simp only [e, if_false]
      have h2' := c2_le hd'
      rcases i9 d' hd' with q | ⟨p', m', q1, q2, q3, q4, q5, q6, q7, q8⟩
      · exact Or.inl q
      · refine Or.inr ⟨p', m', q1, q2, q3, q4, q5, by unfold uc; rw [R7]; exact q6, fun j hj => ?_, fun i j hi hj hij => ?_⟩
        · rw [R11 _ (by omega)]; exact q7 j hj
        · rw [R11 _ (by omega), R11 _ (by omega)] at hij; exact q8 i j hi hj hij
  · intro d' hd'
    by_cases e : d' = d
    · subst e
      refine ⟨?_, fun q => ?_, fun p' hp' q => ?_, b3⟩
      · rw [b5 _ (by omega) (by omega), a5, R10]; simp
      · rw [R9] at q; simp at q; exact absurd q (nI_m1 (by omega))
      · rw [R9] at q; simp at q
        have := nI_inj (by omega) (by omega) q
        subst this
        rw [b5 _ (by omega) (by omega), a5b, hg1, fl_up_k _ _ (by decide), fl_up_self]
    · rw [Cq _ (by omega) (by omega) (by omega), Cq _ (by omega) (by omega) (by omega), R9, R10]
      simp only [e, if_false]
      obtain ⟨y1, y2, y3, y4⟩ := k7 d' hd'
      exact ⟨y1, y2, y3, fun j hj => by rw [R11 _ (by omega)]; exact y4 j hj⟩
/-! a new miniheap -/
theorem begin_L {p : Nat} (hp : p < 12) (x y : Int32) : ∀ (e n k : Nat) (r : fl_G), k + e = 16 → e < n → ∃ r', fR_begin_L57 n (nI k) x y (nI p) r = some (nI 16, r') ∧ (∀ q, q ≠ 7 → r' q = r q) ∧ (∀ z, r' 7 z = if 16 * p + k ≤ z ∧ z < 16 * p + 16 then -1 else r 7 z)
  | 0, n + 1, k, r, hk, hn => by
    refine ⟨r, ?_, fun _ _ => rfl, fun z => by rw [if_neg (by omega)]⟩
    show fR_begin_B57 _ _ _ _ _ _ = _
    rw [fR_begin_B57, show k = 16 by omega, if_pos (show (16 : Int32) ≤ nI 16 by decide)]
  | e + 1, n + 1, k, r, hk, hn => by
    obtain ⟨r', h1, h2, h3⟩ := begin_L hp x y e n (k + 1) (fl_up r 7 (16 * p + k) (-1)) (by omega) (by omega)
    refine ⟨r', ?_, fun q hq => by rw [h2 q hq, fl_up_ne _ _ _ hq], fun z => ?_⟩
    · show fR_begin_B57 _ _ _ _ _ _ = _
      rw [fR_begin_B57, if_neg (n_16 (by omega)), show (16 : Int32) = nI 16 from rfl, pk_mul, nI_add, fl_ck_pos (fl_in_nI (by omega) (by decide)), nI_clamp (by omega), nI_1, h1]
    · rw [h3 z, fl_up_at]
      by_cases q : z = 16 * p + k
      · rw [if_neg (by omega), if_pos ⟨rfl, q⟩, if_pos (by omega)]
      · by_cases q2 : 16 * p + k ≤ z ∧ z < 16 * p + 16
        · rw [if_pos (by omega), if_pos q2]
        · rw [if_neg (by omega), if_neg (fun w => q w.2), if_neg q2]
theorem beginR_spec {r : fl_G} {p d s : Nat} (hp : p < 12) (hs : s < 24) (hV : fR_freeVirtual 1 r = some (nI s, r)) : ∃ r', fR_begin (nI d) (nI p) r = some ((), r') ∧ (∀ x, r' 1 x = if x = p then 1 else r 1 x) ∧ (∀ x, r' 3 x = if x = s then nI p else r 3 x) ∧ (∀ x, r' 2 x = if 16 * p ≤ x ∧ x < 16 * p + 16 then 0 else r 2 x) ∧ (∀ x, r' 4 x = if x = p then r 0 9 else r 4 x) ∧ (∀ x, r' 5 x = if x = p then nI d else r 5 x) ∧ (∀ x, r' 6 x = if x = p then nI s else r 6 x) ∧ (∀ x, r' 7 x = if 16 * p ≤ x ∧ x < 16 * p + 16 then -1 else r 7 x) ∧ (∀ x, r' 0 x = if x = 9 then r 0 9 + 1 else r 0 x) ∧ (∀ q, 8 ≤ q → r' q = r q) := by
  obtain ⟨r0, hr0⟩ : ∃ r0, r0 = fl_up (fl_up (fl_up (fl_up (fl_up (fl_up r 1 p 1) 4 p (r 0 9)) 0 9 (r 0 9 + 1)) 5 p (nI d)) 6 p (nI s)) 3 s (nI p) := ⟨_, rfl⟩
  obtain ⟨r1, a1, a2, a3⟩ := begin_L hp (nI s) (nI d) 16 1000 0 r0 (by omega) (by omega)
  obtain ⟨r2, b1, b2, b3⟩ := zero_spec r1 (a := 16 * p) (m := 16) (by omega)
  refine ⟨r2, ?_, fun x => ?_, fun x => ?_, fun x => ?_, fun x => ?_, fun x => ?_, fun x => ?_, fun x => ?_, fun x => ?_, fun q hq => ?_⟩
  · rw [fR_begin, hV, fl_bd_mk, fl_ck_pos (fl_in_nI hp (by decide)), fl_ck_pos (fl_in_nI hp (by decide)), fl_ck_pos (fl_in_nI hp (by decide)), fl_ck_pos (fl_in_nI hp (by decide)), fl_ck_pos (fl_in_nI hs (by decide)), nI_clamp (by omega), nI_clamp (by omega)]
    have e : (fl_up r 1 p 1) 0 9 = r 0 9 := by rw [fl_up_ne _ _ _ (by decide)]
    rw [e, fl_up_ne _ _ _ (show 0 ≠ 4 by decide), e, ← hr0, fl_bd_of (show fR_begin_L57 1000 0 (nI s) (nI d) (nI p) r0 = some (nI 16, r1) from a1), show (16 : Int32) = nI 16 from rfl, pk_mul, b1, fl_bd_mk]
  · rw [b2 1 (by decide), a2 1 (by decide), hr0]; simp [fl_up_at]
  · rw [b2 3 (by decide), a2 3 (by decide), hr0]; simp [fl_up_at]
  · rw [b3 x, a2 2 (by decide), hr0]; simp [fl_up_at]
  · rw [b2 4 (by decide), a2 4 (by decide), hr0]; simp [fl_up_at]
  · rw [b2 5 (by decide), a2 5 (by decide), hr0]; simp [fl_up_at]
  · rw [b2 6 (by decide), a2 6 (by decide), hr0]; simp [fl_up_at]
  · rw [b2 7 (by decide), a3 x, hr0]; simp [fl_up_at]
  · rw [b2 0 (by decide), a2 0 (by decide), hr0]; simp [fl_up_at]
  · rw [b2 q (by omega), a2 q (by omega), hr0, fl_up_ne _ _ _ (by omega), fl_up_ne _ _ _ (by omega), fl_up_ne _ _ _ (by omega), fl_up_ne _ _ _ (by omega), fl_up_ne _ _ _ (by omega), fl_up_ne _ _ _ (by omega)]
theorem beginC_spec {c : fl_G} {p d s : Nat} (hp : p < 12) (hs : s < 24) (hF : fP_lowestFree c = some (nI p, c)) (hV : fP_lowestUnmappedRow 1 c = some (nI s, c)) : ∃ c', fS_newMiniheap (nI d) c = some (some (10 + p), c') ∧ (∀ x, c' 4 x = if x = s then nI p else c 4 x) ∧ (∀ x, c' 5 x = if x = p then c 5 p + 1 else c 5 x) ∧ (∀ x, c' 3 x = if 16 * p ≤ x ∧ x < 16 * p + 16 then 0 else c 3 x) ∧ (c' (10 + p) 1 = c 0 6 ∧ c' (10 + p) 2 = nI d ∧ c' (10 + p) 3 = nI s ∧ c' (10 + p) 4 = nI 0) ∧ (∀ x, c' 0 x = if x = 6 then c 0 6 + 1 else c 0 x) ∧ (∀ q, q ≠ 0 → q ≠ 3 → q ≠ 4 → q ≠ 5 → q ≠ 10 + p → c' q = c q) := by
  obtain ⟨c1, o1, o2, o3, o4, o5⟩ := open_spec c hs hp
  have c0 : c1 0 = c 0 := o2 0 (by decide) (by decide) (by decide)
  obtain ⟨c2, hc2⟩ : ∃ c2, c2 = fl_up (fl_up (fl_up (fl_up c1 (10 + p) 1 (c 0 6)) (10 + p) 2 (nI d)) (10 + p) 3 (nI s)) (10 + p) 4 0 := ⟨_, rfl⟩
  have d0 : c2 0 = c 0 := by rw [hc2, fl_up_ne _ _ _ (by omega), fl_up_ne _ _ _ (by omega), fl_up_ne _ _ _ (by omega), fl_up_ne _ _ _ (by omega), c0]
  have dq : ∀ q, q ≠ 10 + p → c2 q = c1 q := fun q hq => by rw [hc2, fl_up_ne _ _ _ hq, fl_up_ne _ _ _ hq, fl_up_ne _ _ _ hq, fl_up_ne _ _ _ hq]
  have dp : ∀ k, c2 (10 + p) k = if k = 4 then 0 else if k = 3 then nI s else if k = 2 then nI d else if k = 1 then c 0 6 else c1 (10 + p) k := fun k => by rw [hc2]; simp only [fl_up_at, true_and]
  have z : ∀ q, q ≠ 0 → (fl_up c2 0 6 (c 0 6 + 1)) q = c2 q := fun q hq => fl_up_ne _ _ _ hq
  refine ⟨fl_up c2 0 6 (c 0 6 + 1), ?_, fun x => ?_, fun x => ?_, fun x => ?_, ⟨?_, ?_, ?_, ?_⟩, fun x => ?_, fun q q0 q3 q4 q5 qp => ?_⟩
  · rw [fS_newMiniheap, hF, fl_bd_mk, hV, fl_bd_mk, isPhysical_yes c hp, fl_bd_mk, if_neg one_ne, if_neg (nI_m1 (by omega)), o1, fl_bd_mk, fl_ck_pos (fl_in_nI hp (by decide)), fM_begin]
    simp only [nI_clamp (show p < 2 ^ 31 by omega), fl_ck_pos (mc_kdM hp), c0, ← hc2, fl_bd_mk, fl_ck_pos (fl_in_nI hp (show 12 < 2 ^ 31 by decide)), d0]
  · rw [z 4 (by decide), dq 4 (by omega)]; exact o3 x
  · rw [z 5 (by decide), dq 5 (by omega)]; exact o4 x
  · rw [z 3 (by decide), dq 3 (by omega)]; exact o5 x
  · rw [z _ (by omega), dp]; simp
  · rw [z _ (by omega), dp]; simp
  · rw [z _ (by omega), dp]; simp
  · rw [z _ (by omega), dp]; rfl
  · rw [fl_up_at, d0]; simp
  · rw [z q q0, dq q qp, o2 q q3 q4 q5]
