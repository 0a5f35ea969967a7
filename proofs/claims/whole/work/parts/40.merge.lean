/-! the join keeps the relation -/
theorem sm_add (f g : Nat → Nat) : ∀ (d i : Nat), sm (fun x => f x + g x) i d = sm f i d + sm g i d
  | 0, _ => rfl
  | d + 1, i => by rw [sm_s, sm_s, sm_s, sm_add f g d (i + 1)]; omega
theorem sm_zero {f : Nat → Nat} : ∀ (d i : Nat), (∀ x, i ≤ x → x < i + d → f x = 0) → sm f i d = 0
  | 0, _, _ => rfl
  | d + 1, i, h => by rw [sm_s, h i (by omega) (by omega), sm_zero d (i + 1) (fun x h1 h2 => h x (by omega) (by omega))]
theorem sm_one (k p : Nat) : ∀ (d i : Nat), i ≤ p → p < i + d → sm (fun x => if x = p then k else 0) i d = k
  | 0, i, h1, h2 => by omega
  | d + 1, i, h1, h2 => by
    rw [sm_s]
    by_cases e : i = p
    · rw [if_pos e, sm_zero d (i + 1) (fun x h3 _ => by rw [if_neg (by omega)])]
      omega
    · rw [if_neg e, sm_one k p d (i + 1) (by omega) (by omega)]; omega
theorem sm_move {f g : Nat → Nat} {p q n : Nat} (hp : p < n) (hq : q < n) (hpq : p ≠ q) (h1 : g p = f p + f q) (h2 : g q = 0) (h : ∀ x, x < n → x ≠ p → x ≠ q → g x = f x) : sm g 0 n = sm f 0 n := by
  have e : sm (fun x => g x + (if x = q then f q else 0)) 0 n = sm (fun x => f x + (if x = p then f q else 0)) 0 n := by
    refine sm_congr n 0 (fun x _ hx => ?_)
    by_cases e1 : x = p
    · subst e1; rw [if_neg hpq, if_pos rfl, h1]; omega
    · by_cases e2 : x = q
      · subst e2; rw [if_pos rfl, if_neg e1, h2]; omega
      · rw [if_neg e1, if_neg e2, h x (by omega) e1 e2]
  rw [sm_add, sm_add, sm_one _ _ n 0 (by omega) (by omega), sm_one _ _ n 0 (by omega) (by omega)] at e
  omega
theorem cr_disj {P Q S : Nat → Bool} : ∀ (d i : Nat), (∀ x, i ≤ x → x < i + d → S x = (P x || Q x) ∧ (P x = false ∨ Q x = false)) → cr S i d = cr P i d + cr Q i d
  | 0, _, _ => rfl
  | d + 1, i, h => by
    obtain ⟨h1, h2⟩ := h i (by omega) (by omega)
    rw [cr_s, cr_s, cr_s, cr_disj d (i + 1) (fun x a b => h x (by omega) (by omega)), h1]
    rcases h2 with e | e <;> rw [e] <;> simp <;> omega
theorem merge_rel {c r c' r' : fl_G} {p q d U V : Nat} (h : Rl 0 c r) (hp : p < 12) (hq : q < 12) (hpq : p ≠ q) (hd : d < 4) (up : r 1 p = 1) (uq : r 1 q = 1) (dp : r 5 p = nI d) (dq : r 5 q = nI d) (np : ∀ e, e < 4 → r 9 e ≠ nI p) (nq : ∀ e, e < 4 → r 9 e ≠ nI q) (dj : ∀ k, k < 16 → r 7 (16 * p + k) = -1 ∨ r 7 (16 * q + k) = -1)
    (hU : U < 2 ^ 16) (hbU : ∀ k, k < 16 → U.testBit k = decide (r 7 (16 * p + k) ≠ -1)) (hV : V < 2 ^ 16) (hbV : ∀ k, k < 16 → V.testBit k = decide (r 7 (16 * q + k) ≠ -1))
    (a1 : ∀ x, r' 1 x = if x = q then 0 else r 1 x) (a3 : ∀ z, r' 3 z = if z < 24 ∧ r 3 z = nI q then nI p else r 3 z) (a7 : ∀ x, r' 7 x = if 16 * p ≤ x ∧ x < 16 * p + 16 / 2 ^ d ∧ r 7 (16 * q + (x - 16 * p)) ≠ -1 then r 7 (16 * q + (x - 16 * p)) else r 7 x) (aq : ∀ z, z ≠ 1 → z ≠ 2 → z ≠ 3 → z ≠ 7 → r' z = r z)
    (l2 : kL2 c' r') (l3 : kL3 c' r') (l4 : kL4 c' r') (bp : ∀ x, c' (10 + p) x = if x = 4 then nI (U ||| V) else c (10 + p) x) (bq : c' (10 + q) 2 = -1) (bo : ∀ z, z ≠ 3 → z ≠ 4 → z ≠ 5 → z ≠ 10 + p → z ≠ 10 + q → c' z = c z) : Rl 0 c' r' := by
  obtain ⟨⟨i1, i2, i3, i4, i5, i6, i7, i8, i9⟩, k1, k2, k3, k4, k5, k6, k7, k8, k9, k10⟩ := h
  have f0 := aq 0 (by decide) (by decide) (by decide) (by decide)
  have f4 := aq 4 (by decide) (by decide) (by decide) (by decide)
  have f5 := aq 5 (by decide) (by decide) (by decide) (by decide)
  have f6 := aq 6 (by decide) (by decide) (by decide) (by decide)
  have f8 := aq 8 (by decide) (by decide) (by decide) (by decide)
  have f9 := aq 9 (by decide) (by decide) (by decide) (by decide)
  have f10 := aq 10 (by decide) (by decide) (by decide) (by decide)
  have f11 := aq 11 (by decide) (by decide) (by decide) (by decide)
  have h2 := c2_le hd
  have p7 : ∀ k, k < 16 → r' 7 (16 * p + k) = if r 7 (16 * q + k) = -1 then r 7 (16 * p + k) else r 7 (16 * q + k) := fun k hk => by
    rw [a7, show 16 * p + k - 16 * p = k by omega]
    by_cases w : r 7 (16 * q + k) = -1
    · rw [if_neg (fun y => y.2.2 w), if_pos w]
    · rcases i5 q d k hq hd hk uq dq with y | ⟨y, -⟩
      · exact absurd y w
      · rw [if_pos ⟨by omega, by omega, w⟩, if_neg w]
  have o7 : ∀ x k, x < 12 → x ≠ p → k < 16 → r' 7 (16 * x + k) = r 7 (16 * x + k) := fun x k hx hn hk => by
    rw [a7, if_neg (by omega)]
  have keep1 : ∀ x, x ≠ q → r' 1 x = r 1 x := fun x hn => by rw [a1, if_neg hn]
  have q0 : r' 1 q = 0 := by rw [a1, if_pos rfl]
  have nz : ∀ x, r' 1 x ≠ 0 → x ≠ q := fun x hn z => hn (by rw [z]; exact q0)
  have keep3 : ∀ v x, x < 12 → x ≠ q → r 3 v = nI x → r' 3 v = nI x := fun v x hx hn e => by
    rw [a3, if_neg]
    · exact e
    · intro w; rw [e] at w; exact hn (nI_inj (by omega) (by omega) w.2)
  have moved : ∀ v, v < 24 → r 3 v = nI q → r' 3 v = nI p := fun v hv e => by rw [a3, if_pos ⟨hv, e⟩]
  have old : ∀ v x, v < 24 → x < 12 → x ≠ p → r' 3 v = nI x → r 3 v = nI x ∧ x ≠ q := fun v x hv hx hn e => by
    rw [a3] at e
    by_cases w : v < 24 ∧ r 3 v = nI q
    · rw [if_pos w] at e; exact absurd (nI_inj (by omega) (by omega) e).symm hn
    · rw [if_neg w] at e; exact ⟨e, fun z => w ⟨hv, by rw [e, z]⟩⟩
  have up' : r' 1 p = 1 := by rw [keep1 p hpq]; exact up
  have at_q : ∀ a, a < 384 → r 3 (a / 16) = nI q → ins r' a = ins r a ∧ bsz r' a = bsz r a := fun a hA e => by
    have e' := moved (a / 16) (by omega) e
    have eP := pP_of hq e
    have eP' := pP_of hp e'
    have eK := pK_of hd dq
    have eK' : pK r' p = d := pK_of hd (by rw [f5]; exact dp)
    have hk : a % 16 / 2 ^ d < 16 := Nat.lt_of_le_of_lt (Nat.div_le_self _ _) (by omega)
    have hiff : (r' 7 (16 * p + a % 16 / 2 ^ d) = nI (a / 16)) ↔ (r 7 (16 * q + a % 16 / 2 ^ d) = nI (a / 16)) := by
      rw [p7 _ hk]
      by_cases w : r 7 (16 * q + a % 16 / 2 ^ d) = -1
      · rw [if_pos w, w]
        constructor
        · intro y
          rcases i5 p d _ hp hd hk up dp with z | ⟨-, v, z1, z2, z3⟩
          · rw [z] at y; exact absurd y.symm (nI_m1 (by omega))
          · rw [y] at z2
            have := nI_inj (by omega) (by omega) z2
            rw [← this, e] at z3
            exact absurd (nI_inj (by omega) (by omega) z3).symm hpq
        · intro y; exact absurd y.symm (nI_m1 (by omega))
      · rw [if_neg w]
    have n3 : r 3 (a / 16) ≠ -1 := by rw [e]; exact nI_m1 (by omega)
    have n3' : r' 3 (a / 16) ≠ -1 := by rw [e']; exact nI_m1 (by omega)
    unfold ins bsz
    rw [eP, eP', eK, eK', f8]
    simp only [ne_eq, n3, n3', up', uq, hiff]
    exact ⟨trivial, trivial⟩
  have at_p : ∀ a, a < 384 → r 3 (a / 16) = nI p → ins r' a = ins r a ∧ bsz r' a = bsz r a := fun a hA e => by
    have e' := keep3 (a / 16) p hp hpq e
    have eP := pP_of hp e
    have eP' := pP_of hp e'
    have eK := pK_of hd dp
    have eK' : pK r' p = d := pK_of hd (by rw [f5]; exact dp)
    have hk : a % 16 / 2 ^ d < 16 := Nat.lt_of_le_of_lt (Nat.div_le_self _ _) (by omega)
    have hiff : (r' 7 (16 * p + a % 16 / 2 ^ d) = nI (a / 16)) ↔ (r 7 (16 * p + a % 16 / 2 ^ d) = nI (a / 16)) := by
      rw [p7 _ hk]
      by_cases w : r 7 (16 * q + a % 16 / 2 ^ d) = -1
      · rw [if_pos w]
      · rw [if_neg w]
        have pz : r 7 (16 * p + a % 16 / 2 ^ d) = -1 := (dj _ hk).resolve_right w
        rw [pz]
        constructor
        · intro y
          rcases i5 q d _ hq hd hk uq dq with z | ⟨-, v, z1, z2, z3⟩
          · exact absurd z w
          · rw [y] at z2
            have := nI_inj (by omega) (by omega) z2
            rw [← this, e] at z3
            exact absurd (nI_inj (by omega) (by omega) z3) hpq
        · intro y; exact absurd y.symm (nI_m1 (by omega))
    have n3 : r 3 (a / 16) ≠ -1 := by rw [e]; exact nI_m1 (by omega)
    have n3' : r' 3 (a / 16) ≠ -1 := by rw [e']; exact nI_m1 (by omega)
    unfold ins bsz
    rw [eP, eP', eK, eK', f8]
    simp only [ne_eq, n3, n3', up', up, hiff]
    exact ⟨trivial, trivial⟩
  have at_a : ∀ a, a < 384 → ins r' a = ins r a ∧ bsz r' a = bsz r a := fun a hA => by
    by_cases w : r 3 (a / 16) = nI q
    · exact at_q a hA w
    · by_cases w2 : r 3 (a / 16) = nI p
      · exact at_p a hA w2
      · exact at_congr i1 hA (by rw [a3, if_neg (fun y => w y.2)]) (by rw [f8]) (fun x hx e => ⟨keep1 x (fun z => w (by rw [e, z])), by rw [f5], fun k hk => o7 x k hx (fun z => w2 (by rw [e, z])) hk⟩)
  refine ⟨⟨?_, ?_, ?_, ?_, ?_, ?_, ?_, ?_, ?_⟩, ?_, l2, l3, l4, ?_, ?_, ?_, ?_, ?_, ?_⟩
  · intro v hv
    rw [a3]
    by_cases w : v < 24 ∧ r 3 v = nI q
    · rw [if_pos w]; exact Or.inr ⟨p, hp, rfl⟩
    · rw [if_neg w]; exact i1 v hv
  · intro x hx
    by_cases z : x = q
    · rw [z, q0]; exact Or.inl rfl
    · rw [keep1 x z]; exact i2 x hx
  · intro x hx
    by_cases z : x = q
    · subst z
      rw [q0]
      exact ⟨fun _ v hv e => (old v x hv hx (Ne.symm hpq) e).2 rfl, fun _ => rfl⟩
    · rw [keep1 x z]
      by_cases z2 : x = p
      · subst z2
        rw [up]
        refine ⟨fun w => absurd w one_ne, fun w => ?_⟩
        obtain ⟨-, hh, y1, -, y2⟩ := i4 x hx up
        exact absurd (keep3 hh x hx z y2) (w hh y1)
      · rw [i3 x hx]
        exact ⟨fun w v hv e => w v hv (old v x hv hx z2 e).1, fun w v hv e => w v hv (keep3 v x hx z e)⟩
  · intro x hx hx1
    have z := nz x (by rw [hx1]; decide)
    rw [keep1 x z] at hx1
    rw [f5, f6]
    obtain ⟨y0, hh, y1, y2, y3⟩ := i4 x hx hx1
    exact ⟨y0, hh, y1, y2, keep3 hh x hx z y3⟩
  · intro x e k hx he hk hx1 hx5
    have z := nz x (by rw [hx1]; decide)
    rw [keep1 x z] at hx1
    rw [f5] at hx5
    by_cases z2 : x = p
    · subst z2
      have ed : e = d := nI_inj (by omega) (by omega) (by rw [← hx5, dp])
      subst ed
      rw [p7 k hk]
      by_cases w : r 7 (16 * q + k) = -1
      · rw [if_pos w]
        rcases i5 x e k hx he hk hx1 hx5 with y | ⟨y1, v, y2, y3, y4⟩
        · exact Or.inl y
        · exact Or.inr ⟨y1, v, y2, y3, keep3 v x hx z y4⟩
      · rw [if_neg w]
        rcases i5 q e k hq he hk uq dq with y | ⟨y1, v, y2, y3, y4⟩
        · exact Or.inl y
        · exact Or.inr ⟨y1, v, y2, y3, moved v y2 y4⟩
    · rw [o7 x k hx z2 hk]
      rcases i5 x e k hx he hk hx1 hx5 with y | ⟨y1, v, y2, y3, y4⟩
      · exact Or.inl y
      · exact Or.inr ⟨y1, v, y2, y3, keep3 v x hx z y4⟩
  · intro x v w hx hv hw hx1 e1 e2
    have z := nz x (by rw [hx1]; decide)
    have z2 : x ≠ p := fun y => by rw [y, up'] at hx1; exact absurd hx1 (by decide)
    rw [keep1 x z] at hx1
    exact i6 x v w hx hv hw hx1 (old v x hv hx z2 e1).1 (old w x hw hx z2 e2).1
  · intro v hv
    rw [f8]
    rcases i7 v hv with y | ⟨n, n1, n2, n3, n4, n5, n6⟩
    · exact Or.inl y
    · refine Or.inr ⟨n, n1, n2, n3, n4, fun j hj => ?_, n6⟩
      obtain ⟨x, hx, y1, y2⟩ := n5 j hj
      have z : x ≠ q := fun z => by rw [z, uq] at y2; exact absurd y2 (by decide)
      exact ⟨x, hx, keep3 _ x hx z y1, by rw [keep1 x z]; exact y2⟩
  · intro v x hv hx e1 hx1
    have z := nz x (by rw [hx1]; decide)
    have z2 : x ≠ p := fun y => by rw [y, up'] at hx1; exact absurd hx1 (by decide)
    rw [keep1 x z] at hx1
    rw [f8]
    exact i8 v x hv hx (old v x hv hx z2 e1).1 hx1
  · intro e he
    have he2 := c2_le he
    rw [f9, f10, f11, f5]
    rcases i9 e he with y | ⟨x, m, y1, y2, y3, y4, y5, y6, y7, y8⟩
    · exact Or.inl y
    · have z : x ≠ q := fun z => nq e he (by rw [y2, z])
      have z2 : x ≠ p := fun z => np e he (by rw [y2, z])
      refine Or.inr ⟨x, m, y1, y2, by rw [keep1 x z]; exact y3, y4, y5, ?_, fun j hj => ?_, y8⟩
      · have : uc r' x (16 / 2 ^ e) = uc r x (16 / 2 ^ e) := cr_congr _ _ (fun j _ hj => by simp only [o7 x j y1 z2 (by omega)])
        rw [this]; exact y6
      · obtain ⟨t, t1, t2, t3⟩ := y7 j hj
        exact ⟨t, t1, t2, by rw [o7 x t y1 z2 (by omega)]; exact t3⟩
  · simp only [kL1, f0, bo 1 (by decide) (by decide) (by decide) (by omega) (by omega), bo 0 (by decide) (by decide) (by decide) (by omega) (by omega)]; exact k1
  · intro x hx hx1
    have z := nz x (by rw [hx1]; decide)
    rw [keep1 x z] at hx1
    rw [f4, f5, f6]
    obtain ⟨m1, m2, m3, W, hW, eW, hbW⟩ := k5 x hx hx1
    by_cases z2 : x = p
    · subst z2
      rw [bp, bp, bp, bp, if_neg (by decide), if_neg (by decide), if_neg (by decide), if_pos rfl]
      refine ⟨m1, m2, m3, U ||| V, or_lt16 hU hV, rfl, fun k hk => ?_⟩
      rw [Nat.testBit_or, hbU k hk, hbV k hk, p7 k hk]
      by_cases w : r 7 (16 * q + k) = -1
      · rw [if_pos w]; simp [w]
      · rw [if_neg w]; simp [w]
    · rw [bo (10 + x) (by omega) (by omega) (by omega) (by omega) (by omega)]
      exact ⟨m1, m2, m3, W, hW, eW, fun k hk => by rw [o7 x k hx z2 hk]; exact hbW k hk⟩
  · intro x hx hx1
    by_cases z : x = q
    · subst z; exact bq
    · rw [keep1 x z] at hx1
      have z2 : x ≠ p := fun y => hx1 (by rw [y]; exact up)
      rw [bo (10 + x) (by omega) (by omega) (by omega) (by omega) (by omega)]
      exact k6 x hx hx1
  · intro e he
    rw [bo (23 + 2 * e) (by omega) (by omega) (by omega) (by omega) (by omega), bo (24 + 2 * e) (by omega) (by omega) (by omega) (by omega) (by omega), f9, f10, f11]
    exact k7 e he
  · intro a hA
    rw [bo 7 (by decide) (by decide) (by decide) (by omega) (by omega), k8 a hA, (at_a a hA).2]
  · intro a hA
    rw [bo 8 (by decide) (by decide) (by decide) (by omega) (by omega), k9 a hA, (at_a a hA).1]
  · show c' 6 2 = _
    rw [bo 6 (by decide) (by decide) (by decide) (by omega) (by omega), k10]
    refine congrArg nI ?_
    unfold bcnt
    rw [f8]
    have hK : pK r' = pK r := by funext x; unfold pK; rw [f5]
    have eKp := pK_of hd dp
    have eKq := pK_of hd dq
    have hs := sm_move (f := fun x => if r 1 x = 1 then uc r x (16 / 2 ^ pK r x) else 0) (g := fun x => if r' 1 x = 1 then uc r' x (16 / 2 ^ pK r' x) else 0) hp hq hpq (by
      simp only [hK, up', up, uq, eKp, eKq, if_true]
      refine cr_disj _ _ (fun x _ hx => ?_)
      rw [p7 x (by omega)]
      by_cases w : r 7 (16 * q + x) = -1
      · rw [if_pos w]; simp [w]
      · rw [if_neg w]
        have pz : r 7 (16 * p + x) = -1 := (dj x (by omega)).resolve_right w
        simp [w, pz]) (by simp [q0]) (fun x hx z2 z => by
      simp only [hK, keep1 x z]
      by_cases w : r 1 x = 1
      · obtain ⟨⟨e, he, e5⟩, -⟩ := i4 x hx w
        have := c2_le he
        rw [if_pos w, if_pos w, pK_of he e5]
        exact cr_congr _ _ (fun j _ hj => by simp only [o7 x j hx z2 (by omega)])
      · rw [if_neg w, if_neg w])
    rw [hs]
theorem join_rel {c r : fl_G} (h : Rl 0 c r) {p q d : Nat} (hp : p < 12) (hq : q < 12) (hpq : p ≠ q) (hd : d < 4) (up : r 1 p = 1) (uq : r 1 q = 1) (dp : r 5 p = nI d) (dq : r 5 q = nI d) (np : ∀ e, e < 4 → r 9 e ≠ nI p) (nq : ∀ e, e < 4 → r 9 e ≠ nI q) (dj : ∀ k, k < 16 → r 7 (16 * p + k) = -1 ∨ r 7 (16 * q + k) = -1) :
    ∃ c' r', fS_join (10 + p) (10 + q) c = some ((), c') ∧ fR_merge (nI p) (nI q) r = some ((), r') ∧ Rl 0 c' r' ∧ (∀ x, r' 1 x = if x = q then 0 else r 1 x) ∧ (∀ z, z ≠ 1 → z ≠ 2 → z ≠ 3 → z ≠ 7 → r' z = r z) ∧ (∀ z, z ≠ 3 → z ≠ 4 → z ≠ 5 → z ≠ 10 + p → z ≠ 10 + q → c' z = c z) := by
  have hh := h
  obtain ⟨⟨i1, i2, i3, i4, i5, i6, i7, i8, i9⟩, k1, k2, k3, k4, k5, k6, k7, k8, k9, k10⟩ := h
  obtain ⟨-, -, -, U, hU, eU, hbU⟩ := k5 p hp up
  obtain ⟨-, n2, -, V, hV, eV, hbV⟩ := k5 q hq uq
  have h2 := c2_le hd
  obtain ⟨c1, r1, f1, f2, f3, f4, f5, f6⟩ := copy_L hp hq hpq hd hV (16 / 2 ^ d) 1000 0 c r (by omega) (by omega) k2 eV hbV dp
  have r13 : r1 3 = r 3 := f5 3 (by decide) (by decide)
  obtain ⟨c2, r2, g1, g2, g3, g4, g5, g6, g7⟩ := remap_L hp hq (nI (2 ^ d)) 24 1000 0 c1 r1 (by omega) (by omega) (fun v hv => by rw [f4 4 (by decide), r13]; exact k3 v hv) (fun v hv => by rw [f4 5 (by decide)]; unfold vc; rw [r13]; exact k4 v hv)
  have c2p : ∀ x, x < 12 → c2 (10 + x) = c (10 + x) := fun x hx => by rw [g5 _ (by omega) (by omega), f4 _ (by omega)]
  obtain ⟨c3, hc3⟩ : ∃ c3, c3 = fl_up c2 (10 + p) 4 (nI (U ||| V)) := ⟨_, rfl⟩
  obtain ⟨c4, hc4⟩ : ∃ c4, c4 = fl_up (fl_up (fl_up (fl_up c3 (10 + q) 1 (-1)) (10 + q) 2 (-1)) (10 + q) 3 (-1)) (10 + q) 4 0 := ⟨_, rfl⟩
  obtain ⟨r3, hr3⟩ : ∃ r3, r3 = fl_up r2 1 q 0 := ⟨_, rfl⟩
  have c4q : ∀ z, z ≠ 10 + q → c4 z = c3 z := fun z hz => by rw [hc4, fl_up_ne _ _ _ hz, fl_up_ne _ _ _ hz, fl_up_ne _ _ _ hz, fl_up_ne _ _ _ hz]
  have c42 : c4 (10 + q) 2 = -1 := by rw [hc4]; simp [fl_up_at]
  have c3q : ∀ z, z ≠ 10 + p → c3 z = c2 z := fun z hz => by rw [hc3, fl_up_ne _ _ _ hz]
  have bo : ∀ z, z ≠ 3 → z ≠ 4 → z ≠ 5 → z ≠ 10 + p → z ≠ 10 + q → c4 z = c z := fun z h3 h4 h5 hP hQ => by rw [c4q z hQ, c3q z hP, g5 z h4 h5, f4 z h3]
  have a1 : ∀ x, r3 1 x = if x = q then 0 else r 1 x := fun x => by rw [hr3, fl_up_at, g6 1 (by decide), f5 1 (by decide) (by decide)]; simp
  have aq : ∀ z, z ≠ 1 → z ≠ 2 → z ≠ 3 → z ≠ 7 → r3 z = r z := fun z z1 z2 z3 z7 => by rw [hr3, fl_up_ne _ _ _ z1, g6 z z3, f5 z z2 z7]
  refine ⟨c4, r3, ?_, ?_, ?_, a1, aq, bo⟩
  · rw [fS_join, fl_ck_pos (mc_kdM hq), n2, dq, wordsC_spec c hd, fl_bd_mk, n2, dq, cellsC_spec c hd, fl_bd_mk, fl_bd_of (show fS_join_L20 1000 0 (nI (16 / 2 ^ d)) (nI (2 ^ d)) (10 + p) (10 + q) c = some (nI (16 / 2 ^ d), c1) from f1), fl_ck_pos (mc_kdM hp), show Int32.ofNat (10 + q - 10) = nI q by rw [show 10 + q - 10 = q by omega]; rfl, show Int32.ofNat (10 + p - 10) = nI p by rw [show 10 + p - 10 = p by omega]; rfl, fP_remapAllOf, fl_bd_of (show fP_remapAllOf_L2 1000 0 (nI q) (nI p) c1 = some (nI 24, c2) from g1), fl_bd_mk, fM_takeOverCells, fl_ck_pos (mc_kdM hp), fl_ck_pos (mc_kdM hq), c2p p hp, c2p q hq, eU, eV, nI_or hU hV, ← hc3, fl_bd_mk, fM_end, fl_ck_pos (mc_kdM hq), ← hc4, fl_bd_mk]
  · rw [fR_merge, fl_ck_pos (fl_in_nI hp (by decide)), nI_clamp (by omega), dp, sl_c hd, fl_bd_of (show fR_merge_L12 1000 0 (nI (2 ^ d)) (nI p) (nI q) r = some (nI (16 / 2 ^ d), r1) from f2), fl_bd_of (show fR_merge_L122 1000 0 (nI (2 ^ d)) (nI p) (nI q) r1 = some (nI 24, r2) from g2), fl_ck_pos (fl_in_nI hq (by decide)), nI_clamp (by omega), ← hr3]
  · have r32 : r3 2 = r1 2 := by rw [hr3, fl_up_ne _ _ _ (by decide), g6 2 (by decide)]
    have r33 : r3 3 = r2 3 := by rw [hr3, fl_up_ne _ _ _ (by decide)]
    have r37 : r3 7 = r1 7 := by rw [hr3, fl_up_ne _ _ _ (by decide), g6 7 (by decide)]
    refine merge_rel (U := U) (V := V) hh hp hq hpq hd up uq dp dq np nq dj hU hbU hV hbV a1 (fun z => ?_) (fun x => ?_) aq ?_ ?_ ?_ (fun x => ?_) c42 bo
    · rw [r33, g7 z, r13]; simp
    · rw [r37, f6 x]; simp
    · intro x hx; rw [c4q 3 (by omega), c3q 3 (by omega), g5 3 (by decide) (by decide), r32]; exact f3 x hx
    · intro x hx; rw [c4q 4 (by omega), c3q 4 (by omega), r33]; exact g3 x hx
    · intro x hx; rw [c4q 5 (by omega), c3q 5 (by omega)]; unfold vc; rw [r33]; exact g4 x hx
    · rw [c4q _ (by omega), hc3, fl_up_at, c2p p hp]; simp
