def rHO (a0 : Int32) (g : fl_G) : Option (Int32 × fl_G) :=
  fl_ck (fl_in a0 4) (fl_ck (fl_in a0 4) (fl_ck (fl_in a0 4) (fl_ck (fl_in a0 4) (fl_ck (fl_in ((16 * a0) + ((fl_up g 10 (Int32.toNatClampNeg a0) ((g 10 (Int32.toNatClampNeg a0)) - 1)) 10 (Int32.toNatClampNeg a0))) 64) (fl_ck (fl_in (g 9 (Int32.toNatClampNeg a0)) 12) (fl_ck (fl_in ((16 * (g 9 (Int32.toNatClampNeg a0))) + ((fl_up g 10 (Int32.toNatClampNeg a0) ((g 10 (Int32.toNatClampNeg a0)) - 1)) 11 (Int32.toNatClampNeg ((16 * a0) + ((fl_up g 10 (Int32.toNatClampNeg a0) ((g 10 (Int32.toNatClampNeg a0)) - 1)) 10 (Int32.toNatClampNeg a0)))))) 192) (fl_bd (fR_zero ((16 * (g 9 (Int32.toNatClampNeg a0))) + (((fl_up g 10 (Int32.toNatClampNeg a0) ((g 10 (Int32.toNatClampNeg a0)) - 1)) 11 (Int32.toNatClampNeg ((16 * a0) + ((fl_up g 10 (Int32.toNatClampNeg a0) ((g 10 (Int32.toNatClampNeg a0)) - 1)) 10 (Int32.toNatClampNeg a0))))) <<< (a0 &&& 31))) (1 <<< (a0 &&& 31)) (fl_up (fl_up g 10 (Int32.toNatClampNeg a0) ((g 10 (Int32.toNatClampNeg a0)) - 1)) 7 (Int32.toNatClampNeg ((16 * (g 9 (Int32.toNatClampNeg a0))) + ((fl_up g 10 (Int32.toNatClampNeg a0) ((g 10 (Int32.toNatClampNeg a0)) - 1)) 11 (Int32.toNatClampNeg ((16 * a0) + ((fl_up g 10 (Int32.toNatClampNeg a0) ((g 10 (Int32.toNatClampNeg a0)) - 1)) 10 (Int32.toNatClampNeg a0))))))) ((fl_up g 10 (Int32.toNatClampNeg a0) ((g 10 (Int32.toNatClampNeg a0)) - 1)) 6 (Int32.toNatClampNeg (g 9 (Int32.toNatClampNeg a0)))))) (fun r17 g18 => fl_ck (fl_in (g 9 (Int32.toNatClampNeg a0)) 12) (some (((16 * (g18 6 (Int32.toNatClampNeg (g 9 (Int32.toNatClampNeg a0))))) + (((fl_up g 10 (Int32.toNatClampNeg a0) ((g 10 (Int32.toNatClampNeg a0)) - 1)) 11 (Int32.toNatClampNeg ((16 * a0) + ((fl_up g 10 (Int32.toNatClampNeg a0) ((g 10 (Int32.toNatClampNeg a0)) - 1)) 10 (Int32.toNatClampNeg a0))))) <<< (a0 &&& 31))), g18))))))))))
def rNew (a0 : Int32) (g : fl_G) : Option (Int32 × fl_G) :=
  fl_bd (fR_fullest a0 g) (fun r3 g4 => if r3 = (-1) then (fl_bd (fR_freePhysical g4) (fun r21 g22 => if r21 = 12 then (some ((-1), g22)) else (fl_bd (fR_freeVirtual 1 g22) (fun r25 g26 => if r25 = 24 then (some ((-1), g26)) else (fl_bd (fR_begin a0 r21 g26) (fun r29 g30 => fl_bd (fR_attach a0 r21 g30) (fun r32 g33 => rHO a0 g33))))))) else (fl_bd (fR_attach a0 r3 g4) (fun r7 g8 => rHO a0 g8)))
theorem small_eq (a0 : Int32) (g : fl_G) : fR_small a0 g = fl_ck (fl_in a0 4) (if (g 9 (Int32.toNatClampNeg a0)) = (-1) then rNew a0 g else (fl_ck (fl_in a0 4) (if (g 10 (Int32.toNatClampNeg a0)) = 0 then rNew a0 g else rHO a0 g))) := rfl
def cHO (a0 : Int32) (g : fl_G) : Option (Int32 × fl_G) :=
  fl_bd (fA_handOut (23 + 2 * (Int32.toNatClampNeg a0)) g) (fun r6 g7 => if r6 = (-1) then (some (r6, g7)) else (fl_bd (fS_wordsOfClass a0 g7) (fun r10 g11 => fl_bd (fP_clear r6 r10 g11) (fun r13 g14 => fl_bd (fS_wordsOfClass a0 g14) (fun r16 g17 => fl_bd (fB_add r6 r16 g17) (fun r19 g20 => some (r6, g20)))))))
theorem makeSmall_eq (a0 : Int32) (g : fl_G) : fS_makeSmall a0 g = fl_ck (fl_in a0 4) (fl_bd (fA_isSpent (23 + 2 * (Int32.toNatClampNeg a0)) g) (fun r2 g3 => if r2 = 0 then cHO a0 g3 else (fl_bd (fS_attachNext a0 g3) (fun r22 g23 => cHO a0 g23)))) := rfl
theorem at_congr2 {r r' : fl_G} (i1 : rI1 r) {a : Nat} (ha : a < 384) (e3 : r' 3 (a / 16) = r 3 (a / 16)) (e8 : r' 8 (a / 16) = r 8 (a / 16)) (hp : ∀ p, p < 12 → r 3 (a / 16) = nI p → r' 1 p = r 1 p ∧ r' 5 p = r 5 p ∧ r' 7 (16 * p + a % 16 / 2 ^ pK r p) = r 7 (16 * p + a % 16 / 2 ^ pK r p)) : ins r' a = ins r a ∧ bsz r' a = bsz r a := by
  rcases i1 (a / 16) (by omega) with e | ⟨p, hp12, e⟩
  · simp [ins, bsz, e3, e8, e]
  · obtain ⟨p1, p2, p3⟩ := hp p hp12 e
    have eP : pP r (a / 16) = p := pP_of hp12 e
    have eP' : pP r' (a / 16) = p := pP_of hp12 (by rw [e3, e])
    have eK : pK r' p = pK r p := by rw [pK, pK, p2]
    unfold ins bsz
    rw [eP, eP', e3, e8, p1, eK, p3]
    exact ⟨rfl, rfl⟩
theorem p2_cases {d : Nat} (hd : d < 4) : 2 ^ d = 1 ∨ 2 ^ d = 2 ∨ 2 ^ d = 4 ∨ 2 ^ d = 8 := (by decide : ∀ d, d < 4 → 2 ^ d = 1 ∨ 2 ^ d = 2 ∨ 2 ^ d = 4 ∨ 2 ^ d = 8) d hd
theorem cell_iff {a s k w : Nat} (hw : w = 1 ∨ w = 2 ∨ w = 4 ∨ w = 8) (hk : k < 16 / w) : ((a / 16 = s ∧ a % 16 / w = k) ↔ (16 * s + k * w ≤ a ∧ a < 16 * s + k * w + w)) ∧ ((a / 16 = s ∧ a % 16 / w = k ∧ a % w = 0) ↔ a = 16 * s + k * w) ∧ k * w + w ≤ 16 := by
  rcases hw with rfl | rfl | rfl | rfl <;> refine ⟨⟨?_, ?_⟩, ⟨?_, ?_⟩, ?_⟩ <;> omega
theorem sm_more {f g : Nat → Nat} : ∀ (d i j : Nat), i ≤ j → j < i + d → g j = f j + 1 → (∀ x, i ≤ x → x < i + d → x ≠ j → g x = f x) → sm g i d = sm f i d + 1
  | 0, i, j, h1, h2, _, _ => by omega
  | d + 1, i, j, h1, h2, hj, h => by
    rw [sm_s, sm_s]
    by_cases e : i = j
    · subst e
      rw [hj, sm_congr (f := g) (g := f) d (i + 1) (fun x a b => h x (by omega) (by omega) (by omega))]
      omega
    · rw [h i (Nat.le_refl _) (by omega) e, sm_more d (i + 1) j (by omega) (by omega) hj (fun x a b c => h x (by omega) (by omega) c)]
      omega
theorem sl_k : ∀ d, d < 4 → ∀ k, k < 16 → nI k <<< (nI d &&& 31) = nI (k * 2 ^ d) := by decide
theorem hand_rel {c r c' r' : fl_G} {p d m k s U : Nat} (h : Rl 0 c r) (hp : p < 12) (hd : d < 4) (hs : s < 24) (m1 : 1 ≤ m) (e9 : r 9 d = nI p) (hu : r 1 p = 1) (e5 : r 5 p = nI d) (e10 : r 10 d = nI m) (hsum : m + uc r p (16 / 2 ^ d) = 16 / 2 ^ d) (hent : ∀ j, j < m → ∃ k, k < 16 / 2 ^ d ∧ r 11 (16 * d + j) = nI k ∧ r 7 (16 * p + k) = -1) (hinj : ∀ i j, i < m → j < m → r 11 (16 * d + i) = r 11 (16 * d + j) → i = j) (hk : k < 16 / 2 ^ d) (ek : r 11 (16 * d + (m - 1)) = nI k) (e7 : r 7 (16 * p + k) = -1) (e6 : r 6 p = nI s) (e3 : r 3 s = nI p) (hU : U < 2 ^ 16) (eU : c (10 + p) 4 = nI U) (hb : ∀ x, x < 16 → U.testBit x = decide (r 7 (16 * p + x) ≠ -1))
    (a10 : ∀ x, r' 10 x = if x = d then nI (m - 1) else r 10 x) (a7 : ∀ x, r' 7 x = if x = 16 * p + k then nI s else r 7 x) (a2 : ∀ x, r' 2 x = if 16 * p + k * 2 ^ d ≤ x ∧ x < 16 * p + k * 2 ^ d + 2 ^ d then 0 else r 2 x) (aq : ∀ q, q ≠ 2 → q ≠ 7 → q ≠ 10 → r' q = r q)
    (b3 : ∀ x, c' 3 x = if 16 * p + k * 2 ^ d ≤ x ∧ x < 16 * p + k * 2 ^ d + 2 ^ d then 0 else c 3 x) (b7 : ∀ x, c' 7 x = if x = 16 * s + k * 2 ^ d then nI (2 ^ d) else c 7 x) (b8 : ∀ x, c' 8 x = if 16 * s + k * 2 ^ d ≤ x ∧ x < 16 * s + k * 2 ^ d + 2 ^ d then 1 else c 8 x) (b6 : c' 6 2 = c 6 2 + 1) (bA : ∀ x, c' (23 + 2 * d) x = if x = 2 then nI (m - 1) else c (23 + 2 * d) x) (bM : ∀ x, c' (10 + p) x = if x = 4 then nI (U ||| 2 ^ k) else c (10 + p) x) (bq : ∀ q, q ≠ 3 → q ≠ 6 → q ≠ 7 → q ≠ 8 → q ≠ 23 + 2 * d → q ≠ 10 + p → c' q = c q) : Rl 0 c' r' := by
  obtain ⟨⟨i1, i2, i3, i4, i5, i6, i7, i8, i9⟩, k1, k2, k3, k4, k5, k6, k7, k8, k9, k10⟩ := h
  have h2 := c2_le hd
  have hw := p2_cases hd
  have f0 := aq 0 (by decide) (by decide) (by decide)
  have f1 := aq 1 (by decide) (by decide) (by decide)
  have f3 := aq 3 (by decide) (by decide) (by decide)
  have f4 := aq 4 (by decide) (by decide) (by decide)
  have f5 := aq 5 (by decide) (by decide) (by decide)
  have f6 := aq 6 (by decide) (by decide) (by decide)
  have f8 := aq 8 (by decide) (by decide) (by decide)
  have f9 := aq 9 (by decide) (by decide) (by decide)
  have f11 := aq 11 (by decide) (by decide) (by decide)
  have keep7 : ∀ q j, j < 16 → (q ≠ p ∨ j ≠ k) → r' 7 (16 * q + j) = r 7 (16 * q + j) := fun q j hj hn => by rw [a7, if_neg (by omega)]
  have p7 : r' 7 (16 * p + k) = nI s := by rw [a7, if_pos rfl]
  have uco : ∀ q n, q ≠ p → n ≤ 16 → uc r' q n = uc r q n := fun q n hq hn => cr_congr _ _ (fun j _ hj => by simp only [keep7 q j (by omega) (Or.inl hq)])
  have ucp : uc r' p (16 / 2 ^ d) = uc r p (16 / 2 ^ d) + 1 := cr_more _ 0 k (by omega) (by omega) (by simp [e7]) (by simp [p7, nI_m1 (show s < 2 ^ 31 by omega)]) (fun x _ hx hne => by simp only [keep7 p x (by omega) (Or.inr hne)])
  have big : ∀ v, v < 24 → r 3 v = nI p → r 8 v = 0 := fun v hv e => by
    rcases Classical.em (r 8 v = 0) with q | q
    · exact q
    · obtain ⟨x, hx, e', e1⟩ := lg_map i7 hv q
      rw [e] at e'
      have := nI_inj (by omega) (by omega) e'
      rw [← this, hu] at e1; exact absurd e1 (by decide)
  have atk : ∀ a, a < 384 → r 3 (a / 16) = nI p → a % 16 / 2 ^ d = k → (ins r a = false ∧ bsz r a = 0) ∧ (ins r' a = decide (a / 16 = s)) ∧ bsz r' a = if a / 16 = s ∧ a % 2 ^ d = 0 then 2 ^ d else 0 := fun a hA e ei => by
    have eP : pP r (a / 16) = p := pP_of hp e
    have eK : pK r p = d := pK_of hd e5
    have eP' : pP r' (a / 16) = p := pP_of hp (by rw [f3, e])
    have eK' : pK r' p = d := pK_of hd (by rw [f5, e5])
    have m1' := nI_m1 (show p < 2 ^ 31 by omega)
    have lg := big _ (by omega) e
    refine ⟨⟨?_, ?_⟩, ?_, ?_⟩
    · simp only [ins, eP, hu, eK, ei, e7, decide_eq_false_iff_not]
      intro y
      rcases y.2 with w | w
      · exact absurd w (by decide)
      · exact absurd w.2.symm (nI_m1 (by omega))
    · rw [bsz, lg, if_neg (by simp), eP, eK, ei, e7, if_neg]
      intro y; exact absurd y.2.2.1.symm (nI_m1 (by omega))
    · simp only [ins, eP', f1, hu, eK', ei, p7, f3, e]
      by_cases z : a / 16 = s
      · simp [z, m1']
      · have : ¬ nI s = nI (a / 16) := fun y => z (nI_inj (by omega) (by omega) y).symm
        simp [z, this]
    · rw [bsz, f8, lg, if_neg (by simp), eP', f1, hu, eK', ei, p7, f3, e]
      by_cases z : a / 16 = s
      · simp [z, m1']
      · have : ¬ nI s = nI (a / 16) := fun y => z (nI_inj (by omega) (by omega) y).symm
        simp [z, this]
  have ato : ∀ a, a < 384 → ¬ (r 3 (a / 16) = nI p ∧ a % 16 / 2 ^ d = k) → ins r' a = ins r a ∧ bsz r' a = bsz r a := fun a hA hn =>
    at_congr2 i1 hA (by rw [f3]) (by rw [f8]) (fun q hq e => ⟨by rw [f1], by rw [f5], by
      refine keep7 q _ (Nat.lt_of_le_of_lt (Nat.div_le_self _ _) (by omega)) ?_
      by_cases z : q = p
      · right
        intro y
        rw [z, pK_of hd e5] at y
        exact hn ⟨by rw [e, z], y⟩
      · exact Or.inl z⟩)
  refine ⟨⟨?_, ?_, ?_, ?_, ?_, ?_, ?_, ?_, ?_⟩, ?_, ?_, ?_, ?_, ?_, ?_, ?_, ?_, ?_, ?_⟩
  · simp only [rI1, f3]; exact i1
  · simp only [rI2, f1]; exact i2
  · simp only [rI3, f1, f3]; exact i3
  · simp only [rI4, f1, f3, f5, f6]; exact i4
  · intro q e j hq he hj hq1 hq5
    rw [f1] at hq1; rw [f5] at hq5; rw [f3]
    by_cases z : q = p ∧ j = k
    · obtain ⟨rfl, rfl⟩ := z
      have : e = d := nI_inj (by omega) (by omega) (by rw [← hq5, e5])
      subst this
      exact Or.inr ⟨hk, s, hs, p7, e3⟩
    · rw [keep7 q j hj (by omega)]; exact i5 q e j hq he hj hq1 hq5
  · simp only [rI6, f1, f3]; exact i6
  · simp only [rI7, f1, f3, f8]; exact i7
  · simp only [rI8, f1, f3, f8]; exact i8
  · intro e he
    have h2' := c2_le he
    rw [f9, f1, f5, f11]
    by_cases z : e = d
    · subst z
      refine Or.inr ⟨p, m - 1, hp, e9, hu, e5, by rw [a10, if_pos rfl], by rw [ucp]; omega, fun j hj => ?_, fun i j hi hj hij => hinj i j (by omega) (by omega) hij⟩
      obtain ⟨x, x1, x2, x3⟩ := hent j (by omega)
      have : x ≠ k := fun y => by
        rw [y, ← ek] at x2
        have := hinj j (m - 1) (by omega) (by omega) x2
        omega
      exact ⟨x, x1, x2, by rw [keep7 p x (by omega) (Or.inr this)]; exact x3⟩
    · rw [a10, if_neg z]
      rcases i9 e he with y | ⟨q, n, y1, y2, y3, y4, y5, y6, y7, y8⟩
      · exact Or.inl y
      · have zq : q ≠ p := fun w => by
          rw [w, e5] at y4
          exact z (nI_inj (by omega) (by omega) y4).symm
        refine Or.inr ⟨q, n, y1, y2, y3, y4, y5, by rw [uco q _ zq (by omega)]; exact y6, fun j hj => ?_, y8⟩
        obtain ⟨x, x1, x2, x3⟩ := y7 j hj
        exact ⟨x, x1, x2, by rw [keep7 q x (by omega) (Or.inl zq)]; exact x3⟩
  · simp only [kL1, f0, bq 1 (by decide) (by decide) (by decide) (by decide) (by omega) (by omega), bq 0 (by decide) (by decide) (by decide) (by decide) (by omega) (by omega)]; exact k1
  · intro x hx; rw [b3, a2, k2 x hx]
  · simp only [kL3, f3, bq 4 (by decide) (by decide) (by decide) (by decide) (by omega) (by omega)]; exact k3
  · simp only [kL4, vc, f3, bq 5 (by decide) (by decide) (by decide) (by decide) (by omega) (by omega)]; exact k4
  · intro q hq hq1
    rw [f1] at hq1
    rw [f4, f5, f6]
    obtain ⟨x1, x2, x3, V, x4, x5, x6⟩ := k5 q hq hq1
    by_cases z : q = p
    · subst z
      rw [bM, if_neg (by decide), bM, if_neg (by decide), bM, if_neg (by decide), bM, if_pos rfl]
      refine ⟨x1, x2, x3, U ||| 2 ^ k, or_lt16 hU (pow16 (by omega)), rfl, fun j hj => ?_⟩
      rw [tb_set, hb j hj]
      by_cases y : j = k
      · subst y; rw [p7]; simp [nI_m1 (show s < 2 ^ 31 by omega)]
      · rw [keep7 q j hj (Or.inr y)]; simp [y]
    · rw [bq (10 + q) (by omega) (by omega) (by omega) (by omega) (by omega) (by omega)]
      exact ⟨x1, x2, x3, V, x4, x5, fun j hj => by rw [keep7 q j hj (Or.inl z)]; exact x6 j hj⟩
  · intro q hq hq1
    rw [f1] at hq1
    have z : q ≠ p := fun z => hq1 (by rw [z]; exact hu)
    rw [bq (10 + q) (by omega) (by omega) (by omega) (by omega) (by omega) (by omega)]
    exact k6 q hq hq1
  · intro e he
    rw [f9, f11]
    obtain ⟨y1, y2, y3, y4⟩ := k7 e he
    rw [bq (24 + 2 * e) (by omega) (by omega) (by omega) (by omega) (by omega) (by omega)]
    by_cases z : e = d
    · subst z
      rw [bA, if_pos rfl, bA, if_neg (by decide), a10, if_pos rfl]
      exact ⟨rfl, y2, y3, y4⟩
    · rw [bq (23 + 2 * e) (by omega) (by omega) (by omega) (by omega) (by omega) (by omega), a10, if_neg z]
      exact ⟨y1, y2, y3, y4⟩
  · intro a hA
    rw [b7, k8 a hA]
    obtain ⟨c1, c2, -⟩ := cell_iff (a := a) (s := s) hw hk
    by_cases z : r 3 (a / 16) = nI p ∧ a % 16 / 2 ^ d = k
    · obtain ⟨⟨-, x1⟩, -, x2⟩ := atk a hA z.1 z.2
      rw [x1, x2]
      by_cases y : a / 16 = s ∧ a % 2 ^ d = 0
      · rw [if_pos y, if_pos (c2.mp ⟨y.1, z.2, y.2⟩)]
      · rw [if_neg y, if_neg (fun w => y ⟨(c2.mpr w).1, (c2.mpr w).2.2⟩)]
    · rw [(ato a hA z).2, if_neg]
      intro w
      have := c2.mpr w
      exact z ⟨by rw [this.1]; exact e3, this.2.1⟩
  · intro a hA
    rw [b8, k9 a hA]
    obtain ⟨c1, c2, -⟩ := cell_iff (a := a) (s := s) hw hk
    by_cases z : r 3 (a / 16) = nI p ∧ a % 16 / 2 ^ d = k
    · obtain ⟨⟨x1, -⟩, x2, -⟩ := atk a hA z.1 z.2
      rw [x1, x2]
      by_cases y : a / 16 = s
      · rw [if_pos (c1.mp ⟨y, z.2⟩)]; simp [y]
      · rw [if_neg (fun w => y (c1.mpr w).1)]; simp [y]
    · rw [(ato a hA z).1, if_neg]
      intro w
      have := c1.mpr w
      exact z ⟨by rw [this.1]; exact e3, this.2⟩
  · show c' 6 2 = _
    rw [b6, k10, nI_1]
    have hsm : sm (fun p => if r' 1 p = 1 then uc r' p (16 / 2 ^ pK r' p) else 0) 0 12 = sm (fun p => if r 1 p = 1 then uc r p (16 / 2 ^ pK r p) else 0) 0 12 + 1 := by
      have eK : ∀ q, pK r' q = pK r q := fun q => by unfold pK; rw [f5]
      refine sm_more 12 0 p (by omega) (by omega) ?_ (fun q _ hq hne => ?_)
      · simp only [f1, hu, if_true, eK, pK_of hd e5, ucp]
      · simp only [f1, eK]
        by_cases y : r 1 q = 1
        · obtain ⟨⟨e, he, e5'⟩, -⟩ := i4 q (by omega) y
          have h2' := c2_le he
          rw [if_pos y, if_pos y, pK_of he e5', uco q _ hne (by omega)]
        · rw [if_neg y, if_neg y]
    refine congrArg nI ?_
    unfold bcnt
    rw [f8, hsm]
    omega
