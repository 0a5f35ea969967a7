/-! addresses -/
theorem dv16 {a : Nat} (h : a < 2 ^ 31) : nI a / 16 = nI (a / 16) := pk_div h (by decide) (by decide)
theorem rm16 {a : Nat} (h : a < 2 ^ 31) : fl_rem (nI a) 16 = nI (a % 16) := pk_rem h (by decide) (by decide)
theorem sh_c {n c : Nat} (hn : n < 2 ^ 31) (hc : c < 4) : nI n >>> (nI c &&& 31) = nI (n / 2 ^ c) :=
  pk_shrN hn (nI c &&& 31) c ((by decide : ∀ c, c < 4 → ((nI c &&& 31).toBitVec.smod 32).toNat = c) c hc)
theorem sl_c {c : Nat} (hc : c < 4) : (1 : Int32) <<< (nI c &&& 31) = nI (2 ^ c) := i1_shl c (by omega)
theorem p2_le {c : Nat} (hc : c < 4) : 1 ≤ 2 ^ c ∧ 2 ^ c ≤ 8 := (by decide : ∀ c, c < 4 → 1 ≤ 2 ^ c ∧ 2 ^ c ≤ 8) c hc
theorem rm_c {a c : Nat} (h : a < 2 ^ 31) (hc : c < 4) : fl_rem (nI a) (nI (2 ^ c)) = nI (a % 2 ^ c) := pk_rem h (by have := p2_le hc; omega) (by have := p2_le hc; omega)
theorem cells_spec (r : fl_G) {c : Nat} (hc : c < 4) : fR_cells (nI c) r = some (nI (16 / 2 ^ c), r) := by
  rw [fR_cells, show (16 : Int32) = nI 16 from rfl, sh_c (by decide) hc]
theorem cellsC_spec (g : fl_G) {c : Nat} (hc : c < 4) : fS_cellsOfClass (nI c) g = some (nI (16 / 2 ^ c), g) := by
  rw [fS_cellsOfClass, show (16 : Int32) = nI 16 from rfl, sh_c (by decide) hc]
theorem wordsC_spec (g : fl_G) {c : Nat} (hc : c < 4) : fS_wordsOfClass (nI c) g = some (nI (2 ^ c), g) := by
  rw [fS_wordsOfClass, sl_c hc]
theorem isAddr_yes {a : Nat} (r : fl_G) (h : a < 384) : fR_isAddress (nI a) r = some (1, r) := by
  rw [fR_isAddress, show (383 : Int32) = nI 383 from rfl, within_yes 383 (by decide) r (by omega), fl_bd_mk, fl_ck_pos (Or.inr rfl)]
theorem isAddr_no {x : Int32} (r : fl_G) (h : x < 0 ∨ nI 384 ≤ x) : fR_isAddress x r = some (0, r) := by
  rw [fR_isAddress, show (383 : Int32) = nI 383 from rfl, within_no 383 (by decide) r h, fl_bd_mk, fl_ck_pos (Or.inl rfl)]
theorem behind_spec (r : fl_G) {a : Nat} (h : a < 384) : fR_behind (nI a) r = some (r 3 (a / 16), r) := by
  rw [fR_behind, isAddr_yes r h, fl_bd_mk, if_neg one_ne, dv16 (by omega), fl_ck_pos (fl_in_nI (by omega) (by decide)), nI_clamp (by omega)]
theorem behind_no (r : fl_G) {x : Int32} (h : x < 0 ∨ nI 384 ≤ x) : fR_behind x r = some (-1, r) := by
  rw [fR_behind, isAddr_no r h]; rfl
theorem pP_of {r : fl_G} {v p : Nat} (hp : p < 12) (h : r 3 v = nI p) : pP r v = p := by rw [pP, h, nI_clamp (by omega)]
theorem pK_of {r : fl_G} {p c : Nat} (hc : c < 4) (h : r 5 p = nI c) : pK r p = c := by rw [pK, h, nI_clamp (by omega)]
/-- the cell of a block at an address -/
def sq (r : fl_G) (a : Nat) : Prop := r 3 (a / 16) ≠ -1 ∧ r 1 (pP r (a / 16)) = 1 ∧ r 7 (16 * pP r (a / 16) + a % 16 / 2 ^ pK r (pP r (a / 16))) = nI (a / 16)
theorem cellAt_no (r : fl_G) {x : Int32} (h : x < 0 ∨ nI 384 ≤ x) : fR_cellAt x r = some (-1, r) := by
  rw [fR_cellAt, behind_no r h]; rfl
theorem idx_lt {p c k : Nat} (hp : p < 12) (hk : k < 16) : 16 * p + k / 2 ^ c < 192 := by
  have := Nat.div_le_self k (2 ^ c)
  omega
theorem cellAt_eq {r : fl_G} (h1 : rI1 r) (h4 : rI4 r) {a : Nat} (ha : a < 384) : (sq r a → fR_cellAt (nI a) r = some (nI (16 * pP r (a / 16) + a % 16 / 2 ^ pK r (pP r (a / 16))), r)) ∧ (¬ sq r a → fR_cellAt (nI a) r = some (-1, r)) := by
  rcases h1 (a / 16) (by omega) with e | ⟨p, hp, e⟩
  · refine ⟨fun h => absurd e h.1, fun _ => ?_⟩
    rw [fR_cellAt, behind_spec r ha, fl_bd_mk, e, if_pos rfl]
  · have eP := pP_of hp e
    unfold sq
    rw [eP, fR_cellAt, behind_spec r ha, fl_bd_mk, e, if_neg (nI_m1 (by omega)), fl_ck_pos (fl_in_nI hp (by decide)), fl_ck_pos (fl_in_nI hp (by decide)), nI_clamp (by omega)]
    by_cases hu : r 1 p = 1
    · obtain ⟨⟨c, hc, ec⟩, -⟩ := h4 p hp hu
      have eK := pK_of hc ec
      have hi := idx_lt (c := c) hp (show a % 16 < 16 by omega)
      rw [if_pos hu, ec, rm16 (by omega), sh_c (by omega) hc, show (16 : Int32) = nI 16 from rfl, pk_mul, nI_add, fl_ck_pos (fl_in_nI hi (by decide)), nI_clamp (by omega), show nI a / nI 16 = nI (a / 16) from dv16 (by omega), eK]
      refine ⟨fun h => ?_, fun h => ?_⟩
      · rw [if_pos h.2.2]
      · rw [if_neg (fun q => h ⟨nI_m1 (by omega), hu, q⟩)]
    · rw [if_neg hu]
      exact ⟨fun h => absurd h.2.1 hu, fun _ => rfl⟩
theorem sq_idx {r : fl_G} (h1 : rI1 r) {a : Nat} (ha : a < 384) (h : sq r a) : 16 * pP r (a / 16) + a % 16 / 2 ^ pK r (pP r (a / 16)) < 192 := by
  rcases h1 (a / 16) (by omega) with e | ⟨p, hp, e⟩
  · exact absurd e h.1
  · rw [pP_of hp e]; exact idx_lt hp (by omega)
theorem isSmall_no (r : fl_G) {x : Int32} (h : x < 0 ∨ nI 384 ≤ x) : fR_isSmall x r = some (0, r) := by
  rw [fR_isSmall, behind_no r h, fl_bd_mk, cellAt_no r h]; rfl
theorem isSmall_eq {r : fl_G} (h1 : rI1 r) (h4 : rI4 r) {a : Nat} (ha : a < 384) : (sq r a ∧ a % 2 ^ pK r (pP r (a / 16)) = 0 → fR_isSmall (nI a) r = some (1, r)) ∧ (¬ (sq r a ∧ a % 2 ^ pK r (pP r (a / 16)) = 0) → fR_isSmall (nI a) r = some (0, r)) := by
  rw [fR_isSmall, behind_spec r ha, fl_bd_mk]
  by_cases hs : sq r a
  · have hi := sq_idx h1 ha hs
    rw [(cellAt_eq h1 h4 ha).1 hs, fl_bd_mk, if_neg (nI_m1 (by omega))]
    rcases h1 (a / 16) (by omega) with e | ⟨p, hp, e⟩
    · exact absurd e hs.1
    · have eP := pP_of hp e
      have hu : r 1 p = 1 := by have := hs.2.1; rw [eP] at this; exact this
      obtain ⟨⟨c, hc, ec⟩, -⟩ := h4 p hp hu
      have eK := pK_of hc ec
      have h2 := p2_le hc
      rw [e, fl_ck_pos (fl_in_nI hp (by decide)), nI_clamp (by omega), ec, sl_c hc, fl_ck_pos (nI_ne0 (by omega) (by omega)), rm_c (by omega) hc, eP, eK]
      refine ⟨fun h => ?_, fun h => ?_⟩
      · rw [if_pos (by rw [h.2]; rfl)]
      · rw [if_neg (fun q => h ⟨hs, (nI_eq0 (by have := Nat.mod_lt a (show 2 ^ c > 0 by omega); omega)).mp q⟩)]
  · rw [(cellAt_eq h1 h4 ha).2 hs, fl_bd_mk, if_pos rfl]
    exact ⟨fun h => absurd h.1 hs, fun _ => rfl⟩
theorem lg_le {r : fl_G} (h7 : rI7 r) {v : Nat} (hv : v < 24) : r 8 v ≤ 0 ↔ r 8 v = 0 := by
  rcases h7 v hv with e | ⟨n, n1, n2, -, e, -⟩
  · rw [e]; decide
  · rw [e]
    constructor
    · intro h; exact absurd h (nI_nle (by omega) (by omega))
    · intro h; exact absurd h (nI_ne0 (by omega) (by omega))
theorem isLarge_no (r : fl_G) {x : Int32} (h : x < 0 ∨ nI 384 ≤ x) : fR_isLarge x r = some (0, r) := by
  rw [fR_isLarge, isAddr_no r h]; rfl
theorem isLarge_eq {r : fl_G} (h7 : rI7 r) {a : Nat} (ha : a < 384) : (a % 16 = 0 ∧ r 8 (a / 16) ≠ 0 → fR_isLarge (nI a) r = some (1, r)) ∧ (¬ (a % 16 = 0 ∧ r 8 (a / 16) ≠ 0) → fR_isLarge (nI a) r = some (0, r)) := by
  rw [fR_isLarge, isAddr_yes r ha, fl_bd_mk, if_neg one_ne, rm16 (by omega), dv16 (by omega), fl_ck_pos (fl_in_nI (by omega) (by decide)), nI_clamp (by omega)]
  by_cases h0 : a % 16 = 0
  · rw [if_pos (by rw [h0]; rfl)]
    by_cases h8 : r 8 (a / 16) = 0
    · rw [if_pos ((lg_le h7 (by omega)).mpr h8)]
      exact ⟨fun h => absurd h8 h.2, fun _ => rfl⟩
    · rw [if_neg (fun q => h8 ((lg_le h7 (by omega)).mp q))]
      exact ⟨fun _ => rfl, fun h => absurd ⟨h0, h8⟩ h⟩
  · rw [if_neg (fun q => h0 ((nI_eq0 (by omega)).mp q))]
    exact ⟨fun h => absurd h.1 h0, fun _ => rfl⟩
theorem bsz_big {r : fl_G} {a : Nat} (h : a % 16 = 0 ∧ r 8 (a / 16) ≠ 0) : bsz r a = 16 * (r 8 (a / 16)).toNatClampNeg := by rw [bsz, if_pos h]
theorem bsz_small {r : fl_G} {a : Nat} (h : ¬ (a % 16 = 0 ∧ r 8 (a / 16) ≠ 0)) (h2 : sq r a ∧ a % 2 ^ pK r (pP r (a / 16)) = 0) : bsz r a = 2 ^ pK r (pP r (a / 16)) := by rw [bsz, if_neg h, if_pos ⟨h2.1.1, h2.1.2.1, h2.1.2.2, h2.2⟩]
theorem bsz_no {r : fl_G} {a : Nat} (h : ¬ (a % 16 = 0 ∧ r 8 (a / 16) ≠ 0)) (h2 : ¬ (sq r a ∧ a % 2 ^ pK r (pP r (a / 16)) = 0)) : bsz r a = 0 := by rw [bsz, if_neg h, if_neg (fun q => h2 ⟨⟨q.1, q.2.1, q.2.2.1⟩, q.2.2.2⟩)]
theorem wordsAt_no (c : fl_G) {x : Int32} (h : x < 0 ∨ nI 384 ≤ x) : fB_wordsAt x c = some (0, c) := by
  rw [fB_wordsAt, isAddress_no c h]; rfl
theorem wordsAt_eq {c r : fl_G} (h8 : kL8 c r) {a : Nat} (ha : a < 384) : fB_wordsAt (nI a) c = some (nI (bsz r a), c) := by
  rw [fB_wordsAt, isAddress_yes c ha, fl_bd_mk, if_neg one_ne, fl_ck_pos (fl_in_nI ha (by decide)), nI_clamp (by omega), h8 a ha]
theorem bsz_le {r : fl_G} (h7 : rI7 r) (h1 : rI1 r) (h4 : rI4 r) {a : Nat} (ha : a < 384) : bsz r a ≤ 64 := by
  by_cases hb : a % 16 = 0 ∧ r 8 (a / 16) ≠ 0
  · rw [bsz_big hb]
    rcases h7 (a / 16) (by omega) with e | ⟨n, n1, n2, -, e, -⟩
    · exact absurd e hb.2
    · rw [e, nI_clamp (by omega)]; omega
  · by_cases hs : sq r a ∧ a % 2 ^ pK r (pP r (a / 16)) = 0
    · rw [bsz_small hb hs]
      rcases h1 (a / 16) (by omega) with e | ⟨p, hp, e⟩
      · exact absurd e hs.1.1
      · have eP := pP_of hp e
        have hu : r 1 p = 1 := by have := hs.1.2.1; rw [eP] at this; exact this
        obtain ⟨⟨c, hc, ec⟩, -⟩ := h4 p hp hu
        rw [eP, pK_of hc ec]
        have := p2_le hc
        omega
    · rw [bsz_no hb hs]; omega
theorem beginsAt_no (c : fl_G) {x : Int32} (h : x < 0 ∨ nI 384 ≤ x) : fB_beginsAt x c = some (0, c) := by
  rw [fB_beginsAt, wordsAt_no c h]; rfl
theorem beginsAt_eq {c r : fl_G} (h : Rl 0 c r) {a : Nat} (ha : a < 384) : fB_beginsAt (nI a) c = some (if bsz r a = 0 then 0 else 1, c) := by
  have hl := bsz_le h.1.2.2.2.2.2.2.1 h.1.1 h.1.2.2.2.1 ha
  rw [fB_beginsAt, wordsAt_eq h.2.2.2.2.2.2.2.2.1 ha, fl_bd_mk]
  by_cases e : bsz r a = 0
  · rw [e, if_pos (by decide), if_pos rfl]
  · rw [if_neg (nI_nle (by omega) (by omega)), if_neg e]
theorem s_size : lw_S1 fS_size fR_size Rl := by
  intro k x c r _ h
  have hno : x < 0 ∨ nI 384 ≤ x → ∃ v gC' gR', fS_size x c = some (v, gC') ∧ fR_size x r = some (v, gR') ∧ Rl (k + 1) gC' gR' := fun hx => ⟨-2, c, r, by rw [fS_size, beginsAt_no c hx]; rfl, by rw [fR_size, isLarge_no r hx, fl_bd_mk, if_pos rfl, isSmall_no r hx]; rfl, h⟩
  rcases pk_ix x (n := 384) (by decide) with hx | hx | ⟨a, ha, rfl⟩
  · exact hno (Or.inl hx)
  · exact hno (Or.inr hx)
  · have h1 := h.1.1
    have h4 := h.1.2.2.2.1
    have h7 := h.1.2.2.2.2.2.2.1
    have hl := bsz_le h7 h1 h4 ha
    rw [fS_size, beginsAt_eq h ha, fl_bd_mk, wordsAt_eq h.2.2.2.2.2.2.2.2.1 ha, fl_bd_mk, fR_size]
    by_cases hb : a % 16 = 0 ∧ r 8 (a / 16) ≠ 0
    · rw [(isLarge_eq h7 ha).1 hb, fl_bd_mk, if_neg one_ne, dv16 (by omega), fl_ck_pos (fl_in_nI (by omega) (by decide)), nI_clamp (by omega)]
      have e := bsz_big hb
      rcases h7 (a / 16) (by omega) with e8 | ⟨n, n1, n2, -, e8, -⟩
      · exact absurd e8 hb.2
      · rw [e8, nI_clamp (by omega)] at e
        rw [if_neg (show ¬ (if bsz r a = 0 then (0 : Int32) else 1) = 0 by rw [if_neg (by omega)]; decide), e8, show (16 : Int32) = nI 16 from rfl, pk_mul, e]
        exact ⟨_, c, r, rfl, rfl, h⟩
    · rw [(isLarge_eq h7 ha).2 hb, fl_bd_mk, if_pos (show (0 : Int32) = 0 from rfl)]
      by_cases hs : sq r a ∧ a % 2 ^ pK r (pP r (a / 16)) = 0
      · rw [(isSmall_eq h1 h4 ha).1 hs, fl_bd_mk, if_neg one_ne, behind_spec r ha, fl_bd_mk, bsz_small hb hs]
        rcases h1 (a / 16) (by omega) with e | ⟨p, hp, e⟩
        · exact absurd e hs.1.1
        · have eP := pP_of hp e
          have hu : r 1 p = 1 := by have := hs.1.2.1; rw [eP] at this; exact this
          obtain ⟨⟨d, hd, ed⟩, -⟩ := h4 p hp hu
          have := p2_le hd
          rw [eP, pK_of hd ed, e, fl_ck_pos (fl_in_nI hp (by decide)), nI_clamp (by omega), ed, sl_c hd, if_neg (show ¬ (if 2 ^ d = 0 then (0 : Int32) else 1) = 0 by rw [if_neg (by omega)]; decide)]
          exact ⟨_, c, r, rfl, rfl, h⟩
      · rw [(isSmall_eq h1 h4 ha).2 hs, fl_bd_mk, if_pos (show (0 : Int32) = 0 from rfl), bsz_no hb hs, if_pos (show (if 0 = 0 then (0 : Int32) else 1) = 0 from rfl)]
        exact ⟨_, c, r, rfl, rfl, h⟩
/-! the miniheap behind an address -/
theorem exists_yes {c r : fl_G} (h5 : kL5 c r) (h4 : rI4 r) {p : Nat} (hp : p < 12) (hu : r 1 p = 1) : fM_exists (10 + p) c = some (1, c) := by
  obtain ⟨⟨d, hd, ed⟩, -⟩ := h4 p hp hu
  rw [fM_exists, fl_ck_pos (mc_kdM hp), (h5 p hp hu).2.1, ed, isClass_yes c hd, fl_bd_mk, fl_ck_pos (Or.inr rfl)]
theorem exists_no {c r : fl_G} (h6 : kL6 c r) {p : Nat} (hp : p < 12) (hu : r 1 p ≠ 1) : fM_exists (10 + p) c = some (0, c) := by
  rw [fM_exists, fl_ck_pos (mc_kdM hp), h6 p hp hu, isClass_no c (Or.inl (by decide)), fl_bd_mk, fl_ck_pos (Or.inl rfl)]
theorem physOf_eq {c r : fl_G} (h3 : kL3 c r) {v : Nat} (hv : v < 24) : fP_physicalOf (nI v) c = some (r 3 v, c) := by
  rw [fP_physicalOf, isVirtual_yes c hv, fl_bd_mk, if_neg one_ne, fl_ck_pos (fl_in_nI hv (by decide)), nI_clamp (by omega), h3 v hv]
theorem behindC_p {c r : fl_G} (h3 : kL3 c r) {a p : Nat} (ha : a < 384) (hp : p < 12) (e : r 3 (a / 16) = nI p) : fS_miniheapBehind (nI a) c = fl_bd (fM_exists (10 + p) c) (fun r23 g24 => if r23 = 0 then (some (none, g24)) else some (some (10 + p), g24)) := by
  rw [fS_miniheapBehind, isAddress_yes c ha, fl_bd_mk, if_neg one_ne, dv16 (by omega), physOf_eq h3 (by omega), fl_bd_mk, e, isPhysical_yes c hp, fl_bd_mk, if_neg one_ne, fl_ck_pos (fl_in_nI hp (by decide))]
  simp only [fl_ck_pos (fl_in_nI hp (show 12 < 2 ^ 31 by decide)), nI_clamp (show p < 2 ^ 31 by omega)]
theorem s_heapOf : lw_S1 fS_heapOf fR_heapOf Rl := by
  intro k x c r _ h
  have hno : x < 0 ∨ nI 384 ≤ x → ∃ v gC' gR', fS_heapOf x c = some (v, gC') ∧ fR_heapOf x r = some (v, gR') ∧ Rl (k + 1) gC' gR' := fun hx => ⟨-2, c, r, by rw [fS_heapOf, beginsAt_no c hx]; rfl, by rw [fR_heapOf, isLarge_no r hx, fl_bd_mk, if_pos rfl, isSmall_no r hx]; rfl, h⟩
  rcases pk_ix x (n := 384) (by decide) with hx | hx | ⟨a, ha, rfl⟩
  · exact hno (Or.inl hx)
  · exact hno (Or.inr hx)
  · have h1 := h.1.1
    have h4 := h.1.2.2.2.1
    have h7 := h.1.2.2.2.2.2.2.1
    rw [fS_heapOf, beginsAt_eq h ha, fl_bd_mk, fR_heapOf]
    by_cases hb : a % 16 = 0 ∧ r 8 (a / 16) ≠ 0
    · rw [(isLarge_eq h7 ha).1 hb, fl_bd_mk, if_neg one_ne]
      have e := bsz_big hb
      rcases h7 (a / 16) (by omega) with e8 | ⟨n, n1, n2, -, e8, hj, -⟩
      · exact absurd e8 hb.2
      · rw [e8, nI_clamp (by omega)] at e
        obtain ⟨p, hp, e3, e1⟩ := hj 0 (by omega)
        rw [Nat.add_zero] at e3
        rw [if_neg (show ¬ (if bsz r a = 0 then (0 : Int32) else 1) = 0 by rw [if_neg (by omega)]; decide), behindC_p h.2.2.2.1 ha hp e3, exists_no h.2.2.2.2.2.2.1 hp (by rw [e1]; decide), fl_bd_mk, if_pos rfl, fl_bd_mk]
        exact ⟨_, c, r, rfl, rfl, h⟩
    · rw [(isLarge_eq h7 ha).2 hb, fl_bd_mk, if_pos (show (0 : Int32) = 0 from rfl)]
      by_cases hs : sq r a ∧ a % 2 ^ pK r (pP r (a / 16)) = 0
      · rw [(isSmall_eq h1 h4 ha).1 hs, fl_bd_mk, if_neg one_ne, behind_spec r ha, fl_bd_mk, bsz_small hb hs]
        rcases h1 (a / 16) (by omega) with e | ⟨p, hp, e⟩
        · exact absurd e hs.1.1
        · have eP := pP_of hp e
          have hu : r 1 p = 1 := by have := hs.1.2.1; rw [eP] at this; exact this
          obtain ⟨⟨d, hd, ed⟩, -⟩ := h4 p hp hu
          have := p2_le hd
          rw [eP, pK_of hd ed, e, fl_ck_pos (fl_in_nI hp (by decide)), nI_clamp (by omega), if_neg (show ¬ (if 2 ^ d = 0 then (0 : Int32) else 1) = 0 by rw [if_neg (by omega)]; decide), behindC_p h.2.2.2.1 ha hp e, exists_yes h.2.2.2.2.2.1 h4 hp hu, fl_bd_mk, if_neg one_ne, fl_bd_mk]
          refine ⟨r 4 p, c, r, ?_, rfl, h⟩
          show fl_ck (mc_kd (10 + p) = 4) _ = _
          rw [fl_ck_pos (mc_kdM hp), (h.2.2.2.2.2.1 p hp hu).1]
      · rw [(isSmall_eq h1 h4 ha).2 hs, fl_bd_mk, if_pos (show (0 : Int32) = 0 from rfl), bsz_no hb hs, if_pos (show (if 0 = 0 then (0 : Int32) else 1) = 0 from rfl)]
        exact ⟨_, c, r, rfl, rfl, h⟩
/-! load and store -/
theorem inside_no (r : fl_G) {x : Int32} (h : x < 0 ∨ nI 384 ≤ x) : fR_inside x r = some (0, r) := by
  rw [fR_inside, behind_no r h]; rfl
theorem inside_eq {r : fl_G} (h1 : rI1 r) (h4 : rI4 r) {a : Nat} (ha : a < 384) : fR_inside (nI a) r = some (if ins r a = true then 1 else 0, r) := by
  rw [fR_inside, behind_spec r ha, fl_bd_mk]
  rcases h1 (a / 16) (by omega) with e | ⟨p, hp, e⟩
  · rw [e, if_pos rfl, if_neg (by simp [ins, e])]
  · have eP := pP_of hp e
    rw [e, if_neg (nI_m1 (by omega)), fl_ck_pos (fl_in_nI hp (by decide)), nI_clamp (by omega)]
    by_cases hu : r 1 p = 2
    · rw [if_pos hu, if_pos (by simp [ins, e, eP, hu, nI_m1 (show p < 2 ^ 31 by omega)])]
    · rw [if_neg hu]
      by_cases hs : sq r a
      · have hi := sq_idx h1 ha hs
        rw [(cellAt_eq h1 h4 ha).1 hs, fl_bd_mk, if_neg (nI_m1 (by omega)), if_pos (by unfold sq at hs; simp [ins, hs])]
      · rw [(cellAt_eq h1 h4 ha).2 hs, fl_bd_mk, if_pos rfl, if_neg]
        intro q
        simp only [ins, decide_eq_true_eq, eP, hu, false_or] at q
        unfold sq at hs
        rw [eP] at hs
        exact hs ⟨q.1, q.2.1, q.2.2⟩
theorem covers_no (c : fl_G) {x : Int32} (h : x < 0 ∨ nI 384 ≤ x) : fB_covers x c = some (0, c) := by
  rw [fB_covers, isAddress_no c h]; rfl
theorem covers_eq {c r : fl_G} (h9 : kL9 c r) {a : Nat} (ha : a < 384) : fB_covers (nI a) c = some (if ins r a = true then 1 else 0, c) := by
  rw [fB_covers, isAddress_yes c ha, fl_bd_mk, if_neg one_ne, fl_ck_pos (fl_in_nI ha (by decide)), nI_clamp (by omega), h9 a ha]
  by_cases h : ins r a = true
  · rw [if_pos h, if_neg one_ne]
  · rw [if_neg h, if_pos rfl]
theorem placeOf_eq {c r : fl_G} (h3 : kL3 c r) {a p : Nat} (ha : a < 384) (hp : p < 12) (e : r 3 (a / 16) = nI p) : fP_placeOf (nI a) c = some (nI (16 * p + a % 16), c) := by
  rw [fP_placeOf, isAddress_yes c ha, fl_bd_mk, if_neg one_ne, dv16 (by omega), fl_ck_pos (fl_in_nI (by omega) (by decide)), nI_clamp (by omega), h3 _ (by omega), e, if_neg (nI_m1 (by omega)), rm16 (by omega), show (16 : Int32) = nI 16 from rfl, pk_mul, nI_add, Nat.mul_comm]
theorem ins_p {r : fl_G} (h1 : rI1 r) {a : Nat} (ha : a < 384) (h : ins r a = true) : ∃ p, p < 12 ∧ r 3 (a / 16) = nI p := by
  rcases h1 (a / 16) (by omega) with e | ⟨p, hp, e⟩
  · simp [ins, e] at h
  · exact ⟨p, hp, e⟩
theorem s_load : lw_SL fS_load fR_load Rl := by
  intro k x c r _ h
  have hno : x < 0 ∨ nI 384 ≤ x → ∃ v gC' gR', fS_load x c = some (v, gC') ∧ fR_load x r = some (v, gR') ∧ Rl (k + 1) gC' gR' := fun hx => ⟨4294967296, c, r, by rw [fS_load, covers_no c hx]; rfl, by rw [fR_load, inside_no r hx]; rfl, h⟩
  rcases pk_ix x (n := 384) (by decide) with hx | hx | ⟨a, ha, rfl⟩
  · exact hno (Or.inl hx)
  · exact hno (Or.inr hx)
  · rw [fS_load, covers_eq h.2.2.2.2.2.2.2.2.2.1 ha, fl_bd_mk, fR_load, inside_eq h.1.1 h.1.2.2.2.1 ha, fl_bd_mk]
    by_cases hi : ins r a = true
    · obtain ⟨p, hp, e⟩ := ins_p h.1.1 ha hi
      rw [if_pos hi, if_neg one_ne, if_neg one_ne, fP_read, placeOf_eq h.2.2.2.1 ha hp e, fl_bd_mk, if_neg (nI_m1 (by omega)), fl_ck_pos (fl_in_nI (by omega) (by decide)), nI_clamp (by omega), fl_bd_mk, behind_spec r ha, fl_bd_mk, e, rm16 (by omega), show (16 : Int32) = nI 16 from rfl, pk_mul, nI_add, fl_ck_pos (fl_in_nI (by omega) (by decide)), nI_clamp (by omega), h.2.2.1 _ (by omega)]
      exact ⟨_, c, r, rfl, rfl, h⟩
    · rw [if_neg hi, if_pos rfl, if_pos rfl]
      exact ⟨_, c, r, rfl, rfl, h⟩
theorem Rl_words {k k' : Nat} {c c' r r' : fl_G} (hr : ∀ q, q ≠ 2 → r' q = r q) (hc : ∀ q, q ≠ 3 → c' q = c q) (h2 : kL2 c' r') (h : Rl k c r) : Rl k' c' r' := by
  obtain ⟨hI, h1, -, h3, h4, h5, h6, h7, h8, h9, h10⟩ := h
  have ec2 : ∀ p, c' (10 + p) = c (10 + p) := fun p => hc _ (by omega)
  have ec3 : ∀ p, c' (23 + p) = c (23 + p) := fun p => hc _ (by omega)
  have ec4 : ∀ p, c' (24 + p) = c (24 + p) := fun p => hc _ (by omega)
  refine ⟨?_, ?_, h2, ?_⟩
  · simp only [rInv, rI1, rI2, rI3, rI4, rI5, rI6, rI7, rI8, rI9, uc, hr 3 (by decide), hr 1 (by decide), hr 5 (by decide), hr 6 (by decide), hr 7 (by decide), hr 8 (by decide), hr 9 (by decide), hr 10 (by decide), hr 11 (by decide)]
    exact hI
  · simp only [kL1, hc 1 (by decide), hc 0 (by decide), hr 0 (by decide)]
    exact h1
  · simp only [kL3, kL4, kL5, kL6, kL7, kL8, kL9, kL10, vc, bsz, ins, bcnt, uc, pP, pK, ec2, ec3, ec4, hc 4 (by decide), hc 5 (by decide), hc 7 (by decide), hc 8 (by decide), hc 6 (by decide), hr 3 (by decide), hr 1 (by decide), hr 4 (by decide), hr 5 (by decide), hr 6 (by decide), hr 7 (by decide), hr 8 (by decide), hr 9 (by decide), hr 10 (by decide), hr 11 (by decide)]
    exact ⟨h3, h4, h5, h6, h7, h8, h9, h10⟩
theorem s_store : lw_S2 fS_store fR_store Rl := by
  intro k x y c r _ h
  have hno : x < 0 ∨ nI 384 ≤ x → ∃ v gC' gR', fS_store x y c = some (v, gC') ∧ fR_store x y r = some (v, gR') ∧ Rl (k + 1) gC' gR' := fun hx => ⟨0, c, r, by rw [fS_store, covers_no c hx]; rfl, by rw [fR_store, inside_no r hx]; rfl, h⟩
  rcases pk_ix x (n := 384) (by decide) with hx | hx | ⟨a, ha, rfl⟩
  · exact hno (Or.inl hx)
  · exact hno (Or.inr hx)
  · rw [fS_store, covers_eq h.2.2.2.2.2.2.2.2.2.1 ha, fl_bd_mk, fR_store, inside_eq h.1.1 h.1.2.2.2.1 ha, fl_bd_mk]
    by_cases hi : ins r a = true
    · obtain ⟨p, hp, e⟩ := ins_p h.1.1 ha hi
      rw [if_pos hi, if_neg one_ne, if_neg one_ne, fP_write, placeOf_eq h.2.2.2.1 ha hp e, fl_bd_mk, if_neg (nI_m1 (by omega)), fl_ck_pos (fl_in_nI (by omega) (by decide)), nI_clamp (by omega), fl_bd_mk, behind_spec r ha, fl_bd_mk, e, rm16 (by omega), show (16 : Int32) = nI 16 from rfl, pk_mul, nI_add, fl_ck_pos (fl_in_nI (by omega) (by decide)), nI_clamp (by omega)]
      refine ⟨1, _, _, rfl, rfl, Rl_words (fun q hq => fl_up_ne r _ _ hq) (fun q hq => fl_up_ne c _ _ hq) ?_ h⟩
      intro i hi
      rw [fl_up_at, fl_up_at, h.2.2.1 i hi]
      simp
    · rw [if_neg hi, if_pos rfl, if_pos rfl]
      exact ⟨_, c, r, rfl, rfl, h⟩
