/-! FLAT WORLDS: cells numbered 0 .. n - 1, cell i at the address ad i, its contents given by a shape (sh i) of a row of ints (g i). -/
abbrev fl_G : Type := Nat → Nat → Int32
def fl_st (g : fl_G) (q : Nat) (f : Nat → Int32) : fl_G := fun a => if a = q then f else g a
def fl_up (g : fl_G) (q k : Nat) (v : Int32) : fl_G := fl_st g q (upd (g q) k v)
theorem fl_st_self (g : fl_G) (q : Nat) (f : Nat → Int32) : fl_st g q f q = f := by simp [fl_st]
theorem fl_st_ne (g : fl_G) {q i : Nat} (f : Nat → Int32) (h : i ≠ q) : fl_st g q f i = g i := by simp [fl_st, h]
def fl_ws (n : Nat) (sh : Nat → (Nat → Int32) → va_E) (ad : Nat → Nat) (g : fl_G) : va_W := (List.range n).map (fun i => (ad i, sh i (g i)))
theorem fl_at {n : Nat} {sh : Nat → (Nat → Int32) → va_E} {ad : Nat → Nat} {g : fl_G} {q : Nat} (h : q < n) : (fl_ws n sh ad g)[q]? = some (ad q, sh q (g q)) := by
  simp [fl_ws, h]
theorem fl_len {n : Nat} {sh : Nat → (Nat → Int32) → va_E} {ad : Nat → Nat} {g : fl_G} : (fl_ws n sh ad g).length = n := by
  simp [fl_ws]
theorem fl_of_at {n : Nat} {sh : Nat → (Nat → Int32) → va_E} {ad : Nat → Nat} {g : fl_G} {k : Nat} {q : Nat × va_E} (h : (fl_ws n sh ad g)[k]? = some q) : k < n ∧ q = (ad k, sh k (g k)) := by
  have hk : k < n := by
    have h1 := (List.getElem?_eq_some_iff.mp h).1
    rw [fl_len] at h1
    exact h1
  rw [fl_at hk] at h
  exact ⟨hk, (Option.some.inj h).symm⟩
theorem fl_set {n : Nat} {sh : Nat → (Nat → Int32) → va_E} {ad : Nat → Nat} (g : fl_G) (q : Nat) (f : Nat → Int32) : (fl_ws n sh ad g).set q (ad q, sh q f) = fl_ws n sh ad (fl_st g q f) := by
  apply List.ext_getElem?
  intro i
  by_cases hi : i < n
  · by_cases hq : q = i
    · subst hq
      rw [List.getElem?_set_self (by rw [fl_len]; exact hi), fl_at hi, fl_st_self]
    · rw [List.getElem?_set_ne hq, fl_at hi, fl_at hi, fl_st_ne _ _ (Ne.symm hq)]
  · rw [List.getElem?_eq_none (by rw [List.length_set, fl_len]; omega), List.getElem?_eq_none (by rw [fl_len]; omega)]
def fl_A (n : Nat) (ad : Nat → Nat) : Nat → Prop := fun q => ∃ i, i < n ∧ q = ad i
def fl_inj (n : Nat) (ad : Nat → Nat) : Prop := ∀ i j, i < n → j < n → ad i = ad j → i = j
theorem fl_D {n : Nat} {sh : Nat → (Nat → Int32) → va_E} {ad : Nat → Nat} (hI : fl_inj n ad) (g : fl_G) : va_D (fl_A n ad) (fl_ws n sh ad g) := by
  refine ⟨fun i j p q hi hj hpq => ?_, fun k q hk => ?_⟩
  · obtain ⟨h1, rfl⟩ := fl_of_at hi
    obtain ⟨h2, rfl⟩ := fl_of_at hj
    exact hI i j h1 h2 hpq
  · obtain ⟨h1, rfl⟩ := fl_of_at hk
    exact ⟨k, h1, rfl⟩
/-! words about nest mates: they go with the start of a contract -/
def fl_isN : Cond → Bool
  | .fieldLinkNest .. => true
  | .methodLinkNest .. => true
  | _ => false
def fl_N (ns : List Cond) (U : State) : Prop := ∀ w ∈ ns, fl_isN w = true ∧ va_Nw w U
theorem fl_N.warm {ns : List Cond} {s U : State} (hW : s.WarmedH U.vm) (h : fl_N ns s) : fl_N ns U := fun w hw => by
  obtain ⟨h1, h2⟩ := h w hw
  refine ⟨h1, ?_⟩
  cases w <;> first | exact va_Nw.warmF hW h2 | exact va_Nw.warmM hW h2 | (simp [fl_isN] at h1; done)
theorem fl_N.same {ns : List Cond} {u U : State} (hv : u.vm = U.vm) (h : fl_N ns u) : fl_N ns U := fun w hw => by
  obtain ⟨h1, h2⟩ := h w hw
  refine ⟨h1, ?_⟩
  cases w <;> first | (simp [fl_isN] at h1; done) | exact va_Nw.same rfl hv h2
theorem fl_N.use {ns : List Cond} {s : State} {args : Array Value} (h : fl_N ns s) (w : Cond) (hw : w ∈ ns) : w.before args s = true := by
  obtain ⟨h1, h2⟩ := h w hw
  cases w <;> first | (simp [fl_isN] at h1; done) | exact va_Nw.use rfl h2
/-! a contract's start and end -/
def fl_Pre (D : va_G) (cl : List vw_C) (n : Nat) (sh : Nat → (Nat → Int32) → va_E) (ad : Nat → Nat) (tys : List (ClassId × FieldType)) (ns : List Cond) (g : fl_G) (U : State) : Prop :=
  va_P D cl (fl_ws n sh ad g) U.heap ∧ va_K D cl tys U ∧ fl_N ns U
def fl_B (D : va_G) (cl : List vw_C) (n : Nat) (sh : Nat → (Nat → Int32) → va_E) (ad : Nat → Nat) (u : fl_G) (t : State) : Prop := va_P D cl (fl_ws n sh ad u) t.heap
def fl_QI (D : va_G) (cl : List vw_C) (n : Nat) (sh : Nat → (Nat → Int32) → va_E) (ad : Nat → Nat) (r : Int32) (g1 : fl_G) : Array Value → State → Outcome → State → Prop := va_Qi (fun r2 u => r2 = r ∧ u = g1) (fl_B D cl n sh ad) (fl_A n ad)
def fl_QL (D : va_G) (cl : List vw_C) (n : Nat) (sh : Nat → (Nat → Int32) → va_E) (ad : Nat → Nat) (r : Int64) (g1 : fl_G) : Array Value → State → Outcome → State → Prop := va_Ql (fun r2 u => r2 = r ∧ u = g1) (fl_B D cl n sh ad) (fl_A n ad)
def fl_QV (D : va_G) (cl : List vw_C) (n : Nat) (sh : Nat → (Nat → Int32) → va_E) (ad : Nat → Nat) (g1 : fl_G) : Array Value → State → Outcome → State → Prop := va_Qv (fun u => u = g1) (fl_B D cl n sh ad) (fl_A n ad)
def fl_QQ (D : va_G) (cl : List vw_C) (n : Nat) (sh : Nat → (Nat → Int32) → va_E) (ad : Nat → Nat) (r : Option Nat) (g1 : fl_G) : Array Value → State → Outcome → State → Prop := va_Qq (fun r2 u => r2 = r.map ad ∧ u = g1) (fl_B D cl n sh ad) (fl_A n ad)
/-! pure steps: an answer that may be wanting -/
def fl_ck {α : Type} (c : Prop) [Decidable c] (k : Option α) : Option α := if c then k else none
theorem fl_ck_some {α : Type} {c : Prop} [Decidable c] {k : Option α} {z : α} (h : fl_ck c k = some z) : c ∧ k = some z := by
  unfold fl_ck at h
  by_cases hc : c
  · rw [if_pos hc] at h; exact ⟨hc, h⟩
  · rw [if_neg hc] at h; cases h
theorem fl_ck_pos {α : Type} {c : Prop} [Decidable c] {k : Option α} (hc : c) : fl_ck c k = k := if_pos hc
def fl_bd {α β : Type} (x : Option (α × fl_G)) (k : α → fl_G → Option β) : Option β := match x with
  | none => none
  | some z => k z.1 z.2
theorem fl_bd_some {α β : Type} {x : Option (α × fl_G)} {k : α → fl_G → Option β} {z : β} (h : fl_bd x k = some z) : ∃ r g, x = some (r, g) ∧ k r g = some z := by
  cases x with
  | none => cases h
  | some y => exact ⟨y.1, y.2, rfl, h⟩
def fl_nn {β : Type} (o : Option Nat) (k : Nat → Option β) : Option β := match o with
  | none => none
  | some q => k q
theorem fl_nn_some {β : Type} {o : Option Nat} {k : Nat → Option β} {z : β} (h : fl_nn o k = some z) : ∃ q, o = some q ∧ k q = some z := by
  cases o with
  | none => cases h
  | some q => exact ⟨q, rfl, h⟩
def fl_cs {β : Type} (o : Option Nat) (a : Option β) (k : Nat → Option β) : Option β := match o with
  | none => a
  | some q => k q
def fl_lt {β : Type} (o : Option Nat) (k : Option Nat → Option β) : Option β := k o
theorem fl_lt_some {β : Type} {o : Option Nat} {k : Option Nat → Option β} {z : β} (h : fl_lt o k = some z) : ∃ o1, o1 = o ∧ k o1 = some z := ⟨o, rfl, h⟩
theorem fl_cs_none {β : Type} {a : Option β} {k : Nat → Option β} {z : β} (h : fl_cs none a k = some z) : a = some z := h
theorem fl_cs_some {β : Type} {a : Option β} {k : Nat → Option β} {q : Nat} {z : β} (h : fl_cs (some q) a k = some z) : k q = some z := h
def fl_ushr (x y : Int32) : Int32 := (x.toUInt32 >>> (y.toUInt32 &&& Int32.toUInt32 31)).toInt32
def fl_rem (x y : Int32) : Int32 := x - x / y * y
def fl_ob (n : Nat) (o : Option Nat) : Bool := match o with
  | none => true
  | some q => decide (q < n)
theorem fl_ob_iff {n : Nat} {ad : Nat → Nat} (hI : fl_inj n ad) {x y : Option Nat} (hx : fl_ob n x = true) (hy : fl_ob n y = true) : x.map ad = y.map ad ↔ x = y := by
  cases x with
  | none => cases y <;> simp
  | some a => cases y with
    | none => simp
    | some b =>
      have ha : a < n := of_decide_eq_true hx
      have hb : b < n := of_decide_eq_true hy
      constructor
      · intro h
        rw [hI a b ha hb (Option.some.inj h)]
      · intro h
        rw [h]
theorem fl_pos {α : Type} {c : Prop} [Decidable c] {a b : Option α} {z : α} (hc : c) (h : (if c then a else b) = some z) : a = some z := by rw [if_pos hc] at h; exact h
theorem fl_neg {α : Type} {c : Prop} [Decidable c] {a b : Option α} {z : α} (hc : ¬ c) (h : (if c then a else b) = some z) : b = some z := by rw [if_neg hc] at h; exact h
abbrev fl_in (i : Int32) (n : Nat) : Prop := 0 ≤ i ∧ i.toNatClampNeg < n
theorem fl_in.vp {i : Int32} {n : Nat} (h : fl_in i n) : vp_in i n := by
  intro q
  rcases q with q | q
  · exact absurd q (Int32.not_lt.mpr h.1)
  · exact absurd h.2 (Nat.not_lt.mpr q)
/-- a reference field kept as an int: a cell's number, or less than 0 for null -/
def fl_rf (v : Int32) : Option Nat := if v < 0 then none else some v.toNatClampNeg
/-- a boolean as an int -/
abbrev fl_bo (v : Int32) : Prop := v = 0 ∨ v = 1
theorem fl_bo.nar {v : Int32} (h : fl_bo v) : narrow .boolean (.int v) = .int v := by
  rcases h with rfl | rfl <;> rfl
section FL
variable {p : Program} {l : Launch} {e : Env} {R : Room} {s : State} {m : MethodId} {args : Array Value} {below : List Frame} {meth : Method} {c : Code} {H : Heap} {locs : List Loc} {cells slots : Nat} {Q : State → Prop}
variable {cc : ByteArray} {pc : Nat} {ls : Array Slot} {rest : List Value} {D : va_G} {cl : List vw_C} {n : Nat} {sh : Nat → (Nat → Int32) → va_E} {ad : Nat → Nat} {tys : List (ClassId × FieldType)} {ns : List Cond} {g : fl_G} {H0 : Heap}
theorem fl_get (hexec : p.tables.exec = Jvm.exec) (hb : c.code = cc) {own C : String} {T : u_T} {N ci index : Nat} {Ts : List Cond} (hts : ∀ w ∈ Ts, w.before args s = true) (hin : ∀ w ∈ u_ws C T N, w ∈ Ts) (hown : s.vm.findClass own = some m.cls) (hK : va_K D cl tys s) (hP : va_P D cl (fl_ws n sh ad g) H) (q : Nat) (hq : q < n) {fs : List Value} (hsh : sh q (g q) = .inr (ci, fs)) (hc : cl[ci]? = some (C, T, N)) (k : Nat) (hk : k < N) (hlink : (Cond.fieldLink own index (T k).1 (T k).2.1 (T k).2.2.1).before args s = true) {v : Value} (hv : fs[k]? = some v) (hdg : decode cc pc = .ok (.getfield index, 3))
    (kk : W p l e R s m args below meth c H locs cells slots Q (F0 m (pc + 3) ls (v :: rest))) : W p l e R s m args below meth c H locs cells slots Q (F0 m pc ls (.ref (ad q) :: rest)) :=
  va_get hexec hb hts hin hown hK hP q (by rw [fl_at hq, hsh]) hc k hk hlink (fun _ h => h) hv hdg kk
theorem fl_getN (hexec : p.tables.exec = Jvm.exec) (hb : c.code = cc) {own C host : String} {T : u_T} {N ci index : Nat} {Ts : List Cond} (hts : ∀ w ∈ Ts, w.before args s = true) (hin : ∀ w ∈ u_ws C T N, w ∈ Ts) (hown : s.vm.findClass own = some m.cls) (hK : va_K D cl tys s) (hP : va_P D cl (fl_ws n sh ad g) H) (q : Nat) (hq : q < n) {fs : List Value} (hsh : sh q (g q) = .inr (ci, fs)) (hc : cl[ci]? = some (C, T, N)) (k : Nat) (hk : k < N) (hlink : (Cond.fieldLinkNest own index (T k).1 (T k).2.1 (T k).2.2.1 host).before args s = true) {v : Value} (hv : fs[k]? = some v) (hdg : decode cc pc = .ok (.getfield index, 3))
    (kk : W p l e R s m args below meth c H locs cells slots Q (F0 m (pc + 3) ls (v :: rest))) : W p l e R s m args below meth c H locs cells slots Q (F0 m pc ls (.ref (ad q) :: rest)) :=
  va_getN hexec hb hts hin hown hK hP q (by rw [fl_at hq, hsh]) hc k hk hlink (fun _ h => h) hv hdg kk
theorem fl_put (hexec : p.tables.exec = Jvm.exec) (hb : c.code = cc) {own C : String} {T : u_T} {N ci index : Nat} {Ts : List Cond} (hts : ∀ w ∈ Ts, w.before args s = true) (hin : ∀ w ∈ u_ws C T N, w ∈ Ts) (ty0 : Nat → FieldType) (hty : ∀ k, k < N → parseFieldDescriptor (T k).2.2.1 = some (ty0 k)) (hnm : ∀ a, a < N → ∀ b, b < N → a ≠ b → (T a).2.1 ≠ (T b).2.1) (hown : s.vm.findClass own = some m.cls) (hK : va_K D cl tys s) (hP : va_P D cl (fl_ws n sh ad g) H) (hI : fl_inj n ad) (hS : va_S (fl_A n ad) H0 H locs) (q : Nat) (hq : q < n) {fs : List Value} (hsh : sh q (g q) = .inr (ci, fs)) (hc : cl[ci]? = some (C, T, N)) (k : Nat) (hk : k < N) (hlink : (Cond.fieldLink own index (T k).1 (T k).2.1 (T k).2.2.1).before args s = true) (hfin : (T k).2.2.2 = false) {ty : FieldType} {v : Value} (hd : parseFieldDescriptor (T k).2.2.1 = some ty) (hn : narrow ty v = v) (hfit : fits ty v = true) (hl : k < fs.length) (f : Nat → Int32) (hsh2 : sh q f = .inr (ci, fs.set k v))
    (hdg : decode cc pc = .ok (.putfield index, 3)) (kk : ∀ (H1 : Heap) (locs1 : List Loc), va_P D cl (fl_ws n sh ad (fl_st g q f)) H1 → va_S (fl_A n ad) H0 H1 locs1 → W p l e R s m args below meth c H1 locs1 cells slots Q (F0 m (pc + 3) ls rest)) : W p l e R s m args below meth c H locs cells slots Q (F0 m pc ls (v :: .ref (ad q) :: rest)) :=
  va_put hexec hb hts hin ty0 hty hnm hown hK hP (fl_D hI g) hS q (by rw [fl_at hq, hsh]) hc k hk hlink (fun _ h => h) hfin hd hn hfit hl hdg (fun H1 locs1 hP1 _ hS1 => kk H1 locs1 (by rw [← hsh2, fl_set] at hP1; exact hP1) hS1)
theorem fl_putN (hexec : p.tables.exec = Jvm.exec) (hb : c.code = cc) {own C host : String} {T : u_T} {N ci index : Nat} {Ts : List Cond} (hts : ∀ w ∈ Ts, w.before args s = true) (hin : ∀ w ∈ u_ws C T N, w ∈ Ts) (ty0 : Nat → FieldType) (hty : ∀ k, k < N → parseFieldDescriptor (T k).2.2.1 = some (ty0 k)) (hnm : ∀ a, a < N → ∀ b, b < N → a ≠ b → (T a).2.1 ≠ (T b).2.1) (hown : s.vm.findClass own = some m.cls) (hK : va_K D cl tys s) (hP : va_P D cl (fl_ws n sh ad g) H) (hI : fl_inj n ad) (hS : va_S (fl_A n ad) H0 H locs) (q : Nat) (hq : q < n) {fs : List Value} (hsh : sh q (g q) = .inr (ci, fs)) (hc : cl[ci]? = some (C, T, N)) (k : Nat) (hk : k < N) (hlink : (Cond.fieldLinkNest own index (T k).1 (T k).2.1 (T k).2.2.1 host).before args s = true) (hfin : (T k).2.2.2 = false) {ty : FieldType} {v : Value} (hd : parseFieldDescriptor (T k).2.2.1 = some ty) (hn : narrow ty v = v) (hfit : fits ty v = true) (hl : k < fs.length) (f : Nat → Int32) (hsh2 : sh q f = .inr (ci, fs.set k v))
    (hdg : decode cc pc = .ok (.putfield index, 3)) (kk : ∀ (H1 : Heap) (locs1 : List Loc), va_P D cl (fl_ws n sh ad (fl_st g q f)) H1 → va_S (fl_A n ad) H0 H1 locs1 → W p l e R s m args below meth c H1 locs1 cells slots Q (F0 m (pc + 3) ls rest)) : W p l e R s m args below meth c H locs cells slots Q (F0 m pc ls (v :: .ref (ad q) :: rest)) :=
  va_putN hexec hb hts hin ty0 hty hnm hown hK hP (fl_D hI g) hS q (by rw [fl_at hq, hsh]) hc k hk hlink (fun _ h => h) hfin hd hn hfit hl hdg (fun H1 locs1 hP1 _ hS1 => kk H1 locs1 (by rw [← hsh2, fl_set] at hP1; exact hP1) hS1)
theorem fl_iald (hexec : p.tables.exec = Jvm.exec) (hb : c.code = cc) (hK : va_K D cl tys s) (hP : va_P D cl (fl_ws n sh ad g) H) (q : Nat) (hq : q < n) (t0 : Nat) {cA : ClassId} {N : Nat} (hsh : sh q (g q) = .inl (cA, N, .inl (g q))) (ht : tys[t0]? = some (cA, .int)) {i : Int32} (hi : fl_in i N) (hdg : decode cc pc = .ok (.iaload, 1))
    (kk : W p l e R s m args below meth c H locs cells slots Q (F0 m (pc + 1) ls (.int (g q i.toNatClampNeg) :: rest))) : W p l e R s m args below meth c H locs cells slots Q (F0 m pc ls (.int i :: .ref (ad q) :: rest)) :=
  va_iald hexec hb hK hP q t0 (f := g q) (by rw [fl_at hq, hsh]) ht hi.vp hdg kk
theorem fl_zald (hexec : p.tables.exec = Jvm.exec) (hb : c.code = cc) (hK : va_K D cl tys s) (hP : va_P D cl (fl_ws n sh ad g) H) (q : Nat) (hq : q < n) (t0 : Nat) {cA : ClassId} {N : Nat} (hsh : sh q (g q) = .inl (cA, N, .inl (g q))) (ht : tys[t0]? = some (cA, .boolean)) {i : Int32} (hi : fl_in i N) (hdg : decode cc pc = .ok (.baload, 1))
    (kk : W p l e R s m args below meth c H locs cells slots Q (F0 m (pc + 1) ls (.int (g q i.toNatClampNeg) :: rest))) : W p l e R s m args below meth c H locs cells slots Q (F0 m pc ls (.int i :: .ref (ad q) :: rest)) :=
  va_zald hexec hb hK hP q t0 (f := g q) (by rw [fl_at hq, hsh]) ht hi.vp hdg kk
theorem fl_iast (hexec : p.tables.exec = Jvm.exec) (hb : c.code = cc) (hK : va_K D cl tys s) (hP : va_P D cl (fl_ws n sh ad g) H) (hI : fl_inj n ad) (hS : va_S (fl_A n ad) H0 H locs) (q : Nat) (hq : q < n) (t0 : Nat) {cA : ClassId} {N : Nat} (hsh : ∀ f, sh q f = .inl (cA, N, .inl f)) (ht : tys[t0]? = some (cA, .int)) {i x : Int32} (hi : fl_in i N) (hdg : decode cc pc = .ok (.iastore, 1))
    (kk : ∀ (H1 : Heap) (locs1 : List Loc), va_P D cl (fl_ws n sh ad (fl_up g q i.toNatClampNeg x)) H1 → va_S (fl_A n ad) H0 H1 locs1 → W p l e R s m args below meth c H1 locs1 cells slots Q (F0 m (pc + 1) ls rest)) : W p l e R s m args below meth c H locs cells slots Q (F0 m pc ls (.int x :: .int i :: .ref (ad q) :: rest)) :=
  va_iast hexec hb hK hP (fl_D hI g) hS q t0 (f := g q) (by rw [fl_at hq, hsh]) ht hi.vp hdg (fun H1 locs1 hP1 _ hS1 => kk H1 locs1 (by rw [← hsh, fl_set] at hP1; exact hP1) hS1)
theorem fl_zast (hexec : p.tables.exec = Jvm.exec) (hb : c.code = cc) (hK : va_K D cl tys s) (hP : va_P D cl (fl_ws n sh ad g) H) (hI : fl_inj n ad) (hS : va_S (fl_A n ad) H0 H locs) (q : Nat) (hq : q < n) (t0 : Nat) {cA : ClassId} {N : Nat} (hsh : ∀ f, sh q f = .inl (cA, N, .inl f)) (ht : tys[t0]? = some (cA, .boolean)) {i x : Int32} (hi : fl_in i N) (hdg : decode cc pc = .ok (.bastore, 1))
    (kk : ∀ (H1 : Heap) (locs1 : List Loc), va_P D cl (fl_ws n sh ad (fl_up g q i.toNatClampNeg (x &&& 1))) H1 → va_S (fl_A n ad) H0 H1 locs1 → W p l e R s m args below meth c H1 locs1 cells slots Q (F0 m (pc + 1) ls rest)) : W p l e R s m args below meth c H locs cells slots Q (F0 m pc ls (.int x :: .int i :: .ref (ad q) :: rest)) :=
  va_zast hexec hb hK hP (fl_D hI g) hS q t0 (f := g q) (by rw [fl_at hq, hsh]) ht hi.vp hdg (fun H1 locs1 hP1 _ hS1 => kk H1 locs1 (by rw [← hsh, fl_set] at hP1; exact hP1) hS1)
theorem fl_alen (hexec : p.tables.exec = Jvm.exec) (hb : c.code = cc) (hK : va_K D cl tys s) (hP : va_P D cl (fl_ws n sh ad g) H) (q : Nat) (hq : q < n) (t0 : Nat) {cA : ClassId} {x : vp_A} (hsh : sh q (g q) = .inl (cA, x)) {ty : FieldType} (ht : tys[t0]? = some (cA, ty)) {v : Int32} (hv : Int32.ofNat x.1 = v) (hdg : decode cc pc = .ok (.arraylength, 1))
    (kk : W p l e R s m args below meth c H locs cells slots Q (F0 m (pc + 1) ls (.int v :: rest))) : W p l e R s m args below meth c H locs cells slots Q (F0 m pc ls (.ref (ad q) :: rest)) :=
  va_alen hexec hb hK hP q t0 (by rw [fl_at hq, hsh]) ht hv hdg kk
theorem fl_aald (hexec : p.tables.exec = Jvm.exec) (hb : c.code = cc) (hK : va_K D cl tys s) (hP : va_P D cl (fl_ws n sh ad g) H) (q : Nat) (hq : q < n) (t0 : Nat) {cA : ClassId} {N : Nat} {C : String} {f : Nat → Option Nat} (hsh : sh q (g q) = .inl (cA, N, .inr (.inr (.inr (.inr f))))) (ht : tys[t0]? = some (cA, .object C)) {i : Int32} (hi : fl_in i N) {a2 : Nat} (hf : f i.toNatClampNeg = some a2) (hdg : decode cc pc = .ok (.aaload, 1))
    (kk : W p l e R s m args below meth c H locs cells slots Q (F0 m (pc + 1) ls (.ref a2 :: rest))) : W p l e R s m args below meth c H locs cells slots Q (F0 m pc ls (.int i :: .ref (ad q) :: rest)) :=
  va_aldq hexec hb hK hP q t0 (by rw [fl_at hq, hsh]) ht hi.vp hdg (by rw [hf]; exact kk)
theorem fl_cpi (hexec : p.tables.exec = Jvm.exec) (hb : c.code = cc) (hml : c.maxLocals = ls.size) {own : String} {index : Nat} (hown : s.vm.findClass own = some m.cls) (hlink : (Cond.methodLink own index arraycopyName).before args s = true) (hnat : (Cond.native arraycopyName).before args s = true) (hstat : (Cond.static arraycopyName).before args s = true) (hini : (Cond.initialized "java/lang/System").before args s = true)
    (hK : va_K D cl tys s) (hP : va_P D cl (fl_ws n sh ad g) H) (hI : fl_inj n ad) (hS : va_S (fl_A n ad) H0 H locs) (q0 q1 : Nat) (hq0 : q0 < n) (hq1 : q1 < n) (t0 t1 : Nat) {c0 c1 : ClassId} {n0 n1 : Nat} (hsh0 : ∀ f, sh q0 f = .inl (c0, n0, .inl f)) (hsh1 : ∀ f, sh q1 f = .inl (c1, n1, .inl f)) (ht0 : tys[t0]? = some (c0, .int)) (ht1 : tys[t1]? = some (c1, .int))
    {sp dp n2 : Int32} (hc : (0 ≤ sp ∧ 0 ≤ dp ∧ 0 ≤ n2) ∧ sp.toNatClampNeg + n2.toNatClampNeg ≤ n0 ∧ dp.toNatClampNeg + n2.toNatClampNeg ≤ n1)
    (hframes : 1 ≤ R.frames) (hlocals : (rest.map fun v => v.category).sum + (nativeFrameWords "java/lang/System" "arraycopy" 5 + 11) ≤ R.locals) (hdg : decode cc pc = .ok (.invokestatic index, 3))
    (kk : ∀ (H1 : Heap) (locs1 : List Loc), va_P D cl (fl_ws n sh ad (fl_st g q1 (va_cpy (g q0) (g q1) sp.toNatClampNeg dp.toNatClampNeg n2.toNatClampNeg))) H1 → va_S (fl_A n ad) H0 H1 locs1 → W p l e R s m args below meth c H1 locs1 cells slots Q (F0 m (pc + 3) ls rest)) : W p l e R s m args below meth c H locs cells slots Q (F0 m pc ls (.int n2 :: .int dp :: .ref (ad q1) :: .int sp :: .ref (ad q0) :: rest)) :=
  va_copyi hexec hb hml hown hlink hnat hstat hini hK hP (fl_D hI g) hS q0 q1 t0 t1 (f := g q0) (g := g q1) (by rw [fl_at hq0, hsh0]) (by rw [fl_at hq1, hsh1]) ht0 ht1 rfl (Int32.not_lt.mpr hc.1.1) (Int32.not_lt.mpr hc.1.2.1) (Int32.not_lt.mpr hc.1.2.2) hc.2.1 hc.2.2 (fun _ _ => rfl) hframes hlocals hdg (fun H1 locs1 hP1 _ hS1 => kk H1 locs1 (by rw [← hsh1, fl_set] at hP1; exact hP1) hS1)
/-! calls -/
theorem fl_preS (hK : va_K D cl tys s) (hP : va_P D cl (fl_ws n sh ad g) H) (hN : fl_N ns s) {av : List Value} : PreS s H (va_Pc av (fl_Pre D cl n sh ad tys ns g)) av :=
  ⟨fun a U gg mk q => by obtain ⟨q0, qP, qK, qN⟩ := q; exact ⟨q0, qP, va_K.moved (u := U) (U := U.calling gg mk a) (Vm.Alike.refl U.vm) qK, fl_N.same (u := U) (U := U.calling gg mk a) rfl qN⟩, fun U hU hW => ⟨rfl, by rw [hU]; exact hP, va_K.moved hW.alike hK, hN.warm hW⟩⟩
theorem fl_preV (hK : va_K D cl tys s) (hP : va_P D cl (fl_ws n sh ad g) H) (hN : fl_N ns s) {As : List Value} {q : Nat} (hq : q < n) {ci : Nat} {r : vw_C} {fs : List Value} (hsh : sh q (g q) = .inr (ci, fs)) (hc : cl[ci]? = some r) : PreV s H r.1 (ad q) (va_Pc (.ref (ad q) :: As) (fl_Pre D cl n sh ad tys ns g)) As :=
  ⟨(fl_preS hK hP hN).1, va_recv hK hP hc (show (fl_ws n sh ad g)[q]? = some (ad q, .inr (ci, fs)) by rw [fl_at hq, hsh]), (fl_preS hK hP hN).2⟩
variable {a : Array Value} {st0 : List Value}
theorem fl_calli {r : Int32} {g1 : fl_G} (hr : va_Run p l e R s m args below meth c H locs cells slots 0 0 (F0 m pc ls st0) rest (fl_QI D cl n sh ad r g1 a) (fl_A n ad)) (hS : va_S (fl_A n ad) H0 H locs)
    (kk : ∀ (H1 : Heap) (locs1 : List Loc), va_P D cl (fl_ws n sh ad g1) H1 → va_S (fl_A n ad) H0 H1 locs1 → W p l e R s m args below meth c H1 locs1 cells slots Q (F0 m (pc + 3) ls (.int r :: rest))) : W p l e R s m args below meth c H locs cells slots Q (F0 m pc ls st0) := by
  refine va_calli (post := fun r2 u => r2 = r ∧ u = g1) (B := fl_B D cl n sh ad) (A1 := fl_A n ad) hr hS (fun _ _ h => h) (fun _ h => h) (fun r2 u t H1 locs1 ht _ hp hB _ _ hS1 => ?_)
  obtain ⟨rfl, rfl⟩ := hp
  subst ht
  exact kk t.heap locs1 hB hS1
theorem fl_calll {r : Int64} {g1 : fl_G} (hr : va_Run p l e R s m args below meth c H locs cells slots 0 0 (F0 m pc ls st0) rest (fl_QL D cl n sh ad r g1 a) (fl_A n ad)) (hS : va_S (fl_A n ad) H0 H locs)
    (kk : ∀ (H1 : Heap) (locs1 : List Loc), va_P D cl (fl_ws n sh ad g1) H1 → va_S (fl_A n ad) H0 H1 locs1 → W p l e R s m args below meth c H1 locs1 cells slots Q (F0 m (pc + 3) ls (.long r :: rest))) : W p l e R s m args below meth c H locs cells slots Q (F0 m pc ls st0) := by
  refine va_calll (post := fun r2 u => r2 = r ∧ u = g1) (B := fl_B D cl n sh ad) (A1 := fl_A n ad) hr hS (fun _ _ h => h) (fun _ h => h) (fun r2 u t H1 locs1 ht _ hp hB _ _ hS1 => ?_)
  obtain ⟨rfl, rfl⟩ := hp
  subst ht
  exact kk t.heap locs1 hB hS1
theorem fl_callv {g1 : fl_G} (hr : va_Run p l e R s m args below meth c H locs cells slots 0 0 (F0 m pc ls st0) rest (fl_QV D cl n sh ad g1 a) (fl_A n ad)) (hS : va_S (fl_A n ad) H0 H locs)
    (kk : ∀ (H1 : Heap) (locs1 : List Loc), va_P D cl (fl_ws n sh ad g1) H1 → va_S (fl_A n ad) H0 H1 locs1 → W p l e R s m args below meth c H1 locs1 cells slots Q (F0 m (pc + 3) ls rest)) : W p l e R s m args below meth c H locs cells slots Q (F0 m pc ls st0) := by
  refine va_callv (post := fun u => u = g1) (B := fl_B D cl n sh ad) (A1 := fl_A n ad) hr hS (fun _ _ h => h) (fun _ h => h) (fun u t H1 locs1 ht _ hp hB _ _ hS1 => ?_)
  subst hp
  subst ht
  exact kk t.heap locs1 hB hS1
theorem fl_callq {r : Option Nat} {g1 : fl_G} (hr : va_Run p l e R s m args below meth c H locs cells slots 0 0 (F0 m pc ls st0) rest (fl_QQ D cl n sh ad r g1 a) (fl_A n ad)) (hS : va_S (fl_A n ad) H0 H locs)
    (kk : ∀ (H1 : Heap) (locs1 : List Loc), va_P D cl (fl_ws n sh ad g1) H1 → va_S (fl_A n ad) H0 H1 locs1 → W p l e R s m args below meth c H1 locs1 cells slots Q (F0 m (pc + 3) ls (va_rf (r.map ad) :: rest))) : W p l e R s m args below meth c H locs cells slots Q (F0 m pc ls st0) := by
  refine va_callq (post := fun r2 u => r2 = r.map ad ∧ u = g1) (B := fl_B D cl n sh ad) (A1 := fl_A n ad) hr hS (fun _ _ h => h) (fun _ h => h) (fun r2 u t H1 locs1 ht _ hp hB _ _ hS1 => ?_)
  obtain ⟨rfl, rfl⟩ := hp
  subst ht
  exact kk t.heap locs1 hB hS1
/-! ends -/
theorem fl_iret (hexec : p.tables.exec = Jvm.exec) (hb : c.code = cc) (hr : meth.sig.returnType = some .int) (hlocks : meth.locks = false) (hP : va_P D cl (fl_ws n sh ad g) H) (hS : va_S (fl_A n ad) s.heap H locs) {v r : Int32} {g1 : fl_G} (h : some (v, g) = some (r, g1)) (hdg : decode cc pc = .ok (.ireturn, 1)) : W p l e R s m args below meth c H locs cells slots (MQ below (fl_QI D cl n sh ad r g1) args s cells slots (fl_A n ad)) (F0 m pc ls [.int v]) := by
  cases h
  exact W.iret hexec hb hr (fun t ht hW => ⟨⟨v, g, rfl, ⟨rfl, rfl⟩, show va_P D cl (fl_ws n sh ad g) t.heap by rw [ht]; exact hP⟩, hS.F ht⟩) hS.2.2 hdg hlocks
theorem fl_zret (hexec : p.tables.exec = Jvm.exec) (hb : c.code = cc) (hr : meth.sig.returnType = some .boolean) (hlocks : meth.locks = false) (hP : va_P D cl (fl_ws n sh ad g) H) (hS : va_S (fl_A n ad) s.heap H locs) {v r : Int32} {g1 : fl_G} (hbo : fl_bo v) (h : some (v, g) = some (r, g1)) (hdg : decode cc pc = .ok (.ireturn, 1)) : W p l e R s m args below meth c H locs cells slots (MQ below (fl_QI D cl n sh ad r g1) args s cells slots (fl_A n ad)) (F0 m pc ls [.int v]) := by
  cases h
  exact W.zret hexec hb hr hbo.nar (fun t ht hW => ⟨⟨v, g, rfl, ⟨rfl, rfl⟩, show va_P D cl (fl_ws n sh ad g) t.heap by rw [ht]; exact hP⟩, hS.F ht⟩) hS.2.2 hdg hlocks
theorem fl_lret (hexec : p.tables.exec = Jvm.exec) (hb : c.code = cc) (hr : meth.sig.returnType = some .long) (hlocks : meth.locks = false) (hP : va_P D cl (fl_ws n sh ad g) H) (hS : va_S (fl_A n ad) s.heap H locs) {v r : Int64} {g1 : fl_G} (h : some (v, g) = some (r, g1)) (hdg : decode cc pc = .ok (.lreturn, 1)) : W p l e R s m args below meth c H locs cells slots (MQ below (fl_QL D cl n sh ad r g1) args s cells slots (fl_A n ad)) (F0 m pc ls [.long v]) := by
  cases h
  exact W.lret hexec hb hr (fun t ht hW => ⟨⟨v, g, rfl, ⟨rfl, rfl⟩, show va_P D cl (fl_ws n sh ad g) t.heap by rw [ht]; exact hP⟩, hS.F ht⟩) hS.2.2 hdg hlocks
theorem fl_vret (hexec : p.tables.exec = Jvm.exec) (hb : c.code = cc) (hr : meth.sig.returnType = none) (hlocks : meth.locks = false) (hP : va_P D cl (fl_ws n sh ad g) H) (hS : va_S (fl_A n ad) s.heap H locs) {u : Unit} {g1 : fl_G} (h : some ((), g) = some (u, g1)) (hdg : decode cc pc = .ok (.return_, 1)) : W p l e R s m args below meth c H locs cells slots (MQ below (fl_QV D cl n sh ad g1) args s cells slots (fl_A n ad)) (F0 m pc ls []) := by
  cases h
  exact W.vret hexec hb hr (fun t ht hW => ⟨⟨g, rfl, rfl, show va_P D cl (fl_ws n sh ad g) t.heap by rw [ht]; exact hP⟩, hS.F ht⟩) hS.2.2 hdg hlocks
theorem fl_qret (hexec : p.tables.exec = Jvm.exec) (hb : c.code = cc) {C : String} (hr : meth.sig.returnType = some (.object C)) (hlocks : meth.locks = false) (hP : va_P D cl (fl_ws n sh ad g) H) (hS : va_S (fl_A n ad) s.heap H locs) {v r : Option Nat} {g1 : fl_G} (h : some (v, g) = some (r, g1)) (hdg : decode cc pc = .ok (.areturn, 1)) : W p l e R s m args below meth c H locs cells slots (MQ below (fl_QQ D cl n sh ad r g1) args s cells slots (fl_A n ad)) (F0 m pc ls [va_rf (v.map ad)]) := by
  cases h
  exact W.aret hexec hb hr (Or.inl ⟨_, rfl⟩) (va_rf_or _) (fun t ht hW => ⟨⟨v.map ad, g, rfl, ⟨rfl, rfl⟩, show va_P D cl (fl_ws n sh ad g) t.heap by rw [ht]; exact hP⟩, hS.F ht⟩) hS.2.2 hdg hlocks
/-! references that may be null -/
theorem fl_aloadq_n (hexec : p.tables.exec = Jvm.exec) (hb : c.code = cc) {k : Fin 4} {i : Nat} {r : Option Nat} (hdg : decode cc pc = .ok (.aload_n k, 1)) (hi : (k : Nat) = i) (hl : ls[i]? = some (.val (va_rf r)))
    (kk : W p l e R s m args below meth c H locs cells slots Q (F0 m (pc + 1) ls (va_rf r :: rest))) : W p l e R s m args below meth c H locs cells slots Q (F0 m pc ls rest) := by
  cases r with
  | none => exact lv_aload_nN hexec hb hdg hi hl kk
  | some x => exact lv_aload_n hexec hb hdg hi hl kk
theorem fl_aloadq (hexec : p.tables.exec = Jvm.exec) (hb : c.code = cc) {i : Nat} {r : Option Nat} (hdg : decode cc pc = .ok (.aload i, 2)) (hl : ls[i]? = some (.val (va_rf r)))
    (kk : W p l e R s m args below meth c H locs cells slots Q (F0 m (pc + 2) ls (va_rf r :: rest))) : W p l e R s m args below meth c H locs cells slots Q (F0 m pc ls rest) := by
  cases r with
  | none => exact lv_aloadN hexec hb hdg hl kk
  | some x => exact lv_aload hexec hb hdg hl kk
theorem fl_astoreq_n (hexec : p.tables.exec = Jvm.exec) (hb : c.code = cc) {k : Fin 4} {i nL : Nat} {r : Option Nat} {lv lv' : List (Nat × Value)} (hdg : decode cc pc = .ok (.astore_n k, 1)) (hi : (k : Nat) = i) (h : lv_has ls nL lv) (hn : i < nL) (hl : (i, va_rf r) :: lv.filter (fun q => !(q.1 == i) && !(q.1 + 1 == i && q.2.category == 2)) = lv')
    (kk : ∀ ls' : Array Slot, lv_has ls' nL lv' → W p l e R s m args below meth c H locs cells slots Q (F0 m (pc + 1) ls' rest)) : W p l e R s m args below meth c H locs cells slots Q (F0 m pc ls (va_rf r :: rest)) := by
  cases r with
  | none => exact lv_astore_nN hexec hb hdg hi h hn hl kk
  | some x => exact lv_astore_n hexec hb hdg hi h hn hl kk
theorem fl_astoreq (hexec : p.tables.exec = Jvm.exec) (hb : c.code = cc) {i nL : Nat} {r : Option Nat} {lv lv' : List (Nat × Value)} (hdg : decode cc pc = .ok (.astore i, 2)) (h : lv_has ls nL lv) (hn : i < nL) (hl : (i, va_rf r) :: lv.filter (fun q => !(q.1 == i) && !(q.1 + 1 == i && q.2.category == 2)) = lv')
    (kk : ∀ ls' : Array Slot, lv_has ls' nL lv' → W p l e R s m args below meth c H locs cells slots Q (F0 m (pc + 2) ls' rest)) : W p l e R s m args below meth c H locs cells slots Q (F0 m pc ls (va_rf r :: rest)) := by
  cases r with
  | none => exact lv_astoreN hexec hb hdg h hn hl kk
  | some x => exact lv_astore hexec hb hdg h hn hl kk
theorem fl_acmp_eq (hI : fl_inj n ad) {rx ry : Option Nat} (ox : fl_ob n rx = true) (oy : fl_ob n ry = true) (hexec : p.tables.exec = Jvm.exec) (hb : c.code = cc) {off : Int} {tgt : Nat} (hdg : decode cc pc = .ok (.if_acmp .eq off, 3)) (ht : (pc : Int) + off = (tgt : Int))
    (kt : rx = ry → W p l e R s m args below meth c H locs cells slots Q (F0 m tgt ls rest)) (kf : ¬ rx = ry → W p l e R s m args below meth c H locs cells slots Q (F0 m (pc + 3) ls rest)) : W p l e R s m args below meth c H locs cells slots Q (F0 m pc ls (va_rf (ry.map ad) :: va_rf (rx.map ad) :: rest)) :=
  lv_acmp_eq hexec hb hdg ht (fun h => kt ((fl_ob_iff hI ox oy).mp h)) (fun h => kf (fun q => h ((fl_ob_iff hI ox oy).mpr q)))
theorem fl_acmp_ne (hI : fl_inj n ad) {rx ry : Option Nat} (ox : fl_ob n rx = true) (oy : fl_ob n ry = true) (hexec : p.tables.exec = Jvm.exec) (hb : c.code = cc) {off : Int} {tgt : Nat} (hdg : decode cc pc = .ok (.if_acmp .ne off, 3)) (ht : (pc : Int) + off = (tgt : Int))
    (kt : ¬ rx = ry → W p l e R s m args below meth c H locs cells slots Q (F0 m tgt ls rest)) (kf : rx = ry → W p l e R s m args below meth c H locs cells slots Q (F0 m (pc + 3) ls rest)) : W p l e R s m args below meth c H locs cells slots Q (F0 m pc ls (va_rf (ry.map ad) :: va_rf (rx.map ad) :: rest)) :=
  lv_acmp_ne hexec hb hdg ht (fun h => kt (fun q => h ((fl_ob_iff hI ox oy).mpr q))) (fun h => kf ((fl_ob_iff hI ox oy).mp h))
end FL
/-- a method's walk from its entry -/
theorem fl_of {l : Launch} {y : MethodName} {ws ws' : List Cond} {rm : Room} {cc : ByteArray} {maxL : Nat} {ret : Option FieldType} {D : va_G} {cl : List vw_C} {n : Nat} {sh : Nat → (Nat → Int32) → va_E} {ad : Nat → Nat} {tys : List (ClassId × FieldType)} {ns : List Cond} {g : fl_G} {av : List Value} {Qc : Array Value → State → Outcome → State → Prop}
    (hy : plainName y.cls = true) (hw : ws = Cond.code y cc maxL ret :: ws') (hav : (lg_sl av).length ≤ maxL)
    (body : ∀ (p : Program) (e : Env) (s : State) (m : MethodId) (below : List Frame) (meth : Method) (c : Code) (ls : Array Slot), p.tables.exec = Jvm.exec → c.code = cc → meth.sig.returnType = ret → c.maxLocals = maxL → (∀ w ∈ ws', w.before av.toArray s = true) → s.vm.findClass y.cls = some m.cls → meth.locks = false → va_P D cl (fl_ws n sh ad g) s.heap → va_K D cl tys s → fl_N ns s → lv_has ls maxL (lv_args 0 av) →
      W p l e rm s m av.toArray below meth c s.heap [] 0 0 (MQ below Qc av.toArray s 0 0 (fl_A n ad)) (F0 m 0 ls [])) : Met l y ws rm (va_Pc av (fl_Pre D cl n sh ad tys ns g)) Qc 0 0 (fl_A n ad) := by
  have hw0 := hw
  refine Met.ofW (cc := cc) (maxL := maxL) (ret := ret) hy hw ?_
  intro p e s m args below meth c s₁ B hml hv
  obtain ⟨rfl, hP, hK, hN⟩ := hv
  rw [lg_entry_eq]
  exact body p e s m below meth c _ B.exec B.bytes B.returns hml (fun w hw => atoms_spec (ws := ws) B.pre w (by rw [hw0]; exact List.mem_cons_of_mem _ hw)) (findClass_of_methodNamed B.named) B.notSynchronized hP hK hN (lv_entry av hav)
