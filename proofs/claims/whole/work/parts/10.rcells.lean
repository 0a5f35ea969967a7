def rf_ns : List Cond := []
/-! the cells of MeshedSpansModel: 14 of them -/
def rf_kd (q : Nat) : Nat := ([0, 10, 10, 10, 10, 10, 10, 10, 10, 10, 10, 10, 10, 11] : List Nat).getD q 99
def rf_ln (q : Nat) : Nat := ([0, 12, 192, 24, 12, 12, 12, 192, 24, 4, 4, 64, 12, 12] : List Nat).getD q 0
def rf_ft (k : Nat) : FieldType := match k with
  | 11 => .boolean
  | _ => .int
def rf_ty (ca : Nat → ClassId) : List (ClassId × FieldType) := (List.range 14).map (fun q => (ca q, rf_ft (rf_kd q)))
abbrev rf_fs0 (ad : Nat → Nat) (q : Nat) (f : Nat → Int32) : List Value := [.int (f 0), .ref (ad 1), .ref (ad 2), .ref (ad 3), .ref (ad 4), .ref (ad 5), .ref (ad 6), .ref (ad 7), .ref (ad 8), .int (f 9), .ref (ad 9), .ref (ad 10), .ref (ad 11), .int (f 13), .ref (ad 12), .ref (ad 13)]
def rf_sh (ca : Nat → ClassId) (ad : Nat → Nat) (q : Nat) (f : Nat → Int32) : va_E := match rf_kd q with
  | 0 => .inr (6, rf_fs0 ad q f)
  | _ => .inl (ca q, rf_ln q, .inl f)
theorem rf_lt {q K : Nat} (h : rf_kd q = K) (hK : K < 99) : q < 14 := by
  rcases Nat.lt_or_ge q 14 with h1 | h1
  · exact h1
  · exfalso
    have h2 : rf_kd q = 99 := by
      unfold rf_kd
      rw [List.getD_eq_getElem?_getD, List.getElem?_eq_none (by simpa using h1)]
      rfl
    omega
theorem rf_ty_at {ca : Nat → ClassId} {q K : Nat} (h : rf_kd q = K) (hK : K < 99) : (rf_ty ca)[q]? = some (ca q, rf_ft K) := by
  have h1 := rf_lt h hK
  simp [rf_ty, h1, h]
theorem rf_sh0 {ca : Nat → ClassId} {ad : Nat → Nat} {q : Nat} {f : Nat → Int32} (h : rf_kd q = 0) : rf_sh ca ad q f = .inr (6, rf_fs0 ad q f) := by
  unfold rf_sh
  rw [h]
  rfl
theorem rf_sh10 {ca : Nat → ClassId} {ad : Nat → Nat} {q : Nat} {f : Nat → Int32} (h : rf_kd q = 10) : rf_sh ca ad q f = .inl (ca q, rf_ln q, .inl f) := by
  unfold rf_sh
  rw [h]
  rfl
theorem rf_sh11 {ca : Nat → ClassId} {ad : Nat → Nat} {q : Nat} {f : Nat → Int32} (h : rf_kd q = 11) : rf_sh ca ad q f = .inl (ca q, rf_ln q, .inl f) := by
  unfold rf_sh
  rw [h]
  rfl
section RF
variable {p : Program} {l : Launch} {e : Env} {R : Room} {s : State} {m : MethodId} {args : Array Value} {below : List Frame} {meth : Method} {c : Code} {H : Heap} {locs : List Loc} {cells slots : Nat} {Q : State → Prop}
variable {cc : ByteArray} {pc : Nat} {ls : Array Slot} {rest : List Value} {D : va_G} {ca : Nat → ClassId} {ad : Nat → Nat} {g : fl_G} {H0 : Heap}
theorem rf_get0 (hexec : p.tables.exec = Jvm.exec) (hb : c.code = cc) {own : String} {index : Nat} {Ts : List Cond} (hts : ∀ w ∈ Ts, w.before args s = true) (hin : ∀ w ∈ u_ws "MeshedSpansModel" rf_T0 16, w ∈ Ts) (hown : s.vm.findClass own = some m.cls) (hK : va_K D al_cl (rf_ty ca) s) (hP : va_P D al_cl (fl_ws 14 (rf_sh ca ad) ad g) H) {q : Nat} (hk : rf_kd q = 0) (k : Nat) (hkN : k < 16) (hlink : (Cond.fieldLink own index (rf_T0 k).1 (rf_T0 k).2.1 (rf_T0 k).2.2.1).before args s = true) {v : Value} (hv : (rf_fs0 ad q (g q))[k]? = some v) (hdg : decode cc pc = .ok (.getfield index, 3)) (kk : W p l e R s m args below meth c H locs cells slots Q (F0 m (pc + 3) ls (v :: rest))) : W p l e R s m args below meth c H locs cells slots Q (F0 m pc ls (.ref (ad q) :: rest)) :=
  fl_get (ci := 6) hexec hb hts hin hown hK hP q (rf_lt hk (by decide)) (rf_sh0 hk) rfl k hkN hlink hv hdg kk
theorem rf_put0 (hexec : p.tables.exec = Jvm.exec) (hb : c.code = cc) {own : String} {index : Nat} {Ts : List Cond} (hts : ∀ w ∈ Ts, w.before args s = true) (hin : ∀ w ∈ u_ws "MeshedSpansModel" rf_T0 16, w ∈ Ts) (hown : s.vm.findClass own = some m.cls) (hK : va_K D al_cl (rf_ty ca) s) (hP : va_P D al_cl (fl_ws 14 (rf_sh ca ad) ad g) H) (hI : fl_inj 14 ad) (hS : va_S (fl_A 14 ad) H0 H locs) {q : Nat} (hk : rf_kd q = 0) (k : Nat) (hkN : k < 16) (hlink : (Cond.fieldLink own index (rf_T0 k).1 (rf_T0 k).2.1 (rf_T0 k).2.2.1).before args s = true) {iv : Int32} (hfin : (rf_T0 k).2.2.2 = false) (hd : parseFieldDescriptor (rf_T0 k).2.2.1 = some .int) (hset : rf_fs0 ad q (upd (g q) k iv) = (rf_fs0 ad q (g q)).set k (.int iv)) (hdg : decode cc pc = .ok (.putfield index, 3)) (kk : ∀ (H1 : Heap) (locs1 : List Loc), va_P D al_cl (fl_ws 14 (rf_sh ca ad) ad (fl_up g q k iv)) H1 → va_S (fl_A 14 ad) H0 H1 locs1 → W p l e R s m args below meth c H1 locs1 cells slots Q (F0 m (pc + 3) ls rest)) : W p l e R s m args below meth c H locs cells slots Q (F0 m pc ls (.int iv :: .ref (ad q) :: rest)) :=
  fl_put (ci := 6) hexec hb hts hin rf_t0 rf_tok0 rf_nm0 hown hK hP hI hS q (rf_lt hk (by decide)) (rf_sh0 hk) rfl k hkN hlink hfin hd rfl rfl (show k < 16 from hkN) (upd (g q) k iv) (by rw [rf_sh0 hk, hset]) hdg kk
theorem rf_iald (hexec : p.tables.exec = Jvm.exec) (hb : c.code = cc) (hK : va_K D al_cl (rf_ty ca) s) (hP : va_P D al_cl (fl_ws 14 (rf_sh ca ad) ad g) H) {q : Nat} (hk : rf_kd q = 10) {i : Int32} (hi : fl_in i (rf_ln q)) (hdg : decode cc pc = .ok (.iaload, 1)) (kk : W p l e R s m args below meth c H locs cells slots Q (F0 m (pc + 1) ls (.int (g q i.toNatClampNeg) :: rest))) : W p l e R s m args below meth c H locs cells slots Q (F0 m pc ls (.int i :: .ref (ad q) :: rest)) :=
  fl_iald hexec hb hK hP q (rf_lt hk (by decide)) q (rf_sh10 hk) (rf_ty_at hk (by decide)) hi hdg kk
theorem rf_iast (hexec : p.tables.exec = Jvm.exec) (hb : c.code = cc) (hK : va_K D al_cl (rf_ty ca) s) (hP : va_P D al_cl (fl_ws 14 (rf_sh ca ad) ad g) H) (hI : fl_inj 14 ad) (hS : va_S (fl_A 14 ad) H0 H locs) {q : Nat} (hk : rf_kd q = 10) {i x : Int32} (hi : fl_in i (rf_ln q)) (hdg : decode cc pc = .ok (.iastore, 1)) (kk : ∀ (H1 : Heap) (locs1 : List Loc), va_P D al_cl (fl_ws 14 (rf_sh ca ad) ad (fl_up g q i.toNatClampNeg x)) H1 → va_S (fl_A 14 ad) H0 H1 locs1 → W p l e R s m args below meth c H1 locs1 cells slots Q (F0 m (pc + 1) ls rest)) : W p l e R s m args below meth c H locs cells slots Q (F0 m pc ls (.int x :: .int i :: .ref (ad q) :: rest)) :=
  fl_iast hexec hb hK hP hI hS q (rf_lt hk (by decide)) q (fun _ => rf_sh10 hk) (rf_ty_at hk (by decide)) hi hdg kk
theorem rf_alen10 (hexec : p.tables.exec = Jvm.exec) (hb : c.code = cc) (hK : va_K D al_cl (rf_ty ca) s) (hP : va_P D al_cl (fl_ws 14 (rf_sh ca ad) ad g) H) {q : Nat} (hk : rf_kd q = 10) {v : Int32} (hv : Int32.ofNat (rf_ln q) = v) (hdg : decode cc pc = .ok (.arraylength, 1)) (kk : W p l e R s m args below meth c H locs cells slots Q (F0 m (pc + 1) ls (.int v :: rest))) : W p l e R s m args below meth c H locs cells slots Q (F0 m pc ls (.ref (ad q) :: rest)) :=
  fl_alen hexec hb hK hP q (rf_lt hk (by decide)) q (rf_sh10 hk) (rf_ty_at hk (by decide)) hv hdg kk
theorem rf_zald (hexec : p.tables.exec = Jvm.exec) (hb : c.code = cc) (hK : va_K D al_cl (rf_ty ca) s) (hP : va_P D al_cl (fl_ws 14 (rf_sh ca ad) ad g) H) {q : Nat} (hk : rf_kd q = 11) {i : Int32} (hi : fl_in i (rf_ln q)) (hdg : decode cc pc = .ok (.baload, 1)) (kk : W p l e R s m args below meth c H locs cells slots Q (F0 m (pc + 1) ls (.int (g q i.toNatClampNeg) :: rest))) : W p l e R s m args below meth c H locs cells slots Q (F0 m pc ls (.int i :: .ref (ad q) :: rest)) :=
  fl_zald hexec hb hK hP q (rf_lt hk (by decide)) q (rf_sh11 hk) (rf_ty_at hk (by decide)) hi hdg kk
theorem rf_zast (hexec : p.tables.exec = Jvm.exec) (hb : c.code = cc) (hK : va_K D al_cl (rf_ty ca) s) (hP : va_P D al_cl (fl_ws 14 (rf_sh ca ad) ad g) H) (hI : fl_inj 14 ad) (hS : va_S (fl_A 14 ad) H0 H locs) {q : Nat} (hk : rf_kd q = 11) {i x : Int32} (hi : fl_in i (rf_ln q)) (hdg : decode cc pc = .ok (.bastore, 1)) (kk : ∀ (H1 : Heap) (locs1 : List Loc), va_P D al_cl (fl_ws 14 (rf_sh ca ad) ad (fl_up g q i.toNatClampNeg (x &&& 1))) H1 → va_S (fl_A 14 ad) H0 H1 locs1 → W p l e R s m args below meth c H1 locs1 cells slots Q (F0 m (pc + 1) ls rest)) : W p l e R s m args below meth c H locs cells slots Q (F0 m pc ls (.int x :: .int i :: .ref (ad q) :: rest)) :=
  fl_zast hexec hb hK hP hI hS q (rf_lt hk (by decide)) q (fun _ => rf_sh11 hk) (rf_ty_at hk (by decide)) hi hdg kk
theorem rf_alen11 (hexec : p.tables.exec = Jvm.exec) (hb : c.code = cc) (hK : va_K D al_cl (rf_ty ca) s) (hP : va_P D al_cl (fl_ws 14 (rf_sh ca ad) ad g) H) {q : Nat} (hk : rf_kd q = 11) {v : Int32} (hv : Int32.ofNat (rf_ln q) = v) (hdg : decode cc pc = .ok (.arraylength, 1)) (kk : W p l e R s m args below meth c H locs cells slots Q (F0 m (pc + 1) ls (.int v :: rest))) : W p l e R s m args below meth c H locs cells slots Q (F0 m pc ls (.ref (ad q) :: rest)) :=
  fl_alen hexec hb hK hP q (rf_lt hk (by decide)) q (rf_sh11 hk) (rf_ty_at hk (by decide)) hv hdg kk
theorem rf_cpi (hexec : p.tables.exec = Jvm.exec) (hb : c.code = cc) (hml : c.maxLocals = ls.size) {own : String} {index : Nat} (hown : s.vm.findClass own = some m.cls) (hlink : (Cond.methodLink own index arraycopyName).before args s = true) (hnat : (Cond.native arraycopyName).before args s = true) (hstat : (Cond.static arraycopyName).before args s = true) (hini : (Cond.initialized "java/lang/System").before args s = true) (hK : va_K D al_cl (rf_ty ca) s) (hP : va_P D al_cl (fl_ws 14 (rf_sh ca ad) ad g) H) (hI : fl_inj 14 ad) (hS : va_S (fl_A 14 ad) H0 H locs) {q0 q1 : Nat} (hk0 : rf_kd q0 = 10) (hk1 : rf_kd q1 = 10) {sp dp n2 : Int32} (hc : (0 ≤ sp ∧ 0 ≤ dp ∧ 0 ≤ n2) ∧ sp.toNatClampNeg + n2.toNatClampNeg ≤ rf_ln q0 ∧ dp.toNatClampNeg + n2.toNatClampNeg ≤ rf_ln q1) (hframes : 1 ≤ R.frames) (hlocals : (rest.map fun v => v.category).sum + (nativeFrameWords "java/lang/System" "arraycopy" 5 + 11) ≤ R.locals) (hdg : decode cc pc = .ok (.invokestatic index, 3)) (kk : ∀ (H1 : Heap) (locs1 : List Loc), va_P D al_cl (fl_ws 14 (rf_sh ca ad) ad (fl_st g q1 (va_cpy (g q0) (g q1) sp.toNatClampNeg dp.toNatClampNeg n2.toNatClampNeg))) H1 → va_S (fl_A 14 ad) H0 H1 locs1 → W p l e R s m args below meth c H1 locs1 cells slots Q (F0 m (pc + 3) ls rest)) : W p l e R s m args below meth c H locs cells slots Q (F0 m pc ls (.int n2 :: .int dp :: .ref (ad q1) :: .int sp :: .ref (ad q0) :: rest)) :=
  fl_cpi hexec hb hml hown hlink hnat hstat hini hK hP hI hS q0 q1 (rf_lt hk0 (by decide)) (rf_lt hk1 (by decide)) q0 q1 (fun _ => rf_sh10 hk0) (fun _ => rf_sh10 hk1) (rf_ty_at hk0 (by decide)) (rf_ty_at hk1 (by decide)) hc hframes hlocals hdg kk
end RF

