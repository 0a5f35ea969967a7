theorem fl_cat (r : Option Nat) : (va_rf r).category = 1 := by cases r <;> rfl
def mc_T0 : u_T := fun k => match k with
  | 0 => ("MeshedSpans", "draws", "LMeshedSpans$Draws;", true)
  | 1 => ("MeshedSpans", "spans", "LMeshedSpans$Spans;", true)
  | 2 => ("MeshedSpans", "live", "LMeshedSpans$Blocks;", true)
  | 3 => ("MeshedSpans", "miniheaps", "[LMeshedSpans$Miniheap;", true)
  | 4 => ("MeshedSpans", "attachments", "[LMeshedSpans$Attachment;", true)
  | 5 => ("MeshedSpans", "meshRow", "[I", true)
  | 6 => ("MeshedSpans", "nextNumber", "I", false)
  | _ => ("MeshedSpans", "latestProbes", "I", false)
def mc_t0 : Nat → FieldType := fun k => match k with
  | 0 => .object "MeshedSpans$Draws"
  | 1 => .object "MeshedSpans$Spans"
  | 2 => .object "MeshedSpans$Blocks"
  | 3 => .array (.object "MeshedSpans$Miniheap")
  | 4 => .array (.object "MeshedSpans$Attachment")
  | 5 => .array .int
  | 6 => .int
  | _ => .int
theorem mc_nm0 : ∀ a, a < 8 → ∀ b, b < 8 → a ≠ b → (mc_T0 a).2.1 ≠ (mc_T0 b).2.1 := by decide +kernel
theorem mc_tok0 : ∀ k, k < 8 → parseFieldDescriptor (mc_T0 k).2.2.1 = some (mc_t0 k) := by decide +kernel
theorem mc_in0 : ∀ w ∈ u_ws "MeshedSpans" mc_T0 8, w ∈ gw := by decide +kernel
def mc_T1 : u_T := fun k => match k with
  | _ => ("MeshedSpans$Draws", "x", "I", false)
def mc_t1 : Nat → FieldType := fun k => match k with
  | _ => .int
theorem mc_nm1 : ∀ a, a < 1 → ∀ b, b < 1 → a ≠ b → (mc_T1 a).2.1 ≠ (mc_T1 b).2.1 := by decide +kernel
theorem mc_tok1 : ∀ k, k < 1 → parseFieldDescriptor (mc_T1 k).2.2.1 = some (mc_t1 k) := by decide +kernel
theorem mc_in1 : ∀ w ∈ u_ws "MeshedSpans$Draws" mc_T1 1, w ∈ gw := by decide +kernel
def mc_T2 : u_T := fun k => match k with
  | 0 => ("MeshedSpans$Spans", "words", "[I", true)
  | 1 => ("MeshedSpans$Spans", "physical", "[I", true)
  | _ => ("MeshedSpans$Spans", "virtuals", "[I", true)
def mc_t2 : Nat → FieldType := fun k => match k with
  | 0 => .array .int
  | 1 => .array .int
  | _ => .array .int
theorem mc_nm2 : ∀ a, a < 3 → ∀ b, b < 3 → a ≠ b → (mc_T2 a).2.1 ≠ (mc_T2 b).2.1 := by decide +kernel
theorem mc_tok2 : ∀ k, k < 3 → parseFieldDescriptor (mc_T2 k).2.2.1 = some (mc_t2 k) := by decide +kernel
theorem mc_in2 : ∀ w ∈ u_ws "MeshedSpans$Spans" mc_T2 3, w ∈ gw := by decide +kernel
def mc_T3 : u_T := fun k => match k with
  | 0 => ("MeshedSpans$Blocks", "words", "[I", true)
  | 1 => ("MeshedSpans$Blocks", "inside", "[Z", true)
  | _ => ("MeshedSpans$Blocks", "number", "I", false)
def mc_t3 : Nat → FieldType := fun k => match k with
  | 0 => .array .int
  | 1 => .array .boolean
  | _ => .int
theorem mc_nm3 : ∀ a, a < 3 → ∀ b, b < 3 → a ≠ b → (mc_T3 a).2.1 ≠ (mc_T3 b).2.1 := by decide +kernel
theorem mc_tok3 : ∀ k, k < 3 → parseFieldDescriptor (mc_T3 k).2.2.1 = some (mc_t3 k) := by decide +kernel
theorem mc_in3 : ∀ w ∈ u_ws "MeshedSpans$Blocks" mc_T3 3, w ∈ gw := by decide +kernel
def mc_T4 : u_T := fun k => match k with
  | 0 => ("MeshedSpans$Miniheap", "physical", "I", true)
  | 1 => ("MeshedSpans$Miniheap", "number", "I", false)
  | 2 => ("MeshedSpans$Miniheap", "sizeClass", "I", false)
  | 3 => ("MeshedSpans$Miniheap", "home", "I", false)
  | _ => ("MeshedSpans$Miniheap", "used", "I", false)
def mc_t4 : Nat → FieldType := fun k => match k with
  | 0 => .int
  | 1 => .int
  | 2 => .int
  | 3 => .int
  | _ => .int
theorem mc_nm4 : ∀ a, a < 5 → ∀ b, b < 5 → a ≠ b → (mc_T4 a).2.1 ≠ (mc_T4 b).2.1 := by decide +kernel
theorem mc_tok4 : ∀ k, k < 5 → parseFieldDescriptor (mc_T4 k).2.2.1 = some (mc_t4 k) := by decide +kernel
theorem mc_in4 : ∀ w ∈ u_ws "MeshedSpans$Miniheap" mc_T4 5, w ∈ gw := by decide +kernel
def mc_T5 : u_T := fun k => match k with
  | 0 => ("MeshedSpans$Attachment", "heap", "LMeshedSpans$Miniheap;", false)
  | 1 => ("MeshedSpans$Attachment", "cells", "[I", true)
  | _ => ("MeshedSpans$Attachment", "length", "I", false)
def mc_t5 : Nat → FieldType := fun k => match k with
  | 0 => .object "MeshedSpans$Miniheap"
  | 1 => .array .int
  | _ => .int
theorem mc_nm5 : ∀ a, a < 3 → ∀ b, b < 3 → a ≠ b → (mc_T5 a).2.1 ≠ (mc_T5 b).2.1 := by decide +kernel
theorem mc_tok5 : ∀ k, k < 3 → parseFieldDescriptor (mc_T5 k).2.2.1 = some (mc_t5 k) := by decide +kernel
theorem mc_in5 : ∀ w ∈ u_ws "MeshedSpans$Attachment" mc_T5 3, w ∈ gw := by decide +kernel
def rf_T0 : u_T := fun k => match k with
  | 0 => ("MeshedSpansModel", "state", "I", false)
  | 1 => ("MeshedSpansModel", "use", "[I", false)
  | 2 => ("MeshedSpansModel", "words", "[I", false)
  | 3 => ("MeshedSpansModel", "map", "[I", false)
  | 4 => ("MeshedSpansModel", "number", "[I", false)
  | 5 => ("MeshedSpansModel", "kind", "[I", false)
  | 6 => ("MeshedSpansModel", "home", "[I", false)
  | 7 => ("MeshedSpansModel", "place", "[I", false)
  | 8 => ("MeshedSpansModel", "large", "[I", false)
  | 9 => ("MeshedSpansModel", "made", "I", false)
  | 10 => ("MeshedSpansModel", "held", "[I", false)
  | 11 => ("MeshedSpansModel", "many", "[I", false)
  | 12 => ("MeshedSpansModel", "row", "[I", false)
  | 13 => ("MeshedSpansModel", "probeCount", "I", false)
  | 14 => ("MeshedSpansModel", "line", "[I", false)
  | _ => ("MeshedSpansModel", "done", "[Z", false)
def rf_t0 : Nat → FieldType := fun k => match k with
  | 0 => .int
  | 1 => .array .int
  | 2 => .array .int
  | 3 => .array .int
  | 4 => .array .int
  | 5 => .array .int
  | 6 => .array .int
  | 7 => .array .int
  | 8 => .array .int
  | 9 => .int
  | 10 => .array .int
  | 11 => .array .int
  | 12 => .array .int
  | 13 => .int
  | 14 => .array .int
  | _ => .array .boolean
theorem rf_nm0 : ∀ a, a < 16 → ∀ b, b < 16 → a ≠ b → (rf_T0 a).2.1 ≠ (rf_T0 b).2.1 := by decide +kernel
theorem rf_tok0 : ∀ k, k < 16 → parseFieldDescriptor (rf_T0 k).2.2.1 = some (rf_t0 k) := by decide +kernel
theorem rf_in0 : ∀ w ∈ u_ws "MeshedSpansModel" rf_T0 16, w ∈ gw := by decide +kernel
abbrev al_cl : List vw_C := [("MeshedSpans", mc_T0, 8), ("MeshedSpans$Draws", mc_T1, 1), ("MeshedSpans$Spans", mc_T2, 3), ("MeshedSpans$Blocks", mc_T3, 3), ("MeshedSpans$Miniheap", mc_T4, 5), ("MeshedSpans$Attachment", mc_T5, 3), ("MeshedSpansModel", rf_T0, 16)]
def mc_ns : List Cond := [(Jvm.Cond.fieldLinkNest "MeshedSpans" (220 : Nat) "MeshedSpans$Miniheap" "physical" "I" "MeshedSpans"), (Jvm.Cond.fieldLinkNest "MeshedSpans" (140 : Nat) "MeshedSpans$Miniheap" "number" "I" "MeshedSpans"), (Jvm.Cond.fieldLinkNest "MeshedSpans$Attachment" (23 : Nat) "MeshedSpans$Miniheap" "sizeClass" "I" "MeshedSpans"), (Jvm.Cond.fieldLinkNest "MeshedSpans" (210 : Nat) "MeshedSpans$Miniheap" "sizeClass" "I" "MeshedSpans"), (Jvm.Cond.fieldLinkNest "MeshedSpans" (136 : Nat) "MeshedSpans$Attachment" "heap" "LMeshedSpans$Miniheap;" "MeshedSpans"), (Jvm.Cond.methodLinkNest "MeshedSpans$Spans" (21 : Nat) ({ cls := "MeshedSpans", name := "isVirtual", desc := "(I)Z" } : Jvm.MethodName) "MeshedSpans"), (Jvm.Cond.methodLinkNest "MeshedSpans$Spans" (25 : Nat) ({ cls := "MeshedSpans", name := "isPhysical", desc := "(I)Z" } : Jvm.MethodName) "MeshedSpans"), (Jvm.Cond.methodLinkNest "MeshedSpans$Blocks" (23 : Nat) ({ cls := "MeshedSpans", name := "isAddress", desc := "(I)Z" } : Jvm.MethodName) "MeshedSpans"), (Jvm.Cond.methodLinkNest "MeshedSpans$Miniheap" (35 : Nat) ({ cls := "MeshedSpans", name := "cellsOfClass", desc := "(I)I" } : Jvm.MethodName) "MeshedSpans"), (Jvm.Cond.methodLinkNest "MeshedSpans$Attachment" (28 : Nat) ({ cls := "MeshedSpans", name := "cellsOfClass", desc := "(I)I" } : Jvm.MethodName) "MeshedSpans"), (Jvm.Cond.methodLinkNest "MeshedSpans$Miniheap" (44 : Nat) ({ cls := "MeshedSpans", name := "wordsOfClass", desc := "(I)I" } : Jvm.MethodName) "MeshedSpans"), (Jvm.Cond.methodLinkNest "MeshedSpans$Spans" (52 : Nat) ({ cls := "MeshedSpans", name := "isAddress", desc := "(I)Z" } : Jvm.MethodName) "MeshedSpans"), (Jvm.Cond.methodLinkNest "MeshedSpans$Miniheap" (27 : Nat) ({ cls := "MeshedSpans", name := "isClass", desc := "(I)Z" } : Jvm.MethodName) "MeshedSpans")]
theorem nm_0 : (Jvm.Cond.fieldLinkNest "MeshedSpans" (220 : Nat) "MeshedSpans$Miniheap" "physical" "I" "MeshedSpans") ∈ mc_ns := List.mem_of_getElem? (i := 0) rfl
theorem nm_1 : (Jvm.Cond.fieldLinkNest "MeshedSpans" (140 : Nat) "MeshedSpans$Miniheap" "number" "I" "MeshedSpans") ∈ mc_ns := List.mem_of_getElem? (i := 1) rfl
theorem nm_2 : (Jvm.Cond.fieldLinkNest "MeshedSpans$Attachment" (23 : Nat) "MeshedSpans$Miniheap" "sizeClass" "I" "MeshedSpans") ∈ mc_ns := List.mem_of_getElem? (i := 2) rfl
theorem nm_3 : (Jvm.Cond.fieldLinkNest "MeshedSpans" (210 : Nat) "MeshedSpans$Miniheap" "sizeClass" "I" "MeshedSpans") ∈ mc_ns := List.mem_of_getElem? (i := 3) rfl
theorem nm_4 : (Jvm.Cond.fieldLinkNest "MeshedSpans" (136 : Nat) "MeshedSpans$Attachment" "heap" "LMeshedSpans$Miniheap;" "MeshedSpans") ∈ mc_ns := List.mem_of_getElem? (i := 4) rfl
theorem nm_5 : (Jvm.Cond.methodLinkNest "MeshedSpans$Spans" (21 : Nat) ({ cls := "MeshedSpans", name := "isVirtual", desc := "(I)Z" } : Jvm.MethodName) "MeshedSpans") ∈ mc_ns := List.mem_of_getElem? (i := 5) rfl
theorem nm_6 : (Jvm.Cond.methodLinkNest "MeshedSpans$Spans" (25 : Nat) ({ cls := "MeshedSpans", name := "isPhysical", desc := "(I)Z" } : Jvm.MethodName) "MeshedSpans") ∈ mc_ns := List.mem_of_getElem? (i := 6) rfl
theorem nm_7 : (Jvm.Cond.methodLinkNest "MeshedSpans$Blocks" (23 : Nat) ({ cls := "MeshedSpans", name := "isAddress", desc := "(I)Z" } : Jvm.MethodName) "MeshedSpans") ∈ mc_ns := List.mem_of_getElem? (i := 7) rfl
theorem nm_8 : (Jvm.Cond.methodLinkNest "MeshedSpans$Miniheap" (35 : Nat) ({ cls := "MeshedSpans", name := "cellsOfClass", desc := "(I)I" } : Jvm.MethodName) "MeshedSpans") ∈ mc_ns := List.mem_of_getElem? (i := 8) rfl
theorem nm_9 : (Jvm.Cond.methodLinkNest "MeshedSpans$Attachment" (28 : Nat) ({ cls := "MeshedSpans", name := "cellsOfClass", desc := "(I)I" } : Jvm.MethodName) "MeshedSpans") ∈ mc_ns := List.mem_of_getElem? (i := 9) rfl
theorem nm_10 : (Jvm.Cond.methodLinkNest "MeshedSpans$Miniheap" (44 : Nat) ({ cls := "MeshedSpans", name := "wordsOfClass", desc := "(I)I" } : Jvm.MethodName) "MeshedSpans") ∈ mc_ns := List.mem_of_getElem? (i := 10) rfl
theorem nm_11 : (Jvm.Cond.methodLinkNest "MeshedSpans$Spans" (52 : Nat) ({ cls := "MeshedSpans", name := "isAddress", desc := "(I)Z" } : Jvm.MethodName) "MeshedSpans") ∈ mc_ns := List.mem_of_getElem? (i := 11) rfl
theorem nm_12 : (Jvm.Cond.methodLinkNest "MeshedSpans$Miniheap" (27 : Nat) ({ cls := "MeshedSpans", name := "isClass", desc := "(I)Z" } : Jvm.MethodName) "MeshedSpans") ∈ mc_ns := List.mem_of_getElem? (i := 12) rfl
theorem mc_ns_in : ∀ w ∈ mc_ns, w ∈ lw_tbl ∧ fl_isN w = true := by decide +kernel
/-! the cells of MeshedSpans: 32 of them -/
def mc_kd (q : Nat) : Nat := ([0, 1, 2, 10, 10, 10, 3, 10, 11, 12, 4, 4, 4, 4, 4, 4, 4, 4, 4, 4, 4, 4, 13, 5, 10, 5, 10, 5, 10, 5, 10, 10] : List Nat).getD q 99
def mc_ln (q : Nat) : Nat := ([0, 0, 0, 192, 24, 12, 0, 384, 384, 12, 0, 0, 0, 0, 0, 0, 0, 0, 0, 0, 0, 0, 4, 0, 16, 0, 16, 0, 16, 0, 16, 12] : List Nat).getD q 0
def mc_ft (k : Nat) : FieldType := match k with
  | 11 => .boolean
  | 12 => .object "MeshedSpans$Miniheap"
  | 13 => .object "MeshedSpans$Attachment"
  | _ => .int
def mc_ty (ca : Nat → ClassId) : List (ClassId × FieldType) := (List.range 32).map (fun q => (ca q, mc_ft (mc_kd q)))
abbrev mc_fs0 (ad : Nat → Nat) (q : Nat) (f : Nat → Int32) : List Value := [.ref (ad 1), .ref (ad 2), .ref (ad 6), .ref (ad 9), .ref (ad 22), .ref (ad 31), .int (f 6), .int (f 7)]
abbrev mc_fs1 (ad : Nat → Nat) (q : Nat) (f : Nat → Int32) : List Value := [.int (f 0)]
abbrev mc_fs2 (ad : Nat → Nat) (q : Nat) (f : Nat → Int32) : List Value := [.ref (ad 3), .ref (ad 4), .ref (ad 5)]
abbrev mc_fs3 (ad : Nat → Nat) (q : Nat) (f : Nat → Int32) : List Value := [.ref (ad 7), .ref (ad 8), .int (f 2)]
abbrev mc_fs4 (ad : Nat → Nat) (q : Nat) (f : Nat → Int32) : List Value := [.int (Int32.ofNat (q - 10)), .int (f 1), .int (f 2), .int (f 3), .int (f 4)]
abbrev mc_fs5 (ad : Nat → Nat) (q : Nat) (f : Nat → Int32) : List Value := [va_rf (Option.map ad (fl_rf (f 0))), .ref (ad (q + 1)), .int (f 2)]
def mc_sh (ca : Nat → ClassId) (ad : Nat → Nat) (q : Nat) (f : Nat → Int32) : va_E := match mc_kd q with
  | 0 => .inr (0, mc_fs0 ad q f)
  | 1 => .inr (1, mc_fs1 ad q f)
  | 2 => .inr (2, mc_fs2 ad q f)
  | 3 => .inr (3, mc_fs3 ad q f)
  | 4 => .inr (4, mc_fs4 ad q f)
  | 5 => .inr (5, mc_fs5 ad q f)
  | 12 => .inl (ca q, mc_ln q, .inr (.inr (.inr (.inr (fun j => some (ad (10 + j)))))))
  | 13 => .inl (ca q, mc_ln q, .inr (.inr (.inr (.inr (fun j => some (ad (23 + 2 * j)))))))
  | _ => .inl (ca q, mc_ln q, .inl f)
theorem mc_lt {q K : Nat} (h : mc_kd q = K) (hK : K < 99) : q < 32 := by
  rcases Nat.lt_or_ge q 32 with h1 | h1
  · exact h1
  · exfalso
    have h2 : mc_kd q = 99 := by
      unfold mc_kd
      rw [List.getD_eq_getElem?_getD, List.getElem?_eq_none (by simpa using h1)]
      rfl
    omega
theorem mc_ty_at {ca : Nat → ClassId} {q K : Nat} (h : mc_kd q = K) (hK : K < 99) : (mc_ty ca)[q]? = some (ca q, mc_ft K) := by
  have h1 := mc_lt h hK
  simp [mc_ty, h1, h]
theorem mc_sh0 {ca : Nat → ClassId} {ad : Nat → Nat} {q : Nat} {f : Nat → Int32} (h : mc_kd q = 0) : mc_sh ca ad q f = .inr (0, mc_fs0 ad q f) := by
  unfold mc_sh
  rw [h]
  rfl
theorem mc_sh1 {ca : Nat → ClassId} {ad : Nat → Nat} {q : Nat} {f : Nat → Int32} (h : mc_kd q = 1) : mc_sh ca ad q f = .inr (1, mc_fs1 ad q f) := by
  unfold mc_sh
  rw [h]
  rfl
theorem mc_sh2 {ca : Nat → ClassId} {ad : Nat → Nat} {q : Nat} {f : Nat → Int32} (h : mc_kd q = 2) : mc_sh ca ad q f = .inr (2, mc_fs2 ad q f) := by
  unfold mc_sh
  rw [h]
  rfl
theorem mc_sh3 {ca : Nat → ClassId} {ad : Nat → Nat} {q : Nat} {f : Nat → Int32} (h : mc_kd q = 3) : mc_sh ca ad q f = .inr (3, mc_fs3 ad q f) := by
  unfold mc_sh
  rw [h]
  rfl
theorem mc_sh4 {ca : Nat → ClassId} {ad : Nat → Nat} {q : Nat} {f : Nat → Int32} (h : mc_kd q = 4) : mc_sh ca ad q f = .inr (4, mc_fs4 ad q f) := by
  unfold mc_sh
  rw [h]
  rfl
theorem mc_sh5 {ca : Nat → ClassId} {ad : Nat → Nat} {q : Nat} {f : Nat → Int32} (h : mc_kd q = 5) : mc_sh ca ad q f = .inr (5, mc_fs5 ad q f) := by
  unfold mc_sh
  rw [h]
  rfl
theorem mc_sh10 {ca : Nat → ClassId} {ad : Nat → Nat} {q : Nat} {f : Nat → Int32} (h : mc_kd q = 10) : mc_sh ca ad q f = .inl (ca q, mc_ln q, .inl f) := by
  unfold mc_sh
  rw [h]
  rfl
theorem mc_sh11 {ca : Nat → ClassId} {ad : Nat → Nat} {q : Nat} {f : Nat → Int32} (h : mc_kd q = 11) : mc_sh ca ad q f = .inl (ca q, mc_ln q, .inl f) := by
  unfold mc_sh
  rw [h]
  rfl
theorem mc_sh12 {ca : Nat → ClassId} {ad : Nat → Nat} {q : Nat} {f : Nat → Int32} (h : mc_kd q = 12) : mc_sh ca ad q f = .inl (ca q, mc_ln q, .inr (.inr (.inr (.inr (fun j => some (ad (10 + j))))))) := by
  unfold mc_sh
  rw [h]
  rfl
theorem mc_sh13 {ca : Nat → ClassId} {ad : Nat → Nat} {q : Nat} {f : Nat → Int32} (h : mc_kd q = 13) : mc_sh ca ad q f = .inl (ca q, mc_ln q, .inr (.inr (.inr (.inr (fun j => some (ad (23 + 2 * j))))))) := by
  unfold mc_sh
  rw [h]
  rfl
theorem mc_kdM {i : Nat} (h : i < 12) : mc_kd (10 + i) = 4 := (by decide : ∀ i, i < 12 → mc_kd (10 + i) = 4) i h
theorem mc_kdB {i : Nat} (h : i < 4) : mc_kd (23 + 2 * i) = 5 := (by decide : ∀ i, i < 4 → mc_kd (23 + 2 * i) = 5) i h
theorem mc_kdA {q : Nat} (h : mc_kd q = 5) : mc_kd (q + 1) = 10 := (by decide : ∀ q, q < 32 → mc_kd q = 5 → mc_kd (q + 1) = 10) q (mc_lt h (by decide)) h
section MC
variable {p : Program} {l : Launch} {e : Env} {R : Room} {s : State} {m : MethodId} {args : Array Value} {below : List Frame} {meth : Method} {c : Code} {H : Heap} {locs : List Loc} {cells slots : Nat} {Q : State → Prop}
variable {cc : ByteArray} {pc : Nat} {ls : Array Slot} {rest : List Value} {D : va_G} {ca : Nat → ClassId} {ad : Nat → Nat} {g : fl_G} {H0 : Heap}
theorem mc_get0 (hexec : p.tables.exec = Jvm.exec) (hb : c.code = cc) {own : String} {index : Nat} {Ts : List Cond} (hts : ∀ w ∈ Ts, w.before args s = true) (hin : ∀ w ∈ u_ws "MeshedSpans" mc_T0 8, w ∈ Ts) (hown : s.vm.findClass own = some m.cls) (hK : va_K D al_cl (mc_ty ca) s) (hP : va_P D al_cl (fl_ws 32 (mc_sh ca ad) ad g) H) {q : Nat} (hk : mc_kd q = 0) (k : Nat) (hkN : k < 8) (hlink : (Cond.fieldLink own index (mc_T0 k).1 (mc_T0 k).2.1 (mc_T0 k).2.2.1).before args s = true) {v : Value} (hv : (mc_fs0 ad q (g q))[k]? = some v) (hdg : decode cc pc = .ok (.getfield index, 3)) (kk : W p l e R s m args below meth c H locs cells slots Q (F0 m (pc + 3) ls (v :: rest))) : W p l e R s m args below meth c H locs cells slots Q (F0 m pc ls (.ref (ad q) :: rest)) :=
  fl_get (ci := 0) hexec hb hts hin hown hK hP q (mc_lt hk (by decide)) (mc_sh0 hk) rfl k hkN hlink hv hdg kk
theorem mc_put0 (hexec : p.tables.exec = Jvm.exec) (hb : c.code = cc) {own : String} {index : Nat} {Ts : List Cond} (hts : ∀ w ∈ Ts, w.before args s = true) (hin : ∀ w ∈ u_ws "MeshedSpans" mc_T0 8, w ∈ Ts) (hown : s.vm.findClass own = some m.cls) (hK : va_K D al_cl (mc_ty ca) s) (hP : va_P D al_cl (fl_ws 32 (mc_sh ca ad) ad g) H) (hI : fl_inj 32 ad) (hS : va_S (fl_A 32 ad) H0 H locs) {q : Nat} (hk : mc_kd q = 0) (k : Nat) (hkN : k < 8) (hlink : (Cond.fieldLink own index (mc_T0 k).1 (mc_T0 k).2.1 (mc_T0 k).2.2.1).before args s = true) {iv : Int32} (hfin : (mc_T0 k).2.2.2 = false) (hd : parseFieldDescriptor (mc_T0 k).2.2.1 = some .int) (hset : mc_fs0 ad q (upd (g q) k iv) = (mc_fs0 ad q (g q)).set k (.int iv)) (hdg : decode cc pc = .ok (.putfield index, 3)) (kk : ∀ (H1 : Heap) (locs1 : List Loc), va_P D al_cl (fl_ws 32 (mc_sh ca ad) ad (fl_up g q k iv)) H1 → va_S (fl_A 32 ad) H0 H1 locs1 → W p l e R s m args below meth c H1 locs1 cells slots Q (F0 m (pc + 3) ls rest)) : W p l e R s m args below meth c H locs cells slots Q (F0 m pc ls (.int iv :: .ref (ad q) :: rest)) :=
  fl_put (ci := 0) hexec hb hts hin mc_t0 mc_tok0 mc_nm0 hown hK hP hI hS q (mc_lt hk (by decide)) (mc_sh0 hk) rfl k hkN hlink hfin hd rfl rfl (show k < 8 from hkN) (upd (g q) k iv) (by rw [mc_sh0 hk, hset]) hdg kk
theorem mc_getN0 (hexec : p.tables.exec = Jvm.exec) (hb : c.code = cc) {own host : String} {index : Nat} {Ts : List Cond} (hts : ∀ w ∈ Ts, w.before args s = true) (hin : ∀ w ∈ u_ws "MeshedSpans" mc_T0 8, w ∈ Ts) (hown : s.vm.findClass own = some m.cls) (hK : va_K D al_cl (mc_ty ca) s) (hP : va_P D al_cl (fl_ws 32 (mc_sh ca ad) ad g) H) {q : Nat} (hk : mc_kd q = 0) (k : Nat) (hkN : k < 8) (hlink : (Cond.fieldLinkNest own index (mc_T0 k).1 (mc_T0 k).2.1 (mc_T0 k).2.2.1 host).before args s = true) {v : Value} (hv : (mc_fs0 ad q (g q))[k]? = some v) (hdg : decode cc pc = .ok (.getfield index, 3)) (kk : W p l e R s m args below meth c H locs cells slots Q (F0 m (pc + 3) ls (v :: rest))) : W p l e R s m args below meth c H locs cells slots Q (F0 m pc ls (.ref (ad q) :: rest)) :=
  fl_getN (ci := 0) hexec hb hts hin hown hK hP q (mc_lt hk (by decide)) (mc_sh0 hk) rfl k hkN hlink hv hdg kk
theorem mc_putN0 (hexec : p.tables.exec = Jvm.exec) (hb : c.code = cc) {own host : String} {index : Nat} {Ts : List Cond} (hts : ∀ w ∈ Ts, w.before args s = true) (hin : ∀ w ∈ u_ws "MeshedSpans" mc_T0 8, w ∈ Ts) (hown : s.vm.findClass own = some m.cls) (hK : va_K D al_cl (mc_ty ca) s) (hP : va_P D al_cl (fl_ws 32 (mc_sh ca ad) ad g) H) (hI : fl_inj 32 ad) (hS : va_S (fl_A 32 ad) H0 H locs) {q : Nat} (hk : mc_kd q = 0) (k : Nat) (hkN : k < 8) (hlink : (Cond.fieldLinkNest own index (mc_T0 k).1 (mc_T0 k).2.1 (mc_T0 k).2.2.1 host).before args s = true) {iv : Int32} (hfin : (mc_T0 k).2.2.2 = false) (hd : parseFieldDescriptor (mc_T0 k).2.2.1 = some .int) (hset : mc_fs0 ad q (upd (g q) k iv) = (mc_fs0 ad q (g q)).set k (.int iv)) (hdg : decode cc pc = .ok (.putfield index, 3)) (kk : ∀ (H1 : Heap) (locs1 : List Loc), va_P D al_cl (fl_ws 32 (mc_sh ca ad) ad (fl_up g q k iv)) H1 → va_S (fl_A 32 ad) H0 H1 locs1 → W p l e R s m args below meth c H1 locs1 cells slots Q (F0 m (pc + 3) ls rest)) : W p l e R s m args below meth c H locs cells slots Q (F0 m pc ls (.int iv :: .ref (ad q) :: rest)) :=
  fl_putN (ci := 0) hexec hb hts hin mc_t0 mc_tok0 mc_nm0 hown hK hP hI hS q (mc_lt hk (by decide)) (mc_sh0 hk) rfl k hkN hlink hfin hd rfl rfl (show k < 8 from hkN) (upd (g q) k iv) (by rw [mc_sh0 hk, hset]) hdg kk
theorem mc_get1 (hexec : p.tables.exec = Jvm.exec) (hb : c.code = cc) {own : String} {index : Nat} {Ts : List Cond} (hts : ∀ w ∈ Ts, w.before args s = true) (hin : ∀ w ∈ u_ws "MeshedSpans$Draws" mc_T1 1, w ∈ Ts) (hown : s.vm.findClass own = some m.cls) (hK : va_K D al_cl (mc_ty ca) s) (hP : va_P D al_cl (fl_ws 32 (mc_sh ca ad) ad g) H) {q : Nat} (hk : mc_kd q = 1) (k : Nat) (hkN : k < 1) (hlink : (Cond.fieldLink own index (mc_T1 k).1 (mc_T1 k).2.1 (mc_T1 k).2.2.1).before args s = true) {v : Value} (hv : (mc_fs1 ad q (g q))[k]? = some v) (hdg : decode cc pc = .ok (.getfield index, 3)) (kk : W p l e R s m args below meth c H locs cells slots Q (F0 m (pc + 3) ls (v :: rest))) : W p l e R s m args below meth c H locs cells slots Q (F0 m pc ls (.ref (ad q) :: rest)) :=
  fl_get (ci := 1) hexec hb hts hin hown hK hP q (mc_lt hk (by decide)) (mc_sh1 hk) rfl k hkN hlink hv hdg kk
theorem mc_put1 (hexec : p.tables.exec = Jvm.exec) (hb : c.code = cc) {own : String} {index : Nat} {Ts : List Cond} (hts : ∀ w ∈ Ts, w.before args s = true) (hin : ∀ w ∈ u_ws "MeshedSpans$Draws" mc_T1 1, w ∈ Ts) (hown : s.vm.findClass own = some m.cls) (hK : va_K D al_cl (mc_ty ca) s) (hP : va_P D al_cl (fl_ws 32 (mc_sh ca ad) ad g) H) (hI : fl_inj 32 ad) (hS : va_S (fl_A 32 ad) H0 H locs) {q : Nat} (hk : mc_kd q = 1) (k : Nat) (hkN : k < 1) (hlink : (Cond.fieldLink own index (mc_T1 k).1 (mc_T1 k).2.1 (mc_T1 k).2.2.1).before args s = true) {iv : Int32} (hfin : (mc_T1 k).2.2.2 = false) (hd : parseFieldDescriptor (mc_T1 k).2.2.1 = some .int) (hset : mc_fs1 ad q (upd (g q) k iv) = (mc_fs1 ad q (g q)).set k (.int iv)) (hdg : decode cc pc = .ok (.putfield index, 3)) (kk : ∀ (H1 : Heap) (locs1 : List Loc), va_P D al_cl (fl_ws 32 (mc_sh ca ad) ad (fl_up g q k iv)) H1 → va_S (fl_A 32 ad) H0 H1 locs1 → W p l e R s m args below meth c H1 locs1 cells slots Q (F0 m (pc + 3) ls rest)) : W p l e R s m args below meth c H locs cells slots Q (F0 m pc ls (.int iv :: .ref (ad q) :: rest)) :=
  fl_put (ci := 1) hexec hb hts hin mc_t1 mc_tok1 mc_nm1 hown hK hP hI hS q (mc_lt hk (by decide)) (mc_sh1 hk) rfl k hkN hlink hfin hd rfl rfl (show k < 1 from hkN) (upd (g q) k iv) (by rw [mc_sh1 hk, hset]) hdg kk
theorem mc_getN1 (hexec : p.tables.exec = Jvm.exec) (hb : c.code = cc) {own host : String} {index : Nat} {Ts : List Cond} (hts : ∀ w ∈ Ts, w.before args s = true) (hin : ∀ w ∈ u_ws "MeshedSpans$Draws" mc_T1 1, w ∈ Ts) (hown : s.vm.findClass own = some m.cls) (hK : va_K D al_cl (mc_ty ca) s) (hP : va_P D al_cl (fl_ws 32 (mc_sh ca ad) ad g) H) {q : Nat} (hk : mc_kd q = 1) (k : Nat) (hkN : k < 1) (hlink : (Cond.fieldLinkNest own index (mc_T1 k).1 (mc_T1 k).2.1 (mc_T1 k).2.2.1 host).before args s = true) {v : Value} (hv : (mc_fs1 ad q (g q))[k]? = some v) (hdg : decode cc pc = .ok (.getfield index, 3)) (kk : W p l e R s m args below meth c H locs cells slots Q (F0 m (pc + 3) ls (v :: rest))) : W p l e R s m args below meth c H locs cells slots Q (F0 m pc ls (.ref (ad q) :: rest)) :=
  fl_getN (ci := 1) hexec hb hts hin hown hK hP q (mc_lt hk (by decide)) (mc_sh1 hk) rfl k hkN hlink hv hdg kk
theorem mc_putN1 (hexec : p.tables.exec = Jvm.exec) (hb : c.code = cc) {own host : String} {index : Nat} {Ts : List Cond} (hts : ∀ w ∈ Ts, w.before args s = true) (hin : ∀ w ∈ u_ws "MeshedSpans$Draws" mc_T1 1, w ∈ Ts) (hown : s.vm.findClass own = some m.cls) (hK : va_K D al_cl (mc_ty ca) s) (hP : va_P D al_cl (fl_ws 32 (mc_sh ca ad) ad g) H) (hI : fl_inj 32 ad) (hS : va_S (fl_A 32 ad) H0 H locs) {q : Nat} (hk : mc_kd q = 1) (k : Nat) (hkN : k < 1) (hlink : (Cond.fieldLinkNest own index (mc_T1 k).1 (mc_T1 k).2.1 (mc_T1 k).2.2.1 host).before args s = true) {iv : Int32} (hfin : (mc_T1 k).2.2.2 = false) (hd : parseFieldDescriptor (mc_T1 k).2.2.1 = some .int) (hset : mc_fs1 ad q (upd (g q) k iv) = (mc_fs1 ad q (g q)).set k (.int iv)) (hdg : decode cc pc = .ok (.putfield index, 3)) (kk : ∀ (H1 : Heap) (locs1 : List Loc), va_P D al_cl (fl_ws 32 (mc_sh ca ad) ad (fl_up g q k iv)) H1 → va_S (fl_A 32 ad) H0 H1 locs1 → W p l e R s m args below meth c H1 locs1 cells slots Q (F0 m (pc + 3) ls rest)) : W p l e R s m args below meth c H locs cells slots Q (F0 m pc ls (.int iv :: .ref (ad q) :: rest)) :=
  fl_putN (ci := 1) hexec hb hts hin mc_t1 mc_tok1 mc_nm1 hown hK hP hI hS q (mc_lt hk (by decide)) (mc_sh1 hk) rfl k hkN hlink hfin hd rfl rfl (show k < 1 from hkN) (upd (g q) k iv) (by rw [mc_sh1 hk, hset]) hdg kk
theorem mc_get2 (hexec : p.tables.exec = Jvm.exec) (hb : c.code = cc) {own : String} {index : Nat} {Ts : List Cond} (hts : ∀ w ∈ Ts, w.before args s = true) (hin : ∀ w ∈ u_ws "MeshedSpans$Spans" mc_T2 3, w ∈ Ts) (hown : s.vm.findClass own = some m.cls) (hK : va_K D al_cl (mc_ty ca) s) (hP : va_P D al_cl (fl_ws 32 (mc_sh ca ad) ad g) H) {q : Nat} (hk : mc_kd q = 2) (k : Nat) (hkN : k < 3) (hlink : (Cond.fieldLink own index (mc_T2 k).1 (mc_T2 k).2.1 (mc_T2 k).2.2.1).before args s = true) {v : Value} (hv : (mc_fs2 ad q (g q))[k]? = some v) (hdg : decode cc pc = .ok (.getfield index, 3)) (kk : W p l e R s m args below meth c H locs cells slots Q (F0 m (pc + 3) ls (v :: rest))) : W p l e R s m args below meth c H locs cells slots Q (F0 m pc ls (.ref (ad q) :: rest)) :=
  fl_get (ci := 2) hexec hb hts hin hown hK hP q (mc_lt hk (by decide)) (mc_sh2 hk) rfl k hkN hlink hv hdg kk
theorem mc_getN2 (hexec : p.tables.exec = Jvm.exec) (hb : c.code = cc) {own host : String} {index : Nat} {Ts : List Cond} (hts : ∀ w ∈ Ts, w.before args s = true) (hin : ∀ w ∈ u_ws "MeshedSpans$Spans" mc_T2 3, w ∈ Ts) (hown : s.vm.findClass own = some m.cls) (hK : va_K D al_cl (mc_ty ca) s) (hP : va_P D al_cl (fl_ws 32 (mc_sh ca ad) ad g) H) {q : Nat} (hk : mc_kd q = 2) (k : Nat) (hkN : k < 3) (hlink : (Cond.fieldLinkNest own index (mc_T2 k).1 (mc_T2 k).2.1 (mc_T2 k).2.2.1 host).before args s = true) {v : Value} (hv : (mc_fs2 ad q (g q))[k]? = some v) (hdg : decode cc pc = .ok (.getfield index, 3)) (kk : W p l e R s m args below meth c H locs cells slots Q (F0 m (pc + 3) ls (v :: rest))) : W p l e R s m args below meth c H locs cells slots Q (F0 m pc ls (.ref (ad q) :: rest)) :=
  fl_getN (ci := 2) hexec hb hts hin hown hK hP q (mc_lt hk (by decide)) (mc_sh2 hk) rfl k hkN hlink hv hdg kk
theorem mc_get3 (hexec : p.tables.exec = Jvm.exec) (hb : c.code = cc) {own : String} {index : Nat} {Ts : List Cond} (hts : ∀ w ∈ Ts, w.before args s = true) (hin : ∀ w ∈ u_ws "MeshedSpans$Blocks" mc_T3 3, w ∈ Ts) (hown : s.vm.findClass own = some m.cls) (hK : va_K D al_cl (mc_ty ca) s) (hP : va_P D al_cl (fl_ws 32 (mc_sh ca ad) ad g) H) {q : Nat} (hk : mc_kd q = 3) (k : Nat) (hkN : k < 3) (hlink : (Cond.fieldLink own index (mc_T3 k).1 (mc_T3 k).2.1 (mc_T3 k).2.2.1).before args s = true) {v : Value} (hv : (mc_fs3 ad q (g q))[k]? = some v) (hdg : decode cc pc = .ok (.getfield index, 3)) (kk : W p l e R s m args below meth c H locs cells slots Q (F0 m (pc + 3) ls (v :: rest))) : W p l e R s m args below meth c H locs cells slots Q (F0 m pc ls (.ref (ad q) :: rest)) :=
  fl_get (ci := 3) hexec hb hts hin hown hK hP q (mc_lt hk (by decide)) (mc_sh3 hk) rfl k hkN hlink hv hdg kk
theorem mc_put3 (hexec : p.tables.exec = Jvm.exec) (hb : c.code = cc) {own : String} {index : Nat} {Ts : List Cond} (hts : ∀ w ∈ Ts, w.before args s = true) (hin : ∀ w ∈ u_ws "MeshedSpans$Blocks" mc_T3 3, w ∈ Ts) (hown : s.vm.findClass own = some m.cls) (hK : va_K D al_cl (mc_ty ca) s) (hP : va_P D al_cl (fl_ws 32 (mc_sh ca ad) ad g) H) (hI : fl_inj 32 ad) (hS : va_S (fl_A 32 ad) H0 H locs) {q : Nat} (hk : mc_kd q = 3) (k : Nat) (hkN : k < 3) (hlink : (Cond.fieldLink own index (mc_T3 k).1 (mc_T3 k).2.1 (mc_T3 k).2.2.1).before args s = true) {iv : Int32} (hfin : (mc_T3 k).2.2.2 = false) (hd : parseFieldDescriptor (mc_T3 k).2.2.1 = some .int) (hset : mc_fs3 ad q (upd (g q) k iv) = (mc_fs3 ad q (g q)).set k (.int iv)) (hdg : decode cc pc = .ok (.putfield index, 3)) (kk : ∀ (H1 : Heap) (locs1 : List Loc), va_P D al_cl (fl_ws 32 (mc_sh ca ad) ad (fl_up g q k iv)) H1 → va_S (fl_A 32 ad) H0 H1 locs1 → W p l e R s m args below meth c H1 locs1 cells slots Q (F0 m (pc + 3) ls rest)) : W p l e R s m args below meth c H locs cells slots Q (F0 m pc ls (.int iv :: .ref (ad q) :: rest)) :=
  fl_put (ci := 3) hexec hb hts hin mc_t3 mc_tok3 mc_nm3 hown hK hP hI hS q (mc_lt hk (by decide)) (mc_sh3 hk) rfl k hkN hlink hfin hd rfl rfl (show k < 3 from hkN) (upd (g q) k iv) (by rw [mc_sh3 hk, hset]) hdg kk
theorem mc_getN3 (hexec : p.tables.exec = Jvm.exec) (hb : c.code = cc) {own host : String} {index : Nat} {Ts : List Cond} (hts : ∀ w ∈ Ts, w.before args s = true) (hin : ∀ w ∈ u_ws "MeshedSpans$Blocks" mc_T3 3, w ∈ Ts) (hown : s.vm.findClass own = some m.cls) (hK : va_K D al_cl (mc_ty ca) s) (hP : va_P D al_cl (fl_ws 32 (mc_sh ca ad) ad g) H) {q : Nat} (hk : mc_kd q = 3) (k : Nat) (hkN : k < 3) (hlink : (Cond.fieldLinkNest own index (mc_T3 k).1 (mc_T3 k).2.1 (mc_T3 k).2.2.1 host).before args s = true) {v : Value} (hv : (mc_fs3 ad q (g q))[k]? = some v) (hdg : decode cc pc = .ok (.getfield index, 3)) (kk : W p l e R s m args below meth c H locs cells slots Q (F0 m (pc + 3) ls (v :: rest))) : W p l e R s m args below meth c H locs cells slots Q (F0 m pc ls (.ref (ad q) :: rest)) :=
  fl_getN (ci := 3) hexec hb hts hin hown hK hP q (mc_lt hk (by decide)) (mc_sh3 hk) rfl k hkN hlink hv hdg kk
theorem mc_putN3 (hexec : p.tables.exec = Jvm.exec) (hb : c.code = cc) {own host : String} {index : Nat} {Ts : List Cond} (hts : ∀ w ∈ Ts, w.before args s = true) (hin : ∀ w ∈ u_ws "MeshedSpans$Blocks" mc_T3 3, w ∈ Ts) (hown : s.vm.findClass own = some m.cls) (hK : va_K D al_cl (mc_ty ca) s) (hP : va_P D al_cl (fl_ws 32 (mc_sh ca ad) ad g) H) (hI : fl_inj 32 ad) (hS : va_S (fl_A 32 ad) H0 H locs) {q : Nat} (hk : mc_kd q = 3) (k : Nat) (hkN : k < 3) (hlink : (Cond.fieldLinkNest own index (mc_T3 k).1 (mc_T3 k).2.1 (mc_T3 k).2.2.1 host).before args s = true) {iv : Int32} (hfin : (mc_T3 k).2.2.2 = false) (hd : parseFieldDescriptor (mc_T3 k).2.2.1 = some .int) (hset : mc_fs3 ad q (upd (g q) k iv) = (mc_fs3 ad q (g q)).set k (.int iv)) (hdg : decode cc pc = .ok (.putfield index, 3)) (kk : ∀ (H1 : Heap) (locs1 : List Loc), va_P D al_cl (fl_ws 32 (mc_sh ca ad) ad (fl_up g q k iv)) H1 → va_S (fl_A 32 ad) H0 H1 locs1 → W p l e R s m args below meth c H1 locs1 cells slots Q (F0 m (pc + 3) ls rest)) : W p l e R s m args below meth c H locs cells slots Q (F0 m pc ls (.int iv :: .ref (ad q) :: rest)) :=
  fl_putN (ci := 3) hexec hb hts hin mc_t3 mc_tok3 mc_nm3 hown hK hP hI hS q (mc_lt hk (by decide)) (mc_sh3 hk) rfl k hkN hlink hfin hd rfl rfl (show k < 3 from hkN) (upd (g q) k iv) (by rw [mc_sh3 hk, hset]) hdg kk
theorem mc_get4 (hexec : p.tables.exec = Jvm.exec) (hb : c.code = cc) {own : String} {index : Nat} {Ts : List Cond} (hts : ∀ w ∈ Ts, w.before args s = true) (hin : ∀ w ∈ u_ws "MeshedSpans$Miniheap" mc_T4 5, w ∈ Ts) (hown : s.vm.findClass own = some m.cls) (hK : va_K D al_cl (mc_ty ca) s) (hP : va_P D al_cl (fl_ws 32 (mc_sh ca ad) ad g) H) {q : Nat} (hk : mc_kd q = 4) (k : Nat) (hkN : k < 5) (hlink : (Cond.fieldLink own index (mc_T4 k).1 (mc_T4 k).2.1 (mc_T4 k).2.2.1).before args s = true) {v : Value} (hv : (mc_fs4 ad q (g q))[k]? = some v) (hdg : decode cc pc = .ok (.getfield index, 3)) (kk : W p l e R s m args below meth c H locs cells slots Q (F0 m (pc + 3) ls (v :: rest))) : W p l e R s m args below meth c H locs cells slots Q (F0 m pc ls (.ref (ad q) :: rest)) :=
  fl_get (ci := 4) hexec hb hts hin hown hK hP q (mc_lt hk (by decide)) (mc_sh4 hk) rfl k hkN hlink hv hdg kk
theorem mc_put4 (hexec : p.tables.exec = Jvm.exec) (hb : c.code = cc) {own : String} {index : Nat} {Ts : List Cond} (hts : ∀ w ∈ Ts, w.before args s = true) (hin : ∀ w ∈ u_ws "MeshedSpans$Miniheap" mc_T4 5, w ∈ Ts) (hown : s.vm.findClass own = some m.cls) (hK : va_K D al_cl (mc_ty ca) s) (hP : va_P D al_cl (fl_ws 32 (mc_sh ca ad) ad g) H) (hI : fl_inj 32 ad) (hS : va_S (fl_A 32 ad) H0 H locs) {q : Nat} (hk : mc_kd q = 4) (k : Nat) (hkN : k < 5) (hlink : (Cond.fieldLink own index (mc_T4 k).1 (mc_T4 k).2.1 (mc_T4 k).2.2.1).before args s = true) {iv : Int32} (hfin : (mc_T4 k).2.2.2 = false) (hd : parseFieldDescriptor (mc_T4 k).2.2.1 = some .int) (hset : mc_fs4 ad q (upd (g q) k iv) = (mc_fs4 ad q (g q)).set k (.int iv)) (hdg : decode cc pc = .ok (.putfield index, 3)) (kk : ∀ (H1 : Heap) (locs1 : List Loc), va_P D al_cl (fl_ws 32 (mc_sh ca ad) ad (fl_up g q k iv)) H1 → va_S (fl_A 32 ad) H0 H1 locs1 → W p l e R s m args below meth c H1 locs1 cells slots Q (F0 m (pc + 3) ls rest)) : W p l e R s m args below meth c H locs cells slots Q (F0 m pc ls (.int iv :: .ref (ad q) :: rest)) :=
  fl_put (ci := 4) hexec hb hts hin mc_t4 mc_tok4 mc_nm4 hown hK hP hI hS q (mc_lt hk (by decide)) (mc_sh4 hk) rfl k hkN hlink hfin hd rfl rfl (show k < 5 from hkN) (upd (g q) k iv) (by rw [mc_sh4 hk, hset]) hdg kk
theorem mc_getN4 (hexec : p.tables.exec = Jvm.exec) (hb : c.code = cc) {own host : String} {index : Nat} {Ts : List Cond} (hts : ∀ w ∈ Ts, w.before args s = true) (hin : ∀ w ∈ u_ws "MeshedSpans$Miniheap" mc_T4 5, w ∈ Ts) (hown : s.vm.findClass own = some m.cls) (hK : va_K D al_cl (mc_ty ca) s) (hP : va_P D al_cl (fl_ws 32 (mc_sh ca ad) ad g) H) {q : Nat} (hk : mc_kd q = 4) (k : Nat) (hkN : k < 5) (hlink : (Cond.fieldLinkNest own index (mc_T4 k).1 (mc_T4 k).2.1 (mc_T4 k).2.2.1 host).before args s = true) {v : Value} (hv : (mc_fs4 ad q (g q))[k]? = some v) (hdg : decode cc pc = .ok (.getfield index, 3)) (kk : W p l e R s m args below meth c H locs cells slots Q (F0 m (pc + 3) ls (v :: rest))) : W p l e R s m args below meth c H locs cells slots Q (F0 m pc ls (.ref (ad q) :: rest)) :=
  fl_getN (ci := 4) hexec hb hts hin hown hK hP q (mc_lt hk (by decide)) (mc_sh4 hk) rfl k hkN hlink hv hdg kk
theorem mc_putN4 (hexec : p.tables.exec = Jvm.exec) (hb : c.code = cc) {own host : String} {index : Nat} {Ts : List Cond} (hts : ∀ w ∈ Ts, w.before args s = true) (hin : ∀ w ∈ u_ws "MeshedSpans$Miniheap" mc_T4 5, w ∈ Ts) (hown : s.vm.findClass own = some m.cls) (hK : va_K D al_cl (mc_ty ca) s) (hP : va_P D al_cl (fl_ws 32 (mc_sh ca ad) ad g) H) (hI : fl_inj 32 ad) (hS : va_S (fl_A 32 ad) H0 H locs) {q : Nat} (hk : mc_kd q = 4) (k : Nat) (hkN : k < 5) (hlink : (Cond.fieldLinkNest own index (mc_T4 k).1 (mc_T4 k).2.1 (mc_T4 k).2.2.1 host).before args s = true) {iv : Int32} (hfin : (mc_T4 k).2.2.2 = false) (hd : parseFieldDescriptor (mc_T4 k).2.2.1 = some .int) (hset : mc_fs4 ad q (upd (g q) k iv) = (mc_fs4 ad q (g q)).set k (.int iv)) (hdg : decode cc pc = .ok (.putfield index, 3)) (kk : ∀ (H1 : Heap) (locs1 : List Loc), va_P D al_cl (fl_ws 32 (mc_sh ca ad) ad (fl_up g q k iv)) H1 → va_S (fl_A 32 ad) H0 H1 locs1 → W p l e R s m args below meth c H1 locs1 cells slots Q (F0 m (pc + 3) ls rest)) : W p l e R s m args below meth c H locs cells slots Q (F0 m pc ls (.int iv :: .ref (ad q) :: rest)) :=
  fl_putN (ci := 4) hexec hb hts hin mc_t4 mc_tok4 mc_nm4 hown hK hP hI hS q (mc_lt hk (by decide)) (mc_sh4 hk) rfl k hkN hlink hfin hd rfl rfl (show k < 5 from hkN) (upd (g q) k iv) (by rw [mc_sh4 hk, hset]) hdg kk
theorem mc_get5 (hexec : p.tables.exec = Jvm.exec) (hb : c.code = cc) {own : String} {index : Nat} {Ts : List Cond} (hts : ∀ w ∈ Ts, w.before args s = true) (hin : ∀ w ∈ u_ws "MeshedSpans$Attachment" mc_T5 3, w ∈ Ts) (hown : s.vm.findClass own = some m.cls) (hK : va_K D al_cl (mc_ty ca) s) (hP : va_P D al_cl (fl_ws 32 (mc_sh ca ad) ad g) H) {q : Nat} (hk : mc_kd q = 5) (k : Nat) (hkN : k < 3) (hlink : (Cond.fieldLink own index (mc_T5 k).1 (mc_T5 k).2.1 (mc_T5 k).2.2.1).before args s = true) {v : Value} (hv : (mc_fs5 ad q (g q))[k]? = some v) (hdg : decode cc pc = .ok (.getfield index, 3)) (kk : W p l e R s m args below meth c H locs cells slots Q (F0 m (pc + 3) ls (v :: rest))) : W p l e R s m args below meth c H locs cells slots Q (F0 m pc ls (.ref (ad q) :: rest)) :=
  fl_get (ci := 5) hexec hb hts hin hown hK hP q (mc_lt hk (by decide)) (mc_sh5 hk) rfl k hkN hlink hv hdg kk
theorem mc_put5 (hexec : p.tables.exec = Jvm.exec) (hb : c.code = cc) {own : String} {index : Nat} {Ts : List Cond} (hts : ∀ w ∈ Ts, w.before args s = true) (hin : ∀ w ∈ u_ws "MeshedSpans$Attachment" mc_T5 3, w ∈ Ts) (hown : s.vm.findClass own = some m.cls) (hK : va_K D al_cl (mc_ty ca) s) (hP : va_P D al_cl (fl_ws 32 (mc_sh ca ad) ad g) H) (hI : fl_inj 32 ad) (hS : va_S (fl_A 32 ad) H0 H locs) {q : Nat} (hk : mc_kd q = 5) (k : Nat) (hkN : k < 3) (hlink : (Cond.fieldLink own index (mc_T5 k).1 (mc_T5 k).2.1 (mc_T5 k).2.2.1).before args s = true) {iv : Int32} (hfin : (mc_T5 k).2.2.2 = false) (hd : parseFieldDescriptor (mc_T5 k).2.2.1 = some .int) (hset : mc_fs5 ad q (upd (g q) k iv) = (mc_fs5 ad q (g q)).set k (.int iv)) (hdg : decode cc pc = .ok (.putfield index, 3)) (kk : ∀ (H1 : Heap) (locs1 : List Loc), va_P D al_cl (fl_ws 32 (mc_sh ca ad) ad (fl_up g q k iv)) H1 → va_S (fl_A 32 ad) H0 H1 locs1 → W p l e R s m args below meth c H1 locs1 cells slots Q (F0 m (pc + 3) ls rest)) : W p l e R s m args below meth c H locs cells slots Q (F0 m pc ls (.int iv :: .ref (ad q) :: rest)) :=
  fl_put (ci := 5) hexec hb hts hin mc_t5 mc_tok5 mc_nm5 hown hK hP hI hS q (mc_lt hk (by decide)) (mc_sh5 hk) rfl k hkN hlink hfin hd rfl rfl (show k < 3 from hkN) (upd (g q) k iv) (by rw [mc_sh5 hk, hset]) hdg kk
theorem mc_put5r (hexec : p.tables.exec = Jvm.exec) (hb : c.code = cc) {own : String} {index : Nat} {Ts : List Cond} (hts : ∀ w ∈ Ts, w.before args s = true) (hin : ∀ w ∈ u_ws "MeshedSpans$Attachment" mc_T5 3, w ∈ Ts) (hown : s.vm.findClass own = some m.cls) (hK : va_K D al_cl (mc_ty ca) s) (hP : va_P D al_cl (fl_ws 32 (mc_sh ca ad) ad g) H) (hI : fl_inj 32 ad) (hS : va_S (fl_A 32 ad) H0 H locs) {q q2 : Nat} {iv : Int32} (hk : mc_kd q = 5) (hiv : fl_rf iv = some q2) (hlink : (Cond.fieldLink own index (mc_T5 0).1 (mc_T5 0).2.1 (mc_T5 0).2.2.1).before args s = true) (hdg : decode cc pc = .ok (.putfield index, 3)) (kk : ∀ (H1 : Heap) (locs1 : List Loc), va_P D al_cl (fl_ws 32 (mc_sh ca ad) ad (fl_up g q 0 iv)) H1 → va_S (fl_A 32 ad) H0 H1 locs1 → W p l e R s m args below meth c H1 locs1 cells slots Q (F0 m (pc + 3) ls rest)) : W p l e R s m args below meth c H locs cells slots Q (F0 m pc ls (.ref (ad q2) :: .ref (ad q) :: rest)) := by
  have e : (Value.ref (ad q2)) = va_rf (Option.map ad (fl_rf iv)) := by rw [hiv]; rfl
  rw [e]
  exact fl_put (ci := 5) (ty := .object "MeshedSpans$Miniheap") hexec hb hts hin mc_t5 mc_tok5 mc_nm5 hown hK hP hI hS q (mc_lt hk (by decide)) (mc_sh5 hk) rfl 0 (by decide) hlink rfl (by decide +kernel) (by rw [hiv]; rfl) (by rw [hiv]; rfl) (show 0 < 3 by decide) (upd (g q) 0 iv) (by rw [mc_sh5 hk]; rfl) hdg kk
theorem mc_getN5 (hexec : p.tables.exec = Jvm.exec) (hb : c.code = cc) {own host : String} {index : Nat} {Ts : List Cond} (hts : ∀ w ∈ Ts, w.before args s = true) (hin : ∀ w ∈ u_ws "MeshedSpans$Attachment" mc_T5 3, w ∈ Ts) (hown : s.vm.findClass own = some m.cls) (hK : va_K D al_cl (mc_ty ca) s) (hP : va_P D al_cl (fl_ws 32 (mc_sh ca ad) ad g) H) {q : Nat} (hk : mc_kd q = 5) (k : Nat) (hkN : k < 3) (hlink : (Cond.fieldLinkNest own index (mc_T5 k).1 (mc_T5 k).2.1 (mc_T5 k).2.2.1 host).before args s = true) {v : Value} (hv : (mc_fs5 ad q (g q))[k]? = some v) (hdg : decode cc pc = .ok (.getfield index, 3)) (kk : W p l e R s m args below meth c H locs cells slots Q (F0 m (pc + 3) ls (v :: rest))) : W p l e R s m args below meth c H locs cells slots Q (F0 m pc ls (.ref (ad q) :: rest)) :=
  fl_getN (ci := 5) hexec hb hts hin hown hK hP q (mc_lt hk (by decide)) (mc_sh5 hk) rfl k hkN hlink hv hdg kk
theorem mc_putN5 (hexec : p.tables.exec = Jvm.exec) (hb : c.code = cc) {own host : String} {index : Nat} {Ts : List Cond} (hts : ∀ w ∈ Ts, w.before args s = true) (hin : ∀ w ∈ u_ws "MeshedSpans$Attachment" mc_T5 3, w ∈ Ts) (hown : s.vm.findClass own = some m.cls) (hK : va_K D al_cl (mc_ty ca) s) (hP : va_P D al_cl (fl_ws 32 (mc_sh ca ad) ad g) H) (hI : fl_inj 32 ad) (hS : va_S (fl_A 32 ad) H0 H locs) {q : Nat} (hk : mc_kd q = 5) (k : Nat) (hkN : k < 3) (hlink : (Cond.fieldLinkNest own index (mc_T5 k).1 (mc_T5 k).2.1 (mc_T5 k).2.2.1 host).before args s = true) {iv : Int32} (hfin : (mc_T5 k).2.2.2 = false) (hd : parseFieldDescriptor (mc_T5 k).2.2.1 = some .int) (hset : mc_fs5 ad q (upd (g q) k iv) = (mc_fs5 ad q (g q)).set k (.int iv)) (hdg : decode cc pc = .ok (.putfield index, 3)) (kk : ∀ (H1 : Heap) (locs1 : List Loc), va_P D al_cl (fl_ws 32 (mc_sh ca ad) ad (fl_up g q k iv)) H1 → va_S (fl_A 32 ad) H0 H1 locs1 → W p l e R s m args below meth c H1 locs1 cells slots Q (F0 m (pc + 3) ls rest)) : W p l e R s m args below meth c H locs cells slots Q (F0 m pc ls (.int iv :: .ref (ad q) :: rest)) :=
  fl_putN (ci := 5) hexec hb hts hin mc_t5 mc_tok5 mc_nm5 hown hK hP hI hS q (mc_lt hk (by decide)) (mc_sh5 hk) rfl k hkN hlink hfin hd rfl rfl (show k < 3 from hkN) (upd (g q) k iv) (by rw [mc_sh5 hk, hset]) hdg kk
theorem mc_putN5r (hexec : p.tables.exec = Jvm.exec) (hb : c.code = cc) {own host : String} {index : Nat} {Ts : List Cond} (hts : ∀ w ∈ Ts, w.before args s = true) (hin : ∀ w ∈ u_ws "MeshedSpans$Attachment" mc_T5 3, w ∈ Ts) (hown : s.vm.findClass own = some m.cls) (hK : va_K D al_cl (mc_ty ca) s) (hP : va_P D al_cl (fl_ws 32 (mc_sh ca ad) ad g) H) (hI : fl_inj 32 ad) (hS : va_S (fl_A 32 ad) H0 H locs) {q q2 : Nat} {iv : Int32} (hk : mc_kd q = 5) (hiv : fl_rf iv = some q2) (hlink : (Cond.fieldLinkNest own index (mc_T5 0).1 (mc_T5 0).2.1 (mc_T5 0).2.2.1 host).before args s = true) (hdg : decode cc pc = .ok (.putfield index, 3)) (kk : ∀ (H1 : Heap) (locs1 : List Loc), va_P D al_cl (fl_ws 32 (mc_sh ca ad) ad (fl_up g q 0 iv)) H1 → va_S (fl_A 32 ad) H0 H1 locs1 → W p l e R s m args below meth c H1 locs1 cells slots Q (F0 m (pc + 3) ls rest)) : W p l e R s m args below meth c H locs cells slots Q (F0 m pc ls (.ref (ad q2) :: .ref (ad q) :: rest)) := by
  have e : (Value.ref (ad q2)) = va_rf (Option.map ad (fl_rf iv)) := by rw [hiv]; rfl
  rw [e]
  exact fl_putN (ci := 5) (ty := .object "MeshedSpans$Miniheap") hexec hb hts hin mc_t5 mc_tok5 mc_nm5 hown hK hP hI hS q (mc_lt hk (by decide)) (mc_sh5 hk) rfl 0 (by decide) hlink rfl (by decide +kernel) (by rw [hiv]; rfl) (by rw [hiv]; rfl) (show 0 < 3 by decide) (upd (g q) 0 iv) (by rw [mc_sh5 hk]; rfl) hdg kk
theorem mc_iald (hexec : p.tables.exec = Jvm.exec) (hb : c.code = cc) (hK : va_K D al_cl (mc_ty ca) s) (hP : va_P D al_cl (fl_ws 32 (mc_sh ca ad) ad g) H) {q : Nat} (hk : mc_kd q = 10) {i : Int32} (hi : fl_in i (mc_ln q)) (hdg : decode cc pc = .ok (.iaload, 1)) (kk : W p l e R s m args below meth c H locs cells slots Q (F0 m (pc + 1) ls (.int (g q i.toNatClampNeg) :: rest))) : W p l e R s m args below meth c H locs cells slots Q (F0 m pc ls (.int i :: .ref (ad q) :: rest)) :=
  fl_iald hexec hb hK hP q (mc_lt hk (by decide)) q (mc_sh10 hk) (mc_ty_at hk (by decide)) hi hdg kk
theorem mc_iast (hexec : p.tables.exec = Jvm.exec) (hb : c.code = cc) (hK : va_K D al_cl (mc_ty ca) s) (hP : va_P D al_cl (fl_ws 32 (mc_sh ca ad) ad g) H) (hI : fl_inj 32 ad) (hS : va_S (fl_A 32 ad) H0 H locs) {q : Nat} (hk : mc_kd q = 10) {i x : Int32} (hi : fl_in i (mc_ln q)) (hdg : decode cc pc = .ok (.iastore, 1)) (kk : ∀ (H1 : Heap) (locs1 : List Loc), va_P D al_cl (fl_ws 32 (mc_sh ca ad) ad (fl_up g q i.toNatClampNeg x)) H1 → va_S (fl_A 32 ad) H0 H1 locs1 → W p l e R s m args below meth c H1 locs1 cells slots Q (F0 m (pc + 1) ls rest)) : W p l e R s m args below meth c H locs cells slots Q (F0 m pc ls (.int x :: .int i :: .ref (ad q) :: rest)) :=
  fl_iast hexec hb hK hP hI hS q (mc_lt hk (by decide)) q (fun _ => mc_sh10 hk) (mc_ty_at hk (by decide)) hi hdg kk
theorem mc_alen10 (hexec : p.tables.exec = Jvm.exec) (hb : c.code = cc) (hK : va_K D al_cl (mc_ty ca) s) (hP : va_P D al_cl (fl_ws 32 (mc_sh ca ad) ad g) H) {q : Nat} (hk : mc_kd q = 10) {v : Int32} (hv : Int32.ofNat (mc_ln q) = v) (hdg : decode cc pc = .ok (.arraylength, 1)) (kk : W p l e R s m args below meth c H locs cells slots Q (F0 m (pc + 1) ls (.int v :: rest))) : W p l e R s m args below meth c H locs cells slots Q (F0 m pc ls (.ref (ad q) :: rest)) :=
  fl_alen hexec hb hK hP q (mc_lt hk (by decide)) q (mc_sh10 hk) (mc_ty_at hk (by decide)) hv hdg kk
theorem mc_zald (hexec : p.tables.exec = Jvm.exec) (hb : c.code = cc) (hK : va_K D al_cl (mc_ty ca) s) (hP : va_P D al_cl (fl_ws 32 (mc_sh ca ad) ad g) H) {q : Nat} (hk : mc_kd q = 11) {i : Int32} (hi : fl_in i (mc_ln q)) (hdg : decode cc pc = .ok (.baload, 1)) (kk : W p l e R s m args below meth c H locs cells slots Q (F0 m (pc + 1) ls (.int (g q i.toNatClampNeg) :: rest))) : W p l e R s m args below meth c H locs cells slots Q (F0 m pc ls (.int i :: .ref (ad q) :: rest)) :=
  fl_zald hexec hb hK hP q (mc_lt hk (by decide)) q (mc_sh11 hk) (mc_ty_at hk (by decide)) hi hdg kk
theorem mc_zast (hexec : p.tables.exec = Jvm.exec) (hb : c.code = cc) (hK : va_K D al_cl (mc_ty ca) s) (hP : va_P D al_cl (fl_ws 32 (mc_sh ca ad) ad g) H) (hI : fl_inj 32 ad) (hS : va_S (fl_A 32 ad) H0 H locs) {q : Nat} (hk : mc_kd q = 11) {i x : Int32} (hi : fl_in i (mc_ln q)) (hdg : decode cc pc = .ok (.bastore, 1)) (kk : ∀ (H1 : Heap) (locs1 : List Loc), va_P D al_cl (fl_ws 32 (mc_sh ca ad) ad (fl_up g q i.toNatClampNeg (x &&& 1))) H1 → va_S (fl_A 32 ad) H0 H1 locs1 → W p l e R s m args below meth c H1 locs1 cells slots Q (F0 m (pc + 1) ls rest)) : W p l e R s m args below meth c H locs cells slots Q (F0 m pc ls (.int x :: .int i :: .ref (ad q) :: rest)) :=
  fl_zast hexec hb hK hP hI hS q (mc_lt hk (by decide)) q (fun _ => mc_sh11 hk) (mc_ty_at hk (by decide)) hi hdg kk
theorem mc_alen11 (hexec : p.tables.exec = Jvm.exec) (hb : c.code = cc) (hK : va_K D al_cl (mc_ty ca) s) (hP : va_P D al_cl (fl_ws 32 (mc_sh ca ad) ad g) H) {q : Nat} (hk : mc_kd q = 11) {v : Int32} (hv : Int32.ofNat (mc_ln q) = v) (hdg : decode cc pc = .ok (.arraylength, 1)) (kk : W p l e R s m args below meth c H locs cells slots Q (F0 m (pc + 1) ls (.int v :: rest))) : W p l e R s m args below meth c H locs cells slots Q (F0 m pc ls (.ref (ad q) :: rest)) :=
  fl_alen hexec hb hK hP q (mc_lt hk (by decide)) q (mc_sh11 hk) (mc_ty_at hk (by decide)) hv hdg kk
theorem mc_aald12 (hexec : p.tables.exec = Jvm.exec) (hb : c.code = cc) (hK : va_K D al_cl (mc_ty ca) s) (hP : va_P D al_cl (fl_ws 32 (mc_sh ca ad) ad g) H) {i : Int32} (hi : fl_in i 12) (hdg : decode cc pc = .ok (.aaload, 1)) (kk : W p l e R s m args below meth c H locs cells slots Q (F0 m (pc + 1) ls (.ref (ad (10 + i.toNatClampNeg)) :: rest))) : W p l e R s m args below meth c H locs cells slots Q (F0 m pc ls (.int i :: .ref (ad 9) :: rest)) :=
  fl_aald hexec hb hK hP 9 (by decide) 9 (mc_sh12 rfl) (mc_ty_at (K := 12) rfl (by decide)) hi rfl hdg kk
theorem mc_alen12 (hexec : p.tables.exec = Jvm.exec) (hb : c.code = cc) (hK : va_K D al_cl (mc_ty ca) s) (hP : va_P D al_cl (fl_ws 32 (mc_sh ca ad) ad g) H) {q : Nat} (hk : mc_kd q = 12) {v : Int32} (hv : Int32.ofNat (mc_ln q) = v) (hdg : decode cc pc = .ok (.arraylength, 1)) (kk : W p l e R s m args below meth c H locs cells slots Q (F0 m (pc + 1) ls (.int v :: rest))) : W p l e R s m args below meth c H locs cells slots Q (F0 m pc ls (.ref (ad q) :: rest)) :=
  fl_alen hexec hb hK hP q (mc_lt hk (by decide)) q (mc_sh12 hk) (mc_ty_at hk (by decide)) hv hdg kk
theorem mc_aald13 (hexec : p.tables.exec = Jvm.exec) (hb : c.code = cc) (hK : va_K D al_cl (mc_ty ca) s) (hP : va_P D al_cl (fl_ws 32 (mc_sh ca ad) ad g) H) {i : Int32} (hi : fl_in i 4) (hdg : decode cc pc = .ok (.aaload, 1)) (kk : W p l e R s m args below meth c H locs cells slots Q (F0 m (pc + 1) ls (.ref (ad (23 + 2 * i.toNatClampNeg)) :: rest))) : W p l e R s m args below meth c H locs cells slots Q (F0 m pc ls (.int i :: .ref (ad 22) :: rest)) :=
  fl_aald hexec hb hK hP 22 (by decide) 22 (mc_sh13 rfl) (mc_ty_at (K := 13) rfl (by decide)) hi rfl hdg kk
theorem mc_alen13 (hexec : p.tables.exec = Jvm.exec) (hb : c.code = cc) (hK : va_K D al_cl (mc_ty ca) s) (hP : va_P D al_cl (fl_ws 32 (mc_sh ca ad) ad g) H) {q : Nat} (hk : mc_kd q = 13) {v : Int32} (hv : Int32.ofNat (mc_ln q) = v) (hdg : decode cc pc = .ok (.arraylength, 1)) (kk : W p l e R s m args below meth c H locs cells slots Q (F0 m (pc + 1) ls (.int v :: rest))) : W p l e R s m args below meth c H locs cells slots Q (F0 m pc ls (.ref (ad q) :: rest)) :=
  fl_alen hexec hb hK hP q (mc_lt hk (by decide)) q (mc_sh13 hk) (mc_ty_at hk (by decide)) hv hdg kk
theorem mc_cpi (hexec : p.tables.exec = Jvm.exec) (hb : c.code = cc) (hml : c.maxLocals = ls.size) {own : String} {index : Nat} (hown : s.vm.findClass own = some m.cls) (hlink : (Cond.methodLink own index arraycopyName).before args s = true) (hnat : (Cond.native arraycopyName).before args s = true) (hstat : (Cond.static arraycopyName).before args s = true) (hini : (Cond.initialized "java/lang/System").before args s = true) (hK : va_K D al_cl (mc_ty ca) s) (hP : va_P D al_cl (fl_ws 32 (mc_sh ca ad) ad g) H) (hI : fl_inj 32 ad) (hS : va_S (fl_A 32 ad) H0 H locs) {q0 q1 : Nat} (hk0 : mc_kd q0 = 10) (hk1 : mc_kd q1 = 10) {sp dp n2 : Int32} (hc : (0 ≤ sp ∧ 0 ≤ dp ∧ 0 ≤ n2) ∧ sp.toNatClampNeg + n2.toNatClampNeg ≤ mc_ln q0 ∧ dp.toNatClampNeg + n2.toNatClampNeg ≤ mc_ln q1) (hframes : 1 ≤ R.frames) (hlocals : (rest.map fun v => v.category).sum + (nativeFrameWords "java/lang/System" "arraycopy" 5 + 11) ≤ R.locals) (hdg : decode cc pc = .ok (.invokestatic index, 3)) (kk : ∀ (H1 : Heap) (locs1 : List Loc), va_P D al_cl (fl_ws 32 (mc_sh ca ad) ad (fl_st g q1 (va_cpy (g q0) (g q1) sp.toNatClampNeg dp.toNatClampNeg n2.toNatClampNeg))) H1 → va_S (fl_A 32 ad) H0 H1 locs1 → W p l e R s m args below meth c H1 locs1 cells slots Q (F0 m (pc + 3) ls rest)) : W p l e R s m args below meth c H locs cells slots Q (F0 m pc ls (.int n2 :: .int dp :: .ref (ad q1) :: .int sp :: .ref (ad q0) :: rest)) :=
  fl_cpi hexec hb hml hown hlink hnat hstat hini hK hP hI hS q0 q1 (mc_lt hk0 (by decide)) (mc_lt hk1 (by decide)) q0 q1 (fun _ => mc_sh10 hk0) (fun _ => mc_sh10 hk1) (mc_ty_at hk0 (by decide)) (mc_ty_at hk1 (by decide)) hc hframes hlocals hdg kk
end MC

