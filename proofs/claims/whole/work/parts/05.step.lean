/-! One step: what a row of code must be, and that the JVM goes where the small machine goes. -/
def x_CallS (Ts Nw : List Cond) (own : String) (idx : Nat) (y : MethodName) (bytes : ByteArray) (maxL : Nat) (ret : Option FieldType) (n : Nat) : Prop :=
  ∀ (p : Program) (l : Launch) (e : Env) (R : Room) (s : State) (m : MethodId) (args : Array Value) (below : List Frame) (meth : Method) (c : Code) (H : Heap) (locs : List Loc) (cells slots : Nat) (cc : ByteArray) (nL : Nat) (rm : Room) (Pc : Array Value → State → Prop) (Qc : Array Value → State → Outcome → State → Prop) (mc ms : Nat) (free : Addr → Prop) (As rest : List Value) (g : JFrame),
    CallFix p m c cc nL s args Ts own → (∀ w ∈ Nw, va_Nw w s) → Met l y (Cond.code y bytes maxL ret :: Ts) rm Pc Qc mc ms free → rm.cells = mc → rm.slots = ms → rm.frames + 1 ≤ R.frames → 8 + (maxL + 11) + rm.locals ≤ R.locals → PreS s H Pc As →
    g.method = m → As.length = n → g.locals.size = nL → g.stack = As.reverse ++ rest → 2 * g.monitorRoom + (rest.map fun v => v.category).sum ≤ 8 → decode cc g.pc = .ok (.invokestatic idx, 3) → cells + mc ≤ R.cells ∧ slots + ms ≤ R.slots →
    va_Run p l e R s m args below meth c H locs cells slots mc ms g rest (Qc As.toArray) free
def x_CallI (Ts Nw : List Cond) (own : String) (idx : Nat) (y : MethodName) (bytes : ByteArray) (maxL : Nat) (n : Nat) : Prop :=
  ∀ (p : Program) (l : Launch) (e : Env) (R : Room) (s : State) (m : MethodId) (args : Array Value) (below : List Frame) (meth : Method) (c : Code) (H : Heap) (locs : List Loc) (cells slots : Nat) (cc : ByteArray) (nL : Nat) (rm : Room) (Pc : Array Value → State → Prop) (Qc : Array Value → State → Outcome → State → Prop) (mc ms : Nat) (free : Addr → Prop) (b : Nat) (As rest : List Value) (g : JFrame),
    CallFix p m c cc nL s args Ts own → (∀ w ∈ Nw, va_Nw w s) → Met l y (Cond.code y bytes maxL none :: Ts) rm Pc Qc mc ms free → rm.cells = mc → rm.slots = ms → rm.frames + 1 ≤ R.frames → 8 + (maxL + 11) + rm.locals ≤ R.locals → PreS s H Pc (.ref b :: As) →
    g.method = m → As.length + 1 = n → g.locals.size = nL → g.stack = As.reverse ++ .ref b :: rest → 2 * g.monitorRoom + (rest.map fun v => v.category).sum ≤ 8 → decode cc g.pc = .ok (.invokespecial idx, 3) → cells + mc ≤ R.cells ∧ slots + ms ≤ R.slots →
    va_Run p l e R s m args below meth c H locs cells slots mc ms g rest (Qc (Value.ref b :: As).toArray) free
def x_CallV (Ts Nw : List Cond) (own : String) (idx : Nat) (C : String) (y : MethodName) (bytes : ByteArray) (maxL : Nat) (ret : Option FieldType) (n : Nat) : Prop :=
  ∀ (p : Program) (l : Launch) (e : Env) (R : Room) (s : State) (m : MethodId) (args : Array Value) (below : List Frame) (meth : Method) (c : Code) (H : Heap) (locs : List Loc) (cells slots : Nat) (cc : ByteArray) (nL : Nat) (rm : Room) (Pc : Array Value → State → Prop) (Qc : Array Value → State → Outcome → State → Prop) (mc ms : Nat) (free : Addr → Prop) (b : Nat) (As rest : List Value) (g : JFrame),
    CallFix p m c cc nL s args Ts own → (∀ w ∈ Nw, va_Nw w s) → Met l y (Cond.code y bytes maxL ret :: Ts) rm Pc Qc mc ms free → rm.cells = mc → rm.slots = ms → rm.frames + 1 ≤ R.frames → 8 + (maxL + 11) + rm.locals ≤ R.locals → PreV s H C b Pc As →
    g.method = m → As.length + 1 = n → g.locals.size = nL → g.stack = As.reverse ++ .ref b :: rest → 2 * g.monitorRoom + (rest.map fun v => v.category).sum ≤ 8 → decode cc g.pc = .ok (.invokevirtual idx, 3) → cells + mc ≤ R.cells ∧ slots + ms ≤ R.slots →
    va_Run p l e R s m args below meth c H locs cells slots mc ms g rest (Qc (Value.ref b :: As).toArray) free
/-- a call of String.length, of String.charAt, on a text -/
def x_SLen (Ts : List Cond) (own : String) (idx : Nat) : Prop :=
  ∀ (p : Program) (l : Launch) (e : Env) (R : Room) (s : State) (m : MethodId) (args : Array Value) (below : List Frame) (meth : Method) (c : Code) (H : Heap) (locs : List Loc) (cells slots : Nat) (cc : ByteArray) (nL : Nat) (Q : State → Prop) (A : Nat → Prop) (ad adV : Nat → Nat) (pc k : Nat) (ls : Array Slot) (rest : List Value),
    CallFix p m c cc nL s args Ts own → ls.size = nL → vk_S 2 [1, 3] [[112], [99, 110, 102]] ad adV A s s.heap → va_Z "java/lang/String" "COMPACT_STRINGS" "Z" (.int 1) A s s.heap → va_S A s.heap H locs → k < 2 → (rest.map fun v => v.category).sum ≤ 8 → 5 ≤ R.frames → 100 ≤ R.locals → cells ≤ R.cells → slots ≤ R.slots → decode cc pc = .ok (.invokevirtual idx, 3) →
    W p l e R s m args below meth c H locs cells slots Q (F0 m (pc + 3) ls (.int (Int32.ofNat ([1, 3].getD k 0)) :: rest)) → W p l e R s m args below meth c H locs cells slots Q (F0 m pc ls (.ref (ad k) :: rest))
def x_SChr (Ts : List Cond) (own : String) (idx : Nat) : Prop :=
  ∀ (p : Program) (l : Launch) (e : Env) (R : Room) (s : State) (m : MethodId) (args : Array Value) (below : List Frame) (meth : Method) (c : Code) (H : Heap) (locs : List Loc) (cells slots : Nat) (cc : ByteArray) (nL : Nat) (Q : State → Prop) (A : Nat → Prop) (ad adV : Nat → Nat) (pc k : Nat) (i : Int32) (ls : Array Slot) (rest : List Value),
    CallFix p m c cc nL s args Ts own → ls.size = nL → vk_S 2 [1, 3] [[112], [99, 110, 102]] ad adV A s s.heap → va_Z "java/lang/String" "COMPACT_STRINGS" "Z" (.int 1) A s s.heap → va_Zq "jdk/internal/util/Preconditions" "SIOOBE_FORMATTER" "Ljava/util/function/BiFunction;" A s s.heap → va_S A s.heap H locs → k < 2 → vp_in i ([1, 3].getD k 0) → (rest.map fun v => v.category).sum ≤ 8 → 5 ≤ R.frames → 100 ≤ R.locals → cells ≤ R.cells → slots ≤ R.slots → decode cc pc = .ok (.invokevirtual idx, 3) →
    W p l e R s m args below meth c H locs cells slots Q (F0 m (pc + 3) ls (.int (([[112], [99, 110, 102]].getD k []).getD i.toNatClampNeg 0) :: rest)) → W p l e R s m args below meth c H locs cells slots Q (F0 m pc ls (.int i :: .ref (ad k) :: rest))
theorem x_kd_of {a k : Nat} (h : x_kd a k) : ∃ a' ∈ x_al a, k = a' + 3 := by
  unfold x_kd at h
  split at h
  · rcases h with h | h
    · exact ⟨2, by simp [x_al], h⟩
    · exact ⟨3, by simp [x_al], h⟩
  · rename_i hne
    refine ⟨a, ?_, h⟩
    unfold x_al
    split
    · exact absurd rfl hne
    · simp
/-- a method: name, code, locals, return type, own class -/
abbrev xM : Type := MethodName × ByteArray × Nat × Option FieldType × String
/-- what a row must be -/
def x_okr (cl : List vw_C) (ct : Nat → vw_C) (fk : Nat → Nat → Nat) (ty : Nat → Nat → FieldType) (Ts Nw : List Cond) (mt : Nat → xM) (rc : Nat → Nat) (vt : Nat → Nat × Nat × Nat × Nat) (en : Nat → String × String × String) (M : Nat) (r : xR) : Prop :=
  decode (mt M).2.1 r.1 = .ok (r.2.1, r.2.2.1) ∧ match r with
  | (pc, ins, len, a, b, c, v, u) => match ins with
    | .iconst n => len = 1 ∧ Int32.ofInt n = v
    | .bipush n => len = 2 ∧ (Int8.ofInt n).toInt32 = v
    | .sipush n => len = 3 ∧ (Int16.ofInt n).toInt32 = v
    | .ldc i => len = 2 ∧ ((c = 0 ∧ Jvm.Cond.constant (mt M).2.2.2.2 i v ∈ Ts) ∨ (c = 1 ∧ (mt M).2.2.2.2 = "StreamRefuter$Problem" ∧ ((a = 0 ∧ i = 66) ∨ (a = 1 ∧ i = 75))))
    | .lconst n => len = 1 ∧ Int64.ofNat (n : Nat) = u
    | .ldc2_w i => len = 3 ∧ Jvm.Cond.constantLong (mt M).2.2.2.2 i u ∈ Ts
    | .iload _ => len = 2
    | .lload _ => len = 2
    | .aload _ => len = 2
    | .iload_n k => len = 1 ∧ (k : Nat) = a
    | .lload_n k => len = 1 ∧ (k : Nat) = a
    | .aload_n k => len = 1 ∧ (k : Nat) = a
    | .istore i => len = 2 ∧ i < (mt M).2.2.1
    | .astore i => len = 2 ∧ i < (mt M).2.2.1
    | .lstore i => len = 2 ∧ i + 1 < (mt M).2.2.1
    | .istore_n k => len = 1 ∧ (k : Nat) = a ∧ a < (mt M).2.2.1
    | .astore_n k => len = 1 ∧ (k : Nat) = a ∧ a < (mt M).2.2.1
    | .lstore_n k => len = 1 ∧ (k : Nat) = a ∧ a + 1 < (mt M).2.2.1
    | .iinc i n => len = 3 ∧ i < (mt M).2.2.1 ∧ Int32.ofInt n = v
    | .ifCond _ off => len = 3 ∧ (pc : Int) + off = (a : Int)
    | .if_icmp _ off => len = 3 ∧ (pc : Int) + off = (a : Int)
    | .if_acmp _ off => len = 3 ∧ (pc : Int) + off = (a : Int)
    | .goto off => len = 3 ∧ (pc : Int) + off = (a : Int)
    | .tableswitch d _ _ offs => (∃ t : Nat, (pc : Int) + d = (t : Int)) ∧ ∀ (k : Nat) (o : Int), offs[k]? = some o → ∃ t : Nat, (pc : Int) + o = (t : Int)
    | .getfield i => len = 3 ∧ ∀ a' ∈ x_al a, x_cf cl ct fk ty Ts a' ∧ x_fl ct Ts (mt M).2.2.2.2 i a' b ∧ fk a' b = c
    | .putfield i => len = 3 ∧ ∀ a' ∈ x_al a, x_cf cl ct fk ty Ts a' ∧ x_fl ct Ts (mt M).2.2.2.2 i a' b ∧ (((ct a').2.1 b).2.2.2 = false ∨ (((ct a').2.1 b).2.2.2 = true ∧ (mt M).1.name = "<init>" ∧ ((ct a').2.1 b).1 = (mt M).2.2.2.2)) ∧
        ((c = 0 ∧ ty a' b = .int ∧ fk a' b = 0) ∨ (c = 1 ∧ ty a' b = .long ∧ fk a' b = 1) ∨ (c = 2 ∧ fk a' b = 2) ∨ (c = 3 ∧ ty a' b = .boolean ∧ fk a' b = 0))
    | .getstatic i => len = 3 ∧ a < 4 ∧ ∃ ref, Cond.fieldLink (mt M).2.2.2.2 i ref (en a).2.1 (en a).2.2 ∈ Ts ∧ (en a).1 = ref
    | .newarray t => len = 2 ∧ Cond.arrayClass (newarray.typeOf t) ∈ Ts ∧ ((t = .int ∧ a = 0) ∨ (t = .boolean ∧ a = 1) ∨ (t = .long ∧ a = 2))
    | .new i => len = 3 ∧ (c = 0 → x_cf cl ct fk ty Ts a ∧ b = (ct a).2.2 ∧ Cond.classLink (mt M).2.2.2.2 i (ct a).1 ∈ Ts ∧ Cond.instantiable (ct a).1 (ct a).2.2 ∈ Ts ∧ Cond.initialized (ct a).1 ∈ Ts)
    | .invokestatic i => len = 3 ∧ (c = 0 → x_CallS Ts Nw (mt M).2.2.2.2 i (mt a).1 (mt a).2.1 (mt a).2.2.1 (mt a).2.2.2.1 b) ∧ (¬ c = 0 → Cond.methodLink (mt M).2.2.2.2 i arraycopyName ∈ Ts ∧ Cond.native arraycopyName ∈ Ts ∧ Cond.static arraycopyName ∈ Ts ∧ Cond.initialized "java/lang/System" ∈ Ts)
    | .invokespecial i => len = 3 ∧ (c = 0 → (mt a).2.2.2.1 = none ∧ x_CallI Ts Nw (mt M).2.2.2.2 i (mt a).1 (mt a).2.1 (mt a).2.2.1 b) ∧ (¬ c = 0 → Cond.methodLink (mt M).2.2.2.2 i objectInit ∈ Ts ∧ Cond.instanceMethod objectInit ∈ Ts ∧ Cond.code objectInit ⟨#[0xb1]⟩ 1 none ∈ Ts)
    | .invokevirtual i => len = 3 ∧ c < 4 ∧ (c = 2 → b = 2 ∧ x_SLen Ts (mt M).2.2.2.2 i) ∧ (c = 3 → b = 2 ∧ x_SChr Ts (mt M).2.2.2.2 i) ∧ (c = 0 → rc a < 90 ∧ cl[rc a]? = some (ct (rc a)) ∧ x_CallV Ts Nw (mt M).2.2.2.2 i (ct (rc a)).1 (mt a).1 (mt a).2.1 (mt a).2.2.1 (mt a).2.2.2.1 b) ∧
        (c = 1 → (vt a).1 < 90 ∧ (vt a).2.2.1 < 90 ∧ cl[(vt a).1]? = some (ct (vt a).1) ∧ cl[(vt a).2.2.1]? = some (ct (vt a).2.2.1) ∧
          x_CallV Ts Nw (mt M).2.2.2.2 i (ct (vt a).1).1 (mt (vt a).2.1).1 (mt (vt a).2.1).2.1 (mt (vt a).2.1).2.2.1 (mt (vt a).2.1).2.2.2.1 b ∧
          x_CallV Ts Nw (mt M).2.2.2.2 i (ct (vt a).2.2.1).1 (mt (vt a).2.2.2).1 (mt (vt a).2.2.2).2.1 (mt (vt a).2.2.2).2.2.1 (mt (vt a).2.2.2).2.2.2.1 b)
    | .ireturn => len = 1 ∧ ((c = 0 ∧ (mt M).2.2.2.1 = some .int) ∨ (c = 1 ∧ (mt M).2.2.2.1 = some .boolean))
    | .lreturn => len = 1 ∧ (mt M).2.2.2.1 = some .long
    | .areturn => len = 1 ∧ ∃ C, (mt M).2.2.2.1 = some (.object C)
    | .return_ => len = 1 ∧ (mt M).2.2.2.1 = none
    | _ => len = 1
/-- a static field that holds a reference or null; its cell lies outside A -/
def x_st (C n d : String) (A : Nat → Prop) (U : State) (H : Heap) : Prop :=
  ∃ (c : ClassId) (k : Class) (i : Nat) (f : Field) (a : Nat) (cell : Cell), U.vm.findClass C = some c ∧ U.fieldFound? C n d = some (c, k, i, f) ∧ f.isStatic = true ∧ k.statics = some a ∧ H[a]? = some cell ∧ cell.vm.isStatics = true ∧ cell.cls = c ∧ f.slot < cell.slots.size ∧ k.staticTypes[f.slot]? = some f.type ∧ (∃ u : RefV, cell.slots[f.slot]? = some u.v) ∧ ¬ A a
theorem x_st_of {C n d : String} {A : Nat → Prop} {s : State} {args : Array Value} (h1 : (Cond.laysStatic C n d).before args s = true) (h2 : (Cond.isRef (.static C n d)).before args s = true) (hA : ∀ a : Nat, a < s.heap.size → ¬ A a) : x_st C n d A s s.heap := by
  obtain ⟨c, k, i, f, a, cell, hc, hi, hst, ha, hcell, hs, hcls, hlt, hty⟩ := Cond.laysStatic_spec h1
  exact ⟨c, k, i, f, a, cell, hc, hi, hst, ha, hcell, hs, hcls, hlt, hty, Cond.staticRefV hi hst ha hcell hs h2, hA a (Array.getElem?_eq_some_iff.mp hcell).1⟩
theorem x_st_to {C n d : String} {A A1 : Nat → Prop} {s U : State} {H : Heap} {locs : List Loc} (h : x_st C n d A s s.heap) (hS : va_S A s.heap H locs) (hvm : s.vm.Alike U.vm) (hA : ∀ q, q < s.heap.size → A1 q → A q) : x_st C n d A1 U H := by
  obtain ⟨c, k, i, f, a, cell, hc, hi, hst, ha, hcell, hs, hcls, hlt, hty, hu, hn⟩ := h
  obtain ⟨k', hi', hek⟩ := State.fieldFound?_setVm hvm hi
  have hlt2 := (Array.getElem?_eq_some_iff.mp hcell).1
  exact ⟨c, k', i, f, a, cell, by rw [hvm.findClass]; exact hc, hi', hst, by rw [hek]; exact ha, by rw [hS.2.1 a hlt2 hn]; exact hcell, hs, hcls, hlt, by rw [hek]; exact hty, hu, fun z => hn (hA a hlt2 z)⟩
theorem x_st_lays {C n d : String} {A : Nat → Prop} {U : State} {args : Array Value} (h : x_st C n d A U U.heap) : (Cond.laysStatic C n d).before args U = true := by
  obtain ⟨c, k, i, f, a, cell, hc, hi, hst, ha, hcell, hs, hcls, hlt, hty, hu, hn⟩ := h
  exact Cond.laysStatic_of hc hi hst ha hcell hs hcls hlt hty
theorem x_st_ref {C n d : String} {A : Nat → Prop} {U : State} {args : Array Value} (h : x_st C n d A U U.heap) : (Cond.isRef (.static C n d)).before args U = true := by
  obtain ⟨c, k, i, f, a, cell, hc, hi, hst, ha, hcell, hs, hcls, hlt, hty, ⟨u, hu⟩, hn⟩ := h
  have he : (Term.static C n d).eval args U none [] U = cell.slots[f.slot]? := by
    simp [Term.eval, State.fieldNamed?, hi, hst, ha, hcell, hs]
  show (Cond.isRef (.static C n d)).holds args U none U [] = true
  simp only [Cond.holds, Cond.value]
  rw [he, hu]
  obtain ⟨v, hv⟩ := u
  cases v <;> first | rfl | exact Bool.noConfusion hv
/-- what a throw and a search for handlers need -/
def x_iae : String := "java/lang/IllegalArgumentException"
def x_ise : String := "java/lang/IllegalStateException"
def x_thr (A : Nat → Prop) (U : State) (H : Heap) : Prop := x_st Bundle.tN "UNASSIGNED_STACK" Bundle.steD A U H ∧ x_st Bundle.tN "SUPPRESSED_SENTINEL" Bundle.listD A U H ∧ va_Nw (.castable x_iae x_iae) U ∧ va_Nw (.castable x_ise x_ise) U ∧ va_Nc x_iae x_ise U
/-- the texts -/
def x_txt (ad : Nat → Nat) (A : Nat → Prop) (U : State) (H : Heap) : Prop := (∃ adV : Nat → Nat, vk_S 2 [1, 3] [[112], [99, 110, 102]] (fun i => ad (x_tx + i)) adV A U H) ∧ vk_R "StreamRefuter$Problem" 66 "p" (ad (x_tx + 0)) U ∧ vk_R "StreamRefuter$Problem" 75 "cnf" (ad (x_tx + 1)) U ∧ va_Z "java/lang/String" "COMPACT_STRINGS" "Z" (.int 1) A U H ∧ va_Zq "jdk/internal/util/Preconditions" "SIOOBE_FORMATTER" "Ljava/util/function/BiFunction;" A U H
/-- the constants: the script; the enum's -/
def x_con (en : Nat → String × String × String) (scr : Nat × (Nat → Int32)) (ad : Nat → Nat) (A : Nat → Prop) (U : State) (H : Heap) : Prop :=
  (va_X (ad x_sc) scr.1 scr.2 U H ∧ ad x_sc < H.size ∧ ¬ A (ad x_sc)) ∧ (∀ k, k < 4 → va_Z (en k).1 (en k).2.1 (en k).2.2 (.ref (ad (x_en + k))) A U H) ∧ (∀ i j, i < 4 → j < 4 → ad (x_en + i) = ad (x_en + j) → i = j) ∧ x_thr A U H ∧ x_txt ad A U H
