section
/-! A small machine over worlds of numbered cells: its steps as propositions. Cell 0 stands for null in fields. -/
abbrev xW : Type := Nat × Nat × Nat × (Nat → Nat) × (Nat → Nat) × (Nat → Nat → Int32) × (Nat → Nat → Int64) × (Nat → Nat → Nat)
def x_N (w : xW) : Nat := w.1
def x_C (w : xW) : Nat := w.2.1
def x_S (w : xW) : Nat := w.2.2.1
def x_k (w : xW) : Nat → Nat := w.2.2.2.1
def x_l (w : xW) : Nat → Nat := w.2.2.2.2.1
def x_i (w : xW) : Nat → Nat → Int32 := w.2.2.2.2.2.1
def x_j (w : xW) : Nat → Nat → Int64 := w.2.2.2.2.2.2.1
def x_r (w : xW) : Nat → Nat → Nat := w.2.2.2.2.2.2.2
def x_up {α : Type} (f : Nat → Nat → α) (o k : Nat) (v : α) : Nat → Nat → α := fun i => if i = o then (fun j => if j = k then v else f o j) else f i
def x_si (w : xW) (o k : Nat) (v : Int32) : xW := (x_N w, x_C w, x_S w, x_k w, x_l w, x_up (x_i w) o k v, x_j w, x_r w)
def x_sj (w : xW) (o k : Nat) (v : Int64) : xW := (x_N w, x_C w, x_S w, x_k w, x_l w, x_i w, x_up (x_j w) o k v, x_r w)
def x_sr (w : xW) (o k : Nat) (v : Nat) : xW := (x_N w, x_C w, x_S w, x_k w, x_l w, x_i w, x_j w, x_up (x_r w) o k v)
def x_row {α : Type} (f : Nat → α) (o : Nat) (g : α) : Nat → α := fun i => if i = o then g else f i
def x_new (w : xW) (kind len n : Nat) : xW := (x_N w + 1, x_C w + 1, x_S w + n, x_row (x_k w) (x_N w) kind, x_row (x_l w) (x_N w) len, x_row (x_i w) (x_N w) (fun _ => 0), x_row (x_j w) (x_N w) (fun _ => 0), x_row (x_r w) (x_N w) (fun _ => 0))
def x_cp (w : xW) (a sp b dp n : Nat) : xW := (x_N w, x_C w, x_S w, x_k w, x_l w, x_row (x_i w) b (va_cpy (x_i w a) (x_i w b) sp dp n), x_j w, x_r w)
def x_lost (w : xW) (n : Nat) : xW := (x_N w, x_C w + 1, x_S w + n, x_k w, x_l w, x_i w, x_j w, x_r w)
/-- locals by their places -/
abbrev xL : Type := List (Option Value)
def x_at : xL → Nat → Option Value
  | [], _ => none
  | a :: _, 0 => a
  | _ :: t, n + 1 => x_at t n
def x_set : xL → Nat → Option Value → xL
  | [], _, _ => []
  | _ :: t, 0, v => v :: t
  | a :: t, n + 1, v => a :: x_set t n v
def x_two : Option Value → Bool
  | some (.long _) => true
  | some (.double _) => true
  | _ => false
def x_cl (L : xL) (i : Nat) : xL := match x_two (x_at L i) with
  | true => x_set L i none
  | false => L
def x_st1 (L : xL) (i : Nat) (v : Value) : xL := match i with
  | 0 => x_set L 0 (some v)
  | j + 1 => x_set (x_cl L j) (j + 1) (some v)
def x_st2 (L : xL) (i : Nat) (v : Value) : xL := x_set (x_st1 L i v) (i + 1) none
/-- the parts of a step -/
def x_pI (st : List Value) (f : Int32 → List Value → Prop) : Prop := match st with
  | .int x :: r => f x r
  | _ => False
def x_pL (st : List Value) (f : Int64 → List Value → Prop) : Prop := match st with
  | .long x :: r => f x r
  | _ => False
def x_pR (st : List Value) (f : Nat → List Value → Prop) : Prop := match st with
  | .ref x :: r => f x r
  | _ => False
def x_gI (L : xL) (i : Nat) (f : Int32 → Prop) : Prop := match x_at L i with
  | some (.int x) => f x
  | _ => False
def x_gL (L : xL) (i : Nat) (f : Int64 → Prop) : Prop := match x_at L i with
  | some (.long x) => f x
  | _ => False
def x_gR (L : xL) (i : Nat) (f : Nat → Prop) : Prop := match x_at L i with
  | some (.ref x) => f x
  | _ => False
def x_br (c A B : Prop) : Prop := (c → A) ∧ (¬ c → B)
def x_pop : Nat → List Value → List Value → (List Value → List Value → Prop) → Prop
  | 0, st, acc, f => f acc st
  | n + 1, v :: st, acc, f => x_pop n st (v :: acc) f
  | _ + 1, [], _, _ => False
def x_cat (v : Value) : Nat := match v with
  | .long _ => 2
  | .double _ => 2
  | _ => 1
def x_cats : List Value → Nat
  | [] => 0
  | v :: r => x_cat v + x_cats r
def x_sw (c : Nat) (A B : Prop) : Prop := match c with
  | 0 => A
  | _ + 1 => B
def x_pV (st : List Value) (f : Value → List Value → Prop) : Prop := match st with
  | .int x :: r => f (.int x) r
  | .ref x :: r => f (.ref x) r
  | _ => False
def x_nil (st : List Value) (A : Prop) : Prop := match st with
  | [] => A
  | _ :: _ => False
def x_som {α : Type} (o : Option α) (f : α → Prop) : Prop := match o with
  | some a => f a
  | none => False
/-- the classes that a link to a field may mean: 2 stands for 2 and 3, which have their fields from one class -/
def x_al (a : Nat) : List Nat := match a with
  | 2 => [2, 3]
  | a => [a]
def x_kd (a k : Nat) : Prop := match a with
  | 2 => k = 5 ∨ k = 6
  | a => k = a + 3
def x_if (b : Bool) (A : Prop) : Prop := match b with
  | true => A
  | false => False
def x_cnd (c : ClassFile.Cond) (x y : Int32) : Prop := match c with
  | .eq => x = y
  | .ne => ¬ x = y
  | .lt => x < y
  | .ge => y ≤ x
  | .gt => y < x
  | .le => x ≤ y
/-- what an end is: a return, or a throw of kind n -/
abbrev xO : Type := Option Value ⊕ Nat
/-- a row of code: pc, instruction, its length, three numbers, an int, a long -/
abbrev xR : Type := Nat × Instr × Nat × Nat × Nat × Nat × Int32 × Int64
def x_find : List xR → Nat → Option xR
  | [], _ => none
  | r :: t, pc => match Nat.beq r.1 pc with
    | true => some r
    | false => x_find t pc
/-- numbers of things that are no cells of the world: the script, the constants of the enum, the texts -/
def x_sc : Nat := 1000000
def x_en : Nat := 1000001
def x_tx : Nat := 1000010
/-- one step: K goes on, CL calls, RT returns, TH throws; rc, vt: receivers; scr: the script; tx: the texts -/
def x_step (K : Nat → xL → List Value → xW → Prop) (CL : Nat → List Value → Nat → xL → List Value → xW → Prop) (RT : Option Value → xW → Prop) (TH : Nat → xW → Prop) (rc : Nat → Nat) (vt : Nat → Nat × Nat × Nat × Nat) (scr : Nat × (Nat → Int32)) (tx : Nat → List Int32) (ins : Instr) (a b c : Nat) (v : Int32) (u : Int64) (pc : Nat) (L : xL) (st : List Value) (w : xW) : Prop :=
  match ins with
  | .iconst _ => K (pc + 1) L (.int v :: st) w
  | .bipush _ => K (pc + 2) L (.int v :: st) w
  | .sipush _ => K (pc + 3) L (.int v :: st) w
  | .ldc _ => x_sw c (K (pc + 2) L (.int v :: st) w) (K (pc + 2) L (.ref (x_tx + a) :: st) w)
  | .lconst _ => K (pc + 1) L (.long u :: st) w
  | .ldc2_w _ => K (pc + 3) L (.long u :: st) w
  | .iload i => x_gI L i fun x => K (pc + 2) L (.int x :: st) w
  | .iload_n _ => x_gI L a fun x => K (pc + 1) L (.int x :: st) w
  | .lload i => x_gL L i fun x => K (pc + 2) L (.long x :: st) w
  | .lload_n _ => x_gL L a fun x => K (pc + 1) L (.long x :: st) w
  | .aload i => x_gR L i fun x => K (pc + 2) L (.ref x :: st) w
  | .aload_n _ => x_gR L a fun x => K (pc + 1) L (.ref x :: st) w
  | .istore i => x_pI st fun x r => K (pc + 2) (x_st1 L i (.int x)) r w
  | .istore_n _ => x_pI st fun x r => K (pc + 1) (x_st1 L a (.int x)) r w
  | .lstore i => x_pL st fun x r => K (pc + 2) (x_st2 L i (.long x)) r w
  | .lstore_n _ => x_pL st fun x r => K (pc + 1) (x_st2 L a (.long x)) r w
  | .astore i => x_pR st fun x r => K (pc + 2) (x_st1 L i (.ref x)) r w
  | .astore_n _ => x_pR st fun x r => K (pc + 1) (x_st1 L a (.ref x)) r w
  | .iinc i _ => x_gI L i fun x => K (pc + 3) (x_st1 L i (.int (x + v))) st w
  | .iadd => x_pI st fun y r => x_pI r fun x r => K (pc + 1) L (.int (x + y) :: r) w
  | .isub => x_pI st fun y r => x_pI r fun x r => K (pc + 1) L (.int (x - y) :: r) w
  | .imul => x_pI st fun y r => x_pI r fun x r => K (pc + 1) L (.int (x * y) :: r) w
  | .iand => x_pI st fun y r => x_pI r fun x r => K (pc + 1) L (.int (x &&& y) :: r) w
  | .ior => x_pI st fun y r => x_pI r fun x r => K (pc + 1) L (.int (x ||| y) :: r) w
  | .ixor => x_pI st fun y r => x_pI r fun x r => K (pc + 1) L (.int (x ^^^ y) :: r) w
  | .ishl => x_pI st fun y r => x_pI r fun x r => K (pc + 1) L (.int (x <<< (y &&& 31)) :: r) w
  | .iushr => x_pI st fun y r => x_pI r fun x r => K (pc + 1) L (.int (x.toUInt32 >>> (y.toUInt32 &&& Int32.toUInt32 31)).toInt32 :: r) w
  | .idiv => x_pI st fun y r => x_pI r fun x r => (¬ y = 0) ∧ K (pc + 1) L (.int (x / y) :: r) w
  | .irem => x_pI st fun y r => x_pI r fun x r => (¬ y = 0) ∧ K (pc + 1) L (.int (x - x / y * y) :: r) w
  | .ineg => x_pI st fun x r => K (pc + 1) L (.int (-x) :: r) w
  | .land => x_pL st fun y r => x_pL r fun x r => K (pc + 1) L (.long (x &&& y) :: r) w
  | .lor => x_pL st fun y r => x_pL r fun x r => K (pc + 1) L (.long (x ||| y) :: r) w
  | .lxor => x_pL st fun y r => x_pL r fun x r => K (pc + 1) L (.long (x ^^^ y) :: r) w
  | .lshl => x_pI st fun y r => x_pL r fun x r => K (pc + 1) L (.long (x <<< (y.toInt64 &&& 63)) :: r) w
  | .lshr => x_pI st fun y r => x_pL r fun x r => K (pc + 1) L (.long (x >>> (y.toInt64 &&& 63)) :: r) w
  | .lushr => x_pI st fun y r => x_pL r fun x r => K (pc + 1) L (.long (x.toUInt64 >>> (y.toInt64.toUInt64 &&& Int64.toUInt64 63)).toInt64 :: r) w
  | .i2l => x_pI st fun x r => K (pc + 1) L (.long x.toInt64 :: r) w
  | .l2i => x_pL st fun x r => K (pc + 1) L (.int x.toInt32 :: r) w
  | .lcmp => x_pL st fun y r => x_pL r fun x r => K (pc + 1) L (.int (lg_cmp x y) :: r) w
  | .dup => x_pV st fun x r => K (pc + 1) L (x :: x :: r) w
  | .pop => x_pV st fun _ r => K (pc + 1) L r w
  | .dup2 => x_pI st fun y r => x_pR r fun x r => K (pc + 1) L (.int y :: .ref x :: .int y :: .ref x :: r) w
  | .ifCond cd _ => x_pI st fun x r => x_br (x_cnd cd x 0) (K a L r w) (K (pc + 3) L r w)
  | .if_icmp cd _ => x_pI st fun y r => x_pI r fun x r => x_br (x_cnd cd x y) (K a L r w) (K (pc + 3) L r w)
  | .if_acmp .ne _ => x_pR st fun y r => x_pR r fun x r => (x_en ≤ x ∧ x < x_en + 4 ∧ x_en ≤ y ∧ y < x_en + 4) ∧ x_br (¬ x = y) (K a L r w) (K (pc + 3) L r w)
  | .goto _ => K a L st w
  | .tableswitch d lo hi offs => x_pI st fun x r => x_br (x.toInt < lo ∨ hi < x.toInt) (K ((pc : Int) + d).toNat L r w) (x_som offs[(x.toInt - lo).toNat]? fun o => K ((pc : Int) + o).toNat L r w)
  | .getfield _ => x_pR st fun o r => (x_kd a (x_k w o)) ∧ x_sw c (K (pc + 3) L (.int (x_i w o b) :: r) w) (x_sw (c - 1) (K (pc + 3) L (.long (x_j w o b) :: r) w) ((¬ x_r w o b = 0) ∧ K (pc + 3) L (.ref (x_r w o b) :: r) w))
  | .putfield _ => x_sw c (x_pI st fun x r => x_pR r fun o r => (x_kd a (x_k w o)) ∧ K (pc + 3) L r (x_si w o b x))
    (x_sw (c - 1) (x_pL st fun x r => x_pR r fun o r => (x_kd a (x_k w o)) ∧ K (pc + 3) L r (x_sj w o b x))
    (x_sw (c - 2) (x_pR st fun x r => x_pR r fun o r => (x_kd a (x_k w o) ∧ ¬ x = 0 ∧ x < x_N w) ∧ K (pc + 3) L r (x_sr w o b x))
    (x_pI st fun x r => x_pR r fun o r => (x_kd a (x_k w o) ∧ (x = 0 ∨ x = 1)) ∧ K (pc + 3) L r (x_si w o b x))))
  | .getstatic _ => K (pc + 3) L (.ref (x_en + a) :: st) w
  | .iaload => x_pI st fun i r => x_pR r fun o r => x_sw c ((x_k w o = 0 ∧ vp_in i (x_l w o)) ∧ K (pc + 1) L (.int (x_i w o i.toNatClampNeg) :: r) w) ((o = x_sc ∧ vp_in i scr.1) ∧ K (pc + 1) L (.int (scr.2 i.toNatClampNeg) :: r) w)
  | .baload => x_pI st fun i r => x_pR r fun o r => (x_k w o = 1 ∧ vp_in i (x_l w o)) ∧ K (pc + 1) L (.int (x_i w o i.toNatClampNeg) :: r) w
  | .laload => x_pI st fun i r => x_pR r fun o r => (x_k w o = 2 ∧ vp_in i (x_l w o)) ∧ K (pc + 1) L (.long (x_j w o i.toNatClampNeg) :: r) w
  | .iastore => x_pI st fun x r => x_pI r fun i r => x_pR r fun o r => (x_k w o = 0 ∧ vp_in i (x_l w o)) ∧ K (pc + 1) L r (x_si w o i.toNatClampNeg x)
  | .bastore => x_pI st fun x r => x_pI r fun i r => x_pR r fun o r => (x_k w o = 1 ∧ vp_in i (x_l w o) ∧ (x = 0 ∨ x = 1)) ∧ K (pc + 1) L r (x_si w o i.toNatClampNeg x)
  | .lastore => x_pL st fun x r => x_pI r fun i r => x_pR r fun o r => (x_k w o = 2 ∧ vp_in i (x_l w o)) ∧ K (pc + 1) L r (x_sj w o i.toNatClampNeg x)
  | .arraylength => x_pR st fun o r => x_sw c ((x_k w o = 0) ∧ K (pc + 1) L (.int (Int32.ofNat (x_l w o)) :: r) w) ((o = x_sc) ∧ K (pc + 1) L (.int (Int32.ofNat scr.1) :: r) w)
  | .newarray _ => x_pI st fun x r => (¬ x < 0 ∧ x ≤ 20000 ∧ x_N w < 1000) ∧ K (pc + 2) L (.ref (x_N w) :: r) (x_new w a x.toNatClampNeg x.toNatClampNeg)
  | .new _ => x_sw c ((x_N w < 1000) ∧ K (pc + 3) L (.ref (x_N w) :: st) (x_new w (a + 3) b b)) (x_nil st (TH a (x_lost w 6)))
  | .invokestatic _ => x_sw c (x_pop b st [] fun as r => x_if (Nat.ble (x_cats r) 8) (CL a as (pc + 3) L r w))
    (x_pI st fun n r => x_pI r fun dp r => x_pR r fun q r => x_pI r fun sp r => x_pR r fun o r => (x_k w o = 0 ∧ x_k w q = 0 ∧ ¬ sp < 0 ∧ ¬ dp < 0 ∧ ¬ n < 0 ∧ sp.toNatClampNeg + n.toNatClampNeg ≤ x_l w o ∧ dp.toNatClampNeg + n.toNatClampNeg ≤ x_l w q) ∧ x_if (Nat.ble (x_cats r) 8) (K (pc + 3) L r (x_cp w o sp.toNatClampNeg q dp.toNatClampNeg n.toNatClampNeg)))
  | .invokespecial _ => x_sw c (x_pop b st [] fun as r => x_if (Nat.ble (x_cats r) 8) (x_pR as fun _ _ => CL a as (pc + 3) L r w))
    (x_pR st fun _ r => x_if (Nat.ble (x_cats r) 8) (K (pc + 3) L r w))
  | .invokevirtual _ => x_sw c (x_pop b st [] fun as r => x_if (Nat.ble (x_cats r) 8) (x_pR as fun o _ => (x_k w o = rc a + 3) ∧ CL a as (pc + 3) L r w))
    (x_sw (c - 1) (x_pop b st [] fun as r => x_if (Nat.ble (x_cats r) 8) (x_pR as fun o _ => x_br (x_k w o = (vt a).1 + 3) (CL (vt a).2.1 as (pc + 3) L r w) ((x_k w o = (vt a).2.2.1 + 3) ∧ CL (vt a).2.2.2 as (pc + 3) L r w)))
    (x_sw (c - 2) (x_pR st fun o r => (x_tx ≤ o ∧ o < x_tx + b) ∧ K (pc + 3) L (.int (Int32.ofNat (tx (o - x_tx)).length) :: r) w)
    (x_pI st fun i r => x_pR r fun o r => (x_tx ≤ o ∧ o < x_tx + b ∧ vp_in i (tx (o - x_tx)).length) ∧ K (pc + 3) L (.int ((tx (o - x_tx)).getD i.toNatClampNeg 0) :: r) w)))
  | .ireturn => x_pI st fun x r => x_nil r (x_sw c (RT (some (.int x)) w) ((x = 0 ∨ x = 1) ∧ RT (some (.int x)) w))
  | .lreturn => x_pL st fun x r => x_nil r (RT (some (.long x)) w)
  | .areturn => x_pR st fun x r => x_nil r (RT (some (.ref x)) w)
  | .return_ => x_nil st (RT none w)
  | _ => False
end
section
/-! Runs of the small machine: x_wp with fuel, x_R without; a step goes to one place. -/
theorem x_pI_of {st : List Value} {f : Int32 → List Value → Prop} (h : x_pI st f) : ∃ x r, st = .int x :: r ∧ f x r := by
  unfold x_pI at h
  split at h
  · exact ⟨_, _, rfl, h⟩
  · exact h.elim
theorem x_pL_of {st : List Value} {f : Int64 → List Value → Prop} (h : x_pL st f) : ∃ x r, st = .long x :: r ∧ f x r := by
  unfold x_pL at h
  split at h
  · exact ⟨_, _, rfl, h⟩
  · exact h.elim
theorem x_pR_of {st : List Value} {f : Nat → List Value → Prop} (h : x_pR st f) : ∃ x r, st = .ref x :: r ∧ f x r := by
  unfold x_pR at h
  split at h
  · exact ⟨_, _, rfl, h⟩
  · exact h.elim
theorem x_pV_of {st : List Value} {f : Value → List Value → Prop} (h : x_pV st f) : ∃ x r, st = x :: r ∧ x_cat x = 1 ∧ f x r ∧ ∀ g : Value → List Value → Prop, g x r → x_pV st g := by
  unfold x_pV at h
  split at h
  · exact ⟨_, _, rfl, rfl, h, fun g hg => hg⟩
  · exact ⟨_, _, rfl, rfl, h, fun g hg => hg⟩
  · exact h.elim
theorem x_gI_of {L : xL} {i : Nat} {f : Int32 → Prop} (h : x_gI L i f) : ∃ x, x_at L i = some (.int x) ∧ f x := by
  unfold x_gI at h
  split at h
  · exact ⟨_, by assumption, h⟩
  · exact h.elim
theorem x_gL_of {L : xL} {i : Nat} {f : Int64 → Prop} (h : x_gL L i f) : ∃ x, x_at L i = some (.long x) ∧ f x := by
  unfold x_gL at h
  split at h
  · exact ⟨_, by assumption, h⟩
  · exact h.elim
theorem x_gR_of {L : xL} {i : Nat} {f : Nat → Prop} (h : x_gR L i f) : ∃ x, x_at L i = some (.ref x) ∧ f x := by
  unfold x_gR at h
  split at h
  · exact ⟨_, by assumption, h⟩
  · exact h.elim
theorem x_gI_to {L : xL} {i : Nat} {f : Int32 → Prop} {x : Int32} (h : x_at L i = some (.int x)) (hf : f x) : x_gI L i f := by
  unfold x_gI; rw [h]; exact hf
theorem x_gL_to {L : xL} {i : Nat} {f : Int64 → Prop} {x : Int64} (h : x_at L i = some (.long x)) (hf : f x) : x_gL L i f := by
  unfold x_gL; rw [h]; exact hf
theorem x_gR_to {L : xL} {i : Nat} {f : Nat → Prop} {x : Nat} (h : x_at L i = some (.ref x)) (hf : f x) : x_gR L i f := by
  unfold x_gR; rw [h]; exact hf
theorem x_if_of {b : Bool} {A : Prop} (h : x_if b A) : b = true ∧ A := by
  cases b
  · exact h.elim
  · exact ⟨rfl, h⟩
theorem x_nil_of {st : List Value} {A : Prop} (h : x_nil st A) : st = [] ∧ A := by
  cases st
  · exact ⟨rfl, h⟩
  · exact h.elim
theorem x_som_of {α : Type} {o : Option α} {f : α → Prop} (h : x_som o f) : ∃ a, o = some a ∧ f a := by
  cases o
  · exact h.elim
  · exact ⟨_, rfl, h⟩
theorem x_sw_of {c : Nat} {A B : Prop} (h : x_sw c A B) : (c = 0 ∧ A) ∨ (¬ c = 0 ∧ B) := by
  cases c
  · exact Or.inl ⟨rfl, h⟩
  · exact Or.inr ⟨Nat.succ_ne_zero _, h⟩
theorem x_br_of {c A B : Prop} (h : x_br c A B) : (c ∧ A) ∨ (¬ c ∧ B) := by
  by_cases hc : c
  · exact Or.inl ⟨hc, h.1 hc⟩
  · exact Or.inr ⟨hc, h.2 hc⟩
theorem x_br_t {c A B : Prop} (hc : c) (h : A) : x_br c A B := ⟨fun _ => h, fun n => absurd hc n⟩
theorem x_br_f {c A B : Prop} (hc : ¬ c) (h : B) : x_br c A B := ⟨fun n => absurd n hc, fun _ => h⟩
theorem x_pop_of : ∀ (n : Nat) (st acc : List Value) (f : List Value → List Value → Prop), x_pop n st acc f → ∃ as r, as.length = n ∧ st = as ++ r ∧ f (as.reverse ++ acc) r
  | 0, st, acc, f, h => ⟨[], st, rfl, rfl, h⟩
  | n + 1, v :: st, acc, f, h => by
    obtain ⟨as, r, h1, h2, h3⟩ := x_pop_of n st (v :: acc) f h
    exact ⟨v :: as, r, by simp [h1], by simp [h2], by simpa using h3⟩
  | n + 1, [], acc, f, h => h.elim
theorem x_pop_to : ∀ (as r acc : List Value) (f : List Value → List Value → Prop), f (as.reverse ++ acc) r → x_pop as.length (as ++ r) acc f
  | [], r, acc, f, h => h
  | v :: as, r, acc, f, h => x_pop_to as r (v :: acc) f (by simpa using h)
/-- where a step may go -/
abbrev xT : Type := (Nat × xL × List Value × xW) ⊕ (Nat × List Value × Nat × xL × List Value × xW) ⊕ (Option Value × xW) ⊕ (Nat × xW)
def x_K (X : xT → Prop) : Nat → xL → List Value → xW → Prop := fun pc L st w => X (.inl (pc, L, st, w))
def x_CL (X : xT → Prop) : Nat → List Value → Nat → xL → List Value → xW → Prop := fun M as pc L st w => X (.inr (.inl (M, as, pc, L, st, w)))
def x_RT (X : xT → Prop) : Option Value → xW → Prop := fun v w => X (.inr (.inr (.inl (v, w))))
def x_TH (X : xT → Prop) : Nat → xW → Prop := fun k w => X (.inr (.inr (.inr (k, w))))
/-- a step with one aim for all four -/
def x_go (X : xT → Prop) (rc : Nat → Nat) (vt : Nat → Nat × Nat × Nat × Nat) (scr : Nat × (Nat → Int32)) (tx : Nat → List Int32) (ins : Instr) (a b c : Nat) (v : Int32) (u : Int64) (pc : Nat) (L : xL) (st : List Value) (w : xW) : Prop :=
  x_step (x_K X) (x_CL X) (x_RT X) (x_TH X) rc vt scr tx ins a b c v u pc L st w
/-- cells are never taken away -/
def x_gr (w w' : xW) : Prop := x_N w ≤ x_N w' ∧ x_C w ≤ x_C w' ∧ x_S w ≤ x_S w'
theorem x_gr_rf {w : xW} : x_gr w w := ⟨Nat.le_refl _, Nat.le_refl _, Nat.le_refl _⟩
theorem x_gr_tr {a b c : xW} (h : x_gr a b) (h2 : x_gr b c) : x_gr a c := ⟨Nat.le_trans h.1 h2.1, Nat.le_trans h.2.1 h2.2.1, Nat.le_trans h.2.2 h2.2.2⟩
def x_wt (t : xT) : xW := match t with
  | .inl (_, _, _, w) => w
  | .inr (.inl (_, _, _, _, _, w)) => w
  | .inr (.inr (.inl (_, w))) => w
  | .inr (.inr (.inr (_, w))) => w
/-- an aim that is met at one place, whatever is asked there -/
def x_PK (w0 : xW) (F : (xT → Prop) → Prop) : Prop := ∀ X, F X → ∃ t, X t ∧ x_gr w0 (x_wt t) ∧ ∀ Y, Y t → F Y
theorem xk_k {w0 : xW} {pc : Nat} {L : xL} {st : List Value} {w : xW} (hg : x_gr w0 w) : x_PK w0 (fun X => x_K X pc L st w) := fun _ h => ⟨_, h, hg, fun _ hY => hY⟩
theorem xk_c {M pc : Nat} {as : List Value} {L : xL} {st : List Value} {w : xW} : x_PK w (fun X => x_CL X M as pc L st w) := fun _ h => ⟨_, h, x_gr_rf, fun _ hY => hY⟩
theorem xk_r {v : Option Value} {w : xW} : x_PK w (fun X => x_RT X v w) := fun _ h => ⟨_, h, x_gr_rf, fun _ hY => hY⟩
theorem xk_t {w0 : xW} {k : Nat} {w : xW} (hg : x_gr w0 w) : x_PK w0 (fun X => x_TH X k w) := fun _ h => ⟨_, h, hg, fun _ hY => hY⟩
theorem xk_0 {w0 : xW} : x_PK w0 (fun _ => False) := fun _ h => h.elim
theorem xk_and {w0 : xW} {c : Prop} {F : (xT → Prop) → Prop} (hF : x_PK w0 F) : x_PK w0 (fun X => c ∧ F X) := fun X h => by
  obtain ⟨t, h1, hg0, h2⟩ := hF X h.2
  exact ⟨t, h1, hg0, fun Y hY => ⟨h.1, h2 Y hY⟩⟩
theorem xk_br {w0 : xW} {c : Prop} {F G : (xT → Prop) → Prop} (hF : x_PK w0 F) (hG : x_PK w0 G) : x_PK w0 (fun X => x_br c (F X) (G X)) := fun X h => by
  rcases x_br_of h with ⟨hc, h⟩ | ⟨hc, h⟩
  · obtain ⟨t, h1, hg0, h2⟩ := hF X h
    exact ⟨t, h1, hg0, fun Y hY => x_br_t hc (h2 Y hY)⟩
  · obtain ⟨t, h1, hg0, h2⟩ := hG X h
    exact ⟨t, h1, hg0, fun Y hY => x_br_f hc (h2 Y hY)⟩
theorem xk_sw {w0 : xW} {c : Nat} {F G : (xT → Prop) → Prop} (hF : x_PK w0 F) (hG : x_PK w0 G) : x_PK w0 (fun X => x_sw c (F X) (G X)) := by
  cases c
  · exact hF
  · exact hG
theorem xk_if {w0 : xW} {b : Bool} {F : (xT → Prop) → Prop} (hF : x_PK w0 F) : x_PK w0 (fun X => x_if b (F X)) := by
  cases b
  · exact xk_0
  · exact hF
theorem xk_nil {w0 : xW} {st : List Value} {F : (xT → Prop) → Prop} (hF : x_PK w0 F) : x_PK w0 (fun X => x_nil st (F X)) := by
  cases st
  · exact hF
  · exact xk_0
theorem xk_som {w0 : xW} {α : Type} {o : Option α} {F : α → (xT → Prop) → Prop} (hF : ∀ a, x_PK w0 (F a)) : x_PK w0 (fun X => x_som o (fun a => F a X)) := by
  cases o
  · exact xk_0
  · exact hF _
theorem xk_pI {w0 : xW} {st : List Value} {F : Int32 → List Value → (xT → Prop) → Prop} (hF : ∀ x r, x_PK w0 (F x r)) : x_PK w0 (fun X => x_pI st (fun x r => F x r X)) := fun X h => by
  obtain ⟨x, r, rfl, h⟩ := x_pI_of h
  exact hF x r X h
theorem xk_pL {w0 : xW} {st : List Value} {F : Int64 → List Value → (xT → Prop) → Prop} (hF : ∀ x r, x_PK w0 (F x r)) : x_PK w0 (fun X => x_pL st (fun x r => F x r X)) := fun X h => by
  obtain ⟨x, r, rfl, h⟩ := x_pL_of h
  exact hF x r X h
theorem xk_pR {w0 : xW} {st : List Value} {F : Nat → List Value → (xT → Prop) → Prop} (hF : ∀ x r, x_PK w0 (F x r)) : x_PK w0 (fun X => x_pR st (fun x r => F x r X)) := fun X h => by
  obtain ⟨x, r, rfl, h⟩ := x_pR_of h
  exact hF x r X h
theorem xk_pV {w0 : xW} {st : List Value} {F : Value → List Value → (xT → Prop) → Prop} (hF : ∀ x r, x_PK w0 (F x r)) : x_PK w0 (fun X => x_pV st (fun x r => F x r X)) := fun X h => by
  obtain ⟨x, r, -, -, h, hg⟩ := x_pV_of h
  obtain ⟨t, h1, hg0, h2⟩ := hF x r X h
  exact ⟨t, h1, hg0, fun Y hY => hg _ (h2 Y hY)⟩
theorem xk_gI {w0 : xW} {L : xL} {i : Nat} {F : Int32 → (xT → Prop) → Prop} (hF : ∀ x, x_PK w0 (F x)) : x_PK w0 (fun X => x_gI L i (fun x => F x X)) := fun X h => by
  obtain ⟨x, e, h⟩ := x_gI_of h
  obtain ⟨t, h1, hg0, h2⟩ := hF x X h
  exact ⟨t, h1, hg0, fun Y hY => x_gI_to e (h2 Y hY)⟩
theorem xk_gL {w0 : xW} {L : xL} {i : Nat} {F : Int64 → (xT → Prop) → Prop} (hF : ∀ x, x_PK w0 (F x)) : x_PK w0 (fun X => x_gL L i (fun x => F x X)) := fun X h => by
  obtain ⟨x, e, h⟩ := x_gL_of h
  obtain ⟨t, h1, hg0, h2⟩ := hF x X h
  exact ⟨t, h1, hg0, fun Y hY => x_gL_to e (h2 Y hY)⟩
theorem xk_gR {w0 : xW} {L : xL} {i : Nat} {F : Nat → (xT → Prop) → Prop} (hF : ∀ x, x_PK w0 (F x)) : x_PK w0 (fun X => x_gR L i (fun x => F x X)) := fun X h => by
  obtain ⟨x, e, h⟩ := x_gR_of h
  obtain ⟨t, h1, hg0, h2⟩ := hF x X h
  exact ⟨t, h1, hg0, fun Y hY => x_gR_to e (h2 Y hY)⟩
theorem xk_pop {w0 : xW} {n : Nat} {st acc : List Value} {F : List Value → List Value → (xT → Prop) → Prop} (hF : ∀ x r, x_PK w0 (F x r)) : x_PK w0 (fun X => x_pop n st acc (fun x r => F x r X)) := fun X h => by
  obtain ⟨as, r, h3, h4, h5⟩ := x_pop_of _ _ _ _ h
  obtain ⟨t, h1, hg0, h2⟩ := hF _ r X h5
  subst h3
  subst h4
  exact ⟨t, h1, hg0, fun Y hY => x_pop_to as r acc _ (h2 Y hY)⟩
set_option maxHeartbeats 4000000 in
theorem x_pick {rc : Nat → Nat} {vt : Nat → Nat × Nat × Nat × Nat} {scr : Nat × (Nat → Int32)} {tx : Nat → List Int32} {ins : Instr} {a b c : Nat} {v : Int32} {u : Int64} {pc : Nat} {L : xL} {st : List Value} {w : xW} :
    x_PK w (fun X => x_go X rc vt scr tx ins a b c v u pc L st w) := by
  unfold x_go
  cases ins
  case if_acmp cd off =>
    cases cd
    · exact xk_0
    · exact xk_pR fun _ _ => xk_pR fun _ _ => xk_and (xk_br (xk_k x_gr_rf) (xk_k x_gr_rf))
  all_goals first | exact xk_0 | exact xk_k x_gr_rf | skip
  all_goals dsimp only [x_step]
  all_goals repeat' first | exact xk_k x_gr_rf | exact xk_c | exact xk_r | exact xk_k ⟨Nat.le_refl _, Nat.le_refl _, Nat.le_refl _⟩ | exact xk_k ⟨Nat.le_succ _, Nat.le_succ _, Nat.le_add_right _ _⟩ | exact xk_t ⟨Nat.le_refl _, Nat.le_succ _, Nat.le_add_right _ _⟩ | refine xk_and ?_ | refine xk_br ?_ ?_ | refine xk_sw ?_ ?_ | refine xk_if ?_ | refine xk_nil ?_ | refine xk_som fun _ => ?_ | refine xk_pI fun _ _ => ?_ | refine xk_pL fun _ _ => ?_ | refine xk_pR fun _ _ => ?_ | refine xk_pV fun _ _ => ?_ | refine xk_gI fun _ => ?_ | refine xk_gL fun _ => ?_ | refine xk_gR fun _ => ?_ | refine xk_pop fun _ _ => ?_
/-- a program: rows of a method, its depth, its locals, the class of its receiver, tables of receivers, texts, handlers -/
abbrev xP : Type := (Nat → List xR) × (Nat → Nat) × (Nat → Nat) × (Nat → Nat) × (Nat → Nat × Nat × Nat × Nat) × (Nat → List Int32) × (Nat → Nat → Nat → Option (Nat × Nat))
def x_lay : List Value → xL
  | [] => []
  | v :: r => match x_two (some v) with
    | true => some v :: none :: x_lay r
    | false => some v :: x_lay r
def x_pad : Nat → xL → xL
  | 0, _ => []
  | n + 1, [] => none :: x_pad n []
  | n + 1, a :: t => a :: x_pad n t
/-- a step of method M at pc, in a program -/
def x_one (P : xP) (scr : Nat × (Nat → Int32)) (X : xT → Prop) (M pc : Nat) (L : xL) (st : List Value) (w : xW) : Prop := x_som (x_find (P.1 M) pc) fun r => x_go X P.2.2.2.1 P.2.2.2.2.1 scr P.2.2.2.2.2.1 r.2.1 r.2.2.2.1 r.2.2.2.2.1 r.2.2.2.2.2.1 r.2.2.2.2.2.2.1 r.2.2.2.2.2.2.2 pc L st w
theorem x_one_pk {P : xP} {scr : Nat × (Nat → Int32)} {M pc : Nat} {L : xL} {st : List Value} {w : xW} : x_PK w (fun X => x_one P scr X M pc L st w) := xk_som fun _ => x_pick
/-- what is asked behind a call -/
def x_back (P : xP) (M pc pc' : Nat) (L : xL) (st : List Value) (k : Nat → xL → List Value → xW → Prop) : xO → xW → Prop := fun o w => match o with
  | .inl v => k pc' L (v.toList ++ st) w
  | .inr n => x_som (P.2.2.2.2.2.2 M pc n) fun h => k h.1 (x_set (x_st1 L h.2 .null) h.2 none) [] w
/-- the aim of a step, when the rest of the run is given by k (this method) and f (another one) -/
def x_aim (P : xP) (M pc : Nat) (Q : xO → xW → Prop) (k : Nat → xL → List Value → xW → Prop) (f : Nat → xL → xW → (xO → xW → Prop) → Prop) : xT → Prop := fun t => match t with
  | .inl (pc', L, st, w) => k pc' L st w
  | .inr (.inl (M', as, pc', L, st, w)) => x_if (Nat.blt (P.2.1 M') (P.2.1 M) && Nat.ble (x_cats as) (P.2.2.1 M')) (f M' (x_pad (P.2.2.1 M') (x_lay as)) w (x_back P M pc pc' L st k))
  | .inr (.inr (.inl (v, w))) => Q (.inl v) w
  | .inr (.inr (.inr (n, w))) => Q (.inr n) w
def x_wp (P : xP) (scr : Nat × (Nat → Int32)) : Nat → Nat → Nat → xL → List Value → xW → (xO → xW → Prop) → Prop
  | 0, _, _, _, _, _, _ => False
  | n + 1, M, pc, L, st, w, Q => x_one P scr (x_aim P M pc Q (fun pc L st w => x_wp P scr n M pc L st w Q) (fun M' L w Q' => x_wp P scr n M' 0 L [] w Q')) M pc L st w
theorem x_back_mono {P : xP} {M pc pc' : Nat} {L : xL} {st : List Value} {k k' : Nat → xL → List Value → xW → Prop} (hk : ∀ pc L st w, k pc L st w → k' pc L st w) : ∀ o w, x_back P M pc pc' L st k o w → x_back P M pc pc' L st k' o w := by
  intro o w h
  cases o with
  | inl v => exact hk _ _ _ _ h
  | inr n =>
    obtain ⟨a, e, h⟩ := x_som_of h
    show x_som _ _
    rw [e]
    exact hk _ _ _ _ h
theorem x_wp_mono {P : xP} {scr : Nat × (Nat → Int32)} : ∀ (n M pc : Nat) (L : xL) (st : List Value) (w : xW) (Q Q' : xO → xW → Prop), (∀ o w, Q o w → Q' o w) → x_wp P scr n M pc L st w Q → x_wp P scr n M pc L st w Q' := by
  intro n
  induction n with
  | zero => intro M pc L st w Q Q' hQ h; exact h.elim
  | succ n ih =>
    intro M pc L st w Q Q' hQ h
    obtain ⟨t, h1, hg, h2⟩ := x_one_pk _ h
    refine h2 _ ?_
    rcases t with ⟨pc', L', st', w'⟩ | ⟨M', as, pc', L', st', w'⟩ | ⟨v, w'⟩ | ⟨k, w'⟩
    · exact ih _ _ _ _ _ _ _ hQ h1
    · obtain ⟨hb, h1⟩ := x_if_of h1
      show x_if _ _
      rw [hb]
      exact ih _ _ _ _ _ _ _ (x_back_mono fun _ _ _ _ => ih _ _ _ _ _ _ _ hQ) h1
    · exact hQ _ _ h1
    · exact hQ _ _ h1
theorem x_wp_succ {P : xP} {scr : Nat × (Nat → Int32)} : ∀ (n M pc : Nat) (L : xL) (st : List Value) (w : xW) (Q : xO → xW → Prop), x_wp P scr n M pc L st w Q → x_wp P scr (n + 1) M pc L st w Q := by
  intro n
  induction n with
  | zero => intro M pc L st w Q h; exact h.elim
  | succ n ih =>
    intro M pc L st w Q h
    obtain ⟨t, h1, hg, h2⟩ := x_one_pk _ h
    refine h2 _ ?_
    rcases t with ⟨pc', L', st', w'⟩ | ⟨M', as, pc', L', st', w'⟩ | ⟨v, w'⟩ | ⟨k, w'⟩
    · exact ih _ _ _ _ _ _ h1
    · obtain ⟨hb, h1⟩ := x_if_of h1
      show x_if _ _
      rw [hb]
      exact x_wp_mono _ _ _ _ _ _ _ _ (x_back_mono fun _ _ _ _ => ih _ _ _ _ _ _) (ih _ _ _ _ _ _ h1)
    · exact h1
    · exact h1
theorem x_wp_le {P : xP} {scr : Nat × (Nat → Int32)} {n n' M pc : Nat} {L : xL} {st : List Value} {w : xW} {Q : xO → xW → Prop} (hn : n ≤ n') (h : x_wp P scr n M pc L st w Q) : x_wp P scr n' M pc L st w Q := by
  induction hn with
  | refl => exact h
  | step _ ih => exact x_wp_succ _ _ _ _ _ _ _ ih
/-- it ends in one way, and that way is as asked -/
theorem x_wp_det {P : xP} {scr : Nat × (Nat → Int32)} : ∀ (n M pc : Nat) (L : xL) (st : List Value) (w : xW) (Q : xO → xW → Prop), x_wp P scr n M pc L st w Q →
    ∃ o w', Q o w' ∧ x_wp P scr n M pc L st w (fun o2 w2 => o2 = o ∧ w2 = w') := by
  intro n
  induction n with
  | zero => intro M pc L st w Q h; exact h.elim
  | succ n ih =>
    intro M pc L st w Q h
    obtain ⟨t, h1, hg, h2⟩ := x_one_pk _ h
    rcases t with ⟨pc', L', st', w'⟩ | ⟨M', as, pc', L', st', w'⟩ | ⟨v, w'⟩ | ⟨k, w'⟩
    · obtain ⟨o, w2, q1, q2⟩ := ih _ _ _ _ _ _ h1
      exact ⟨o, w2, q1, h2 _ q2⟩
    · obtain ⟨hb, h1⟩ := x_if_of h1
      obtain ⟨o, w2, q1, q2⟩ := ih _ _ _ _ _ _ h1
      cases o with
      | inl v =>
        obtain ⟨o3, w3, r1, r2⟩ := ih _ _ _ _ _ _ q1
        refine ⟨o3, w3, r1, h2 _ ?_⟩
        show x_if _ _
        rw [hb]
        refine x_wp_mono _ _ _ _ _ _ _ _ (fun o w ho => ?_) q2
        obtain ⟨rfl, rfl⟩ := ho
        exact r2
      | inr k =>
        obtain ⟨a, ea, q1⟩ := x_som_of q1
        obtain ⟨o3, w3, r1, r2⟩ := ih _ _ _ _ _ _ q1
        refine ⟨o3, w3, r1, h2 _ ?_⟩
        show x_if _ _
        rw [hb]
        refine x_wp_mono _ _ _ _ _ _ _ _ (fun o w ho => ?_) q2
        obtain ⟨rfl, rfl⟩ := ho
        show x_som _ _
        rw [ea]
        exact r2
    · exact ⟨_, _, h1, h2 _ ⟨rfl, rfl⟩⟩
    · exact ⟨_, _, h1, h2 _ ⟨rfl, rfl⟩⟩
theorem x_wp_gr {P : xP} {scr : Nat × (Nat → Int32)} {w9 : xW} : ∀ (n M pc : Nat) (L : xL) (st : List Value) (w : xW) (Q : xO → xW → Prop), (∀ o w, Q o w → x_gr w w9) → x_wp P scr n M pc L st w Q → x_gr w w9 := by
  intro n
  induction n with
  | zero => intro M pc L st w Q hQ h; exact h.elim
  | succ n ih =>
    intro M pc L st w Q hQ h
    obtain ⟨t, h1, hg, h2⟩ := x_one_pk _ h
    refine x_gr_tr hg ?_
    rcases t with ⟨pc', L', st', w'⟩ | ⟨M', as, pc', L', st', w'⟩ | ⟨v, w'⟩ | ⟨k, w'⟩
    · exact ih _ _ _ _ _ _ hQ h1
    · obtain ⟨hb, h1⟩ := x_if_of h1
      refine ih _ _ _ _ _ _ (fun o w ho => ?_) h1
      cases o with
      | inl v => exact ih _ _ _ _ _ _ hQ ho
      | inr k =>
        obtain ⟨a, ea, q1⟩ := x_som_of ho
        exact ih _ _ _ _ _ _ hQ q1
    · exact hQ _ _ h1
    · exact hQ _ _ h1
/-- a run of method M from pc comes to an end as asked -/
def x_R (P : xP) (scr : Nat × (Nat → Int32)) (M pc : Nat) (L : xL) (st : List Value) (w : xW) (Q : xO → xW → Prop) : Prop := ∃ n, x_wp P scr n M pc L st w Q
theorem x_R_mono {P : xP} {scr : Nat × (Nat → Int32)} {M pc : Nat} {L : xL} {st : List Value} {w : xW} {Q Q' : xO → xW → Prop} (h : x_R P scr M pc L st w Q) (hQ : ∀ o w, Q o w → Q' o w) : x_R P scr M pc L st w Q' := by
  obtain ⟨n, h⟩ := h
  exact ⟨n, x_wp_mono _ _ _ _ _ _ _ _ hQ h⟩
def x_aimR (P : xP) (scr : Nat × (Nat → Int32)) (M pc : Nat) (Q : xO → xW → Prop) : xT → Prop := x_aim P M pc Q (fun pc L st w => x_R P scr M pc L st w Q) (fun M' L w Q' => x_R P scr M' 0 L [] w Q')
theorem x_R_step {P : xP} {scr : Nat × (Nat → Int32)} {M pc : Nat} {L : xL} {st : List Value} {w : xW} {Q : xO → xW → Prop} (h : x_one P scr (x_aimR P scr M pc Q) M pc L st w) : x_R P scr M pc L st w Q := by
  obtain ⟨t, h1, hg, h2⟩ := x_one_pk _ h
  rcases t with ⟨pc', L', st', w'⟩ | ⟨M', as, pc', L', st', w'⟩ | ⟨v, w'⟩ | ⟨k, w'⟩
  · obtain ⟨n, h1⟩ := h1
    exact ⟨n + 1, h2 _ h1⟩
  · obtain ⟨hb, n, h1⟩ := x_if_of h1
    obtain ⟨o, w2, q1, q2⟩ := x_wp_det _ _ _ _ _ _ _ h1
    cases o with
    | inl v =>
      obtain ⟨n2, r2⟩ := q1
      refine ⟨max n n2 + 1, h2 _ ?_⟩
      show x_if _ _
      rw [hb]
      refine x_wp_mono _ _ _ _ _ _ _ _ (fun o w ho => ?_) (x_wp_le (Nat.le_max_left n n2) q2)
      obtain ⟨rfl, rfl⟩ := ho
      exact x_wp_le (Nat.le_max_right n n2) r2
    | inr k =>
      obtain ⟨a, ea, n2, r2⟩ := x_som_of q1
      refine ⟨max n n2 + 1, h2 _ ?_⟩
      show x_if _ _
      rw [hb]
      refine x_wp_mono _ _ _ _ _ _ _ _ (fun o w ho => ?_) (x_wp_le (Nat.le_max_left n n2) q2)
      obtain ⟨rfl, rfl⟩ := ho
      show x_som _ _
      rw [ea]
      exact x_wp_le (Nat.le_max_right n n2) r2
  · exact ⟨1, h2 _ h1⟩
  · exact ⟨1, h2 _ h1⟩
/-- some steps at once: f of them, or until a place of the list is come to -/
def x_mem (pc : Nat) : List Nat → Bool
  | [] => false
  | a :: t => match Nat.beq a pc with
    | true => true
    | false => x_mem pc t
def x_ch (b : Bool) (A B : Prop) : Prop := match b with
  | true => A
  | false => B
def x_ev (P : xP) (scr : Nat × (Nat → Int32)) (M : Nat) (Q : xO → xW → Prop) (stops : List Nat) : Nat → Nat → xL → List Value → xW → Prop
  | 0, pc, L, st, w => x_R P scr M pc L st w Q
  | f + 1, pc, L, st, w => x_one P scr (x_aim P M pc Q (fun pc' L' st' w' => x_ch (x_mem pc' stops) (x_R P scr M pc' L' st' w' Q) (x_ev P scr M Q stops f pc' L' st' w')) (fun M' L' w' Q' => x_R P scr M' 0 L' [] w' Q')) M pc L st w
theorem x_ev_R {P : xP} {scr : Nat × (Nat → Int32)} {M : Nat} {Q : xO → xW → Prop} (stops : List Nat) : ∀ (f : Nat) {pc : Nat} {L : xL} {st : List Value} {w : xW}, x_ev P scr M Q stops f pc L st w → x_R P scr M pc L st w Q := by
  intro f
  induction f with
  | zero => intro pc L st w h; exact h
  | succ f ih =>
    intro pc L st w h
    have hk : ∀ pc' L' st' w', x_ch (x_mem pc' stops) (x_R P scr M pc' L' st' w' Q) (x_ev P scr M Q stops f pc' L' st' w') → x_R P scr M pc' L' st' w' Q := by
      intro pc' L' st' w' h
      cases hm : x_mem pc' stops with
      | true => rw [hm] at h; exact h
      | false => rw [hm] at h; exact ih h
    obtain ⟨t, h1, hg, h2⟩ := x_one_pk _ h
    refine x_R_step (h2 _ ?_)
    rcases t with ⟨pc', L', st', w'⟩ | ⟨M', as, pc', L', st', w'⟩ | ⟨v, w'⟩ | ⟨k, w'⟩
    · exact hk _ _ _ _ h1
    · obtain ⟨hb, h1⟩ := x_if_of h1
      show x_if _ _
      rw [hb]
      exact x_R_mono h1 (x_back_mono hk)
    · exact h1
    · exact h1
end
section
/-! A world of numbered cells, and the heap: ad gives each cell its address. -/
def x_cv (ad : Nat → Nat) (v : Value) : Value := match v with
  | .ref i => .ref (ad i)
  | v => v
def x_rv (ad : Nat → Nat) (i : Nat) : Value := match i with
  | 0 => .null
  | j + 1 => .ref (ad (j + 1))
def x_fv (fk : Nat → Nat → Nat) (ad : Nat → Nat) (w : xW) (o ci k : Nat) : Value := match fk ci k with
  | 0 => .int (x_i w o k)
  | 1 => .long (x_j w o k)
  | _ + 2 => x_rv ad (x_r w o k)
def x_ce (cA : Nat → ClassId) (nf : Nat → Nat) (fk : Nat → Nat → Nat) (ad : Nat → Nat) (w : xW) (o : Nat) : va_E := match x_k w o with
  | 0 => .inl (cA 0, x_l w o, .inl (x_i w o))
  | 1 => .inl (cA 1, x_l w o, .inl (x_i w o))
  | 2 => .inl (cA 2, x_l w o, .inr (.inl (x_j w o)))
  | ci + 3 => .inr (ci, (List.range (nf ci)).map (x_fv fk ad w o ci))
def x_wd (cA : Nat → ClassId) (nf : Nat → Nat) (fk : Nat → Nat → Nat) (ad : Nat → Nat) (w : xW) : va_W := (List.range (x_N w)).map fun i => (ad i, x_ce cA nf fk ad w i)
/-- a reference within N cells, or to something that is no cell of the world -/
def x_wf (N : Nat) (v : Value) : Prop := match v with
  | .ref i => i < N ∨ x_sc ≤ i
  | _ => True
/-- the same addresses below N, and of what is no cell of the world -/
def x_ext (N : Nat) (ad ad' : Nat → Nat) : Prop := ∀ i, i < N ∨ x_sc ≤ i → ad' i = ad i
theorem x_ext_rf {N : Nat} {ad : Nat → Nat} : x_ext N ad ad := fun _ _ => rfl
theorem x_ext_tr {N N' : Nat} {a b c : Nat → Nat} (hN : N ≤ N') (h : x_ext N a b) (h2 : x_ext N' b c) : x_ext N a c := fun i hi => by
  rw [h2 i (by rcases hi with hi | hi <;> omega), h i hi]
theorem x_ext_le {N N' : Nat} {a b : Nat → Nat} (hN : N ≤ N') (h : x_ext N' a b) : x_ext N a b := fun i hi => h i (by rcases hi with hi | hi <;> omega)
theorem x_wf_le {N N' : Nat} (hN : N ≤ N') {v : Value} (h : x_wf N v) : x_wf N' v := by
  cases v <;> first | trivial | skip
  rcases h with h | h
  · exact Or.inl (Nat.lt_of_lt_of_le h hN)
  · exact Or.inr h
theorem x_cat_cv (ad : Nat → Nat) (v : Value) : (x_cv ad v).category = v.category := by cases v <;> rfl
theorem x_cats_cv (ad : Nat → Nat) (st : List Value) : ((st.map (x_cv ad)).map fun v => v.category).sum = x_cats st := by
  induction st with
  | nil => rfl
  | cons v r ih =>
    simp only [List.map_cons, List.sum_cons, ih, x_cat_cv]
    cases v <;> rfl
theorem x_wd_len {cA : Nat → ClassId} {nf : Nat → Nat} {fk : Nat → Nat → Nat} {ad : Nat → Nat} {w : xW} : (x_wd cA nf fk ad w).length = x_N w := by simp [x_wd]
theorem x_wd_at {cA : Nat → ClassId} {nf : Nat → Nat} {fk : Nat → Nat → Nat} {ad : Nat → Nat} {w : xW} {o : Nat} (ho : o < x_N w) : (x_wd cA nf fk ad w)[o]? = some (ad o, x_ce cA nf fk ad w o) := by
  simp [x_wd, ho]
theorem x_wd_in {cA : Nat → ClassId} {nf : Nat → Nat} {fk : Nat → Nat → Nat} {ad : Nat → Nat} {w : xW} {o : Nat} {q : Nat × va_E} (h : (x_wd cA nf fk ad w)[o]? = some q) : o < x_N w ∧ q = (ad o, x_ce cA nf fk ad w o) := by
  have h1 : o < x_N w := by
    have := (List.getElem?_eq_some_iff.mp h).1
    rwa [x_wd_len] at this
  rw [x_wd_at h1] at h
  exact ⟨h1, (Option.some.inj h).symm⟩
theorem x_ce_eq {cA : Nat → ClassId} {nf : Nat → Nat} {fk : Nat → Nat → Nat} {ad : Nat → Nat} {w w' : xW} {o : Nat} (hk : x_k w' o = x_k w o) (hl : x_l w' o = x_l w o) (hi : x_i w' o = x_i w o) (hj : x_j w' o = x_j w o) (hr : x_r w' o = x_r w o) : x_ce cA nf fk ad w' o = x_ce cA nf fk ad w o := by
  have hf : ∀ ci, x_fv fk ad w' o ci = x_fv fk ad w o ci := by
    intro ci; funext k
    simp only [x_fv, hi, hj, hr]
  simp only [x_ce, hk, hl, hi, hj, hf]
theorem x_wd_set {cA : Nat → ClassId} {nf : Nat → Nat} {fk : Nat → Nat → Nat} {ad : Nat → Nat} {w w' : xW} {o : Nat} {e : va_E} (hN : x_N w' = x_N w) (he : x_ce cA nf fk ad w' o = e) (hne : ∀ i, ¬ i = o → x_ce cA nf fk ad w' i = x_ce cA nf fk ad w i) : (x_wd cA nf fk ad w).set o (ad o, e) = x_wd cA nf fk ad w' := by
  apply List.ext_getElem?
  intro i
  rw [List.getElem?_set, x_wd_len]
  by_cases hi : i < x_N w
  · rw [x_wd_at (w := w') (by rw [hN]; exact hi), x_wd_at hi]
    by_cases h : o = i
    · subst h
      rw [if_pos rfl, if_pos hi, he]
    · rw [if_neg h, hne i (fun q => h q.symm)]
  · have h1 : (x_wd cA nf fk ad w')[i]? = none := by rw [List.getElem?_eq_none_iff, x_wd_len, hN]; omega
    have h2 : (x_wd cA nf fk ad w)[i]? = none := by rw [List.getElem?_eq_none_iff, x_wd_len]; omega
    rw [h1, h2]
    by_cases h : o = i
    · rw [if_pos h, if_neg (by omega)]
    · rw [if_neg h]
theorem x_rv_ext {N : Nat} {ad ad' : Nat → Nat} (h : x_ext N ad ad') {i : Nat} (hi : i = 0 ∨ i < N) : x_rv ad' i = x_rv ad i := by
  cases i with
  | zero => rfl
  | succ j =>
    show Value.ref (ad' (j + 1)) = Value.ref (ad (j + 1))
    rw [h (j + 1) (Or.inl (by rcases hi with hi | hi <;> omega))]
theorem x_cv_ext {N : Nat} {ad ad' : Nat → Nat} (h : x_ext N ad ad') {v : Value} (hv : x_wf N v) : x_cv ad' v = x_cv ad v := by
  cases v with
  | ref i =>
    show Value.ref (ad' i) = Value.ref (ad i)
    rw [h i hv]
  | _ => rfl
theorem x_ce_ext {cA : Nat → ClassId} {nf : Nat → Nat} {fk : Nat → Nat → Nat} {ad ad' : Nat → Nat} {w : xW} {o : Nat} (h : x_ext (x_N w) ad ad') (hr : ∀ o k, x_r w o k = 0 ∨ x_r w o k < x_N w) : x_ce cA nf fk ad' w o = x_ce cA nf fk ad w o := by
  have hf : ∀ ci, x_fv fk ad' w o ci = x_fv fk ad w o ci := by
    intro ci; funext k
    simp only [x_fv]
    split
    · rfl
    · rfl
    · exact x_rv_ext h (hr o k)
  simp only [x_ce, hf]
/-- one cell more -/
theorem x_wd_push {cA : Nat → ClassId} {nf : Nat → Nat} {fk : Nat → Nat → Nat} {ad ad' : Nat → Nat} {w : xW} {kind len n q : Nat} {e : va_E} (h : x_ext (x_N w) ad ad') (hq : ad' (x_N w) = q) (hr : ∀ o k, x_r w o k = 0 ∨ x_r w o k < x_N w) (he : x_ce cA nf fk ad' (x_new w kind len n) (x_N w) = e) :
    x_wd cA nf fk ad w ++ [(q, e)] = x_wd cA nf fk ad' (x_new w kind len n) := by
  have h0 : x_wd cA nf fk ad' (x_new w kind len n) = (List.range (x_N w + 1)).map fun i => (ad' i, x_ce cA nf fk ad' (x_new w kind len n) i) := rfl
  rw [h0, List.range_succ, List.map_append, List.map_singleton, he, hq]
  congr 1
  unfold x_wd
  apply List.map_congr_left
  intro i hi
  have hi := List.mem_range.mp hi
  have hne : ¬ i = x_N w := by omega
  rw [h i (Or.inl hi), x_ce_eq (w := w) (w' := x_new w kind len n) (by simp [x_new, x_k, x_row, hne]) (by simp [x_new, x_l, x_row, hne]) (by simp [x_new, x_i, x_row, hne]) (by simp [x_new, x_j, x_row, hne]) (by simp [x_new, x_r, x_row, hne]), x_ce_ext h hr]
/-- the heap holds the world, apart, in A; fields name cells of the world; no cell lies behind the last -/
def x_rep (cl : List vw_C) (D : va_G) (cA : Nat → ClassId) (nf : Nat → Nat) (fk : Nat → Nat → Nat) (A : Nat → Prop) (ad : Nat → Nat) (w : xW) (H : Heap) : Prop :=
  va_P D cl (x_wd cA nf fk ad w) H ∧ va_D A (x_wd cA nf fk ad w) ∧ (∀ o, x_N w ≤ o → x_k w o = 99) ∧ ∀ o k, x_r w o k = 0 ∨ x_r w o k < x_N w
/-- the locals -/
def x_lh (ad : Nat → Nat) (nL : Nat) (ls : Array Slot) (L : xL) : Prop := ls.size = nL ∧ lv_wf ls ∧ ∀ i v, x_at L i = some v → ls[i]? = some (.val (x_cv ad v))
def x_as (ad : Nat → Nat) : Nat → xL → List (Nat × Value)
  | _, [] => []
  | i, some v :: t => (i, x_cv ad v) :: x_as ad (i + 1) t
  | i, none :: t => x_as ad (i + 1) t
theorem x_as_in {ad : Nat → Nat} : ∀ (L : xL) (i : Nat) (q : Nat × Value), q ∈ x_as ad i L ↔ ∃ j v, x_at L j = some v ∧ q = (i + j, x_cv ad v)
  | [], i, q => by simp [x_as, x_at]
  | none :: t, i, q => by
    rw [x_as, x_as_in t (i + 1) q]
    constructor
    · rintro ⟨j, v, h1, h2⟩
      exact ⟨j + 1, v, h1, by rw [h2]; congr 1; omega⟩
    · rintro ⟨j, v, h1, h2⟩
      cases j with
      | zero => cases h1
      | succ j => exact ⟨j, v, h1, by rw [h2]; congr 1; omega⟩
  | some a :: t, i, q => by
    rw [x_as, List.mem_cons, x_as_in t (i + 1) q]
    constructor
    · rintro (h | ⟨j, v, h1, h2⟩)
      · exact ⟨0, a, rfl, h⟩
      · exact ⟨j + 1, v, h1, by rw [h2]; congr 1; omega⟩
    · rintro ⟨j, v, h1, h2⟩
      cases j with
      | zero => cases h1; exact Or.inl h2
      | succ j => exact Or.inr ⟨j, v, h1, by rw [h2]; congr 1; omega⟩
theorem x_lh_as {ad : Nat → Nat} {nL : Nat} {ls : Array Slot} {L : xL} (h : x_lh ad nL ls L) : lv_has ls nL (x_as ad 0 L) := by
  refine ⟨h.1, h.2.1, fun q hq => ?_⟩
  obtain ⟨j, v, h1, rfl⟩ := (x_as_in L 0 q).mp hq
  rw [Nat.zero_add]
  exact h.2.2 j v h1
theorem x_at_set : ∀ (L : xL) (i j : Nat) (a : Option Value) (v : Value), x_at (x_set L i a) j = some v → (j = i ∧ a = some v) ∨ (¬ j = i ∧ x_at L j = some v)
  | [], i, j, a, v, h => by simp [x_set, x_at] at h
  | b :: t, 0, 0, a, v, h => Or.inl ⟨rfl, h⟩
  | b :: t, 0, j + 1, a, v, h => Or.inr ⟨by omega, h⟩
  | b :: t, i + 1, 0, a, v, h => Or.inr ⟨by omega, h⟩
  | b :: t, i + 1, j + 1, a, v, h => by
    rcases x_at_set t i j a v h with ⟨h1, h2⟩ | ⟨h1, h2⟩
    · exact Or.inl ⟨by omega, h2⟩
    · exact Or.inr ⟨by omega, h2⟩
theorem x_two_cat {v : Value} : x_two (some v) = true ↔ v.category = 2 := by cases v <;> simp [x_two, Value.category]
theorem x_at_cl {L : xL} {i j : Nat} {v : Value} (h : x_at (x_cl L i) j = some v) : x_at L j = some v ∧ ¬ (j = i ∧ v.category = 2) := by
  unfold x_cl at h
  cases ht : x_two (x_at L i) with
  | true =>
    rw [ht] at h
    rcases x_at_set _ _ _ _ _ h with ⟨-, h2⟩ | ⟨h1, h2⟩
    · cases h2
    · exact ⟨h2, fun q => h1 q.1⟩
  | false =>
    rw [ht] at h
    refine ⟨h, fun q => ?_⟩
    obtain ⟨rfl, q2⟩ := q
    have h3 : x_at L j = some v := h
    rw [h3, x_two_cat.mpr q2] at ht
    cases ht
theorem x_at_st1 {L : xL} {i j : Nat} {v u : Value} (h : x_at (x_st1 L i v) j = some u) : (j = i ∧ u = v) ∨ (¬ j = i ∧ x_at L j = some u ∧ ¬ (j + 1 = i ∧ u.category = 2)) := by
  cases i with
  | zero =>
    rcases x_at_set _ _ _ _ _ h with ⟨h1, h2⟩ | ⟨h1, h2⟩
    · exact Or.inl ⟨h1, (Option.some.inj h2).symm⟩
    · exact Or.inr ⟨h1, h2, fun q => by omega⟩
  | succ i =>
    rcases x_at_set _ _ _ _ _ h with ⟨h1, h2⟩ | ⟨h1, h2⟩
    · exact Or.inl ⟨h1, (Option.some.inj h2).symm⟩
    · obtain ⟨h3, h4⟩ := x_at_cl h2
      exact Or.inr ⟨h1, h3, fun q => h4 ⟨by omega, q.2⟩⟩
theorem x_at_st2 {L : xL} {i j : Nat} {v u : Value} (h : x_at (x_st2 L i v) j = some u) : (j = i ∧ u = v) ∨ (¬ j = i ∧ ¬ j = i + 1 ∧ x_at L j = some u ∧ ¬ (j + 1 = i ∧ u.category = 2)) := by
  rcases x_at_set _ _ _ _ _ h with ⟨h1, h2⟩ | ⟨h1, h2⟩
  · cases h2
  · rcases x_at_st1 h2 with ⟨h3, h4⟩ | ⟨h3, h4, h5⟩
    · exact Or.inl ⟨h3, h4⟩
    · exact Or.inr ⟨h3, h1, h4, h5⟩
theorem x_lh_st1 {ad : Nat → Nat} {nL : Nat} {ls' : Array Slot} {L : xL} {i : Nat} {v : Value} (h' : lv_has ls' nL ((i, x_cv ad v) :: (x_as ad 0 L).filter (fun q => !(q.1 == i) && !(q.1 + 1 == i && q.2.category == 2)))) : x_lh ad nL ls' (x_st1 L i v) := by
  refine ⟨h'.1, h'.2.1, fun j u hu => ?_⟩
  rcases x_at_st1 hu with ⟨rfl, rfl⟩ | ⟨h1, h2, h3⟩
  · exact h'.2.2 (j, x_cv ad u) List.mem_cons_self
  · refine h'.2.2 (j, x_cv ad u) (List.mem_cons_of_mem _ (List.mem_filter.mpr ⟨(x_as_in L 0 _).mpr ⟨j, u, h2, by rw [Nat.zero_add]⟩, ?_⟩))
    simp only [x_cat_cv]
    simp only [Bool.and_eq_true, Bool.not_eq_true', beq_eq_false_iff_ne, ne_eq, Bool.and_eq_false_iff]
    refine ⟨h1, ?_⟩
    by_cases hj : j + 1 = i
    · exact Or.inr fun q => h3 ⟨hj, q⟩
    · exact Or.inl hj
theorem x_lh_st2 {ad : Nat → Nat} {nL : Nat} {ls' : Array Slot} {L : xL} {i : Nat} {v : Value} (h' : lv_has ls' nL ((i, x_cv ad v) :: (x_as ad 0 L).filter (fun q => !(q.1 == i) && (!(q.1 == i + 1) && !(q.1 + 1 == i && q.2.category == 2))))) : x_lh ad nL ls' (x_st2 L i v) := by
  refine ⟨h'.1, h'.2.1, fun j u hu => ?_⟩
  rcases x_at_st2 hu with ⟨rfl, rfl⟩ | ⟨h1, h0, h2, h3⟩
  · exact h'.2.2 (j, x_cv ad u) List.mem_cons_self
  · refine h'.2.2 (j, x_cv ad u) (List.mem_cons_of_mem _ (List.mem_filter.mpr ⟨(x_as_in L 0 _).mpr ⟨j, u, h2, by rw [Nat.zero_add]⟩, ?_⟩))
    simp only [x_cat_cv]
    simp only [Bool.and_eq_true, Bool.not_eq_true', beq_eq_false_iff_ne, ne_eq, Bool.and_eq_false_iff]
    refine ⟨h1, h0, ?_⟩
    by_cases hj : j + 1 = i
    · exact Or.inr fun q => h3 ⟨hj, q⟩
    · exact Or.inl hj
end
section
/-! Each step of the small machine is a step of the JVM. -/
def x_tys (cA : Nat → ClassId) : List (ClassId × FieldType) := [(cA 0, .int), (cA 1, .boolean), (cA 2, .long)]
/-- a class of the tables: ct a, with the types of its fields -/
def x_cf (cl : List vw_C) (ct : Nat → vw_C) (fk : Nat → Nat → Nat) (ty : Nat → Nat → FieldType) (Ts : List Cond) (a : Nat) : Prop :=
  cl[a]? = some (ct a) ∧ a < 90 ∧ (∀ w ∈ u_ws (ct a).1 (ct a).2.1 (ct a).2.2, w ∈ Ts) ∧ (∀ k, k < (ct a).2.2 → parseFieldDescriptor ((ct a).2.1 k).2.2.1 = some (ty a k)) ∧
  (∀ i, i < (ct a).2.2 → ∀ j, j < (ct a).2.2 → i ≠ j → ((ct a).2.1 i).2.1 ≠ ((ct a).2.1 j).2.1) ∧ ∀ k, k < (ct a).2.2 → (fk a k = 0 ∧ (ty a k = .int ∨ ty a k = .boolean)) ∨ (fk a k = 1 ∧ ty a k = .long) ∨ (fk a k = 2 ∧ ((∃ C, ty a k = .object C) ∨ ∃ t, ty a k = .array t))
/-- a link to field b of class a -/
def x_fl (ct : Nat → vw_C) (Ts : List Cond) (own : String) (idx a b : Nat) : Prop :=
  b < (ct a).2.2 ∧ ∃ ref, Cond.fieldLink own idx ref ((ct a).2.1 b).2.1 ((ct a).2.1 b).2.2.1 ∈ Ts ∧ (((ct a).2.1 b).1 = ref ∨ Cond.sameField ref ((ct a).2.1 b).1 ((ct a).2.1 b).2.1 ((ct a).2.1 b).2.2.1 ∈ Ts)
theorem x_fv_at {ct : Nat → vw_C} {fk : Nat → Nat → Nat} {ad : Nat → Nat} {w : xW} {o a b : Nat} (hb : b < (ct a).2.2) : ((List.range (ct a).2.2).map (x_fv fk ad w o a))[b]? = some (x_fv fk ad w o a b) := by
  simp [hb]
theorem x_fv_set {n : Nat} {fk : Nat → Nat → Nat} {ad : Nat → Nat} {w w' : xW} {o a b : Nat} {v : Value} (hv : x_fv fk ad w' o a b = v) (hne : ∀ k, ¬ k = b → x_fv fk ad w' o a k = x_fv fk ad w o a k) : ((List.range n).map (x_fv fk ad w o a)).set b v = (List.range n).map (x_fv fk ad w' o a) := by
  apply List.ext_getElem?
  intro i
  rw [List.getElem?_set]
  simp only [List.length_map, List.length_range, List.getElem?_map]
  by_cases hi : i < n
  · rw [List.getElem?_range hi]
    by_cases h : b = i
    · subst h
      rw [if_pos rfl, if_pos hi]
      simp [hv]
    · rw [if_neg h]
      simp [hne i (fun q => h q.symm)]
  · have h1 : (List.range n)[i]? = none := by simp; omega
    rw [h1]
    by_cases h : b = i
    · subst h
      rw [if_pos rfl, if_neg hi]
      rfl
    · rw [if_neg h]
      rfl
/-- the kind of a cell tells what it holds -/
theorem x_ce_obj {cA : Nat → ClassId} {nf : Nat → Nat} {fk : Nat → Nat → Nat} {ad : Nat → Nat} {w : xW} {o a : Nat} (h : x_k w o = a + 3) : x_ce cA nf fk ad w o = .inr (a, (List.range (nf a)).map (x_fv fk ad w o a)) := by
  unfold x_ce; rw [h]
theorem x_ce_0 {cA : Nat → ClassId} {nf : Nat → Nat} {fk : Nat → Nat → Nat} {ad : Nat → Nat} {w : xW} {o : Nat} (h : x_k w o = 0) : x_ce cA nf fk ad w o = .inl (cA 0, x_l w o, .inl (x_i w o)) := by
  unfold x_ce; rw [h]
theorem x_ce_1 {cA : Nat → ClassId} {nf : Nat → Nat} {fk : Nat → Nat → Nat} {ad : Nat → Nat} {w : xW} {o : Nat} (h : x_k w o = 1) : x_ce cA nf fk ad w o = .inl (cA 1, x_l w o, .inl (x_i w o)) := by
  unfold x_ce; rw [h]
theorem x_ce_2 {cA : Nat → ClassId} {nf : Nat → Nat} {fk : Nat → Nat → Nat} {ad : Nat → Nat} {w : xW} {o : Nat} (h : x_k w o = 2) : x_ce cA nf fk ad w o = .inl (cA 2, x_l w o, .inr (.inl (x_j w o))) := by
  unfold x_ce; rw [h]
theorem x_up_s {α : Type} {f : Nat → Nat → α} {o k : Nat} {v : α} : x_up f o k v o k = v := by simp [x_up]
theorem x_up_k {α : Type} {f : Nat → Nat → α} {o k k' : Nat} {v : α} (h : ¬ k' = k) : x_up f o k v o k' = f o k' := by simp [x_up, h]
theorem x_up_o {α : Type} {f : Nat → Nat → α} {o o' k : Nat} {v : α} (h : ¬ o' = o) : x_up f o k v o' = f o' := by simp [x_up, h]
section X4
variable {cl : List vw_C} {D : va_G} {cA : Nat → ClassId} {ct : Nat → vw_C} {fk : Nat → Nat → Nat} {ty : Nat → Nat → FieldType} {Ts : List Cond} {A : Nat → Prop} {ad : Nat → Nat} {w : xW} {H H0 : Heap}
variable {p : Program} {l : Launch} {e : Env} {R : Room} {s : State} {m : MethodId} {args : Array Value} {below : List Frame} {meth : Method} {c : Code} {locs : List Loc} {cells slots : Nat} {Q : State → Prop} {cc : ByteArray} {pc : Nat} {ls : Array Slot} {rest : List Value}
theorem x_in (hrep : x_rep cl D cA (fun a => (ct a).2.2) fk A ad w H) {o k : Nat} (h : x_k w o = k) (hk : ¬ k = 99) : o < x_N w := by
  by_cases ho : o < x_N w
  · exact ho
  · exact absurd (h.symm.trans (hrep.2.2.1 o (by omega))) hk
theorem x_getI (hexec : p.tables.exec = Jvm.exec) (hb : c.code = cc) {own : String} {idx a b o : Nat} (hts : ∀ w ∈ Ts, w.before args s = true) (hcf : x_cf cl ct fk ty Ts a) (hfl : x_fl ct Ts own idx a b) (hown : s.vm.findClass own = some m.cls) (hK : va_K D cl (x_tys cA) s) (hrep : x_rep cl D cA (fun a => (ct a).2.2) fk A ad w H) (hk : x_k w o = a + 3) (hdg : decode cc pc = .ok (.getfield idx, 3))
    (kk : W p l e R s m args below meth c H locs cells slots Q (F0 m (pc + 3) ls (x_fv fk ad w o a b :: rest))) : W p l e R s m args below meth c H locs cells slots Q (F0 m pc ls (.ref (ad o) :: rest)) := by
  obtain ⟨h1, h2, h3, h4, h5, h6⟩ := hcf
  obtain ⟨g1, ref, g2, g3⟩ := hfl
  have ho := x_in hrep hk (by omega)
  refine va_get (D := D) (ci := a) (C := (ct a).1) (T := (ct a).2.1) (N := (ct a).2.2) hexec hb hts h3 hown hK hrep.1 o (by rw [x_wd_at ho, x_ce_obj hk]) h1 b g1 (hts _ g2) (fun x hx => ?_) (x_fv_at g1) hdg kk
  rcases g3 with g3 | g3
  · rw [← g3]; exact hx
  · exact u_same (hts _ g3) x hx
theorem x_put (hexec : p.tables.exec = Jvm.exec) (hb : c.code = cc) {own : String} {idx a b o : Nat} {w' : xW} {v : Value} {t : FieldType} (hts : ∀ w ∈ Ts, w.before args s = true) (hcf : x_cf cl ct fk ty Ts a) (hfl : x_fl ct Ts own idx a b) (hfin : ((ct a).2.1 b).2.2.2 = false ∨ (((ct a).2.1 b).2.2.2 = true ∧ meth.name = "<init>" ∧ ((ct a).2.1 b).1 = own)) (hown : s.vm.findClass own = some m.cls) (hK : va_K D cl (x_tys cA) s) (hrep : x_rep cl D cA (fun a => (ct a).2.2) fk A ad w H) (hS : va_S A H0 H locs) (hk : x_k w o = a + 3)
    (hty : ty a b = t) (hn : narrow t v = v) (hfit : fits t v = true) (hN : x_N w' = x_N w) (hkk : x_k w' = x_k w) (hce : ∀ i, ¬ i = o → x_ce cA (fun a => (ct a).2.2) fk ad w' i = x_ce cA (fun a => (ct a).2.2) fk ad w i) (hv : x_fv fk ad w' o a b = v) (hne : ∀ k, ¬ k = b → x_fv fk ad w' o a k = x_fv fk ad w o a k) (hr : ∀ o k, x_r w' o k = 0 ∨ x_r w' o k < x_N w)
    (hdg : decode cc pc = .ok (.putfield idx, 3)) (kk : ∀ (H1 : Heap) (locs1 : List Loc), x_rep cl D cA (fun a => (ct a).2.2) fk A ad w' H1 → va_S A H0 H1 locs1 → W p l e R s m args below meth c H1 locs1 cells slots Q (F0 m (pc + 3) ls rest)) : W p l e R s m args below meth c H locs cells slots Q (F0 m pc ls (v :: .ref (ad o) :: rest)) := by
  obtain ⟨h1, h2, h3, h4, h5, h6⟩ := hcf
  obtain ⟨g1, ref, g2, g3⟩ := hfl
  have ho := x_in hrep hk (by omega)
  have hsame : ∀ x, s.fieldFound? ((ct a).2.1 b).1 ((ct a).2.1 b).2.1 ((ct a).2.1 b).2.2.1 = some x → s.fieldFound? ref ((ct a).2.1 b).2.1 ((ct a).2.1 b).2.2.1 = some x := by
    intro x hx
    rcases g3 with g3 | g3
    · rw [← g3]; exact hx
    · exact u_same (hts _ g3) x hx
  have hd : parseFieldDescriptor ((ct a).2.1 b).2.2.1 = some t := by rw [h4 b g1, hty]
  have hset : (x_wd cA (fun a => (ct a).2.2) fk ad w).set o (ad o, .inr (a, ((List.range (ct a).2.2).map (x_fv fk ad w o a)).set b v)) = x_wd cA (fun a => (ct a).2.2) fk ad w' := by
    refine x_wd_set hN ?_ hce
    rw [x_ce_obj (by rw [hkk]; exact hk), x_fv_set hv hne]
  have hl : b < ((List.range (ct a).2.2).map (x_fv fk ad w o a)).length := by simpa using g1
  have hend : ∀ (H1 : Heap) (locs1 : List Loc), va_P D cl ((x_wd cA (fun a => (ct a).2.2) fk ad w).set o (ad o, .inr (a, ((List.range (ct a).2.2).map (x_fv fk ad w o a)).set b v))) H1 → va_D A ((x_wd cA (fun a => (ct a).2.2) fk ad w).set o (ad o, .inr (a, ((List.range (ct a).2.2).map (x_fv fk ad w o a)).set b v))) → va_S A H0 H1 locs1 → W p l e R s m args below meth c H1 locs1 cells slots Q (F0 m (pc + 3) ls rest) := by
    intro H1 locs1 hP hD hS
    rw [hset] at hP hD
    exact kk H1 locs1 ⟨hP, hD, fun i hi => by rw [hkk]; exact hrep.2.2.1 i (by rw [← hN]; exact hi), fun i k => by rw [hN]; exact hr i k⟩ hS
  rcases hfin with hfin | ⟨hf1, hf2, hf3⟩
  · exact va_put (D := D) (ci := a) (v := v) (ty := t) (C := (ct a).1) (T := (ct a).2.1) (N := (ct a).2.2) hexec hb hts h3 (ty a) h4 h5 hown hK hrep.1 hrep.2.1 hS o (by rw [x_wd_at ho, x_ce_obj hk]) h1 b g1 (hts _ g2) hsame hfin hd hn hfit hl hdg hend
  · exact va_putF (D := D) (ci := a) (v := v) (ty := t) (C := (ct a).1) (T := (ct a).2.1) (N := (ct a).2.2) hexec hb hts h3 (ty a) h4 h5 hown hK hrep.1 hrep.2.1 hS o (by rw [x_wd_at ho, x_ce_obj hk]) h1 b g1 (hts _ g2) hsame hf1 hf2 hf3 hd hn hfit hl hdg hend
end X4
section X5
variable {cl : List vw_C} {D : va_G} {cA : Nat → ClassId} {ct : Nat → vw_C} {fk : Nat → Nat → Nat} {ty : Nat → Nat → FieldType} {Ts : List Cond} {A : Nat → Prop} {ad : Nat → Nat} {w : xW} {H H0 : Heap}
variable {p : Program} {l : Launch} {e : Env} {R : Room} {s : State} {m : MethodId} {args : Array Value} {below : List Frame} {meth : Method} {c : Code} {locs : List Loc} {cells slots : Nat} {Q : State → Prop} {cc : ByteArray} {pc : Nat} {ls : Array Slot} {rest : List Value}
theorem x_i_si {o k : Nat} {v : Int32} : x_i (x_si w o k v) o = upd (x_i w o) k v := by
  funext j
  simp [x_i, x_si, x_up, upd]
theorem x_j_sj {o k : Nat} {v : Int64} : x_j (x_sj w o k v) o = vp_updL (x_j w o) k v := by
  funext j
  simp [x_j, x_sj, x_up, vp_updL]
theorem x_ce_si {nf : Nat → Nat} {o i k : Nat} {v : Int32} (h : ¬ i = o) : x_ce cA nf fk ad (x_si w o k v) i = x_ce cA nf fk ad w i := x_ce_eq rfl rfl (x_up_o h) rfl rfl
theorem x_ce_sj {nf : Nat → Nat} {o i k : Nat} {v : Int64} (h : ¬ i = o) : x_ce cA nf fk ad (x_sj w o k v) i = x_ce cA nf fk ad w i := x_ce_eq rfl rfl rfl (x_up_o h) rfl
theorem x_ce_sr {nf : Nat → Nat} {o i k : Nat} {v : Nat} (h : ¬ i = o) : x_ce cA nf fk ad (x_sr w o k v) i = x_ce cA nf fk ad w i := x_ce_eq rfl rfl rfl rfl (x_up_o h)
/-- an array's cell is written -/
theorem x_stored {o : Nat} {w' : xW} {x : va_E} {H1 : Heap} (hrep : x_rep cl D cA (fun a => (ct a).2.2) fk A ad w H) (hN : x_N w' = x_N w) (hk : x_k w' = x_k w) (hr : x_r w' = x_r w) (he : x_ce cA (fun a => (ct a).2.2) fk ad w' o = x) (hne : ∀ i, ¬ i = o → x_ce cA (fun a => (ct a).2.2) fk ad w' i = x_ce cA (fun a => (ct a).2.2) fk ad w i)
    (hP : va_P D cl ((x_wd cA (fun a => (ct a).2.2) fk ad w).set o (ad o, x)) H1) (hD : va_D A ((x_wd cA (fun a => (ct a).2.2) fk ad w).set o (ad o, x))) : x_rep cl D cA (fun a => (ct a).2.2) fk A ad w' H1 := by
  rw [x_wd_set hN he hne] at hP hD
  exact ⟨hP, hD, fun i hi => by rw [hk]; exact hrep.2.2.1 i (by rw [← hN]; exact hi), fun i k => by rw [hN, hr]; exact hrep.2.2.2 i k⟩
theorem x_iast (hexec : p.tables.exec = Jvm.exec) (hb : c.code = cc) (hK : va_K D cl (x_tys cA) s) (hrep : x_rep cl D cA (fun a => (ct a).2.2) fk A ad w H) (hS : va_S A H0 H locs) {o : Nat} {i x : Int32} (hk : x_k w o = 0) (hin : vp_in i (x_l w o)) (hdg : decode cc pc = .ok (.iastore, 1))
    (kk : ∀ (H1 : Heap) (locs1 : List Loc), x_rep cl D cA (fun a => (ct a).2.2) fk A ad (x_si w o i.toNatClampNeg x) H1 → va_S A H0 H1 locs1 → W p l e R s m args below meth c H1 locs1 cells slots Q (F0 m (pc + 1) ls rest)) : W p l e R s m args below meth c H locs cells slots Q (F0 m pc ls (.int x :: .int i :: .ref (ad o) :: rest)) := by
  have ho := x_in hrep hk (by omega)
  refine va_iast hexec hb hK hrep.1 hrep.2.1 hS o 0 (by rw [x_wd_at ho, x_ce_0 hk]) rfl hin hdg (fun H1 locs1 hP hD hS => kk H1 locs1 (x_stored hrep rfl rfl rfl ?_ (fun i hi => x_ce_si hi) hP hD) hS)
  rw [x_ce_0 (w := x_si w o i.toNatClampNeg x) hk, x_i_si]
  rfl
theorem x_zast (hexec : p.tables.exec = Jvm.exec) (hb : c.code = cc) (hK : va_K D cl (x_tys cA) s) (hrep : x_rep cl D cA (fun a => (ct a).2.2) fk A ad w H) (hS : va_S A H0 H locs) {o : Nat} {i x : Int32} (hk : x_k w o = 1) (hin : vp_in i (x_l w o)) (hx : x = 0 ∨ x = 1) (hdg : decode cc pc = .ok (.bastore, 1))
    (kk : ∀ (H1 : Heap) (locs1 : List Loc), x_rep cl D cA (fun a => (ct a).2.2) fk A ad (x_si w o i.toNatClampNeg x) H1 → va_S A H0 H1 locs1 → W p l e R s m args below meth c H1 locs1 cells slots Q (F0 m (pc + 1) ls rest)) : W p l e R s m args below meth c H locs cells slots Q (F0 m pc ls (.int x :: .int i :: .ref (ad o) :: rest)) := by
  have ho := x_in hrep hk (by omega)
  have hn : vp_nar .boolean x = x := by rcases hx with rfl | rfl <;> decide +kernel
  refine va_zast hexec hb hK hrep.1 hrep.2.1 hS o 1 (by rw [x_wd_at ho, x_ce_1 hk]) rfl hin hdg (fun H1 locs1 hP hD hS => kk H1 locs1 (x_stored hrep rfl rfl rfl ?_ (fun i hi => x_ce_si hi) hP hD) hS)
  rw [x_ce_1 (w := x_si w o i.toNatClampNeg x) hk, x_i_si, hn]
  rfl
theorem x_last (hexec : p.tables.exec = Jvm.exec) (hb : c.code = cc) (hK : va_K D cl (x_tys cA) s) (hrep : x_rep cl D cA (fun a => (ct a).2.2) fk A ad w H) (hS : va_S A H0 H locs) {o : Nat} {i : Int32} {x : Int64} (hk : x_k w o = 2) (hin : vp_in i (x_l w o)) (hdg : decode cc pc = .ok (.lastore, 1))
    (kk : ∀ (H1 : Heap) (locs1 : List Loc), x_rep cl D cA (fun a => (ct a).2.2) fk A ad (x_sj w o i.toNatClampNeg x) H1 → va_S A H0 H1 locs1 → W p l e R s m args below meth c H1 locs1 cells slots Q (F0 m (pc + 1) ls rest)) : W p l e R s m args below meth c H locs cells slots Q (F0 m pc ls (.long x :: .int i :: .ref (ad o) :: rest)) := by
  have ho := x_in hrep hk (by omega)
  refine va_last hexec hb hK hrep.1 hrep.2.1 hS o 2 (by rw [x_wd_at ho, x_ce_2 hk]) rfl hin hdg (fun H1 locs1 hP hD hS => kk H1 locs1 (x_stored hrep rfl rfl rfl ?_ (fun i hi => x_ce_sj hi) hP hD) hS)
  rw [x_ce_2 (w := x_sj w o i.toNatClampNeg x) hk, x_j_sj]
  rfl
/-- a new cell -/
def x_adN (ad : Nat → Nat) (N q : Nat) : Nat → Nat := fun i => if i = N then q else ad i
theorem x_adN_s {ad : Nat → Nat} {N q : Nat} : x_adN ad N q N = q := by simp [x_adN]
theorem x_adN_ext {ad : Nat → Nat} {N q : Nat} (h : N < 1000) : x_ext N ad (x_adN ad N q) := fun i hi => by
  have hne : ¬ i = N := by
    rcases hi with hi | hi
    · omega
    · have : x_sc = 1000000 := rfl
      omega
  simp [x_adN, hne]
theorem x_made {kind len n q : Nat} {x : va_E} {H1 : Heap} (hN : x_N w < 1000) (hrep : x_rep cl D cA (fun a => (ct a).2.2) fk A ad w H) (he : x_ce cA (fun a => (ct a).2.2) fk (x_adN ad (x_N w) q) (x_new w kind len n) (x_N w) = x)
    (hP : va_P D cl (x_wd cA (fun a => (ct a).2.2) fk ad w ++ [(q, x)]) H1) (hD : va_D A (x_wd cA (fun a => (ct a).2.2) fk ad w ++ [(q, x)])) : x_rep cl D cA (fun a => (ct a).2.2) fk A (x_adN ad (x_N w) q) (x_new w kind len n) H1 := by
  rw [x_wd_push (x_adN_ext hN) x_adN_s hrep.2.2.2 he] at hP hD
  refine ⟨hP, hD, fun i hi => ?_, fun i k => ?_⟩
  · have h1 : x_N w + 1 ≤ i := hi
    have hne : ¬ i = x_N w := by omega
    show x_row (x_k w) (x_N w) kind i = 99
    rw [x_row, if_neg hne]
    exact hrep.2.2.1 i (by omega)
  · show x_row (x_r w) (x_N w) (fun _ => 0) i k = 0 ∨ x_row (x_r w) (x_N w) (fun _ => 0) i k < x_N w + 1
    unfold x_row
    by_cases hi : i = x_N w
    · rw [if_pos hi]; exact Or.inl rfl
    · rw [if_neg hi]
      rcases hrep.2.2.2 i k with h | h
      · exact Or.inl h
      · exact Or.inr (by omega)
theorem x_lh_ext {N nL : Nat} {ad ad' : Nat → Nat} {L : xL} (h : x_ext N ad ad') (hl : x_lh ad nL ls L) (hw : ∀ i v, x_at L i = some v → x_wf N v) : x_lh ad' nL ls L := ⟨hl.1, hl.2.1, fun i v hv => by rw [x_cv_ext h (hw i v hv)]; exact hl.2.2 i v hv⟩
theorem x_st_ext {N : Nat} {ad ad' : Nat → Nat} {st : List Value} (h : x_ext N ad ad') (hw : ∀ v ∈ st, x_wf N v) : st.map (x_cv ad') = st.map (x_cv ad) := List.map_congr_left fun v hv => x_cv_ext h (hw v hv)
theorem x_kA {cA : Nat → ClassId} {k : Nat} {t : FieldType} {cN : ClassId} (hK : va_K D cl (x_tys cA) s) (hK2 : va_K D cl (x_tys cA ++ [(cN, t)]) s) (hk : (x_tys cA)[k]? = some (cA k, t)) (ht : ∀ C, ¬ t = .object C) : cN = cA k := by
  have h1 := (hK.2 k _ hk).2
  have h2 := (hK2.2 3 (cN, t) rfl).2
  have h3 : va_RA s (cA k) t := h1
  have h4 : va_RA s cN t := h2
  cases t <;> first | exact absurd rfl (ht _) | exact Option.some.inj (h4.symm.trans h3)
end X5
end
section
/-! One step: what a row of code must be, and that the JVM goes where the small machine goes. -/
def x_CallS (Ts Nw : List Cond) (own : String) (idx : Nat) (y : MethodName) (bytes : ByteArray) (maxL : Nat) (ret : Option FieldType) (n : Nat) : Prop :=
  ∀ (p : Program) (l : Launch) (e : Env) (R : Room) (s : State) (m : MethodId) (args : Array Value) (below : List Frame) (meth : Method) (c : Code) (H : Heap) (locs : List Loc) (cells slots : Nat) (cc : ByteArray) (nL : Nat) (rm : Room) (Pc : Array Value → State → Prop) (Qc : Array Value → State → Outcome → State → Prop) (mc ms : Nat) (free : Addr → Prop) (As rest : List Value) (g : JFrame),
    CallFix p m c cc nL s args Ts own → (∀ w ∈ Nw, va_Nw w s) → Met l y (Cond.code y bytes maxL ret :: Ts) rm Pc Qc mc ms free → rm.cells = mc → rm.slots = ms → rm.frames + 1 ≤ R.frames → 8 + (maxL + 11) + rm.locals ≤ R.locals → PreS s H Pc As →
    g.method = m → As.length = n → g.locals.size = nL → g.stack = As.reverse ++ rest → 2 * g.monitorRoom + (rest.map fun v => v.category).sum ≤ 8 → decode cc g.pc = .ok (.invokestatic idx, 3) → cells + mc ≤ R.cells ∧ slots + ms ≤ R.slots →
    va_Run p l e R s m args below meth c H locs cells slots mc ms g rest (Qc As.toArray) free
def x_CallI (Ts Nw : List Cond) (own : String) (idx : Nat) (y : MethodName) (bytes : ByteArray) (maxL : Nat) (n : Nat) : Prop :=
  ∀ (p : Program) (l : Launch) (e : Env) (R : Room) (s : State) (m : MethodId) (args : Array Value) (below : List Frame) (meth : Method) (c : Code) (H : Heap) (locs : List Loc) (cells slots : Nat) (cc : ByteArray) (nL : Nat) (rm : Room) (Pc : Array Value → State → Prop) (Qc : Array Value → State → Outcome → State → Prop) (mc ms : Nat) (free : Addr → Prop) (b : Nat) (As rest : List Value) (g : JFrame),
    CallFix p m c cc nL s args Ts own → (∀ w ∈ Nw, va_Nw w s) → Met l y (Cond.code y bytes maxL none :: Ts) rm Pc Qc mc ms free → rm.cells = mc → rm.slots = ms → rm.frames + 1 ≤ R.frames → 8 + (maxL + 11) + rm.locals ≤ R.locals → PreS s H Pc (.ref b :: As) →
    g.method = m → As.length + 1 = n → g.locals.size = nL → g.stack = As.reverse ++ .ref b :: rest → 2 * g.monitorRoom + (rest.map fun v => v.category).sum ≤ 8 → decode cc g.pc = .ok (.invokespecial idx, 3) → cells + mc ≤ R.cells ∧ slots + ms ≤ R.slots →
    va_Run p l e R s m args below meth c H locs cells slots mc ms g rest (Qc (Value.ref b :: As).toArray) free
def x_CallV (Ts Nw : List Cond) (own : String) (idx : Nat) (C : String) (y : MethodName) (bytes : ByteArray) (maxL : Nat) (ret : Option FieldType) (n : Nat) : Prop :=
  ∀ (p : Program) (l : Launch) (e : Env) (R : Room) (s : State) (m : MethodId) (args : Array Value) (below : List Frame) (meth : Method) (c : Code) (H : Heap) (locs : List Loc) (cells slots : Nat) (cc : ByteArray) (nL : Nat) (rm : Room) (Pc : Array Value → State → Prop) (Qc : Array Value → State → Outcome → State → Prop) (mc ms : Nat) (free : Addr → Prop) (b : Nat) (As rest : List Value) (g : JFrame),
    CallFix p m c cc nL s args Ts own → (∀ w ∈ Nw, va_Nw w s) → Met l y (Cond.code y bytes maxL ret :: Ts) rm Pc Qc mc ms free → rm.cells = mc → rm.slots = ms → rm.frames + 1 ≤ R.frames → 8 + (maxL + 11) + rm.locals ≤ R.locals → PreV s H C b Pc As →
    g.method = m → As.length + 1 = n → g.locals.size = nL → g.stack = As.reverse ++ .ref b :: rest → 2 * g.monitorRoom + (rest.map fun v => v.category).sum ≤ 8 → decode cc g.pc = .ok (.invokevirtual idx, 3) → cells + mc ≤ R.cells ∧ slots + ms ≤ R.slots →
    va_Run p l e R s m args below meth c H locs cells slots mc ms g rest (Qc (Value.ref b :: As).toArray) free
theorem x_kd_of {a k : Nat} (h : x_kd a k) : ∃ a' ∈ x_al a, k = a' + 3 := by
  unfold x_kd at h
  split at h
  · rcases h with h | h
    · exact ⟨2, by simp [x_al], h⟩
    · exact ⟨3, by simp [x_al], h⟩
  · rename_i hne
    refine ⟨a, ?_, h⟩
    unfold x_al
    split
    · exact absurd rfl hne
    · simp
/-- a method: name, code, locals, return type, own class -/
abbrev xM : Type := MethodName × ByteArray × Nat × Option FieldType × String
/-- what a row must be -/
def x_okr (cl : List vw_C) (ct : Nat → vw_C) (fk : Nat → Nat → Nat) (ty : Nat → Nat → FieldType) (Ts Nw : List Cond) (mt : Nat → xM) (rc : Nat → Nat) (vt : Nat → Nat × Nat × Nat × Nat) (en : Nat → String × String × String) (M : Nat) (r : xR) : Prop :=
  decode (mt M).2.1 r.1 = .ok (r.2.1, r.2.2.1) ∧ match r with
  | (pc, ins, len, a, b, c, v, u) => match ins with
    | .iconst n => len = 1 ∧ Int32.ofInt n = v
    | .bipush n => len = 2 ∧ (Int8.ofInt n).toInt32 = v
    | .sipush n => len = 3 ∧ (Int16.ofInt n).toInt32 = v
    | .ldc i => len = 2 ∧ c = 0 ∧ Jvm.Cond.constant (mt M).2.2.2.2 i v ∈ Ts
    | .lconst n => len = 1 ∧ Int64.ofNat (n : Nat) = u
    | .ldc2_w i => len = 3 ∧ Jvm.Cond.constantLong (mt M).2.2.2.2 i u ∈ Ts
    | .iload _ => len = 2
    | .lload _ => len = 2
    | .aload _ => len = 2
    | .iload_n k => len = 1 ∧ (k : Nat) = a
    | .lload_n k => len = 1 ∧ (k : Nat) = a
    | .aload_n k => len = 1 ∧ (k : Nat) = a
    | .istore i => len = 2 ∧ i < (mt M).2.2.1
    | .astore i => len = 2 ∧ i < (mt M).2.2.1
    | .lstore i => len = 2 ∧ i + 1 < (mt M).2.2.1
    | .istore_n k => len = 1 ∧ (k : Nat) = a ∧ a < (mt M).2.2.1
    | .astore_n k => len = 1 ∧ (k : Nat) = a ∧ a < (mt M).2.2.1
    | .lstore_n k => len = 1 ∧ (k : Nat) = a ∧ a + 1 < (mt M).2.2.1
    | .iinc i n => len = 3 ∧ i < (mt M).2.2.1 ∧ Int32.ofInt n = v
    | .ifCond _ off => len = 3 ∧ (pc : Int) + off = (a : Int)
    | .if_icmp _ off => len = 3 ∧ (pc : Int) + off = (a : Int)
    | .if_acmp _ off => len = 3 ∧ (pc : Int) + off = (a : Int)
    | .goto off => len = 3 ∧ (pc : Int) + off = (a : Int)
    | .tableswitch d _ _ offs => (∃ t : Nat, (pc : Int) + d = (t : Int)) ∧ ∀ (k : Nat) (o : Int), offs[k]? = some o → ∃ t : Nat, (pc : Int) + o = (t : Int)
    | .getfield i => len = 3 ∧ ∀ a' ∈ x_al a, x_cf cl ct fk ty Ts a' ∧ x_fl ct Ts (mt M).2.2.2.2 i a' b ∧ fk a' b = c
    | .putfield i => len = 3 ∧ ∀ a' ∈ x_al a, x_cf cl ct fk ty Ts a' ∧ x_fl ct Ts (mt M).2.2.2.2 i a' b ∧ (((ct a').2.1 b).2.2.2 = false ∨ (((ct a').2.1 b).2.2.2 = true ∧ (mt M).1.name = "<init>" ∧ ((ct a').2.1 b).1 = (mt M).2.2.2.2)) ∧
        ((c = 0 ∧ ty a' b = .int ∧ fk a' b = 0) ∨ (c = 1 ∧ ty a' b = .long ∧ fk a' b = 1) ∨ (c = 2 ∧ fk a' b = 2) ∨ (c = 3 ∧ ty a' b = .boolean ∧ fk a' b = 0))
    | .getstatic i => len = 3 ∧ a < 4 ∧ ∃ ref, Cond.fieldLink (mt M).2.2.2.2 i ref (en a).2.1 (en a).2.2 ∈ Ts ∧ (en a).1 = ref
    | .newarray t => len = 2 ∧ Cond.arrayClass (newarray.typeOf t) ∈ Ts ∧ ((t = .int ∧ a = 0) ∨ (t = .boolean ∧ a = 1) ∨ (t = .long ∧ a = 2))
    | .new i => len = 3 ∧ (c = 0 → x_cf cl ct fk ty Ts a ∧ b = (ct a).2.2 ∧ Cond.classLink (mt M).2.2.2.2 i (ct a).1 ∈ Ts ∧ Cond.instantiable (ct a).1 (ct a).2.2 ∈ Ts ∧ Cond.initialized (ct a).1 ∈ Ts)
    | .invokestatic i => len = 3 ∧ (c = 0 → x_CallS Ts Nw (mt M).2.2.2.2 i (mt a).1 (mt a).2.1 (mt a).2.2.1 (mt a).2.2.2.1 b) ∧ (¬ c = 0 → Cond.methodLink (mt M).2.2.2.2 i arraycopyName ∈ Ts ∧ Cond.native arraycopyName ∈ Ts ∧ Cond.static arraycopyName ∈ Ts ∧ Cond.initialized "java/lang/System" ∈ Ts)
    | .invokespecial i => len = 3 ∧ (c = 0 → (mt a).2.2.2.1 = none ∧ x_CallI Ts Nw (mt M).2.2.2.2 i (mt a).1 (mt a).2.1 (mt a).2.2.1 b) ∧ (¬ c = 0 → Cond.methodLink (mt M).2.2.2.2 i objectInit ∈ Ts ∧ Cond.instanceMethod objectInit ∈ Ts ∧ Cond.code objectInit ⟨#[0xb1]⟩ 1 none ∈ Ts)
    | .invokevirtual i => len = 3 ∧ c < 2 ∧ (c = 0 → rc a < 90 ∧ cl[rc a]? = some (ct (rc a)) ∧ x_CallV Ts Nw (mt M).2.2.2.2 i (ct (rc a)).1 (mt a).1 (mt a).2.1 (mt a).2.2.1 (mt a).2.2.2.1 b) ∧
        (c = 1 → (vt a).1 < 90 ∧ (vt a).2.2.1 < 90 ∧ cl[(vt a).1]? = some (ct (vt a).1) ∧ cl[(vt a).2.2.1]? = some (ct (vt a).2.2.1) ∧
          x_CallV Ts Nw (mt M).2.2.2.2 i (ct (vt a).1).1 (mt (vt a).2.1).1 (mt (vt a).2.1).2.1 (mt (vt a).2.1).2.2.1 (mt (vt a).2.1).2.2.2.1 b ∧
          x_CallV Ts Nw (mt M).2.2.2.2 i (ct (vt a).2.2.1).1 (mt (vt a).2.2.2).1 (mt (vt a).2.2.2).2.1 (mt (vt a).2.2.2).2.2.1 (mt (vt a).2.2.2).2.2.2.1 b)
    | .ireturn => len = 1 ∧ ((c = 0 ∧ (mt M).2.2.2.1 = some .int) ∨ (c = 1 ∧ (mt M).2.2.2.1 = some .boolean))
    | .lreturn => len = 1 ∧ (mt M).2.2.2.1 = some .long
    | .areturn => len = 1 ∧ ∃ C, (mt M).2.2.2.1 = some (.object C)
    | .return_ => len = 1 ∧ (mt M).2.2.2.1 = none
    | _ => len = 1
/-- the constants: the script; the enum's -/
def x_con (en : Nat → String × String × String) (scr : Nat × (Nat → Int32)) (ad : Nat → Nat) (A : Nat → Prop) (U : State) (H : Heap) : Prop :=
  (va_X (ad x_sc) scr.1 scr.2 U H ∧ ad x_sc < H.size ∧ ¬ A (ad x_sc)) ∧ (∀ k, k < 4 → va_Z (en k).1 (en k).2.1 (en k).2.2 (.ref (ad (x_en + k))) A U H) ∧ ∀ i j, i < 4 → j < 4 → ad (x_en + i) = ad (x_en + j) → i = j
end
section
/-! The JVM follows the small machine. -/
def x_rm (d mc ms : Nat) : Room := { frames := d + 2, cells := mc, slots := ms, locals := 33 * d + 100 }
section X6
variable (cl : List vw_C) (ct : Nat → vw_C) (fk : Nat → Nat → Nat) (ty : Nat → Nat → FieldType) (Ts Nw : List Cond) (mt : Nat → xM) (en : Nat → String × String × String) (P : xP) (l : Launch) (D : va_G) (cA : Nat → ClassId) (scr : Nat × (Nat → Int32))
/-- what is so when a method begins -/
def x_pre (as : List Value) (ad : Nat → Nat) (w : xW) (A : Nat → Prop) (U : State) : Prop :=
  x_rep cl D cA (fun a => (ct a).2.2) fk A ad w U.heap ∧ va_K D cl (x_tys cA) U ∧ (∀ q ∈ Nw, va_Nw q U) ∧ x_con en scr ad A U U.heap ∧ ∀ v ∈ as, x_wf (x_N w) v
/-- and when it ends -/
def x_post (ad : Nat → Nat) (w : xW) (v : Option Value) (w' : xW) (A : Nat → Prop) : Array Value → State → Outcome → State → Prop := fun _ st o t =>
  (∃ ad', x_ext (x_N w) ad ad' ∧ o = .returned (v.map (x_cv ad')) ∧ x_rep cl D cA (fun a => (ct a).2.2) fk A ad' w' t.heap ∧ ∀ u, v = some u → x_wf (x_N w') u) ∧ va_F A st t
def x_ws (M : Nat) : List Cond := Cond.code (mt M).1 (mt M).2.1 (mt M).2.2.1 (mt M).2.2.2.1 :: Ts
def x_Met (M : Nat) (as : List Value) (w : xW) (v : Option Value) (w' : xW) : Prop := ∀ (ad : Nat → Nat) (sz : Nat),
  Met l (mt M).1 (x_ws Ts mt M) (x_rm (P.2.1 M) (x_C w' - x_C w) (x_S w' - x_S w)) (va_Pc (as.map (x_cv ad)) (fun U => U.heap.size = sz ∧ x_pre cl ct fk Nw en D cA scr as ad w (va_A (x_wd cA (fun a => (ct a).2.2) fk ad w) sz) U))
    (x_post cl ct fk D cA ad w v w' (va_A (x_wd cA (fun a => (ct a).2.2) fk ad w) sz)) (x_C w' - x_C w) (x_S w' - x_S w) (va_A (x_wd cA (fun a => (ct a).2.2) fk ad w) sz)
end X6
section X7
variable {cl : List vw_C} {ct : Nat → vw_C} {fk : Nat → Nat → Nat} {ty : Nat → Nat → FieldType} {Ts Nw : List Cond} {mt : Nat → xM} {en : Nat → String × String × String} {P : xP} {l : Launch} {D : va_G} {cA : Nat → ClassId} {scr : Nat × (Nat → Int32)}
variable {p : Program} {e : Env} {R : Room} {s : State} {m : MethodId} {args : Array Value} {below : List Frame} {meth : Method} {c : Code} {Q : State → Prop} {A : Nat → Prop}
theorem x_con_to {ad ad' : Nat → Nat} {A A1 : Nat → Prop} {U : State} {H : Heap} {locs : List Loc} {N : Nat} (h : x_con en scr ad A s s.heap) (hS : va_S A s.heap H locs) (hvm : s.vm.Alike U.vm) (hx : x_ext N ad ad') (hA : ∀ q, q < s.heap.size → A1 q → A q) : x_con en scr ad' A1 U H := by
  obtain ⟨⟨h1, h2, h3⟩, h4, h5⟩ := h
  have hs : ad' x_sc = ad x_sc := hx _ (Or.inr (Nat.le_refl _))
  have he : ∀ k, ad' (x_en + k) = ad (x_en + k) := fun k => hx _ (Or.inr (by show 1000000 ≤ 1000001 + k; omega))
  refine ⟨⟨?_, ?_, ?_⟩, fun k hk => ?_, fun i j hi hj => ?_⟩
  · rw [hs]; exact (h1.kept (hS.2.1 _ h2 h3)).moved hvm
  · rw [hs]; exact Nat.lt_of_lt_of_le h2 hS.1
  · rw [hs]; exact fun z => h3 (hA _ h2 z)
  · rw [he]
    obtain ⟨cf, kf, fi, f, a, cell, z1, z2, z3, z4, z5, z6, z7, z8⟩ := ((h4 k hk).kept (fun a ha hn => hS.2.1 a ha hn)).moved hvm
    have hz := h4 k hk
    refine ⟨cf, kf, fi, f, a, cell, z1, z2, z3, z4, z5, z6, z7, fun z => z8 ?_⟩
    obtain ⟨cf', kf', fi', f', a', cell', y1, y2, y3, y4, y5, y6, y7, y8⟩ := hz
    by_cases ha : a < s.heap.size
    · exact hA a ha z
    · obtain ⟨k', hi', he'⟩ := State.fieldFound?_setVm hvm y1
      have e1 := Option.some.inj (z1.symm.trans hi')
      simp only [Prod.mk.injEq] at e1
      obtain ⟨-, e2, -, -⟩ := e1
      rw [e2, he'] at z4
      have : a' = a := Option.some.inj (y4.symm.trans z4)
      subst this
      exact absurd (Array.getElem?_eq_some_iff.mp y5).1 ha
  · rw [he, he]; exact h5 i j hi hj
/-- behind a call -/
theorem x_cont {H : Heap} {locs : List Loc} {cells slots mc ms pc : Nat} {ls : Array Slot} {st0 rest : List Value} {Qa : State → Outcome → State → Prop} {free : Nat → Prop} (hr : va_Run p l e R s m args below meth c H locs cells slots mc ms (F0 m pc ls st0) rest Qa free) (hS : va_S A s.heap H locs) (hf : ∀ q, free q → A q)
    (hF : ∀ st v t, Qa st (.returned v) t → va_F free st t)
    (kk : ∀ (st : State) (v : Option Value) (t : State) (H1 : Heap) (locs1 : List Loc), Qa st (.returned v) t → t.heap = H1 → va_S A s.heap H1 locs1 → W p l e R s m args below meth c H1 locs1 (cells + mc) (slots + ms) Q (F0 m (pc + 3) ls (v.toList ++ rest))) : W p l e R s m args below meth c H locs cells slots Q (F0 m pc ls st0) := by
  intro T hT X
  obtain ⟨v, st₀, t, T', L, h0, X', hL, e1, e2, hq, st⟩ := hr T hT X
  obtain ⟨hz, hk⟩ := hF _ _ _ hq
  rw [h0] at hz hk
  obtain ⟨t2, a1, b1⟩ := kk st₀ v t T'.heap (locs ++ L) hq e1.symm
    ⟨Nat.le_trans hS.1 (by rw [e1]; exact hz), fun q h1 h2 => by rw [e1, hk q (Nat.lt_of_lt_of_le h1 hS.1) (fun z => h2 (hf q z))]; exact hS.2.1 q h1 h2, fun q hq => by
      rcases List.mem_append.mp hq with h | h
      · exact hS.2.2 q h
      · exact hf _ (hL q h)⟩ T' rfl X'
  exact ⟨t2, st t2 a1, b1⟩
/-- the JVM, standing where the small machine stands, comes to Q -/
def x_WW (cl : List vw_C) (ct : Nat → vw_C) (fk : Nat → Nat → Nat) (D : va_G) (cA : Nat → ClassId) (p : Program) (l : Launch) (e : Env) (R : Room) (s : State) (m : MethodId) (args : Array Value) (below : List Frame) (meth : Method) (c : Code) (A : Nat → Prop) (nL : Nat) (ad0 : Nat → Nat) (w0 : xW) (Q : State → Prop) (pc : Nat) (L : xL) (st : List Value) (w : xW) : Prop :=
  x_gr w0 w → ∀ (H : Heap) (locs : List Loc) (ls : Array Slot) (ad : Nat → Nat), x_ext (x_N w0) ad0 ad → x_rep cl D cA (fun a => (ct a).2.2) fk A ad w H → va_S A s.heap H locs → x_lh ad nL ls L → (∀ v ∈ st, x_wf (x_N w) v) → (∀ i v, x_at L i = some v → x_wf (x_N w) v) →
    W p l e R s m args below meth c H locs (x_C w - x_C w0) (x_S w - x_S w0) Q (F0 m pc ls (st.map (x_cv ad)))
/-- a call that is good: it returns, and behind it all is well -/
def x_CG (cl : List vw_C) (ct : Nat → vw_C) (fk : Nat → Nat → Nat) (Ts Nw : List Cond) (mt : Nat → xM) (en : Nat → String × String × String) (P : xP) (l : Launch) (D : va_G) (cA : Nat → ClassId) (scr : Nat × (Nat → Int32)) (M : Nat) (w9 : xW) (WW : Nat → xL → List Value → xW → Prop) (M' : Nat) (as : List Value) (pc : Nat) (L : xL) (st : List Value) (w : xW) : Prop :=
  P.2.1 M' < P.2.1 M ∧ ∃ v w1, x_Met cl ct fk Ts Nw mt en P l D cA scr M' as w v w1 ∧ x_gr w w1 ∧ x_gr w1 w9 ∧ WW pc L (v.toList ++ st) w1
end X7
end
section
/-! One step of the JVM for each row of code. -/
theorem x_wt1 {N : Nat} {a : Value} {r : List Value} (h : ∀ v ∈ a :: r, x_wf N v) : ∀ v ∈ r, x_wf N v := fun v hv => h v (List.mem_cons_of_mem _ hv)
theorem x_wh {N : Nat} {a : Value} {r : List Value} (h : ∀ v ∈ a :: r, x_wf N v) : x_wf N a := h a List.mem_cons_self
theorem x_wc {N : Nat} {a : Value} {r : List Value} (ha : x_wf N a) (h : ∀ v ∈ r, x_wf N v) : ∀ v ∈ a :: r, x_wf N v := fun v hv => by
  rcases List.mem_cons.mp hv with rfl | hv
  · exact ha
  · exact h v hv
theorem x_wl1 {N i : Nat} {L : xL} {v : Value} (ha : x_wf N v) (h : ∀ i v, x_at L i = some v → x_wf N v) : ∀ j u, x_at (x_st1 L i v) j = some u → x_wf N u := fun j u hu => by
  rcases x_at_st1 hu with ⟨rfl, rfl⟩ | ⟨h1, h2, h3⟩
  · exact ha
  · exact h j u h2
theorem x_wl2 {N i : Nat} {L : xL} {v : Value} (ha : x_wf N v) (h : ∀ i v, x_at L i = some v → x_wf N v) : ∀ j u, x_at (x_st2 L i v) j = some u → x_wf N u := fun j u hu => by
  rcases x_at_st2 hu with ⟨rfl, rfl⟩ | ⟨h1, h0, h2, h3⟩
  · exact ha
  · exact h j u h2
section X8
variable {cl : List vw_C} {ct : Nat → vw_C} {fk : Nat → Nat → Nat} {ty : Nat → Nat → FieldType} {Ts Nw : List Cond} {mt : Nat → xM} {en : Nat → String × String × String} {P : xP} {l : Launch} {D : va_G} {cA : Nat → ClassId} {scr : Nat × (Nat → Int32)} {rc : Nat → Nat} {vt : Nat → Nat × Nat × Nat × Nat} {tx : Nat → List Int32}
variable {p : Program} {e : Env} {R : Room} {s : State} {m : MethodId} {args : Array Value} {below : List Frame} {meth : Method} {c0 : Code} {A : Nat → Prop} {ad0 : Nat → Nat} {w0 w9 : xW} {v9 : Option Value} {X : xT → Prop} {M : Nat} {Q : State → Prop}
variable {pc len a b c : Nat} {v : Int32} {u : Int64} {L : xL} {st : List Value} {w : xW}

theorem xs_iadd  (hx : p.tables.exec = Jvm.exec) (hb : c0.code = (mt M).2.1) (hK1 : ∀ pc L st w, X (.inl (pc, L, st, w)) → x_gr w w9 ∧ x_WW cl ct fk D cA p l e R s m args below meth c0 A (mt M).2.2.1 ad0 w0 Q pc L st w)  (ok : x_okr cl ct fk ty Ts Nw mt rc vt en M (pc, .iadd, len, a, b, c, v, u)) (h : x_go X rc vt scr tx (.iadd) a b c v u pc L st w) : x_WW cl ct fk D cA p l e R s m args below meth c0 A (mt M).2.2.1 ad0 w0 Q pc L st w := by
  intro hg H locs ls ad hext hrep hS hl hws hwl
  have hd : decode (mt M).2.1 pc = .ok (.iadd, len) := ok.1
  obtain rfl : len = 1 := ok.2
  obtain ⟨y, r, rfl, h⟩ := x_pI_of h
  obtain ⟨x, r, rfl, h⟩ := x_pI_of h
  exact lv_iadd hx hb hd ((hK1 _ _ _ _ h).2 hg H locs ls ad hext hrep hS hl (x_wc trivial (x_wt1 (x_wt1 hws))) hwl)

theorem xs_isub  (hx : p.tables.exec = Jvm.exec) (hb : c0.code = (mt M).2.1) (hK1 : ∀ pc L st w, X (.inl (pc, L, st, w)) → x_gr w w9 ∧ x_WW cl ct fk D cA p l e R s m args below meth c0 A (mt M).2.2.1 ad0 w0 Q pc L st w)  (ok : x_okr cl ct fk ty Ts Nw mt rc vt en M (pc, .isub, len, a, b, c, v, u)) (h : x_go X rc vt scr tx (.isub) a b c v u pc L st w) : x_WW cl ct fk D cA p l e R s m args below meth c0 A (mt M).2.2.1 ad0 w0 Q pc L st w := by
  intro hg H locs ls ad hext hrep hS hl hws hwl
  have hd : decode (mt M).2.1 pc = .ok (.isub, len) := ok.1
  obtain rfl : len = 1 := ok.2
  obtain ⟨y, r, rfl, h⟩ := x_pI_of h
  obtain ⟨x, r, rfl, h⟩ := x_pI_of h
  exact lv_isub hx hb hd ((hK1 _ _ _ _ h).2 hg H locs ls ad hext hrep hS hl (x_wc trivial (x_wt1 (x_wt1 hws))) hwl)

theorem xs_imul  (hx : p.tables.exec = Jvm.exec) (hb : c0.code = (mt M).2.1) (hK1 : ∀ pc L st w, X (.inl (pc, L, st, w)) → x_gr w w9 ∧ x_WW cl ct fk D cA p l e R s m args below meth c0 A (mt M).2.2.1 ad0 w0 Q pc L st w)  (ok : x_okr cl ct fk ty Ts Nw mt rc vt en M (pc, .imul, len, a, b, c, v, u)) (h : x_go X rc vt scr tx (.imul) a b c v u pc L st w) : x_WW cl ct fk D cA p l e R s m args below meth c0 A (mt M).2.2.1 ad0 w0 Q pc L st w := by
  intro hg H locs ls ad hext hrep hS hl hws hwl
  have hd : decode (mt M).2.1 pc = .ok (.imul, len) := ok.1
  obtain rfl : len = 1 := ok.2
  obtain ⟨y, r, rfl, h⟩ := x_pI_of h
  obtain ⟨x, r, rfl, h⟩ := x_pI_of h
  exact lv_imul hx hb hd ((hK1 _ _ _ _ h).2 hg H locs ls ad hext hrep hS hl (x_wc trivial (x_wt1 (x_wt1 hws))) hwl)

theorem xs_iand  (hx : p.tables.exec = Jvm.exec) (hb : c0.code = (mt M).2.1) (hK1 : ∀ pc L st w, X (.inl (pc, L, st, w)) → x_gr w w9 ∧ x_WW cl ct fk D cA p l e R s m args below meth c0 A (mt M).2.2.1 ad0 w0 Q pc L st w)  (ok : x_okr cl ct fk ty Ts Nw mt rc vt en M (pc, .iand, len, a, b, c, v, u)) (h : x_go X rc vt scr tx (.iand) a b c v u pc L st w) : x_WW cl ct fk D cA p l e R s m args below meth c0 A (mt M).2.2.1 ad0 w0 Q pc L st w := by
  intro hg H locs ls ad hext hrep hS hl hws hwl
  have hd : decode (mt M).2.1 pc = .ok (.iand, len) := ok.1
  obtain rfl : len = 1 := ok.2
  obtain ⟨y, r, rfl, h⟩ := x_pI_of h
  obtain ⟨x, r, rfl, h⟩ := x_pI_of h
  exact lv_iand hx hb hd ((hK1 _ _ _ _ h).2 hg H locs ls ad hext hrep hS hl (x_wc trivial (x_wt1 (x_wt1 hws))) hwl)

theorem xs_ior  (hx : p.tables.exec = Jvm.exec) (hb : c0.code = (mt M).2.1) (hK1 : ∀ pc L st w, X (.inl (pc, L, st, w)) → x_gr w w9 ∧ x_WW cl ct fk D cA p l e R s m args below meth c0 A (mt M).2.2.1 ad0 w0 Q pc L st w)  (ok : x_okr cl ct fk ty Ts Nw mt rc vt en M (pc, .ior, len, a, b, c, v, u)) (h : x_go X rc vt scr tx (.ior) a b c v u pc L st w) : x_WW cl ct fk D cA p l e R s m args below meth c0 A (mt M).2.2.1 ad0 w0 Q pc L st w := by
  intro hg H locs ls ad hext hrep hS hl hws hwl
  have hd : decode (mt M).2.1 pc = .ok (.ior, len) := ok.1
  obtain rfl : len = 1 := ok.2
  obtain ⟨y, r, rfl, h⟩ := x_pI_of h
  obtain ⟨x, r, rfl, h⟩ := x_pI_of h
  exact lv_ior hx hb hd ((hK1 _ _ _ _ h).2 hg H locs ls ad hext hrep hS hl (x_wc trivial (x_wt1 (x_wt1 hws))) hwl)

theorem xs_ixor  (hx : p.tables.exec = Jvm.exec) (hb : c0.code = (mt M).2.1) (hK1 : ∀ pc L st w, X (.inl (pc, L, st, w)) → x_gr w w9 ∧ x_WW cl ct fk D cA p l e R s m args below meth c0 A (mt M).2.2.1 ad0 w0 Q pc L st w)  (ok : x_okr cl ct fk ty Ts Nw mt rc vt en M (pc, .ixor, len, a, b, c, v, u)) (h : x_go X rc vt scr tx (.ixor) a b c v u pc L st w) : x_WW cl ct fk D cA p l e R s m args below meth c0 A (mt M).2.2.1 ad0 w0 Q pc L st w := by
  intro hg H locs ls ad hext hrep hS hl hws hwl
  have hd : decode (mt M).2.1 pc = .ok (.ixor, len) := ok.1
  obtain rfl : len = 1 := ok.2
  obtain ⟨y, r, rfl, h⟩ := x_pI_of h
  obtain ⟨x, r, rfl, h⟩ := x_pI_of h
  exact lv_ixor hx hb hd ((hK1 _ _ _ _ h).2 hg H locs ls ad hext hrep hS hl (x_wc trivial (x_wt1 (x_wt1 hws))) hwl)

theorem xs_ishl  (hx : p.tables.exec = Jvm.exec) (hb : c0.code = (mt M).2.1) (hK1 : ∀ pc L st w, X (.inl (pc, L, st, w)) → x_gr w w9 ∧ x_WW cl ct fk D cA p l e R s m args below meth c0 A (mt M).2.2.1 ad0 w0 Q pc L st w)  (ok : x_okr cl ct fk ty Ts Nw mt rc vt en M (pc, .ishl, len, a, b, c, v, u)) (h : x_go X rc vt scr tx (.ishl) a b c v u pc L st w) : x_WW cl ct fk D cA p l e R s m args below meth c0 A (mt M).2.2.1 ad0 w0 Q pc L st w := by
  intro hg H locs ls ad hext hrep hS hl hws hwl
  have hd : decode (mt M).2.1 pc = .ok (.ishl, len) := ok.1
  obtain rfl : len = 1 := ok.2
  obtain ⟨y, r, rfl, h⟩ := x_pI_of h
  obtain ⟨x, r, rfl, h⟩ := x_pI_of h
  exact lv_ishl hx hb hd ((hK1 _ _ _ _ h).2 hg H locs ls ad hext hrep hS hl (x_wc trivial (x_wt1 (x_wt1 hws))) hwl)

theorem xs_iushr  (hx : p.tables.exec = Jvm.exec) (hb : c0.code = (mt M).2.1) (hK1 : ∀ pc L st w, X (.inl (pc, L, st, w)) → x_gr w w9 ∧ x_WW cl ct fk D cA p l e R s m args below meth c0 A (mt M).2.2.1 ad0 w0 Q pc L st w)  (ok : x_okr cl ct fk ty Ts Nw mt rc vt en M (pc, .iushr, len, a, b, c, v, u)) (h : x_go X rc vt scr tx (.iushr) a b c v u pc L st w) : x_WW cl ct fk D cA p l e R s m args below meth c0 A (mt M).2.2.1 ad0 w0 Q pc L st w := by
  intro hg H locs ls ad hext hrep hS hl hws hwl
  have hd : decode (mt M).2.1 pc = .ok (.iushr, len) := ok.1
  obtain rfl : len = 1 := ok.2
  obtain ⟨y, r, rfl, h⟩ := x_pI_of h
  obtain ⟨x, r, rfl, h⟩ := x_pI_of h
  exact lv_iushr hx hb hd rfl ((hK1 _ _ _ _ h).2 hg H locs ls ad hext hrep hS hl (x_wc trivial (x_wt1 (x_wt1 hws))) hwl)

theorem xs_idiv  (hx : p.tables.exec = Jvm.exec) (hb : c0.code = (mt M).2.1) (hK1 : ∀ pc L st w, X (.inl (pc, L, st, w)) → x_gr w w9 ∧ x_WW cl ct fk D cA p l e R s m args below meth c0 A (mt M).2.2.1 ad0 w0 Q pc L st w)  (ok : x_okr cl ct fk ty Ts Nw mt rc vt en M (pc, .idiv, len, a, b, c, v, u)) (h : x_go X rc vt scr tx (.idiv) a b c v u pc L st w) : x_WW cl ct fk D cA p l e R s m args below meth c0 A (mt M).2.2.1 ad0 w0 Q pc L st w := by
  intro hg H locs ls ad hext hrep hS hl hws hwl
  have hd : decode (mt M).2.1 pc = .ok (.idiv, len) := ok.1
  obtain rfl : len = 1 := ok.2
  obtain ⟨y, r, rfl, h⟩ := x_pI_of h
  obtain ⟨x, r, rfl, h⟩ := x_pI_of h
  obtain ⟨hy, h⟩ := h
  exact lv_idiv hx hb hd hy ((hK1 _ _ _ _ h).2 hg H locs ls ad hext hrep hS hl (x_wc trivial (x_wt1 (x_wt1 hws))) hwl)

theorem xs_irem  (hx : p.tables.exec = Jvm.exec) (hb : c0.code = (mt M).2.1) (hK1 : ∀ pc L st w, X (.inl (pc, L, st, w)) → x_gr w w9 ∧ x_WW cl ct fk D cA p l e R s m args below meth c0 A (mt M).2.2.1 ad0 w0 Q pc L st w)  (ok : x_okr cl ct fk ty Ts Nw mt rc vt en M (pc, .irem, len, a, b, c, v, u)) (h : x_go X rc vt scr tx (.irem) a b c v u pc L st w) : x_WW cl ct fk D cA p l e R s m args below meth c0 A (mt M).2.2.1 ad0 w0 Q pc L st w := by
  intro hg H locs ls ad hext hrep hS hl hws hwl
  have hd : decode (mt M).2.1 pc = .ok (.irem, len) := ok.1
  obtain rfl : len = 1 := ok.2
  obtain ⟨y, r, rfl, h⟩ := x_pI_of h
  obtain ⟨x, r, rfl, h⟩ := x_pI_of h
  obtain ⟨hy, h⟩ := h
  exact lv_irem hx hb hd hy ((hK1 _ _ _ _ h).2 hg H locs ls ad hext hrep hS hl (x_wc trivial (x_wt1 (x_wt1 hws))) hwl)

theorem xs_land  (hx : p.tables.exec = Jvm.exec) (hb : c0.code = (mt M).2.1) (hK1 : ∀ pc L st w, X (.inl (pc, L, st, w)) → x_gr w w9 ∧ x_WW cl ct fk D cA p l e R s m args below meth c0 A (mt M).2.2.1 ad0 w0 Q pc L st w)  (ok : x_okr cl ct fk ty Ts Nw mt rc vt en M (pc, .land, len, a, b, c, v, u)) (h : x_go X rc vt scr tx (.land) a b c v u pc L st w) : x_WW cl ct fk D cA p l e R s m args below meth c0 A (mt M).2.2.1 ad0 w0 Q pc L st w := by
  intro hg H locs ls ad hext hrep hS hl hws hwl
  have hd : decode (mt M).2.1 pc = .ok (.land, len) := ok.1
  obtain rfl : len = 1 := ok.2
  obtain ⟨y, r, rfl, h⟩ := x_pL_of h
  obtain ⟨x, r, rfl, h⟩ := x_pL_of h
  exact lv_land hx hb hd ((hK1 _ _ _ _ h).2 hg H locs ls ad hext hrep hS hl (x_wc trivial (x_wt1 (x_wt1 hws))) hwl)

theorem xs_lor  (hx : p.tables.exec = Jvm.exec) (hb : c0.code = (mt M).2.1) (hK1 : ∀ pc L st w, X (.inl (pc, L, st, w)) → x_gr w w9 ∧ x_WW cl ct fk D cA p l e R s m args below meth c0 A (mt M).2.2.1 ad0 w0 Q pc L st w)  (ok : x_okr cl ct fk ty Ts Nw mt rc vt en M (pc, .lor, len, a, b, c, v, u)) (h : x_go X rc vt scr tx (.lor) a b c v u pc L st w) : x_WW cl ct fk D cA p l e R s m args below meth c0 A (mt M).2.2.1 ad0 w0 Q pc L st w := by
  intro hg H locs ls ad hext hrep hS hl hws hwl
  have hd : decode (mt M).2.1 pc = .ok (.lor, len) := ok.1
  obtain rfl : len = 1 := ok.2
  obtain ⟨y, r, rfl, h⟩ := x_pL_of h
  obtain ⟨x, r, rfl, h⟩ := x_pL_of h
  exact lv_lor hx hb hd ((hK1 _ _ _ _ h).2 hg H locs ls ad hext hrep hS hl (x_wc trivial (x_wt1 (x_wt1 hws))) hwl)

theorem xs_lxor  (hx : p.tables.exec = Jvm.exec) (hb : c0.code = (mt M).2.1) (hK1 : ∀ pc L st w, X (.inl (pc, L, st, w)) → x_gr w w9 ∧ x_WW cl ct fk D cA p l e R s m args below meth c0 A (mt M).2.2.1 ad0 w0 Q pc L st w)  (ok : x_okr cl ct fk ty Ts Nw mt rc vt en M (pc, .lxor, len, a, b, c, v, u)) (h : x_go X rc vt scr tx (.lxor) a b c v u pc L st w) : x_WW cl ct fk D cA p l e R s m args below meth c0 A (mt M).2.2.1 ad0 w0 Q pc L st w := by
  intro hg H locs ls ad hext hrep hS hl hws hwl
  have hd : decode (mt M).2.1 pc = .ok (.lxor, len) := ok.1
  obtain rfl : len = 1 := ok.2
  obtain ⟨y, r, rfl, h⟩ := x_pL_of h
  obtain ⟨x, r, rfl, h⟩ := x_pL_of h
  exact lv_lxor hx hb hd ((hK1 _ _ _ _ h).2 hg H locs ls ad hext hrep hS hl (x_wc trivial (x_wt1 (x_wt1 hws))) hwl)

theorem xs_lshl  (hx : p.tables.exec = Jvm.exec) (hb : c0.code = (mt M).2.1) (hK1 : ∀ pc L st w, X (.inl (pc, L, st, w)) → x_gr w w9 ∧ x_WW cl ct fk D cA p l e R s m args below meth c0 A (mt M).2.2.1 ad0 w0 Q pc L st w)  (ok : x_okr cl ct fk ty Ts Nw mt rc vt en M (pc, .lshl, len, a, b, c, v, u)) (h : x_go X rc vt scr tx (.lshl) a b c v u pc L st w) : x_WW cl ct fk D cA p l e R s m args below meth c0 A (mt M).2.2.1 ad0 w0 Q pc L st w := by
  intro hg H locs ls ad hext hrep hS hl hws hwl
  have hd : decode (mt M).2.1 pc = .ok (.lshl, len) := ok.1
  obtain rfl : len = 1 := ok.2
  obtain ⟨y, r, rfl, h⟩ := x_pI_of h
  obtain ⟨x, r, rfl, h⟩ := x_pL_of h
  exact lv_lshl hx hb hd rfl ((hK1 _ _ _ _ h).2 hg H locs ls ad hext hrep hS hl (x_wc trivial (x_wt1 (x_wt1 hws))) hwl)

theorem xs_lshr  (hx : p.tables.exec = Jvm.exec) (hb : c0.code = (mt M).2.1) (hK1 : ∀ pc L st w, X (.inl (pc, L, st, w)) → x_gr w w9 ∧ x_WW cl ct fk D cA p l e R s m args below meth c0 A (mt M).2.2.1 ad0 w0 Q pc L st w)  (ok : x_okr cl ct fk ty Ts Nw mt rc vt en M (pc, .lshr, len, a, b, c, v, u)) (h : x_go X rc vt scr tx (.lshr) a b c v u pc L st w) : x_WW cl ct fk D cA p l e R s m args below meth c0 A (mt M).2.2.1 ad0 w0 Q pc L st w := by
  intro hg H locs ls ad hext hrep hS hl hws hwl
  have hd : decode (mt M).2.1 pc = .ok (.lshr, len) := ok.1
  obtain rfl : len = 1 := ok.2
  obtain ⟨y, r, rfl, h⟩ := x_pI_of h
  obtain ⟨x, r, rfl, h⟩ := x_pL_of h
  exact lv_lshr hx hb hd rfl ((hK1 _ _ _ _ h).2 hg H locs ls ad hext hrep hS hl (x_wc trivial (x_wt1 (x_wt1 hws))) hwl)

theorem xs_lushr  (hx : p.tables.exec = Jvm.exec) (hb : c0.code = (mt M).2.1) (hK1 : ∀ pc L st w, X (.inl (pc, L, st, w)) → x_gr w w9 ∧ x_WW cl ct fk D cA p l e R s m args below meth c0 A (mt M).2.2.1 ad0 w0 Q pc L st w)  (ok : x_okr cl ct fk ty Ts Nw mt rc vt en M (pc, .lushr, len, a, b, c, v, u)) (h : x_go X rc vt scr tx (.lushr) a b c v u pc L st w) : x_WW cl ct fk D cA p l e R s m args below meth c0 A (mt M).2.2.1 ad0 w0 Q pc L st w := by
  intro hg H locs ls ad hext hrep hS hl hws hwl
  have hd : decode (mt M).2.1 pc = .ok (.lushr, len) := ok.1
  obtain rfl : len = 1 := ok.2
  obtain ⟨y, r, rfl, h⟩ := x_pI_of h
  obtain ⟨x, r, rfl, h⟩ := x_pL_of h
  exact lv_lushr hx hb hd rfl ((hK1 _ _ _ _ h).2 hg H locs ls ad hext hrep hS hl (x_wc trivial (x_wt1 (x_wt1 hws))) hwl)

theorem xs_ineg  (hx : p.tables.exec = Jvm.exec) (hb : c0.code = (mt M).2.1) (hK1 : ∀ pc L st w, X (.inl (pc, L, st, w)) → x_gr w w9 ∧ x_WW cl ct fk D cA p l e R s m args below meth c0 A (mt M).2.2.1 ad0 w0 Q pc L st w)  (ok : x_okr cl ct fk ty Ts Nw mt rc vt en M (pc, .ineg, len, a, b, c, v, u)) (h : x_go X rc vt scr tx (.ineg) a b c v u pc L st w) : x_WW cl ct fk D cA p l e R s m args below meth c0 A (mt M).2.2.1 ad0 w0 Q pc L st w := by
  intro hg H locs ls ad hext hrep hS hl hws hwl
  have hd : decode (mt M).2.1 pc = .ok (.ineg, len) := ok.1
  obtain rfl : len = 1 := ok.2
  obtain ⟨x, r, rfl, h⟩ := x_pI_of h
  exact lv_ineg hx hb hd ((hK1 _ _ _ _ h).2 hg H locs ls ad hext hrep hS hl (x_wc trivial (x_wt1 hws)) hwl)

theorem xs_i2l  (hx : p.tables.exec = Jvm.exec) (hb : c0.code = (mt M).2.1) (hK1 : ∀ pc L st w, X (.inl (pc, L, st, w)) → x_gr w w9 ∧ x_WW cl ct fk D cA p l e R s m args below meth c0 A (mt M).2.2.1 ad0 w0 Q pc L st w)  (ok : x_okr cl ct fk ty Ts Nw mt rc vt en M (pc, .i2l, len, a, b, c, v, u)) (h : x_go X rc vt scr tx (.i2l) a b c v u pc L st w) : x_WW cl ct fk D cA p l e R s m args below meth c0 A (mt M).2.2.1 ad0 w0 Q pc L st w := by
  intro hg H locs ls ad hext hrep hS hl hws hwl
  have hd : decode (mt M).2.1 pc = .ok (.i2l, len) := ok.1
  obtain rfl : len = 1 := ok.2
  obtain ⟨x, r, rfl, h⟩ := x_pI_of h
  exact lv_i2l hx hb hd rfl ((hK1 _ _ _ _ h).2 hg H locs ls ad hext hrep hS hl (x_wc trivial (x_wt1 hws)) hwl)

theorem xs_l2i  (hx : p.tables.exec = Jvm.exec) (hb : c0.code = (mt M).2.1) (hK1 : ∀ pc L st w, X (.inl (pc, L, st, w)) → x_gr w w9 ∧ x_WW cl ct fk D cA p l e R s m args below meth c0 A (mt M).2.2.1 ad0 w0 Q pc L st w)  (ok : x_okr cl ct fk ty Ts Nw mt rc vt en M (pc, .l2i, len, a, b, c, v, u)) (h : x_go X rc vt scr tx (.l2i) a b c v u pc L st w) : x_WW cl ct fk D cA p l e R s m args below meth c0 A (mt M).2.2.1 ad0 w0 Q pc L st w := by
  intro hg H locs ls ad hext hrep hS hl hws hwl
  have hd : decode (mt M).2.1 pc = .ok (.l2i, len) := ok.1
  obtain rfl : len = 1 := ok.2
  obtain ⟨x, r, rfl, h⟩ := x_pL_of h
  exact lv_l2i hx hb hd rfl ((hK1 _ _ _ _ h).2 hg H locs ls ad hext hrep hS hl (x_wc trivial (x_wt1 hws)) hwl)

theorem xs_lcmp  (hx : p.tables.exec = Jvm.exec) (hb : c0.code = (mt M).2.1) (hK1 : ∀ pc L st w, X (.inl (pc, L, st, w)) → x_gr w w9 ∧ x_WW cl ct fk D cA p l e R s m args below meth c0 A (mt M).2.2.1 ad0 w0 Q pc L st w)  (ok : x_okr cl ct fk ty Ts Nw mt rc vt en M (pc, .lcmp, len, a, b, c, v, u)) (h : x_go X rc vt scr tx (.lcmp) a b c v u pc L st w) : x_WW cl ct fk D cA p l e R s m args below meth c0 A (mt M).2.2.1 ad0 w0 Q pc L st w := by
  intro hg H locs ls ad hext hrep hS hl hws hwl
  have hd : decode (mt M).2.1 pc = .ok (.lcmp, len) := ok.1
  obtain rfl : len = 1 := ok.2
  obtain ⟨y, r, rfl, h⟩ := x_pL_of h
  obtain ⟨x, r, rfl, h⟩ := x_pL_of h
  exact W.lcmp hx hb hd ((hK1 _ _ _ _ h).2 hg H locs ls ad hext hrep hS hl (x_wc trivial (x_wt1 (x_wt1 hws))) hwl)

theorem xs_iconst {n : Int} (hx : p.tables.exec = Jvm.exec) (hb : c0.code = (mt M).2.1) (hK1 : ∀ pc L st w, X (.inl (pc, L, st, w)) → x_gr w w9 ∧ x_WW cl ct fk D cA p l e R s m args below meth c0 A (mt M).2.2.1 ad0 w0 Q pc L st w)  (ok : x_okr cl ct fk ty Ts Nw mt rc vt en M (pc, .iconst n, len, a, b, c, v, u)) (h : x_go X rc vt scr tx (.iconst n) a b c v u pc L st w) : x_WW cl ct fk D cA p l e R s m args below meth c0 A (mt M).2.2.1 ad0 w0 Q pc L st w := by
  intro hg H locs ls ad hext hrep hS hl hws hwl
  have hd : decode (mt M).2.1 pc = .ok (.iconst n, len) := ok.1
  obtain ⟨rfl, hv⟩ := ok.2
  exact lv_iconst hx hb hd hv ((hK1 _ _ _ _ h).2 hg H locs ls ad hext hrep hS hl (x_wc trivial hws) hwl)

theorem xs_bipush {n : Int} (hx : p.tables.exec = Jvm.exec) (hb : c0.code = (mt M).2.1) (hK1 : ∀ pc L st w, X (.inl (pc, L, st, w)) → x_gr w w9 ∧ x_WW cl ct fk D cA p l e R s m args below meth c0 A (mt M).2.2.1 ad0 w0 Q pc L st w)  (ok : x_okr cl ct fk ty Ts Nw mt rc vt en M (pc, .bipush n, len, a, b, c, v, u)) (h : x_go X rc vt scr tx (.bipush n) a b c v u pc L st w) : x_WW cl ct fk D cA p l e R s m args below meth c0 A (mt M).2.2.1 ad0 w0 Q pc L st w := by
  intro hg H locs ls ad hext hrep hS hl hws hwl
  have hd : decode (mt M).2.1 pc = .ok (.bipush n, len) := ok.1
  obtain ⟨rfl, hv⟩ := ok.2
  exact lv_bipush hx hb hd hv ((hK1 _ _ _ _ h).2 hg H locs ls ad hext hrep hS hl (x_wc trivial hws) hwl)

theorem xs_sipush {n : Int} (hx : p.tables.exec = Jvm.exec) (hb : c0.code = (mt M).2.1) (hK1 : ∀ pc L st w, X (.inl (pc, L, st, w)) → x_gr w w9 ∧ x_WW cl ct fk D cA p l e R s m args below meth c0 A (mt M).2.2.1 ad0 w0 Q pc L st w)  (ok : x_okr cl ct fk ty Ts Nw mt rc vt en M (pc, .sipush n, len, a, b, c, v, u)) (h : x_go X rc vt scr tx (.sipush n) a b c v u pc L st w) : x_WW cl ct fk D cA p l e R s m args below meth c0 A (mt M).2.2.1 ad0 w0 Q pc L st w := by
  intro hg H locs ls ad hext hrep hS hl hws hwl
  have hd : decode (mt M).2.1 pc = .ok (.sipush n, len) := ok.1
  obtain ⟨rfl, hv⟩ := ok.2
  exact lv_sipush hx hb hd hv ((hK1 _ _ _ _ h).2 hg H locs ls ad hext hrep hS hl (x_wc trivial hws) hwl)

theorem xs_lconst {n : Fin 2} (hx : p.tables.exec = Jvm.exec) (hb : c0.code = (mt M).2.1) (hK1 : ∀ pc L st w, X (.inl (pc, L, st, w)) → x_gr w w9 ∧ x_WW cl ct fk D cA p l e R s m args below meth c0 A (mt M).2.2.1 ad0 w0 Q pc L st w)  (ok : x_okr cl ct fk ty Ts Nw mt rc vt en M (pc, .lconst n, len, a, b, c, v, u)) (h : x_go X rc vt scr tx (.lconst n) a b c v u pc L st w) : x_WW cl ct fk D cA p l e R s m args below meth c0 A (mt M).2.2.1 ad0 w0 Q pc L st w := by
  intro hg H locs ls ad hext hrep hS hl hws hwl
  have hd : decode (mt M).2.1 pc = .ok (.lconst n, len) := ok.1
  obtain ⟨rfl, hv⟩ := ok.2
  exact lv_lconst hx hb hd hv ((hK1 _ _ _ _ h).2 hg H locs ls ad hext hrep hS hl (x_wc trivial hws) hwl)

theorem xs_ldc {n : Nat} (hx : p.tables.exec = Jvm.exec) (hb : c0.code = (mt M).2.1) (hK1 : ∀ pc L st w, X (.inl (pc, L, st, w)) → x_gr w w9 ∧ x_WW cl ct fk D cA p l e R s m args below meth c0 A (mt M).2.2.1 ad0 w0 Q pc L st w) (hown : s.vm.findClass (mt M).2.2.2.2 = some m.cls) (hts : ∀ q ∈ Ts, q.before args s = true) (ok : x_okr cl ct fk ty Ts Nw mt rc vt en M (pc, .ldc n, len, a, b, c, v, u)) (h : x_go X rc vt scr tx (.ldc n) a b c v u pc L st w) : x_WW cl ct fk D cA p l e R s m args below meth c0 A (mt M).2.2.1 ad0 w0 Q pc L st w := by
  intro hg H locs ls ad hext hrep hS hl hws hwl
  have hd : decode (mt M).2.1 pc = .ok (.ldc n, len) := ok.1
  obtain ⟨rfl, rfl, hv⟩ := ok.2
  exact lv_ldc hx hb hown (hts _ hv) hd ((hK1 _ _ _ _ h).2 hg H locs ls ad hext hrep hS hl (x_wc trivial hws) hwl)

theorem xs_ldc2 {n : Nat} (hx : p.tables.exec = Jvm.exec) (hb : c0.code = (mt M).2.1) (hK1 : ∀ pc L st w, X (.inl (pc, L, st, w)) → x_gr w w9 ∧ x_WW cl ct fk D cA p l e R s m args below meth c0 A (mt M).2.2.1 ad0 w0 Q pc L st w) (hown : s.vm.findClass (mt M).2.2.2.2 = some m.cls) (hts : ∀ q ∈ Ts, q.before args s = true) (ok : x_okr cl ct fk ty Ts Nw mt rc vt en M (pc, .ldc2_w n, len, a, b, c, v, u)) (h : x_go X rc vt scr tx (.ldc2_w n) a b c v u pc L st w) : x_WW cl ct fk D cA p l e R s m args below meth c0 A (mt M).2.2.1 ad0 w0 Q pc L st w := by
  intro hg H locs ls ad hext hrep hS hl hws hwl
  have hd : decode (mt M).2.1 pc = .ok (.ldc2_w n, len) := ok.1
  obtain ⟨rfl, hv⟩ := ok.2
  exact lv_ldc2 hx hb hown (hts _ hv) hd ((hK1 _ _ _ _ h).2 hg H locs ls ad hext hrep hS hl (x_wc trivial hws) hwl)

theorem xs_iload {n : Nat} (hx : p.tables.exec = Jvm.exec) (hb : c0.code = (mt M).2.1) (hK1 : ∀ pc L st w, X (.inl (pc, L, st, w)) → x_gr w w9 ∧ x_WW cl ct fk D cA p l e R s m args below meth c0 A (mt M).2.2.1 ad0 w0 Q pc L st w)  (ok : x_okr cl ct fk ty Ts Nw mt rc vt en M (pc, .iload n, len, a, b, c, v, u)) (h : x_go X rc vt scr tx (.iload n) a b c v u pc L st w) : x_WW cl ct fk D cA p l e R s m args below meth c0 A (mt M).2.2.1 ad0 w0 Q pc L st w := by
  intro hg H locs ls ad hext hrep hS hl hws hwl
  have hd : decode (mt M).2.1 pc = .ok (.iload n, len) := ok.1
  obtain rfl : len = 2 := ok.2
  obtain ⟨x, hx1, h⟩ := x_gI_of h
  exact lv_iload hx hb hd (hl.2.2 _ _ hx1) ((hK1 _ _ _ _ h).2 hg H locs ls ad hext hrep hS hl (x_wc (hwl _ _ hx1) hws) hwl)

theorem xs_iload_n {n : Fin 4} (hx : p.tables.exec = Jvm.exec) (hb : c0.code = (mt M).2.1) (hK1 : ∀ pc L st w, X (.inl (pc, L, st, w)) → x_gr w w9 ∧ x_WW cl ct fk D cA p l e R s m args below meth c0 A (mt M).2.2.1 ad0 w0 Q pc L st w)  (ok : x_okr cl ct fk ty Ts Nw mt rc vt en M (pc, .iload_n n, len, a, b, c, v, u)) (h : x_go X rc vt scr tx (.iload_n n) a b c v u pc L st w) : x_WW cl ct fk D cA p l e R s m args below meth c0 A (mt M).2.2.1 ad0 w0 Q pc L st w := by
  intro hg H locs ls ad hext hrep hS hl hws hwl
  have hd : decode (mt M).2.1 pc = .ok (.iload_n n, len) := ok.1
  obtain ⟨rfl, hn⟩ := ok.2
  obtain ⟨x, hx1, h⟩ := x_gI_of h
  exact lv_iload_n hx hb hd hn (hl.2.2 _ _ hx1) ((hK1 _ _ _ _ h).2 hg H locs ls ad hext hrep hS hl (x_wc (hwl _ _ hx1) hws) hwl)

theorem xs_lload {n : Nat} (hx : p.tables.exec = Jvm.exec) (hb : c0.code = (mt M).2.1) (hK1 : ∀ pc L st w, X (.inl (pc, L, st, w)) → x_gr w w9 ∧ x_WW cl ct fk D cA p l e R s m args below meth c0 A (mt M).2.2.1 ad0 w0 Q pc L st w)  (ok : x_okr cl ct fk ty Ts Nw mt rc vt en M (pc, .lload n, len, a, b, c, v, u)) (h : x_go X rc vt scr tx (.lload n) a b c v u pc L st w) : x_WW cl ct fk D cA p l e R s m args below meth c0 A (mt M).2.2.1 ad0 w0 Q pc L st w := by
  intro hg H locs ls ad hext hrep hS hl hws hwl
  have hd : decode (mt M).2.1 pc = .ok (.lload n, len) := ok.1
  obtain rfl : len = 2 := ok.2
  obtain ⟨x, hx1, h⟩ := x_gL_of h
  exact lv_lload hx hb hd (hl.2.2 _ _ hx1) ((hK1 _ _ _ _ h).2 hg H locs ls ad hext hrep hS hl (x_wc (hwl _ _ hx1) hws) hwl)

theorem xs_lload_n {n : Fin 4} (hx : p.tables.exec = Jvm.exec) (hb : c0.code = (mt M).2.1) (hK1 : ∀ pc L st w, X (.inl (pc, L, st, w)) → x_gr w w9 ∧ x_WW cl ct fk D cA p l e R s m args below meth c0 A (mt M).2.2.1 ad0 w0 Q pc L st w)  (ok : x_okr cl ct fk ty Ts Nw mt rc vt en M (pc, .lload_n n, len, a, b, c, v, u)) (h : x_go X rc vt scr tx (.lload_n n) a b c v u pc L st w) : x_WW cl ct fk D cA p l e R s m args below meth c0 A (mt M).2.2.1 ad0 w0 Q pc L st w := by
  intro hg H locs ls ad hext hrep hS hl hws hwl
  have hd : decode (mt M).2.1 pc = .ok (.lload_n n, len) := ok.1
  obtain ⟨rfl, hn⟩ := ok.2
  obtain ⟨x, hx1, h⟩ := x_gL_of h
  exact lv_lload_n hx hb hd hn (hl.2.2 _ _ hx1) ((hK1 _ _ _ _ h).2 hg H locs ls ad hext hrep hS hl (x_wc (hwl _ _ hx1) hws) hwl)

theorem xs_aload {n : Nat} (hx : p.tables.exec = Jvm.exec) (hb : c0.code = (mt M).2.1) (hK1 : ∀ pc L st w, X (.inl (pc, L, st, w)) → x_gr w w9 ∧ x_WW cl ct fk D cA p l e R s m args below meth c0 A (mt M).2.2.1 ad0 w0 Q pc L st w)  (ok : x_okr cl ct fk ty Ts Nw mt rc vt en M (pc, .aload n, len, a, b, c, v, u)) (h : x_go X rc vt scr tx (.aload n) a b c v u pc L st w) : x_WW cl ct fk D cA p l e R s m args below meth c0 A (mt M).2.2.1 ad0 w0 Q pc L st w := by
  intro hg H locs ls ad hext hrep hS hl hws hwl
  have hd : decode (mt M).2.1 pc = .ok (.aload n, len) := ok.1
  obtain rfl : len = 2 := ok.2
  obtain ⟨x, hx1, h⟩ := x_gR_of h
  exact lv_aload hx hb hd (hl.2.2 _ _ hx1) ((hK1 _ _ _ _ h).2 hg H locs ls ad hext hrep hS hl (x_wc (hwl _ _ hx1) hws) hwl)

theorem xs_aload_n {n : Fin 4} (hx : p.tables.exec = Jvm.exec) (hb : c0.code = (mt M).2.1) (hK1 : ∀ pc L st w, X (.inl (pc, L, st, w)) → x_gr w w9 ∧ x_WW cl ct fk D cA p l e R s m args below meth c0 A (mt M).2.2.1 ad0 w0 Q pc L st w)  (ok : x_okr cl ct fk ty Ts Nw mt rc vt en M (pc, .aload_n n, len, a, b, c, v, u)) (h : x_go X rc vt scr tx (.aload_n n) a b c v u pc L st w) : x_WW cl ct fk D cA p l e R s m args below meth c0 A (mt M).2.2.1 ad0 w0 Q pc L st w := by
  intro hg H locs ls ad hext hrep hS hl hws hwl
  have hd : decode (mt M).2.1 pc = .ok (.aload_n n, len) := ok.1
  obtain ⟨rfl, hn⟩ := ok.2
  obtain ⟨x, hx1, h⟩ := x_gR_of h
  exact lv_aload_n hx hb hd hn (hl.2.2 _ _ hx1) ((hK1 _ _ _ _ h).2 hg H locs ls ad hext hrep hS hl (x_wc (hwl _ _ hx1) hws) hwl)

theorem xs_istore {n : Nat} (hx : p.tables.exec = Jvm.exec) (hb : c0.code = (mt M).2.1) (hK1 : ∀ pc L st w, X (.inl (pc, L, st, w)) → x_gr w w9 ∧ x_WW cl ct fk D cA p l e R s m args below meth c0 A (mt M).2.2.1 ad0 w0 Q pc L st w)  (ok : x_okr cl ct fk ty Ts Nw mt rc vt en M (pc, .istore n, len, a, b, c, v, u)) (h : x_go X rc vt scr tx (.istore n) a b c v u pc L st w) : x_WW cl ct fk D cA p l e R s m args below meth c0 A (mt M).2.2.1 ad0 w0 Q pc L st w := by
  intro hg H locs ls ad hext hrep hS hl hws hwl
  have hd : decode (mt M).2.1 pc = .ok (.istore n, len) := ok.1
  obtain ⟨rfl, hn⟩ := ok.2
  obtain ⟨x, r, rfl, h⟩ := x_pI_of h
  exact lv_istore hx hb hd (x_lh_as hl) hn rfl (fun ls1 h1 => ((hK1 _ _ _ _ h).2 hg H locs ls1 ad hext hrep hS (x_lh_st1 (v := .int x) h1) (x_wt1 hws) (x_wl1 (x_wh hws) hwl)))

theorem xs_istore_n {n : Fin 4} (hx : p.tables.exec = Jvm.exec) (hb : c0.code = (mt M).2.1) (hK1 : ∀ pc L st w, X (.inl (pc, L, st, w)) → x_gr w w9 ∧ x_WW cl ct fk D cA p l e R s m args below meth c0 A (mt M).2.2.1 ad0 w0 Q pc L st w)  (ok : x_okr cl ct fk ty Ts Nw mt rc vt en M (pc, .istore_n n, len, a, b, c, v, u)) (h : x_go X rc vt scr tx (.istore_n n) a b c v u pc L st w) : x_WW cl ct fk D cA p l e R s m args below meth c0 A (mt M).2.2.1 ad0 w0 Q pc L st w := by
  intro hg H locs ls ad hext hrep hS hl hws hwl
  have hd : decode (mt M).2.1 pc = .ok (.istore_n n, len) := ok.1
  obtain ⟨rfl, hn, hn2⟩ := ok.2
  obtain ⟨x, r, rfl, h⟩ := x_pI_of h
  exact lv_istore_n hx hb hd hn (x_lh_as hl) hn2 rfl (fun ls1 h1 => ((hK1 _ _ _ _ h).2 hg H locs ls1 ad hext hrep hS (x_lh_st1 (v := .int x) h1) (x_wt1 hws) (x_wl1 (x_wh hws) hwl)))

theorem xs_astore {n : Nat} (hx : p.tables.exec = Jvm.exec) (hb : c0.code = (mt M).2.1) (hK1 : ∀ pc L st w, X (.inl (pc, L, st, w)) → x_gr w w9 ∧ x_WW cl ct fk D cA p l e R s m args below meth c0 A (mt M).2.2.1 ad0 w0 Q pc L st w)  (ok : x_okr cl ct fk ty Ts Nw mt rc vt en M (pc, .astore n, len, a, b, c, v, u)) (h : x_go X rc vt scr tx (.astore n) a b c v u pc L st w) : x_WW cl ct fk D cA p l e R s m args below meth c0 A (mt M).2.2.1 ad0 w0 Q pc L st w := by
  intro hg H locs ls ad hext hrep hS hl hws hwl
  have hd : decode (mt M).2.1 pc = .ok (.astore n, len) := ok.1
  obtain ⟨rfl, hn⟩ := ok.2
  obtain ⟨x, r, rfl, h⟩ := x_pR_of h
  exact lv_astore hx hb hd (x_lh_as hl) hn rfl (fun ls1 h1 => ((hK1 _ _ _ _ h).2 hg H locs ls1 ad hext hrep hS (x_lh_st1 (v := .ref x) h1) (x_wt1 hws) (x_wl1 (x_wh hws) hwl)))

theorem xs_astore_n {n : Fin 4} (hx : p.tables.exec = Jvm.exec) (hb : c0.code = (mt M).2.1) (hK1 : ∀ pc L st w, X (.inl (pc, L, st, w)) → x_gr w w9 ∧ x_WW cl ct fk D cA p l e R s m args below meth c0 A (mt M).2.2.1 ad0 w0 Q pc L st w)  (ok : x_okr cl ct fk ty Ts Nw mt rc vt en M (pc, .astore_n n, len, a, b, c, v, u)) (h : x_go X rc vt scr tx (.astore_n n) a b c v u pc L st w) : x_WW cl ct fk D cA p l e R s m args below meth c0 A (mt M).2.2.1 ad0 w0 Q pc L st w := by
  intro hg H locs ls ad hext hrep hS hl hws hwl
  have hd : decode (mt M).2.1 pc = .ok (.astore_n n, len) := ok.1
  obtain ⟨rfl, hn, hn2⟩ := ok.2
  obtain ⟨x, r, rfl, h⟩ := x_pR_of h
  exact lv_astore_n hx hb hd hn (x_lh_as hl) hn2 rfl (fun ls1 h1 => ((hK1 _ _ _ _ h).2 hg H locs ls1 ad hext hrep hS (x_lh_st1 (v := .ref x) h1) (x_wt1 hws) (x_wl1 (x_wh hws) hwl)))

theorem xs_lstore {n : Nat} (hx : p.tables.exec = Jvm.exec) (hb : c0.code = (mt M).2.1) (hK1 : ∀ pc L st w, X (.inl (pc, L, st, w)) → x_gr w w9 ∧ x_WW cl ct fk D cA p l e R s m args below meth c0 A (mt M).2.2.1 ad0 w0 Q pc L st w)  (ok : x_okr cl ct fk ty Ts Nw mt rc vt en M (pc, .lstore n, len, a, b, c, v, u)) (h : x_go X rc vt scr tx (.lstore n) a b c v u pc L st w) : x_WW cl ct fk D cA p l e R s m args below meth c0 A (mt M).2.2.1 ad0 w0 Q pc L st w := by
  intro hg H locs ls ad hext hrep hS hl hws hwl
  have hd : decode (mt M).2.1 pc = .ok (.lstore n, len) := ok.1
  obtain ⟨rfl, hn⟩ := ok.2
  obtain ⟨x, r, rfl, h⟩ := x_pL_of h
  exact lv_lstore hx hb hd (x_lh_as hl) hn rfl (fun ls1 h1 => ((hK1 _ _ _ _ h).2 hg H locs ls1 ad hext hrep hS (x_lh_st2 (v := .long x) h1) (x_wt1 hws) (x_wl2 (x_wh hws) hwl)))

theorem xs_lstore_n {n : Fin 4} (hx : p.tables.exec = Jvm.exec) (hb : c0.code = (mt M).2.1) (hK1 : ∀ pc L st w, X (.inl (pc, L, st, w)) → x_gr w w9 ∧ x_WW cl ct fk D cA p l e R s m args below meth c0 A (mt M).2.2.1 ad0 w0 Q pc L st w)  (ok : x_okr cl ct fk ty Ts Nw mt rc vt en M (pc, .lstore_n n, len, a, b, c, v, u)) (h : x_go X rc vt scr tx (.lstore_n n) a b c v u pc L st w) : x_WW cl ct fk D cA p l e R s m args below meth c0 A (mt M).2.2.1 ad0 w0 Q pc L st w := by
  intro hg H locs ls ad hext hrep hS hl hws hwl
  have hd : decode (mt M).2.1 pc = .ok (.lstore_n n, len) := ok.1
  obtain ⟨rfl, hn, hn2⟩ := ok.2
  obtain ⟨x, r, rfl, h⟩ := x_pL_of h
  exact lv_lstore_n hx hb hd hn (x_lh_as hl) hn2 rfl (fun ls1 h1 => ((hK1 _ _ _ _ h).2 hg H locs ls1 ad hext hrep hS (x_lh_st2 (v := .long x) h1) (x_wt1 hws) (x_wl2 (x_wh hws) hwl)))

theorem xs_iinc {n : Nat} {i : Int} (hx : p.tables.exec = Jvm.exec) (hb : c0.code = (mt M).2.1) (hK1 : ∀ pc L st w, X (.inl (pc, L, st, w)) → x_gr w w9 ∧ x_WW cl ct fk D cA p l e R s m args below meth c0 A (mt M).2.2.1 ad0 w0 Q pc L st w)  (ok : x_okr cl ct fk ty Ts Nw mt rc vt en M (pc, .iinc n i, len, a, b, c, v, u)) (h : x_go X rc vt scr tx (.iinc n i) a b c v u pc L st w) : x_WW cl ct fk D cA p l e R s m args below meth c0 A (mt M).2.2.1 ad0 w0 Q pc L st w := by
  intro hg H locs ls ad hext hrep hS hl hws hwl
  have hd : decode (mt M).2.1 pc = .ok (.iinc n i, len) := ok.1
  obtain ⟨rfl, hn, hv⟩ := ok.2
  obtain ⟨x, hx1, h⟩ := x_gI_of h
  obtain ⟨k, hk⟩ := List.getElem?_of_mem ((x_as_in (ad := ad) L 0 (n, .int x)).mpr ⟨n, .int x, hx1, by rw [Nat.zero_add]; rfl⟩)
  subst hv
  exact lv_iinc hx hb hd (x_lh_as hl) hk rfl hn rfl (fun ls1 h1 => ((hK1 _ _ _ _ h).2 hg H locs ls1 ad hext hrep hS (x_lh_st1 (v := .int (x + Int32.ofInt i)) h1) hws (x_wl1 trivial hwl)))

theorem xs_dup  (hx : p.tables.exec = Jvm.exec) (hb : c0.code = (mt M).2.1) (hK1 : ∀ pc L st w, X (.inl (pc, L, st, w)) → x_gr w w9 ∧ x_WW cl ct fk D cA p l e R s m args below meth c0 A (mt M).2.2.1 ad0 w0 Q pc L st w)  (ok : x_okr cl ct fk ty Ts Nw mt rc vt en M (pc, .dup, len, a, b, c, v, u)) (h : x_go X rc vt scr tx (.dup) a b c v u pc L st w) : x_WW cl ct fk D cA p l e R s m args below meth c0 A (mt M).2.2.1 ad0 w0 Q pc L st w := by
  intro hg H locs ls ad hext hrep hS hl hws hwl
  have hd : decode (mt M).2.1 pc = .ok (.dup, len) := ok.1
  obtain rfl : len = 1 := ok.2
  have h0 : x_pV st (fun x r => x_K X (pc + 1) L (x :: x :: r) w) := h
  obtain ⟨x, r, rfl, hc, h, -⟩ := x_pV_of h0
  exact lv_dup hx hb hd (by rw [x_cat_cv]; cases x <;> first | rfl | cases hc) ((hK1 _ _ _ _ h).2 hg H locs ls ad hext hrep hS hl (x_wc (x_wh hws) hws) hwl)

theorem xs_pop  (hx : p.tables.exec = Jvm.exec) (hb : c0.code = (mt M).2.1) (hK1 : ∀ pc L st w, X (.inl (pc, L, st, w)) → x_gr w w9 ∧ x_WW cl ct fk D cA p l e R s m args below meth c0 A (mt M).2.2.1 ad0 w0 Q pc L st w)  (ok : x_okr cl ct fk ty Ts Nw mt rc vt en M (pc, .pop, len, a, b, c, v, u)) (h : x_go X rc vt scr tx (.pop) a b c v u pc L st w) : x_WW cl ct fk D cA p l e R s m args below meth c0 A (mt M).2.2.1 ad0 w0 Q pc L st w := by
  intro hg H locs ls ad hext hrep hS hl hws hwl
  have hd : decode (mt M).2.1 pc = .ok (.pop, len) := ok.1
  obtain rfl : len = 1 := ok.2
  have h0 : x_pV st (fun _ r => x_K X (pc + 1) L r w) := h
  obtain ⟨x, r, rfl, hc, h, -⟩ := x_pV_of h0
  exact lv_pop hx hb hd (by rw [x_cat_cv]; cases x <;> first | rfl | cases hc) ((hK1 _ _ _ _ h).2 hg H locs ls ad hext hrep hS hl (x_wt1 hws) hwl)

theorem xs_dup2  (hx : p.tables.exec = Jvm.exec) (hb : c0.code = (mt M).2.1) (hK1 : ∀ pc L st w, X (.inl (pc, L, st, w)) → x_gr w w9 ∧ x_WW cl ct fk D cA p l e R s m args below meth c0 A (mt M).2.2.1 ad0 w0 Q pc L st w)  (ok : x_okr cl ct fk ty Ts Nw mt rc vt en M (pc, .dup2, len, a, b, c, v, u)) (h : x_go X rc vt scr tx (.dup2) a b c v u pc L st w) : x_WW cl ct fk D cA p l e R s m args below meth c0 A (mt M).2.2.1 ad0 w0 Q pc L st w := by
  intro hg H locs ls ad hext hrep hS hl hws hwl
  have hd : decode (mt M).2.1 pc = .ok (.dup2, len) := ok.1
  obtain rfl : len = 1 := ok.2
  obtain ⟨y, r, rfl, h⟩ := x_pI_of h
  obtain ⟨x, r, rfl, h⟩ := x_pR_of h
  exact lv_dup2_11 hx hb hd rfl rfl ((hK1 _ _ _ _ h).2 hg H locs ls ad hext hrep hS hl (x_wc trivial (x_wc (x_wh (x_wt1 hws)) hws)) hwl)

theorem xs_ifCond {cd : ClassFile.Cond} {off : Int} (hx : p.tables.exec = Jvm.exec) (hb : c0.code = (mt M).2.1) (hK1 : ∀ pc L st w, X (.inl (pc, L, st, w)) → x_gr w w9 ∧ x_WW cl ct fk D cA p l e R s m args below meth c0 A (mt M).2.2.1 ad0 w0 Q pc L st w)  (ok : x_okr cl ct fk ty Ts Nw mt rc vt en M (pc, .ifCond cd off, len, a, b, c, v, u)) (h : x_go X rc vt scr tx (.ifCond cd off) a b c v u pc L st w) : x_WW cl ct fk D cA p l e R s m args below meth c0 A (mt M).2.2.1 ad0 w0 Q pc L st w := by
  intro hg H locs ls ad hext hrep hS hl hws hwl
  have hd : decode (mt M).2.1 pc = .ok (.ifCond cd off, len) := ok.1
  obtain ⟨rfl, ht⟩ := ok.2
  obtain ⟨x, r, rfl, h⟩ := x_pI_of h
  obtain ⟨h1, h2⟩ := h
  cases cd
  · exact lv_if_eq hx hb hd ht (fun q => ((hK1 _ _ _ _ (h1 q)).2 hg H locs ls ad hext hrep hS hl (x_wt1 hws) hwl)) (fun q => ((hK1 _ _ _ _ (h2 q)).2 hg H locs ls ad hext hrep hS hl (x_wt1 hws) hwl))
  · exact lv_if_ne hx hb hd ht (fun q => ((hK1 _ _ _ _ (h1 q)).2 hg H locs ls ad hext hrep hS hl (x_wt1 hws) hwl)) (fun q => ((hK1 _ _ _ _ (h2 (fun z => z q))).2 hg H locs ls ad hext hrep hS hl (x_wt1 hws) hwl))
  · exact lv_if_lt hx hb hd ht (fun q => ((hK1 _ _ _ _ (h1 q)).2 hg H locs ls ad hext hrep hS hl (x_wt1 hws) hwl)) (fun q => ((hK1 _ _ _ _ (h2 q)).2 hg H locs ls ad hext hrep hS hl (x_wt1 hws) hwl))
  · exact lv_if_ge hx hb hd ht (fun q => ((hK1 _ _ _ _ (h1 q)).2 hg H locs ls ad hext hrep hS hl (x_wt1 hws) hwl)) (fun q => ((hK1 _ _ _ _ (h2 q)).2 hg H locs ls ad hext hrep hS hl (x_wt1 hws) hwl))
  · exact lv_if_gt hx hb hd ht (fun q => ((hK1 _ _ _ _ (h1 q)).2 hg H locs ls ad hext hrep hS hl (x_wt1 hws) hwl)) (fun q => ((hK1 _ _ _ _ (h2 q)).2 hg H locs ls ad hext hrep hS hl (x_wt1 hws) hwl))
  · exact lv_if_le hx hb hd ht (fun q => ((hK1 _ _ _ _ (h1 q)).2 hg H locs ls ad hext hrep hS hl (x_wt1 hws) hwl)) (fun q => ((hK1 _ _ _ _ (h2 q)).2 hg H locs ls ad hext hrep hS hl (x_wt1 hws) hwl))

theorem xs_if_icmp {cd : ClassFile.Cond} {off : Int} (hx : p.tables.exec = Jvm.exec) (hb : c0.code = (mt M).2.1) (hK1 : ∀ pc L st w, X (.inl (pc, L, st, w)) → x_gr w w9 ∧ x_WW cl ct fk D cA p l e R s m args below meth c0 A (mt M).2.2.1 ad0 w0 Q pc L st w)  (ok : x_okr cl ct fk ty Ts Nw mt rc vt en M (pc, .if_icmp cd off, len, a, b, c, v, u)) (h : x_go X rc vt scr tx (.if_icmp cd off) a b c v u pc L st w) : x_WW cl ct fk D cA p l e R s m args below meth c0 A (mt M).2.2.1 ad0 w0 Q pc L st w := by
  intro hg H locs ls ad hext hrep hS hl hws hwl
  have hd : decode (mt M).2.1 pc = .ok (.if_icmp cd off, len) := ok.1
  obtain ⟨rfl, ht⟩ := ok.2
  obtain ⟨y, r, rfl, h⟩ := x_pI_of h
  obtain ⟨x, r, rfl, h⟩ := x_pI_of h
  obtain ⟨h1, h2⟩ := h
  cases cd
  · exact lv_icmp_eq hx hb hd ht (fun q => ((hK1 _ _ _ _ (h1 q)).2 hg H locs ls ad hext hrep hS hl (x_wt1 (x_wt1 hws)) hwl)) (fun q => ((hK1 _ _ _ _ (h2 q)).2 hg H locs ls ad hext hrep hS hl (x_wt1 (x_wt1 hws)) hwl))
  · exact lv_icmp_ne hx hb hd ht (fun q => ((hK1 _ _ _ _ (h1 q)).2 hg H locs ls ad hext hrep hS hl (x_wt1 (x_wt1 hws)) hwl)) (fun q => ((hK1 _ _ _ _ (h2 (fun z => z q))).2 hg H locs ls ad hext hrep hS hl (x_wt1 (x_wt1 hws)) hwl))
  · exact lv_icmp_lt hx hb hd ht (fun q => ((hK1 _ _ _ _ (h1 q)).2 hg H locs ls ad hext hrep hS hl (x_wt1 (x_wt1 hws)) hwl)) (fun q => ((hK1 _ _ _ _ (h2 q)).2 hg H locs ls ad hext hrep hS hl (x_wt1 (x_wt1 hws)) hwl))
  · exact lv_icmp_ge hx hb hd ht (fun q => ((hK1 _ _ _ _ (h1 q)).2 hg H locs ls ad hext hrep hS hl (x_wt1 (x_wt1 hws)) hwl)) (fun q => ((hK1 _ _ _ _ (h2 q)).2 hg H locs ls ad hext hrep hS hl (x_wt1 (x_wt1 hws)) hwl))
  · exact lv_icmp_gt hx hb hd ht (fun q => ((hK1 _ _ _ _ (h1 q)).2 hg H locs ls ad hext hrep hS hl (x_wt1 (x_wt1 hws)) hwl)) (fun q => ((hK1 _ _ _ _ (h2 q)).2 hg H locs ls ad hext hrep hS hl (x_wt1 (x_wt1 hws)) hwl))
  · exact lv_icmp_le hx hb hd ht (fun q => ((hK1 _ _ _ _ (h1 q)).2 hg H locs ls ad hext hrep hS hl (x_wt1 (x_wt1 hws)) hwl)) (fun q => ((hK1 _ _ _ _ (h2 q)).2 hg H locs ls ad hext hrep hS hl (x_wt1 (x_wt1 hws)) hwl))

theorem xs_goto {off : Int} (hx : p.tables.exec = Jvm.exec) (hb : c0.code = (mt M).2.1) (hK1 : ∀ pc L st w, X (.inl (pc, L, st, w)) → x_gr w w9 ∧ x_WW cl ct fk D cA p l e R s m args below meth c0 A (mt M).2.2.1 ad0 w0 Q pc L st w)  (ok : x_okr cl ct fk ty Ts Nw mt rc vt en M (pc, .goto off, len, a, b, c, v, u)) (h : x_go X rc vt scr tx (.goto off) a b c v u pc L st w) : x_WW cl ct fk D cA p l e R s m args below meth c0 A (mt M).2.2.1 ad0 w0 Q pc L st w := by
  intro hg H locs ls ad hext hrep hS hl hws hwl
  have hd : decode (mt M).2.1 pc = .ok (.goto off, len) := ok.1
  obtain ⟨rfl, ht⟩ := ok.2
  exact lv_goto hx hb hd ht ((hK1 _ _ _ _ h).2 hg H locs ls ad hext hrep hS hl hws hwl)

end X8
end
section
/-! One step of the JVM for each row of code: cells, calls, ends. -/
theorem x_fv_0 {fk : Nat → Nat → Nat} {ad : Nat → Nat} {w : xW} {o a b : Nat} (h : fk a b = 0) : x_fv fk ad w o a b = .int (x_i w o b) := by unfold x_fv; rw [h]
theorem x_fv_1 {fk : Nat → Nat → Nat} {ad : Nat → Nat} {w : xW} {o a b : Nat} (h : fk a b = 1) : x_fv fk ad w o a b = .long (x_j w o b) := by unfold x_fv; rw [h]
theorem x_fv_2 {fk : Nat → Nat → Nat} {ad : Nat → Nat} {w : xW} {o a b k : Nat} (h : fk a b = k + 2) : x_fv fk ad w o a b = x_rv ad (x_r w o b) := by unfold x_fv; rw [h]
section X8
variable {cl : List vw_C} {ct : Nat → vw_C} {fk : Nat → Nat → Nat} {ty : Nat → Nat → FieldType} {Ts Nw : List Cond} {mt : Nat → xM} {en : Nat → String × String × String} {P : xP} {l : Launch} {D : va_G} {cA : Nat → ClassId} {scr : Nat × (Nat → Int32)} {rc : Nat → Nat} {vt : Nat → Nat × Nat × Nat × Nat} {tx : Nat → List Int32}
variable {p : Program} {e : Env} {R : Room} {s : State} {m : MethodId} {args : Array Value} {below : List Frame} {meth : Method} {c0 : Code} {A : Nat → Prop} {ad0 : Nat → Nat} {w0 w9 : xW} {v9 : Option Value} {X : xT → Prop} {M : Nat} {Q : State → Prop}
variable {pc len a b c : Nat} {v : Int32} {u : Int64} {L : xL} {st : List Value} {w : xW}


set_option maxHeartbeats 1000000 in
theorem xs_if_acmp {off : Int} (hx : p.tables.exec = Jvm.exec) (hb : c0.code = (mt M).2.1) (hK1 : ∀ pc L st w, X (.inl (pc, L, st, w)) → x_gr w w9 ∧ x_WW cl ct fk D cA p l e R s m args below meth c0 A (mt M).2.2.1 ad0 w0 Q pc L st w) (hcon : x_con en scr ad0 A s s.heap) (ok : x_okr cl ct fk ty Ts Nw mt rc vt en M (pc, .if_acmp .ne off, len, a, b, c, v, u)) (h : x_go X rc vt scr tx (.if_acmp .ne off) a b c v u pc L st w) : x_WW cl ct fk D cA p l e R s m args below meth c0 A (mt M).2.2.1 ad0 w0 Q pc L st w := by
  intro hg H locs ls ad hext hrep hS hl hws hwl
  have hd : decode (mt M).2.1 pc = .ok (.if_acmp .ne off, len) := ok.1
  obtain ⟨rfl, ht⟩ := ok.2
  obtain ⟨y, r, e9, h9⟩ := x_pR_of h
  subst e9
  replace h := h9
  obtain ⟨x, r, e9, h9⟩ := x_pR_of h
  subst e9
  replace h := h9
  obtain ⟨⟨q1, q2, q3, q4⟩, h1, h2⟩ := h
  have hinj : ad x = ad y → x = y := by
    intro he
    have e1 := hext x (Or.inr (by have : x_sc = 1000000 := rfl; have : x_en = 1000001 := rfl; omega))
    have e2 := hext y (Or.inr (by have : x_sc = 1000000 := rfl; have : x_en = 1000001 := rfl; omega))
    rw [e1, e2] at he
    have := hcon.2.2 (x - x_en) (y - x_en) (by omega) (by omega) (by rw [Nat.add_sub_cancel' q1, Nat.add_sub_cancel' q3]; exact he)
    exact (Nat.add_sub_cancel' q1).symm.trans ((congrArg (x_en + ·) this).trans (Nat.add_sub_cancel' q3))
  refine lv_acmp_ne (rx := some (ad x)) (ry := some (ad y)) hx hb hd ht (fun q => ?_) (fun q => ?_)
  · exact (hK1 _ _ _ _ (h1 fun z => q (by rw [z]))).2 hg H locs ls ad hext hrep hS hl (x_wt1 (x_wt1 hws)) hwl
  · exact (hK1 _ _ _ _ (h2 fun z => z (hinj (Option.some.inj q)))).2 hg H locs ls ad hext hrep hS hl (x_wt1 (x_wt1 hws)) hwl

set_option maxHeartbeats 1000000 in
theorem xs_tableswitch {d lo hi : Int} {offs : Array Int} (hx : p.tables.exec = Jvm.exec) (hb : c0.code = (mt M).2.1) (hK1 : ∀ pc L st w, X (.inl (pc, L, st, w)) → x_gr w w9 ∧ x_WW cl ct fk D cA p l e R s m args below meth c0 A (mt M).2.2.1 ad0 w0 Q pc L st w)  (ok : x_okr cl ct fk ty Ts Nw mt rc vt en M (pc, .tableswitch d lo hi offs, len, a, b, c, v, u)) (h : x_go X rc vt scr tx (.tableswitch d lo hi offs) a b c v u pc L st w) : x_WW cl ct fk D cA p l e R s m args below meth c0 A (mt M).2.2.1 ad0 w0 Q pc L st w := by
  intro hg H locs ls ad hext hrep hS hl hws hwl
  have hd : decode (mt M).2.1 pc = .ok (.tableswitch d lo hi offs, len) := ok.1
  obtain ⟨⟨t, ht⟩, hoffs⟩ := ok.2
  obtain ⟨x, r, e9, h9⟩ := x_pI_of h
  subst e9
  replace h := h9
  rcases x_br_of h with ⟨hc, h⟩ | ⟨hc, h⟩
  · have et : ((pc : Int) + d).toNat = t := by rw [ht]; rfl
    have h : X (.inl (((pc : Int) + d).toNat, L, r, w)) := h
    rw [et] at h
    exact lv_tableOut hx hb hd hc ht ((hK1 _ _ _ _ h).2 hg H locs ls ad hext hrep hS hl (x_wt1 hws) hwl)
  · obtain ⟨o, ho, h⟩ := x_som_of h
    obtain ⟨t2, ht2⟩ := hoffs _ _ ho
    have et : ((pc : Int) + o).toNat = t2 := by rw [ht2]; rfl
    have h : X (.inl (((pc : Int) + o).toNat, L, r, w)) := h
    rw [et] at h
    exact lv_tableIn hx hb hd (fun q => hc (Or.inl q)) (fun q => hc (Or.inr q)) ho ht2 ((hK1 _ _ _ _ h).2 hg H locs ls ad hext hrep hS hl (x_wt1 hws) hwl)

set_option maxHeartbeats 1000000 in
theorem xs_getfield {i : Nat} (hx : p.tables.exec = Jvm.exec) (hb : c0.code = (mt M).2.1) (hK1 : ∀ pc L st w, X (.inl (pc, L, st, w)) → x_gr w w9 ∧ x_WW cl ct fk D cA p l e R s m args below meth c0 A (mt M).2.2.1 ad0 w0 Q pc L st w) (hown : s.vm.findClass (mt M).2.2.2.2 = some m.cls) (hts : ∀ q ∈ Ts, q.before args s = true) (hK : va_K D cl (x_tys cA) s) (ok : x_okr cl ct fk ty Ts Nw mt rc vt en M (pc, .getfield i, len, a, b, c, v, u)) (h : x_go X rc vt scr tx (.getfield i) a b c v u pc L st w) : x_WW cl ct fk D cA p l e R s m args below meth c0 A (mt M).2.2.1 ad0 w0 Q pc L st w := by
  intro hg H locs ls ad hext hrep hS hl hws hwl
  have hd : decode (mt M).2.1 pc = .ok (.getfield i, len) := ok.1
  obtain ⟨rfl, ok2⟩ := ok.2
  obtain ⟨o, r, e9, h9⟩ := x_pR_of h
  subst e9
  replace h := h9
  obtain ⟨hk, h⟩ := h
  obtain ⟨a, ha, hk⟩ := x_kd_of hk
  obtain ⟨hcf, hfl, hfk⟩ := ok2 a ha
  refine x_getI hx hb hts hcf hfl hown hK hrep hk hd ?_
  rcases x_sw_of h with ⟨hc, h1⟩ | ⟨hc, h1⟩
  · rw [x_fv_0 (hfk.trans hc)]
    exact (hK1 _ _ _ _ h1).2 hg H locs ls ad hext hrep hS hl (x_wc trivial (x_wt1 hws)) hwl
  rcases x_sw_of h1 with ⟨hc2, h2⟩ | ⟨hc2, h2⟩
  · rw [x_fv_1 (hfk.trans (by omega))]
    exact (hK1 _ _ _ _ h2).2 hg H locs ls ad hext hrep hS hl (x_wc trivial (x_wt1 hws)) hwl
  · obtain ⟨hn, h3⟩ := h2
    have hrv : x_rv ad (x_r w o b) = .ref (ad (x_r w o b)) := by
      cases hz : x_r w o b with
      | zero => exact absurd hz hn
      | succ j => rfl
    rw [x_fv_2 (k := c - 2) (hfk.trans (by omega)), hrv]
    exact (hK1 _ _ _ _ h3).2 hg H locs ls ad hext hrep hS hl (x_wc (Or.inl (by rcases hrep.2.2.2 o b with q | q; exact absurd q hn; exact q)) (x_wt1 hws)) hwl

set_option maxHeartbeats 2000000 in
theorem xs_putfield {i : Nat} (hx : p.tables.exec = Jvm.exec) (hb : c0.code = (mt M).2.1) (hK1 : ∀ pc L st w, X (.inl (pc, L, st, w)) → x_gr w w9 ∧ x_WW cl ct fk D cA p l e R s m args below meth c0 A (mt M).2.2.1 ad0 w0 Q pc L st w) (hown : s.vm.findClass (mt M).2.2.2.2 = some m.cls) (hts : ∀ q ∈ Ts, q.before args s = true) (hK : va_K D cl (x_tys cA) s) (hnm : meth.name = (mt M).1.name) (ok : x_okr cl ct fk ty Ts Nw mt rc vt en M (pc, .putfield i, len, a, b, c, v, u)) (h : x_go X rc vt scr tx (.putfield i) a b c v u pc L st w) : x_WW cl ct fk D cA p l e R s m args below meth c0 A (mt M).2.2.1 ad0 w0 Q pc L st w := by
  intro hg H locs ls ad hext hrep hS hl hws hwl
  have hd : decode (mt M).2.1 pc = .ok (.putfield i, len) := ok.1
  obtain ⟨rfl, ok2⟩ := ok.2
  have hfin' : ∀ a', (((ct a').2.1 b).2.2.2 = false ∨ (((ct a').2.1 b).2.2.2 = true ∧ (mt M).1.name = "<init>" ∧ ((ct a').2.1 b).1 = (mt M).2.2.2.2)) → (((ct a').2.1 b).2.2.2 = false ∨ (((ct a').2.1 b).2.2.2 = true ∧ meth.name = "<init>" ∧ ((ct a').2.1 b).1 = (mt M).2.2.2.2)) := by
    intro a' hfin
    rcases hfin with q | ⟨q1, q2, q3⟩
    · exact Or.inl q
    · exact Or.inr ⟨q1, hnm.trans q2, q3⟩
  rcases x_sw_of h with ⟨hc, h⟩ | ⟨hc, h⟩
  · obtain ⟨x, r, e9, h9⟩ := x_pI_of h
    subst e9
    replace h := h9
    obtain ⟨o, r, e9, h9⟩ := x_pR_of h
    subst e9
    replace h := h9
    obtain ⟨hk, h⟩ := h
    obtain ⟨a', ha, hk⟩ := x_kd_of hk
    obtain ⟨hcf, hfl, hfin, hty⟩ := ok2 a' ha
    obtain ⟨ht, hf0⟩ : ty a' b = .int ∧ fk a' b = 0 := by
      rcases hty with ⟨-, q⟩ | ⟨q, -⟩ | ⟨q, -⟩ | ⟨q, -⟩
      · exact q
      all_goals omega
    refine x_put (w' := x_si w o b x) (v := .int x) hx hb hts hcf hfl (hfin' a' hfin) hown hK hrep hS hk ht rfl rfl rfl rfl (fun i hi => x_ce_si hi) (by unfold x_fv; rw [hf0]; show Value.int (x_up (x_i w) o b x o b) = _; rw [x_up_s]) (fun k hkb => ?_) hrep.2.2.2 hd (fun H1 locs1 hrep1 hS1 => (hK1 _ _ _ _ h).2 hg H1 locs1 ls ad hext hrep1 hS1 hl (x_wt1 (x_wt1 hws)) hwl)
    unfold x_fv
    have : x_i (x_si w o b x) o k = x_i w o k := x_up_k hkb
    rw [this]; rfl
  rcases x_sw_of h with ⟨hc1, h⟩ | ⟨hc1, h⟩
  · obtain ⟨x, r, e9, h9⟩ := x_pL_of h
    subst e9
    replace h := h9
    obtain ⟨o, r, e9, h9⟩ := x_pR_of h
    subst e9
    replace h := h9
    obtain ⟨hk, h⟩ := h
    obtain ⟨a', ha, hk⟩ := x_kd_of hk
    obtain ⟨hcf, hfl, hfin, hty⟩ := ok2 a' ha
    obtain ⟨ht, hf0⟩ : ty a' b = .long ∧ fk a' b = 1 := by
      rcases hty with ⟨q, -⟩ | ⟨-, q⟩ | ⟨q, -⟩ | ⟨q, -⟩
      · omega
      · exact q
      all_goals omega
    refine x_put (w' := x_sj w o b x) (v := .long x) hx hb hts hcf hfl (hfin' a' hfin) hown hK hrep hS hk ht rfl rfl rfl rfl (fun i hi => x_ce_sj hi) (by unfold x_fv; rw [hf0]; show Value.long (x_up (x_j w) o b x o b) = _; rw [x_up_s]) (fun k hkb => ?_) hrep.2.2.2 hd (fun H1 locs1 hrep1 hS1 => (hK1 _ _ _ _ h).2 hg H1 locs1 ls ad hext hrep1 hS1 hl (x_wt1 (x_wt1 hws)) hwl)
    unfold x_fv
    have : x_j (x_sj w o b x) o k = x_j w o k := x_up_k hkb
    rw [this]; rfl
  rcases x_sw_of h with ⟨hc2, h⟩ | ⟨hc2, h⟩
  · obtain ⟨x, r, e9, h9⟩ := x_pR_of h
    subst e9
    replace h := h9
    obtain ⟨o, r, e9, h9⟩ := x_pR_of h
    subst e9
    replace h := h9
    obtain ⟨⟨hk, hx0, hxN⟩, h⟩ := h
    obtain ⟨a', ha, hk⟩ := x_kd_of hk
    obtain ⟨hcf, hfl, hfin, hty⟩ := ok2 a' ha
    have hf0 : fk a' b = 2 := by
      rcases hty with ⟨q, -⟩ | ⟨q, -⟩ | ⟨-, q⟩ | ⟨q, -⟩
      · omega
      · omega
      · exact q
      · omega
    have hv : x_fv fk ad (x_sr w o b x) o a' b = .ref (ad x) := by
      unfold x_fv; rw [hf0]
      show x_rv ad (x_up (x_r w) o b x o b) = _
      rw [x_up_s]
      cases x with
      | zero => exact absurd rfl hx0
      | succ j => rfl
    have hr : ∀ o' k, x_r (x_sr w o b x) o' k = 0 ∨ x_r (x_sr w o b x) o' k < x_N w := by
      intro o' k
      show x_up (x_r w) o b x o' k = 0 ∨ x_up (x_r w) o b x o' k < x_N w
      by_cases e1 : o' = o
      · subst e1
        by_cases e2 : k = b
        · subst e2; rw [x_up_s]; exact Or.inr hxN
        · rw [x_up_k e2]; exact hrep.2.2.2 o' k
      · rw [x_up_o e1]; exact hrep.2.2.2 o' k
    have hft := hcf.2.2.2.2.2 b hfl.1
    have htt : (∃ C, ty a' b = .object C) ∨ ∃ t, ty a' b = .array t := by
      rcases hft with ⟨q, -⟩ | ⟨q, -⟩ | ⟨-, q⟩
      · rw [hf0] at q; cases q
      · rw [hf0] at q; cases q
      · exact q
    have hne : ∀ k, ¬ k = b → x_fv fk ad (x_sr w o b x) o a' k = x_fv fk ad w o a' k := by
      intro k hkb
      unfold x_fv
      have : x_r (x_sr w o b x) o k = x_r w o k := x_up_k hkb
      rw [this]; rfl
    rcases htt with ⟨C, ht⟩ | ⟨t, ht⟩
    · exact x_put (w' := x_sr w o b x) (v := .ref (ad x)) hx hb hts hcf hfl (hfin' a' hfin) hown hK hrep hS hk ht rfl rfl rfl rfl (fun i hi => x_ce_sr hi) hv hne hr hd (fun H1 locs1 hrep1 hS1 => (hK1 _ _ _ _ h).2 hg H1 locs1 ls ad hext hrep1 hS1 hl (x_wt1 (x_wt1 hws)) hwl)
    · exact x_put (w' := x_sr w o b x) (v := .ref (ad x)) hx hb hts hcf hfl (hfin' a' hfin) hown hK hrep hS hk ht rfl rfl rfl rfl (fun i hi => x_ce_sr hi) hv hne hr hd (fun H1 locs1 hrep1 hS1 => (hK1 _ _ _ _ h).2 hg H1 locs1 ls ad hext hrep1 hS1 hl (x_wt1 (x_wt1 hws)) hwl)
  · obtain ⟨x, r, e9, h9⟩ := x_pI_of h
    subst e9
    replace h := h9
    obtain ⟨o, r, e9, h9⟩ := x_pR_of h
    subst e9
    replace h := h9
    obtain ⟨⟨hk, hx01⟩, h⟩ := h
    obtain ⟨a', ha, hk⟩ := x_kd_of hk
    obtain ⟨hcf, hfl, hfin, hty⟩ := ok2 a' ha
    obtain ⟨ht, hf0⟩ : ty a' b = .boolean ∧ fk a' b = 0 := by
      rcases hty with ⟨q, -⟩ | ⟨q, -⟩ | ⟨q, -⟩ | ⟨-, q⟩
      · omega
      · omega
      · omega
      · exact q
    have hn : narrow .boolean (.int x) = .int x := by rcases hx01 with rfl | rfl <;> decide +kernel
    have hft : fits .boolean (.int x) = true := by rcases hx01 with rfl | rfl <;> decide +kernel
    refine x_put (w' := x_si w o b x) (v := .int x) hx hb hts hcf hfl (hfin' a' hfin) hown hK hrep hS hk ht hn hft rfl rfl (fun i hi => x_ce_si hi) (by unfold x_fv; rw [hf0]; show Value.int (x_up (x_i w) o b x o b) = _; rw [x_up_s]) (fun k hkb => ?_) hrep.2.2.2 hd (fun H1 locs1 hrep1 hS1 => (hK1 _ _ _ _ h).2 hg H1 locs1 ls ad hext hrep1 hS1 hl (x_wt1 (x_wt1 hws)) hwl)
    unfold x_fv
    have : x_i (x_si w o b x) o k = x_i w o k := x_up_k hkb
    rw [this]; rfl

set_option maxHeartbeats 1000000 in
theorem xs_getstatic {i : Nat} (hx : p.tables.exec = Jvm.exec) (hb : c0.code = (mt M).2.1) (hK1 : ∀ pc L st w, X (.inl (pc, L, st, w)) → x_gr w w9 ∧ x_WW cl ct fk D cA p l e R s m args below meth c0 A (mt M).2.2.1 ad0 w0 Q pc L st w) (hown : s.vm.findClass (mt M).2.2.2.2 = some m.cls) (hts : ∀ q ∈ Ts, q.before args s = true) (hcon : x_con en scr ad0 A s s.heap) (ok : x_okr cl ct fk ty Ts Nw mt rc vt en M (pc, .getstatic i, len, a, b, c, v, u)) (h : x_go X rc vt scr tx (.getstatic i) a b c v u pc L st w) : x_WW cl ct fk D cA p l e R s m args below meth c0 A (mt M).2.2.1 ad0 w0 Q pc L st w := by
  intro hg H locs ls ad hext hrep hS hl hws hwl
  have hd : decode (mt M).2.1 pc = .ok (.getstatic i, len) := ok.1
  obtain ⟨rfl, ha, ref, h1, h2⟩ := ok.2
  refine va_gets (A := A) hx hb (hcon.2.1 a ha) hS hown (hts _ h1) (fun x hx => by rw [← h2]; exact hx) hd ?_
  have e1 : ad (x_en + a) = ad0 (x_en + a) := hext _ (Or.inr (by show 1000000 ≤ 1000001 + a; omega))
  rw [← e1]
  exact (hK1 _ _ _ _ h).2 hg H locs ls ad hext hrep hS hl (x_wc (Or.inr (by show 1000000 ≤ 1000001 + a; omega)) hws) hwl

set_option maxHeartbeats 1000000 in
theorem xs_iaload  (hx : p.tables.exec = Jvm.exec) (hb : c0.code = (mt M).2.1) (hK1 : ∀ pc L st w, X (.inl (pc, L, st, w)) → x_gr w w9 ∧ x_WW cl ct fk D cA p l e R s m args below meth c0 A (mt M).2.2.1 ad0 w0 Q pc L st w) (hK : va_K D cl (x_tys cA) s) (hcon : x_con en scr ad0 A s s.heap) (ok : x_okr cl ct fk ty Ts Nw mt rc vt en M (pc, .iaload, len, a, b, c, v, u)) (h : x_go X rc vt scr tx (.iaload) a b c v u pc L st w) : x_WW cl ct fk D cA p l e R s m args below meth c0 A (mt M).2.2.1 ad0 w0 Q pc L st w := by
  intro hg H locs ls ad hext hrep hS hl hws hwl
  have hd : decode (mt M).2.1 pc = .ok (.iaload, len) := ok.1
  obtain rfl : len = 1 := ok.2
  obtain ⟨i, r, e9, h9⟩ := x_pI_of h
  subst e9
  replace h := h9
  obtain ⟨o, r, e9, h9⟩ := x_pR_of h
  subst e9
  replace h := h9
  rcases x_sw_of h with ⟨-, ⟨hk, hin⟩, h9⟩ | ⟨-, ⟨ho, hin⟩, h9⟩ <;> replace h := h9
  · have ho := x_in hrep hk (by omega)
    exact va_iald hx hb hK hrep.1 o 0 (by rw [x_wd_at ho, x_ce_0 hk]) rfl hin hd ((hK1 _ _ _ _ h).2 hg H locs ls ad hext hrep hS hl (x_wc trivial (x_wt1 (x_wt1 hws))) hwl)
  · subst ho
    have e1 : ad x_sc = ad0 x_sc := hext _ (Or.inr (Nat.le_refl _))
    show W p l e R s m args below meth c0 H locs _ _ Q (F0 m pc ls (.int i :: .ref (ad x_sc) :: _))
    rw [e1]
    exact va_sld (A := A) hx hb hcon.1.1 hcon.1.2.1 hcon.1.2.2 hS hin hd ((hK1 _ _ _ _ h).2 hg H locs ls ad hext hrep hS hl (x_wc trivial (x_wt1 (x_wt1 hws))) hwl)

set_option maxHeartbeats 1000000 in
theorem xs_baload  (hx : p.tables.exec = Jvm.exec) (hb : c0.code = (mt M).2.1) (hK1 : ∀ pc L st w, X (.inl (pc, L, st, w)) → x_gr w w9 ∧ x_WW cl ct fk D cA p l e R s m args below meth c0 A (mt M).2.2.1 ad0 w0 Q pc L st w) (hK : va_K D cl (x_tys cA) s) (ok : x_okr cl ct fk ty Ts Nw mt rc vt en M (pc, .baload, len, a, b, c, v, u)) (h : x_go X rc vt scr tx (.baload) a b c v u pc L st w) : x_WW cl ct fk D cA p l e R s m args below meth c0 A (mt M).2.2.1 ad0 w0 Q pc L st w := by
  intro hg H locs ls ad hext hrep hS hl hws hwl
  have hd : decode (mt M).2.1 pc = .ok (.baload, len) := ok.1
  obtain rfl : len = 1 := ok.2
  obtain ⟨i, r, e9, h9⟩ := x_pI_of h
  subst e9
  replace h := h9
  obtain ⟨o, r, e9, h9⟩ := x_pR_of h
  subst e9
  replace h := h9
  obtain ⟨⟨hk, hin⟩, h⟩ := h
  have ho := x_in hrep hk (by omega)
  exact va_zald hx hb hK hrep.1 o 1 (by rw [x_wd_at ho, x_ce_1 hk]) rfl hin hd ((hK1 _ _ _ _ h).2 hg H locs ls ad hext hrep hS hl (x_wc trivial (x_wt1 (x_wt1 hws))) hwl)

set_option maxHeartbeats 1000000 in
theorem xs_laload  (hx : p.tables.exec = Jvm.exec) (hb : c0.code = (mt M).2.1) (hK1 : ∀ pc L st w, X (.inl (pc, L, st, w)) → x_gr w w9 ∧ x_WW cl ct fk D cA p l e R s m args below meth c0 A (mt M).2.2.1 ad0 w0 Q pc L st w) (hK : va_K D cl (x_tys cA) s) (ok : x_okr cl ct fk ty Ts Nw mt rc vt en M (pc, .laload, len, a, b, c, v, u)) (h : x_go X rc vt scr tx (.laload) a b c v u pc L st w) : x_WW cl ct fk D cA p l e R s m args below meth c0 A (mt M).2.2.1 ad0 w0 Q pc L st w := by
  intro hg H locs ls ad hext hrep hS hl hws hwl
  have hd : decode (mt M).2.1 pc = .ok (.laload, len) := ok.1
  obtain rfl : len = 1 := ok.2
  obtain ⟨i, r, e9, h9⟩ := x_pI_of h
  subst e9
  replace h := h9
  obtain ⟨o, r, e9, h9⟩ := x_pR_of h
  subst e9
  replace h := h9
  obtain ⟨⟨hk, hin⟩, h⟩ := h
  have ho := x_in hrep hk (by omega)
  exact va_lald hx hb hK hrep.1 o 2 (by rw [x_wd_at ho, x_ce_2 hk]) rfl hin hd ((hK1 _ _ _ _ h).2 hg H locs ls ad hext hrep hS hl (x_wc trivial (x_wt1 (x_wt1 hws))) hwl)

set_option maxHeartbeats 1000000 in
theorem xs_iastore  (hx : p.tables.exec = Jvm.exec) (hb : c0.code = (mt M).2.1) (hK1 : ∀ pc L st w, X (.inl (pc, L, st, w)) → x_gr w w9 ∧ x_WW cl ct fk D cA p l e R s m args below meth c0 A (mt M).2.2.1 ad0 w0 Q pc L st w) (hK : va_K D cl (x_tys cA) s) (ok : x_okr cl ct fk ty Ts Nw mt rc vt en M (pc, .iastore, len, a, b, c, v, u)) (h : x_go X rc vt scr tx (.iastore) a b c v u pc L st w) : x_WW cl ct fk D cA p l e R s m args below meth c0 A (mt M).2.2.1 ad0 w0 Q pc L st w := by
  intro hg H locs ls ad hext hrep hS hl hws hwl
  have hd : decode (mt M).2.1 pc = .ok (.iastore, len) := ok.1
  obtain rfl : len = 1 := ok.2
  obtain ⟨x, r, e9, h9⟩ := x_pI_of h
  subst e9
  replace h := h9
  obtain ⟨i, r, e9, h9⟩ := x_pI_of h
  subst e9
  replace h := h9
  obtain ⟨o, r, e9, h9⟩ := x_pR_of h
  subst e9
  replace h := h9
  obtain ⟨⟨hk, hin⟩, h⟩ := h
  exact x_iast hx hb hK hrep hS hk hin hd (fun H1 locs1 hrep1 hS1 => (hK1 _ _ _ _ h).2 hg H1 locs1 ls ad hext hrep1 hS1 hl (x_wt1 (x_wt1 (x_wt1 hws))) hwl)

set_option maxHeartbeats 1000000 in
theorem xs_bastore  (hx : p.tables.exec = Jvm.exec) (hb : c0.code = (mt M).2.1) (hK1 : ∀ pc L st w, X (.inl (pc, L, st, w)) → x_gr w w9 ∧ x_WW cl ct fk D cA p l e R s m args below meth c0 A (mt M).2.2.1 ad0 w0 Q pc L st w) (hK : va_K D cl (x_tys cA) s) (ok : x_okr cl ct fk ty Ts Nw mt rc vt en M (pc, .bastore, len, a, b, c, v, u)) (h : x_go X rc vt scr tx (.bastore) a b c v u pc L st w) : x_WW cl ct fk D cA p l e R s m args below meth c0 A (mt M).2.2.1 ad0 w0 Q pc L st w := by
  intro hg H locs ls ad hext hrep hS hl hws hwl
  have hd : decode (mt M).2.1 pc = .ok (.bastore, len) := ok.1
  obtain rfl : len = 1 := ok.2
  obtain ⟨x, r, e9, h9⟩ := x_pI_of h
  subst e9
  replace h := h9
  obtain ⟨i, r, e9, h9⟩ := x_pI_of h
  subst e9
  replace h := h9
  obtain ⟨o, r, e9, h9⟩ := x_pR_of h
  subst e9
  replace h := h9
  obtain ⟨⟨hk, hin, hx01⟩, h⟩ := h
  exact x_zast hx hb hK hrep hS hk hin hx01 hd (fun H1 locs1 hrep1 hS1 => (hK1 _ _ _ _ h).2 hg H1 locs1 ls ad hext hrep1 hS1 hl (x_wt1 (x_wt1 (x_wt1 hws))) hwl)

set_option maxHeartbeats 1000000 in
theorem xs_lastore  (hx : p.tables.exec = Jvm.exec) (hb : c0.code = (mt M).2.1) (hK1 : ∀ pc L st w, X (.inl (pc, L, st, w)) → x_gr w w9 ∧ x_WW cl ct fk D cA p l e R s m args below meth c0 A (mt M).2.2.1 ad0 w0 Q pc L st w) (hK : va_K D cl (x_tys cA) s) (ok : x_okr cl ct fk ty Ts Nw mt rc vt en M (pc, .lastore, len, a, b, c, v, u)) (h : x_go X rc vt scr tx (.lastore) a b c v u pc L st w) : x_WW cl ct fk D cA p l e R s m args below meth c0 A (mt M).2.2.1 ad0 w0 Q pc L st w := by
  intro hg H locs ls ad hext hrep hS hl hws hwl
  have hd : decode (mt M).2.1 pc = .ok (.lastore, len) := ok.1
  obtain rfl : len = 1 := ok.2
  obtain ⟨x, r, e9, h9⟩ := x_pL_of h
  subst e9
  replace h := h9
  obtain ⟨i, r, e9, h9⟩ := x_pI_of h
  subst e9
  replace h := h9
  obtain ⟨o, r, e9, h9⟩ := x_pR_of h
  subst e9
  replace h := h9
  obtain ⟨⟨hk, hin⟩, h⟩ := h
  exact x_last hx hb hK hrep hS hk hin hd (fun H1 locs1 hrep1 hS1 => (hK1 _ _ _ _ h).2 hg H1 locs1 ls ad hext hrep1 hS1 hl (x_wt1 (x_wt1 (x_wt1 hws))) hwl)

set_option maxHeartbeats 1000000 in
theorem xs_arraylength  (hx : p.tables.exec = Jvm.exec) (hb : c0.code = (mt M).2.1) (hK1 : ∀ pc L st w, X (.inl (pc, L, st, w)) → x_gr w w9 ∧ x_WW cl ct fk D cA p l e R s m args below meth c0 A (mt M).2.2.1 ad0 w0 Q pc L st w) (hK : va_K D cl (x_tys cA) s) (hcon : x_con en scr ad0 A s s.heap) (ok : x_okr cl ct fk ty Ts Nw mt rc vt en M (pc, .arraylength, len, a, b, c, v, u)) (h : x_go X rc vt scr tx (.arraylength) a b c v u pc L st w) : x_WW cl ct fk D cA p l e R s m args below meth c0 A (mt M).2.2.1 ad0 w0 Q pc L st w := by
  intro hg H locs ls ad hext hrep hS hl hws hwl
  have hd : decode (mt M).2.1 pc = .ok (.arraylength, len) := ok.1
  obtain rfl : len = 1 := ok.2
  obtain ⟨o, r, e9, h9⟩ := x_pR_of h
  subst e9
  replace h := h9
  rcases x_sw_of h with ⟨-, hk, h9⟩ | ⟨-, ho, h9⟩ <;> replace h := h9
  · have ho := x_in hrep hk (by omega)
    exact va_alen (x := (x_l w o, .inl (x_i w o))) hx hb hK hrep.1 o 0 (by rw [x_wd_at ho, x_ce_0 hk]) (ty := .int) rfl rfl hd ((hK1 _ _ _ _ h).2 hg H locs ls ad hext hrep hS hl (x_wc trivial (x_wt1 hws)) hwl)
  · subst ho
    have e1 : ad x_sc = ad0 x_sc := hext _ (Or.inr (Nat.le_refl _))
    show W p l e R s m args below meth c0 H locs _ _ Q (F0 m pc ls (.ref (ad x_sc) :: _))
    rw [e1]
    exact va_slen (A := A) hx hb hcon.1.1 hcon.1.2.1 hcon.1.2.2 hS hd ((hK1 _ _ _ _ h).2 hg H locs ls ad hext hrep hS hl (x_wc trivial (x_wt1 hws)) hwl)

end X8
end
section
/-! One step of the JVM for each row of code: new cells, calls, ends. -/
section X8
variable {cl : List vw_C} {ct : Nat → vw_C} {fk : Nat → Nat → Nat} {ty : Nat → Nat → FieldType} {Ts Nw : List Cond} {mt : Nat → xM} {en : Nat → String × String × String} {P : xP} {l : Launch} {D : va_G} {cA : Nat → ClassId} {scr : Nat × (Nat → Int32)} {rc : Nat → Nat} {vt : Nat → Nat × Nat × Nat × Nat} {tx : Nat → List Int32}
variable {p : Program} {e : Env} {R : Room} {s : State} {m : MethodId} {args : Array Value} {below : List Frame} {meth : Method} {c0 : Code} {A : Nat → Prop} {ad0 : Nat → Nat} {w0 w9 : xW} {v9 : Option Value} {X : xT → Prop} {M : Nat} {Q : State → Prop}
variable {pc len a b c : Nat} {v : Int32} {u : Int64} {L : xL} {st : List Value} {w : xW}


set_option maxHeartbeats 1000000 in
theorem xs_new {i : Nat} (hx : p.tables.exec = Jvm.exec) (hb : c0.code = (mt M).2.1) (hK1 : ∀ pc L st w, X (.inl (pc, L, st, w)) → x_gr w w9 ∧ x_WW cl ct fk D cA p l e R s m args below meth c0 A (mt M).2.2.1 ad0 w0 Q pc L st w) (hown : s.vm.findClass (mt M).2.2.2.2 = some m.cls) (hts : ∀ q ∈ Ts, q.before args s = true) (hK : va_K D cl (x_tys cA) s) (hA : ∀ q, s.heap.size ≤ q → A q) (hR : P.2.1 M + 2 ≤ R.frames ∧ 33 * P.2.1 M + 100 ≤ R.locals ∧ x_C w9 - x_C w0 ≤ R.cells ∧ x_S w9 - x_S w0 ≤ R.slots) (hT1 : ∀ k w, ¬ X (.inr (.inr (.inr (k, w))))) (ok : x_okr cl ct fk ty Ts Nw mt rc vt en M (pc, .new i, len, a, b, c, v, u)) (h : x_go X rc vt scr tx (.new i) a b c v u pc L st w) : x_WW cl ct fk D cA p l e R s m args below meth c0 A (mt M).2.2.1 ad0 w0 Q pc L st w := by
  intro hg H locs ls ad hext hrep hS hl hws hwl
  have hd : decode (mt M).2.1 pc = .ok (.new i, len) := ok.1
  obtain ⟨rfl, ok2⟩ := ok.2
  rcases x_sw_of h with ⟨hc, hN, h⟩ | ⟨-, h⟩
  · obtain ⟨hcf, rfl, o1, o2, o3⟩ := ok2 hc
    obtain ⟨h1, h2, h3, h4, h5, h6⟩ := hcf
    have hgr := (hK1 _ _ _ _ h).1
    have g1 : x_C w + 1 ≤ x_C w9 := hgr.2.1
    have g2 : x_S w + (ct a).2.2 ≤ x_S w9 := hgr.2.2
    have g3 := hg.2.1
    have g4 := hg.2.2
    have hfs : ∀ j, j < (ct a).2.2 → defaultValue (ty a j) = vp_V ((List.range (ct a).2.2).map (x_fv fk ad (x_new w (a + 3) (ct a).2.2 (ct a).2.2) (x_N w) a)) j := by
      intro j hj
      have e1 : vp_V ((List.range (ct a).2.2).map (x_fv fk ad (x_new w (a + 3) (ct a).2.2 (ct a).2.2) (x_N w) a)) j = x_fv fk ad (x_new w (a + 3) (ct a).2.2 (ct a).2.2) (x_N w) a j := by
        unfold vp_V
        rw [List.getD_eq_getElem?_getD, x_fv_at hj]
        rfl
      rw [e1]
      unfold x_fv
      have z1 : x_i (x_new w (a + 3) (ct a).2.2 (ct a).2.2) (x_N w) j = 0 := by simp [x_i, x_new, x_row]
      have z2 : x_j (x_new w (a + 3) (ct a).2.2 (ct a).2.2) (x_N w) j = 0 := by simp [x_j, x_new, x_row]
      have z3 : x_r (x_new w (a + 3) (ct a).2.2 (ct a).2.2) (x_N w) j = 0 := by simp [x_r, x_new, x_row]
      rcases h6 j hj with ⟨q1, q2 | q2⟩ | ⟨q1, q2⟩ | ⟨q1, ⟨C, q2⟩ | ⟨t, q2⟩⟩
      · rw [q1, q2, z1]; rfl
      · rw [q1, q2, z1]; rfl
      · rw [q1, q2, z2]; rfl
      · rw [q1, q2, z3]; rfl
      · rw [q1, q2, z3]; rfl
    refine va_new (ci := a) (C := (ct a).1) (T := (ct a).2.1) (N := (ct a).2.2) hx hb hts h3 (ty a) h4 hown (hts _ o1) (hts _ o2) (hts _ o3) hK hrep.1 hrep.2.1 hS hA h1 hfs (Nat.le_trans (by omega) hR.2.2.1) (Nat.le_trans (by omega) hR.2.2.2) hd (fun q H1 hP hD hS1 => ?_)
    have hkN : x_k (x_new w (a + 3) (ct a).2.2 (ct a).2.2) (x_N w) = a + 3 := by simp [x_k, x_new, x_row]
    have hrep1 := x_made (kind := a + 3) (len := (ct a).2.2) (n := (ct a).2.2) (q := q) hN hrep (x := .inr (a, (List.range (ct a).2.2).map (x_fv fk ad (x_new w (a + 3) (ct a).2.2 (ct a).2.2) (x_N w) a))) (by
      rw [x_ce_obj hkN]
      congr 2
      apply List.map_congr_left
      intro j hj
      unfold x_fv
      have z3 : x_r (x_new w (a + 3) (ct a).2.2 (ct a).2.2) (x_N w) j = 0 := by simp [x_r, x_new, x_row]
      rw [z3]; rfl) hP hD
    have hx1 : x_ext (x_N w) ad (x_adN ad (x_N w) q) := x_adN_ext hN
    have hw1 : ∀ v ∈ st, x_wf (x_N w + 1) v := fun v hv => x_wf_le (Nat.le_succ _) (hws v hv)
    refine W.cs (cells' := x_C (x_new w (a + 3) (ct a).2.2 (ct a).2.2) - x_C w0) (slots' := x_S (x_new w (a + 3) (ct a).2.2 (ct a).2.2) - x_S w0) (by show _ = x_C w + 1 - x_C w0; omega) (by show _ = x_S w + (ct a).2.2 - x_S w0; omega) ?_
    have k1 := (hK1 _ _ _ _ h).2 (x_gr_tr hg ⟨Nat.le_succ _, Nat.le_succ _, Nat.le_add_right _ _⟩) H1 locs ls (x_adN ad (x_N w) q) (x_ext_tr hg.1 hext hx1) hrep1 hS1 (x_lh_ext hx1 hl hwl) (x_wc (Or.inl (Nat.lt_succ_self _)) hw1) (fun i v hv => x_wf_le (Nat.le_succ _) (hwl i v hv))
    rw [List.map_cons, x_st_ext hx1 hws] at k1
    have e2 : x_cv (x_adN ad (x_N w) q) (.ref (x_N w)) = .ref q := by show Value.ref _ = _; rw [x_adN_s]
    rw [e2] at k1
    exact k1
  · obtain ⟨-, h⟩ := x_nil_of h
    exact absurd h (hT1 _ _)

set_option maxHeartbeats 1000000 in
theorem xs_newarray {t : ArrayType} (hx : p.tables.exec = Jvm.exec) (hb : c0.code = (mt M).2.1) (hK1 : ∀ pc L st w, X (.inl (pc, L, st, w)) → x_gr w w9 ∧ x_WW cl ct fk D cA p l e R s m args below meth c0 A (mt M).2.2.1 ad0 w0 Q pc L st w) (hown : s.vm.findClass (mt M).2.2.2.2 = some m.cls) (hts : ∀ q ∈ Ts, q.before args s = true) (hK : va_K D cl (x_tys cA) s) (hA : ∀ q, s.heap.size ≤ q → A q) (hR : P.2.1 M + 2 ≤ R.frames ∧ 33 * P.2.1 M + 100 ≤ R.locals ∧ x_C w9 - x_C w0 ≤ R.cells ∧ x_S w9 - x_S w0 ≤ R.slots) (ok : x_okr cl ct fk ty Ts Nw mt rc vt en M (pc, .newarray t, len, a, b, c, v, u)) (h : x_go X rc vt scr tx (.newarray t) a b c v u pc L st w) : x_WW cl ct fk D cA p l e R s m args below meth c0 A (mt M).2.2.1 ad0 w0 Q pc L st w := by
  intro hg H locs ls ad hext hrep hS hl hws hwl
  have hd : decode (mt M).2.1 pc = .ok (.newarray t, len) := ok.1
  obtain ⟨rfl, o1, o2⟩ := ok.2
  obtain ⟨x, r, e9, h9⟩ := x_pI_of h
  subst e9
  replace h := h9
  obtain ⟨⟨hx0, hx1, hN⟩, h⟩ := h
  have hgr := (hK1 _ _ _ _ h).1
  have g1 : x_C w + 1 ≤ x_C w9 := hgr.2.1
  have g2 : x_S w + x.toNatClampNeg ≤ x_S w9 := hgr.2.2
  have g3 := hg.2.1
  have g4 := hg.2.2
  have hlen : x.toNatClampNeg ≤ 20000 := by
    have h0 : x.toInt ≤ (20000 : Int32).toInt := Int32.le_iff_toInt_le.mp hx1
    have h1 : (20000 : Int32).toInt = 20000 := by decide +kernel
    unfold Int32.toNatClampNeg
    omega
  have main : ∀ (ft : FieldType) (a0 : vp_A) (hft : newarray.typeOf t = ft) (ha0 : ∀ cN : ClassId, vp_cell cN a0 = arrV cN x.toNatClampNeg (fun _ => defaultValue ft)) (hkk : (x_tys cA)[a]? = some (cA a, ft)) (hno : ∀ C, ¬ ft = .object C) (hbyt : componentBytes ft ≤ 8)
      (hce : ∀ ad', x_ce cA (fun a => (ct a).2.2) fk ad' (x_new w a x.toNatClampNeg x.toNatClampNeg) (x_N w) = .inl (cA a, a0)),
      W p l e R s m args below meth c0 H locs (x_C w - x_C w0) (x_S w - x_S w0) Q (F0 m pc ls (.int x :: r.map (x_cv ad))) := by
    intro ft a0 hft ha0 hkk hno hbyt hce
    refine va_newa hx hb (hts _ o1) hft hK hrep.1 hrep.2.1 hS hA ha0 hx0 rfl (by
      have : x.toNatClampNeg * componentBytes ft ≤ 20000 * 8 := Nat.mul_le_mul hlen hbyt
      omega) (Nat.le_trans (by omega) hR.2.2.1) (Nat.le_trans (by omega) hR.2.2.2) hd (fun q cN H1 hK2 hP hD hS1 => ?_)
    obtain rfl : cN = cA a := x_kA hK hK2 hkk hno
    have hrep1 := x_made (kind := a) (len := x.toNatClampNeg) (n := x.toNatClampNeg) (q := q) hN hrep (hce _) hP hD
    have hx1 : x_ext (x_N w) ad (x_adN ad (x_N w) q) := x_adN_ext hN
    have hw1 : ∀ v ∈ r, x_wf (x_N w + 1) v := fun v hv => x_wf_le (Nat.le_succ _) (x_wt1 hws v hv)
    refine W.cs (cells' := x_C (x_new w a x.toNatClampNeg x.toNatClampNeg) - x_C w0) (slots' := x_S (x_new w a x.toNatClampNeg x.toNatClampNeg) - x_S w0) (by show _ = x_C w + 1 - x_C w0; omega) (by show _ = x_S w + x.toNatClampNeg - x_S w0; omega) ?_
    have k1 := (hK1 _ _ _ _ h).2 (x_gr_tr hg ⟨Nat.le_succ _, Nat.le_succ _, Nat.le_add_right _ _⟩) H1 locs ls (x_adN ad (x_N w) q) (x_ext_tr hg.1 hext hx1) hrep1 hS1 (x_lh_ext hx1 hl hwl) (x_wc (Or.inl (Nat.lt_succ_self _)) hw1) (fun i v hv => x_wf_le (Nat.le_succ _) (hwl i v hv))
    rw [List.map_cons, x_st_ext hx1 (x_wt1 hws)] at k1
    have e2 : x_cv (x_adN ad (x_N w) q) (.ref (x_N w)) = .ref q := by show Value.ref _ = _; rw [x_adN_s]
    rw [e2] at k1
    exact k1
  have zl : x_l (x_new w a x.toNatClampNeg x.toNatClampNeg) (x_N w) = x.toNatClampNeg := by simp [x_l, x_new, x_row]
  have zi : x_i (x_new w a x.toNatClampNeg x.toNatClampNeg) (x_N w) = fun _ => 0 := by simp [x_i, x_new, x_row]
  have zj : x_j (x_new w a x.toNatClampNeg x.toNatClampNeg) (x_N w) = fun _ => 0 := by simp [x_j, x_new, x_row]
  have zk : x_k (x_new w a x.toNatClampNeg x.toNatClampNeg) (x_N w) = a := by simp [x_k, x_new, x_row]
  rcases o2 with ⟨rfl, rfl⟩ | ⟨rfl, rfl⟩ | ⟨rfl, rfl⟩
  · exact main .int (x.toNatClampNeg, .inl (fun _ => 0)) rfl (fun _ => rfl) rfl (fun _ q => by cases q) (by decide) (fun ad' => by rw [x_ce_0 zk, zl, zi])
  · exact main .boolean (x.toNatClampNeg, .inl (fun _ => 0)) rfl (fun _ => rfl) rfl (fun _ q => by cases q) (by decide) (fun ad' => by rw [x_ce_1 zk, zl, zi])
  · exact main .long (x.toNatClampNeg, .inr (.inl (fun _ => 0))) rfl (fun _ => rfl) rfl (fun _ q => by cases q) (by decide) (fun ad' => by rw [x_ce_2 zk, zl, zj])

end X8
end
section
/-! One step of the JVM for each row of code: calls, ends. -/
section X9
variable {cl : List vw_C} {ct : Nat → vw_C} {fk : Nat → Nat → Nat} {ty : Nat → Nat → FieldType} {Ts Nw : List Cond} {mt : Nat → xM} {en : Nat → String × String × String} {P : xP} {l : Launch} {D : va_G} {cA : Nat → ClassId} {scr : Nat × (Nat → Int32)} {rc : Nat → Nat} {vt : Nat → Nat × Nat × Nat × Nat} {tx : Nat → List Int32}
variable {p : Program} {e : Env} {R : Room} {s : State} {m : MethodId} {args : Array Value} {below : List Frame} {meth : Method} {c0 : Code} {A : Nat → Prop} {ad0 : Nat → Nat} {w0 w9 : xW} {v9 : Option Value} {X : xT → Prop} {M : Nat} {Q : State → Prop}
variable {pc len a b c : Nat} {v : Int32} {u : Int64} {L : xL} {st : List Value} {w : xW}


theorem x_con_mv {ad : Nat → Nat} {A : Nat → Prop} {u U : State} {H : Heap} (hvm : u.vm.Alike U.vm) (h : x_con en scr ad A u H) : x_con en scr ad A U H :=
  ⟨⟨h.1.1.moved hvm, h.1.2⟩, fun k hk => (h.2.1 k hk).moved hvm, h.2.2⟩
/-- the callee may change the world's cells and new ones -/
theorem x_freeA {ad : Nat → Nat} {H : Heap} {locs : List Loc} (hrep : x_rep cl D cA (fun a => (ct a).2.2) fk A ad w H) (hS : va_S A s.heap H locs) (hA : ∀ q, s.heap.size ≤ q → A q) : ∀ q, va_A (x_wd cA (fun a => (ct a).2.2) fk ad w) H.size q → A q := by
  intro q hq
  rcases hq with ⟨k, x, hk⟩ | hq
  · exact hrep.2.1.2 k _ hk
  · exact hA q (Nat.le_trans hS.1 hq)
theorem x_PreS {ad : Nat → Nat} {H : Heap} {locs : List Loc} {as : List Value} (hNk : ∀ q ∈ Nw, (∀ s U : State, s.WarmedH U.vm → va_Nw q s → va_Nw q U) ∧ q.onTables = true) (hNw : ∀ q ∈ Nw, va_Nw q s) (hK : va_K D cl (x_tys cA) s) (hcon : x_con en scr ad0 A s s.heap) (hA : ∀ q, s.heap.size ≤ q → A q) (hext : x_ext (x_N w0) ad0 ad) (hrep : x_rep cl D cA (fun a => (ct a).2.2) fk A ad w H) (hS : va_S A s.heap H locs) (hwa : ∀ v ∈ as, x_wf (x_N w) v) :
    PreS s H (va_Pc (as.map (x_cv ad)) (fun U => U.heap.size = H.size ∧ x_pre cl ct fk Nw en D cA scr as ad w (va_A (x_wd cA (fun a => (ct a).2.2) fk ad w) H.size) U)) (as.map (x_cv ad)) := by
  refine ⟨fun a U g mk q => ?_, fun U hU hW => ?_⟩
  · obtain ⟨q0, q1, q2, q3, q4, q5, q6⟩ := q
    exact ⟨q0, q1, q2, va_K.moved (u := U) (U := U.calling g mk a) (Vm.Alike.refl U.vm) q3, fun z hz => va_Nw.same (u := U) (U := U.calling g mk a) (hNk z hz).2 rfl (q4 z hz), x_con_mv (u := U) (U := U.calling g mk a) (Vm.Alike.refl U.vm) q5, q6⟩
  · refine ⟨rfl, by rw [hU], ?_, va_K.moved hW.alike hK, fun z hz => (hNk z hz).1 s U hW (hNw z hz), ?_, hwa⟩
    · rw [hU]; exact ⟨hrep.1, hrep.2.1.self, hrep.2.2⟩
    · rw [hU]; exact x_con_to hcon hS hW.alike hext (fun q _ hq => x_freeA hrep hS hA q hq)
theorem x_called {ad : Nat → Nat} {H : Heap} {locs : List Loc} {ls : Array Slot} {r st0 : List Value} {arr : Array Value} {w1 : xW} {v1 : Option Value} (hr : va_Run p l e R s m args below meth c0 H locs (x_C w - x_C w0) (x_S w - x_S w0) (x_C w1 - x_C w) (x_S w1 - x_S w) (F0 m pc ls st0) (r.map (x_cv ad)) (x_post cl ct fk D cA ad w v1 w1 (va_A (x_wd cA (fun a => (ct a).2.2) fk ad w) H.size) arr) (va_A (x_wd cA (fun a => (ct a).2.2) fk ad w) H.size))
    (hg : x_gr w0 w) (hg1 : x_gr w w1) (hA : ∀ q, s.heap.size ≤ q → A q) (hext : x_ext (x_N w0) ad0 ad) (hrep : x_rep cl D cA (fun a => (ct a).2.2) fk A ad w H) (hS : va_S A s.heap H locs) (hl : x_lh ad (mt M).2.2.1 ls L) (hws : ∀ v ∈ r, x_wf (x_N w) v) (hwl : ∀ i v, x_at L i = some v → x_wf (x_N w) v)
    (kk : x_WW cl ct fk D cA p l e R s m args below meth c0 A (mt M).2.2.1 ad0 w0 Q (pc + 3) L (v1.toList ++ r) w1) : W p l e R s m args below meth c0 H locs (x_C w - x_C w0) (x_S w - x_S w0) Q (F0 m pc ls st0) := by
  have hf := x_freeA hrep hS hA
  refine x_cont (A := A) hr hS hf (fun st v t hq => hq.2) (fun st v t H1 locs1 hq ht hS1 => ?_)
  obtain ⟨⟨ad', hx', ho, hrep', hwf'⟩, -⟩ := hq
  have hv : v = v1.map (x_cv ad') := Outcome.returned.inj ho
  subst hv
  rw [ht] at hrep'
  have g1 := hg.2.1
  have g2 := hg.2.2
  have g3 := hg1.2.1
  have g4 := hg1.2.2
  refine W.cs (cells' := x_C w1 - x_C w0) (slots' := x_S w1 - x_S w0) (by omega) (by omega) ?_
  have hw1 : ∀ v ∈ r, x_wf (x_N w1) v := fun v hv => x_wf_le hg1.1 (hws v hv)
  have k1 := kk (x_gr_tr hg hg1) H1 locs1 ls ad' (x_ext_tr hg.1 hext hx') ⟨hrep'.1, hrep'.2.1.weaken (fun _ _ _ h => hf _ h), hrep'.2.2⟩ hS1 (x_lh_ext hx' hl hwl) (fun v hv => by
      rcases List.mem_append.mp hv with hv | hv
      · cases v1 with
        | none => cases hv
        | some z =>
          obtain rfl : v = z := by simpa using hv
          exact hwf' v rfl
      · exact hw1 v hv) (fun i v hv => x_wf_le hg1.1 (hwl i v hv))
  have e1 : (v1.toList ++ r).map (x_cv ad') = (v1.map (x_cv ad')).toList ++ r.map (x_cv ad) := by
    rw [List.map_append, x_st_ext hx' hws]
    cases v1 <;> rfl
  rw [e1] at k1
  exact k1
theorem x_wfr {N : Nat} {as r : List Value} (h : ∀ v ∈ as ++ r, x_wf N v) : (∀ v ∈ as.reverse ++ ([] : List Value), x_wf N v) ∧ ∀ v ∈ r, x_wf N v :=
  ⟨fun v hv => h v (List.mem_append_left _ (by simpa using hv)), fun v hv => h v (List.mem_append_right _ hv)⟩

set_option maxHeartbeats 1000000 in
theorem xs_invokestatic {i : Nat} (hx : p.tables.exec = Jvm.exec) (hb : c0.code = (mt M).2.1) (hK1 : ∀ pc L st w, X (.inl (pc, L, st, w)) → x_gr w w9 ∧ x_WW cl ct fk D cA p l e R s m args below meth c0 A (mt M).2.2.1 ad0 w0 Q pc L st w) (hown : s.vm.findClass (mt M).2.2.2.2 = some m.cls) (hts : ∀ q ∈ Ts, q.before args s = true) (hK : va_K D cl (x_tys cA) s) (hcon : x_con en scr ad0 A s s.heap) (hA : ∀ q, s.heap.size ≤ q → A q) (hR : P.2.1 M + 2 ≤ R.frames ∧ 33 * P.2.1 M + 100 ≤ R.locals ∧ x_C w9 - x_C w0 ≤ R.cells ∧ x_S w9 - x_S w0 ≤ R.slots) (hml : c0.maxLocals = (mt M).2.2.1) (hNk : ∀ q ∈ Nw, (∀ s U : State, s.WarmedH U.vm → va_Nw q s → va_Nw q U) ∧ q.onTables = true) (hNw : ∀ q ∈ Nw, va_Nw q s) (hmx : ∀ M, (mt M).2.2.1 ≤ 14) (hC1 : ∀ M' as pc L st w, X (.inr (.inl (M', as, pc, L, st, w))) → x_CG cl ct fk Ts Nw mt en P l D cA scr M w9 (x_WW cl ct fk D cA p l e R s m args below meth c0 A (mt M).2.2.1 ad0 w0 Q) M' as pc L st w) (ok : x_okr cl ct fk ty Ts Nw mt rc vt en M (pc, .invokestatic i, len, a, b, c, v, u)) (h : x_go X rc vt scr tx (.invokestatic i) a b c v u pc L st w) : x_WW cl ct fk D cA p l e R s m args below meth c0 A (mt M).2.2.1 ad0 w0 Q pc L st w := by
  intro hg H locs ls ad hext hrep hS hl hws hwl
  have hd : decode (mt M).2.1 pc = .ok (.invokestatic i, len) := ok.1
  obtain ⟨rfl, ok1, ok2⟩ := ok.2
  rcases x_sw_of h with ⟨hc, h⟩ | ⟨hc, h⟩
  · obtain ⟨as, r, hlen, e9, h9⟩ := x_pop_of _ _ _ _ h
    subst e9
    replace h := h9
    obtain ⟨hcat, h⟩ := x_if_of h
    obtain ⟨hdep, v1, w1, hM, hg1, hg2, kk⟩ := hC1 _ _ _ _ _ _ h
    obtain ⟨hwa, hwr⟩ := x_wfr hws
    have g1 := hg.2.1
    have g2 := hg.2.2
    have g3 := hg1.2.1
    have g4 := hg1.2.2
    have g5 := hg2.2.1
    have g6 := hg2.2.2
    have hrun := ok1 hc p l e R s m args below meth c0 H locs (x_C w - x_C w0) (x_S w - x_S w0) _ _ _ _ _ _ _ _ ((as.reverse ++ []).map (x_cv ad)) (r.map (x_cv ad)) (F0 m pc ls ((as ++ r).map (x_cv ad))) ⟨hx, hb, hml, hown, hts⟩ hNw (hM ad H.size) rfl rfl (Nat.le_trans (by show _ + 2 + 1 ≤ _ + 2; omega) hR.1) (Nat.le_trans (by have := hmx a; show 8 + (_ + 11) + (33 * _ + 100) ≤ 33 * _ + 100; omega) hR.2.1) (x_PreS hNk hNw hK hcon hA hext hrep hS hwa) rfl (by simp [hlen]) hl.1 (by simp [List.map_append]) (lv_room (by rw [x_cats_cv]; exact Nat.le_of_ble_eq_true hcat)) hd ⟨Nat.le_trans (by omega) hR.2.2.1, Nat.le_trans (by omega) hR.2.2.2⟩
    exact x_called hrun hg hg1 hA hext hrep hS hl hwr hwl kk
  · obtain ⟨o1, o2, o3, o4⟩ := ok2 hc
    obtain ⟨n, r1, e1, h1⟩ := x_pI_of h
    obtain ⟨dp, r2, e2, h2⟩ := x_pI_of h1
    obtain ⟨q, r3, e3, h3⟩ := x_pR_of h2
    obtain ⟨sp, r4, e4, h4⟩ := x_pI_of h3
    obtain ⟨o, r, e5, h5⟩ := x_pR_of h4
    subst e5
    subst e4
    subst e3
    subst e2
    subst e1
    obtain ⟨⟨k1, k2, k3, k4, k5, k6, k7⟩, h6⟩ := h5
    obtain ⟨hcat0, h7⟩ := x_if_of h6
    replace h := h7
    have hcat : x_cats r ≤ 8 := Nat.le_of_ble_eq_true hcat0
    have ho := x_in hrep k1 (by omega)
    have hq := x_in hrep k2 (by omega)
    have hcat : x_cats r ≤ 8 := Nat.le_of_ble_eq_true hcat0
    refine va_copyi hx hb (hml.trans hl.1.symm) hown (hts _ o1) (hts _ o2) (hts _ o3) (hts _ o4) hK hrep.1 hrep.2.1 hS o q 0 0 (by rw [x_wd_at ho, x_ce_0 k1]) (by rw [x_wd_at hq, x_ce_0 k2]) rfl rfl rfl k3 k4 k5 k6 k7 (fun _ _ => rfl) (Nat.le_trans (by omega) hR.1) (by rw [x_cats_cv]; have : nativeFrameWords "java/lang/System" "arraycopy" 5 + 11 ≤ 90 := (by decide +kernel); have := hR.2.1; omega) hd (fun H1 locs1 hP hD hS1 => ?_)
    have hrep1 : x_rep cl D cA (fun a => (ct a).2.2) fk A ad (x_cp w o sp.toNatClampNeg q dp.toNatClampNeg n.toNatClampNeg) H1 := by
      refine x_stored (w' := x_cp w o sp.toNatClampNeg q dp.toNatClampNeg n.toNatClampNeg) hrep rfl rfl rfl ?_ (fun i hi => x_ce_eq rfl rfl (by show x_row _ _ _ i = _; rw [x_row, if_neg hi]) rfl rfl) hP hD
      rw [x_ce_0 (w := x_cp w o sp.toNatClampNeg q dp.toNatClampNeg n.toNatClampNeg) k2]
      have e1 : x_i (x_cp w o sp.toNatClampNeg q dp.toNatClampNeg n.toNatClampNeg) q = va_cpy (x_i w o) (x_i w q) sp.toNatClampNeg dp.toNatClampNeg n.toNatClampNeg := by
        show x_row _ _ _ q = _
        rw [x_row, if_pos rfl]
      rw [e1]; rfl
    exact (hK1 _ _ _ _ h).2 hg H1 locs1 ls ad hext hrep1 hS1 hl (x_wt1 (x_wt1 (x_wt1 (x_wt1 (x_wt1 hws))))) hwl
set_option maxHeartbeats 1000000 in
theorem xs_invokespecial {i : Nat} (hx : p.tables.exec = Jvm.exec) (hb : c0.code = (mt M).2.1) (hK1 : ∀ pc L st w, X (.inl (pc, L, st, w)) → x_gr w w9 ∧ x_WW cl ct fk D cA p l e R s m args below meth c0 A (mt M).2.2.1 ad0 w0 Q pc L st w) (hown : s.vm.findClass (mt M).2.2.2.2 = some m.cls) (hts : ∀ q ∈ Ts, q.before args s = true) (hK : va_K D cl (x_tys cA) s) (hcon : x_con en scr ad0 A s s.heap) (hA : ∀ q, s.heap.size ≤ q → A q) (hR : P.2.1 M + 2 ≤ R.frames ∧ 33 * P.2.1 M + 100 ≤ R.locals ∧ x_C w9 - x_C w0 ≤ R.cells ∧ x_S w9 - x_S w0 ≤ R.slots) (hml : c0.maxLocals = (mt M).2.2.1) (hNk : ∀ q ∈ Nw, (∀ s U : State, s.WarmedH U.vm → va_Nw q s → va_Nw q U) ∧ q.onTables = true) (hNw : ∀ q ∈ Nw, va_Nw q s) (hmx : ∀ M, (mt M).2.2.1 ≤ 14) (hC1 : ∀ M' as pc L st w, X (.inr (.inl (M', as, pc, L, st, w))) → x_CG cl ct fk Ts Nw mt en P l D cA scr M w9 (x_WW cl ct fk D cA p l e R s m args below meth c0 A (mt M).2.2.1 ad0 w0 Q) M' as pc L st w) (ok : x_okr cl ct fk ty Ts Nw mt rc vt en M (pc, .invokespecial i, len, a, b, c, v, u)) (h : x_go X rc vt scr tx (.invokespecial i) a b c v u pc L st w) : x_WW cl ct fk D cA p l e R s m args below meth c0 A (mt M).2.2.1 ad0 w0 Q pc L st w := by
  intro hg H locs ls ad hext hrep hS hl hws hwl
  have hd : decode (mt M).2.1 pc = .ok (.invokespecial i, len) := ok.1
  obtain ⟨rfl, ok1, ok2⟩ := ok.2
  rcases x_sw_of h with ⟨hc, h⟩ | ⟨hc, h⟩
  · obtain ⟨as, r, hlen, e9, h9⟩ := x_pop_of _ _ _ _ h
    subst e9
    replace h := h9
    obtain ⟨hcat, h⟩ := x_if_of h
    obtain ⟨o, As, hAs, h⟩ := x_pR_of h
    obtain ⟨hrt0, ok1⟩ := ok1 hc
    obtain ⟨hdep, v1, w1, hM, hg1, hg2, kk⟩ := hC1 _ _ _ _ _ _ h
    unfold x_Met x_ws at hM
    rw [hrt0] at hM
    obtain ⟨hwa, hwr⟩ := x_wfr hws
    have g1 := hg.2.1
    have g2 := hg.2.2
    have g3 := hg1.2.1
    have g4 := hg1.2.2
    have g5 := hg2.2.1
    have g6 := hg2.2.2
    have ea : as = As.reverse ++ [.ref o] := by
      have := congrArg List.reverse hAs
      simpa using this
    subst ea
    rw [hAs] at hM hwa
    have hst : ((As.reverse ++ [Value.ref o]) ++ r).map (x_cv ad) = (As.map (x_cv ad)).reverse ++ .ref (ad o) :: r.map (x_cv ad) := by simp [List.map_append, x_cv]
    have hrun := ok1 p l e R s m args below meth c0 H locs (x_C w - x_C w0) (x_S w - x_S w0) _ _ _ _ _ _ _ _ (ad o) (As.map (x_cv ad)) (r.map (x_cv ad)) (F0 m pc ls (((As.reverse ++ [Value.ref o]) ++ r).map (x_cv ad))) ⟨hx, hb, hml, hown, hts⟩ hNw (hM ad H.size) rfl rfl (Nat.le_trans (by show _ + 2 + 1 ≤ _ + 2; omega) hR.1) (Nat.le_trans (by have := hmx a; show 8 + (_ + 11) + (33 * _ + 100) ≤ 33 * _ + 100; omega) hR.2.1) (x_PreS hNk hNw hK hcon hA hext hrep hS hwa) rfl (by simpa using hlen) hl.1 hst (lv_room (by rw [x_cats_cv]; exact Nat.le_of_ble_eq_true hcat)) hd ⟨Nat.le_trans (by omega) hR.2.2.1, Nat.le_trans (by omega) hR.2.2.2⟩
    exact x_called hrun hg hg1 hA hext hrep hS hl hwr hwl kk
  · obtain ⟨o1, o2, o3⟩ := ok2 hc
    obtain ⟨o, r, e9, h9⟩ := x_pR_of h
    subst e9
    replace h := h9
    obtain ⟨hcat, h⟩ := x_if_of h
    have hcat := Nat.le_of_ble_eq_true hcat
    refine W.objInit (a := ad o) (rest := r.map (x_cv ad)) hx hb hown (hts _ o1) (hts _ o2) (hts _ o3) rfl (by rw [hml]; exact hl.1) rfl hd (Nat.le_trans (by omega) hR.1) (by
      have e1 : 2 * (F0 m pc ls ((Value.ref o :: r).map (x_cv ad))).monitorRoom = 0 := rfl
      rw [x_cats_cv, e1]; have := hR.2.1; omega) ?_
    exact (hK1 _ _ _ _ h).2 hg H locs ls ad hext hrep hS hl (x_wt1 hws) hwl
set_option maxHeartbeats 1000000 in
theorem xs_invokevirtual {i : Nat} (hx : p.tables.exec = Jvm.exec) (hb : c0.code = (mt M).2.1) (hK1 : ∀ pc L st w, X (.inl (pc, L, st, w)) → x_gr w w9 ∧ x_WW cl ct fk D cA p l e R s m args below meth c0 A (mt M).2.2.1 ad0 w0 Q pc L st w) (hown : s.vm.findClass (mt M).2.2.2.2 = some m.cls) (hts : ∀ q ∈ Ts, q.before args s = true) (hK : va_K D cl (x_tys cA) s) (hcon : x_con en scr ad0 A s s.heap) (hA : ∀ q, s.heap.size ≤ q → A q) (hR : P.2.1 M + 2 ≤ R.frames ∧ 33 * P.2.1 M + 100 ≤ R.locals ∧ x_C w9 - x_C w0 ≤ R.cells ∧ x_S w9 - x_S w0 ≤ R.slots) (hml : c0.maxLocals = (mt M).2.2.1) (hNk : ∀ q ∈ Nw, (∀ s U : State, s.WarmedH U.vm → va_Nw q s → va_Nw q U) ∧ q.onTables = true) (hNw : ∀ q ∈ Nw, va_Nw q s) (hmx : ∀ M, (mt M).2.2.1 ≤ 14) (hC1 : ∀ M' as pc L st w, X (.inr (.inl (M', as, pc, L, st, w))) → x_CG cl ct fk Ts Nw mt en P l D cA scr M w9 (x_WW cl ct fk D cA p l e R s m args below meth c0 A (mt M).2.2.1 ad0 w0 Q) M' as pc L st w) (ok : x_okr cl ct fk ty Ts Nw mt rc vt en M (pc, .invokevirtual i, len, a, b, c, v, u)) (h : x_go X rc vt scr tx (.invokevirtual i) a b c v u pc L st w) : x_WW cl ct fk D cA p l e R s m args below meth c0 A (mt M).2.2.1 ad0 w0 Q pc L st w := by
  intro hg H locs ls ad hext hrep hS hl hws hwl
  have hd : decode (mt M).2.1 pc = .ok (.invokevirtual i, len) := ok.1
  obtain ⟨rfl, hc2, ok1, ok2⟩ := ok.2
  rcases x_sw_of h with ⟨hc, h⟩ | ⟨hc, h⟩
  · obtain ⟨as, r, hlen, e9, h9⟩ := x_pop_of _ _ _ _ h
    subst e9
    replace h := h9
    obtain ⟨hcat, h⟩ := x_if_of h
    obtain ⟨o, As, hAs, h⟩ := x_pR_of h
    obtain ⟨hk, h⟩ := h
    obtain ⟨h90, hcl, ok1⟩ := ok1 hc
    obtain ⟨hdep, v1, w1, hM, hg1, hg2, kk⟩ := hC1 _ _ _ _ _ _ h
    obtain ⟨hwa, hwr⟩ := x_wfr hws
    have g1 := hg.2.1
    have g2 := hg.2.2
    have g3 := hg1.2.1
    have g4 := hg1.2.2
    have g5 := hg2.2.1
    have g6 := hg2.2.2
    have ea : as = As.reverse ++ [.ref o] := by
      have := congrArg List.reverse hAs
      simpa using this
    subst ea
    rw [hAs] at hM hwa
    have hst : ((As.reverse ++ [Value.ref o]) ++ r).map (x_cv ad) = (As.map (x_cv ad)).reverse ++ .ref (ad o) :: r.map (x_cv ad) := by simp [List.map_append, x_cv]
    have hrun := ok1 p l e R s m args below meth c0 H locs (x_C w - x_C w0) (x_S w - x_S w0) _ _ _ _ _ _ _ _ (ad o) (As.map (x_cv ad)) (r.map (x_cv ad)) (F0 m pc ls (((As.reverse ++ [Value.ref o]) ++ r).map (x_cv ad))) ⟨hx, hb, hml, hown, hts⟩ hNw (hM ad H.size) rfl rfl (Nat.le_trans (by show _ + 2 + 1 ≤ _ + 2; omega) hR.1) (Nat.le_trans (by have := hmx a; show 8 + (_ + 11) + (33 * _ + 100) ≤ 33 * _ + 100; omega) hR.2.1) ⟨(x_PreS hNk hNw hK hcon hA hext hrep hS hwa).1, va_recv hK hrep.1 hcl (by rw [x_wd_at (x_in hrep hk (by omega)), x_ce_obj hk]), (x_PreS hNk hNw hK hcon hA hext hrep hS hwa).2⟩ rfl (by simpa using hlen) hl.1 hst (lv_room (by rw [x_cats_cv]; exact Nat.le_of_ble_eq_true hcat)) hd ⟨Nat.le_trans (by omega) hR.2.2.1, Nat.le_trans (by omega) hR.2.2.2⟩
    exact x_called hrun hg hg1 hA hext hrep hS hl hwr hwl kk
  rcases x_sw_of h with ⟨hc, h⟩ | ⟨hc, h⟩
  · obtain ⟨as, r, hlen, e9, h9⟩ := x_pop_of _ _ _ _ h
    subst e9
    replace h := h9
    obtain ⟨hcat, h⟩ := x_if_of h
    obtain ⟨o, As, hAs, h⟩ := x_pR_of h
    obtain ⟨h90, h91, hcl1, hcl2, okA, okB⟩ := ok2 (by omega)
    rcases x_br_of h with ⟨hk, h⟩ | ⟨-, hk, h⟩
    · obtain ⟨hdep, v1, w1, hM, hg1, hg2, kk⟩ := hC1 _ _ _ _ _ _ h
      obtain ⟨hwa, hwr⟩ := x_wfr hws
      have g1 := hg.2.1
      have g2 := hg.2.2
      have g3 := hg1.2.1
      have g4 := hg1.2.2
      have g5 := hg2.2.1
      have g6 := hg2.2.2
      have ea : as = As.reverse ++ [.ref o] := by
        have := congrArg List.reverse hAs
        simpa using this
      subst ea
      rw [hAs] at hM hwa
      have hst : ((As.reverse ++ [Value.ref o]) ++ r).map (x_cv ad) = (As.map (x_cv ad)).reverse ++ .ref (ad o) :: r.map (x_cv ad) := by simp [List.map_append, x_cv]
      have hrun := okA p l e R s m args below meth c0 H locs (x_C w - x_C w0) (x_S w - x_S w0) _ _ _ _ _ _ _ _ (ad o) (As.map (x_cv ad)) (r.map (x_cv ad)) (F0 m pc ls (((As.reverse ++ [Value.ref o]) ++ r).map (x_cv ad))) ⟨hx, hb, hml, hown, hts⟩ hNw (hM ad H.size) rfl rfl (Nat.le_trans (by show _ + 2 + 1 ≤ _ + 2; omega) hR.1) (Nat.le_trans (by have := hmx (vt a).2.1; show 8 + (_ + 11) + (33 * _ + 100) ≤ 33 * _ + 100; omega) hR.2.1) ⟨(x_PreS hNk hNw hK hcon hA hext hrep hS hwa).1, va_recv hK hrep.1 hcl1 (by rw [x_wd_at (x_in hrep hk (by omega)), x_ce_obj hk]), (x_PreS hNk hNw hK hcon hA hext hrep hS hwa).2⟩ rfl (by simpa using hlen) hl.1 hst (lv_room (by rw [x_cats_cv]; exact Nat.le_of_ble_eq_true hcat)) hd ⟨Nat.le_trans (by omega) hR.2.2.1, Nat.le_trans (by omega) hR.2.2.2⟩
      exact x_called hrun hg hg1 hA hext hrep hS hl hwr hwl kk
    · obtain ⟨hdep, v1, w1, hM, hg1, hg2, kk⟩ := hC1 _ _ _ _ _ _ h
      obtain ⟨hwa, hwr⟩ := x_wfr hws
      have g1 := hg.2.1
      have g2 := hg.2.2
      have g3 := hg1.2.1
      have g4 := hg1.2.2
      have g5 := hg2.2.1
      have g6 := hg2.2.2
      have ea : as = As.reverse ++ [.ref o] := by
        have := congrArg List.reverse hAs
        simpa using this
      subst ea
      rw [hAs] at hM hwa
      have hst : ((As.reverse ++ [Value.ref o]) ++ r).map (x_cv ad) = (As.map (x_cv ad)).reverse ++ .ref (ad o) :: r.map (x_cv ad) := by simp [List.map_append, x_cv]
      have hrun := okB p l e R s m args below meth c0 H locs (x_C w - x_C w0) (x_S w - x_S w0) _ _ _ _ _ _ _ _ (ad o) (As.map (x_cv ad)) (r.map (x_cv ad)) (F0 m pc ls (((As.reverse ++ [Value.ref o]) ++ r).map (x_cv ad))) ⟨hx, hb, hml, hown, hts⟩ hNw (hM ad H.size) rfl rfl (Nat.le_trans (by show _ + 2 + 1 ≤ _ + 2; omega) hR.1) (Nat.le_trans (by have := hmx (vt a).2.2.2; show 8 + (_ + 11) + (33 * _ + 100) ≤ 33 * _ + 100; omega) hR.2.1) ⟨(x_PreS hNk hNw hK hcon hA hext hrep hS hwa).1, va_recv hK hrep.1 hcl2 (by rw [x_wd_at (x_in hrep hk (by omega)), x_ce_obj hk]), (x_PreS hNk hNw hK hcon hA hext hrep hS hwa).2⟩ rfl (by simpa using hlen) hl.1 hst (lv_room (by rw [x_cats_cv]; exact Nat.le_of_ble_eq_true hcat)) hd ⟨Nat.le_trans (by omega) hR.2.2.1, Nat.le_trans (by omega) hR.2.2.2⟩
      exact x_called hrun hg hg1 hA hext hrep hS hl hwr hwl kk
  · exact absurd hc2 (by omega)
set_option maxHeartbeats 1000000 in
theorem xs_ireturn  (hx : p.tables.exec = Jvm.exec) (hb : c0.code = (mt M).2.1) (hrt : meth.sig.returnType = (mt M).2.2.2.1) (hlk : meth.locks = false) (hR1 : ∀ v w, X (.inr (.inr (.inl (v, w)))) → v = v9 ∧ w = w9)  (ok : x_okr cl ct fk ty Ts Nw mt rc vt en M (pc, .ireturn, len, a, b, c, v, u)) (h : x_go X rc vt scr tx (.ireturn) a b c v u pc L st w) : x_WW cl ct fk D cA p l e R s m args below meth c0 A (mt M).2.2.1 ad0 w0 (MQ below (x_post cl ct fk D cA ad0 w0 v9 w9 A) args s (x_C w9 - x_C w0) (x_S w9 - x_S w0) A) pc L st w := by
  intro hg H locs ls ad hext hrep hS hl hws hwl
  have hd : decode (mt M).2.1 pc = .ok (.ireturn, len) := ok.1
  obtain ⟨rfl, ok2⟩ := ok.2
  obtain ⟨x, r, e9, h9⟩ := x_pI_of h
  subst e9
  replace h := h9
  obtain ⟨e9, h9⟩ := x_nil_of h
  subst e9
  replace h := h9
  rcases ok2 with ⟨rfl, hr2⟩ | ⟨rfl, hr2⟩
  · obtain ⟨rfl, rfl⟩ := hR1 _ _ h
    exact W.iret (v := x) hx hb (hrt.trans hr2) (fun t ht hW => ⟨⟨ad, hext, rfl, by rw [ht]; exact hrep, fun u hu => by cases hu; trivial⟩, hS.F ht⟩) hS.2.2 hd hlk
  · obtain ⟨hx01, h⟩ := h
    obtain ⟨rfl, rfl⟩ := hR1 _ _ h
    exact W.zret (v := x) hx hb (hrt.trans hr2) (by rcases hx01 with rfl | rfl <;> decide +kernel) (fun t ht hW => ⟨⟨ad, hext, rfl, by rw [ht]; exact hrep, fun u hu => by cases hu; trivial⟩, hS.F ht⟩) hS.2.2 hd hlk
set_option maxHeartbeats 1000000 in
theorem xs_lreturn  (hx : p.tables.exec = Jvm.exec) (hb : c0.code = (mt M).2.1) (hrt : meth.sig.returnType = (mt M).2.2.2.1) (hlk : meth.locks = false) (hR1 : ∀ v w, X (.inr (.inr (.inl (v, w)))) → v = v9 ∧ w = w9)  (ok : x_okr cl ct fk ty Ts Nw mt rc vt en M (pc, .lreturn, len, a, b, c, v, u)) (h : x_go X rc vt scr tx (.lreturn) a b c v u pc L st w) : x_WW cl ct fk D cA p l e R s m args below meth c0 A (mt M).2.2.1 ad0 w0 (MQ below (x_post cl ct fk D cA ad0 w0 v9 w9 A) args s (x_C w9 - x_C w0) (x_S w9 - x_S w0) A) pc L st w := by
  intro hg H locs ls ad hext hrep hS hl hws hwl
  have hd : decode (mt M).2.1 pc = .ok (.lreturn, len) := ok.1
  obtain ⟨rfl, hr2⟩ := ok.2
  obtain ⟨x, r, e9, h9⟩ := x_pL_of h
  subst e9
  replace h := h9
  obtain ⟨e9, h9⟩ := x_nil_of h
  subst e9
  replace h := h9
  obtain ⟨rfl, rfl⟩ := hR1 _ _ h
  exact W.lret (v := x) hx hb (hrt.trans hr2) (fun t ht hW => ⟨⟨ad, hext, rfl, by rw [ht]; exact hrep, fun u hu => by cases hu; trivial⟩, hS.F ht⟩) hS.2.2 hd hlk
set_option maxHeartbeats 1000000 in
theorem xs_areturn  (hx : p.tables.exec = Jvm.exec) (hb : c0.code = (mt M).2.1) (hrt : meth.sig.returnType = (mt M).2.2.2.1) (hlk : meth.locks = false) (hR1 : ∀ v w, X (.inr (.inr (.inl (v, w)))) → v = v9 ∧ w = w9)  (ok : x_okr cl ct fk ty Ts Nw mt rc vt en M (pc, .areturn, len, a, b, c, v, u)) (h : x_go X rc vt scr tx (.areturn) a b c v u pc L st w) : x_WW cl ct fk D cA p l e R s m args below meth c0 A (mt M).2.2.1 ad0 w0 (MQ below (x_post cl ct fk D cA ad0 w0 v9 w9 A) args s (x_C w9 - x_C w0) (x_S w9 - x_S w0) A) pc L st w := by
  intro hg H locs ls ad hext hrep hS hl hws hwl
  have hd : decode (mt M).2.1 pc = .ok (.areturn, len) := ok.1
  obtain ⟨rfl, C, hr2⟩ := ok.2
  obtain ⟨x, r, e9, h9⟩ := x_pR_of h
  subst e9
  replace h := h9
  obtain ⟨e9, h9⟩ := x_nil_of h
  subst e9
  replace h := h9
  obtain ⟨rfl, rfl⟩ := hR1 _ _ h
  exact W.aret (v := .ref (ad x)) hx hb (hrt.trans hr2) (Or.inl ⟨C, rfl⟩) (Or.inr ⟨_, rfl⟩) (fun t ht hW => ⟨⟨ad, hext, rfl, by rw [ht]; exact hrep, fun u hu => by cases hu; exact x_wh hws⟩, hS.F ht⟩) hS.2.2 hd hlk
set_option maxHeartbeats 1000000 in
theorem xs_return_  (hx : p.tables.exec = Jvm.exec) (hb : c0.code = (mt M).2.1) (hrt : meth.sig.returnType = (mt M).2.2.2.1) (hlk : meth.locks = false) (hR1 : ∀ v w, X (.inr (.inr (.inl (v, w)))) → v = v9 ∧ w = w9)  (ok : x_okr cl ct fk ty Ts Nw mt rc vt en M (pc, .return_, len, a, b, c, v, u)) (h : x_go X rc vt scr tx (.return_) a b c v u pc L st w) : x_WW cl ct fk D cA p l e R s m args below meth c0 A (mt M).2.2.1 ad0 w0 (MQ below (x_post cl ct fk D cA ad0 w0 v9 w9 A) args s (x_C w9 - x_C w0) (x_S w9 - x_S w0) A) pc L st w := by
  intro hg H locs ls ad hext hrep hS hl hws hwl
  have hd : decode (mt M).2.1 pc = .ok (.return_, len) := ok.1
  obtain ⟨rfl, hr2⟩ := ok.2
  obtain ⟨e9, h9⟩ := x_nil_of h
  subst e9
  replace h := h9
  obtain ⟨rfl, rfl⟩ := hR1 _ _ h
  exact W.vret hx hb (hrt.trans hr2) (fun t ht hW => ⟨⟨ad, hext, rfl, by rw [ht]; exact hrep, fun u hu => by cases hu⟩, hS.F ht⟩) hS.2.2 hd hlk
end X9
end
section
/-! All steps together; whole methods. -/
section X10
variable {cl : List vw_C} {ct : Nat → vw_C} {fk : Nat → Nat → Nat} {ty : Nat → Nat → FieldType} {Ts Nw : List Cond} {mt : Nat → xM} {en : Nat → String × String × String} {P : xP} {l : Launch} {D : va_G} {cA : Nat → ClassId} {scr : Nat × (Nat → Int32)} {rc : Nat → Nat} {vt : Nat → Nat × Nat × Nat × Nat} {tx : Nat → List Int32}
variable {p : Program} {e : Env} {R : Room} {s : State} {m : MethodId} {args : Array Value} {below : List Frame} {meth : Method} {c0 : Code} {A : Nat → Prop} {ad0 : Nat → Nat} {w0 w9 : xW} {v9 : Option Value} {X : xT → Prop} {M : Nat} {Q : State → Prop}
variable {pc len a b c : Nat} {v : Int32} {u : Int64} {L : xL} {st : List Value} {w : xW}

set_option maxHeartbeats 4000000 in
theorem x_sound1 {ins : Instr} (hx : p.tables.exec = Jvm.exec) (hb : c0.code = (mt M).2.1) (hown : s.vm.findClass (mt M).2.2.2.2 = some m.cls) (hts : ∀ q ∈ Ts, q.before args s = true) (hK : va_K D cl (x_tys cA) s) (hcon : x_con en scr ad0 A s s.heap) (hA : ∀ q, s.heap.size ≤ q → A q) (hR : P.2.1 M + 2 ≤ R.frames ∧ 33 * P.2.1 M + 100 ≤ R.locals ∧ x_C w9 - x_C w0 ≤ R.cells ∧ x_S w9 - x_S w0 ≤ R.slots) (hml : c0.maxLocals = (mt M).2.2.1)
    (hNk : ∀ q ∈ Nw, (∀ s U : State, s.WarmedH U.vm → va_Nw q s → va_Nw q U) ∧ q.onTables = true) (hNw : ∀ q ∈ Nw, va_Nw q s) (hmx : ∀ M, (mt M).2.2.1 ≤ 14) (hnm : meth.name = (mt M).1.name)
    (hK1 : ∀ pc L st w, X (.inl (pc, L, st, w)) → x_gr w w9 ∧ x_WW cl ct fk D cA p l e R s m args below meth c0 A (mt M).2.2.1 ad0 w0 Q pc L st w)
    (hC1 : ∀ M' as pc L st w, X (.inr (.inl (M', as, pc, L, st, w))) → x_CG cl ct fk Ts Nw mt en P l D cA scr M w9 (x_WW cl ct fk D cA p l e R s m args below meth c0 A (mt M).2.2.1 ad0 w0 Q) M' as pc L st w)
    (hE : ins = .ireturn ∨ ins = .lreturn ∨ ins = .areturn ∨ ins = .return_ → x_WW cl ct fk D cA p l e R s m args below meth c0 A (mt M).2.2.1 ad0 w0 Q pc L st w) (hT1 : ∀ k w, ¬ X (.inr (.inr (.inr (k, w)))))
    (ok : x_okr cl ct fk ty Ts Nw mt rc vt en M (pc, ins, len, a, b, c, v, u)) (h : x_go X rc vt scr tx ins a b c v u pc L st w) : x_WW cl ct fk D cA p l e R s m args below meth c0 A (mt M).2.2.1 ad0 w0 Q pc L st w := by
  cases ins
  case iconst => exact xs_iconst hx hb hK1 ok h
  case bipush => exact xs_bipush hx hb hK1 ok h
  case sipush => exact xs_sipush hx hb hK1 ok h
  case lconst => exact xs_lconst hx hb hK1 ok h
  case iload => exact xs_iload hx hb hK1 ok h
  case lload => exact xs_lload hx hb hK1 ok h
  case aload => exact xs_aload hx hb hK1 ok h
  case iload_n => exact xs_iload_n hx hb hK1 ok h
  case lload_n => exact xs_lload_n hx hb hK1 ok h
  case aload_n => exact xs_aload_n hx hb hK1 ok h
  case istore => exact xs_istore hx hb hK1 ok h
  case lstore => exact xs_lstore hx hb hK1 ok h
  case astore => exact xs_astore hx hb hK1 ok h
  case istore_n => exact xs_istore_n hx hb hK1 ok h
  case lstore_n => exact xs_lstore_n hx hb hK1 ok h
  case astore_n => exact xs_astore_n hx hb hK1 ok h
  case iinc => exact xs_iinc hx hb hK1 ok h
  case iadd => exact xs_iadd hx hb hK1 ok h
  case isub => exact xs_isub hx hb hK1 ok h
  case imul => exact xs_imul hx hb hK1 ok h
  case iand => exact xs_iand hx hb hK1 ok h
  case ior => exact xs_ior hx hb hK1 ok h
  case ixor => exact xs_ixor hx hb hK1 ok h
  case ishl => exact xs_ishl hx hb hK1 ok h
  case iushr => exact xs_iushr hx hb hK1 ok h
  case idiv => exact xs_idiv hx hb hK1 ok h
  case irem => exact xs_irem hx hb hK1 ok h
  case ineg => exact xs_ineg hx hb hK1 ok h
  case land => exact xs_land hx hb hK1 ok h
  case lor => exact xs_lor hx hb hK1 ok h
  case lxor => exact xs_lxor hx hb hK1 ok h
  case lshl => exact xs_lshl hx hb hK1 ok h
  case lshr => exact xs_lshr hx hb hK1 ok h
  case lushr => exact xs_lushr hx hb hK1 ok h
  case i2l => exact xs_i2l hx hb hK1 ok h
  case l2i => exact xs_l2i hx hb hK1 ok h
  case lcmp => exact xs_lcmp hx hb hK1 ok h
  case dup => exact xs_dup hx hb hK1 ok h
  case pop => exact xs_pop hx hb hK1 ok h
  case dup2 => exact xs_dup2 hx hb hK1 ok h
  case ifCond => exact xs_ifCond hx hb hK1 ok h
  case if_icmp => exact xs_if_icmp hx hb hK1 ok h
  case goto => exact xs_goto hx hb hK1 ok h
  case tableswitch => exact xs_tableswitch hx hb hK1 ok h
  case ldc => exact xs_ldc hx hb hK1 hown hts ok h
  case ldc2_w => exact xs_ldc2 hx hb hK1 hown hts ok h
  case getfield => exact xs_getfield hx hb hK1 hown hts hK ok h
  case putfield => exact xs_putfield hx hb hK1 hown hts hK hnm ok h
  case getstatic => exact xs_getstatic hx hb hK1 hown hts hcon ok h
  case iaload => exact xs_iaload hx hb hK1 hK hcon ok h
  case baload => exact xs_baload hx hb hK1 hK ok h
  case laload => exact xs_laload hx hb hK1 hK ok h
  case iastore => exact xs_iastore hx hb hK1 hK ok h
  case bastore => exact xs_bastore hx hb hK1 hK ok h
  case lastore => exact xs_lastore hx hb hK1 hK ok h
  case arraylength => exact xs_arraylength hx hb hK1 hK hcon ok h
  case new => exact xs_new hx hb hK1 hown hts hK hA hR hT1 ok h
  case newarray => exact xs_newarray hx hb hK1 hown hts hK hA hR ok h
  case invokestatic => exact xs_invokestatic hx hb hK1 hown hts hK hcon hA hR hml hNk hNw hmx hC1 ok h
  case invokespecial => exact xs_invokespecial hx hb hK1 hown hts hK hcon hA hR hml hNk hNw hmx hC1 ok h
  case invokevirtual => exact xs_invokevirtual hx hb hK1 hown hts hK hcon hA hR hml hNk hNw hmx hC1 ok h
  case ireturn => exact hE (Or.inl rfl)
  case lreturn => exact hE (Or.inr (Or.inl rfl))
  case areturn => exact hE (Or.inr (Or.inr (Or.inl rfl)))
  case return_ => exact hE (Or.inr (Or.inr (Or.inr rfl)))
  case if_acmp cd off =>
    cases cd
    · exact (show False from h).elim
    · exact xs_if_acmp hx hb hK1 hcon ok h
  all_goals exact (show False from h).elim
end X10
theorem x_find_in : ∀ (t : List xR) (pc : Nat) (r : xR), x_find t pc = some r → r ∈ t ∧ r.1 = pc
  | [], pc, r, h => by cases h
  | a :: t, pc, r, h => by
    unfold x_find at h
    cases hb : Nat.beq a.1 pc with
    | true =>
      rw [hb] at h
      cases h
      exact ⟨List.mem_cons_self, Nat.eq_of_beq_eq_true hb⟩
    | false =>
      rw [hb] at h
      obtain ⟨h1, h2⟩ := x_find_in t pc r h
      exact ⟨List.mem_cons_of_mem _ h1, h2⟩
theorem x_at_pad : ∀ (n : Nat) (L : xL) (i : Nat) (v : Value), x_at (x_pad n L) i = some v → x_at L i = some v
  | 0, L, i, v, h => by simp [x_pad, x_at] at h
  | n + 1, [], 0, v, h => by simp [x_pad, x_at] at h
  | n + 1, [], i + 1, v, h => by
    have := x_at_pad n [] i v h
    simp [x_at] at this
  | n + 1, a :: t, 0, v, h => h
  | n + 1, a :: t, i + 1, v, h => x_at_pad n t i v h
theorem x_at_lay {ad : Nat → Nat} : ∀ (as : List Value) (i j : Nat) (v : Value), x_at (x_lay as) j = some v → (i + j, x_cv ad v) ∈ lv_args i (as.map (x_cv ad)) ∧ v ∈ as
  | [], i, j, v, h => by simp [x_lay, x_at] at h
  | a :: r, i, j, v, h => by
    unfold x_lay at h
    rw [List.map_cons, lv_args, x_cat_cv]
    cases h2 : x_two (some a) with
    | true =>
      rw [h2] at h
      rw [if_pos (x_two_cat.mp h2)]
      match j, h with
      | 0, h => cases h; exact ⟨List.mem_cons_self, List.mem_cons_self⟩
      | 1, h => cases h
      | j + 2, h =>
        obtain ⟨q1, q2⟩ := x_at_lay r (i + 2) j v h
        refine ⟨List.mem_cons_of_mem _ ?_, List.mem_cons_of_mem _ q2⟩
        have e1 : i + (j + 2) = i + 2 + j := by omega
        rw [e1]; exact q1
    | false =>
      rw [h2] at h
      have hc : ¬ a.category = 2 := fun q => by rw [x_two_cat.mpr q] at h2; cases h2
      rw [if_neg hc]
      match j, h with
      | 0, h => cases h; exact ⟨List.mem_cons_self, List.mem_cons_self⟩
      | j + 1, h =>
        obtain ⟨q1, q2⟩ := x_at_lay r (i + 1) j v h
        refine ⟨List.mem_cons_of_mem _ ?_, List.mem_cons_of_mem _ q2⟩
        have e1 : i + (j + 1) = i + 1 + j := by omega
        rw [e1]; exact q1
theorem x_sl_len {ad : Nat → Nat} : ∀ as : List Value, (lg_sl (as.map (x_cv ad))).length = x_cats as
  | [] => rfl
  | a :: r => by
    have ih := x_sl_len (ad := ad) r
    unfold lg_sl at ih ⊢
    rw [List.map_cons, List.flatMap_cons, List.length_append, ih, x_cat_cv]
    show _ = x_cat a + x_cats r
    cases a <;> rfl
section X11
variable {cl : List vw_C} {ct : Nat → vw_C} {fk : Nat → Nat → Nat} {ty : Nat → Nat → FieldType} {Ts Nw : List Cond} {mt : Nat → xM} {en : Nat → String × String × String} {P : xP} {l : Launch} {D : va_G} {cA : Nat → ClassId} {scr : Nat × (Nat → Int32)}
set_option maxHeartbeats 4000000 in
/-- a method of the program meets what the small machine says of it -/
theorem x_sound (hok : ∀ M r, r ∈ P.1 M → x_okr cl ct fk ty Ts Nw mt P.2.2.2.1 P.2.2.2.2.1 en M r) (hpl : ∀ M, plainName (mt M).1.cls = true) (hcls : ∀ M, (mt M).1.cls = (mt M).2.2.2.2) (hmx : ∀ M, (mt M).2.2.1 ≤ 14) (hmp : ∀ M, P.2.2.1 M = (mt M).2.2.1)
    (hNk : ∀ q ∈ Nw, (∀ s U : State, s.WarmedH U.vm → va_Nw q s → va_Nw q U) ∧ q.onTables = true) : ∀ (n M : Nat) (as : List Value) (w : xW) (v : Option Value) (w' : xW), x_cats as ≤ (mt M).2.2.1 →
    x_wp P scr n M 0 (x_pad (P.2.2.1 M) (x_lay as)) [] w (fun o2 w2 => o2 = .inl v ∧ w2 = w') → x_Met cl ct fk Ts Nw mt en P l D cA scr M as w v w' := by
  intro n
  induction n using Nat.strongRecOn with
  | ind n ih =>
    intro M as w v w' hca h ad sz
    refine Met.ofW (cc := (mt M).2.1) (maxL := (mt M).2.2.1) (ret := (mt M).2.2.2.1) (hpl M) rfl ?_
    intro p e s m args below meth c s₁ B hml hv
    obtain ⟨rfl, hsz, hrep, hK, hNw, hcon, hwa⟩ := hv
    subst hsz
    have hx := B.exec
    have hb := B.bytes
    have hr := B.returns
    have hts0 := atoms_spec (ws := x_ws Ts mt M) B.pre
    have hts : ∀ q ∈ Ts, q.before ((as.map (x_cv ad)).toArray) s = true := fun q hq => hts0 q (List.mem_cons_of_mem _ hq)
    have hown : s.vm.findClass (mt M).2.2.2.2 = some m.cls := by rw [← hcls M]; exact findClass_of_methodNamed B.named
    have hlk := B.notSynchronized
    have hnm : meth.name = (mt M).1.name := (name_of_methodNamed B.named B.method).1
    have hl0 := lv_entry (as.map (x_cv ad)) (n := (mt M).2.2.1) (by rw [x_sl_len]; exact hca)
    rw [lg_entry_eq]
    generalize (lg_sl (as.map (x_cv ad)) ++ List.replicate ((mt M).2.2.1 - (lg_sl (as.map (x_cv ad))).length) Slot.unset).toArray = ls at hl0 ⊢
    have hA : ∀ q, s.heap.size ≤ q → va_A (x_wd cA (fun a => (ct a).2.2) fk ad w) s.heap.size q := fun q hq => Or.inr hq
    have walk : ∀ (k : Nat), k ≤ n → ∀ (pc : Nat) (L : xL) (st : List Value) (w1 : xW), x_wp P scr k M pc L st w1 (fun o2 w2 => o2 = .inl v ∧ w2 = w') →
        x_WW cl ct fk D cA p l e (x_rm (P.2.1 M) (x_C w' - x_C w) (x_S w' - x_S w)) s m (as.map (x_cv ad)).toArray below meth c (va_A (x_wd cA (fun a => (ct a).2.2) fk ad w) s.heap.size) (mt M).2.2.1 ad w (MQ below (x_post cl ct fk D cA ad w v w' (va_A (x_wd cA (fun a => (ct a).2.2) fk ad w) s.heap.size)) (as.map (x_cv ad)).toArray s (x_C w' - x_C w) (x_S w' - x_S w) (va_A (x_wd cA (fun a => (ct a).2.2) fk ad w) s.heap.size)) pc L st w1 := by
      intro k
      induction k with
      | zero => intro _ pc L st w1 h; exact h.elim
      | succ k ihk =>
        intro hk pc L st w1 h
        obtain ⟨r, hr1, h⟩ := x_som_of h
        obtain ⟨hin, rfl⟩ := x_find_in _ _ _ hr1
        have okr := hok M r hin
        obtain ⟨pc, ins, len, a, b, c2, v2, u2⟩ := r
        have hfin : ∀ (o : xO) (w2 : xW), (o = .inl v ∧ w2 = w') → x_gr w2 w' := fun o w2 hq => by rw [hq.2]; exact x_gr_rf
        refine x_sound1 (p := p) (l := l) (e := e) (ins := ins) (X := x_aim P M pc (fun o2 w2 => o2 = .inl v ∧ w2 = w') (fun pc L st w => x_wp P scr k M pc L st w (fun o2 w2 => o2 = .inl v ∧ w2 = w')) (fun M' L w Q' => x_wp P scr k M' 0 L [] w Q')) hx hb hown hts hK hcon hA ⟨Nat.le_refl _, Nat.le_refl _, Nat.le_refl _, Nat.le_refl _⟩ hml hNk hNw hmx hnm ?_ ?_ ?_ ?_ okr h
        · intro pc2 L2 st2 w2 h2
          exact ⟨x_wp_gr _ _ _ _ _ _ _ hfin h2, ihk (by omega) _ _ _ _ h2⟩
        · intro M' as' pc2 L2 st2 w2 h2
          obtain ⟨hb2, h2⟩ := x_if_of h2
          rw [Bool.and_eq_true] at hb2
          obtain ⟨o3, w3, q1, q2⟩ := x_wp_det _ _ _ _ _ _ _ h2
          have hgr := x_wp_gr (w9 := w3) _ _ _ _ _ _ _ (fun o w hq => by rw [hq.2]; exact x_gr_rf) q2
          cases o3 with
          | inl v3 =>
            refine ⟨by simpa [Nat.blt, Nat.lt_iff_add_one_le] using Nat.le_of_ble_eq_true hb2.1, v3, w3, ih k (by omega) M' as' w2 v3 w3 (by rw [← hmp]; exact Nat.le_of_ble_eq_true hb2.2) q2, hgr, x_wp_gr _ _ _ _ _ _ _ hfin q1, ihk (by omega) _ _ _ _ q1⟩
          | inr t3 => sorry
        · intro hE
          have hR1 : ∀ (v3 : Option Value) (w3 : xW), x_aim P M pc (fun o2 w2 => o2 = .inl v ∧ w2 = w') (fun pc L st w => x_wp P scr k M pc L st w (fun o2 w2 => o2 = .inl v ∧ w2 = w')) (fun M' L w Q' => x_wp P scr k M' 0 L [] w Q') (.inr (.inr (.inl (v3, w3)))) → v3 = v ∧ w3 = w' := fun v3 w3 h3 => ⟨Sum.inl.inj h3.1, h3.2⟩
          rcases hE with rfl | rfl | rfl | rfl
          · exact xs_ireturn hx hb hr hlk hR1 okr h
          · exact xs_lreturn hx hb hr hlk hR1 okr h
          · exact xs_areturn hx hb hr hlk hR1 okr h
          · exact xs_return_ hx hb hr hlk hR1 okr h
        · intro k3 w3 h3
          exact absurd h3.1 (fun q => by cases q)
    have k1 := walk n (Nat.le_refl _) 0 _ _ _ h x_gr_rf s.heap [] ls ad x_ext_rf hrep va_S.rf ⟨hl0.1, hl0.2.1, fun i z hz => hl0.2.2 (i, x_cv ad z) (by
      have := (x_at_lay (ad := ad) as 0 i z (x_at_pad _ _ _ _ hz)).1
      rw [Nat.zero_add] at this
      exact this)⟩ (fun _ hv => by cases hv) (fun i z hz => hwa z (x_at_lay (ad := ad) as 0 i z (x_at_pad _ _ _ _ hz)).2)
    rw [Nat.sub_self, Nat.sub_self] at k1
    exact k1
end X11
end
section
/-! Calls out of words. -/
section X12
variable {Ts Nw : List Cond} {own : String} {idx : Nat} {y : MethodName} {bytes : ByteArray} {maxL n : Nat} {ret : Option FieldType}
theorem x_goodT (hG : ∀ w ∈ Ts, goodWord w = true) {ws : List Cond} (h : ∀ w ∈ ws, w ∈ Ts) : GoodIn Ts ws := fun w hw => ⟨h w hw, good_of_word (hG w (h w hw))⟩
theorem x_goodC (hG : ∀ w ∈ Ts, goodWord w = true) (hc : Cond.code y bytes maxL ret ∈ Ts) : GoodIn Ts (Cond.code y bytes maxL ret :: Ts) := x_goodT hG fun w hw => by
  rcases List.mem_cons.mp hw with rfl | hw
  · exact hc
  · exact hw
theorem x_CallS_own (hG : ∀ w ∈ Ts, goodWord w = true) (hc : Cond.code y bytes maxL ret ∈ Ts) (hl : Cond.methodLink own idx y ∈ Ts) (hs : Cond.static y ∈ Ts) (hi : Cond.initialized y.cls ∈ Ts)
    (hd : y.cls ≠ "java/lang/invoke/MethodHandle" ∧ y.cls ≠ "java/lang/invoke/VarHandle" ∧ (parseMethodDescriptor y.desc).map (fun d => d.parameters.length) = some n) : x_CallS Ts Nw own idx y bytes maxL ret n := by
  intro p l e R s m args below meth c H locs cells slots cc nL rm Pc Qc mc ms free As rest g S hNw hM h1 h2 h3 h4 hp hg hn hsz hst hW hdg hf
  have ht := S.2.2.2.2
  exact va_runS S hM ⟨callB_of n ht (x_goodC hG hc) rfl h1 h2 (ht _ hi) (ht _ hl) hd ⟨h3, h4⟩, ht _ hs⟩ hp hg hn hsz hst hW hdg hf
theorem x_CallS_nest {host : String} (hG : ∀ w ∈ Ts, goodWord w = true) (hc : Cond.code y bytes maxL ret ∈ Ts) (hl : Cond.methodLinkNest own idx y host ∈ Nw) (hs : Cond.static y ∈ Ts) (hi : Cond.initialized y.cls ∈ Ts)
    (hd : y.cls ≠ "java/lang/invoke/MethodHandle" ∧ y.cls ≠ "java/lang/invoke/VarHandle" ∧ (parseMethodDescriptor y.desc).map (fun d => d.parameters.length) = some n) : x_CallS Ts Nw own idx y bytes maxL ret n := by
  intro p l e R s m args below meth c H locs cells slots cc nL rm Pc Qc mc ms free As rest g S hNw hM h1 h2 h3 h4 hp hg hn hsz hst hW hdg hf
  have ht := S.2.2.2.2
  exact va_runSN S hM ⟨va_cnB n ht (x_goodC hG hc) rfl h1 h2 (hNw _ hl) (ht _ hi) hd ⟨h3, h4⟩, ht _ hs, trivial⟩ hp hg hn hsz hst hW hdg hf
theorem x_CallI_own (hG : ∀ w ∈ Ts, goodWord w = true) (hc : Cond.code y bytes maxL none ∈ Ts) (hl : Cond.methodLink own idx y ∈ Ts) (hs : Cond.instanceMethod y ∈ Ts) (hi : Cond.initialized y.cls ∈ Ts) (hy : y.name = "<init>")
    (hd : y.cls ≠ "java/lang/invoke/MethodHandle" ∧ y.cls ≠ "java/lang/invoke/VarHandle" ∧ (parseMethodDescriptor y.desc).map (fun d => d.parameters.length) = some n) : x_CallI Ts Nw own idx y bytes maxL (n + 1) := by
  intro p l e R s m args below meth c H locs cells slots cc nL rm Pc Qc mc ms free b As rest g S hNw hM h1 h2 h3 h4 hp hg hn hsz hst hW hdg hf
  have ht := S.2.2.2.2
  exact va_runI S hM (cwI n ht (x_goodC hG hc) rfl h1 h2 (ht _ hi) (ht _ hl) (ht _ hs) hy hd ⟨h3, h4⟩) hp hg (by omega) hsz hst hW hdg hf
theorem x_CallI_nest {host : String} (hG : ∀ w ∈ Ts, goodWord w = true) (hc : Cond.code y bytes maxL none ∈ Ts) (hl : Cond.methodLinkNest own idx y host ∈ Nw) (hs : Cond.instanceMethod y ∈ Ts) (hi : Cond.initialized y.cls ∈ Ts) (hy : y.name = "<init>")
    (hd : y.cls ≠ "java/lang/invoke/MethodHandle" ∧ y.cls ≠ "java/lang/invoke/VarHandle" ∧ (parseMethodDescriptor y.desc).map (fun d => d.parameters.length) = some n) : x_CallI Ts Nw own idx y bytes maxL (n + 1) := by
  intro p l e R s m args below meth c H locs cells slots cc nL rm Pc Qc mc ms free b As rest g S hNw hM h1 h2 h3 h4 hp hg hn hsz hst hW hdg hf
  have ht := S.2.2.2.2
  exact va_runIN S hM ⟨va_cnB n ht (x_goodC hG hc) rfl h1 h2 (hNw _ hl) (ht _ hi) hd ⟨h3, h4⟩, hy, ht _ hs⟩ hp hg (by omega) hsz hst hW hdg hf
theorem x_CallV_own (hG : ∀ w ∈ Ts, goodWord w = true) (hc : Cond.code y bytes maxL ret ∈ Ts) (hl : Cond.methodLink own idx y ∈ Ts) (hs : Cond.instanceMethod y ∈ Ts) (hi : Cond.initialized y.cls ∈ Ts) (hse : Cond.selects y.cls y y ∈ Ts)
    (hd : y.cls ≠ "java/lang/invoke/MethodHandle" ∧ y.cls ≠ "java/lang/invoke/VarHandle" ∧ (parseMethodDescriptor y.desc).map (fun d => d.parameters.length) = some n) : x_CallV Ts Nw own idx y.cls y bytes maxL ret (n + 1) := by
  intro p l e R s m args below meth c H locs cells slots cc nL rm Pc Qc mc ms free b As rest g S hNw hM h1 h2 h3 h4 hp hg hn hsz hst hW hdg hf
  have ht := S.2.2.2.2
  exact va_runV S hM ⟨callB_of n ht (x_goodC hG hc) rfl h1 h2 (ht _ hi) (ht _ hl) hd ⟨h3, h4⟩, ht _ hs, ht _ hse⟩ hp hg (by omega) hsz hst hW hdg hf
/-- an inherited method, by its own code's owner -/
theorem x_CallV_up {C : String} {x : MethodName} (hG : ∀ w ∈ Ts, goodWord w = true) (hc : Cond.code y bytes maxL ret ∈ Ts) (hl : Cond.methodLink own idx x ∈ Ts) (hsm : Cond.sameMethod x.cls y.cls x.name x.desc ∈ Ts) (hs : Cond.instanceMethod y ∈ Ts) (hi : Cond.initialized y.cls ∈ Ts) (hse : Cond.selects C x y ∈ Ts) (hyx : y = ⟨y.cls, x.name, x.desc⟩)
    (hd : y.cls ≠ "java/lang/invoke/MethodHandle" ∧ y.cls ≠ "java/lang/invoke/VarHandle" ∧ (parseMethodDescriptor x.desc).map (fun d => d.parameters.length) = some n) : x_CallV Ts Nw own idx C y bytes maxL ret (n + 1) := by
  intro p l e R s m args below meth c H locs cells slots cc nL rm Pc Qc mc ms free b As rest g S hNw hM h1 h2 h3 h4 hp hg hn hsz hst hW hdg hf
  have ht := S.2.2.2.2
  refine va_runU (owner := y.cls) S hM (va_cwU n ht (x_goodT hG fun w hw => ?_) rfl h1 h2 hyx hd ⟨h3, h4⟩) hp hg (by omega) hsz hst hW hdg hf
  simp only [va_wsU, List.mem_append, List.mem_cons, List.not_mem_nil, or_false] at hw
  rcases hw with (rfl | rfl | rfl | rfl | rfl) | rfl | hw
  · exact hl
  · exact hsm
  · exact hse
  · exact hs
  · exact hi
  · exact hc
  · exact hw
/-- a method whose named one is abstract -/
theorem x_CallV_abs {C owner : String} {x : MethodName} (hG : ∀ w ∈ Ts, goodWord w = true) (hc : Cond.code y bytes maxL ret ∈ Ts) (hl : Cond.methodLink own idx x ∈ Ts) (hsm : Cond.sameMethod x.cls owner x.name x.desc ∈ Ts) (hs : Cond.instanceMethod y ∈ Ts) (hi : Cond.initialized y.cls ∈ Ts) (hse : Cond.selects C x y ∈ Ts) (hdc : Cond.declares ⟨owner, x.name, x.desc⟩ ∈ Nw)
    (hd : owner ≠ "java/lang/invoke/MethodHandle" ∧ owner ≠ "java/lang/invoke/VarHandle" ∧ (parseMethodDescriptor x.desc).map (fun d => d.parameters.length) = some n) : x_CallV Ts Nw own idx C y bytes maxL ret (n + 1) := by
  intro p l e R s m args below meth c H locs cells slots cc nL rm Pc Qc mc ms free b As rest g S hNw hM h1 h2 h3 h4 hp hg hn hsz hst hW hdg hf
  have ht := S.2.2.2.2
  refine va_runU (owner := owner) S hM (va_cwA n ht (x_goodT hG fun w hw => ?_) rfl h1 h2 (hNw _ hdc) hd ⟨h3, h4⟩) hp hg (by omega) hsz hst hW hdg hf
  simp only [va_wsU, List.mem_append, List.mem_cons, List.not_mem_nil, or_false] at hw
  rcases hw with (rfl | rfl | rfl | rfl | rfl) | rfl | hw
  · exact hl
  · exact hsm
  · exact hse
  · exact hs
  · exact hi
  · exact hc
  · exact hw
end X12
end
