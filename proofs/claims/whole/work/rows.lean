section
/-! A small machine over worlds of numbered cells: its steps as propositions. Cell 0 stands for null in fields. -/
abbrev xW : Type := Nat × Nat × Nat × (Nat → Nat) × (Nat → Nat) × (Nat → Nat → Int32) × (Nat → Nat → Int64) × (Nat → Nat → Nat)
def x_N (w : xW) : Nat := w.1
def x_C (w : xW) : Nat := w.2.1
def x_S (w : xW) : Nat := w.2.2.1
def x_k (w : xW) : Nat → Nat := w.2.2.2.1
def x_l (w : xW) : Nat → Nat := w.2.2.2.2.1
def x_i (w : xW) : Nat → Nat → Int32 := w.2.2.2.2.2.1
def x_j (w : xW) : Nat → Nat → Int64 := w.2.2.2.2.2.2.1
def x_r (w : xW) : Nat → Nat → Nat := w.2.2.2.2.2.2.2
def x_up {α : Type} (f : Nat → Nat → α) (o k : Nat) (v : α) : Nat → Nat → α := fun i => if i = o then (fun j => if j = k then v else f o j) else f i
def x_si (w : xW) (o k : Nat) (v : Int32) : xW := (x_N w, x_C w, x_S w, x_k w, x_l w, x_up (x_i w) o k v, x_j w, x_r w)
def x_sj (w : xW) (o k : Nat) (v : Int64) : xW := (x_N w, x_C w, x_S w, x_k w, x_l w, x_i w, x_up (x_j w) o k v, x_r w)
def x_sr (w : xW) (o k : Nat) (v : Nat) : xW := (x_N w, x_C w, x_S w, x_k w, x_l w, x_i w, x_j w, x_up (x_r w) o k v)
def x_row {α : Type} (f : Nat → α) (o : Nat) (g : α) : Nat → α := fun i => if i = o then g else f i
def x_new (w : xW) (kind len n : Nat) : xW := (x_N w + 1, x_C w + 1, x_S w + n, x_row (x_k w) (x_N w) kind, x_row (x_l w) (x_N w) len, x_row (x_i w) (x_N w) (fun _ => 0), x_row (x_j w) (x_N w) (fun _ => 0), x_row (x_r w) (x_N w) (fun _ => 0))
def x_cp (w : xW) (a sp b dp n : Nat) : xW := (x_N w, x_C w, x_S w, x_k w, x_l w, x_row (x_i w) b (va_cpy (x_i w a) (x_i w b) sp dp n), x_j w, x_r w)
def x_lost (w : xW) (n : Nat) : xW := (x_N w, x_C w + 1, x_S w + n, x_k w, x_l w, x_i w, x_j w, x_r w)
/-- locals by their places -/
abbrev xL : Type := List (Option Value)
def x_at : xL → Nat → Option Value
  | [], _ => none
  | a :: _, 0 => a
  | _ :: t, n + 1 => x_at t n
def x_set : xL → Nat → Option Value → xL
  | [], _, _ => []
  | _ :: t, 0, v => v :: t
  | a :: t, n + 1, v => a :: x_set t n v
def x_two : Option Value → Bool
  | some (.long _) => true
  | some (.double _) => true
  | _ => false
def x_cl (L : xL) (i : Nat) : xL := match x_two (x_at L i) with
  | true => x_set L i none
  | false => L
def x_st1 (L : xL) (i : Nat) (v : Value) : xL := match i with
  | 0 => x_set L 0 (some v)
  | j + 1 => x_set (x_cl L j) (j + 1) (some v)
def x_st2 (L : xL) (i : Nat) (v : Value) : xL := x_set (x_st1 L i v) (i + 1) none
/-- the parts of a step -/
def x_pI (st : List Value) (f : Int32 → List Value → Prop) : Prop := match st with
  | .int x :: r => f x r
  | _ => False
def x_pL (st : List Value) (f : Int64 → List Value → Prop) : Prop := match st with
  | .long x :: r => f x r
  | _ => False
def x_pR (st : List Value) (f : Nat → List Value → Prop) : Prop := match st with
  | .ref x :: r => f x r
  | _ => False
def x_gI (L : xL) (i : Nat) (f : Int32 → Prop) : Prop := match x_at L i with
  | some (.int x) => f x
  | _ => False
def x_gL (L : xL) (i : Nat) (f : Int64 → Prop) : Prop := match x_at L i with
  | some (.long x) => f x
  | _ => False
def x_gR (L : xL) (i : Nat) (f : Nat → Prop) : Prop := match x_at L i with
  | some (.ref x) => f x
  | _ => False
def x_br (c A B : Prop) : Prop := (c → A) ∧ (¬ c → B)
def x_pop : Nat → List Value → List Value → (List Value → List Value → Prop) → Prop
  | 0, st, acc, f => f acc st
  | n + 1, v :: st, acc, f => x_pop n st (v :: acc) f
  | _ + 1, [], _, _ => False
def x_cat (v : Value) : Nat := match v with
  | .long _ => 2
  | .double _ => 2
  | _ => 1
def x_cats : List Value → Nat
  | [] => 0
  | v :: r => x_cat v + x_cats r
def x_sw (c : Nat) (A B : Prop) : Prop := match c with
  | 0 => A
  | _ + 1 => B
def x_pV (st : List Value) (f : Value → List Value → Prop) : Prop := match st with
  | .int x :: r => f (.int x) r
  | .ref x :: r => f (.ref x) r
  | _ => False
def x_nil (st : List Value) (A : Prop) : Prop := match st with
  | [] => A
  | _ :: _ => False
def x_som {α : Type} (o : Option α) (f : α → Prop) : Prop := match o with
  | some a => f a
  | none => False
/-- the classes that a link to a field may mean: 2 stands for 2 and 3, which have their fields from one class -/
def x_al (a : Nat) : List Nat := match a with
  | 2 => [2, 3]
  | a => [a]
def x_kd (a k : Nat) : Prop := match a with
  | 2 => k = 5 ∨ k = 6
  | a => k = a + 3
def x_if (b : Bool) (A : Prop) : Prop := match b with
  | true => A
  | false => False
def x_cnd (c : ClassFile.Cond) (x y : Int32) : Prop := match c with
  | .eq => x = y
  | .ne => ¬ x = y
  | .lt => x < y
  | .ge => y ≤ x
  | .gt => y < x
  | .le => x ≤ y
/-- what an end is: a return, or a throw of kind n -/
abbrev xO : Type := Option Value ⊕ Nat
/-- a row of code: pc, instruction, its length, three numbers, an int, a long -/
abbrev xR : Type := Nat × Instr × Nat × Nat × Nat × Nat × Int32 × Int64
def x_find : List xR → Nat → Option xR
  | [], _ => none
  | r :: t, pc => match Nat.beq r.1 pc with
    | true => some r
    | false => x_find t pc
/-- numbers of things that are no cells of the world: the script, the constants of the enum, the texts -/
def x_sc : Nat := 1000000
def x_en : Nat := 1000001
def x_tx : Nat := 1000010
/-- one step: K goes on, CL calls, RT returns, TH throws; rc, vt: receivers; scr: the script; tx: the texts -/
def x_step (K : Nat → xL → List Value → xW → Prop) (CL : Nat → List Value → Nat → xL → List Value → xW → Prop) (RT : Option Value → xW → Prop) (TH : Nat → xW → Prop) (rc : Nat → Nat) (vt : Nat → Nat × Nat × Nat × Nat) (scr : Nat × (Nat → Int32)) (tx : Nat → List Int32) (ins : Instr) (a b c : Nat) (v : Int32) (u : Int64) (pc : Nat) (L : xL) (st : List Value) (w : xW) : Prop :=
  match ins with
  | .iconst _ => K (pc + 1) L (.int v :: st) w
  | .bipush _ => K (pc + 2) L (.int v :: st) w
  | .sipush _ => K (pc + 3) L (.int v :: st) w
  | .ldc _ => x_sw c (K (pc + 2) L (.int v :: st) w) (K (pc + 2) L (.ref (x_tx + a) :: st) w)
  | .lconst _ => K (pc + 1) L (.long u :: st) w
  | .ldc2_w _ => K (pc + 3) L (.long u :: st) w
  | .iload i => x_gI L i fun x => K (pc + 2) L (.int x :: st) w
  | .iload_n _ => x_gI L a fun x => K (pc + 1) L (.int x :: st) w
  | .lload i => x_gL L i fun x => K (pc + 2) L (.long x :: st) w
  | .lload_n _ => x_gL L a fun x => K (pc + 1) L (.long x :: st) w
  | .aload i => x_gR L i fun x => K (pc + 2) L (.ref x :: st) w
  | .aload_n _ => x_gR L a fun x => K (pc + 1) L (.ref x :: st) w
  | .istore i => x_pI st fun x r => K (pc + 2) (x_st1 L i (.int x)) r w
  | .istore_n _ => x_pI st fun x r => K (pc + 1) (x_st1 L a (.int x)) r w
  | .lstore i => x_pL st fun x r => K (pc + 2) (x_st2 L i (.long x)) r w
  | .lstore_n _ => x_pL st fun x r => K (pc + 1) (x_st2 L a (.long x)) r w
  | .astore i => x_pR st fun x r => K (pc + 2) (x_st1 L i (.ref x)) r w
  | .astore_n _ => x_pR st fun x r => K (pc + 1) (x_st1 L a (.ref x)) r w
  | .iinc i _ => x_gI L i fun x => K (pc + 3) (x_st1 L i (.int (x + v))) st w
  | .iadd => x_pI st fun y r => x_pI r fun x r => K (pc + 1) L (.int (x + y) :: r) w
  | .isub => x_pI st fun y r => x_pI r fun x r => K (pc + 1) L (.int (x - y) :: r) w
  | .imul => x_pI st fun y r => x_pI r fun x r => K (pc + 1) L (.int (x * y) :: r) w
  | .iand => x_pI st fun y r => x_pI r fun x r => K (pc + 1) L (.int (x &&& y) :: r) w
  | .ior => x_pI st fun y r => x_pI r fun x r => K (pc + 1) L (.int (x ||| y) :: r) w
  | .ixor => x_pI st fun y r => x_pI r fun x r => K (pc + 1) L (.int (x ^^^ y) :: r) w
  | .ishl => x_pI st fun y r => x_pI r fun x r => K (pc + 1) L (.int (x <<< (y &&& 31)) :: r) w
  | .iushr => x_pI st fun y r => x_pI r fun x r => K (pc + 1) L (.int (x.toUInt32 >>> (y.toUInt32 &&& Int32.toUInt32 31)).toInt32 :: r) w
  | .idiv => x_pI st fun y r => x_pI r fun x r => (¬ y = 0) ∧ K (pc + 1) L (.int (x / y) :: r) w
  | .irem => x_pI st fun y r => x_pI r fun x r => (¬ y = 0) ∧ K (pc + 1) L (.int (x - x / y * y) :: r) w
  | .ineg => x_pI st fun x r => K (pc + 1) L (.int (-x) :: r) w
  | .land => x_pL st fun y r => x_pL r fun x r => K (pc + 1) L (.long (x &&& y) :: r) w
  | .lor => x_pL st fun y r => x_pL r fun x r => K (pc + 1) L (.long (x ||| y) :: r) w
  | .lxor => x_pL st fun y r => x_pL r fun x r => K (pc + 1) L (.long (x ^^^ y) :: r) w
  | .lshl => x_pI st fun y r => x_pL r fun x r => K (pc + 1) L (.long (x <<< (y.toInt64 &&& 63)) :: r) w
  | .lshr => x_pI st fun y r => x_pL r fun x r => K (pc + 1) L (.long (x >>> (y.toInt64 &&& 63)) :: r) w
  | .lushr => x_pI st fun y r => x_pL r fun x r => K (pc + 1) L (.long (x.toUInt64 >>> (y.toInt64.toUInt64 &&& Int64.toUInt64 63)).toInt64 :: r) w
  | .i2l => x_pI st fun x r => K (pc + 1) L (.long x.toInt64 :: r) w
  | .l2i => x_pL st fun x r => K (pc + 1) L (.int x.toInt32 :: r) w
  | .lcmp => x_pL st fun y r => x_pL r fun x r => K (pc + 1) L (.int (lg_cmp x y) :: r) w
  | .dup => x_pV st fun x r => K (pc + 1) L (x :: x :: r) w
  | .pop => x_pV st fun _ r => K (pc + 1) L r w
  | .dup2 => x_pI st fun y r => x_pR r fun x r => K (pc + 1) L (.int y :: .ref x :: .int y :: .ref x :: r) w
  | .ifCond cd _ => x_pI st fun x r => x_br (x_cnd cd x 0) (K a L r w) (K (pc + 3) L r w)
  | .if_icmp cd _ => x_pI st fun y r => x_pI r fun x r => x_br (x_cnd cd x y) (K a L r w) (K (pc + 3) L r w)
  | .if_acmp .ne _ => x_pR st fun y r => x_pR r fun x r => (x_en ≤ x ∧ x < x_en + 4 ∧ x_en ≤ y ∧ y < x_en + 4) ∧ x_br (¬ x = y) (K a L r w) (K (pc + 3) L r w)
  | .goto _ => K a L st w
  | .tableswitch d lo hi offs => x_pI st fun x r => x_br (x.toInt < lo ∨ hi < x.toInt) (K ((pc : Int) + d).toNat L r w) (x_som offs[(x.toInt - lo).toNat]? fun o => K ((pc : Int) + o).toNat L r w)
  | .getfield _ => x_pR st fun o r => (x_kd a (x_k w o)) ∧ x_sw c (K (pc + 3) L (.int (x_i w o b) :: r) w) (x_sw (c - 1) (K (pc + 3) L (.long (x_j w o b) :: r) w) ((¬ x_r w o b = 0) ∧ K (pc + 3) L (.ref (x_r w o b) :: r) w))
  | .putfield _ => x_sw c (x_pI st fun x r => x_pR r fun o r => (x_kd a (x_k w o)) ∧ K (pc + 3) L r (x_si w o b x))
    (x_sw (c - 1) (x_pL st fun x r => x_pR r fun o r => (x_kd a (x_k w o)) ∧ K (pc + 3) L r (x_sj w o b x))
    (x_sw (c - 2) (x_pR st fun x r => x_pR r fun o r => (x_kd a (x_k w o) ∧ ¬ x = 0 ∧ x < x_N w) ∧ K (pc + 3) L r (x_sr w o b x))
    (x_pI st fun x r => x_pR r fun o r => (x_kd a (x_k w o) ∧ (x = 0 ∨ x = 1)) ∧ K (pc + 3) L r (x_si w o b x))))
  | .getstatic _ => K (pc + 3) L (.ref (x_en + a) :: st) w
  | .iaload => x_pI st fun i r => x_pR r fun o r => x_sw c ((x_k w o = 0 ∧ vp_in i (x_l w o)) ∧ K (pc + 1) L (.int (x_i w o i.toNatClampNeg) :: r) w) ((o = x_sc ∧ vp_in i scr.1) ∧ K (pc + 1) L (.int (scr.2 i.toNatClampNeg) :: r) w)
  | .baload => x_pI st fun i r => x_pR r fun o r => (x_k w o = 1 ∧ vp_in i (x_l w o)) ∧ K (pc + 1) L (.int (x_i w o i.toNatClampNeg) :: r) w
  | .laload => x_pI st fun i r => x_pR r fun o r => (x_k w o = 2 ∧ vp_in i (x_l w o)) ∧ K (pc + 1) L (.long (x_j w o i.toNatClampNeg) :: r) w
  | .iastore => x_pI st fun x r => x_pI r fun i r => x_pR r fun o r => (x_k w o = 0 ∧ vp_in i (x_l w o)) ∧ K (pc + 1) L r (x_si w o i.toNatClampNeg x)
  | .bastore => x_pI st fun x r => x_pI r fun i r => x_pR r fun o r => (x_k w o = 1 ∧ vp_in i (x_l w o) ∧ (x = 0 ∨ x = 1)) ∧ K (pc + 1) L r (x_si w o i.toNatClampNeg x)
  | .lastore => x_pL st fun x r => x_pI r fun i r => x_pR r fun o r => (x_k w o = 2 ∧ vp_in i (x_l w o)) ∧ K (pc + 1) L r (x_sj w o i.toNatClampNeg x)
  | .arraylength => x_pR st fun o r => x_sw c ((x_k w o = 0) ∧ K (pc + 1) L (.int (Int32.ofNat (x_l w o)) :: r) w) ((o = x_sc) ∧ K (pc + 1) L (.int (Int32.ofNat scr.1) :: r) w)
  | .newarray _ => x_pI st fun x r => (¬ x < 0 ∧ x ≤ 20000 ∧ x_N w < 1000) ∧ K (pc + 2) L (.ref (x_N w) :: r) (x_new w a x.toNatClampNeg x.toNatClampNeg)
  | .new _ => x_sw c ((x_N w < 1000) ∧ K (pc + 3) L (.ref (x_N w) :: st) (x_new w (a + 3) b b)) (x_nil st (TH a (x_lost w 6)))
  | .invokestatic _ => x_sw c (x_pop b st [] fun as r => x_if (Nat.ble (x_cats r) 8) (CL a as (pc + 3) L r w))
    (x_pI st fun n r => x_pI r fun dp r => x_pR r fun q r => x_pI r fun sp r => x_pR r fun o r => (x_k w o = 0 ∧ x_k w q = 0 ∧ ¬ sp < 0 ∧ ¬ dp < 0 ∧ ¬ n < 0 ∧ sp.toNatClampNeg + n.toNatClampNeg ≤ x_l w o ∧ dp.toNatClampNeg + n.toNatClampNeg ≤ x_l w q) ∧ x_if (Nat.ble (x_cats r) 8) (K (pc + 3) L r (x_cp w o sp.toNatClampNeg q dp.toNatClampNeg n.toNatClampNeg)))
  | .invokespecial _ => x_sw c (x_pop b st [] fun as r => x_if (Nat.ble (x_cats r) 8) (x_pR as fun _ _ => CL a as (pc + 3) L r w))
    (x_pR st fun _ r => x_if (Nat.ble (x_cats r) 8) (K (pc + 3) L r w))
  | .invokevirtual _ => x_sw c (x_pop b st [] fun as r => x_if (Nat.ble (x_cats r) 8) (x_pR as fun o _ => (x_k w o = rc a + 3) ∧ CL a as (pc + 3) L r w))
    (x_sw (c - 1) (x_pop b st [] fun as r => x_if (Nat.ble (x_cats r) 8) (x_pR as fun o _ => x_br (x_k w o = (vt a).1 + 3) (CL (vt a).2.1 as (pc + 3) L r w) ((x_k w o = (vt a).2.2.1 + 3) ∧ CL (vt a).2.2.2 as (pc + 3) L r w)))
    (x_sw (c - 2) (x_pR st fun o r => (x_tx ≤ o ∧ o < x_tx + b) ∧ x_if (Nat.ble (x_cats r) 8) (K (pc + 3) L (.int (Int32.ofNat (tx (o - x_tx)).length) :: r) w))
    (x_pI st fun i r => x_pR r fun o r => (x_tx ≤ o ∧ o < x_tx + b ∧ vp_in i (tx (o - x_tx)).length) ∧ x_if (Nat.ble (x_cats r) 8) (K (pc + 3) L (.int ((tx (o - x_tx)).getD i.toNatClampNeg 0) :: r) w))))
  | .ireturn => x_pI st fun x r => x_nil r (x_sw c (RT (some (.int x)) w) ((x = 0 ∨ x = 1) ∧ RT (some (.int x)) w))
  | .lreturn => x_pL st fun x r => x_nil r (RT (some (.long x)) w)
  | .areturn => x_pR st fun x r => x_nil r (RT (some (.ref x)) w)
  | .return_ => x_nil st (RT none w)
  | _ => False
end
section
/-! Runs of the small machine: x_wp with fuel, x_R without; a step goes to one place. -/
theorem x_pI_of {st : List Value} {f : Int32 → List Value → Prop} (h : x_pI st f) : ∃ x r, st = .int x :: r ∧ f x r := by
  unfold x_pI at h
  split at h
  · exact ⟨_, _, rfl, h⟩
  · exact h.elim
theorem x_pL_of {st : List Value} {f : Int64 → List Value → Prop} (h : x_pL st f) : ∃ x r, st = .long x :: r ∧ f x r := by
  unfold x_pL at h
  split at h
  · exact ⟨_, _, rfl, h⟩
  · exact h.elim
theorem x_pR_of {st : List Value} {f : Nat → List Value → Prop} (h : x_pR st f) : ∃ x r, st = .ref x :: r ∧ f x r := by
  unfold x_pR at h
  split at h
  · exact ⟨_, _, rfl, h⟩
  · exact h.elim
theorem x_pV_of {st : List Value} {f : Value → List Value → Prop} (h : x_pV st f) : ∃ x r, st = x :: r ∧ x_cat x = 1 ∧ f x r ∧ ∀ g : Value → List Value → Prop, g x r → x_pV st g := by
  unfold x_pV at h
  split at h
  · exact ⟨_, _, rfl, rfl, h, fun g hg => hg⟩
  · exact ⟨_, _, rfl, rfl, h, fun g hg => hg⟩
  · exact h.elim
theorem x_gI_of {L : xL} {i : Nat} {f : Int32 → Prop} (h : x_gI L i f) : ∃ x, x_at L i = some (.int x) ∧ f x := by
  unfold x_gI at h
  split at h
  · exact ⟨_, by assumption, h⟩
  · exact h.elim
theorem x_gL_of {L : xL} {i : Nat} {f : Int64 → Prop} (h : x_gL L i f) : ∃ x, x_at L i = some (.long x) ∧ f x := by
  unfold x_gL at h
  split at h
  · exact ⟨_, by assumption, h⟩
  · exact h.elim
theorem x_gR_of {L : xL} {i : Nat} {f : Nat → Prop} (h : x_gR L i f) : ∃ x, x_at L i = some (.ref x) ∧ f x := by
  unfold x_gR at h
  split at h
  · exact ⟨_, by assumption, h⟩
  · exact h.elim
theorem x_gI_to {L : xL} {i : Nat} {f : Int32 → Prop} {x : Int32} (h : x_at L i = some (.int x)) (hf : f x) : x_gI L i f := by
  unfold x_gI; rw [h]; exact hf
theorem x_gL_to {L : xL} {i : Nat} {f : Int64 → Prop} {x : Int64} (h : x_at L i = some (.long x)) (hf : f x) : x_gL L i f := by
  unfold x_gL; rw [h]; exact hf
theorem x_gR_to {L : xL} {i : Nat} {f : Nat → Prop} {x : Nat} (h : x_at L i = some (.ref x)) (hf : f x) : x_gR L i f := by
  unfold x_gR; rw [h]; exact hf
theorem x_if_of {b : Bool} {A : Prop} (h : x_if b A) : b = true ∧ A := by
  cases b
  · exact h.elim
  · exact ⟨rfl, h⟩
theorem x_nil_of {st : List Value} {A : Prop} (h : x_nil st A) : st = [] ∧ A := by
  cases st
  · exact ⟨rfl, h⟩
  · exact h.elim
theorem x_som_of {α : Type} {o : Option α} {f : α → Prop} (h : x_som o f) : ∃ a, o = some a ∧ f a := by
  cases o
  · exact h.elim
  · exact ⟨_, rfl, h⟩
theorem x_sw_of {c : Nat} {A B : Prop} (h : x_sw c A B) : (c = 0 ∧ A) ∨ (¬ c = 0 ∧ B) := by
  cases c
  · exact Or.inl ⟨rfl, h⟩
  · exact Or.inr ⟨Nat.succ_ne_zero _, h⟩
theorem x_br_of {c A B : Prop} (h : x_br c A B) : (c ∧ A) ∨ (¬ c ∧ B) := by
  by_cases hc : c
  · exact Or.inl ⟨hc, h.1 hc⟩
  · exact Or.inr ⟨hc, h.2 hc⟩
theorem x_br_t {c A B : Prop} (hc : c) (h : A) : x_br c A B := ⟨fun _ => h, fun n => absurd hc n⟩
theorem x_br_f {c A B : Prop} (hc : ¬ c) (h : B) : x_br c A B := ⟨fun n => absurd n hc, fun _ => h⟩
theorem x_pop_of : ∀ (n : Nat) (st acc : List Value) (f : List Value → List Value → Prop), x_pop n st acc f → ∃ as r, as.length = n ∧ st = as ++ r ∧ f (as.reverse ++ acc) r
  | 0, st, acc, f, h => ⟨[], st, rfl, rfl, h⟩
  | n + 1, v :: st, acc, f, h => by
    obtain ⟨as, r, h1, h2, h3⟩ := x_pop_of n st (v :: acc) f h
    exact ⟨v :: as, r, by simp [h1], by simp [h2], by simpa using h3⟩
  | n + 1, [], acc, f, h => h.elim
theorem x_pop_to : ∀ (as r acc : List Value) (f : List Value → List Value → Prop), f (as.reverse ++ acc) r → x_pop as.length (as ++ r) acc f
  | [], r, acc, f, h => h
  | v :: as, r, acc, f, h => x_pop_to as r (v :: acc) f (by simpa using h)
/-- where a step may go -/
abbrev xT : Type := (Nat × xL × List Value × xW) ⊕ (Nat × List Value × Nat × xL × List Value × xW) ⊕ (Option Value × xW) ⊕ (Nat × xW)
def x_K (X : xT → Prop) : Nat → xL → List Value → xW → Prop := fun pc L st w => X (.inl (pc, L, st, w))
def x_CL (X : xT → Prop) : Nat → List Value → Nat → xL → List Value → xW → Prop := fun M as pc L st w => X (.inr (.inl (M, as, pc, L, st, w)))
def x_RT (X : xT → Prop) : Option Value → xW → Prop := fun v w => X (.inr (.inr (.inl (v, w))))
def x_TH (X : xT → Prop) : Nat → xW → Prop := fun k w => X (.inr (.inr (.inr (k, w))))
/-- a step with one aim for all four -/
def x_go (X : xT → Prop) (rc : Nat → Nat) (vt : Nat → Nat × Nat × Nat × Nat) (scr : Nat × (Nat → Int32)) (tx : Nat → List Int32) (ins : Instr) (a b c : Nat) (v : Int32) (u : Int64) (pc : Nat) (L : xL) (st : List Value) (w : xW) : Prop :=
  x_step (x_K X) (x_CL X) (x_RT X) (x_TH X) rc vt scr tx ins a b c v u pc L st w
/-- cells are never taken away -/
def x_gr (w w' : xW) : Prop := x_N w ≤ x_N w' ∧ x_C w ≤ x_C w' ∧ x_S w ≤ x_S w'
theorem x_gr_rf {w : xW} : x_gr w w := ⟨Nat.le_refl _, Nat.le_refl _, Nat.le_refl _⟩
theorem x_gr_tr {a b c : xW} (h : x_gr a b) (h2 : x_gr b c) : x_gr a c := ⟨Nat.le_trans h.1 h2.1, Nat.le_trans h.2.1 h2.2.1, Nat.le_trans h.2.2 h2.2.2⟩
def x_wt (t : xT) : xW := match t with
  | .inl (_, _, _, w) => w
  | .inr (.inl (_, _, _, _, _, w)) => w
  | .inr (.inr (.inl (_, w))) => w
  | .inr (.inr (.inr (_, w))) => w
/-- an aim that is met at one place, whatever is asked there -/
def x_PK (w0 : xW) (F : (xT → Prop) → Prop) : Prop := ∀ X, F X → ∃ t, X t ∧ x_gr w0 (x_wt t) ∧ ∀ Y, Y t → F Y
theorem xk_k {w0 : xW} {pc : Nat} {L : xL} {st : List Value} {w : xW} (hg : x_gr w0 w) : x_PK w0 (fun X => x_K X pc L st w) := fun _ h => ⟨_, h, hg, fun _ hY => hY⟩
theorem xk_c {M pc : Nat} {as : List Value} {L : xL} {st : List Value} {w : xW} : x_PK w (fun X => x_CL X M as pc L st w) := fun _ h => ⟨_, h, x_gr_rf, fun _ hY => hY⟩
theorem xk_r {v : Option Value} {w : xW} : x_PK w (fun X => x_RT X v w) := fun _ h => ⟨_, h, x_gr_rf, fun _ hY => hY⟩
theorem xk_t {w0 : xW} {k : Nat} {w : xW} (hg : x_gr w0 w) : x_PK w0 (fun X => x_TH X k w) := fun _ h => ⟨_, h, hg, fun _ hY => hY⟩
theorem xk_0 {w0 : xW} : x_PK w0 (fun _ => False) := fun _ h => h.elim
theorem xk_and {w0 : xW} {c : Prop} {F : (xT → Prop) → Prop} (hF : x_PK w0 F) : x_PK w0 (fun X => c ∧ F X) := fun X h => by
  obtain ⟨t, h1, hg0, h2⟩ := hF X h.2
  exact ⟨t, h1, hg0, fun Y hY => ⟨h.1, h2 Y hY⟩⟩
theorem xk_br {w0 : xW} {c : Prop} {F G : (xT → Prop) → Prop} (hF : x_PK w0 F) (hG : x_PK w0 G) : x_PK w0 (fun X => x_br c (F X) (G X)) := fun X h => by
  rcases x_br_of h with ⟨hc, h⟩ | ⟨hc, h⟩
  · obtain ⟨t, h1, hg0, h2⟩ := hF X h
    exact ⟨t, h1, hg0, fun Y hY => x_br_t hc (h2 Y hY)⟩
  · obtain ⟨t, h1, hg0, h2⟩ := hG X h
    exact ⟨t, h1, hg0, fun Y hY => x_br_f hc (h2 Y hY)⟩
theorem xk_sw {w0 : xW} {c : Nat} {F G : (xT → Prop) → Prop} (hF : x_PK w0 F) (hG : x_PK w0 G) : x_PK w0 (fun X => x_sw c (F X) (G X)) := by
  cases c
  · exact hF
  · exact hG
theorem xk_if {w0 : xW} {b : Bool} {F : (xT → Prop) → Prop} (hF : x_PK w0 F) : x_PK w0 (fun X => x_if b (F X)) := by
  cases b
  · exact xk_0
  · exact hF
theorem xk_nil {w0 : xW} {st : List Value} {F : (xT → Prop) → Prop} (hF : x_PK w0 F) : x_PK w0 (fun X => x_nil st (F X)) := by
  cases st
  · exact hF
  · exact xk_0
theorem xk_som {w0 : xW} {α : Type} {o : Option α} {F : α → (xT → Prop) → Prop} (hF : ∀ a, x_PK w0 (F a)) : x_PK w0 (fun X => x_som o (fun a => F a X)) := by
  cases o
  · exact xk_0
  · exact hF _
theorem xk_pI {w0 : xW} {st : List Value} {F : Int32 → List Value → (xT → Prop) → Prop} (hF : ∀ x r, x_PK w0 (F x r)) : x_PK w0 (fun X => x_pI st (fun x r => F x r X)) := fun X h => by
  obtain ⟨x, r, rfl, h⟩ := x_pI_of h
  exact hF x r X h
theorem xk_pL {w0 : xW} {st : List Value} {F : Int64 → List Value → (xT → Prop) → Prop} (hF : ∀ x r, x_PK w0 (F x r)) : x_PK w0 (fun X => x_pL st (fun x r => F x r X)) := fun X h => by
  obtain ⟨x, r, rfl, h⟩ := x_pL_of h
  exact hF x r X h
theorem xk_pR {w0 : xW} {st : List Value} {F : Nat → List Value → (xT → Prop) → Prop} (hF : ∀ x r, x_PK w0 (F x r)) : x_PK w0 (fun X => x_pR st (fun x r => F x r X)) := fun X h => by
  obtain ⟨x, r, rfl, h⟩ := x_pR_of h
  exact hF x r X h
theorem xk_pV {w0 : xW} {st : List Value} {F : Value → List Value → (xT → Prop) → Prop} (hF : ∀ x r, x_PK w0 (F x r)) : x_PK w0 (fun X => x_pV st (fun x r => F x r X)) := fun X h => by
  obtain ⟨x, r, -, -, h, hg⟩ := x_pV_of h
  obtain ⟨t, h1, hg0, h2⟩ := hF x r X h
  exact ⟨t, h1, hg0, fun Y hY => hg _ (h2 Y hY)⟩
theorem xk_gI {w0 : xW} {L : xL} {i : Nat} {F : Int32 → (xT → Prop) → Prop} (hF : ∀ x, x_PK w0 (F x)) : x_PK w0 (fun X => x_gI L i (fun x => F x X)) := fun X h => by
  obtain ⟨x, e, h⟩ := x_gI_of h
  obtain ⟨t, h1, hg0, h2⟩ := hF x X h
  exact ⟨t, h1, hg0, fun Y hY => x_gI_to e (h2 Y hY)⟩
theorem xk_gL {w0 : xW} {L : xL} {i : Nat} {F : Int64 → (xT → Prop) → Prop} (hF : ∀ x, x_PK w0 (F x)) : x_PK w0 (fun X => x_gL L i (fun x => F x X)) := fun X h => by
  obtain ⟨x, e, h⟩ := x_gL_of h
  obtain ⟨t, h1, hg0, h2⟩ := hF x X h
  exact ⟨t, h1, hg0, fun Y hY => x_gL_to e (h2 Y hY)⟩
theorem xk_gR {w0 : xW} {L : xL} {i : Nat} {F : Nat → (xT → Prop) → Prop} (hF : ∀ x, x_PK w0 (F x)) : x_PK w0 (fun X => x_gR L i (fun x => F x X)) := fun X h => by
  obtain ⟨x, e, h⟩ := x_gR_of h
  obtain ⟨t, h1, hg0, h2⟩ := hF x X h
  exact ⟨t, h1, hg0, fun Y hY => x_gR_to e (h2 Y hY)⟩
theorem xk_pop {w0 : xW} {n : Nat} {st acc : List Value} {F : List Value → List Value → (xT → Prop) → Prop} (hF : ∀ x r, x_PK w0 (F x r)) : x_PK w0 (fun X => x_pop n st acc (fun x r => F x r X)) := fun X h => by
  obtain ⟨as, r, h3, h4, h5⟩ := x_pop_of _ _ _ _ h
  obtain ⟨t, h1, hg0, h2⟩ := hF _ r X h5
  subst h3
  subst h4
  exact ⟨t, h1, hg0, fun Y hY => x_pop_to as r acc _ (h2 Y hY)⟩
set_option maxHeartbeats 4000000 in
theorem x_pick {rc : Nat → Nat} {vt : Nat → Nat × Nat × Nat × Nat} {scr : Nat × (Nat → Int32)} {tx : Nat → List Int32} {ins : Instr} {a b c : Nat} {v : Int32} {u : Int64} {pc : Nat} {L : xL} {st : List Value} {w : xW} :
    x_PK w (fun X => x_go X rc vt scr tx ins a b c v u pc L st w) := by
  unfold x_go
  cases ins
  case if_acmp cd off =>
    cases cd
    · exact xk_0
    · exact xk_pR fun _ _ => xk_pR fun _ _ => xk_and (xk_br (xk_k x_gr_rf) (xk_k x_gr_rf))
  all_goals first | exact xk_0 | exact xk_k x_gr_rf | skip
  all_goals dsimp only [x_step]
  all_goals repeat' first | exact xk_k x_gr_rf | exact xk_c | exact xk_r | exact xk_k ⟨Nat.le_refl _, Nat.le_refl _, Nat.le_refl _⟩ | exact xk_k ⟨Nat.le_succ _, Nat.le_succ _, Nat.le_add_right _ _⟩ | exact xk_t ⟨Nat.le_refl _, Nat.le_succ _, Nat.le_add_right _ _⟩ | refine xk_and ?_ | refine xk_br ?_ ?_ | refine xk_sw ?_ ?_ | refine xk_if ?_ | refine xk_nil ?_ | refine xk_som fun _ => ?_ | refine xk_pI fun _ _ => ?_ | refine xk_pL fun _ _ => ?_ | refine xk_pR fun _ _ => ?_ | refine xk_pV fun _ _ => ?_ | refine xk_gI fun _ => ?_ | refine xk_gL fun _ => ?_ | refine xk_gR fun _ => ?_ | refine xk_pop fun _ _ => ?_
/-- a program: rows of a method, its depth, its locals, the class of its receiver, tables of receivers, texts, handlers -/
abbrev xP : Type := (Nat → List xR) × (Nat → Nat) × (Nat → Nat) × (Nat → Nat) × (Nat → Nat × Nat × Nat × Nat) × (Nat → List Int32) × (Nat → Nat → Nat → Option (Nat × Nat))
def x_lay : List Value → xL
  | [] => []
  | v :: r => match x_two (some v) with
    | true => some v :: none :: x_lay r
    | false => some v :: x_lay r
def x_pad : Nat → xL → xL
  | 0, _ => []
  | n + 1, [] => none :: x_pad n []
  | n + 1, a :: t => a :: x_pad n t
/-- a step of method M at pc, in a program -/
def x_one (P : xP) (scr : Nat × (Nat → Int32)) (X : xT → Prop) (M pc : Nat) (L : xL) (st : List Value) (w : xW) : Prop := x_som (x_find (P.1 M) pc) fun r => x_go X P.2.2.2.1 P.2.2.2.2.1 scr P.2.2.2.2.2.1 r.2.1 r.2.2.2.1 r.2.2.2.2.1 r.2.2.2.2.2.1 r.2.2.2.2.2.2.1 r.2.2.2.2.2.2.2 pc L st w
theorem x_one_pk {P : xP} {scr : Nat × (Nat → Int32)} {M pc : Nat} {L : xL} {st : List Value} {w : xW} : x_PK w (fun X => x_one P scr X M pc L st w) := xk_som fun _ => x_pick
/-- what is asked behind a call -/
def x_back (P : xP) (M pc pc' : Nat) (L : xL) (st : List Value) (k : Nat → xL → List Value → xW → Prop) : xO → xW → Prop := fun o w => match o with
  | .inl v => k pc' L (v.toList ++ st) w
  | .inr n => x_som (P.2.2.2.2.2.2 M pc n) fun h => k h.1 (x_set (x_st1 L h.2 .null) h.2 none) [] w
/-- the aim of a step, when the rest of the run is given by k (this method) and f (another one) -/
def x_aim (P : xP) (M pc : Nat) (Q : xO → xW → Prop) (k : Nat → xL → List Value → xW → Prop) (f : Nat → xL → xW → (xO → xW → Prop) → Prop) : xT → Prop := fun t => match t with
  | .inl (pc', L, st, w) => k pc' L st w
  | .inr (.inl (M', as, pc', L, st, w)) => x_if (Nat.blt (P.2.1 M') (P.2.1 M) && Nat.ble (x_cats as) (P.2.2.1 M')) (f M' (x_pad (P.2.2.1 M') (x_lay as)) w (x_back P M pc pc' L st k))
  | .inr (.inr (.inl (v, w))) => Q (.inl v) w
  | .inr (.inr (.inr (n, w))) => Q (.inr n) w
def x_wp (P : xP) (scr : Nat × (Nat → Int32)) : Nat → Nat → Nat → xL → List Value → xW → (xO → xW → Prop) → Prop
  | 0, _, _, _, _, _, _ => False
  | n + 1, M, pc, L, st, w, Q => x_one P scr (x_aim P M pc Q (fun pc L st w => x_wp P scr n M pc L st w Q) (fun M' L w Q' => x_wp P scr n M' 0 L [] w Q')) M pc L st w
theorem x_back_mono {P : xP} {M pc pc' : Nat} {L : xL} {st : List Value} {k k' : Nat → xL → List Value → xW → Prop} (hk : ∀ pc L st w, k pc L st w → k' pc L st w) : ∀ o w, x_back P M pc pc' L st k o w → x_back P M pc pc' L st k' o w := by
  intro o w h
  cases o with
  | inl v => exact hk _ _ _ _ h
  | inr n =>
    obtain ⟨a, e, h⟩ := x_som_of h
    show x_som _ _
    rw [e]
    exact hk _ _ _ _ h
theorem x_wp_mono {P : xP} {scr : Nat × (Nat → Int32)} : ∀ (n M pc : Nat) (L : xL) (st : List Value) (w : xW) (Q Q' : xO → xW → Prop), (∀ o w, Q o w → Q' o w) → x_wp P scr n M pc L st w Q → x_wp P scr n M pc L st w Q' := by
  intro n
  induction n with
  | zero => intro M pc L st w Q Q' hQ h; exact h.elim
  | succ n ih =>
    intro M pc L st w Q Q' hQ h
    obtain ⟨t, h1, hg, h2⟩ := x_one_pk _ h
    refine h2 _ ?_
    rcases t with ⟨pc', L', st', w'⟩ | ⟨M', as, pc', L', st', w'⟩ | ⟨v, w'⟩ | ⟨k, w'⟩
    · exact ih _ _ _ _ _ _ _ hQ h1
    · obtain ⟨hb, h1⟩ := x_if_of h1
      show x_if _ _
      rw [hb]
      exact ih _ _ _ _ _ _ _ (x_back_mono fun _ _ _ _ => ih _ _ _ _ _ _ _ hQ) h1
    · exact hQ _ _ h1
    · exact hQ _ _ h1
theorem x_wp_succ {P : xP} {scr : Nat × (Nat → Int32)} : ∀ (n M pc : Nat) (L : xL) (st : List Value) (w : xW) (Q : xO → xW → Prop), x_wp P scr n M pc L st w Q → x_wp P scr (n + 1) M pc L st w Q := by
  intro n
  induction n with
  | zero => intro M pc L st w Q h; exact h.elim
  | succ n ih =>
    intro M pc L st w Q h
    obtain ⟨t, h1, hg, h2⟩ := x_one_pk _ h
    refine h2 _ ?_
    rcases t with ⟨pc', L', st', w'⟩ | ⟨M', as, pc', L', st', w'⟩ | ⟨v, w'⟩ | ⟨k, w'⟩
    · exact ih _ _ _ _ _ _ h1
    · obtain ⟨hb, h1⟩ := x_if_of h1
      show x_if _ _
      rw [hb]
      exact x_wp_mono _ _ _ _ _ _ _ _ (x_back_mono fun _ _ _ _ => ih _ _ _ _ _ _) (ih _ _ _ _ _ _ h1)
    · exact h1
    · exact h1
theorem x_wp_le {P : xP} {scr : Nat × (Nat → Int32)} {n n' M pc : Nat} {L : xL} {st : List Value} {w : xW} {Q : xO → xW → Prop} (hn : n ≤ n') (h : x_wp P scr n M pc L st w Q) : x_wp P scr n' M pc L st w Q := by
  induction hn with
  | refl => exact h
  | step _ ih => exact x_wp_succ _ _ _ _ _ _ _ ih
/-- it ends in one way, and that way is as asked -/
theorem x_wp_det {P : xP} {scr : Nat × (Nat → Int32)} : ∀ (n M pc : Nat) (L : xL) (st : List Value) (w : xW) (Q : xO → xW → Prop), x_wp P scr n M pc L st w Q →
    ∃ o w', Q o w' ∧ x_wp P scr n M pc L st w (fun o2 w2 => o2 = o ∧ w2 = w') := by
  intro n
  induction n with
  | zero => intro M pc L st w Q h; exact h.elim
  | succ n ih =>
    intro M pc L st w Q h
    obtain ⟨t, h1, hg, h2⟩ := x_one_pk _ h
    rcases t with ⟨pc', L', st', w'⟩ | ⟨M', as, pc', L', st', w'⟩ | ⟨v, w'⟩ | ⟨k, w'⟩
    · obtain ⟨o, w2, q1, q2⟩ := ih _ _ _ _ _ _ h1
      exact ⟨o, w2, q1, h2 _ q2⟩
    · obtain ⟨hb, h1⟩ := x_if_of h1
      obtain ⟨o, w2, q1, q2⟩ := ih _ _ _ _ _ _ h1
      cases o with
      | inl v =>
        obtain ⟨o3, w3, r1, r2⟩ := ih _ _ _ _ _ _ q1
        refine ⟨o3, w3, r1, h2 _ ?_⟩
        show x_if _ _
        rw [hb]
        refine x_wp_mono _ _ _ _ _ _ _ _ (fun o w ho => ?_) q2
        obtain ⟨rfl, rfl⟩ := ho
        exact r2
      | inr k =>
        obtain ⟨a, ea, q1⟩ := x_som_of q1
        obtain ⟨o3, w3, r1, r2⟩ := ih _ _ _ _ _ _ q1
        refine ⟨o3, w3, r1, h2 _ ?_⟩
        show x_if _ _
        rw [hb]
        refine x_wp_mono _ _ _ _ _ _ _ _ (fun o w ho => ?_) q2
        obtain ⟨rfl, rfl⟩ := ho
        show x_som _ _
        rw [ea]
        exact r2
    · exact ⟨_, _, h1, h2 _ ⟨rfl, rfl⟩⟩
    · exact ⟨_, _, h1, h2 _ ⟨rfl, rfl⟩⟩
theorem x_wp_gr {P : xP} {scr : Nat × (Nat → Int32)} {w9 : xW} : ∀ (n M pc : Nat) (L : xL) (st : List Value) (w : xW) (Q : xO → xW → Prop), (∀ o w, Q o w → x_gr w w9) → x_wp P scr n M pc L st w Q → x_gr w w9 := by
  intro n
  induction n with
  | zero => intro M pc L st w Q hQ h; exact h.elim
  | succ n ih =>
    intro M pc L st w Q hQ h
    obtain ⟨t, h1, hg, h2⟩ := x_one_pk _ h
    refine x_gr_tr hg ?_
    rcases t with ⟨pc', L', st', w'⟩ | ⟨M', as, pc', L', st', w'⟩ | ⟨v, w'⟩ | ⟨k, w'⟩
    · exact ih _ _ _ _ _ _ hQ h1
    · obtain ⟨hb, h1⟩ := x_if_of h1
      refine ih _ _ _ _ _ _ (fun o w ho => ?_) h1
      cases o with
      | inl v => exact ih _ _ _ _ _ _ hQ ho
      | inr k =>
        obtain ⟨a, ea, q1⟩ := x_som_of ho
        exact ih _ _ _ _ _ _ hQ q1
    · exact hQ _ _ h1
    · exact hQ _ _ h1
/-- a run of method M from pc comes to an end as asked -/
def x_R (P : xP) (scr : Nat × (Nat → Int32)) (M pc : Nat) (L : xL) (st : List Value) (w : xW) (Q : xO → xW → Prop) : Prop := ∃ n, x_wp P scr n M pc L st w Q
theorem x_R_mono {P : xP} {scr : Nat × (Nat → Int32)} {M pc : Nat} {L : xL} {st : List Value} {w : xW} {Q Q' : xO → xW → Prop} (h : x_R P scr M pc L st w Q) (hQ : ∀ o w, Q o w → Q' o w) : x_R P scr M pc L st w Q' := by
  obtain ⟨n, h⟩ := h
  exact ⟨n, x_wp_mono _ _ _ _ _ _ _ _ hQ h⟩
def x_aimR (P : xP) (scr : Nat × (Nat → Int32)) (M pc : Nat) (Q : xO → xW → Prop) : xT → Prop := x_aim P M pc Q (fun pc L st w => x_R P scr M pc L st w Q) (fun M' L w Q' => x_R P scr M' 0 L [] w Q')
theorem x_R_step {P : xP} {scr : Nat × (Nat → Int32)} {M pc : Nat} {L : xL} {st : List Value} {w : xW} {Q : xO → xW → Prop} (h : x_one P scr (x_aimR P scr M pc Q) M pc L st w) : x_R P scr M pc L st w Q := by
  obtain ⟨t, h1, hg, h2⟩ := x_one_pk _ h
  rcases t with ⟨pc', L', st', w'⟩ | ⟨M', as, pc', L', st', w'⟩ | ⟨v, w'⟩ | ⟨k, w'⟩
  · obtain ⟨n, h1⟩ := h1
    exact ⟨n + 1, h2 _ h1⟩
  · obtain ⟨hb, n, h1⟩ := x_if_of h1
    obtain ⟨o, w2, q1, q2⟩ := x_wp_det _ _ _ _ _ _ _ h1
    cases o with
    | inl v =>
      obtain ⟨n2, r2⟩ := q1
      refine ⟨max n n2 + 1, h2 _ ?_⟩
      show x_if _ _
      rw [hb]
      refine x_wp_mono _ _ _ _ _ _ _ _ (fun o w ho => ?_) (x_wp_le (Nat.le_max_left n n2) q2)
      obtain ⟨rfl, rfl⟩ := ho
      exact x_wp_le (Nat.le_max_right n n2) r2
    | inr k =>
      obtain ⟨a, ea, n2, r2⟩ := x_som_of q1
      refine ⟨max n n2 + 1, h2 _ ?_⟩
      show x_if _ _
      rw [hb]
      refine x_wp_mono _ _ _ _ _ _ _ _ (fun o w ho => ?_) (x_wp_le (Nat.le_max_left n n2) q2)
      obtain ⟨rfl, rfl⟩ := ho
      show x_som _ _
      rw [ea]
      exact x_wp_le (Nat.le_max_right n n2) r2
  · exact ⟨1, h2 _ h1⟩
  · exact ⟨1, h2 _ h1⟩
/-- some steps at once: f of them, or until a place of the list is come to -/
def x_mem (pc : Nat) : List Nat → Bool
  | [] => false
  | a :: t => match Nat.beq a pc with
    | true => true
    | false => x_mem pc t
def x_ch (b : Bool) (A B : Prop) : Prop := match b with
  | true => A
  | false => B
def x_ev (P : xP) (scr : Nat × (Nat → Int32)) (M : Nat) (Q : xO → xW → Prop) (stops : List Nat) : Nat → Nat → xL → List Value → xW → Prop
  | 0, pc, L, st, w => x_R P scr M pc L st w Q
  | f + 1, pc, L, st, w => x_one P scr (x_aim P M pc Q (fun pc' L' st' w' => x_ch (x_mem pc' stops) (x_R P scr M pc' L' st' w' Q) (x_ev P scr M Q stops f pc' L' st' w')) (fun M' L' w' Q' => x_R P scr M' 0 L' [] w' Q')) M pc L st w
theorem x_ev_R {P : xP} {scr : Nat × (Nat → Int32)} {M : Nat} {Q : xO → xW → Prop} (stops : List Nat) : ∀ (f : Nat) {pc : Nat} {L : xL} {st : List Value} {w : xW}, x_ev P scr M Q stops f pc L st w → x_R P scr M pc L st w Q := by
  intro f
  induction f with
  | zero => intro pc L st w h; exact h
  | succ f ih =>
    intro pc L st w h
    have hk : ∀ pc' L' st' w', x_ch (x_mem pc' stops) (x_R P scr M pc' L' st' w' Q) (x_ev P scr M Q stops f pc' L' st' w') → x_R P scr M pc' L' st' w' Q := by
      intro pc' L' st' w' h
      cases hm : x_mem pc' stops with
      | true => rw [hm] at h; exact h
      | false => rw [hm] at h; exact ih h
    obtain ⟨t, h1, hg, h2⟩ := x_one_pk _ h
    refine x_R_step (h2 _ ?_)
    rcases t with ⟨pc', L', st', w'⟩ | ⟨M', as, pc', L', st', w'⟩ | ⟨v, w'⟩ | ⟨k, w'⟩
    · exact hk _ _ _ _ h1
    · obtain ⟨hb, h1⟩ := x_if_of h1
      show x_if _ _
      rw [hb]
      exact x_R_mono h1 (x_back_mono hk)
    · exact h1
    · exact h1
end
section
/-! A world of numbered cells, and the heap: ad gives each cell its address. -/
def x_cv (ad : Nat → Nat) (v : Value) : Value := match v with
  | .ref i => .ref (ad i)
  | v => v
def x_rv (ad : Nat → Nat) (i : Nat) : Value := match i with
  | 0 => .null
  | j + 1 => .ref (ad (j + 1))
def x_fv (fk : Nat → Nat → Nat) (ad : Nat → Nat) (w : xW) (o ci k : Nat) : Value := match fk ci k with
  | 0 => .int (x_i w o k)
  | 1 => .long (x_j w o k)
  | _ + 2 => x_rv ad (x_r w o k)
def x_ce (cA : Nat → ClassId) (nf : Nat → Nat) (fk : Nat → Nat → Nat) (ad : Nat → Nat) (w : xW) (o : Nat) : va_E := match x_k w o with
  | 0 => .inl (cA 0, x_l w o, .inl (x_i w o))
  | 1 => .inl (cA 1, x_l w o, .inl (x_i w o))
  | 2 => .inl (cA 2, x_l w o, .inr (.inl (x_j w o)))
  | ci + 3 => .inr (ci, (List.range (nf ci)).map (x_fv fk ad w o ci))
def x_wd (cA : Nat → ClassId) (nf : Nat → Nat) (fk : Nat → Nat → Nat) (ad : Nat → Nat) (w : xW) : va_W := (List.range (x_N w)).map fun i => (ad i, x_ce cA nf fk ad w i)
/-- a reference within N cells, or to something that is no cell of the world -/
def x_wf (N : Nat) (v : Value) : Prop := match v with
  | .ref i => i < N ∨ x_sc ≤ i
  | _ => True
/-- the same addresses below N, and of what is no cell of the world -/
def x_ext (N : Nat) (ad ad' : Nat → Nat) : Prop := ∀ i, i < N ∨ x_sc ≤ i → ad' i = ad i
theorem x_ext_rf {N : Nat} {ad : Nat → Nat} : x_ext N ad ad := fun _ _ => rfl
theorem x_ext_tr {N N' : Nat} {a b c : Nat → Nat} (hN : N ≤ N') (h : x_ext N a b) (h2 : x_ext N' b c) : x_ext N a c := fun i hi => by
  rw [h2 i (by rcases hi with hi | hi <;> omega), h i hi]
theorem x_ext_le {N N' : Nat} {a b : Nat → Nat} (hN : N ≤ N') (h : x_ext N' a b) : x_ext N a b := fun i hi => h i (by rcases hi with hi | hi <;> omega)
theorem x_wf_le {N N' : Nat} (hN : N ≤ N') {v : Value} (h : x_wf N v) : x_wf N' v := by
  cases v <;> first | trivial | skip
  rcases h with h | h
  · exact Or.inl (Nat.lt_of_lt_of_le h hN)
  · exact Or.inr h
theorem x_cat_cv (ad : Nat → Nat) (v : Value) : (x_cv ad v).category = v.category := by cases v <;> rfl
theorem x_cats_cv (ad : Nat → Nat) (st : List Value) : ((st.map (x_cv ad)).map fun v => v.category).sum = x_cats st := by
  induction st with
  | nil => rfl
  | cons v r ih =>
    simp only [List.map_cons, List.sum_cons, ih, x_cat_cv]
    cases v <;> rfl
theorem x_wd_len {cA : Nat → ClassId} {nf : Nat → Nat} {fk : Nat → Nat → Nat} {ad : Nat → Nat} {w : xW} : (x_wd cA nf fk ad w).length = x_N w := by simp [x_wd]
theorem x_wd_at {cA : Nat → ClassId} {nf : Nat → Nat} {fk : Nat → Nat → Nat} {ad : Nat → Nat} {w : xW} {o : Nat} (ho : o < x_N w) : (x_wd cA nf fk ad w)[o]? = some (ad o, x_ce cA nf fk ad w o) := by
  simp [x_wd, ho]
theorem x_wd_in {cA : Nat → ClassId} {nf : Nat → Nat} {fk : Nat → Nat → Nat} {ad : Nat → Nat} {w : xW} {o : Nat} {q : Nat × va_E} (h : (x_wd cA nf fk ad w)[o]? = some q) : o < x_N w ∧ q = (ad o, x_ce cA nf fk ad w o) := by
  have h1 : o < x_N w := by
    have := (List.getElem?_eq_some_iff.mp h).1
    rwa [x_wd_len] at this
  rw [x_wd_at h1] at h
  exact ⟨h1, (Option.some.inj h).symm⟩
theorem x_ce_eq {cA : Nat → ClassId} {nf : Nat → Nat} {fk : Nat → Nat → Nat} {ad : Nat → Nat} {w w' : xW} {o : Nat} (hk : x_k w' o = x_k w o) (hl : x_l w' o = x_l w o) (hi : x_i w' o = x_i w o) (hj : x_j w' o = x_j w o) (hr : x_r w' o = x_r w o) : x_ce cA nf fk ad w' o = x_ce cA nf fk ad w o := by
  have hf : ∀ ci, x_fv fk ad w' o ci = x_fv fk ad w o ci := by
    intro ci; funext k
    simp only [x_fv, hi, hj, hr]
  simp only [x_ce, hk, hl, hi, hj, hf]
theorem x_wd_set {cA : Nat → ClassId} {nf : Nat → Nat} {fk : Nat → Nat → Nat} {ad : Nat → Nat} {w w' : xW} {o : Nat} {e : va_E} (hN : x_N w' = x_N w) (he : x_ce cA nf fk ad w' o = e) (hne : ∀ i, ¬ i = o → x_ce cA nf fk ad w' i = x_ce cA nf fk ad w i) : (x_wd cA nf fk ad w).set o (ad o, e) = x_wd cA nf fk ad w' := by
  apply List.ext_getElem?
  intro i
  rw [List.getElem?_set, x_wd_len]
  by_cases hi : i < x_N w
  · rw [x_wd_at (w := w') (by rw [hN]; exact hi), x_wd_at hi]
    by_cases h : o = i
    · subst h
      rw [if_pos rfl, if_pos hi, he]
    · rw [if_neg h, hne i (fun q => h q.symm)]
  · have h1 : (x_wd cA nf fk ad w')[i]? = none := by rw [List.getElem?_eq_none_iff, x_wd_len, hN]; omega
    have h2 : (x_wd cA nf fk ad w)[i]? = none := by rw [List.getElem?_eq_none_iff, x_wd_len]; omega
    rw [h1, h2]
    by_cases h : o = i
    · rw [if_pos h, if_neg (by omega)]
    · rw [if_neg h]
theorem x_rv_ext {N : Nat} {ad ad' : Nat → Nat} (h : x_ext N ad ad') {i : Nat} (hi : i = 0 ∨ i < N) : x_rv ad' i = x_rv ad i := by
  cases i with
  | zero => rfl
  | succ j =>
    show Value.ref (ad' (j + 1)) = Value.ref (ad (j + 1))
    rw [h (j + 1) (Or.inl (by rcases hi with hi | hi <;> omega))]
theorem x_cv_ext {N : Nat} {ad ad' : Nat → Nat} (h : x_ext N ad ad') {v : Value} (hv : x_wf N v) : x_cv ad' v = x_cv ad v := by
  cases v with
  | ref i =>
    show Value.ref (ad' i) = Value.ref (ad i)
    rw [h i hv]
  | _ => rfl
theorem x_ce_ext {cA : Nat → ClassId} {nf : Nat → Nat} {fk : Nat → Nat → Nat} {ad ad' : Nat → Nat} {w : xW} {o : Nat} (h : x_ext (x_N w) ad ad') (hr : ∀ o k, x_r w o k = 0 ∨ x_r w o k < x_N w) : x_ce cA nf fk ad' w o = x_ce cA nf fk ad w o := by
  have hf : ∀ ci, x_fv fk ad' w o ci = x_fv fk ad w o ci := by
    intro ci; funext k
    simp only [x_fv]
    split
    · rfl
    · rfl
    · exact x_rv_ext h (hr o k)
  simp only [x_ce, hf]
/-- one cell more -/
theorem x_wd_push {cA : Nat → ClassId} {nf : Nat → Nat} {fk : Nat → Nat → Nat} {ad ad' : Nat → Nat} {w : xW} {kind len n q : Nat} {e : va_E} (h : x_ext (x_N w) ad ad') (hq : ad' (x_N w) = q) (hr : ∀ o k, x_r w o k = 0 ∨ x_r w o k < x_N w) (he : x_ce cA nf fk ad' (x_new w kind len n) (x_N w) = e) :
    x_wd cA nf fk ad w ++ [(q, e)] = x_wd cA nf fk ad' (x_new w kind len n) := by
  have h0 : x_wd cA nf fk ad' (x_new w kind len n) = (List.range (x_N w + 1)).map fun i => (ad' i, x_ce cA nf fk ad' (x_new w kind len n) i) := rfl
  rw [h0, List.range_succ, List.map_append, List.map_singleton, he, hq]
  congr 1
  unfold x_wd
  apply List.map_congr_left
  intro i hi
  have hi := List.mem_range.mp hi
  have hne : ¬ i = x_N w := by omega
  rw [h i (Or.inl hi), x_ce_eq (w := w) (w' := x_new w kind len n) (by simp [x_new, x_k, x_row, hne]) (by simp [x_new, x_l, x_row, hne]) (by simp [x_new, x_i, x_row, hne]) (by simp [x_new, x_j, x_row, hne]) (by simp [x_new, x_r, x_row, hne]), x_ce_ext h hr]
/-- the heap holds the world, apart, in A; fields name cells of the world; no cell lies behind the last -/
def x_rep (cl : List vw_C) (D : va_G) (cA : Nat → ClassId) (nf : Nat → Nat) (fk : Nat → Nat → Nat) (A : Nat → Prop) (ad : Nat → Nat) (w : xW) (H : Heap) : Prop :=
  va_P D cl (x_wd cA nf fk ad w) H ∧ va_D A (x_wd cA nf fk ad w) ∧ (∀ o, x_N w ≤ o → x_k w o = 99) ∧ ∀ o k, x_r w o k = 0 ∨ x_r w o k < x_N w
/-- the locals -/
def x_lh (ad : Nat → Nat) (nL : Nat) (ls : Array Slot) (L : xL) : Prop := ls.size = nL ∧ lv_wf ls ∧ ∀ i v, x_at L i = some v → ls[i]? = some (.val (x_cv ad v))
def x_as (ad : Nat → Nat) : Nat → xL → List (Nat × Value)
  | _, [] => []
  | i, some v :: t => (i, x_cv ad v) :: x_as ad (i + 1) t
  | i, none :: t => x_as ad (i + 1) t
theorem x_as_in {ad : Nat → Nat} : ∀ (L : xL) (i : Nat) (q : Nat × Value), q ∈ x_as ad i L ↔ ∃ j v, x_at L j = some v ∧ q = (i + j, x_cv ad v)
  | [], i, q => by simp [x_as, x_at]
  | none :: t, i, q => by
    rw [x_as, x_as_in t (i + 1) q]
    constructor
    · rintro ⟨j, v, h1, h2⟩
      exact ⟨j + 1, v, h1, by rw [h2]; congr 1; omega⟩
    · rintro ⟨j, v, h1, h2⟩
      cases j with
      | zero => cases h1
      | succ j => exact ⟨j, v, h1, by rw [h2]; congr 1; omega⟩
  | some a :: t, i, q => by
    rw [x_as, List.mem_cons, x_as_in t (i + 1) q]
    constructor
    · rintro (h | ⟨j, v, h1, h2⟩)
      · exact ⟨0, a, rfl, h⟩
      · exact ⟨j + 1, v, h1, by rw [h2]; congr 1; omega⟩
    · rintro ⟨j, v, h1, h2⟩
      cases j with
      | zero => cases h1; exact Or.inl h2
      | succ j => exact Or.inr ⟨j, v, h1, by rw [h2]; congr 1; omega⟩
theorem x_lh_as {ad : Nat → Nat} {nL : Nat} {ls : Array Slot} {L : xL} (h : x_lh ad nL ls L) : lv_has ls nL (x_as ad 0 L) := by
  refine ⟨h.1, h.2.1, fun q hq => ?_⟩
  obtain ⟨j, v, h1, rfl⟩ := (x_as_in L 0 q).mp hq
  rw [Nat.zero_add]
  exact h.2.2 j v h1
theorem x_at_set : ∀ (L : xL) (i j : Nat) (a : Option Value) (v : Value), x_at (x_set L i a) j = some v → (j = i ∧ a = some v) ∨ (¬ j = i ∧ x_at L j = some v)
  | [], i, j, a, v, h => by simp [x_set, x_at] at h
  | b :: t, 0, 0, a, v, h => Or.inl ⟨rfl, h⟩
  | b :: t, 0, j + 1, a, v, h => Or.inr ⟨by omega, h⟩
  | b :: t, i + 1, 0, a, v, h => Or.inr ⟨by omega, h⟩
  | b :: t, i + 1, j + 1, a, v, h => by
    rcases x_at_set t i j a v h with ⟨h1, h2⟩ | ⟨h1, h2⟩
    · exact Or.inl ⟨by omega, h2⟩
    · exact Or.inr ⟨by omega, h2⟩
theorem x_two_cat {v : Value} : x_two (some v) = true ↔ v.category = 2 := by cases v <;> simp [x_two, Value.category]
theorem x_at_cl {L : xL} {i j : Nat} {v : Value} (h : x_at (x_cl L i) j = some v) : x_at L j = some v ∧ ¬ (j = i ∧ v.category = 2) := by
  unfold x_cl at h
  cases ht : x_two (x_at L i) with
  | true =>
    rw [ht] at h
    rcases x_at_set _ _ _ _ _ h with ⟨-, h2⟩ | ⟨h1, h2⟩
    · cases h2
    · exact ⟨h2, fun q => h1 q.1⟩
  | false =>
    rw [ht] at h
    refine ⟨h, fun q => ?_⟩
    obtain ⟨rfl, q2⟩ := q
    have h3 : x_at L j = some v := h
    rw [h3, x_two_cat.mpr q2] at ht
    cases ht
theorem x_at_st1 {L : xL} {i j : Nat} {v u : Value} (h : x_at (x_st1 L i v) j = some u) : (j = i ∧ u = v) ∨ (¬ j = i ∧ x_at L j = some u ∧ ¬ (j + 1 = i ∧ u.category = 2)) := by
  cases i with
  | zero =>
    rcases x_at_set _ _ _ _ _ h with ⟨h1, h2⟩ | ⟨h1, h2⟩
    · exact Or.inl ⟨h1, (Option.some.inj h2).symm⟩
    · exact Or.inr ⟨h1, h2, fun q => by omega⟩
  | succ i =>
    rcases x_at_set _ _ _ _ _ h with ⟨h1, h2⟩ | ⟨h1, h2⟩
    · exact Or.inl ⟨h1, (Option.some.inj h2).symm⟩
    · obtain ⟨h3, h4⟩ := x_at_cl h2
      exact Or.inr ⟨h1, h3, fun q => h4 ⟨by omega, q.2⟩⟩
theorem x_at_st2 {L : xL} {i j : Nat} {v u : Value} (h : x_at (x_st2 L i v) j = some u) : (j = i ∧ u = v) ∨ (¬ j = i ∧ ¬ j = i + 1 ∧ x_at L j = some u ∧ ¬ (j + 1 = i ∧ u.category = 2)) := by
  rcases x_at_set _ _ _ _ _ h with ⟨h1, h2⟩ | ⟨h1, h2⟩
  · cases h2
  · rcases x_at_st1 h2 with ⟨h3, h4⟩ | ⟨h3, h4, h5⟩
    · exact Or.inl ⟨h3, h4⟩
    · exact Or.inr ⟨h3, h1, h4, h5⟩
theorem x_lh_st1 {ad : Nat → Nat} {nL : Nat} {ls' : Array Slot} {L : xL} {i : Nat} {v : Value} (h' : lv_has ls' nL ((i, x_cv ad v) :: (x_as ad 0 L).filter (fun q => !(q.1 == i) && !(q.1 + 1 == i && q.2.category == 2)))) : x_lh ad nL ls' (x_st1 L i v) := by
  refine ⟨h'.1, h'.2.1, fun j u hu => ?_⟩
  rcases x_at_st1 hu with ⟨rfl, rfl⟩ | ⟨h1, h2, h3⟩
  · exact h'.2.2 (j, x_cv ad u) List.mem_cons_self
  · refine h'.2.2 (j, x_cv ad u) (List.mem_cons_of_mem _ (List.mem_filter.mpr ⟨(x_as_in L 0 _).mpr ⟨j, u, h2, by rw [Nat.zero_add]⟩, ?_⟩))
    simp only [x_cat_cv]
    simp only [Bool.and_eq_true, Bool.not_eq_true', beq_eq_false_iff_ne, ne_eq, Bool.and_eq_false_iff]
    refine ⟨h1, ?_⟩
    by_cases hj : j + 1 = i
    · exact Or.inr fun q => h3 ⟨hj, q⟩
    · exact Or.inl hj
theorem x_lh_st2 {ad : Nat → Nat} {nL : Nat} {ls' : Array Slot} {L : xL} {i : Nat} {v : Value} (h' : lv_has ls' nL ((i, x_cv ad v) :: (x_as ad 0 L).filter (fun q => !(q.1 == i) && (!(q.1 == i + 1) && !(q.1 + 1 == i && q.2.category == 2))))) : x_lh ad nL ls' (x_st2 L i v) := by
  refine ⟨h'.1, h'.2.1, fun j u hu => ?_⟩
  rcases x_at_st2 hu with ⟨rfl, rfl⟩ | ⟨h1, h0, h2, h3⟩
  · exact h'.2.2 (j, x_cv ad u) List.mem_cons_self
  · refine h'.2.2 (j, x_cv ad u) (List.mem_cons_of_mem _ (List.mem_filter.mpr ⟨(x_as_in L 0 _).mpr ⟨j, u, h2, by rw [Nat.zero_add]⟩, ?_⟩))
    simp only [x_cat_cv]
    simp only [Bool.and_eq_true, Bool.not_eq_true', beq_eq_false_iff_ne, ne_eq, Bool.and_eq_false_iff]
    refine ⟨h1, h0, ?_⟩
    by_cases hj : j + 1 = i
    · exact Or.inr fun q => h3 ⟨hj, q⟩
    · exact Or.inl hj
end
section
/-! Each step of the small machine is a step of the JVM. -/
def x_tys (cA : Nat → ClassId) : List (ClassId × FieldType) := [(cA 0, .int), (cA 1, .boolean), (cA 2, .long)]
/-- a class of the tables: ct a, with the types of its fields -/
def x_cf (cl : List vw_C) (ct : Nat → vw_C) (fk : Nat → Nat → Nat) (ty : Nat → Nat → FieldType) (Ts : List Cond) (a : Nat) : Prop :=
  cl[a]? = some (ct a) ∧ a < 90 ∧ (∀ w ∈ u_ws (ct a).1 (ct a).2.1 (ct a).2.2, w ∈ Ts) ∧ (∀ k, k < (ct a).2.2 → parseFieldDescriptor ((ct a).2.1 k).2.2.1 = some (ty a k)) ∧
  (∀ i, i < (ct a).2.2 → ∀ j, j < (ct a).2.2 → i ≠ j → ((ct a).2.1 i).2.1 ≠ ((ct a).2.1 j).2.1) ∧ ∀ k, k < (ct a).2.2 → (fk a k = 0 ∧ (ty a k = .int ∨ ty a k = .boolean)) ∨ (fk a k = 1 ∧ ty a k = .long) ∨ (fk a k = 2 ∧ ((∃ C, ty a k = .object C) ∨ ∃ t, ty a k = .array t))
/-- a link to field b of class a -/
def x_fl (ct : Nat → vw_C) (Ts : List Cond) (own : String) (idx a b : Nat) : Prop :=
  b < (ct a).2.2 ∧ ∃ ref, Cond.fieldLink own idx ref ((ct a).2.1 b).2.1 ((ct a).2.1 b).2.2.1 ∈ Ts ∧ (((ct a).2.1 b).1 = ref ∨ Cond.sameField ref ((ct a).2.1 b).1 ((ct a).2.1 b).2.1 ((ct a).2.1 b).2.2.1 ∈ Ts)
theorem x_fv_at {ct : Nat → vw_C} {fk : Nat → Nat → Nat} {ad : Nat → Nat} {w : xW} {o a b : Nat} (hb : b < (ct a).2.2) : ((List.range (ct a).2.2).map (x_fv fk ad w o a))[b]? = some (x_fv fk ad w o a b) := by
  simp [hb]
theorem x_fv_set {n : Nat} {fk : Nat → Nat → Nat} {ad : Nat → Nat} {w w' : xW} {o a b : Nat} {v : Value} (hv : x_fv fk ad w' o a b = v) (hne : ∀ k, ¬ k = b → x_fv fk ad w' o a k = x_fv fk ad w o a k) : ((List.range n).map (x_fv fk ad w o a)).set b v = (List.range n).map (x_fv fk ad w' o a) := by
  apply List.ext_getElem?
  intro i
  rw [List.getElem?_set]
  simp only [List.length_map, List.length_range, List.getElem?_map]
  by_cases hi : i < n
  · rw [List.getElem?_range hi]
    by_cases h : b = i
    · subst h
      rw [if_pos rfl, if_pos hi]
      simp [hv]
    · rw [if_neg h]
      simp [hne i (fun q => h q.symm)]
  · have h1 : (List.range n)[i]? = none := by simp; omega
    rw [h1]
    by_cases h : b = i
    · subst h
      rw [if_pos rfl, if_neg hi]
      rfl
    · rw [if_neg h]
      rfl
/-- the kind of a cell tells what it holds -/
theorem x_ce_obj {cA : Nat → ClassId} {nf : Nat → Nat} {fk : Nat → Nat → Nat} {ad : Nat → Nat} {w : xW} {o a : Nat} (h : x_k w o = a + 3) : x_ce cA nf fk ad w o = .inr (a, (List.range (nf a)).map (x_fv fk ad w o a)) := by
  unfold x_ce; rw [h]
theorem x_ce_0 {cA : Nat → ClassId} {nf : Nat → Nat} {fk : Nat → Nat → Nat} {ad : Nat → Nat} {w : xW} {o : Nat} (h : x_k w o = 0) : x_ce cA nf fk ad w o = .inl (cA 0, x_l w o, .inl (x_i w o)) := by
  unfold x_ce; rw [h]
theorem x_ce_1 {cA : Nat → ClassId} {nf : Nat → Nat} {fk : Nat → Nat → Nat} {ad : Nat → Nat} {w : xW} {o : Nat} (h : x_k w o = 1) : x_ce cA nf fk ad w o = .inl (cA 1, x_l w o, .inl (x_i w o)) := by
  unfold x_ce; rw [h]
theorem x_ce_2 {cA : Nat → ClassId} {nf : Nat → Nat} {fk : Nat → Nat → Nat} {ad : Nat → Nat} {w : xW} {o : Nat} (h : x_k w o = 2) : x_ce cA nf fk ad w o = .inl (cA 2, x_l w o, .inr (.inl (x_j w o))) := by
  unfold x_ce; rw [h]
theorem x_up_s {α : Type} {f : Nat → Nat → α} {o k : Nat} {v : α} : x_up f o k v o k = v := by simp [x_up]
theorem x_up_k {α : Type} {f : Nat → Nat → α} {o k k' : Nat} {v : α} (h : ¬ k' = k) : x_up f o k v o k' = f o k' := by simp [x_up, h]
theorem x_up_o {α : Type} {f : Nat → Nat → α} {o o' k : Nat} {v : α} (h : ¬ o' = o) : x_up f o k v o' = f o' := by simp [x_up, h]
section X4
variable {cl : List vw_C} {D : va_G} {cA : Nat → ClassId} {ct : Nat → vw_C} {fk : Nat → Nat → Nat} {ty : Nat → Nat → FieldType} {Ts : List Cond} {A : Nat → Prop} {ad : Nat → Nat} {w : xW} {H H0 : Heap}
variable {p : Program} {l : Launch} {e : Env} {R : Room} {s : State} {m : MethodId} {args : Array Value} {below : List Frame} {meth : Method} {c : Code} {locs : List Loc} {cells slots : Nat} {Q : State → Prop} {cc : ByteArray} {pc : Nat} {ls : Array Slot} {rest : List Value}
theorem x_in (hrep : x_rep cl D cA (fun a => (ct a).2.2) fk A ad w H) {o k : Nat} (h : x_k w o = k) (hk : ¬ k = 99) : o < x_N w := by
  by_cases ho : o < x_N w
  · exact ho
  · exact absurd (h.symm.trans (hrep.2.2.1 o (by omega))) hk
theorem x_getI (hexec : p.tables.exec = Jvm.exec) (hb : c.code = cc) {own : String} {idx a b o : Nat} (hts : ∀ w ∈ Ts, w.before args s = true) (hcf : x_cf cl ct fk ty Ts a) (hfl : x_fl ct Ts own idx a b) (hown : s.vm.findClass own = some m.cls) (hK : va_K D cl (x_tys cA) s) (hrep : x_rep cl D cA (fun a => (ct a).2.2) fk A ad w H) (hk : x_k w o = a + 3) (hdg : decode cc pc = .ok (.getfield idx, 3))
    (kk : W p l e R s m args below meth c H locs cells slots Q (F0 m (pc + 3) ls (x_fv fk ad w o a b :: rest))) : W p l e R s m args below meth c H locs cells slots Q (F0 m pc ls (.ref (ad o) :: rest)) := by
  obtain ⟨h1, h2, h3, h4, h5, h6⟩ := hcf
  obtain ⟨g1, ref, g2, g3⟩ := hfl
  have ho := x_in hrep hk (by omega)
  refine va_get (D := D) (ci := a) (C := (ct a).1) (T := (ct a).2.1) (N := (ct a).2.2) hexec hb hts h3 hown hK hrep.1 o (by rw [x_wd_at ho, x_ce_obj hk]) h1 b g1 (hts _ g2) (fun x hx => ?_) (x_fv_at g1) hdg kk
  rcases g3 with g3 | g3
  · rw [← g3]; exact hx
  · exact u_same (hts _ g3) x hx
theorem x_put (hexec : p.tables.exec = Jvm.exec) (hb : c.code = cc) {own : String} {idx a b o : Nat} {w' : xW} {v : Value} {t : FieldType} (hts : ∀ w ∈ Ts, w.before args s = true) (hcf : x_cf cl ct fk ty Ts a) (hfl : x_fl ct Ts own idx a b) (hfin : ((ct a).2.1 b).2.2.2 = false ∨ (((ct a).2.1 b).2.2.2 = true ∧ meth.name = "<init>" ∧ ((ct a).2.1 b).1 = own)) (hown : s.vm.findClass own = some m.cls) (hK : va_K D cl (x_tys cA) s) (hrep : x_rep cl D cA (fun a => (ct a).2.2) fk A ad w H) (hS : va_S A H0 H locs) (hk : x_k w o = a + 3)
    (hty : ty a b = t) (hn : narrow t v = v) (hfit : fits t v = true) (hN : x_N w' = x_N w) (hkk : x_k w' = x_k w) (hce : ∀ i, ¬ i = o → x_ce cA (fun a => (ct a).2.2) fk ad w' i = x_ce cA (fun a => (ct a).2.2) fk ad w i) (hv : x_fv fk ad w' o a b = v) (hne : ∀ k, ¬ k = b → x_fv fk ad w' o a k = x_fv fk ad w o a k) (hr : ∀ o k, x_r w' o k = 0 ∨ x_r w' o k < x_N w)
    (hdg : decode cc pc = .ok (.putfield idx, 3)) (kk : ∀ (H1 : Heap) (locs1 : List Loc), x_rep cl D cA (fun a => (ct a).2.2) fk A ad w' H1 → va_S A H0 H1 locs1 → W p l e R s m args below meth c H1 locs1 cells slots Q (F0 m (pc + 3) ls rest)) : W p l e R s m args below meth c H locs cells slots Q (F0 m pc ls (v :: .ref (ad o) :: rest)) := by
  obtain ⟨h1, h2, h3, h4, h5, h6⟩ := hcf
  obtain ⟨g1, ref, g2, g3⟩ := hfl
  have ho := x_in hrep hk (by omega)
  have hsame : ∀ x, s.fieldFound? ((ct a).2.1 b).1 ((ct a).2.1 b).2.1 ((ct a).2.1 b).2.2.1 = some x → s.fieldFound? ref ((ct a).2.1 b).2.1 ((ct a).2.1 b).2.2.1 = some x := by
    intro x hx
    rcases g3 with g3 | g3
    · rw [← g3]; exact hx
    · exact u_same (hts _ g3) x hx
  have hd : parseFieldDescriptor ((ct a).2.1 b).2.2.1 = some t := by rw [h4 b g1, hty]
  have hset : (x_wd cA (fun a => (ct a).2.2) fk ad w).set o (ad o, .inr (a, ((List.range (ct a).2.2).map (x_fv fk ad w o a)).set b v)) = x_wd cA (fun a => (ct a).2.2) fk ad w' := by
    refine x_wd_set hN ?_ hce
    rw [x_ce_obj (by rw [hkk]; exact hk), x_fv_set hv hne]
  have hl : b < ((List.range (ct a).2.2).map (x_fv fk ad w o a)).length := by simpa using g1
  have hend : ∀ (H1 : Heap) (locs1 : List Loc), va_P D cl ((x_wd cA (fun a => (ct a).2.2) fk ad w).set o (ad o, .inr (a, ((List.range (ct a).2.2).map (x_fv fk ad w o a)).set b v))) H1 → va_D A ((x_wd cA (fun a => (ct a).2.2) fk ad w).set o (ad o, .inr (a, ((List.range (ct a).2.2).map (x_fv fk ad w o a)).set b v))) → va_S A H0 H1 locs1 → W p l e R s m args below meth c H1 locs1 cells slots Q (F0 m (pc + 3) ls rest) := by
    intro H1 locs1 hP hD hS
    rw [hset] at hP hD
    exact kk H1 locs1 ⟨hP, hD, fun i hi => by rw [hkk]; exact hrep.2.2.1 i (by rw [← hN]; exact hi), fun i k => by rw [hN]; exact hr i k⟩ hS
  rcases hfin with hfin | ⟨hf1, hf2, hf3⟩
  · exact va_put (D := D) (ci := a) (v := v) (ty := t) (C := (ct a).1) (T := (ct a).2.1) (N := (ct a).2.2) hexec hb hts h3 (ty a) h4 h5 hown hK hrep.1 hrep.2.1 hS o (by rw [x_wd_at ho, x_ce_obj hk]) h1 b g1 (hts _ g2) hsame hfin hd hn hfit hl hdg hend
  · exact va_putF (D := D) (ci := a) (v := v) (ty := t) (C := (ct a).1) (T := (ct a).2.1) (N := (ct a).2.2) hexec hb hts h3 (ty a) h4 h5 hown hK hrep.1 hrep.2.1 hS o (by rw [x_wd_at ho, x_ce_obj hk]) h1 b g1 (hts _ g2) hsame hf1 hf2 hf3 hd hn hfit hl hdg hend
end X4
section X5
variable {cl : List vw_C} {D : va_G} {cA : Nat → ClassId} {ct : Nat → vw_C} {fk : Nat → Nat → Nat} {ty : Nat → Nat → FieldType} {Ts : List Cond} {A : Nat → Prop} {ad : Nat → Nat} {w : xW} {H H0 : Heap}
variable {p : Program} {l : Launch} {e : Env} {R : Room} {s : State} {m : MethodId} {args : Array Value} {below : List Frame} {meth : Method} {c : Code} {locs : List Loc} {cells slots : Nat} {Q : State → Prop} {cc : ByteArray} {pc : Nat} {ls : Array Slot} {rest : List Value}
theorem x_i_si {o k : Nat} {v : Int32} : x_i (x_si w o k v) o = upd (x_i w o) k v := by
  funext j
  simp [x_i, x_si, x_up, upd]
theorem x_j_sj {o k : Nat} {v : Int64} : x_j (x_sj w o k v) o = vp_updL (x_j w o) k v := by
  funext j
  simp [x_j, x_sj, x_up, vp_updL]
theorem x_ce_si {nf : Nat → Nat} {o i k : Nat} {v : Int32} (h : ¬ i = o) : x_ce cA nf fk ad (x_si w o k v) i = x_ce cA nf fk ad w i := x_ce_eq rfl rfl (x_up_o h) rfl rfl
theorem x_ce_sj {nf : Nat → Nat} {o i k : Nat} {v : Int64} (h : ¬ i = o) : x_ce cA nf fk ad (x_sj w o k v) i = x_ce cA nf fk ad w i := x_ce_eq rfl rfl rfl (x_up_o h) rfl
theorem x_ce_sr {nf : Nat → Nat} {o i k : Nat} {v : Nat} (h : ¬ i = o) : x_ce cA nf fk ad (x_sr w o k v) i = x_ce cA nf fk ad w i := x_ce_eq rfl rfl rfl rfl (x_up_o h)
/-- an array's cell is written -/
theorem x_stored {o : Nat} {w' : xW} {x : va_E} {H1 : Heap} (hrep : x_rep cl D cA (fun a => (ct a).2.2) fk A ad w H) (hN : x_N w' = x_N w) (hk : x_k w' = x_k w) (hr : x_r w' = x_r w) (he : x_ce cA (fun a => (ct a).2.2) fk ad w' o = x) (hne : ∀ i, ¬ i = o → x_ce cA (fun a => (ct a).2.2) fk ad w' i = x_ce cA (fun a => (ct a).2.2) fk ad w i)
    (hP : va_P D cl ((x_wd cA (fun a => (ct a).2.2) fk ad w).set o (ad o, x)) H1) (hD : va_D A ((x_wd cA (fun a => (ct a).2.2) fk ad w).set o (ad o, x))) : x_rep cl D cA (fun a => (ct a).2.2) fk A ad w' H1 := by
  rw [x_wd_set hN he hne] at hP hD
  exact ⟨hP, hD, fun i hi => by rw [hk]; exact hrep.2.2.1 i (by rw [← hN]; exact hi), fun i k => by rw [hN, hr]; exact hrep.2.2.2 i k⟩
theorem x_iast (hexec : p.tables.exec = Jvm.exec) (hb : c.code = cc) (hK : va_K D cl (x_tys cA) s) (hrep : x_rep cl D cA (fun a => (ct a).2.2) fk A ad w H) (hS : va_S A H0 H locs) {o : Nat} {i x : Int32} (hk : x_k w o = 0) (hin : vp_in i (x_l w o)) (hdg : decode cc pc = .ok (.iastore, 1))
    (kk : ∀ (H1 : Heap) (locs1 : List Loc), x_rep cl D cA (fun a => (ct a).2.2) fk A ad (x_si w o i.toNatClampNeg x) H1 → va_S A H0 H1 locs1 → W p l e R s m args below meth c H1 locs1 cells slots Q (F0 m (pc + 1) ls rest)) : W p l e R s m args below meth c H locs cells slots Q (F0 m pc ls (.int x :: .int i :: .ref (ad o) :: rest)) := by
  have ho := x_in hrep hk (by omega)
  refine va_iast hexec hb hK hrep.1 hrep.2.1 hS o 0 (by rw [x_wd_at ho, x_ce_0 hk]) rfl hin hdg (fun H1 locs1 hP hD hS => kk H1 locs1 (x_stored hrep rfl rfl rfl ?_ (fun i hi => x_ce_si hi) hP hD) hS)
  rw [x_ce_0 (w := x_si w o i.toNatClampNeg x) hk, x_i_si]
  rfl
theorem x_zast (hexec : p.tables.exec = Jvm.exec) (hb : c.code = cc) (hK : va_K D cl (x_tys cA) s) (hrep : x_rep cl D cA (fun a => (ct a).2.2) fk A ad w H) (hS : va_S A H0 H locs) {o : Nat} {i x : Int32} (hk : x_k w o = 1) (hin : vp_in i (x_l w o)) (hx : x = 0 ∨ x = 1) (hdg : decode cc pc = .ok (.bastore, 1))
    (kk : ∀ (H1 : Heap) (locs1 : List Loc), x_rep cl D cA (fun a => (ct a).2.2) fk A ad (x_si w o i.toNatClampNeg x) H1 → va_S A H0 H1 locs1 → W p l e R s m args below meth c H1 locs1 cells slots Q (F0 m (pc + 1) ls rest)) : W p l e R s m args below meth c H locs cells slots Q (F0 m pc ls (.int x :: .int i :: .ref (ad o) :: rest)) := by
  have ho := x_in hrep hk (by omega)
  have hn : vp_nar .boolean x = x := by rcases hx with rfl | rfl <;> decide +kernel
  refine va_zast hexec hb hK hrep.1 hrep.2.1 hS o 1 (by rw [x_wd_at ho, x_ce_1 hk]) rfl hin hdg (fun H1 locs1 hP hD hS => kk H1 locs1 (x_stored hrep rfl rfl rfl ?_ (fun i hi => x_ce_si hi) hP hD) hS)
  rw [x_ce_1 (w := x_si w o i.toNatClampNeg x) hk, x_i_si, hn]
  rfl
theorem x_last (hexec : p.tables.exec = Jvm.exec) (hb : c.code = cc) (hK : va_K D cl (x_tys cA) s) (hrep : x_rep cl D cA (fun a => (ct a).2.2) fk A ad w H) (hS : va_S A H0 H locs) {o : Nat} {i : Int32} {x : Int64} (hk : x_k w o = 2) (hin : vp_in i (x_l w o)) (hdg : decode cc pc = .ok (.lastore, 1))
    (kk : ∀ (H1 : Heap) (locs1 : List Loc), x_rep cl D cA (fun a => (ct a).2.2) fk A ad (x_sj w o i.toNatClampNeg x) H1 → va_S A H0 H1 locs1 → W p l e R s m args below meth c H1 locs1 cells slots Q (F0 m (pc + 1) ls rest)) : W p l e R s m args below meth c H locs cells slots Q (F0 m pc ls (.long x :: .int i :: .ref (ad o) :: rest)) := by
  have ho := x_in hrep hk (by omega)
  refine va_last hexec hb hK hrep.1 hrep.2.1 hS o 2 (by rw [x_wd_at ho, x_ce_2 hk]) rfl hin hdg (fun H1 locs1 hP hD hS => kk H1 locs1 (x_stored hrep rfl rfl rfl ?_ (fun i hi => x_ce_sj hi) hP hD) hS)
  rw [x_ce_2 (w := x_sj w o i.toNatClampNeg x) hk, x_j_sj]
  rfl
/-- a new cell -/
def x_adN (ad : Nat → Nat) (N q : Nat) : Nat → Nat := fun i => if i = N then q else ad i
theorem x_adN_s {ad : Nat → Nat} {N q : Nat} : x_adN ad N q N = q := by simp [x_adN]
theorem x_adN_ext {ad : Nat → Nat} {N q : Nat} (h : N < 1000) : x_ext N ad (x_adN ad N q) := fun i hi => by
  have hne : ¬ i = N := by
    rcases hi with hi | hi
    · omega
    · have : x_sc = 1000000 := rfl
      omega
  simp [x_adN, hne]
theorem x_made {kind len n q : Nat} {x : va_E} {H1 : Heap} (hN : x_N w < 1000) (hrep : x_rep cl D cA (fun a => (ct a).2.2) fk A ad w H) (he : x_ce cA (fun a => (ct a).2.2) fk (x_adN ad (x_N w) q) (x_new w kind len n) (x_N w) = x)
    (hP : va_P D cl (x_wd cA (fun a => (ct a).2.2) fk ad w ++ [(q, x)]) H1) (hD : va_D A (x_wd cA (fun a => (ct a).2.2) fk ad w ++ [(q, x)])) : x_rep cl D cA (fun a => (ct a).2.2) fk A (x_adN ad (x_N w) q) (x_new w kind len n) H1 := by
  rw [x_wd_push (x_adN_ext hN) x_adN_s hrep.2.2.2 he] at hP hD
  refine ⟨hP, hD, fun i hi => ?_, fun i k => ?_⟩
  · have h1 : x_N w + 1 ≤ i := hi
    have hne : ¬ i = x_N w := by omega
    show x_row (x_k w) (x_N w) kind i = 99
    rw [x_row, if_neg hne]
    exact hrep.2.2.1 i (by omega)
  · show x_row (x_r w) (x_N w) (fun _ => 0) i k = 0 ∨ x_row (x_r w) (x_N w) (fun _ => 0) i k < x_N w + 1
    unfold x_row
    by_cases hi : i = x_N w
    · rw [if_pos hi]; exact Or.inl rfl
    · rw [if_neg hi]
      rcases hrep.2.2.2 i k with h | h
      · exact Or.inl h
      · exact Or.inr (by omega)
theorem x_lh_ext {N nL : Nat} {ad ad' : Nat → Nat} {L : xL} (h : x_ext N ad ad') (hl : x_lh ad nL ls L) (hw : ∀ i v, x_at L i = some v → x_wf N v) : x_lh ad' nL ls L := ⟨hl.1, hl.2.1, fun i v hv => by rw [x_cv_ext h (hw i v hv)]; exact hl.2.2 i v hv⟩
theorem x_st_ext {N : Nat} {ad ad' : Nat → Nat} {st : List Value} (h : x_ext N ad ad') (hw : ∀ v ∈ st, x_wf N v) : st.map (x_cv ad') = st.map (x_cv ad) := List.map_congr_left fun v hv => x_cv_ext h (hw v hv)
theorem x_kA {cA : Nat → ClassId} {k : Nat} {t : FieldType} {cN : ClassId} (hK : va_K D cl (x_tys cA) s) (hK2 : va_K D cl (x_tys cA ++ [(cN, t)]) s) (hk : (x_tys cA)[k]? = some (cA k, t)) (ht : ∀ C, ¬ t = .object C) : cN = cA k := by
  have h1 := (hK.2 k _ hk).2
  have h2 := (hK2.2 3 (cN, t) rfl).2
  have h3 : va_RA s (cA k) t := h1
  have h4 : va_RA s cN t := h2
  cases t <;> first | exact absurd rfl (ht _) | exact Option.some.inj (h4.symm.trans h3)
end X5
end
section
/-! One step: what a row of code must be, and that the JVM goes where the small machine goes. -/
def x_CallS (Ts Nw : List Cond) (own : String) (idx : Nat) (y : MethodName) (bytes : ByteArray) (maxL : Nat) (ret : Option FieldType) (n : Nat) : Prop :=
  ∀ (p : Program) (l : Launch) (e : Env) (R : Room) (s : State) (m : MethodId) (args : Array Value) (below : List Frame) (meth : Method) (c : Code) (H : Heap) (locs : List Loc) (cells slots : Nat) (cc : ByteArray) (nL : Nat) (rm : Room) (Pc : Array Value → State → Prop) (Qc : Array Value → State → Outcome → State → Prop) (mc ms : Nat) (free : Addr → Prop) (As rest : List Value) (g : JFrame),
    CallFix p m c cc nL s args Ts own → (∀ w ∈ Nw, va_Nw w s) → Met l y (Cond.code y bytes maxL ret :: Ts) rm Pc Qc mc ms free → rm.cells = mc → rm.slots = ms → rm.frames + 1 ≤ R.frames → 8 + (maxL + 11) + rm.locals ≤ R.locals → PreS s H Pc As →
    g.method = m → As.length = n → g.locals.size = nL → g.stack = As.reverse ++ rest → 2 * g.monitorRoom + (rest.map fun v => v.category).sum ≤ 8 → decode cc g.pc = .ok (.invokestatic idx, 3) → cells + mc ≤ R.cells ∧ slots + ms ≤ R.slots →
    va_Run p l e R s m args below meth c H locs cells slots mc ms g rest (Qc As.toArray) free
def x_CallI (Ts Nw : List Cond) (own : String) (idx : Nat) (y : MethodName) (bytes : ByteArray) (maxL : Nat) (n : Nat) : Prop :=
  ∀ (p : Program) (l : Launch) (e : Env) (R : Room) (s : State) (m : MethodId) (args : Array Value) (below : List Frame) (meth : Method) (c : Code) (H : Heap) (locs : List Loc) (cells slots : Nat) (cc : ByteArray) (nL : Nat) (rm : Room) (Pc : Array Value → State → Prop) (Qc : Array Value → State → Outcome → State → Prop) (mc ms : Nat) (free : Addr → Prop) (b : Nat) (As rest : List Value) (g : JFrame),
    CallFix p m c cc nL s args Ts own → (∀ w ∈ Nw, va_Nw w s) → Met l y (Cond.code y bytes maxL none :: Ts) rm Pc Qc mc ms free → rm.cells = mc → rm.slots = ms → rm.frames + 1 ≤ R.frames → 8 + (maxL + 11) + rm.locals ≤ R.locals → PreS s H Pc (.ref b :: As) →
    g.method = m → As.length + 1 = n → g.locals.size = nL → g.stack = As.reverse ++ .ref b :: rest → 2 * g.monitorRoom + (rest.map fun v => v.category).sum ≤ 8 → decode cc g.pc = .ok (.invokespecial idx, 3) → cells + mc ≤ R.cells ∧ slots + ms ≤ R.slots →
    va_Run p l e R s m args below meth c H locs cells slots mc ms g rest (Qc (Value.ref b :: As).toArray) free
def x_CallV (Ts Nw : List Cond) (own : String) (idx : Nat) (C : String) (y : MethodName) (bytes : ByteArray) (maxL : Nat) (ret : Option FieldType) (n : Nat) : Prop :=
  ∀ (p : Program) (l : Launch) (e : Env) (R : Room) (s : State) (m : MethodId) (args : Array Value) (below : List Frame) (meth : Method) (c : Code) (H : Heap) (locs : List Loc) (cells slots : Nat) (cc : ByteArray) (nL : Nat) (rm : Room) (Pc : Array Value → State → Prop) (Qc : Array Value → State → Outcome → State → Prop) (mc ms : Nat) (free : Addr → Prop) (b : Nat) (As rest : List Value) (g : JFrame),
    CallFix p m c cc nL s args Ts own → (∀ w ∈ Nw, va_Nw w s) → Met l y (Cond.code y bytes maxL ret :: Ts) rm Pc Qc mc ms free → rm.cells = mc → rm.slots = ms → rm.frames + 1 ≤ R.frames → 8 + (maxL + 11) + rm.locals ≤ R.locals → PreV s H C b Pc As →
    g.method = m → As.length + 1 = n → g.locals.size = nL → g.stack = As.reverse ++ .ref b :: rest → 2 * g.monitorRoom + (rest.map fun v => v.category).sum ≤ 8 → decode cc g.pc = .ok (.invokevirtual idx, 3) → cells + mc ≤ R.cells ∧ slots + ms ≤ R.slots →
    va_Run p l e R s m args below meth c H locs cells slots mc ms g rest (Qc (Value.ref b :: As).toArray) free
/-- a call of String.length, of String.charAt, on a text -/
def x_SLen (Ts : List Cond) (own : String) (idx : Nat) : Prop :=
  ∀ (p : Program) (l : Launch) (e : Env) (R : Room) (s : State) (m : MethodId) (args : Array Value) (below : List Frame) (meth : Method) (c : Code) (H : Heap) (locs : List Loc) (cells slots : Nat) (cc : ByteArray) (nL : Nat) (Q : State → Prop) (A : Nat → Prop) (ad adV : Nat → Nat) (pc k : Nat) (ls : Array Slot) (rest : List Value),
    CallFix p m c cc nL s args Ts own → ls.size = nL → vk_S 2 [1, 3] [[112], [99, 110, 102]] ad adV A s s.heap → va_Z "java/lang/String" "COMPACT_STRINGS" "Z" (.int 1) A s s.heap → va_S A s.heap H locs → k < 2 → (rest.map fun v => v.category).sum ≤ 8 → 5 ≤ R.frames → 100 ≤ R.locals → cells ≤ R.cells → slots ≤ R.slots → decode cc pc = .ok (.invokevirtual idx, 3) →
    W p l e R s m args below meth c H locs cells slots Q (F0 m (pc + 3) ls (.int (Int32.ofNat ([1, 3].getD k 0)) :: rest)) → W p l e R s m args below meth c H locs cells slots Q (F0 m pc ls (.ref (ad k) :: rest))
def x_SChr (Ts : List Cond) (own : String) (idx : Nat) : Prop :=
  ∀ (p : Program) (l : Launch) (e : Env) (R : Room) (s : State) (m : MethodId) (args : Array Value) (below : List Frame) (meth : Method) (c : Code) (H : Heap) (locs : List Loc) (cells slots : Nat) (cc : ByteArray) (nL : Nat) (Q : State → Prop) (A : Nat → Prop) (ad adV : Nat → Nat) (pc k : Nat) (i : Int32) (ls : Array Slot) (rest : List Value),
    CallFix p m c cc nL s args Ts own → ls.size = nL → vk_S 2 [1, 3] [[112], [99, 110, 102]] ad adV A s s.heap → va_Z "java/lang/String" "COMPACT_STRINGS" "Z" (.int 1) A s s.heap → va_Zq "jdk/internal/util/Preconditions" "SIOOBE_FORMATTER" "Ljava/util/function/BiFunction;" A s s.heap → va_S A s.heap H locs → k < 2 → vp_in i ([1, 3].getD k 0) → (rest.map fun v => v.category).sum ≤ 8 → 5 ≤ R.frames → 100 ≤ R.locals → cells ≤ R.cells → slots ≤ R.slots → decode cc pc = .ok (.invokevirtual idx, 3) →
    W p l e R s m args below meth c H locs cells slots Q (F0 m (pc + 3) ls (.int (([[112], [99, 110, 102]].getD k []).getD i.toNatClampNeg 0) :: rest)) → W p l e R s m args below meth c H locs cells slots Q (F0 m pc ls (.int i :: .ref (ad k) :: rest))
theorem x_kd_of {a k : Nat} (h : x_kd a k) : ∃ a' ∈ x_al a, k = a' + 3 := by
  unfold x_kd at h
  split at h
  · rcases h with h | h
    · exact ⟨2, by simp [x_al], h⟩
    · exact ⟨3, by simp [x_al], h⟩
  · rename_i hne
    refine ⟨a, ?_, h⟩
    unfold x_al
    split
    · exact absurd rfl hne
    · simp
/-- a method: name, code, locals, return type, own class -/
abbrev xM : Type := MethodName × ByteArray × Nat × Option FieldType × String
/-- what a row must be -/
def x_okr (cl : List vw_C) (ct : Nat → vw_C) (fk : Nat → Nat → Nat) (ty : Nat → Nat → FieldType) (Ts Nw : List Cond) (mt : Nat → xM) (rc : Nat → Nat) (vt : Nat → Nat × Nat × Nat × Nat) (en : Nat → String × String × String) (M : Nat) (r : xR) : Prop :=
  decode (mt M).2.1 r.1 = .ok (r.2.1, r.2.2.1) ∧ match r with
  | (pc, ins, len, a, b, c, v, u) => match ins with
    | .iconst n => len = 1 ∧ Int32.ofInt n = v
    | .bipush n => len = 2 ∧ (Int8.ofInt n).toInt32 = v
    | .sipush n => len = 3 ∧ (Int16.ofInt n).toInt32 = v
    | .ldc i => len = 2 ∧ ((c = 0 ∧ Jvm.Cond.constant (mt M).2.2.2.2 i v ∈ Ts) ∨ (c = 1 ∧ (mt M).2.2.2.2 = "StreamRefuter$Problem" ∧ ((a = 0 ∧ i = 66) ∨ (a = 1 ∧ i = 75))))
    | .lconst n => len = 1 ∧ Int64.ofNat (n : Nat) = u
    | .ldc2_w i => len = 3 ∧ Jvm.Cond.constantLong (mt M).2.2.2.2 i u ∈ Ts
    | .iload _ => len = 2
    | .lload _ => len = 2
    | .aload _ => len = 2
    | .iload_n k => len = 1 ∧ (k : Nat) = a
    | .lload_n k => len = 1 ∧ (k : Nat) = a
    | .aload_n k => len = 1 ∧ (k : Nat) = a
    | .istore i => len = 2 ∧ i < (mt M).2.2.1
    | .astore i => len = 2 ∧ i < (mt M).2.2.1
    | .lstore i => len = 2 ∧ i + 1 < (mt M).2.2.1
    | .istore_n k => len = 1 ∧ (k : Nat) = a ∧ a < (mt M).2.2.1
    | .astore_n k => len = 1 ∧ (k : Nat) = a ∧ a < (mt M).2.2.1
    | .lstore_n k => len = 1 ∧ (k : Nat) = a ∧ a + 1 < (mt M).2.2.1
    | .iinc i n => len = 3 ∧ i < (mt M).2.2.1 ∧ Int32.ofInt n = v
    | .ifCond _ off => len = 3 ∧ (pc : Int) + off = (a : Int)
    | .if_icmp _ off => len = 3 ∧ (pc : Int) + off = (a : Int)
    | .if_acmp _ off => len = 3 ∧ (pc : Int) + off = (a : Int)
    | .goto off => len = 3 ∧ (pc : Int) + off = (a : Int)
    | .tableswitch d _ _ offs => (∃ t : Nat, (pc : Int) + d = (t : Int)) ∧ ∀ (k : Nat) (o : Int), offs[k]? = some o → ∃ t : Nat, (pc : Int) + o = (t : Int)
    | .getfield i => len = 3 ∧ ∀ a' ∈ x_al a, x_cf cl ct fk ty Ts a' ∧ x_fl ct Ts (mt M).2.2.2.2 i a' b ∧ fk a' b = c
    | .putfield i => len = 3 ∧ ∀ a' ∈ x_al a, x_cf cl ct fk ty Ts a' ∧ x_fl ct Ts (mt M).2.2.2.2 i a' b ∧ (((ct a').2.1 b).2.2.2 = false ∨ (((ct a').2.1 b).2.2.2 = true ∧ (mt M).1.name = "<init>" ∧ ((ct a').2.1 b).1 = (mt M).2.2.2.2)) ∧
        ((c = 0 ∧ ty a' b = .int ∧ fk a' b = 0) ∨ (c = 1 ∧ ty a' b = .long ∧ fk a' b = 1) ∨ (c = 2 ∧ fk a' b = 2) ∨ (c = 3 ∧ ty a' b = .boolean ∧ fk a' b = 0))
    | .getstatic i => len = 3 ∧ a < 4 ∧ ∃ ref, Cond.fieldLink (mt M).2.2.2.2 i ref (en a).2.1 (en a).2.2 ∈ Ts ∧ (en a).1 = ref
    | .newarray t => len = 2 ∧ Cond.arrayClass (newarray.typeOf t) ∈ Ts ∧ ((t = .int ∧ a = 0) ∨ (t = .boolean ∧ a = 1) ∨ (t = .long ∧ a = 2))
    | .new i => len = 3 ∧ (c = 0 → x_cf cl ct fk ty Ts a ∧ b = (ct a).2.2 ∧ Cond.classLink (mt M).2.2.2.2 i (ct a).1 ∈ Ts ∧ Cond.instantiable (ct a).1 (ct a).2.2 ∈ Ts ∧ Cond.initialized (ct a).1 ∈ Ts)
    | .invokestatic i => len = 3 ∧ (c = 0 → x_CallS Ts Nw (mt M).2.2.2.2 i (mt a).1 (mt a).2.1 (mt a).2.2.1 (mt a).2.2.2.1 b) ∧ (¬ c = 0 → Cond.methodLink (mt M).2.2.2.2 i arraycopyName ∈ Ts ∧ Cond.native arraycopyName ∈ Ts ∧ Cond.static arraycopyName ∈ Ts ∧ Cond.initialized "java/lang/System" ∈ Ts)
    | .invokespecial i => len = 3 ∧ (c = 0 → (mt a).2.2.2.1 = none ∧ x_CallI Ts Nw (mt M).2.2.2.2 i (mt a).1 (mt a).2.1 (mt a).2.2.1 b) ∧ (¬ c = 0 → Cond.methodLink (mt M).2.2.2.2 i objectInit ∈ Ts ∧ Cond.instanceMethod objectInit ∈ Ts ∧ Cond.code objectInit ⟨#[0xb1]⟩ 1 none ∈ Ts)
    | .invokevirtual i => len = 3 ∧ c < 4 ∧ (c = 2 → b = 2 ∧ x_SLen Ts (mt M).2.2.2.2 i) ∧ (c = 3 → b = 2 ∧ x_SChr Ts (mt M).2.2.2.2 i) ∧ (c = 0 → rc a < 90 ∧ cl[rc a]? = some (ct (rc a)) ∧ x_CallV Ts Nw (mt M).2.2.2.2 i (ct (rc a)).1 (mt a).1 (mt a).2.1 (mt a).2.2.1 (mt a).2.2.2.1 b) ∧
        (c = 1 → (vt a).1 < 90 ∧ (vt a).2.2.1 < 90 ∧ cl[(vt a).1]? = some (ct (vt a).1) ∧ cl[(vt a).2.2.1]? = some (ct (vt a).2.2.1) ∧
          x_CallV Ts Nw (mt M).2.2.2.2 i (ct (vt a).1).1 (mt (vt a).2.1).1 (mt (vt a).2.1).2.1 (mt (vt a).2.1).2.2.1 (mt (vt a).2.1).2.2.2.1 b ∧
          x_CallV Ts Nw (mt M).2.2.2.2 i (ct (vt a).2.2.1).1 (mt (vt a).2.2.2).1 (mt (vt a).2.2.2).2.1 (mt (vt a).2.2.2).2.2.1 (mt (vt a).2.2.2).2.2.2.1 b)
    | .ireturn => len = 1 ∧ ((c = 0 ∧ (mt M).2.2.2.1 = some .int) ∨ (c = 1 ∧ (mt M).2.2.2.1 = some .boolean))
    | .lreturn => len = 1 ∧ (mt M).2.2.2.1 = some .long
    | .areturn => len = 1 ∧ ∃ C, (mt M).2.2.2.1 = some (.object C)
    | .return_ => len = 1 ∧ (mt M).2.2.2.1 = none
    | _ => len = 1
/-- a static field that holds a reference or null; its cell lies outside A -/
def x_st (C n d : String) (A : Nat → Prop) (U : State) (H : Heap) : Prop :=
  ∃ (c : ClassId) (k : Class) (i : Nat) (f : Field) (a : Nat) (cell : Cell), U.vm.findClass C = some c ∧ U.fieldFound? C n d = some (c, k, i, f) ∧ f.isStatic = true ∧ k.statics = some a ∧ H[a]? = some cell ∧ cell.vm.isStatics = true ∧ cell.cls = c ∧ f.slot < cell.slots.size ∧ k.staticTypes[f.slot]? = some f.type ∧ (∃ u : RefV, cell.slots[f.slot]? = some u.v) ∧ ¬ A a
theorem x_st_of {C n d : String} {A : Nat → Prop} {s : State} {args : Array Value} (h1 : (Cond.laysStatic C n d).before args s = true) (h2 : (Cond.isRef (.static C n d)).before args s = true) (hA : ∀ a : Nat, a < s.heap.size → ¬ A a) : x_st C n d A s s.heap := by
  obtain ⟨c, k, i, f, a, cell, hc, hi, hst, ha, hcell, hs, hcls, hlt, hty⟩ := Cond.laysStatic_spec h1
  exact ⟨c, k, i, f, a, cell, hc, hi, hst, ha, hcell, hs, hcls, hlt, hty, Cond.staticRefV hi hst ha hcell hs h2, hA a (Array.getElem?_eq_some_iff.mp hcell).1⟩
theorem x_st_to {C n d : String} {A A1 : Nat → Prop} {s U : State} {H : Heap} {locs : List Loc} (h : x_st C n d A s s.heap) (hS : va_S A s.heap H locs) (hvm : s.vm.Alike U.vm) (hA : ∀ q, q < s.heap.size → A1 q → A q) : x_st C n d A1 U H := by
  obtain ⟨c, k, i, f, a, cell, hc, hi, hst, ha, hcell, hs, hcls, hlt, hty, hu, hn⟩ := h
  obtain ⟨k', hi', hek⟩ := State.fieldFound?_setVm hvm hi
  have hlt2 := (Array.getElem?_eq_some_iff.mp hcell).1
  exact ⟨c, k', i, f, a, cell, by rw [hvm.findClass]; exact hc, hi', hst, by rw [hek]; exact ha, by rw [hS.2.1 a hlt2 hn]; exact hcell, hs, hcls, hlt, by rw [hek]; exact hty, hu, fun z => hn (hA a hlt2 z)⟩
theorem x_st_lays {C n d : String} {A : Nat → Prop} {U : State} {args : Array Value} (h : x_st C n d A U U.heap) : (Cond.laysStatic C n d).before args U = true := by
  obtain ⟨c, k, i, f, a, cell, hc, hi, hst, ha, hcell, hs, hcls, hlt, hty, hu, hn⟩ := h
  exact Cond.laysStatic_of hc hi hst ha hcell hs hcls hlt hty
theorem x_st_ref {C n d : String} {A : Nat → Prop} {U : State} {args : Array Value} (h : x_st C n d A U U.heap) : (Cond.isRef (.static C n d)).before args U = true := by
  obtain ⟨c, k, i, f, a, cell, hc, hi, hst, ha, hcell, hs, hcls, hlt, hty, ⟨u, hu⟩, hn⟩ := h
  have he : (Term.static C n d).eval args U none [] U = cell.slots[f.slot]? := by
    simp [Term.eval, State.fieldNamed?, hi, hst, ha, hcell, hs]
  show (Cond.isRef (.static C n d)).holds args U none U [] = true
  simp only [Cond.holds, Cond.value]
  rw [he, hu]
  obtain ⟨v, hv⟩ := u
  cases v <;> first | rfl | exact Bool.noConfusion hv
/-- what a throw and a search for handlers need -/
def x_iae : String := "java/lang/IllegalArgumentException"
def x_ise : String := "java/lang/IllegalStateException"
def x_thr (A : Nat → Prop) (U : State) (H : Heap) : Prop := x_st Bundle.tN "UNASSIGNED_STACK" Bundle.steD A U H ∧ x_st Bundle.tN "SUPPRESSED_SENTINEL" Bundle.listD A U H ∧ va_Nw (.castable x_iae x_iae) U ∧ va_Nw (.castable x_ise x_ise) U ∧ va_Nc x_iae x_ise U
/-- the texts -/
def x_txt (ad : Nat → Nat) (A : Nat → Prop) (U : State) (H : Heap) : Prop := (∃ adV : Nat → Nat, vk_S 2 [1, 3] [[112], [99, 110, 102]] (fun i => ad (x_tx + i)) adV A U H) ∧ vk_R "StreamRefuter$Problem" 66 "p" (ad (x_tx + 0)) U ∧ vk_R "StreamRefuter$Problem" 75 "cnf" (ad (x_tx + 1)) U ∧ va_Z "java/lang/String" "COMPACT_STRINGS" "Z" (.int 1) A U H ∧ va_Zq "jdk/internal/util/Preconditions" "SIOOBE_FORMATTER" "Ljava/util/function/BiFunction;" A U H
/-- the constants: the script; the enum's -/
def x_con (en : Nat → String × String × String) (scr : Nat × (Nat → Int32)) (ad : Nat → Nat) (A : Nat → Prop) (U : State) (H : Heap) : Prop :=
  (va_X (ad x_sc) scr.1 scr.2 U H ∧ ad x_sc < H.size ∧ ¬ A (ad x_sc)) ∧ (∀ k, k < 4 → va_Z (en k).1 (en k).2.1 (en k).2.2 (.ref (ad (x_en + k))) A U H) ∧ (∀ i j, i < 4 → j < 4 → ad (x_en + i) = ad (x_en + j) → i = j) ∧ x_thr A U H ∧ x_txt ad A U H
end
section
/-! The JVM follows the small machine. -/
def x_rm (d mc ms : Nat) : Room := { frames := d + 2, cells := mc, slots := ms, locals := 33 * d + 100 }
section X6
variable (cl : List vw_C) (ct : Nat → vw_C) (fk : Nat → Nat → Nat) (ty : Nat → Nat → FieldType) (Ts Nw : List Cond) (mt : Nat → xM) (en : Nat → String × String × String) (P : xP) (l : Launch) (D : va_G) (cA : Nat → ClassId) (scr : Nat × (Nat → Int32))
/-- what is so when a method begins -/
def x_pre (as : List Value) (ad : Nat → Nat) (w : xW) (A : Nat → Prop) (U : State) : Prop :=
  x_rep cl D cA (fun a => (ct a).2.2) fk A ad w U.heap ∧ va_K D cl (x_tys cA) U ∧ (∀ q ∈ Nw, va_Nw q U) ∧ x_con en scr ad A U U.heap ∧ ∀ v ∈ as, x_wf (x_N w) v
/-- and when it ends -/
def x_post (ad : Nat → Nat) (w : xW) (v : Option Value) (w' : xW) (A : Nat → Prop) : Array Value → State → Outcome → State → Prop := fun _ st o t =>
  (∃ ad', x_ext (x_N w) ad ad' ∧ o = .returned (v.map (x_cv ad')) ∧ x_rep cl D cA (fun a => (ct a).2.2) fk A ad' w' t.heap ∧ ∀ u, v = some u → x_wf (x_N w') u) ∧ va_F A st t
def x_ws (M : Nat) : List Cond := Cond.code (mt M).1 (mt M).2.1 (mt M).2.2.1 (mt M).2.2.2.1 :: Ts
def x_Met (M : Nat) (as : List Value) (w : xW) (v : Option Value) (w' : xW) : Prop := ∀ (ad : Nat → Nat) (sz : Nat),
  Met l (mt M).1 (x_ws Ts mt M) (x_rm (P.2.1 M) (x_C w' - x_C w) (x_S w' - x_S w)) (va_Pc (as.map (x_cv ad)) (fun U => U.heap.size = sz ∧ x_pre cl ct fk Nw en D cA scr as ad w (va_A (x_wd cA (fun a => (ct a).2.2) fk ad w) sz) U))
    (x_post cl ct fk D cA ad w v w' (va_A (x_wd cA (fun a => (ct a).2.2) fk ad w) sz)) (x_C w' - x_C w) (x_S w' - x_S w) (va_A (x_wd cA (fun a => (ct a).2.2) fk ad w) sz)
end X6
section X7
variable {cl : List vw_C} {ct : Nat → vw_C} {fk : Nat → Nat → Nat} {ty : Nat → Nat → FieldType} {Ts Nw : List Cond} {mt : Nat → xM} {en : Nat → String × String × String} {P : xP} {l : Launch} {D : va_G} {cA : Nat → ClassId} {scr : Nat × (Nat → Int32)}
variable {p : Program} {e : Env} {R : Room} {s : State} {m : MethodId} {args : Array Value} {below : List Frame} {meth : Method} {c : Code} {Q : State → Prop} {A : Nat → Prop}
theorem x_con_to {ad ad' : Nat → Nat} {A A1 : Nat → Prop} {U : State} {H : Heap} {locs : List Loc} {N : Nat} (h : x_con en scr ad A s s.heap) (hS : va_S A s.heap H locs) (hW : s.WarmedH U.vm) (hx : x_ext N ad ad') (hA : ∀ q, A1 q → A q) : x_con en scr ad' A1 U H := by
  obtain ⟨⟨h1, h2, h3⟩, h4, h5, ⟨t1, t2, t3, t4, t5⟩, ⟨adV, u1⟩, u2, u3, u4, u5⟩ := h
  have hvm := hW.alike
  have hs : ad' x_sc = ad x_sc := hx _ (Or.inr (Nat.le_refl _))
  have he : ∀ k, ad' (x_en + k) = ad (x_en + k) := fun k => hx _ (Or.inr (by show 1000000 ≤ 1000001 + k; omega))
  have ht : ∀ k, ad' (x_tx + k) = ad (x_tx + k) := fun k => hx _ (Or.inr (by show 1000000 ≤ 1000010 + k; omega))
  refine ⟨⟨?_, ?_, ?_⟩, fun k hk => ?_, fun i j hi hj => ?_, ⟨?_, ?_, ?_, ?_, ?_⟩, ⟨adV, ?_⟩, ?_, ?_, ?_, ?_⟩
  · rw [hs]; exact (h1.kept (hS.2.1 _ h2 h3)).moved hvm
  · rw [hs]; exact Nat.lt_of_lt_of_le h2 hS.1
  · rw [hs]; exact fun z => h3 (hA _ z)
  · rw [he]; exact (((h4 k hk).kept hS.2.1).moved hvm).narrow hA
  · rw [he, he]; exact h5 i j hi hj
  · exact x_st_to t1 hS hvm (fun q _ hq => hA q hq)
  · exact x_st_to t2 hS hvm (fun q _ hq => hA q hq)
  · exact va_Nw.warmC hW t3
  · exact va_Nw.warmC hW t4
  · exact t5.moved hvm
  · have e1 : (fun i => ad' (x_tx + i)) = fun i => ad (x_tx + i) := funext ht
    rw [e1]; exact ((u1.kept hS.2.1).moved hvm).narrow hA
  · rw [ht]; exact u2.warm hW
  · rw [ht]; exact u3.warm hW
  · exact ((u4.kept hS.2.1).moved hvm).narrow hA
  · exact ((u5.kept hS.2.1).moved hvm).narrow hA
/-- behind a call -/
theorem x_cont {H : Heap} {locs : List Loc} {cells slots mc ms pc : Nat} {ls : Array Slot} {st0 rest : List Value} {Qa : State → Outcome → State → Prop} {free : Nat → Prop} (hr : va_Run p l e R s m args below meth c H locs cells slots mc ms (F0 m pc ls st0) rest Qa free) (hS : va_S A s.heap H locs) (hf : ∀ q, free q → A q)
    (hF : ∀ st v t, Qa st (.returned v) t → va_F free st t)
    (kk : ∀ (st : State) (v : Option Value) (t : State) (H1 : Heap) (locs1 : List Loc), Qa st (.returned v) t → t.heap = H1 → va_S A s.heap H1 locs1 → W p l e R s m args below meth c H1 locs1 (cells + mc) (slots + ms) Q (F0 m (pc + 3) ls (v.toList ++ rest))) : W p l e R s m args below meth c H locs cells slots Q (F0 m pc ls st0) := by
  intro T hT X
  obtain ⟨v, st₀, t, T', L, h0, X', hL, e1, e2, hq, st⟩ := hr T hT X
  obtain ⟨hz, hk⟩ := hF _ _ _ hq
  rw [h0] at hz hk
  obtain ⟨t2, a1, b1⟩ := kk st₀ v t T'.heap (locs ++ L) hq e1.symm
    ⟨Nat.le_trans hS.1 (by rw [e1]; exact hz), fun q h1 h2 => by rw [e1, hk q (Nat.lt_of_lt_of_le h1 hS.1) (fun z => h2 (hf q z))]; exact hS.2.1 q h1 h2, fun q hq => by
      rcases List.mem_append.mp hq with h | h
      · exact hS.2.2 q h
      · exact hf _ (hL q h)⟩ T' rfl X'
  exact ⟨t2, st t2 a1, b1⟩
/-- the JVM, standing where the small machine stands, comes to Q -/
def x_WW (cl : List vw_C) (ct : Nat → vw_C) (fk : Nat → Nat → Nat) (D : va_G) (cA : Nat → ClassId) (p : Program) (l : Launch) (e : Env) (R : Room) (s : State) (m : MethodId) (args : Array Value) (below : List Frame) (meth : Method) (c : Code) (A : Nat → Prop) (nL : Nat) (ad0 : Nat → Nat) (w0 : xW) (Q : State → Prop) (pc : Nat) (L : xL) (st : List Value) (w : xW) : Prop :=
  x_gr w0 w → ∀ (H : Heap) (locs : List Loc) (ls : Array Slot) (ad : Nat → Nat), x_ext (x_N w0) ad0 ad → x_rep cl D cA (fun a => (ct a).2.2) fk A ad w H → va_S A s.heap H locs → x_lh ad nL ls L → (∀ v ∈ st, x_wf (x_N w) v) → (∀ i v, x_at L i = some v → x_wf (x_N w) v) →
    W p l e R s m args below meth c H locs (x_C w - x_C w0) (x_S w - x_S w0) Q (F0 m pc ls (st.map (x_cv ad)))
/-- a call that is good: it returns, and behind it all is well -/
def x_CG (cl : List vw_C) (ct : Nat → vw_C) (fk : Nat → Nat → Nat) (Ts Nw : List Cond) (mt : Nat → xM) (en : Nat → String × String × String) (P : xP) (l : Launch) (D : va_G) (cA : Nat → ClassId) (scr : Nat × (Nat → Int32)) (M : Nat) (w9 : xW) (WW : Nat → xL → List Value → xW → Prop) (M' : Nat) (as : List Value) (pc : Nat) (L : xL) (st : List Value) (w : xW) : Prop :=
  P.2.1 M' < P.2.1 M ∧ ∃ v w1, x_Met cl ct fk Ts Nw mt en P l D cA scr M' as w v w1 ∧ x_gr w w1 ∧ x_gr w1 w9 ∧ WW pc L (v.toList ++ st) w1
end X7
end
section
/-! One step of the JVM for each row of code. -/
theorem x_wt1 {N : Nat} {a : Value} {r : List Value} (h : ∀ v ∈ a :: r, x_wf N v) : ∀ v ∈ r, x_wf N v := fun v hv => h v (List.mem_cons_of_mem _ hv)
theorem x_wh {N : Nat} {a : Value} {r : List Value} (h : ∀ v ∈ a :: r, x_wf N v) : x_wf N a := h a List.mem_cons_self
theorem x_wc {N : Nat} {a : Value} {r : List Value} (ha : x_wf N a) (h : ∀ v ∈ r, x_wf N v) : ∀ v ∈ a :: r, x_wf N v := fun v hv => by
  rcases List.mem_cons.mp hv with rfl | hv
  · exact ha
  · exact h v hv
theorem x_wl1 {N i : Nat} {L : xL} {v : Value} (ha : x_wf N v) (h : ∀ i v, x_at L i = some v → x_wf N v) : ∀ j u, x_at (x_st1 L i v) j = some u → x_wf N u := fun j u hu => by
  rcases x_at_st1 hu with ⟨rfl, rfl⟩ | ⟨h1, h2, h3⟩
  · exact ha
  · exact h j u h2
theorem x_wl2 {N i : Nat} {L : xL} {v : Value} (ha : x_wf N v) (h : ∀ i v, x_at L i = some v → x_wf N v) : ∀ j u, x_at (x_st2 L i v) j = some u → x_wf N u := fun j u hu => by
  rcases x_at_st2 hu with ⟨rfl, rfl⟩ | ⟨h1, h0, h2, h3⟩
  · exact ha
  · exact h j u h2
section X8
variable {cl : List vw_C} {ct : Nat → vw_C} {fk : Nat → Nat → Nat} {ty : Nat → Nat → FieldType} {Ts Nw : List Cond} {mt : Nat → xM} {en : Nat → String × String × String} {P : xP} {l : Launch} {D : va_G} {cA : Nat → ClassId} {scr : Nat × (Nat → Int32)} {rc : Nat → Nat} {vt : Nat → Nat × Nat × Nat × Nat} {tx : Nat → List Int32}
variable {p : Program} {e : Env} {R : Room} {s : State} {m : MethodId} {args : Array Value} {below : List Frame} {meth : Method} {c0 : Code} {A : Nat → Prop} {ad0 : Nat → Nat} {w0 w9 : xW} {v9 : Option Value} {X : xT → Prop} {M : Nat} {Q : State → Prop}
variable {pc len a b c : Nat} {v : Int32} {u : Int64} {L : xL} {st : List Value} {w : xW}

theorem xs_iadd  (hx : p.tables.exec = Jvm.exec) (hb : c0.code = (mt M).2.1) (hK1 : ∀ pc L st w, X (.inl (pc, L, st, w)) → x_gr w w9 ∧ x_WW cl ct fk D cA p l e R s m args below meth c0 A (mt M).2.2.1 ad0 w0 Q pc L st w)  (ok : x_okr cl ct fk ty Ts Nw mt rc vt en M (pc, .iadd, len, a, b, c, v, u)) (h : x_go X rc vt scr tx (.iadd) a b c v u pc L st w) : x_WW cl ct fk D cA p l e R s m args below meth c0 A (mt M).2.2.1 ad0 w0 Q pc L st w := by
  intro hg H locs ls ad hext hrep hS hl hws hwl
  have hd : decode (mt M).2.1 pc = .ok (.iadd, len) := ok.1
  obtain rfl : len = 1 := ok.2
  obtain ⟨y, r, rfl, h⟩ := x_pI_of h
  obtain ⟨x, r, rfl, h⟩ := x_pI_of h
  exact lv_iadd hx hb hd ((hK1 _ _ _ _ h).2 hg H locs ls ad hext hrep hS hl (x_wc trivial (x_wt1 (x_wt1 hws))) hwl)

theorem xs_isub  (hx : p.tables.exec = Jvm.exec) (hb : c0.code = (mt M).2.1) (hK1 : ∀ pc L st w, X (.inl (pc, L, st, w)) → x_gr w w9 ∧ x_WW cl ct fk D cA p l e R s m args below meth c0 A (mt M).2.2.1 ad0 w0 Q pc L st w)  (ok : x_okr cl ct fk ty Ts Nw mt rc vt en M (pc, .isub, len, a, b, c, v, u)) (h : x_go X rc vt scr tx (.isub) a b c v u pc L st w) : x_WW cl ct fk D cA p l e R s m args below meth c0 A (mt M).2.2.1 ad0 w0 Q pc L st w := by
  intro hg H locs ls ad hext hrep hS hl hws hwl
  have hd : decode (mt M).2.1 pc = .ok (.isub, len) := ok.1
  obtain rfl : len = 1 := ok.2
  obtain ⟨y, r, rfl, h⟩ := x_pI_of h
  obtain ⟨x, r, rfl, h⟩ := x_pI_of h
  exact lv_isub hx hb hd ((hK1 _ _ _ _ h).2 hg H locs ls ad hext hrep hS hl (x_wc trivial (x_wt1 (x_wt1 hws))) hwl)

theorem xs_imul  (hx : p.tables.exec = Jvm.exec) (hb : c0.code = (mt M).2.1) (hK1 : ∀ pc L st w, X (.inl (pc, L, st, w)) → x_gr w w9 ∧ x_WW cl ct fk D cA p l e R s m args below meth c0 A (mt M).2.2.1 ad0 w0 Q pc L st w)  (ok : x_okr cl ct fk ty Ts Nw mt rc vt en M (pc, .imul, len, a, b, c, v, u)) (h : x_go X rc vt scr tx (.imul) a b c v u pc L st w) : x_WW cl ct fk D cA p l e R s m args below meth c0 A (mt M).2.2.1 ad0 w0 Q pc L st w := by
  intro hg H locs ls ad hext hrep hS hl hws hwl
  have hd : decode (mt M).2.1 pc = .ok (.imul, len) := ok.1
  obtain rfl : len = 1 := ok.2
  obtain ⟨y, r, rfl, h⟩ := x_pI_of h
  obtain ⟨x, r, rfl, h⟩ := x_pI_of h
  exact lv_imul hx hb hd ((hK1 _ _ _ _ h).2 hg H locs ls ad hext hrep hS hl (x_wc trivial (x_wt1 (x_wt1 hws))) hwl)

theorem xs_iand  (hx : p.tables.exec = Jvm.exec) (hb : c0.code = (mt M).2.1) (hK1 : ∀ pc L st w, X (.inl (pc, L, st, w)) → x_gr w w9 ∧ x_WW cl ct fk D cA p l e R s m args below meth c0 A (mt M).2.2.1 ad0 w0 Q pc L st w)  (ok : x_okr cl ct fk ty Ts Nw mt rc vt en M (pc, .iand, len, a, b, c, v, u)) (h : x_go X rc vt scr tx (.iand) a b c v u pc L st w) : x_WW cl ct fk D cA p l e R s m args below meth c0 A (mt M).2.2.1 ad0 w0 Q pc L st w := by
  intro hg H locs ls ad hext hrep hS hl hws hwl
  have hd : decode (mt M).2.1 pc = .ok (.iand, len) := ok.1
  obtain rfl : len = 1 := ok.2
  obtain ⟨y, r, rfl, h⟩ := x_pI_of h
  obtain ⟨x, r, rfl, h⟩ := x_pI_of h
  exact lv_iand hx hb hd ((hK1 _ _ _ _ h).2 hg H locs ls ad hext hrep hS hl (x_wc trivial (x_wt1 (x_wt1 hws))) hwl)

theorem xs_ior  (hx : p.tables.exec = Jvm.exec) (hb : c0.code = (mt M).2.1) (hK1 : ∀ pc L st w, X (.inl (pc, L, st, w)) → x_gr w w9 ∧ x_WW cl ct fk D cA p l e R s m args below meth c0 A (mt M).2.2.1 ad0 w0 Q pc L st w)  (ok : x_okr cl ct fk ty Ts Nw mt rc vt en M (pc, .ior, len, a, b, c, v, u)) (h : x_go X rc vt scr tx (.ior) a b c v u pc L st w) : x_WW cl ct fk D cA p l e R s m args below meth c0 A (mt M).2.2.1 ad0 w0 Q pc L st w := by
  intro hg H locs ls ad hext hrep hS hl hws hwl
  have hd : decode (mt M).2.1 pc = .ok (.ior, len) := ok.1
  obtain rfl : len = 1 := ok.2
  obtain ⟨y, r, rfl, h⟩ := x_pI_of h
  obtain ⟨x, r, rfl, h⟩ := x_pI_of h
  exact lv_ior hx hb hd ((hK1 _ _ _ _ h).2 hg H locs ls ad hext hrep hS hl (x_wc trivial (x_wt1 (x_wt1 hws))) hwl)

theorem xs_ixor  (hx : p.tables.exec = Jvm.exec) (hb : c0.code = (mt M).2.1) (hK1 : ∀ pc L st w, X (.inl (pc, L, st, w)) → x_gr w w9 ∧ x_WW cl ct fk D cA p l e R s m args below meth c0 A (mt M).2.2.1 ad0 w0 Q pc L st w)  (ok : x_okr cl ct fk ty Ts Nw mt rc vt en M (pc, .ixor, len, a, b, c, v, u)) (h : x_go X rc vt scr tx (.ixor) a b c v u pc L st w) : x_WW cl ct fk D cA p l e R s m args below meth c0 A (mt M).2.2.1 ad0 w0 Q pc L st w := by
  intro hg H locs ls ad hext hrep hS hl hws hwl
  have hd : decode (mt M).2.1 pc = .ok (.ixor, len) := ok.1
  obtain rfl : len = 1 := ok.2
  obtain ⟨y, r, rfl, h⟩ := x_pI_of h
  obtain ⟨x, r, rfl, h⟩ := x_pI_of h
  exact lv_ixor hx hb hd ((hK1 _ _ _ _ h).2 hg H locs ls ad hext hrep hS hl (x_wc trivial (x_wt1 (x_wt1 hws))) hwl)

theorem xs_ishl  (hx : p.tables.exec = Jvm.exec) (hb : c0.code = (mt M).2.1) (hK1 : ∀ pc L st w, X (.inl (pc, L, st, w)) → x_gr w w9 ∧ x_WW cl ct fk D cA p l e R s m args below meth c0 A (mt M).2.2.1 ad0 w0 Q pc L st w)  (ok : x_okr cl ct fk ty Ts Nw mt rc vt en M (pc, .ishl, len, a, b, c, v, u)) (h : x_go X rc vt scr tx (.ishl) a b c v u pc L st w) : x_WW cl ct fk D cA p l e R s m args below meth c0 A (mt M).2.2.1 ad0 w0 Q pc L st w := by
  intro hg H locs ls ad hext hrep hS hl hws hwl
  have hd : decode (mt M).2.1 pc = .ok (.ishl, len) := ok.1
  obtain rfl : len = 1 := ok.2
  obtain ⟨y, r, rfl, h⟩ := x_pI_of h
  obtain ⟨x, r, rfl, h⟩ := x_pI_of h
  exact lv_ishl hx hb hd ((hK1 _ _ _ _ h).2 hg H locs ls ad hext hrep hS hl (x_wc trivial (x_wt1 (x_wt1 hws))) hwl)

theorem xs_iushr  (hx : p.tables.exec = Jvm.exec) (hb : c0.code = (mt M).2.1) (hK1 : ∀ pc L st w, X (.inl (pc, L, st, w)) → x_gr w w9 ∧ x_WW cl ct fk D cA p l e R s m args below meth c0 A (mt M).2.2.1 ad0 w0 Q pc L st w)  (ok : x_okr cl ct fk ty Ts Nw mt rc vt en M (pc, .iushr, len, a, b, c, v, u)) (h : x_go X rc vt scr tx (.iushr) a b c v u pc L st w) : x_WW cl ct fk D cA p l e R s m args below meth c0 A (mt M).2.2.1 ad0 w0 Q pc L st w := by
  intro hg H locs ls ad hext hrep hS hl hws hwl
  have hd : decode (mt M).2.1 pc = .ok (.iushr, len) := ok.1
  obtain rfl : len = 1 := ok.2
  obtain ⟨y, r, rfl, h⟩ := x_pI_of h
  obtain ⟨x, r, rfl, h⟩ := x_pI_of h
  exact lv_iushr hx hb hd rfl ((hK1 _ _ _ _ h).2 hg H locs ls ad hext hrep hS hl (x_wc trivial (x_wt1 (x_wt1 hws))) hwl)

theorem xs_idiv  (hx : p.tables.exec = Jvm.exec) (hb : c0.code = (mt M).2.1) (hK1 : ∀ pc L st w, X (.inl (pc, L, st, w)) → x_gr w w9 ∧ x_WW cl ct fk D cA p l e R s m args below meth c0 A (mt M).2.2.1 ad0 w0 Q pc L st w)  (ok : x_okr cl ct fk ty Ts Nw mt rc vt en M (pc, .idiv, len, a, b, c, v, u)) (h : x_go X rc vt scr tx (.idiv) a b c v u pc L st w) : x_WW cl ct fk D cA p l e R s m args below meth c0 A (mt M).2.2.1 ad0 w0 Q pc L st w := by
  intro hg H locs ls ad hext hrep hS hl hws hwl
  have hd : decode (mt M).2.1 pc = .ok (.idiv, len) := ok.1
  obtain rfl : len = 1 := ok.2
  obtain ⟨y, r, rfl, h⟩ := x_pI_of h
  obtain ⟨x, r, rfl, h⟩ := x_pI_of h
  obtain ⟨hy, h⟩ := h
  exact lv_idiv hx hb hd hy ((hK1 _ _ _ _ h).2 hg H locs ls ad hext hrep hS hl (x_wc trivial (x_wt1 (x_wt1 hws))) hwl)

theorem xs_irem  (hx : p.tables.exec = Jvm.exec) (hb : c0.code = (mt M).2.1) (hK1 : ∀ pc L st w, X (.inl (pc, L, st, w)) → x_gr w w9 ∧ x_WW cl ct fk D cA p l e R s m args below meth c0 A (mt M).2.2.1 ad0 w0 Q pc L st w)  (ok : x_okr cl ct fk ty Ts Nw mt rc vt en M (pc, .irem, len, a, b, c, v, u)) (h : x_go X rc vt scr tx (.irem) a b c v u pc L st w) : x_WW cl ct fk D cA p l e R s m args below meth c0 A (mt M).2.2.1 ad0 w0 Q pc L st w := by
  intro hg H locs ls ad hext hrep hS hl hws hwl
  have hd : decode (mt M).2.1 pc = .ok (.irem, len) := ok.1
  obtain rfl : len = 1 := ok.2
  obtain ⟨y, r, rfl, h⟩ := x_pI_of h
  obtain ⟨x, r, rfl, h⟩ := x_pI_of h
  obtain ⟨hy, h⟩ := h
  exact lv_irem hx hb hd hy ((hK1 _ _ _ _ h).2 hg H locs ls ad hext hrep hS hl (x_wc trivial (x_wt1 (x_wt1 hws))) hwl)

theorem xs_land  (hx : p.tables.exec = Jvm.exec) (hb : c0.code = (mt M).2.1) (hK1 : ∀ pc L st w, X (.inl (pc, L, st, w)) → x_gr w w9 ∧ x_WW cl ct fk D cA p l e R s m args below meth c0 A (mt M).2.2.1 ad0 w0 Q pc L st w)  (ok : x_okr cl ct fk ty Ts Nw mt rc vt en M (pc, .land, len, a, b, c, v, u)) (h : x_go X rc vt scr tx (.land) a b c v u pc L st w) : x_WW cl ct fk D cA p l e R s m args below meth c0 A (mt M).2.2.1 ad0 w0 Q pc L st w := by
  intro hg H locs ls ad hext hrep hS hl hws hwl
  have hd : decode (mt M).2.1 pc = .ok (.land, len) := ok.1
  obtain rfl : len = 1 := ok.2
  obtain ⟨y, r, rfl, h⟩ := x_pL_of h
  obtain ⟨x, r, rfl, h⟩ := x_pL_of h
  exact lv_land hx hb hd ((hK1 _ _ _ _ h).2 hg H locs ls ad hext hrep hS hl (x_wc trivial (x_wt1 (x_wt1 hws))) hwl)

theorem xs_lor  (hx : p.tables.exec = Jvm.exec) (hb : c0.code = (mt M).2.1) (hK1 : ∀ pc L st w, X (.inl (pc, L, st, w)) → x_gr w w9 ∧ x_WW cl ct fk D cA p l e R s m args below meth c0 A (mt M).2.2.1 ad0 w0 Q pc L st w)  (ok : x_okr cl ct fk ty Ts Nw mt rc vt en M (pc, .lor, len, a, b, c, v, u)) (h : x_go X rc vt scr tx (.lor) a b c v u pc L st w) : x_WW cl ct fk D cA p l e R s m args below meth c0 A (mt M).2.2.1 ad0 w0 Q pc L st w := by
  intro hg H locs ls ad hext hrep hS hl hws hwl
  have hd : decode (mt M).2.1 pc = .ok (.lor, len) := ok.1
  obtain rfl : len = 1 := ok.2
  obtain ⟨y, r, rfl, h⟩ := x_pL_of h
  obtain ⟨x, r, rfl, h⟩ := x_pL_of h
  exact lv_lor hx hb hd ((hK1 _ _ _ _ h).2 hg H locs ls ad hext hrep hS hl (x_wc trivial (x_wt1 (x_wt1 hws))) hwl)

theorem xs_lxor  (hx : p.tables.exec = Jvm.exec) (hb : c0.code = (mt M).2.1) (hK1 : ∀ pc L st w, X (.inl (pc, L, st, w)) → x_gr w w9 ∧ x_WW cl ct fk D cA p l e R s m args below meth c0 A (mt M).2.2.1 ad0 w0 Q pc L st w)  (ok : x_okr cl ct fk ty Ts Nw mt rc vt en M (pc, .lxor, len, a, b, c, v, u)) (h : x_go X rc vt scr tx (.lxor) a b c v u pc L st w) : x_WW cl ct fk D cA p l e R s m args below meth c0 A (mt M).2.2.1 ad0 w0 Q pc L st w := by
  intro hg H locs ls ad hext hrep hS hl hws hwl
  have hd : decode (mt M).2.1 pc = .ok (.lxor, len) := ok.1
  obtain rfl : len = 1 := ok.2
  obtain ⟨y, r, rfl, h⟩ := x_pL_of h
  obtain ⟨x, r, rfl, h⟩ := x_pL_of h
  exact lv_lxor hx hb hd ((hK1 _ _ _ _ h).2 hg H locs ls ad hext hrep hS hl (x_wc trivial (x_wt1 (x_wt1 hws))) hwl)

theorem xs_lshl  (hx : p.tables.exec = Jvm.exec) (hb : c0.code = (mt M).2.1) (hK1 : ∀ pc L st w, X (.inl (pc, L, st, w)) → x_gr w w9 ∧ x_WW cl ct fk D cA p l e R s m args below meth c0 A (mt M).2.2.1 ad0 w0 Q pc L st w)  (ok : x_okr cl ct fk ty Ts Nw mt rc vt en M (pc, .lshl, len, a, b, c, v, u)) (h : x_go X rc vt scr tx (.lshl) a b c v u pc L st w) : x_WW cl ct fk D cA p l e R s m args below meth c0 A (mt M).2.2.1 ad0 w0 Q pc L st w := by
  intro hg H locs ls ad hext hrep hS hl hws hwl
  have hd : decode (mt M).2.1 pc = .ok (.lshl, len) := ok.1
  obtain rfl : len = 1 := ok.2
  obtain ⟨y, r, rfl, h⟩ := x_pI_of h
  obtain ⟨x, r, rfl, h⟩ := x_pL_of h
  exact lv_lshl hx hb hd rfl ((hK1 _ _ _ _ h).2 hg H locs ls ad hext hrep hS hl (x_wc trivial (x_wt1 (x_wt1 hws))) hwl)

theorem xs_lshr  (hx : p.tables.exec = Jvm.exec) (hb : c0.code = (mt M).2.1) (hK1 : ∀ pc L st w, X (.inl (pc, L, st, w)) → x_gr w w9 ∧ x_WW cl ct fk D cA p l e R s m args below meth c0 A (mt M).2.2.1 ad0 w0 Q pc L st w)  (ok : x_okr cl ct fk ty Ts Nw mt rc vt en M (pc, .lshr, len, a, b, c, v, u)) (h : x_go X rc vt scr tx (.lshr) a b c v u pc L st w) : x_WW cl ct fk D cA p l e R s m args below meth c0 A (mt M).2.2.1 ad0 w0 Q pc L st w := by
  intro hg H locs ls ad hext hrep hS hl hws hwl
  have hd : decode (mt M).2.1 pc = .ok (.lshr, len) := ok.1
  obtain rfl : len = 1 := ok.2
  obtain ⟨y, r, rfl, h⟩ := x_pI_of h
  obtain ⟨x, r, rfl, h⟩ := x_pL_of h
  exact lv_lshr hx hb hd rfl ((hK1 _ _ _ _ h).2 hg H locs ls ad hext hrep hS hl (x_wc trivial (x_wt1 (x_wt1 hws))) hwl)

theorem xs_lushr  (hx : p.tables.exec = Jvm.exec) (hb : c0.code = (mt M).2.1) (hK1 : ∀ pc L st w, X (.inl (pc, L, st, w)) → x_gr w w9 ∧ x_WW cl ct fk D cA p l e R s m args below meth c0 A (mt M).2.2.1 ad0 w0 Q pc L st w)  (ok : x_okr cl ct fk ty Ts Nw mt rc vt en M (pc, .lushr, len, a, b, c, v, u)) (h : x_go X rc vt scr tx (.lushr) a b c v u pc L st w) : x_WW cl ct fk D cA p l e R s m args below meth c0 A (mt M).2.2.1 ad0 w0 Q pc L st w := by
  intro hg H locs ls ad hext hrep hS hl hws hwl
  have hd : decode (mt M).2.1 pc = .ok (.lushr, len) := ok.1
  obtain rfl : len = 1 := ok.2
  obtain ⟨y, r, rfl, h⟩ := x_pI_of h
  obtain ⟨x, r, rfl, h⟩ := x_pL_of h
  exact lv_lushr hx hb hd rfl ((hK1 _ _ _ _ h).2 hg H locs ls ad hext hrep hS hl (x_wc trivial (x_wt1 (x_wt1 hws))) hwl)

theorem xs_ineg  (hx : p.tables.exec = Jvm.exec) (hb : c0.code = (mt M).2.1) (hK1 : ∀ pc L st w, X (.inl (pc, L, st, w)) → x_gr w w9 ∧ x_WW cl ct fk D cA p l e R s m args below meth c0 A (mt M).2.2.1 ad0 w0 Q pc L st w)  (ok : x_okr cl ct fk ty Ts Nw mt rc vt en M (pc, .ineg, len, a, b, c, v, u)) (h : x_go X rc vt scr tx (.ineg) a b c v u pc L st w) : x_WW cl ct fk D cA p l e R s m args below meth c0 A (mt M).2.2.1 ad0 w0 Q pc L st w := by
  intro hg H locs ls ad hext hrep hS hl hws hwl
  have hd : decode (mt M).2.1 pc = .ok (.ineg, len) := ok.1
  obtain rfl : len = 1 := ok.2
  obtain ⟨x, r, rfl, h⟩ := x_pI_of h
  exact lv_ineg hx hb hd ((hK1 _ _ _ _ h).2 hg H locs ls ad hext hrep hS hl (x_wc trivial (x_wt1 hws)) hwl)

theorem xs_i2l  (hx : p.tables.exec = Jvm.exec) (hb : c0.code = (mt M).2.1) (hK1 : ∀ pc L st w, X (.inl (pc, L, st, w)) → x_gr w w9 ∧ x_WW cl ct fk D cA p l e R s m args below meth c0 A (mt M).2.2.1 ad0 w0 Q pc L st w)  (ok : x_okr cl ct fk ty Ts Nw mt rc vt en M (pc, .i2l, len, a, b, c, v, u)) (h : x_go X rc vt scr tx (.i2l) a b c v u pc L st w) : x_WW cl ct fk D cA p l e R s m args below meth c0 A (mt M).2.2.1 ad0 w0 Q pc L st w := by
  intro hg H locs ls ad hext hrep hS hl hws hwl
  have hd : decode (mt M).2.1 pc = .ok (.i2l, len) := ok.1
  obtain rfl : len = 1 := ok.2
  obtain ⟨x, r, rfl, h⟩ := x_pI_of h
  exact lv_i2l hx hb hd rfl ((hK1 _ _ _ _ h).2 hg H locs ls ad hext hrep hS hl (x_wc trivial (x_wt1 hws)) hwl)

theorem xs_l2i  (hx : p.tables.exec = Jvm.exec) (hb : c0.code = (mt M).2.1) (hK1 : ∀ pc L st w, X (.inl (pc, L, st, w)) → x_gr w w9 ∧ x_WW cl ct fk D cA p l e R s m args below meth c0 A (mt M).2.2.1 ad0 w0 Q pc L st w)  (ok : x_okr cl ct fk ty Ts Nw mt rc vt en M (pc, .l2i, len, a, b, c, v, u)) (h : x_go X rc vt scr tx (.l2i) a b c v u pc L st w) : x_WW cl ct fk D cA p l e R s m args below meth c0 A (mt M).2.2.1 ad0 w0 Q pc L st w := by
  intro hg H locs ls ad hext hrep hS hl hws hwl
  have hd : decode (mt M).2.1 pc = .ok (.l2i, len) := ok.1
  obtain rfl : len = 1 := ok.2
  obtain ⟨x, r, rfl, h⟩ := x_pL_of h
  exact lv_l2i hx hb hd rfl ((hK1 _ _ _ _ h).2 hg H locs ls ad hext hrep hS hl (x_wc trivial (x_wt1 hws)) hwl)

theorem xs_lcmp  (hx : p.tables.exec = Jvm.exec) (hb : c0.code = (mt M).2.1) (hK1 : ∀ pc L st w, X (.inl (pc, L, st, w)) → x_gr w w9 ∧ x_WW cl ct fk D cA p l e R s m args below meth c0 A (mt M).2.2.1 ad0 w0 Q pc L st w)  (ok : x_okr cl ct fk ty Ts Nw mt rc vt en M (pc, .lcmp, len, a, b, c, v, u)) (h : x_go X rc vt scr tx (.lcmp) a b c v u pc L st w) : x_WW cl ct fk D cA p l e R s m args below meth c0 A (mt M).2.2.1 ad0 w0 Q pc L st w := by
  intro hg H locs ls ad hext hrep hS hl hws hwl
  have hd : decode (mt M).2.1 pc = .ok (.lcmp, len) := ok.1
  obtain rfl : len = 1 := ok.2
  obtain ⟨y, r, rfl, h⟩ := x_pL_of h
  obtain ⟨x, r, rfl, h⟩ := x_pL_of h
  exact W.lcmp hx hb hd ((hK1 _ _ _ _ h).2 hg H locs ls ad hext hrep hS hl (x_wc trivial (x_wt1 (x_wt1 hws))) hwl)

theorem xs_iconst {n : Int} (hx : p.tables.exec = Jvm.exec) (hb : c0.code = (mt M).2.1) (hK1 : ∀ pc L st w, X (.inl (pc, L, st, w)) → x_gr w w9 ∧ x_WW cl ct fk D cA p l e R s m args below meth c0 A (mt M).2.2.1 ad0 w0 Q pc L st w)  (ok : x_okr cl ct fk ty Ts Nw mt rc vt en M (pc, .iconst n, len, a, b, c, v, u)) (h : x_go X rc vt scr tx (.iconst n) a b c v u pc L st w) : x_WW cl ct fk D cA p l e R s m args below meth c0 A (mt M).2.2.1 ad0 w0 Q pc L st w := by
  intro hg H locs ls ad hext hrep hS hl hws hwl
  have hd : decode (mt M).2.1 pc = .ok (.iconst n, len) := ok.1
  obtain ⟨rfl, hv⟩ := ok.2
  exact lv_iconst hx hb hd hv ((hK1 _ _ _ _ h).2 hg H locs ls ad hext hrep hS hl (x_wc trivial hws) hwl)

theorem xs_bipush {n : Int} (hx : p.tables.exec = Jvm.exec) (hb : c0.code = (mt M).2.1) (hK1 : ∀ pc L st w, X (.inl (pc, L, st, w)) → x_gr w w9 ∧ x_WW cl ct fk D cA p l e R s m args below meth c0 A (mt M).2.2.1 ad0 w0 Q pc L st w)  (ok : x_okr cl ct fk ty Ts Nw mt rc vt en M (pc, .bipush n, len, a, b, c, v, u)) (h : x_go X rc vt scr tx (.bipush n) a b c v u pc L st w) : x_WW cl ct fk D cA p l e R s m args below meth c0 A (mt M).2.2.1 ad0 w0 Q pc L st w := by
  intro hg H locs ls ad hext hrep hS hl hws hwl
  have hd : decode (mt M).2.1 pc = .ok (.bipush n, len) := ok.1
  obtain ⟨rfl, hv⟩ := ok.2
  exact lv_bipush hx hb hd hv ((hK1 _ _ _ _ h).2 hg H locs ls ad hext hrep hS hl (x_wc trivial hws) hwl)

theorem xs_sipush {n : Int} (hx : p.tables.exec = Jvm.exec) (hb : c0.code = (mt M).2.1) (hK1 : ∀ pc L st w, X (.inl (pc, L, st, w)) → x_gr w w9 ∧ x_WW cl ct fk D cA p l e R s m args below meth c0 A (mt M).2.2.1 ad0 w0 Q pc L st w)  (ok : x_okr cl ct fk ty Ts Nw mt rc vt en M (pc, .sipush n, len, a, b, c, v, u)) (h : x_go X rc vt scr tx (.sipush n) a b c v u pc L st w) : x_WW cl ct fk D cA p l e R s m args below meth c0 A (mt M).2.2.1 ad0 w0 Q pc L st w := by
  intro hg H locs ls ad hext hrep hS hl hws hwl
  have hd : decode (mt M).2.1 pc = .ok (.sipush n, len) := ok.1
  obtain ⟨rfl, hv⟩ := ok.2
  exact lv_sipush hx hb hd hv ((hK1 _ _ _ _ h).2 hg H locs ls ad hext hrep hS hl (x_wc trivial hws) hwl)

theorem xs_lconst {n : Fin 2} (hx : p.tables.exec = Jvm.exec) (hb : c0.code = (mt M).2.1) (hK1 : ∀ pc L st w, X (.inl (pc, L, st, w)) → x_gr w w9 ∧ x_WW cl ct fk D cA p l e R s m args below meth c0 A (mt M).2.2.1 ad0 w0 Q pc L st w)  (ok : x_okr cl ct fk ty Ts Nw mt rc vt en M (pc, .lconst n, len, a, b, c, v, u)) (h : x_go X rc vt scr tx (.lconst n) a b c v u pc L st w) : x_WW cl ct fk D cA p l e R s m args below meth c0 A (mt M).2.2.1 ad0 w0 Q pc L st w := by
  intro hg H locs ls ad hext hrep hS hl hws hwl
  have hd : decode (mt M).2.1 pc = .ok (.lconst n, len) := ok.1
  obtain ⟨rfl, hv⟩ := ok.2
  exact lv_lconst hx hb hd hv ((hK1 _ _ _ _ h).2 hg H locs ls ad hext hrep hS hl (x_wc trivial hws) hwl)

theorem xs_ldc {n : Nat} (hx : p.tables.exec = Jvm.exec) (hb : c0.code = (mt M).2.1) (hK1 : ∀ pc L st w, X (.inl (pc, L, st, w)) → x_gr w w9 ∧ x_WW cl ct fk D cA p l e R s m args below meth c0 A (mt M).2.2.1 ad0 w0 Q pc L st w) (hown : s.vm.findClass (mt M).2.2.2.2 = some m.cls) (hts : ∀ q ∈ Ts, q.before args s = true) (hcon : x_con en scr ad0 A s s.heap) (ok : x_okr cl ct fk ty Ts Nw mt rc vt en M (pc, .ldc n, len, a, b, c, v, u)) (h : x_go X rc vt scr tx (.ldc n) a b c v u pc L st w) : x_WW cl ct fk D cA p l e R s m args below meth c0 A (mt M).2.2.1 ad0 w0 Q pc L st w := by
  intro hg H locs ls ad hext hrep hS hl hws hwl
  have hd : decode (mt M).2.1 pc = .ok (.ldc n, len) := ok.1
  obtain ⟨rfl, ⟨rfl, hv⟩ | ⟨rfl, ho, hv⟩⟩ := ok.2
  · exact lv_ldc hx hb hown (hts _ hv) hd ((hK1 _ _ _ _ h).2 hg H locs ls ad hext hrep hS hl (x_wc trivial hws) hwl)
  · obtain ⟨-, u2, u3, -⟩ := hcon.2.2.2.2
    have ht : ∀ k, ad (x_tx + k) = ad0 (x_tx + k) := fun k => hext _ (Or.inr (by show 1000000 ≤ 1000010 + k; omega))
    have hk := (hK1 _ _ _ _ h).2 hg H locs ls ad hext hrep hS hl (x_wc (Or.inr (by show 1000000 ≤ 1000010 + a; omega)) hws) hwl
    rw [List.map_cons] at hk
    rcases hv with ⟨rfl, rfl⟩ | ⟨rfl, rfl⟩
    · refine va_ldcS (own := "StreamRefuter$Problem") (tx := "p") (q := ad0 (x_tx + 0)) hx hb (by rw [← ho]; exact hown) u2 hd ?_
      rw [← ht]; exact hk
    · refine va_ldcS (own := "StreamRefuter$Problem") (tx := "cnf") (q := ad0 (x_tx + 1)) hx hb (by rw [← ho]; exact hown) u3 hd ?_
      rw [← ht]; exact hk

theorem xs_ldc2 {n : Nat} (hx : p.tables.exec = Jvm.exec) (hb : c0.code = (mt M).2.1) (hK1 : ∀ pc L st w, X (.inl (pc, L, st, w)) → x_gr w w9 ∧ x_WW cl ct fk D cA p l e R s m args below meth c0 A (mt M).2.2.1 ad0 w0 Q pc L st w) (hown : s.vm.findClass (mt M).2.2.2.2 = some m.cls) (hts : ∀ q ∈ Ts, q.before args s = true) (ok : x_okr cl ct fk ty Ts Nw mt rc vt en M (pc, .ldc2_w n, len, a, b, c, v, u)) (h : x_go X rc vt scr tx (.ldc2_w n) a b c v u pc L st w) : x_WW cl ct fk D cA p l e R s m args below meth c0 A (mt M).2.2.1 ad0 w0 Q pc L st w := by
  intro hg H locs ls ad hext hrep hS hl hws hwl
  have hd : decode (mt M).2.1 pc = .ok (.ldc2_w n, len) := ok.1
  obtain ⟨rfl, hv⟩ := ok.2
  exact lv_ldc2 hx hb hown (hts _ hv) hd ((hK1 _ _ _ _ h).2 hg H locs ls ad hext hrep hS hl (x_wc trivial hws) hwl)

theorem xs_iload {n : Nat} (hx : p.tables.exec = Jvm.exec) (hb : c0.code = (mt M).2.1) (hK1 : ∀ pc L st w, X (.inl (pc, L, st, w)) → x_gr w w9 ∧ x_WW cl ct fk D cA p l e R s m args below meth c0 A (mt M).2.2.1 ad0 w0 Q pc L st w)  (ok : x_okr cl ct fk ty Ts Nw mt rc vt en M (pc, .iload n, len, a, b, c, v, u)) (h : x_go X rc vt scr tx (.iload n) a b c v u pc L st w) : x_WW cl ct fk D cA p l e R s m args below meth c0 A (mt M).2.2.1 ad0 w0 Q pc L st w := by
  intro hg H locs ls ad hext hrep hS hl hws hwl
  have hd : decode (mt M).2.1 pc = .ok (.iload n, len) := ok.1
  obtain rfl : len = 2 := ok.2
  obtain ⟨x, hx1, h⟩ := x_gI_of h
  exact lv_iload hx hb hd (hl.2.2 _ _ hx1) ((hK1 _ _ _ _ h).2 hg H locs ls ad hext hrep hS hl (x_wc (hwl _ _ hx1) hws) hwl)

theorem xs_iload_n {n : Fin 4} (hx : p.tables.exec = Jvm.exec) (hb : c0.code = (mt M).2.1) (hK1 : ∀ pc L st w, X (.inl (pc, L, st, w)) → x_gr w w9 ∧ x_WW cl ct fk D cA p l e R s m args below meth c0 A (mt M).2.2.1 ad0 w0 Q pc L st w)  (ok : x_okr cl ct fk ty Ts Nw mt rc vt en M (pc, .iload_n n, len, a, b, c, v, u)) (h : x_go X rc vt scr tx (.iload_n n) a b c v u pc L st w) : x_WW cl ct fk D cA p l e R s m args below meth c0 A (mt M).2.2.1 ad0 w0 Q pc L st w := by
  intro hg H locs ls ad hext hrep hS hl hws hwl
  have hd : decode (mt M).2.1 pc = .ok (.iload_n n, len) := ok.1
  obtain ⟨rfl, hn⟩ := ok.2
  obtain ⟨x, hx1, h⟩ := x_gI_of h
  exact lv_iload_n hx hb hd hn (hl.2.2 _ _ hx1) ((hK1 _ _ _ _ h).2 hg H locs ls ad hext hrep hS hl (x_wc (hwl _ _ hx1) hws) hwl)

theorem xs_lload {n : Nat} (hx : p.tables.exec = Jvm.exec) (hb : c0.code = (mt M).2.1) (hK1 : ∀ pc L st w, X (.inl (pc, L, st, w)) → x_gr w w9 ∧ x_WW cl ct fk D cA p l e R s m args below meth c0 A (mt M).2.2.1 ad0 w0 Q pc L st w)  (ok : x_okr cl ct fk ty Ts Nw mt rc vt en M (pc, .lload n, len, a, b, c, v, u)) (h : x_go X rc vt scr tx (.lload n) a b c v u pc L st w) : x_WW cl ct fk D cA p l e R s m args below meth c0 A (mt M).2.2.1 ad0 w0 Q pc L st w := by
  intro hg H locs ls ad hext hrep hS hl hws hwl
  have hd : decode (mt M).2.1 pc = .ok (.lload n, len) := ok.1
  obtain rfl : len = 2 := ok.2
  obtain ⟨x, hx1, h⟩ := x_gL_of h
  exact lv_lload hx hb hd (hl.2.2 _ _ hx1) ((hK1 _ _ _ _ h).2 hg H locs ls ad hext hrep hS hl (x_wc (hwl _ _ hx1) hws) hwl)

theorem xs_lload_n {n : Fin 4} (hx : p.tables.exec = Jvm.exec) (hb : c0.code = (mt M).2.1) (hK1 : ∀ pc L st w, X (.inl (pc, L, st, w)) → x_gr w w9 ∧ x_WW cl ct fk D cA p l e R s m args below meth c0 A (mt M).2.2.1 ad0 w0 Q pc L st w)  (ok : x_okr cl ct fk ty Ts Nw mt rc vt en M (pc, .lload_n n, len, a, b, c, v, u)) (h : x_go X rc vt scr tx (.lload_n n) a b c v u pc L st w) : x_WW cl ct fk D cA p l e R s m args below meth c0 A (mt M).2.2.1 ad0 w0 Q pc L st w := by
  intro hg H locs ls ad hext hrep hS hl hws hwl
  have hd : decode (mt M).2.1 pc = .ok (.lload_n n, len) := ok.1
  obtain ⟨rfl, hn⟩ := ok.2
  obtain ⟨x, hx1, h⟩ := x_gL_of h
  exact lv_lload_n hx hb hd hn (hl.2.2 _ _ hx1) ((hK1 _ _ _ _ h).2 hg H locs ls ad hext hrep hS hl (x_wc (hwl _ _ hx1) hws) hwl)

theorem xs_aload {n : Nat} (hx : p.tables.exec = Jvm.exec) (hb : c0.code = (mt M).2.1) (hK1 : ∀ pc L st w, X (.inl (pc, L, st, w)) → x_gr w w9 ∧ x_WW cl ct fk D cA p l e R s m args below meth c0 A (mt M).2.2.1 ad0 w0 Q pc L st w)  (ok : x_okr cl ct fk ty Ts Nw mt rc vt en M (pc, .aload n, len, a, b, c, v, u)) (h : x_go X rc vt scr tx (.aload n) a b c v u pc L st w) : x_WW cl ct fk D cA p l e R s m args below meth c0 A (mt M).2.2.1 ad0 w0 Q pc L st w := by
  intro hg H locs ls ad hext hrep hS hl hws hwl
  have hd : decode (mt M).2.1 pc = .ok (.aload n, len) := ok.1
  obtain rfl : len = 2 := ok.2
  obtain ⟨x, hx1, h⟩ := x_gR_of h
  exact lv_aload hx hb hd (hl.2.2 _ _ hx1) ((hK1 _ _ _ _ h).2 hg H locs ls ad hext hrep hS hl (x_wc (hwl _ _ hx1) hws) hwl)

theorem xs_aload_n {n : Fin 4} (hx : p.tables.exec = Jvm.exec) (hb : c0.code = (mt M).2.1) (hK1 : ∀ pc L st w, X (.inl (pc, L, st, w)) → x_gr w w9 ∧ x_WW cl ct fk D cA p l e R s m args below meth c0 A (mt M).2.2.1 ad0 w0 Q pc L st w)  (ok : x_okr cl ct fk ty Ts Nw mt rc vt en M (pc, .aload_n n, len, a, b, c, v, u)) (h : x_go X rc vt scr tx (.aload_n n) a b c v u pc L st w) : x_WW cl ct fk D cA p l e R s m args below meth c0 A (mt M).2.2.1 ad0 w0 Q pc L st w := by
  intro hg H locs ls ad hext hrep hS hl hws hwl
  have hd : decode (mt M).2.1 pc = .ok (.aload_n n, len) := ok.1
  obtain ⟨rfl, hn⟩ := ok.2
  obtain ⟨x, hx1, h⟩ := x_gR_of h
  exact lv_aload_n hx hb hd hn (hl.2.2 _ _ hx1) ((hK1 _ _ _ _ h).2 hg H locs ls ad hext hrep hS hl (x_wc (hwl _ _ hx1) hws) hwl)

theorem xs_istore {n : Nat} (hx : p.tables.exec = Jvm.exec) (hb : c0.code = (mt M).2.1) (hK1 : ∀ pc L st w, X (.inl (pc, L, st, w)) → x_gr w w9 ∧ x_WW cl ct fk D cA p l e R s m args below meth c0 A (mt M).2.2.1 ad0 w0 Q pc L st w)  (ok : x_okr cl ct fk ty Ts Nw mt rc vt en M (pc, .istore n, len, a, b, c, v, u)) (h : x_go X rc vt scr tx (.istore n) a b c v u pc L st w) : x_WW cl ct fk D cA p l e R s m args below meth c0 A (mt M).2.2.1 ad0 w0 Q pc L st w := by
  intro hg H locs ls ad hext hrep hS hl hws hwl
  have hd : decode (mt M).2.1 pc = .ok (.istore n, len) := ok.1
  obtain ⟨rfl, hn⟩ := ok.2
  obtain ⟨x, r, rfl, h⟩ := x_pI_of h
  exact lv_istore hx hb hd (x_lh_as hl) hn rfl (fun ls1 h1 => ((hK1 _ _ _ _ h).2 hg H locs ls1 ad hext hrep hS (x_lh_st1 (v := .int x) h1) (x_wt1 hws) (x_wl1 (x_wh hws) hwl)))

theorem xs_istore_n {n : Fin 4} (hx : p.tables.exec = Jvm.exec) (hb : c0.code = (mt M).2.1) (hK1 : ∀ pc L st w, X (.inl (pc, L, st, w)) → x_gr w w9 ∧ x_WW cl ct fk D cA p l e R s m args below meth c0 A (mt M).2.2.1 ad0 w0 Q pc L st w)  (ok : x_okr cl ct fk ty Ts Nw mt rc vt en M (pc, .istore_n n, len, a, b, c, v, u)) (h : x_go X rc vt scr tx (.istore_n n) a b c v u pc L st w) : x_WW cl ct fk D cA p l e R s m args below meth c0 A (mt M).2.2.1 ad0 w0 Q pc L st w := by
  intro hg H locs ls ad hext hrep hS hl hws hwl
  have hd : decode (mt M).2.1 pc = .ok (.istore_n n, len) := ok.1
  obtain ⟨rfl, hn, hn2⟩ := ok.2
  obtain ⟨x, r, rfl, h⟩ := x_pI_of h
  exact lv_istore_n hx hb hd hn (x_lh_as hl) hn2 rfl (fun ls1 h1 => ((hK1 _ _ _ _ h).2 hg H locs ls1 ad hext hrep hS (x_lh_st1 (v := .int x) h1) (x_wt1 hws) (x_wl1 (x_wh hws) hwl)))

theorem xs_astore {n : Nat} (hx : p.tables.exec = Jvm.exec) (hb : c0.code = (mt M).2.1) (hK1 : ∀ pc L st w, X (.inl (pc, L, st, w)) → x_gr w w9 ∧ x_WW cl ct fk D cA p l e R s m args below meth c0 A (mt M).2.2.1 ad0 w0 Q pc L st w)  (ok : x_okr cl ct fk ty Ts Nw mt rc vt en M (pc, .astore n, len, a, b, c, v, u)) (h : x_go X rc vt scr tx (.astore n) a b c v u pc L st w) : x_WW cl ct fk D cA p l e R s m args below meth c0 A (mt M).2.2.1 ad0 w0 Q pc L st w := by
  intro hg H locs ls ad hext hrep hS hl hws hwl
  have hd : decode (mt M).2.1 pc = .ok (.astore n, len) := ok.1
  obtain ⟨rfl, hn⟩ := ok.2
  obtain ⟨x, r, rfl, h⟩ := x_pR_of h
  exact lv_astore hx hb hd (x_lh_as hl) hn rfl (fun ls1 h1 => ((hK1 _ _ _ _ h).2 hg H locs ls1 ad hext hrep hS (x_lh_st1 (v := .ref x) h1) (x_wt1 hws) (x_wl1 (x_wh hws) hwl)))

theorem xs_astore_n {n : Fin 4} (hx : p.tables.exec = Jvm.exec) (hb : c0.code = (mt M).2.1) (hK1 : ∀ pc L st w, X (.inl (pc, L, st, w)) → x_gr w w9 ∧ x_WW cl ct fk D cA p l e R s m args below meth c0 A (mt M).2.2.1 ad0 w0 Q pc L st w)  (ok : x_okr cl ct fk ty Ts Nw mt rc vt en M (pc, .astore_n n, len, a, b, c, v, u)) (h : x_go X rc vt scr tx (.astore_n n) a b c v u pc L st w) : x_WW cl ct fk D cA p l e R s m args below meth c0 A (mt M).2.2.1 ad0 w0 Q pc L st w := by
  intro hg H locs ls ad hext hrep hS hl hws hwl
  have hd : decode (mt M).2.1 pc = .ok (.astore_n n, len) := ok.1
  obtain ⟨rfl, hn, hn2⟩ := ok.2
  obtain ⟨x, r, rfl, h⟩ := x_pR_of h
  exact lv_astore_n hx hb hd hn (x_lh_as hl) hn2 rfl (fun ls1 h1 => ((hK1 _ _ _ _ h).2 hg H locs ls1 ad hext hrep hS (x_lh_st1 (v := .ref x) h1) (x_wt1 hws) (x_wl1 (x_wh hws) hwl)))

theorem xs_lstore {n : Nat} (hx : p.tables.exec = Jvm.exec) (hb : c0.code = (mt M).2.1) (hK1 : ∀ pc L st w, X (.inl (pc, L, st, w)) → x_gr w w9 ∧ x_WW cl ct fk D cA p l e R s m args below meth c0 A (mt M).2.2.1 ad0 w0 Q pc L st w)  (ok : x_okr cl ct fk ty Ts Nw mt rc vt en M (pc, .lstore n, len, a, b, c, v, u)) (h : x_go X rc vt scr tx (.lstore n) a b c v u pc L st w) : x_WW cl ct fk D cA p l e R s m args below meth c0 A (mt M).2.2.1 ad0 w0 Q pc L st w := by
  intro hg H locs ls ad hext hrep hS hl hws hwl
  have hd : decode (mt M).2.1 pc = .ok (.lstore n, len) := ok.1
  obtain ⟨rfl, hn⟩ := ok.2
  obtain ⟨x, r, rfl, h⟩ := x_pL_of h
  exact lv_lstore hx hb hd (x_lh_as hl) hn rfl (fun ls1 h1 => ((hK1 _ _ _ _ h).2 hg H locs ls1 ad hext hrep hS (x_lh_st2 (v := .long x) h1) (x_wt1 hws) (x_wl2 (x_wh hws) hwl)))

theorem xs_lstore_n {n : Fin 4} (hx : p.tables.exec = Jvm.exec) (hb : c0.code = (mt M).2.1) (hK1 : ∀ pc L st w, X (.inl (pc, L, st, w)) → x_gr w w9 ∧ x_WW cl ct fk D cA p l e R s m args below meth c0 A (mt M).2.2.1 ad0 w0 Q pc L st w)  (ok : x_okr cl ct fk ty Ts Nw mt rc vt en M (pc, .lstore_n n, len, a, b, c, v, u)) (h : x_go X rc vt scr tx (.lstore_n n) a b c v u pc L st w) : x_WW cl ct fk D cA p l e R s m args below meth c0 A (mt M).2.2.1 ad0 w0 Q pc L st w := by
  intro hg H locs ls ad hext hrep hS hl hws hwl
  have hd : decode (mt M).2.1 pc = .ok (.lstore_n n, len) := ok.1
  obtain ⟨rfl, hn, hn2⟩ := ok.2
  obtain ⟨x, r, rfl, h⟩ := x_pL_of h
  exact lv_lstore_n hx hb hd hn (x_lh_as hl) hn2 rfl (fun ls1 h1 => ((hK1 _ _ _ _ h).2 hg H locs ls1 ad hext hrep hS (x_lh_st2 (v := .long x) h1) (x_wt1 hws) (x_wl2 (x_wh hws) hwl)))

theorem xs_iinc {n : Nat} {i : Int} (hx : p.tables.exec = Jvm.exec) (hb : c0.code = (mt M).2.1) (hK1 : ∀ pc L st w, X (.inl (pc, L, st, w)) → x_gr w w9 ∧ x_WW cl ct fk D cA p l e R s m args below meth c0 A (mt M).2.2.1 ad0 w0 Q pc L st w)  (ok : x_okr cl ct fk ty Ts Nw mt rc vt en M (pc, .iinc n i, len, a, b, c, v, u)) (h : x_go X rc vt scr tx (.iinc n i) a b c v u pc L st w) : x_WW cl ct fk D cA p l e R s m args below meth c0 A (mt M).2.2.1 ad0 w0 Q pc L st w := by
  intro hg H locs ls ad hext hrep hS hl hws hwl
  have hd : decode (mt M).2.1 pc = .ok (.iinc n i, len) := ok.1
  obtain ⟨rfl, hn, hv⟩ := ok.2
  obtain ⟨x, hx1, h⟩ := x_gI_of h
  obtain ⟨k, hk⟩ := List.getElem?_of_mem ((x_as_in (ad := ad) L 0 (n, .int x)).mpr ⟨n, .int x, hx1, by rw [Nat.zero_add]; rfl⟩)
  subst hv
  exact lv_iinc hx hb hd (x_lh_as hl) hk rfl hn rfl (fun ls1 h1 => ((hK1 _ _ _ _ h).2 hg H locs ls1 ad hext hrep hS (x_lh_st1 (v := .int (x + Int32.ofInt i)) h1) hws (x_wl1 trivial hwl)))

theorem xs_dup  (hx : p.tables.exec = Jvm.exec) (hb : c0.code = (mt M).2.1) (hK1 : ∀ pc L st w, X (.inl (pc, L, st, w)) → x_gr w w9 ∧ x_WW cl ct fk D cA p l e R s m args below meth c0 A (mt M).2.2.1 ad0 w0 Q pc L st w)  (ok : x_okr cl ct fk ty Ts Nw mt rc vt en M (pc, .dup, len, a, b, c, v, u)) (h : x_go X rc vt scr tx (.dup) a b c v u pc L st w) : x_WW cl ct fk D cA p l e R s m args below meth c0 A (mt M).2.2.1 ad0 w0 Q pc L st w := by
  intro hg H locs ls ad hext hrep hS hl hws hwl
  have hd : decode (mt M).2.1 pc = .ok (.dup, len) := ok.1
  obtain rfl : len = 1 := ok.2
  have h0 : x_pV st (fun x r => x_K X (pc + 1) L (x :: x :: r) w) := h
  obtain ⟨x, r, rfl, hc, h, -⟩ := x_pV_of h0
  exact lv_dup hx hb hd (by rw [x_cat_cv]; cases x <;> first | rfl | cases hc) ((hK1 _ _ _ _ h).2 hg H locs ls ad hext hrep hS hl (x_wc (x_wh hws) hws) hwl)

theorem xs_pop  (hx : p.tables.exec = Jvm.exec) (hb : c0.code = (mt M).2.1) (hK1 : ∀ pc L st w, X (.inl (pc, L, st, w)) → x_gr w w9 ∧ x_WW cl ct fk D cA p l e R s m args below meth c0 A (mt M).2.2.1 ad0 w0 Q pc L st w)  (ok : x_okr cl ct fk ty Ts Nw mt rc vt en M (pc, .pop, len, a, b, c, v, u)) (h : x_go X rc vt scr tx (.pop) a b c v u pc L st w) : x_WW cl ct fk D cA p l e R s m args below meth c0 A (mt M).2.2.1 ad0 w0 Q pc L st w := by
  intro hg H locs ls ad hext hrep hS hl hws hwl
  have hd : decode (mt M).2.1 pc = .ok (.pop, len) := ok.1
  obtain rfl : len = 1 := ok.2
  have h0 : x_pV st (fun _ r => x_K X (pc + 1) L r w) := h
  obtain ⟨x, r, rfl, hc, h, -⟩ := x_pV_of h0
  exact lv_pop hx hb hd (by rw [x_cat_cv]; cases x <;> first | rfl | cases hc) ((hK1 _ _ _ _ h).2 hg H locs ls ad hext hrep hS hl (x_wt1 hws) hwl)

theorem xs_dup2  (hx : p.tables.exec = Jvm.exec) (hb : c0.code = (mt M).2.1) (hK1 : ∀ pc L st w, X (.inl (pc, L, st, w)) → x_gr w w9 ∧ x_WW cl ct fk D cA p l e R s m args below meth c0 A (mt M).2.2.1 ad0 w0 Q pc L st w)  (ok : x_okr cl ct fk ty Ts Nw mt rc vt en M (pc, .dup2, len, a, b, c, v, u)) (h : x_go X rc vt scr tx (.dup2) a b c v u pc L st w) : x_WW cl ct fk D cA p l e R s m args below meth c0 A (mt M).2.2.1 ad0 w0 Q pc L st w := by
  intro hg H locs ls ad hext hrep hS hl hws hwl
  have hd : decode (mt M).2.1 pc = .ok (.dup2, len) := ok.1
  obtain rfl : len = 1 := ok.2
  obtain ⟨y, r, rfl, h⟩ := x_pI_of h
  obtain ⟨x, r, rfl, h⟩ := x_pR_of h
  exact lv_dup2_11 hx hb hd rfl rfl ((hK1 _ _ _ _ h).2 hg H locs ls ad hext hrep hS hl (x_wc trivial (x_wc (x_wh (x_wt1 hws)) hws)) hwl)

theorem xs_ifCond {cd : ClassFile.Cond} {off : Int} (hx : p.tables.exec = Jvm.exec) (hb : c0.code = (mt M).2.1) (hK1 : ∀ pc L st w, X (.inl (pc, L, st, w)) → x_gr w w9 ∧ x_WW cl ct fk D cA p l e R s m args below meth c0 A (mt M).2.2.1 ad0 w0 Q pc L st w)  (ok : x_okr cl ct fk ty Ts Nw mt rc vt en M (pc, .ifCond cd off, len, a, b, c, v, u)) (h : x_go X rc vt scr tx (.ifCond cd off) a b c v u pc L st w) : x_WW cl ct fk D cA p l e R s m args below meth c0 A (mt M).2.2.1 ad0 w0 Q pc L st w := by
  intro hg H locs ls ad hext hrep hS hl hws hwl
  have hd : decode (mt M).2.1 pc = .ok (.ifCond cd off, len) := ok.1
  obtain ⟨rfl, ht⟩ := ok.2
  obtain ⟨x, r, rfl, h⟩ := x_pI_of h
  obtain ⟨h1, h2⟩ := h
  cases cd
  · exact lv_if_eq hx hb hd ht (fun q => ((hK1 _ _ _ _ (h1 q)).2 hg H locs ls ad hext hrep hS hl (x_wt1 hws) hwl)) (fun q => ((hK1 _ _ _ _ (h2 q)).2 hg H locs ls ad hext hrep hS hl (x_wt1 hws) hwl))
  · exact lv_if_ne hx hb hd ht (fun q => ((hK1 _ _ _ _ (h1 q)).2 hg H locs ls ad hext hrep hS hl (x_wt1 hws) hwl)) (fun q => ((hK1 _ _ _ _ (h2 (fun z => z q))).2 hg H locs ls ad hext hrep hS hl (x_wt1 hws) hwl))
  · exact lv_if_lt hx hb hd ht (fun q => ((hK1 _ _ _ _ (h1 q)).2 hg H locs ls ad hext hrep hS hl (x_wt1 hws) hwl)) (fun q => ((hK1 _ _ _ _ (h2 q)).2 hg H locs ls ad hext hrep hS hl (x_wt1 hws) hwl))
  · exact lv_if_ge hx hb hd ht (fun q => ((hK1 _ _ _ _ (h1 q)).2 hg H locs ls ad hext hrep hS hl (x_wt1 hws) hwl)) (fun q => ((hK1 _ _ _ _ (h2 q)).2 hg H locs ls ad hext hrep hS hl (x_wt1 hws) hwl))
  · exact lv_if_gt hx hb hd ht (fun q => ((hK1 _ _ _ _ (h1 q)).2 hg H locs ls ad hext hrep hS hl (x_wt1 hws) hwl)) (fun q => ((hK1 _ _ _ _ (h2 q)).2 hg H locs ls ad hext hrep hS hl (x_wt1 hws) hwl))
  · exact lv_if_le hx hb hd ht (fun q => ((hK1 _ _ _ _ (h1 q)).2 hg H locs ls ad hext hrep hS hl (x_wt1 hws) hwl)) (fun q => ((hK1 _ _ _ _ (h2 q)).2 hg H locs ls ad hext hrep hS hl (x_wt1 hws) hwl))

theorem xs_if_icmp {cd : ClassFile.Cond} {off : Int} (hx : p.tables.exec = Jvm.exec) (hb : c0.code = (mt M).2.1) (hK1 : ∀ pc L st w, X (.inl (pc, L, st, w)) → x_gr w w9 ∧ x_WW cl ct fk D cA p l e R s m args below meth c0 A (mt M).2.2.1 ad0 w0 Q pc L st w)  (ok : x_okr cl ct fk ty Ts Nw mt rc vt en M (pc, .if_icmp cd off, len, a, b, c, v, u)) (h : x_go X rc vt scr tx (.if_icmp cd off) a b c v u pc L st w) : x_WW cl ct fk D cA p l e R s m args below meth c0 A (mt M).2.2.1 ad0 w0 Q pc L st w := by
  intro hg H locs ls ad hext hrep hS hl hws hwl
  have hd : decode (mt M).2.1 pc = .ok (.if_icmp cd off, len) := ok.1
  obtain ⟨rfl, ht⟩ := ok.2
  obtain ⟨y, r, rfl, h⟩ := x_pI_of h
  obtain ⟨x, r, rfl, h⟩ := x_pI_of h
  obtain ⟨h1, h2⟩ := h
  cases cd
  · exact lv_icmp_eq hx hb hd ht (fun q => ((hK1 _ _ _ _ (h1 q)).2 hg H locs ls ad hext hrep hS hl (x_wt1 (x_wt1 hws)) hwl)) (fun q => ((hK1 _ _ _ _ (h2 q)).2 hg H locs ls ad hext hrep hS hl (x_wt1 (x_wt1 hws)) hwl))
  · exact lv_icmp_ne hx hb hd ht (fun q => ((hK1 _ _ _ _ (h1 q)).2 hg H locs ls ad hext hrep hS hl (x_wt1 (x_wt1 hws)) hwl)) (fun q => ((hK1 _ _ _ _ (h2 (fun z => z q))).2 hg H locs ls ad hext hrep hS hl (x_wt1 (x_wt1 hws)) hwl))
  · exact lv_icmp_lt hx hb hd ht (fun q => ((hK1 _ _ _ _ (h1 q)).2 hg H locs ls ad hext hrep hS hl (x_wt1 (x_wt1 hws)) hwl)) (fun q => ((hK1 _ _ _ _ (h2 q)).2 hg H locs ls ad hext hrep hS hl (x_wt1 (x_wt1 hws)) hwl))
  · exact lv_icmp_ge hx hb hd ht (fun q => ((hK1 _ _ _ _ (h1 q)).2 hg H locs ls ad hext hrep hS hl (x_wt1 (x_wt1 hws)) hwl)) (fun q => ((hK1 _ _ _ _ (h2 q)).2 hg H locs ls ad hext hrep hS hl (x_wt1 (x_wt1 hws)) hwl))
  · exact lv_icmp_gt hx hb hd ht (fun q => ((hK1 _ _ _ _ (h1 q)).2 hg H locs ls ad hext hrep hS hl (x_wt1 (x_wt1 hws)) hwl)) (fun q => ((hK1 _ _ _ _ (h2 q)).2 hg H locs ls ad hext hrep hS hl (x_wt1 (x_wt1 hws)) hwl))
  · exact lv_icmp_le hx hb hd ht (fun q => ((hK1 _ _ _ _ (h1 q)).2 hg H locs ls ad hext hrep hS hl (x_wt1 (x_wt1 hws)) hwl)) (fun q => ((hK1 _ _ _ _ (h2 q)).2 hg H locs ls ad hext hrep hS hl (x_wt1 (x_wt1 hws)) hwl))

theorem xs_goto {off : Int} (hx : p.tables.exec = Jvm.exec) (hb : c0.code = (mt M).2.1) (hK1 : ∀ pc L st w, X (.inl (pc, L, st, w)) → x_gr w w9 ∧ x_WW cl ct fk D cA p l e R s m args below meth c0 A (mt M).2.2.1 ad0 w0 Q pc L st w)  (ok : x_okr cl ct fk ty Ts Nw mt rc vt en M (pc, .goto off, len, a, b, c, v, u)) (h : x_go X rc vt scr tx (.goto off) a b c v u pc L st w) : x_WW cl ct fk D cA p l e R s m args below meth c0 A (mt M).2.2.1 ad0 w0 Q pc L st w := by
  intro hg H locs ls ad hext hrep hS hl hws hwl
  have hd : decode (mt M).2.1 pc = .ok (.goto off, len) := ok.1
  obtain ⟨rfl, ht⟩ := ok.2
  exact lv_goto hx hb hd ht ((hK1 _ _ _ _ h).2 hg H locs ls ad hext hrep hS hl hws hwl)

end X8
end
section
/-! One step of the JVM for each row of code: cells, calls, ends. -/
theorem x_fv_0 {fk : Nat → Nat → Nat} {ad : Nat → Nat} {w : xW} {o a b : Nat} (h : fk a b = 0) : x_fv fk ad w o a b = .int (x_i w o b) := by unfold x_fv; rw [h]
theorem x_fv_1 {fk : Nat → Nat → Nat} {ad : Nat → Nat} {w : xW} {o a b : Nat} (h : fk a b = 1) : x_fv fk ad w o a b = .long (x_j w o b) := by unfold x_fv; rw [h]
theorem x_fv_2 {fk : Nat → Nat → Nat} {ad : Nat → Nat} {w : xW} {o a b k : Nat} (h : fk a b = k + 2) : x_fv fk ad w o a b = x_rv ad (x_r w o b) := by unfold x_fv; rw [h]
section X8
variable {cl : List vw_C} {ct : Nat → vw_C} {fk : Nat → Nat → Nat} {ty : Nat → Nat → FieldType} {Ts Nw : List Cond} {mt : Nat → xM} {en : Nat → String × String × String} {P : xP} {l : Launch} {D : va_G} {cA : Nat → ClassId} {scr : Nat × (Nat → Int32)} {rc : Nat → Nat} {vt : Nat → Nat × Nat × Nat × Nat} {tx : Nat → List Int32}
variable {p : Program} {e : Env} {R : Room} {s : State} {m : MethodId} {args : Array Value} {below : List Frame} {meth : Method} {c0 : Code} {A : Nat → Prop} {ad0 : Nat → Nat} {w0 w9 : xW} {v9 : Option Value} {X : xT → Prop} {M : Nat} {Q : State → Prop}
variable {pc len a b c : Nat} {v : Int32} {u : Int64} {L : xL} {st : List Value} {w : xW}


set_option maxHeartbeats 1000000 in
theorem xs_if_acmp {off : Int} (hx : p.tables.exec = Jvm.exec) (hb : c0.code = (mt M).2.1) (hK1 : ∀ pc L st w, X (.inl (pc, L, st, w)) → x_gr w w9 ∧ x_WW cl ct fk D cA p l e R s m args below meth c0 A (mt M).2.2.1 ad0 w0 Q pc L st w) (hcon : x_con en scr ad0 A s s.heap) (ok : x_okr cl ct fk ty Ts Nw mt rc vt en M (pc, .if_acmp .ne off, len, a, b, c, v, u)) (h : x_go X rc vt scr tx (.if_acmp .ne off) a b c v u pc L st w) : x_WW cl ct fk D cA p l e R s m args below meth c0 A (mt M).2.2.1 ad0 w0 Q pc L st w := by
  intro hg H locs ls ad hext hrep hS hl hws hwl
  have hd : decode (mt M).2.1 pc = .ok (.if_acmp .ne off, len) := ok.1
  obtain ⟨rfl, ht⟩ := ok.2
  obtain ⟨y, r, e9, h9⟩ := x_pR_of h
  subst e9
  replace h := h9
  obtain ⟨x, r, e9, h9⟩ := x_pR_of h
  subst e9
  replace h := h9
  obtain ⟨⟨q1, q2, q3, q4⟩, h1, h2⟩ := h
  have hinj : ad x = ad y → x = y := by
    intro he
    have e1 := hext x (Or.inr (by have : x_sc = 1000000 := rfl; have : x_en = 1000001 := rfl; omega))
    have e2 := hext y (Or.inr (by have : x_sc = 1000000 := rfl; have : x_en = 1000001 := rfl; omega))
    rw [e1, e2] at he
    have := hcon.2.2.1 (x - x_en) (y - x_en) (by omega) (by omega) (by rw [Nat.add_sub_cancel' q1, Nat.add_sub_cancel' q3]; exact he)
    exact (Nat.add_sub_cancel' q1).symm.trans ((congrArg (x_en + ·) this).trans (Nat.add_sub_cancel' q3))
  refine lv_acmp_ne (rx := some (ad x)) (ry := some (ad y)) hx hb hd ht (fun q => ?_) (fun q => ?_)
  · exact (hK1 _ _ _ _ (h1 fun z => q (by rw [z]))).2 hg H locs ls ad hext hrep hS hl (x_wt1 (x_wt1 hws)) hwl
  · exact (hK1 _ _ _ _ (h2 fun z => z (hinj (Option.some.inj q)))).2 hg H locs ls ad hext hrep hS hl (x_wt1 (x_wt1 hws)) hwl

set_option maxHeartbeats 1000000 in
theorem xs_tableswitch {d lo hi : Int} {offs : Array Int} (hx : p.tables.exec = Jvm.exec) (hb : c0.code = (mt M).2.1) (hK1 : ∀ pc L st w, X (.inl (pc, L, st, w)) → x_gr w w9 ∧ x_WW cl ct fk D cA p l e R s m args below meth c0 A (mt M).2.2.1 ad0 w0 Q pc L st w)  (ok : x_okr cl ct fk ty Ts Nw mt rc vt en M (pc, .tableswitch d lo hi offs, len, a, b, c, v, u)) (h : x_go X rc vt scr tx (.tableswitch d lo hi offs) a b c v u pc L st w) : x_WW cl ct fk D cA p l e R s m args below meth c0 A (mt M).2.2.1 ad0 w0 Q pc L st w := by
  intro hg H locs ls ad hext hrep hS hl hws hwl
  have hd : decode (mt M).2.1 pc = .ok (.tableswitch d lo hi offs, len) := ok.1
  obtain ⟨⟨t, ht⟩, hoffs⟩ := ok.2
  obtain ⟨x, r, e9, h9⟩ := x_pI_of h
  subst e9
  replace h := h9
  rcases x_br_of h with ⟨hc, h⟩ | ⟨hc, h⟩
  · have et : ((pc : Int) + d).toNat = t := by rw [ht]; rfl
    have h : X (.inl (((pc : Int) + d).toNat, L, r, w)) := h
    rw [et] at h
    exact lv_tableOut hx hb hd hc ht ((hK1 _ _ _ _ h).2 hg H locs ls ad hext hrep hS hl (x_wt1 hws) hwl)
  · obtain ⟨o, ho, h⟩ := x_som_of h
    obtain ⟨t2, ht2⟩ := hoffs _ _ ho
    have et : ((pc : Int) + o).toNat = t2 := by rw [ht2]; rfl
    have h : X (.inl (((pc : Int) + o).toNat, L, r, w)) := h
    rw [et] at h
    exact lv_tableIn hx hb hd (fun q => hc (Or.inl q)) (fun q => hc (Or.inr q)) ho ht2 ((hK1 _ _ _ _ h).2 hg H locs ls ad hext hrep hS hl (x_wt1 hws) hwl)

set_option maxHeartbeats 1000000 in
theorem xs_getfield {i : Nat} (hx : p.tables.exec = Jvm.exec) (hb : c0.code = (mt M).2.1) (hK1 : ∀ pc L st w, X (.inl (pc, L, st, w)) → x_gr w w9 ∧ x_WW cl ct fk D cA p l e R s m args below meth c0 A (mt M).2.2.1 ad0 w0 Q pc L st w) (hown : s.vm.findClass (mt M).2.2.2.2 = some m.cls) (hts : ∀ q ∈ Ts, q.before args s = true) (hK : va_K D cl (x_tys cA) s) (ok : x_okr cl ct fk ty Ts Nw mt rc vt en M (pc, .getfield i, len, a, b, c, v, u)) (h : x_go X rc vt scr tx (.getfield i) a b c v u pc L st w) : x_WW cl ct fk D cA p l e R s m args below meth c0 A (mt M).2.2.1 ad0 w0 Q pc L st w := by
  intro hg H locs ls ad hext hrep hS hl hws hwl
  have hd : decode (mt M).2.1 pc = .ok (.getfield i, len) := ok.1
  obtain ⟨rfl, ok2⟩ := ok.2
  obtain ⟨o, r, e9, h9⟩ := x_pR_of h
  subst e9
  replace h := h9
  obtain ⟨hk, h⟩ := h
  obtain ⟨a, ha, hk⟩ := x_kd_of hk
  obtain ⟨hcf, hfl, hfk⟩ := ok2 a ha
  refine x_getI hx hb hts hcf hfl hown hK hrep hk hd ?_
  rcases x_sw_of h with ⟨hc, h1⟩ | ⟨hc, h1⟩
  · rw [x_fv_0 (hfk.trans hc)]
    exact (hK1 _ _ _ _ h1).2 hg H locs ls ad hext hrep hS hl (x_wc trivial (x_wt1 hws)) hwl
  rcases x_sw_of h1 with ⟨hc2, h2⟩ | ⟨hc2, h2⟩
  · rw [x_fv_1 (hfk.trans (by omega))]
    exact (hK1 _ _ _ _ h2).2 hg H locs ls ad hext hrep hS hl (x_wc trivial (x_wt1 hws)) hwl
  · obtain ⟨hn, h3⟩ := h2
    have hrv : x_rv ad (x_r w o b) = .ref (ad (x_r w o b)) := by
      cases hz : x_r w o b with
      | zero => exact absurd hz hn
      | succ j => rfl
    rw [x_fv_2 (k := c - 2) (hfk.trans (by omega)), hrv]
    exact (hK1 _ _ _ _ h3).2 hg H locs ls ad hext hrep hS hl (x_wc (Or.inl (by rcases hrep.2.2.2 o b with q | q; exact absurd q hn; exact q)) (x_wt1 hws)) hwl

set_option maxHeartbeats 2000000 in
theorem xs_putfield {i : Nat} (hx : p.tables.exec = Jvm.exec) (hb : c0.code = (mt M).2.1) (hK1 : ∀ pc L st w, X (.inl (pc, L, st, w)) → x_gr w w9 ∧ x_WW cl ct fk D cA p l e R s m args below meth c0 A (mt M).2.2.1 ad0 w0 Q pc L st w) (hown : s.vm.findClass (mt M).2.2.2.2 = some m.cls) (hts : ∀ q ∈ Ts, q.before args s = true) (hK : va_K D cl (x_tys cA) s) (hnm : meth.name = (mt M).1.name) (ok : x_okr cl ct fk ty Ts Nw mt rc vt en M (pc, .putfield i, len, a, b, c, v, u)) (h : x_go X rc vt scr tx (.putfield i) a b c v u pc L st w) : x_WW cl ct fk D cA p l e R s m args below meth c0 A (mt M).2.2.1 ad0 w0 Q pc L st w := by
  intro hg H locs ls ad hext hrep hS hl hws hwl
  have hd : decode (mt M).2.1 pc = .ok (.putfield i, len) := ok.1
  obtain ⟨rfl, ok2⟩ := ok.2
  have hfin' : ∀ a', (((ct a').2.1 b).2.2.2 = false ∨ (((ct a').2.1 b).2.2.2 = true ∧ (mt M).1.name = "<init>" ∧ ((ct a').2.1 b).1 = (mt M).2.2.2.2)) → (((ct a').2.1 b).2.2.2 = false ∨ (((ct a').2.1 b).2.2.2 = true ∧ meth.name = "<init>" ∧ ((ct a').2.1 b).1 = (mt M).2.2.2.2)) := by
    intro a' hfin
    rcases hfin with q | ⟨q1, q2, q3⟩
    · exact Or.inl q
    · exact Or.inr ⟨q1, hnm.trans q2, q3⟩
  rcases x_sw_of h with ⟨hc, h⟩ | ⟨hc, h⟩
  · obtain ⟨x, r, e9, h9⟩ := x_pI_of h
    subst e9
    replace h := h9
    obtain ⟨o, r, e9, h9⟩ := x_pR_of h
    subst e9
    replace h := h9
    obtain ⟨hk, h⟩ := h
    obtain ⟨a', ha, hk⟩ := x_kd_of hk
    obtain ⟨hcf, hfl, hfin, hty⟩ := ok2 a' ha
    obtain ⟨ht, hf0⟩ : ty a' b = .int ∧ fk a' b = 0 := by
      rcases hty with ⟨-, q⟩ | ⟨q, -⟩ | ⟨q, -⟩ | ⟨q, -⟩
      · exact q
      all_goals omega
    refine x_put (w' := x_si w o b x) (v := .int x) hx hb hts hcf hfl (hfin' a' hfin) hown hK hrep hS hk ht rfl rfl rfl rfl (fun i hi => x_ce_si hi) (by unfold x_fv; rw [hf0]; show Value.int (x_up (x_i w) o b x o b) = _; rw [x_up_s]) (fun k hkb => ?_) hrep.2.2.2 hd (fun H1 locs1 hrep1 hS1 => (hK1 _ _ _ _ h).2 hg H1 locs1 ls ad hext hrep1 hS1 hl (x_wt1 (x_wt1 hws)) hwl)
    unfold x_fv
    have : x_i (x_si w o b x) o k = x_i w o k := x_up_k hkb
    rw [this]; rfl
  rcases x_sw_of h with ⟨hc1, h⟩ | ⟨hc1, h⟩
  · obtain ⟨x, r, e9, h9⟩ := x_pL_of h
    subst e9
    replace h := h9
    obtain ⟨o, r, e9, h9⟩ := x_pR_of h
    subst e9
    replace h := h9
    obtain ⟨hk, h⟩ := h
    obtain ⟨a', ha, hk⟩ := x_kd_of hk
    obtain ⟨hcf, hfl, hfin, hty⟩ := ok2 a' ha
    obtain ⟨ht, hf0⟩ : ty a' b = .long ∧ fk a' b = 1 := by
      rcases hty with ⟨q, -⟩ | ⟨-, q⟩ | ⟨q, -⟩ | ⟨q, -⟩
      · omega
      · exact q
      all_goals omega
    refine x_put (w' := x_sj w o b x) (v := .long x) hx hb hts hcf hfl (hfin' a' hfin) hown hK hrep hS hk ht rfl rfl rfl rfl (fun i hi => x_ce_sj hi) (by unfold x_fv; rw [hf0]; show Value.long (x_up (x_j w) o b x o b) = _; rw [x_up_s]) (fun k hkb => ?_) hrep.2.2.2 hd (fun H1 locs1 hrep1 hS1 => (hK1 _ _ _ _ h).2 hg H1 locs1 ls ad hext hrep1 hS1 hl (x_wt1 (x_wt1 hws)) hwl)
    unfold x_fv
    have : x_j (x_sj w o b x) o k = x_j w o k := x_up_k hkb
    rw [this]; rfl
  rcases x_sw_of h with ⟨hc2, h⟩ | ⟨hc2, h⟩
  · obtain ⟨x, r, e9, h9⟩ := x_pR_of h
    subst e9
    replace h := h9
    obtain ⟨o, r, e9, h9⟩ := x_pR_of h
    subst e9
    replace h := h9
    obtain ⟨⟨hk, hx0, hxN⟩, h⟩ := h
    obtain ⟨a', ha, hk⟩ := x_kd_of hk
    obtain ⟨hcf, hfl, hfin, hty⟩ := ok2 a' ha
    have hf0 : fk a' b = 2 := by
      rcases hty with ⟨q, -⟩ | ⟨q, -⟩ | ⟨-, q⟩ | ⟨q, -⟩
      · omega
      · omega
      · exact q
      · omega
    have hv : x_fv fk ad (x_sr w o b x) o a' b = .ref (ad x) := by
      unfold x_fv; rw [hf0]
      show x_rv ad (x_up (x_r w) o b x o b) = _
      rw [x_up_s]
      cases x with
      | zero => exact absurd rfl hx0
      | succ j => rfl
    have hr : ∀ o' k, x_r (x_sr w o b x) o' k = 0 ∨ x_r (x_sr w o b x) o' k < x_N w := by
      intro o' k
      show x_up (x_r w) o b x o' k = 0 ∨ x_up (x_r w) o b x o' k < x_N w
      by_cases e1 : o' = o
      · subst e1
        by_cases e2 : k = b
        · subst e2; rw [x_up_s]; exact Or.inr hxN
        · rw [x_up_k e2]; exact hrep.2.2.2 o' k
      · rw [x_up_o e1]; exact hrep.2.2.2 o' k
    have hft := hcf.2.2.2.2.2 b hfl.1
    have htt : (∃ C, ty a' b = .object C) ∨ ∃ t, ty a' b = .array t := by
      rcases hft with ⟨q, -⟩ | ⟨q, -⟩ | ⟨-, q⟩
      · rw [hf0] at q; cases q
      · rw [hf0] at q; cases q
      · exact q
    have hne : ∀ k, ¬ k = b → x_fv fk ad (x_sr w o b x) o a' k = x_fv fk ad w o a' k := by
      intro k hkb
      unfold x_fv
      have : x_r (x_sr w o b x) o k = x_r w o k := x_up_k hkb
      rw [this]; rfl
    rcases htt with ⟨C, ht⟩ | ⟨t, ht⟩
    · exact x_put (w' := x_sr w o b x) (v := .ref (ad x)) hx hb hts hcf hfl (hfin' a' hfin) hown hK hrep hS hk ht rfl rfl rfl rfl (fun i hi => x_ce_sr hi) hv hne hr hd (fun H1 locs1 hrep1 hS1 => (hK1 _ _ _ _ h).2 hg H1 locs1 ls ad hext hrep1 hS1 hl (x_wt1 (x_wt1 hws)) hwl)
    · exact x_put (w' := x_sr w o b x) (v := .ref (ad x)) hx hb hts hcf hfl (hfin' a' hfin) hown hK hrep hS hk ht rfl rfl rfl rfl (fun i hi => x_ce_sr hi) hv hne hr hd (fun H1 locs1 hrep1 hS1 => (hK1 _ _ _ _ h).2 hg H1 locs1 ls ad hext hrep1 hS1 hl (x_wt1 (x_wt1 hws)) hwl)
  · obtain ⟨x, r, e9, h9⟩ := x_pI_of h
    subst e9
    replace h := h9
    obtain ⟨o, r, e9, h9⟩ := x_pR_of h
    subst e9
    replace h := h9
    obtain ⟨⟨hk, hx01⟩, h⟩ := h
    obtain ⟨a', ha, hk⟩ := x_kd_of hk
    obtain ⟨hcf, hfl, hfin, hty⟩ := ok2 a' ha
    obtain ⟨ht, hf0⟩ : ty a' b = .boolean ∧ fk a' b = 0 := by
      rcases hty with ⟨q, -⟩ | ⟨q, -⟩ | ⟨q, -⟩ | ⟨-, q⟩
      · omega
      · omega
      · omega
      · exact q
    have hn : narrow .boolean (.int x) = .int x := by rcases hx01 with rfl | rfl <;> decide +kernel
    have hft : fits .boolean (.int x) = true := by rcases hx01 with rfl | rfl <;> decide +kernel
    refine x_put (w' := x_si w o b x) (v := .int x) hx hb hts hcf hfl (hfin' a' hfin) hown hK hrep hS hk ht hn hft rfl rfl (fun i hi => x_ce_si hi) (by unfold x_fv; rw [hf0]; show Value.int (x_up (x_i w) o b x o b) = _; rw [x_up_s]) (fun k hkb => ?_) hrep.2.2.2 hd (fun H1 locs1 hrep1 hS1 => (hK1 _ _ _ _ h).2 hg H1 locs1 ls ad hext hrep1 hS1 hl (x_wt1 (x_wt1 hws)) hwl)
    unfold x_fv
    have : x_i (x_si w o b x) o k = x_i w o k := x_up_k hkb
    rw [this]; rfl

set_option maxHeartbeats 1000000 in
theorem xs_getstatic {i : Nat} (hx : p.tables.exec = Jvm.exec) (hb : c0.code = (mt M).2.1) (hK1 : ∀ pc L st w, X (.inl (pc, L, st, w)) → x_gr w w9 ∧ x_WW cl ct fk D cA p l e R s m args below meth c0 A (mt M).2.2.1 ad0 w0 Q pc L st w) (hown : s.vm.findClass (mt M).2.2.2.2 = some m.cls) (hts : ∀ q ∈ Ts, q.before args s = true) (hcon : x_con en scr ad0 A s s.heap) (ok : x_okr cl ct fk ty Ts Nw mt rc vt en M (pc, .getstatic i, len, a, b, c, v, u)) (h : x_go X rc vt scr tx (.getstatic i) a b c v u pc L st w) : x_WW cl ct fk D cA p l e R s m args below meth c0 A (mt M).2.2.1 ad0 w0 Q pc L st w := by
  intro hg H locs ls ad hext hrep hS hl hws hwl
  have hd : decode (mt M).2.1 pc = .ok (.getstatic i, len) := ok.1
  obtain ⟨rfl, ha, ref, h1, h2⟩ := ok.2
  refine va_gets (A := A) hx hb (hcon.2.1 a ha) hS hown (hts _ h1) (fun x hx => by rw [← h2]; exact hx) hd ?_
  have e1 : ad (x_en + a) = ad0 (x_en + a) := hext _ (Or.inr (by show 1000000 ≤ 1000001 + a; omega))
  rw [← e1]
  exact (hK1 _ _ _ _ h).2 hg H locs ls ad hext hrep hS hl (x_wc (Or.inr (by show 1000000 ≤ 1000001 + a; omega)) hws) hwl

set_option maxHeartbeats 1000000 in
theorem xs_iaload  (hx : p.tables.exec = Jvm.exec) (hb : c0.code = (mt M).2.1) (hK1 : ∀ pc L st w, X (.inl (pc, L, st, w)) → x_gr w w9 ∧ x_WW cl ct fk D cA p l e R s m args below meth c0 A (mt M).2.2.1 ad0 w0 Q pc L st w) (hK : va_K D cl (x_tys cA) s) (hcon : x_con en scr ad0 A s s.heap) (ok : x_okr cl ct fk ty Ts Nw mt rc vt en M (pc, .iaload, len, a, b, c, v, u)) (h : x_go X rc vt scr tx (.iaload) a b c v u pc L st w) : x_WW cl ct fk D cA p l e R s m args below meth c0 A (mt M).2.2.1 ad0 w0 Q pc L st w := by
  intro hg H locs ls ad hext hrep hS hl hws hwl
  have hd : decode (mt M).2.1 pc = .ok (.iaload, len) := ok.1
  obtain rfl : len = 1 := ok.2
  obtain ⟨i, r, e9, h9⟩ := x_pI_of h
  subst e9
  replace h := h9
  obtain ⟨o, r, e9, h9⟩ := x_pR_of h
  subst e9
  replace h := h9
  rcases x_sw_of h with ⟨-, ⟨hk, hin⟩, h9⟩ | ⟨-, ⟨ho, hin⟩, h9⟩ <;> replace h := h9
  · have ho := x_in hrep hk (by omega)
    exact va_iald hx hb hK hrep.1 o 0 (by rw [x_wd_at ho, x_ce_0 hk]) rfl hin hd ((hK1 _ _ _ _ h).2 hg H locs ls ad hext hrep hS hl (x_wc trivial (x_wt1 (x_wt1 hws))) hwl)
  · subst ho
    have e1 : ad x_sc = ad0 x_sc := hext _ (Or.inr (Nat.le_refl _))
    show W p l e R s m args below meth c0 H locs _ _ Q (F0 m pc ls (.int i :: .ref (ad x_sc) :: _))
    rw [e1]
    exact va_sld (A := A) hx hb hcon.1.1 hcon.1.2.1 hcon.1.2.2 hS hin hd ((hK1 _ _ _ _ h).2 hg H locs ls ad hext hrep hS hl (x_wc trivial (x_wt1 (x_wt1 hws))) hwl)

set_option maxHeartbeats 1000000 in
theorem xs_baload  (hx : p.tables.exec = Jvm.exec) (hb : c0.code = (mt M).2.1) (hK1 : ∀ pc L st w, X (.inl (pc, L, st, w)) → x_gr w w9 ∧ x_WW cl ct fk D cA p l e R s m args below meth c0 A (mt M).2.2.1 ad0 w0 Q pc L st w) (hK : va_K D cl (x_tys cA) s) (ok : x_okr cl ct fk ty Ts Nw mt rc vt en M (pc, .baload, len, a, b, c, v, u)) (h : x_go X rc vt scr tx (.baload) a b c v u pc L st w) : x_WW cl ct fk D cA p l e R s m args below meth c0 A (mt M).2.2.1 ad0 w0 Q pc L st w := by
  intro hg H locs ls ad hext hrep hS hl hws hwl
  have hd : decode (mt M).2.1 pc = .ok (.baload, len) := ok.1
  obtain rfl : len = 1 := ok.2
  obtain ⟨i, r, e9, h9⟩ := x_pI_of h
  subst e9
  replace h := h9
  obtain ⟨o, r, e9, h9⟩ := x_pR_of h
  subst e9
  replace h := h9
  obtain ⟨⟨hk, hin⟩, h⟩ := h
  have ho := x_in hrep hk (by omega)
  exact va_zald hx hb hK hrep.1 o 1 (by rw [x_wd_at ho, x_ce_1 hk]) rfl hin hd ((hK1 _ _ _ _ h).2 hg H locs ls ad hext hrep hS hl (x_wc trivial (x_wt1 (x_wt1 hws))) hwl)

set_option maxHeartbeats 1000000 in
theorem xs_laload  (hx : p.tables.exec = Jvm.exec) (hb : c0.code = (mt M).2.1) (hK1 : ∀ pc L st w, X (.inl (pc, L, st, w)) → x_gr w w9 ∧ x_WW cl ct fk D cA p l e R s m args below meth c0 A (mt M).2.2.1 ad0 w0 Q pc L st w) (hK : va_K D cl (x_tys cA) s) (ok : x_okr cl ct fk ty Ts Nw mt rc vt en M (pc, .laload, len, a, b, c, v, u)) (h : x_go X rc vt scr tx (.laload) a b c v u pc L st w) : x_WW cl ct fk D cA p l e R s m args below meth c0 A (mt M).2.2.1 ad0 w0 Q pc L st w := by
  intro hg H locs ls ad hext hrep hS hl hws hwl
  have hd : decode (mt M).2.1 pc = .ok (.laload, len) := ok.1
  obtain rfl : len = 1 := ok.2
  obtain ⟨i, r, e9, h9⟩ := x_pI_of h
  subst e9
  replace h := h9
  obtain ⟨o, r, e9, h9⟩ := x_pR_of h
  subst e9
  replace h := h9
  obtain ⟨⟨hk, hin⟩, h⟩ := h
  have ho := x_in hrep hk (by omega)
  exact va_lald hx hb hK hrep.1 o 2 (by rw [x_wd_at ho, x_ce_2 hk]) rfl hin hd ((hK1 _ _ _ _ h).2 hg H locs ls ad hext hrep hS hl (x_wc trivial (x_wt1 (x_wt1 hws))) hwl)

set_option maxHeartbeats 1000000 in
theorem xs_iastore  (hx : p.tables.exec = Jvm.exec) (hb : c0.code = (mt M).2.1) (hK1 : ∀ pc L st w, X (.inl (pc, L, st, w)) → x_gr w w9 ∧ x_WW cl ct fk D cA p l e R s m args below meth c0 A (mt M).2.2.1 ad0 w0 Q pc L st w) (hK : va_K D cl (x_tys cA) s) (ok : x_okr cl ct fk ty Ts Nw mt rc vt en M (pc, .iastore, len, a, b, c, v, u)) (h : x_go X rc vt scr tx (.iastore) a b c v u pc L st w) : x_WW cl ct fk D cA p l e R s m args below meth c0 A (mt M).2.2.1 ad0 w0 Q pc L st w := by
  intro hg H locs ls ad hext hrep hS hl hws hwl
  have hd : decode (mt M).2.1 pc = .ok (.iastore, len) := ok.1
  obtain rfl : len = 1 := ok.2
  obtain ⟨x, r, e9, h9⟩ := x_pI_of h
  subst e9
  replace h := h9
  obtain ⟨i, r, e9, h9⟩ := x_pI_of h
  subst e9
  replace h := h9
  obtain ⟨o, r, e9, h9⟩ := x_pR_of h
  subst e9
  replace h := h9
  obtain ⟨⟨hk, hin⟩, h⟩ := h
  exact x_iast hx hb hK hrep hS hk hin hd (fun H1 locs1 hrep1 hS1 => (hK1 _ _ _ _ h).2 hg H1 locs1 ls ad hext hrep1 hS1 hl (x_wt1 (x_wt1 (x_wt1 hws))) hwl)

set_option maxHeartbeats 1000000 in
theorem xs_bastore  (hx : p.tables.exec = Jvm.exec) (hb : c0.code = (mt M).2.1) (hK1 : ∀ pc L st w, X (.inl (pc, L, st, w)) → x_gr w w9 ∧ x_WW cl ct fk D cA p l e R s m args below meth c0 A (mt M).2.2.1 ad0 w0 Q pc L st w) (hK : va_K D cl (x_tys cA) s) (ok : x_okr cl ct fk ty Ts Nw mt rc vt en M (pc, .bastore, len, a, b, c, v, u)) (h : x_go X rc vt scr tx (.bastore) a b c v u pc L st w) : x_WW cl ct fk D cA p l e R s m args below meth c0 A (mt M).2.2.1 ad0 w0 Q pc L st w := by
  intro hg H locs ls ad hext hrep hS hl hws hwl
  have hd : decode (mt M).2.1 pc = .ok (.bastore, len) := ok.1
  obtain rfl : len = 1 := ok.2
  obtain ⟨x, r, e9, h9⟩ := x_pI_of h
  subst e9
  replace h := h9
  obtain ⟨i, r, e9, h9⟩ := x_pI_of h
  subst e9
  replace h := h9
  obtain ⟨o, r, e9, h9⟩ := x_pR_of h
  subst e9
  replace h := h9
  obtain ⟨⟨hk, hin, hx01⟩, h⟩ := h
  exact x_zast hx hb hK hrep hS hk hin hx01 hd (fun H1 locs1 hrep1 hS1 => (hK1 _ _ _ _ h).2 hg H1 locs1 ls ad hext hrep1 hS1 hl (x_wt1 (x_wt1 (x_wt1 hws))) hwl)

set_option maxHeartbeats 1000000 in
theorem xs_lastore  (hx : p.tables.exec = Jvm.exec) (hb : c0.code = (mt M).2.1) (hK1 : ∀ pc L st w, X (.inl (pc, L, st, w)) → x_gr w w9 ∧ x_WW cl ct fk D cA p l e R s m args below meth c0 A (mt M).2.2.1 ad0 w0 Q pc L st w) (hK : va_K D cl (x_tys cA) s) (ok : x_okr cl ct fk ty Ts Nw mt rc vt en M (pc, .lastore, len, a, b, c, v, u)) (h : x_go X rc vt scr tx (.lastore) a b c v u pc L st w) : x_WW cl ct fk D cA p l e R s m args below meth c0 A (mt M).2.2.1 ad0 w0 Q pc L st w := by
  intro hg H locs ls ad hext hrep hS hl hws hwl
  have hd : decode (mt M).2.1 pc = .ok (.lastore, len) := ok.1
  obtain rfl : len = 1 := ok.2
  obtain ⟨x, r, e9, h9⟩ := x_pL_of h
  subst e9
  replace h := h9
  obtain ⟨i, r, e9, h9⟩ := x_pI_of h
  subst e9
  replace h := h9
  obtain ⟨o, r, e9, h9⟩ := x_pR_of h
  subst e9
  replace h := h9
  obtain ⟨⟨hk, hin⟩, h⟩ := h
  exact x_last hx hb hK hrep hS hk hin hd (fun H1 locs1 hrep1 hS1 => (hK1 _ _ _ _ h).2 hg H1 locs1 ls ad hext hrep1 hS1 hl (x_wt1 (x_wt1 (x_wt1 hws))) hwl)

set_option maxHeartbeats 1000000 in
theorem xs_arraylength  (hx : p.tables.exec = Jvm.exec) (hb : c0.code = (mt M).2.1) (hK1 : ∀ pc L st w, X (.inl (pc, L, st, w)) → x_gr w w9 ∧ x_WW cl ct fk D cA p l e R s m args below meth c0 A (mt M).2.2.1 ad0 w0 Q pc L st w) (hK : va_K D cl (x_tys cA) s) (hcon : x_con en scr ad0 A s s.heap) (ok : x_okr cl ct fk ty Ts Nw mt rc vt en M (pc, .arraylength, len, a, b, c, v, u)) (h : x_go X rc vt scr tx (.arraylength) a b c v u pc L st w) : x_WW cl ct fk D cA p l e R s m args below meth c0 A (mt M).2.2.1 ad0 w0 Q pc L st w := by
  intro hg H locs ls ad hext hrep hS hl hws hwl
  have hd : decode (mt M).2.1 pc = .ok (.arraylength, len) := ok.1
  obtain rfl : len = 1 := ok.2
  obtain ⟨o, r, e9, h9⟩ := x_pR_of h
  subst e9
  replace h := h9
  rcases x_sw_of h with ⟨-, hk, h9⟩ | ⟨-, ho, h9⟩ <;> replace h := h9
  · have ho := x_in hrep hk (by omega)
    exact va_alen (x := (x_l w o, .inl (x_i w o))) hx hb hK hrep.1 o 0 (by rw [x_wd_at ho, x_ce_0 hk]) (ty := .int) rfl rfl hd ((hK1 _ _ _ _ h).2 hg H locs ls ad hext hrep hS hl (x_wc trivial (x_wt1 hws)) hwl)
  · subst ho
    have e1 : ad x_sc = ad0 x_sc := hext _ (Or.inr (Nat.le_refl _))
    show W p l e R s m args below meth c0 H locs _ _ Q (F0 m pc ls (.ref (ad x_sc) :: _))
    rw [e1]
    exact va_slen (A := A) hx hb hcon.1.1 hcon.1.2.1 hcon.1.2.2 hS hd ((hK1 _ _ _ _ h).2 hg H locs ls ad hext hrep hS hl (x_wc trivial (x_wt1 hws)) hwl)

end X8
end
section
/-! One step of the JVM for each row of code: new cells, calls, ends. -/
section X8
variable {cl : List vw_C} {ct : Nat → vw_C} {fk : Nat → Nat → Nat} {ty : Nat → Nat → FieldType} {Ts Nw : List Cond} {mt : Nat → xM} {en : Nat → String × String × String} {P : xP} {l : Launch} {D : va_G} {cA : Nat → ClassId} {scr : Nat × (Nat → Int32)} {rc : Nat → Nat} {vt : Nat → Nat × Nat × Nat × Nat} {tx : Nat → List Int32}
variable {p : Program} {e : Env} {R : Room} {s : State} {m : MethodId} {args : Array Value} {below : List Frame} {meth : Method} {c0 : Code} {A : Nat → Prop} {ad0 : Nat → Nat} {w0 w9 : xW} {v9 : Option Value} {X : xT → Prop} {M : Nat} {Q : State → Prop}
variable {pc len a b c : Nat} {v : Int32} {u : Int64} {L : xL} {st : List Value} {w : xW}


set_option maxHeartbeats 1000000 in
theorem xs_new {i : Nat} (hx : p.tables.exec = Jvm.exec) (hb : c0.code = (mt M).2.1) (hK1 : ∀ pc L st w, X (.inl (pc, L, st, w)) → x_gr w w9 ∧ x_WW cl ct fk D cA p l e R s m args below meth c0 A (mt M).2.2.1 ad0 w0 Q pc L st w) (hown : s.vm.findClass (mt M).2.2.2.2 = some m.cls) (hts : ∀ q ∈ Ts, q.before args s = true) (hK : va_K D cl (x_tys cA) s) (hA : ∀ q, s.heap.size ≤ q → A q) (hR : P.2.1 M + 2 ≤ R.frames ∧ 33 * P.2.1 M + 100 ≤ R.locals ∧ x_C w9 - x_C w0 ≤ R.cells ∧ x_S w9 - x_S w0 ≤ R.slots) (hT1 : ¬ c = 0 → st = [] → X (.inr (.inr (.inr (a, x_lost w 6)))) → x_WW cl ct fk D cA p l e R s m args below meth c0 A (mt M).2.2.1 ad0 w0 Q pc L st w) (ok : x_okr cl ct fk ty Ts Nw mt rc vt en M (pc, .new i, len, a, b, c, v, u)) (h : x_go X rc vt scr tx (.new i) a b c v u pc L st w) : x_WW cl ct fk D cA p l e R s m args below meth c0 A (mt M).2.2.1 ad0 w0 Q pc L st w := by
  intro hg H locs ls ad hext hrep hS hl hws hwl
  have hd : decode (mt M).2.1 pc = .ok (.new i, len) := ok.1
  obtain ⟨rfl, ok2⟩ := ok.2
  rcases x_sw_of h with ⟨hc, hN, h⟩ | ⟨hc, h⟩
  · obtain ⟨hcf, rfl, o1, o2, o3⟩ := ok2 hc
    obtain ⟨h1, h2, h3, h4, h5, h6⟩ := hcf
    have hgr := (hK1 _ _ _ _ h).1
    have g1 : x_C w + 1 ≤ x_C w9 := hgr.2.1
    have g2 : x_S w + (ct a).2.2 ≤ x_S w9 := hgr.2.2
    have g3 := hg.2.1
    have g4 := hg.2.2
    have hfs : ∀ j, j < (ct a).2.2 → defaultValue (ty a j) = vp_V ((List.range (ct a).2.2).map (x_fv fk ad (x_new w (a + 3) (ct a).2.2 (ct a).2.2) (x_N w) a)) j := by
      intro j hj
      have e1 : vp_V ((List.range (ct a).2.2).map (x_fv fk ad (x_new w (a + 3) (ct a).2.2 (ct a).2.2) (x_N w) a)) j = x_fv fk ad (x_new w (a + 3) (ct a).2.2 (ct a).2.2) (x_N w) a j := by
        unfold vp_V
        rw [List.getD_eq_getElem?_getD, x_fv_at hj]
        rfl
      rw [e1]
      unfold x_fv
      have z1 : x_i (x_new w (a + 3) (ct a).2.2 (ct a).2.2) (x_N w) j = 0 := by simp [x_i, x_new, x_row]
      have z2 : x_j (x_new w (a + 3) (ct a).2.2 (ct a).2.2) (x_N w) j = 0 := by simp [x_j, x_new, x_row]
      have z3 : x_r (x_new w (a + 3) (ct a).2.2 (ct a).2.2) (x_N w) j = 0 := by simp [x_r, x_new, x_row]
      rcases h6 j hj with ⟨q1, q2 | q2⟩ | ⟨q1, q2⟩ | ⟨q1, ⟨C, q2⟩ | ⟨t, q2⟩⟩
      · rw [q1, q2, z1]; rfl
      · rw [q1, q2, z1]; rfl
      · rw [q1, q2, z2]; rfl
      · rw [q1, q2, z3]; rfl
      · rw [q1, q2, z3]; rfl
    refine va_new (ci := a) (C := (ct a).1) (T := (ct a).2.1) (N := (ct a).2.2) hx hb hts h3 (ty a) h4 hown (hts _ o1) (hts _ o2) (hts _ o3) hK hrep.1 hrep.2.1 hS hA h1 hfs (Nat.le_trans (by omega) hR.2.2.1) (Nat.le_trans (by omega) hR.2.2.2) hd (fun q H1 hP hD hS1 => ?_)
    have hkN : x_k (x_new w (a + 3) (ct a).2.2 (ct a).2.2) (x_N w) = a + 3 := by simp [x_k, x_new, x_row]
    have hrep1 := x_made (kind := a + 3) (len := (ct a).2.2) (n := (ct a).2.2) (q := q) hN hrep (x := .inr (a, (List.range (ct a).2.2).map (x_fv fk ad (x_new w (a + 3) (ct a).2.2 (ct a).2.2) (x_N w) a))) (by
      rw [x_ce_obj hkN]
      congr 2
      apply List.map_congr_left
      intro j hj
      unfold x_fv
      have z3 : x_r (x_new w (a + 3) (ct a).2.2 (ct a).2.2) (x_N w) j = 0 := by simp [x_r, x_new, x_row]
      rw [z3]; rfl) hP hD
    have hx1 : x_ext (x_N w) ad (x_adN ad (x_N w) q) := x_adN_ext hN
    have hw1 : ∀ v ∈ st, x_wf (x_N w + 1) v := fun v hv => x_wf_le (Nat.le_succ _) (hws v hv)
    refine W.cs (cells' := x_C (x_new w (a + 3) (ct a).2.2 (ct a).2.2) - x_C w0) (slots' := x_S (x_new w (a + 3) (ct a).2.2 (ct a).2.2) - x_S w0) (by show _ = x_C w + 1 - x_C w0; omega) (by show _ = x_S w + (ct a).2.2 - x_S w0; omega) ?_
    have k1 := (hK1 _ _ _ _ h).2 (x_gr_tr hg ⟨Nat.le_succ _, Nat.le_succ _, Nat.le_add_right _ _⟩) H1 locs ls (x_adN ad (x_N w) q) (x_ext_tr hg.1 hext hx1) hrep1 hS1 (x_lh_ext hx1 hl hwl) (x_wc (Or.inl (Nat.lt_succ_self _)) hw1) (fun i v hv => x_wf_le (Nat.le_succ _) (hwl i v hv))
    rw [List.map_cons, x_st_ext hx1 hws] at k1
    have e2 : x_cv (x_adN ad (x_N w) q) (.ref (x_N w)) = .ref q := by show Value.ref _ = _; rw [x_adN_s]
    rw [e2] at k1
    exact k1
  · obtain ⟨hnil, h⟩ := x_nil_of h
    exact hT1 hc hnil h hg H locs ls ad hext hrep hS hl hws hwl

set_option maxHeartbeats 1000000 in
theorem xs_newarray {t : ArrayType} (hx : p.tables.exec = Jvm.exec) (hb : c0.code = (mt M).2.1) (hK1 : ∀ pc L st w, X (.inl (pc, L, st, w)) → x_gr w w9 ∧ x_WW cl ct fk D cA p l e R s m args below meth c0 A (mt M).2.2.1 ad0 w0 Q pc L st w) (hown : s.vm.findClass (mt M).2.2.2.2 = some m.cls) (hts : ∀ q ∈ Ts, q.before args s = true) (hK : va_K D cl (x_tys cA) s) (hA : ∀ q, s.heap.size ≤ q → A q) (hR : P.2.1 M + 2 ≤ R.frames ∧ 33 * P.2.1 M + 100 ≤ R.locals ∧ x_C w9 - x_C w0 ≤ R.cells ∧ x_S w9 - x_S w0 ≤ R.slots) (ok : x_okr cl ct fk ty Ts Nw mt rc vt en M (pc, .newarray t, len, a, b, c, v, u)) (h : x_go X rc vt scr tx (.newarray t) a b c v u pc L st w) : x_WW cl ct fk D cA p l e R s m args below meth c0 A (mt M).2.2.1 ad0 w0 Q pc L st w := by
  intro hg H locs ls ad hext hrep hS hl hws hwl
  have hd : decode (mt M).2.1 pc = .ok (.newarray t, len) := ok.1
  obtain ⟨rfl, o1, o2⟩ := ok.2
  obtain ⟨x, r, e9, h9⟩ := x_pI_of h
  subst e9
  replace h := h9
  obtain ⟨⟨hx0, hx1, hN⟩, h⟩ := h
  have hgr := (hK1 _ _ _ _ h).1
  have g1 : x_C w + 1 ≤ x_C w9 := hgr.2.1
  have g2 : x_S w + x.toNatClampNeg ≤ x_S w9 := hgr.2.2
  have g3 := hg.2.1
  have g4 := hg.2.2
  have hlen : x.toNatClampNeg ≤ 20000 := by
    have h0 : x.toInt ≤ (20000 : Int32).toInt := Int32.le_iff_toInt_le.mp hx1
    have h1 : (20000 : Int32).toInt = 20000 := by decide +kernel
    unfold Int32.toNatClampNeg
    omega
  have main : ∀ (ft : FieldType) (a0 : vp_A) (hft : newarray.typeOf t = ft) (ha0 : ∀ cN : ClassId, vp_cell cN a0 = arrV cN x.toNatClampNeg (fun _ => defaultValue ft)) (hkk : (x_tys cA)[a]? = some (cA a, ft)) (hno : ∀ C, ¬ ft = .object C) (hbyt : componentBytes ft ≤ 8)
      (hce : ∀ ad', x_ce cA (fun a => (ct a).2.2) fk ad' (x_new w a x.toNatClampNeg x.toNatClampNeg) (x_N w) = .inl (cA a, a0)),
      W p l e R s m args below meth c0 H locs (x_C w - x_C w0) (x_S w - x_S w0) Q (F0 m pc ls (.int x :: r.map (x_cv ad))) := by
    intro ft a0 hft ha0 hkk hno hbyt hce
    refine va_newa hx hb (hts _ o1) hft hK hrep.1 hrep.2.1 hS hA ha0 hx0 rfl (by
      have : x.toNatClampNeg * componentBytes ft ≤ 20000 * 8 := Nat.mul_le_mul hlen hbyt
      omega) (Nat.le_trans (by omega) hR.2.2.1) (Nat.le_trans (by omega) hR.2.2.2) hd (fun q cN H1 hK2 hP hD hS1 => ?_)
    obtain rfl : cN = cA a := x_kA hK hK2 hkk hno
    have hrep1 := x_made (kind := a) (len := x.toNatClampNeg) (n := x.toNatClampNeg) (q := q) hN hrep (hce _) hP hD
    have hx1 : x_ext (x_N w) ad (x_adN ad (x_N w) q) := x_adN_ext hN
    have hw1 : ∀ v ∈ r, x_wf (x_N w + 1) v := fun v hv => x_wf_le (Nat.le_succ _) (x_wt1 hws v hv)
    refine W.cs (cells' := x_C (x_new w a x.toNatClampNeg x.toNatClampNeg) - x_C w0) (slots' := x_S (x_new w a x.toNatClampNeg x.toNatClampNeg) - x_S w0) (by show _ = x_C w + 1 - x_C w0; omega) (by show _ = x_S w + x.toNatClampNeg - x_S w0; omega) ?_
    have k1 := (hK1 _ _ _ _ h).2 (x_gr_tr hg ⟨Nat.le_succ _, Nat.le_succ _, Nat.le_add_right _ _⟩) H1 locs ls (x_adN ad (x_N w) q) (x_ext_tr hg.1 hext hx1) hrep1 hS1 (x_lh_ext hx1 hl hwl) (x_wc (Or.inl (Nat.lt_succ_self _)) hw1) (fun i v hv => x_wf_le (Nat.le_succ _) (hwl i v hv))
    rw [List.map_cons, x_st_ext hx1 (x_wt1 hws)] at k1
    have e2 : x_cv (x_adN ad (x_N w) q) (.ref (x_N w)) = .ref q := by show Value.ref _ = _; rw [x_adN_s]
    rw [e2] at k1
    exact k1
  have zl : x_l (x_new w a x.toNatClampNeg x.toNatClampNeg) (x_N w) = x.toNatClampNeg := by simp [x_l, x_new, x_row]
  have zi : x_i (x_new w a x.toNatClampNeg x.toNatClampNeg) (x_N w) = fun _ => 0 := by simp [x_i, x_new, x_row]
  have zj : x_j (x_new w a x.toNatClampNeg x.toNatClampNeg) (x_N w) = fun _ => 0 := by simp [x_j, x_new, x_row]
  have zk : x_k (x_new w a x.toNatClampNeg x.toNatClampNeg) (x_N w) = a := by simp [x_k, x_new, x_row]
  rcases o2 with ⟨rfl, rfl⟩ | ⟨rfl, rfl⟩ | ⟨rfl, rfl⟩
  · exact main .int (x.toNatClampNeg, .inl (fun _ => 0)) rfl (fun _ => rfl) rfl (fun _ q => by cases q) (by decide) (fun ad' => by rw [x_ce_0 zk, zl, zi])
  · exact main .boolean (x.toNatClampNeg, .inl (fun _ => 0)) rfl (fun _ => rfl) rfl (fun _ q => by cases q) (by decide) (fun ad' => by rw [x_ce_1 zk, zl, zi])
  · exact main .long (x.toNatClampNeg, .inr (.inl (fun _ => 0))) rfl (fun _ => rfl) rfl (fun _ q => by cases q) (by decide) (fun ad' => by rw [x_ce_2 zk, zl, zj])

end X8
end
section
/-! One step of the JVM for each row of code: calls, ends. -/
section X9
variable {cl : List vw_C} {ct : Nat → vw_C} {fk : Nat → Nat → Nat} {ty : Nat → Nat → FieldType} {Ts Nw : List Cond} {mt : Nat → xM} {en : Nat → String × String × String} {P : xP} {l : Launch} {D : va_G} {cA : Nat → ClassId} {scr : Nat × (Nat → Int32)} {rc : Nat → Nat} {vt : Nat → Nat × Nat × Nat × Nat} {tx : Nat → List Int32}
variable {p : Program} {e : Env} {R : Room} {s : State} {m : MethodId} {args : Array Value} {below : List Frame} {meth : Method} {c0 : Code} {A : Nat → Prop} {ad0 : Nat → Nat} {w0 w9 : xW} {v9 : Option Value} {X : xT → Prop} {M : Nat} {Q : State → Prop}
variable {pc len a b c : Nat} {v : Int32} {u : Int64} {L : xL} {st : List Value} {w : xW}


theorem x_lt2 {k : Nat} (h : k < 2) : k = 0 ∨ k = 1 := by omega
theorem x_con_mv {ad : Nat → Nat} {A : Nat → Prop} {u U : State} {H : Heap} (hv : U.vm = u.vm) (h : x_con en scr ad A u H) : x_con en scr ad A U H := by
  have hvm : u.vm.Alike U.vm := by rw [hv]; exact Vm.Alike.refl _
  obtain ⟨⟨h1, h2⟩, h4, h5, ⟨t1, t2, t3, t4, t5⟩, ⟨adV, u1⟩, u2, u3, u4, u5⟩ := h
  have hst : ∀ {C n d : String}, x_st C n d A u H → x_st C n d A U H := by
    intro C n d h
    obtain ⟨c, k, i, f, a, cell, hc, hi, h⟩ := h
    obtain ⟨k', hi', hek⟩ := State.fieldFound?_setVm hvm hi
    exact ⟨c, k', i, f, a, cell, by rw [hvm.findClass]; exact hc, hi', h.1, by rw [hek]; exact h.2.1, h.2.2.1, h.2.2.2.1, h.2.2.2.2.1, h.2.2.2.2.2.1, by rw [hek]; exact h.2.2.2.2.2.2.1, h.2.2.2.2.2.2.2.1, h.2.2.2.2.2.2.2.2⟩
  exact ⟨⟨h1.moved hvm, h2⟩, fun k hk => (h4 k hk).moved hvm, h5, ⟨hst t1, hst t2, va_Nw.same rfl hv.symm t3, va_Nw.same rfl hv.symm t4, t5.moved hvm⟩, ⟨adV, u1.moved hvm⟩, u2.same hv, u3.same hv, u4.moved hvm, u5.moved hvm⟩
/-- the callee may change the world's cells and new ones -/
theorem x_freeA {ad : Nat → Nat} {H : Heap} {locs : List Loc} (hrep : x_rep cl D cA (fun a => (ct a).2.2) fk A ad w H) (hS : va_S A s.heap H locs) (hA : ∀ q, s.heap.size ≤ q → A q) : ∀ q, va_A (x_wd cA (fun a => (ct a).2.2) fk ad w) H.size q → A q := by
  intro q hq
  rcases hq with ⟨k, x, hk⟩ | hq
  · exact hrep.2.1.2 k _ hk
  · exact hA q (Nat.le_trans hS.1 hq)
theorem x_PreS {ad : Nat → Nat} {H : Heap} {locs : List Loc} {as : List Value} (hNk : ∀ q ∈ Nw, (∀ s U : State, s.WarmedH U.vm → va_Nw q s → va_Nw q U) ∧ q.onTables = true) (hNw : ∀ q ∈ Nw, va_Nw q s) (hK : va_K D cl (x_tys cA) s) (hcon : x_con en scr ad0 A s s.heap) (hA : ∀ q, s.heap.size ≤ q → A q) (hext : x_ext (x_N w0) ad0 ad) (hrep : x_rep cl D cA (fun a => (ct a).2.2) fk A ad w H) (hS : va_S A s.heap H locs) (hwa : ∀ v ∈ as, x_wf (x_N w) v) :
    PreS s H (va_Pc (as.map (x_cv ad)) (fun U => U.heap.size = H.size ∧ x_pre cl ct fk Nw en D cA scr as ad w (va_A (x_wd cA (fun a => (ct a).2.2) fk ad w) H.size) U)) (as.map (x_cv ad)) := by
  refine ⟨fun a U g mk q => ?_, fun U hU hW => ?_⟩
  · obtain ⟨q0, q1, q2, q3, q4, q5, q6⟩ := q
    exact ⟨q0, q1, q2, va_K.moved (u := U) (U := U.calling g mk a) (Vm.Alike.refl U.vm) q3, fun z hz => va_Nw.same (u := U) (U := U.calling g mk a) (hNk z hz).2 rfl (q4 z hz), x_con_mv (u := U) (U := U.calling g mk a) rfl q5, q6⟩
  · refine ⟨rfl, by rw [hU], ?_, va_K.moved hW.alike hK, fun z hz => (hNk z hz).1 s U hW (hNw z hz), ?_, hwa⟩
    · rw [hU]; exact ⟨hrep.1, hrep.2.1.self, hrep.2.2⟩
    · rw [hU]; exact x_con_to hcon hS hW hext (fun q hq => x_freeA hrep hS hA q hq)
theorem x_called {ad : Nat → Nat} {H : Heap} {locs : List Loc} {ls : Array Slot} {r st0 : List Value} {arr : Array Value} {w1 : xW} {v1 : Option Value} (hr : va_Run p l e R s m args below meth c0 H locs (x_C w - x_C w0) (x_S w - x_S w0) (x_C w1 - x_C w) (x_S w1 - x_S w) (F0 m pc ls st0) (r.map (x_cv ad)) (x_post cl ct fk D cA ad w v1 w1 (va_A (x_wd cA (fun a => (ct a).2.2) fk ad w) H.size) arr) (va_A (x_wd cA (fun a => (ct a).2.2) fk ad w) H.size))
    (hg : x_gr w0 w) (hg1 : x_gr w w1) (hA : ∀ q, s.heap.size ≤ q → A q) (hext : x_ext (x_N w0) ad0 ad) (hrep : x_rep cl D cA (fun a => (ct a).2.2) fk A ad w H) (hS : va_S A s.heap H locs) (hl : x_lh ad (mt M).2.2.1 ls L) (hws : ∀ v ∈ r, x_wf (x_N w) v) (hwl : ∀ i v, x_at L i = some v → x_wf (x_N w) v)
    (kk : x_WW cl ct fk D cA p l e R s m args below meth c0 A (mt M).2.2.1 ad0 w0 Q (pc + 3) L (v1.toList ++ r) w1) : W p l e R s m args below meth c0 H locs (x_C w - x_C w0) (x_S w - x_S w0) Q (F0 m pc ls st0) := by
  have hf := x_freeA hrep hS hA
  refine x_cont (A := A) hr hS hf (fun st v t hq => hq.2) (fun st v t H1 locs1 hq ht hS1 => ?_)
  obtain ⟨⟨ad', hx', ho, hrep', hwf'⟩, -⟩ := hq
  have hv : v = v1.map (x_cv ad') := Outcome.returned.inj ho
  subst hv
  rw [ht] at hrep'
  have g1 := hg.2.1
  have g2 := hg.2.2
  have g3 := hg1.2.1
  have g4 := hg1.2.2
  refine W.cs (cells' := x_C w1 - x_C w0) (slots' := x_S w1 - x_S w0) (by omega) (by omega) ?_
  have hw1 : ∀ v ∈ r, x_wf (x_N w1) v := fun v hv => x_wf_le hg1.1 (hws v hv)
  have k1 := kk (x_gr_tr hg hg1) H1 locs1 ls ad' (x_ext_tr hg.1 hext hx') ⟨hrep'.1, hrep'.2.1.weaken (fun _ _ _ h => hf _ h), hrep'.2.2⟩ hS1 (x_lh_ext hx' hl hwl) (fun v hv => by
      rcases List.mem_append.mp hv with hv | hv
      · cases v1 with
        | none => cases hv
        | some z =>
          obtain rfl : v = z := by simpa using hv
          exact hwf' v rfl
      · exact hw1 v hv) (fun i v hv => x_wf_le hg1.1 (hwl i v hv))
  have e1 : (v1.toList ++ r).map (x_cv ad') = (v1.map (x_cv ad')).toList ++ r.map (x_cv ad) := by
    rw [List.map_append, x_st_ext hx' hws]
    cases v1 <;> rfl
  rw [e1] at k1
  exact k1
theorem x_wfr {N : Nat} {as r : List Value} (h : ∀ v ∈ as ++ r, x_wf N v) : (∀ v ∈ as.reverse ++ ([] : List Value), x_wf N v) ∧ ∀ v ∈ r, x_wf N v :=
  ⟨fun v hv => h v (List.mem_append_left _ (by simpa using hv)), fun v hv => h v (List.mem_append_right _ hv)⟩

set_option maxHeartbeats 1000000 in
theorem xs_invokestatic {i : Nat} (hx : p.tables.exec = Jvm.exec) (hb : c0.code = (mt M).2.1) (hK1 : ∀ pc L st w, X (.inl (pc, L, st, w)) → x_gr w w9 ∧ x_WW cl ct fk D cA p l e R s m args below meth c0 A (mt M).2.2.1 ad0 w0 Q pc L st w) (hown : s.vm.findClass (mt M).2.2.2.2 = some m.cls) (hts : ∀ q ∈ Ts, q.before args s = true) (hK : va_K D cl (x_tys cA) s) (hcon : x_con en scr ad0 A s s.heap) (hA : ∀ q, s.heap.size ≤ q → A q) (hR : P.2.1 M + 2 ≤ R.frames ∧ 33 * P.2.1 M + 100 ≤ R.locals ∧ x_C w9 - x_C w0 ≤ R.cells ∧ x_S w9 - x_S w0 ≤ R.slots) (hml : c0.maxLocals = (mt M).2.2.1) (hNk : ∀ q ∈ Nw, (∀ s U : State, s.WarmedH U.vm → va_Nw q s → va_Nw q U) ∧ q.onTables = true) (hNw : ∀ q ∈ Nw, va_Nw q s) (hmx : ∀ M, (mt M).2.2.1 ≤ 14) (hC1 : ∀ M' as pc L st w, X (.inr (.inl (M', as, pc, L, st, w))) → x_CG cl ct fk Ts Nw mt en P l D cA scr M w9 (x_WW cl ct fk D cA p l e R s m args below meth c0 A (mt M).2.2.1 ad0 w0 Q) M' as pc L st w) (ok : x_okr cl ct fk ty Ts Nw mt rc vt en M (pc, .invokestatic i, len, a, b, c, v, u)) (h : x_go X rc vt scr tx (.invokestatic i) a b c v u pc L st w) : x_WW cl ct fk D cA p l e R s m args below meth c0 A (mt M).2.2.1 ad0 w0 Q pc L st w := by
  intro hg H locs ls ad hext hrep hS hl hws hwl
  have hd : decode (mt M).2.1 pc = .ok (.invokestatic i, len) := ok.1
  obtain ⟨rfl, ok1, ok2⟩ := ok.2
  rcases x_sw_of h with ⟨hc, h⟩ | ⟨hc, h⟩
  · obtain ⟨as, r, hlen, e9, h9⟩ := x_pop_of _ _ _ _ h
    subst e9
    replace h := h9
    obtain ⟨hcat, h⟩ := x_if_of h
    obtain ⟨hdep, v1, w1, hM, hg1, hg2, kk⟩ := hC1 _ _ _ _ _ _ h
    obtain ⟨hwa, hwr⟩ := x_wfr hws
    have g1 := hg.2.1
    have g2 := hg.2.2
    have g3 := hg1.2.1
    have g4 := hg1.2.2
    have g5 := hg2.2.1
    have g6 := hg2.2.2
    have hrun := ok1 hc p l e R s m args below meth c0 H locs (x_C w - x_C w0) (x_S w - x_S w0) _ _ _ _ _ _ _ _ ((as.reverse ++ []).map (x_cv ad)) (r.map (x_cv ad)) (F0 m pc ls ((as ++ r).map (x_cv ad))) ⟨hx, hb, hml, hown, hts⟩ hNw (hM ad H.size) rfl rfl (Nat.le_trans (by show _ + 2 + 1 ≤ _ + 2; omega) hR.1) (Nat.le_trans (by have := hmx a; show 8 + (_ + 11) + (33 * _ + 100) ≤ 33 * _ + 100; omega) hR.2.1) (x_PreS hNk hNw hK hcon hA hext hrep hS hwa) rfl (by simp [hlen]) hl.1 (by simp [List.map_append]) (lv_room (by rw [x_cats_cv]; exact Nat.le_of_ble_eq_true hcat)) hd ⟨Nat.le_trans (by omega) hR.2.2.1, Nat.le_trans (by omega) hR.2.2.2⟩
    exact x_called hrun hg hg1 hA hext hrep hS hl hwr hwl kk
  · obtain ⟨o1, o2, o3, o4⟩ := ok2 hc
    obtain ⟨n, r1, e1, h1⟩ := x_pI_of h
    obtain ⟨dp, r2, e2, h2⟩ := x_pI_of h1
    obtain ⟨q, r3, e3, h3⟩ := x_pR_of h2
    obtain ⟨sp, r4, e4, h4⟩ := x_pI_of h3
    obtain ⟨o, r, e5, h5⟩ := x_pR_of h4
    subst e5
    subst e4
    subst e3
    subst e2
    subst e1
    obtain ⟨⟨k1, k2, k3, k4, k5, k6, k7⟩, h6⟩ := h5
    obtain ⟨hcat0, h7⟩ := x_if_of h6
    replace h := h7
    have hcat : x_cats r ≤ 8 := Nat.le_of_ble_eq_true hcat0
    have ho := x_in hrep k1 (by omega)
    have hq := x_in hrep k2 (by omega)
    have hcat : x_cats r ≤ 8 := Nat.le_of_ble_eq_true hcat0
    refine va_copyi hx hb (hml.trans hl.1.symm) hown (hts _ o1) (hts _ o2) (hts _ o3) (hts _ o4) hK hrep.1 hrep.2.1 hS o q 0 0 (by rw [x_wd_at ho, x_ce_0 k1]) (by rw [x_wd_at hq, x_ce_0 k2]) rfl rfl rfl k3 k4 k5 k6 k7 (fun _ _ => rfl) (Nat.le_trans (by omega) hR.1) (by rw [x_cats_cv]; have : nativeFrameWords "java/lang/System" "arraycopy" 5 + 11 ≤ 90 := (by decide +kernel); have := hR.2.1; omega) hd (fun H1 locs1 hP hD hS1 => ?_)
    have hrep1 : x_rep cl D cA (fun a => (ct a).2.2) fk A ad (x_cp w o sp.toNatClampNeg q dp.toNatClampNeg n.toNatClampNeg) H1 := by
      refine x_stored (w' := x_cp w o sp.toNatClampNeg q dp.toNatClampNeg n.toNatClampNeg) hrep rfl rfl rfl ?_ (fun i hi => x_ce_eq rfl rfl (by show x_row _ _ _ i = _; rw [x_row, if_neg hi]) rfl rfl) hP hD
      rw [x_ce_0 (w := x_cp w o sp.toNatClampNeg q dp.toNatClampNeg n.toNatClampNeg) k2]
      have e1 : x_i (x_cp w o sp.toNatClampNeg q dp.toNatClampNeg n.toNatClampNeg) q = va_cpy (x_i w o) (x_i w q) sp.toNatClampNeg dp.toNatClampNeg n.toNatClampNeg := by
        show x_row _ _ _ q = _
        rw [x_row, if_pos rfl]
      rw [e1]; rfl
    exact (hK1 _ _ _ _ h).2 hg H1 locs1 ls ad hext hrep1 hS1 hl (x_wt1 (x_wt1 (x_wt1 (x_wt1 (x_wt1 hws))))) hwl
set_option maxHeartbeats 1000000 in
theorem xs_invokespecial {i : Nat} (hx : p.tables.exec = Jvm.exec) (hb : c0.code = (mt M).2.1) (hK1 : ∀ pc L st w, X (.inl (pc, L, st, w)) → x_gr w w9 ∧ x_WW cl ct fk D cA p l e R s m args below meth c0 A (mt M).2.2.1 ad0 w0 Q pc L st w) (hown : s.vm.findClass (mt M).2.2.2.2 = some m.cls) (hts : ∀ q ∈ Ts, q.before args s = true) (hK : va_K D cl (x_tys cA) s) (hcon : x_con en scr ad0 A s s.heap) (hA : ∀ q, s.heap.size ≤ q → A q) (hR : P.2.1 M + 2 ≤ R.frames ∧ 33 * P.2.1 M + 100 ≤ R.locals ∧ x_C w9 - x_C w0 ≤ R.cells ∧ x_S w9 - x_S w0 ≤ R.slots) (hml : c0.maxLocals = (mt M).2.2.1) (hNk : ∀ q ∈ Nw, (∀ s U : State, s.WarmedH U.vm → va_Nw q s → va_Nw q U) ∧ q.onTables = true) (hNw : ∀ q ∈ Nw, va_Nw q s) (hmx : ∀ M, (mt M).2.2.1 ≤ 14) (hC1 : ∀ M' as pc L st w, X (.inr (.inl (M', as, pc, L, st, w))) → x_CG cl ct fk Ts Nw mt en P l D cA scr M w9 (x_WW cl ct fk D cA p l e R s m args below meth c0 A (mt M).2.2.1 ad0 w0 Q) M' as pc L st w) (ok : x_okr cl ct fk ty Ts Nw mt rc vt en M (pc, .invokespecial i, len, a, b, c, v, u)) (h : x_go X rc vt scr tx (.invokespecial i) a b c v u pc L st w) : x_WW cl ct fk D cA p l e R s m args below meth c0 A (mt M).2.2.1 ad0 w0 Q pc L st w := by
  intro hg H locs ls ad hext hrep hS hl hws hwl
  have hd : decode (mt M).2.1 pc = .ok (.invokespecial i, len) := ok.1
  obtain ⟨rfl, ok1, ok2⟩ := ok.2
  rcases x_sw_of h with ⟨hc, h⟩ | ⟨hc, h⟩
  · obtain ⟨as, r, hlen, e9, h9⟩ := x_pop_of _ _ _ _ h
    subst e9
    replace h := h9
    obtain ⟨hcat, h⟩ := x_if_of h
    obtain ⟨o, As, hAs, h⟩ := x_pR_of h
    obtain ⟨hrt0, ok1⟩ := ok1 hc
    obtain ⟨hdep, v1, w1, hM, hg1, hg2, kk⟩ := hC1 _ _ _ _ _ _ h
    unfold x_Met x_ws at hM
    rw [hrt0] at hM
    obtain ⟨hwa, hwr⟩ := x_wfr hws
    have g1 := hg.2.1
    have g2 := hg.2.2
    have g3 := hg1.2.1
    have g4 := hg1.2.2
    have g5 := hg2.2.1
    have g6 := hg2.2.2
    have ea : as = As.reverse ++ [.ref o] := by
      have := congrArg List.reverse hAs
      simpa using this
    subst ea
    rw [hAs] at hM hwa
    have hst : ((As.reverse ++ [Value.ref o]) ++ r).map (x_cv ad) = (As.map (x_cv ad)).reverse ++ .ref (ad o) :: r.map (x_cv ad) := by simp [List.map_append, x_cv]
    have hrun := ok1 p l e R s m args below meth c0 H locs (x_C w - x_C w0) (x_S w - x_S w0) _ _ _ _ _ _ _ _ (ad o) (As.map (x_cv ad)) (r.map (x_cv ad)) (F0 m pc ls (((As.reverse ++ [Value.ref o]) ++ r).map (x_cv ad))) ⟨hx, hb, hml, hown, hts⟩ hNw (hM ad H.size) rfl rfl (Nat.le_trans (by show _ + 2 + 1 ≤ _ + 2; omega) hR.1) (Nat.le_trans (by have := hmx a; show 8 + (_ + 11) + (33 * _ + 100) ≤ 33 * _ + 100; omega) hR.2.1) (x_PreS hNk hNw hK hcon hA hext hrep hS hwa) rfl (by simpa using hlen) hl.1 hst (lv_room (by rw [x_cats_cv]; exact Nat.le_of_ble_eq_true hcat)) hd ⟨Nat.le_trans (by omega) hR.2.2.1, Nat.le_trans (by omega) hR.2.2.2⟩
    exact x_called hrun hg hg1 hA hext hrep hS hl hwr hwl kk
  · obtain ⟨o1, o2, o3⟩ := ok2 hc
    obtain ⟨o, r, e9, h9⟩ := x_pR_of h
    subst e9
    replace h := h9
    obtain ⟨hcat, h⟩ := x_if_of h
    have hcat := Nat.le_of_ble_eq_true hcat
    refine W.objInit (a := ad o) (rest := r.map (x_cv ad)) hx hb hown (hts _ o1) (hts _ o2) (hts _ o3) rfl (by rw [hml]; exact hl.1) rfl hd (Nat.le_trans (by omega) hR.1) (by
      have e1 : 2 * (F0 m pc ls ((Value.ref o :: r).map (x_cv ad))).monitorRoom = 0 := rfl
      rw [x_cats_cv, e1]; have := hR.2.1; omega) ?_
    exact (hK1 _ _ _ _ h).2 hg H locs ls ad hext hrep hS hl (x_wt1 hws) hwl
set_option maxHeartbeats 1000000 in
theorem xs_invokevirtual {i : Nat} (hx : p.tables.exec = Jvm.exec) (hb : c0.code = (mt M).2.1) (hK1 : ∀ pc L st w, X (.inl (pc, L, st, w)) → x_gr w w9 ∧ x_WW cl ct fk D cA p l e R s m args below meth c0 A (mt M).2.2.1 ad0 w0 Q pc L st w) (hown : s.vm.findClass (mt M).2.2.2.2 = some m.cls) (hts : ∀ q ∈ Ts, q.before args s = true) (hK : va_K D cl (x_tys cA) s) (hcon : x_con en scr ad0 A s s.heap) (hA : ∀ q, s.heap.size ≤ q → A q) (hR : P.2.1 M + 2 ≤ R.frames ∧ 33 * P.2.1 M + 100 ≤ R.locals ∧ x_C w9 - x_C w0 ≤ R.cells ∧ x_S w9 - x_S w0 ≤ R.slots) (hml : c0.maxLocals = (mt M).2.2.1) (hNk : ∀ q ∈ Nw, (∀ s U : State, s.WarmedH U.vm → va_Nw q s → va_Nw q U) ∧ q.onTables = true) (hNw : ∀ q ∈ Nw, va_Nw q s) (hmx : ∀ M, (mt M).2.2.1 ≤ 14) (htx : tx 0 = [112] ∧ tx 1 = [99, 110, 102]) (hdt : 2 ≤ c → 3 ≤ P.2.1 M) (hC1 : ∀ M' as pc L st w, X (.inr (.inl (M', as, pc, L, st, w))) → x_CG cl ct fk Ts Nw mt en P l D cA scr M w9 (x_WW cl ct fk D cA p l e R s m args below meth c0 A (mt M).2.2.1 ad0 w0 Q) M' as pc L st w) (ok : x_okr cl ct fk ty Ts Nw mt rc vt en M (pc, .invokevirtual i, len, a, b, c, v, u)) (h : x_go X rc vt scr tx (.invokevirtual i) a b c v u pc L st w) : x_WW cl ct fk D cA p l e R s m args below meth c0 A (mt M).2.2.1 ad0 w0 Q pc L st w := by
  intro hg H locs ls ad hext hrep hS hl hws hwl
  have hd : decode (mt M).2.1 pc = .ok (.invokevirtual i, len) := ok.1
  obtain ⟨rfl, hc2, ok3, ok4, ok1, ok2⟩ := ok.2
  rcases x_sw_of h with ⟨hc, h⟩ | ⟨hc, h⟩
  · obtain ⟨as, r, hlen, e9, h9⟩ := x_pop_of _ _ _ _ h
    subst e9
    replace h := h9
    obtain ⟨hcat, h⟩ := x_if_of h
    obtain ⟨o, As, hAs, h⟩ := x_pR_of h
    obtain ⟨hk, h⟩ := h
    obtain ⟨h90, hcl, ok1⟩ := ok1 hc
    obtain ⟨hdep, v1, w1, hM, hg1, hg2, kk⟩ := hC1 _ _ _ _ _ _ h
    obtain ⟨hwa, hwr⟩ := x_wfr hws
    have g1 := hg.2.1
    have g2 := hg.2.2
    have g3 := hg1.2.1
    have g4 := hg1.2.2
    have g5 := hg2.2.1
    have g6 := hg2.2.2
    have ea : as = As.reverse ++ [.ref o] := by
      have := congrArg List.reverse hAs
      simpa using this
    subst ea
    rw [hAs] at hM hwa
    have hst : ((As.reverse ++ [Value.ref o]) ++ r).map (x_cv ad) = (As.map (x_cv ad)).reverse ++ .ref (ad o) :: r.map (x_cv ad) := by simp [List.map_append, x_cv]
    have hrun := ok1 p l e R s m args below meth c0 H locs (x_C w - x_C w0) (x_S w - x_S w0) _ _ _ _ _ _ _ _ (ad o) (As.map (x_cv ad)) (r.map (x_cv ad)) (F0 m pc ls (((As.reverse ++ [Value.ref o]) ++ r).map (x_cv ad))) ⟨hx, hb, hml, hown, hts⟩ hNw (hM ad H.size) rfl rfl (Nat.le_trans (by show _ + 2 + 1 ≤ _ + 2; omega) hR.1) (Nat.le_trans (by have := hmx a; show 8 + (_ + 11) + (33 * _ + 100) ≤ 33 * _ + 100; omega) hR.2.1) ⟨(x_PreS hNk hNw hK hcon hA hext hrep hS hwa).1, va_recv hK hrep.1 hcl (by rw [x_wd_at (x_in hrep hk (by omega)), x_ce_obj hk]), (x_PreS hNk hNw hK hcon hA hext hrep hS hwa).2⟩ rfl (by simpa using hlen) hl.1 hst (lv_room (by rw [x_cats_cv]; exact Nat.le_of_ble_eq_true hcat)) hd ⟨Nat.le_trans (by omega) hR.2.2.1, Nat.le_trans (by omega) hR.2.2.2⟩
    exact x_called hrun hg hg1 hA hext hrep hS hl hwr hwl kk
  rcases x_sw_of h with ⟨hc, h⟩ | ⟨hc, h⟩
  · obtain ⟨as, r, hlen, e9, h9⟩ := x_pop_of _ _ _ _ h
    subst e9
    replace h := h9
    obtain ⟨hcat, h⟩ := x_if_of h
    obtain ⟨o, As, hAs, h⟩ := x_pR_of h
    obtain ⟨h90, h91, hcl1, hcl2, okA, okB⟩ := ok2 (by omega)
    rcases x_br_of h with ⟨hk, h⟩ | ⟨-, hk, h⟩
    · obtain ⟨hdep, v1, w1, hM, hg1, hg2, kk⟩ := hC1 _ _ _ _ _ _ h
      obtain ⟨hwa, hwr⟩ := x_wfr hws
      have g1 := hg.2.1
      have g2 := hg.2.2
      have g3 := hg1.2.1
      have g4 := hg1.2.2
      have g5 := hg2.2.1
      have g6 := hg2.2.2
      have ea : as = As.reverse ++ [.ref o] := by
        have := congrArg List.reverse hAs
        simpa using this
      subst ea
      rw [hAs] at hM hwa
      have hst : ((As.reverse ++ [Value.ref o]) ++ r).map (x_cv ad) = (As.map (x_cv ad)).reverse ++ .ref (ad o) :: r.map (x_cv ad) := by simp [List.map_append, x_cv]
      have hrun := okA p l e R s m args below meth c0 H locs (x_C w - x_C w0) (x_S w - x_S w0) _ _ _ _ _ _ _ _ (ad o) (As.map (x_cv ad)) (r.map (x_cv ad)) (F0 m pc ls (((As.reverse ++ [Value.ref o]) ++ r).map (x_cv ad))) ⟨hx, hb, hml, hown, hts⟩ hNw (hM ad H.size) rfl rfl (Nat.le_trans (by show _ + 2 + 1 ≤ _ + 2; omega) hR.1) (Nat.le_trans (by have := hmx (vt a).2.1; show 8 + (_ + 11) + (33 * _ + 100) ≤ 33 * _ + 100; omega) hR.2.1) ⟨(x_PreS hNk hNw hK hcon hA hext hrep hS hwa).1, va_recv hK hrep.1 hcl1 (by rw [x_wd_at (x_in hrep hk (by omega)), x_ce_obj hk]), (x_PreS hNk hNw hK hcon hA hext hrep hS hwa).2⟩ rfl (by simpa using hlen) hl.1 hst (lv_room (by rw [x_cats_cv]; exact Nat.le_of_ble_eq_true hcat)) hd ⟨Nat.le_trans (by omega) hR.2.2.1, Nat.le_trans (by omega) hR.2.2.2⟩
      exact x_called hrun hg hg1 hA hext hrep hS hl hwr hwl kk
    · obtain ⟨hdep, v1, w1, hM, hg1, hg2, kk⟩ := hC1 _ _ _ _ _ _ h
      obtain ⟨hwa, hwr⟩ := x_wfr hws
      have g1 := hg.2.1
      have g2 := hg.2.2
      have g3 := hg1.2.1
      have g4 := hg1.2.2
      have g5 := hg2.2.1
      have g6 := hg2.2.2
      have ea : as = As.reverse ++ [.ref o] := by
        have := congrArg List.reverse hAs
        simpa using this
      subst ea
      rw [hAs] at hM hwa
      have hst : ((As.reverse ++ [Value.ref o]) ++ r).map (x_cv ad) = (As.map (x_cv ad)).reverse ++ .ref (ad o) :: r.map (x_cv ad) := by simp [List.map_append, x_cv]
      have hrun := okB p l e R s m args below meth c0 H locs (x_C w - x_C w0) (x_S w - x_S w0) _ _ _ _ _ _ _ _ (ad o) (As.map (x_cv ad)) (r.map (x_cv ad)) (F0 m pc ls (((As.reverse ++ [Value.ref o]) ++ r).map (x_cv ad))) ⟨hx, hb, hml, hown, hts⟩ hNw (hM ad H.size) rfl rfl (Nat.le_trans (by show _ + 2 + 1 ≤ _ + 2; omega) hR.1) (Nat.le_trans (by have := hmx (vt a).2.2.2; show 8 + (_ + 11) + (33 * _ + 100) ≤ 33 * _ + 100; omega) hR.2.1) ⟨(x_PreS hNk hNw hK hcon hA hext hrep hS hwa).1, va_recv hK hrep.1 hcl2 (by rw [x_wd_at (x_in hrep hk (by omega)), x_ce_obj hk]), (x_PreS hNk hNw hK hcon hA hext hrep hS hwa).2⟩ rfl (by simpa using hlen) hl.1 hst (lv_room (by rw [x_cats_cv]; exact Nat.le_of_ble_eq_true hcat)) hd ⟨Nat.le_trans (by omega) hR.2.2.1, Nat.le_trans (by omega) hR.2.2.2⟩
      exact x_called hrun hg hg1 hA hext hrep hS hl hwr hwl kk
  have hR1 := hR.1
  have hR2 := hR.2.1
  have hd3 := hdt (by omega)
  obtain ⟨⟨adV, u1⟩, -, -, u4, u5⟩ := hcon.2.2.2.2
  have ht : ∀ k, ad (x_tx + k) = ad0 (x_tx + k) := fun k => hext _ (Or.inr (by show 1000000 ≤ 1000010 + k; omega))
  have g1 := hg.2.1
  have g2 := hg.2.2
  rcases x_sw_of h with ⟨hc3, h⟩ | ⟨hc3, h⟩
  · obtain ⟨hb2, hlen⟩ := ok3 (by omega)
    subst hb2
    obtain ⟨o, r, e9, h9⟩ := x_pR_of h
    subst e9
    obtain ⟨⟨q1, q2⟩, h8⟩ := h9
    obtain ⟨hcat, h7⟩ := x_if_of h8
    obtain ⟨k, hk, rfl⟩ : ∃ k, k < 2 ∧ o = x_tx + k := ⟨o - x_tx, Nat.sub_lt_left_of_lt_add q1 q2, (Nat.add_sub_cancel' q1).symm⟩
    obtain ⟨hgr, kk⟩ := hK1 _ _ _ _ h7
    have g3 := hgr.2.1
    have g4 := hgr.2.2
    have e1 : Int32.ofNat (tx (x_tx + k - x_tx)).length = Int32.ofNat ([1, 3].getD k 0) := by
      rw [Nat.add_sub_cancel_left]
      have hk2 : k = 0 ∨ k = 1 := x_lt2 hk
      clear h7 kk
      rcases hk2 with e2 | e2
      · rw [e2, htx.1]; rfl
      · rw [e2, htx.2]; rfl
    have k1 := kk hg H locs ls ad hext hrep hS hl (x_wc trivial (x_wt1 hws)) hwl
    rw [List.map_cons, e1] at k1
    have k2 := hlen p l e R s m args below meth c0 H locs (x_C w - x_C w0) (x_S w - x_S w0) (mt M).2.1 (mt M).2.2.1 Q A (fun i => ad0 (x_tx + i)) adV pc k ls (r.map (x_cv ad)) ⟨hx, hb, hml, hown, hts⟩ hl.1 u1 u4 hS hk (by rw [x_cats_cv]; exact Nat.le_of_ble_eq_true hcat) (by omega) (by omega) (Nat.le_trans (by omega) hR.2.2.1) (Nat.le_trans (by omega) hR.2.2.2) hd k1
    rw [List.map_cons]
    show W p l e R s m args below meth c0 H locs (x_C w - x_C w0) (x_S w - x_S w0) Q (F0 m pc ls (.ref (ad (x_tx + k)) :: r.map (x_cv ad)))
    rw [ht]
    exact k2
  · obtain ⟨hb2, hchr⟩ := ok4 (by omega)
    subst hb2
    obtain ⟨i9, r1, e9, h1⟩ := x_pI_of h
    subst e9
    obtain ⟨o, r, e9, h9⟩ := x_pR_of h1
    subst e9
    obtain ⟨⟨q1, q2, q3⟩, h8⟩ := h9
    obtain ⟨hcat, h7⟩ := x_if_of h8
    obtain ⟨k, hk, rfl⟩ : ∃ k, k < 2 ∧ o = x_tx + k := ⟨o - x_tx, Nat.sub_lt_left_of_lt_add q1 q2, (Nat.add_sub_cancel' q1).symm⟩
    obtain ⟨hgr, kk⟩ := hK1 _ _ _ _ h7
    have g3 := hgr.2.1
    have g4 := hgr.2.2
    rw [Nat.add_sub_cancel_left] at q3 h7 kk
    have e1 : tx k = [[112], [99, 110, 102]].getD k [] ∧ (tx k).length = [1, 3].getD k 0 := by
      have hk2 : k = 0 ∨ k = 1 := x_lt2 hk
      clear h7 kk
      rcases hk2 with e2 | e2
      · rw [e2, htx.1]; exact ⟨rfl, rfl⟩
      · rw [e2, htx.2]; exact ⟨rfl, rfl⟩
    rw [e1.2] at q3
    have k1 := kk hg H locs ls ad hext hrep hS hl (x_wc trivial (x_wt1 (x_wt1 hws))) hwl
    rw [List.map_cons, e1.1] at k1
    have k2 := hchr p l e R s m args below meth c0 H locs (x_C w - x_C w0) (x_S w - x_S w0) (mt M).2.1 (mt M).2.2.1 Q A (fun i => ad0 (x_tx + i)) adV pc k i9 ls (r.map (x_cv ad)) ⟨hx, hb, hml, hown, hts⟩ hl.1 u1 u4 u5 hS hk q3 (by rw [x_cats_cv]; exact Nat.le_of_ble_eq_true hcat) (by omega) (by omega) (Nat.le_trans (by omega) hR.2.2.1) (Nat.le_trans (by omega) hR.2.2.2) hd k1
    rw [List.map_cons, List.map_cons]
    show W p l e R s m args below meth c0 H locs (x_C w - x_C w0) (x_S w - x_S w0) Q (F0 m pc ls (.int i9 :: .ref (ad (x_tx + k)) :: r.map (x_cv ad)))
    rw [ht]
    exact k2
set_option maxHeartbeats 1000000 in
theorem xs_ireturn  (hx : p.tables.exec = Jvm.exec) (hb : c0.code = (mt M).2.1) (hrt : meth.sig.returnType = (mt M).2.2.2.1) (hlk : meth.locks = false) (hR1 : ∀ v w, X (.inr (.inr (.inl (v, w)))) → v = v9 ∧ w = w9)  (ok : x_okr cl ct fk ty Ts Nw mt rc vt en M (pc, .ireturn, len, a, b, c, v, u)) (h : x_go X rc vt scr tx (.ireturn) a b c v u pc L st w) : x_WW cl ct fk D cA p l e R s m args below meth c0 A (mt M).2.2.1 ad0 w0 (MQ below (x_post cl ct fk D cA ad0 w0 v9 w9 A) args s (x_C w9 - x_C w0) (x_S w9 - x_S w0) A) pc L st w := by
  intro hg H locs ls ad hext hrep hS hl hws hwl
  have hd : decode (mt M).2.1 pc = .ok (.ireturn, len) := ok.1
  obtain ⟨rfl, ok2⟩ := ok.2
  obtain ⟨x, r, e9, h9⟩ := x_pI_of h
  subst e9
  replace h := h9
  obtain ⟨e9, h9⟩ := x_nil_of h
  subst e9
  replace h := h9
  rcases ok2 with ⟨rfl, hr2⟩ | ⟨rfl, hr2⟩
  · obtain ⟨rfl, rfl⟩ := hR1 _ _ h
    exact W.iret (v := x) hx hb (hrt.trans hr2) (fun t ht hW => ⟨⟨ad, hext, rfl, by rw [ht]; exact hrep, fun u hu => by cases hu; trivial⟩, hS.F ht⟩) hS.2.2 hd hlk
  · obtain ⟨hx01, h⟩ := h
    obtain ⟨rfl, rfl⟩ := hR1 _ _ h
    exact W.zret (v := x) hx hb (hrt.trans hr2) (by rcases hx01 with rfl | rfl <;> decide +kernel) (fun t ht hW => ⟨⟨ad, hext, rfl, by rw [ht]; exact hrep, fun u hu => by cases hu; trivial⟩, hS.F ht⟩) hS.2.2 hd hlk
set_option maxHeartbeats 1000000 in
theorem xs_lreturn  (hx : p.tables.exec = Jvm.exec) (hb : c0.code = (mt M).2.1) (hrt : meth.sig.returnType = (mt M).2.2.2.1) (hlk : meth.locks = false) (hR1 : ∀ v w, X (.inr (.inr (.inl (v, w)))) → v = v9 ∧ w = w9)  (ok : x_okr cl ct fk ty Ts Nw mt rc vt en M (pc, .lreturn, len, a, b, c, v, u)) (h : x_go X rc vt scr tx (.lreturn) a b c v u pc L st w) : x_WW cl ct fk D cA p l e R s m args below meth c0 A (mt M).2.2.1 ad0 w0 (MQ below (x_post cl ct fk D cA ad0 w0 v9 w9 A) args s (x_C w9 - x_C w0) (x_S w9 - x_S w0) A) pc L st w := by
  intro hg H locs ls ad hext hrep hS hl hws hwl
  have hd : decode (mt M).2.1 pc = .ok (.lreturn, len) := ok.1
  obtain ⟨rfl, hr2⟩ := ok.2
  obtain ⟨x, r, e9, h9⟩ := x_pL_of h
  subst e9
  replace h := h9
  obtain ⟨e9, h9⟩ := x_nil_of h
  subst e9
  replace h := h9
  obtain ⟨rfl, rfl⟩ := hR1 _ _ h
  exact W.lret (v := x) hx hb (hrt.trans hr2) (fun t ht hW => ⟨⟨ad, hext, rfl, by rw [ht]; exact hrep, fun u hu => by cases hu; trivial⟩, hS.F ht⟩) hS.2.2 hd hlk
set_option maxHeartbeats 1000000 in
theorem xs_areturn  (hx : p.tables.exec = Jvm.exec) (hb : c0.code = (mt M).2.1) (hrt : meth.sig.returnType = (mt M).2.2.2.1) (hlk : meth.locks = false) (hR1 : ∀ v w, X (.inr (.inr (.inl (v, w)))) → v = v9 ∧ w = w9)  (ok : x_okr cl ct fk ty Ts Nw mt rc vt en M (pc, .areturn, len, a, b, c, v, u)) (h : x_go X rc vt scr tx (.areturn) a b c v u pc L st w) : x_WW cl ct fk D cA p l e R s m args below meth c0 A (mt M).2.2.1 ad0 w0 (MQ below (x_post cl ct fk D cA ad0 w0 v9 w9 A) args s (x_C w9 - x_C w0) (x_S w9 - x_S w0) A) pc L st w := by
  intro hg H locs ls ad hext hrep hS hl hws hwl
  have hd : decode (mt M).2.1 pc = .ok (.areturn, len) := ok.1
  obtain ⟨rfl, C, hr2⟩ := ok.2
  obtain ⟨x, r, e9, h9⟩ := x_pR_of h
  subst e9
  replace h := h9
  obtain ⟨e9, h9⟩ := x_nil_of h
  subst e9
  replace h := h9
  obtain ⟨rfl, rfl⟩ := hR1 _ _ h
  exact W.aret (v := .ref (ad x)) hx hb (hrt.trans hr2) (Or.inl ⟨C, rfl⟩) (Or.inr ⟨_, rfl⟩) (fun t ht hW => ⟨⟨ad, hext, rfl, by rw [ht]; exact hrep, fun u hu => by cases hu; exact x_wh hws⟩, hS.F ht⟩) hS.2.2 hd hlk
set_option maxHeartbeats 1000000 in
theorem xs_return_  (hx : p.tables.exec = Jvm.exec) (hb : c0.code = (mt M).2.1) (hrt : meth.sig.returnType = (mt M).2.2.2.1) (hlk : meth.locks = false) (hR1 : ∀ v w, X (.inr (.inr (.inl (v, w)))) → v = v9 ∧ w = w9)  (ok : x_okr cl ct fk ty Ts Nw mt rc vt en M (pc, .return_, len, a, b, c, v, u)) (h : x_go X rc vt scr tx (.return_) a b c v u pc L st w) : x_WW cl ct fk D cA p l e R s m args below meth c0 A (mt M).2.2.1 ad0 w0 (MQ below (x_post cl ct fk D cA ad0 w0 v9 w9 A) args s (x_C w9 - x_C w0) (x_S w9 - x_S w0) A) pc L st w := by
  intro hg H locs ls ad hext hrep hS hl hws hwl
  have hd : decode (mt M).2.1 pc = .ok (.return_, len) := ok.1
  obtain ⟨rfl, hr2⟩ := ok.2
  obtain ⟨e9, h9⟩ := x_nil_of h
  subst e9
  replace h := h9
  obtain ⟨rfl, rfl⟩ := hR1 _ _ h
  exact W.vret hx hb (hrt.trans hr2) (fun t ht hW => ⟨⟨ad, hext, rfl, by rw [ht]; exact hrep, fun u hu => by cases hu⟩, hS.F ht⟩) hS.2.2 hd hlk
end X9
end
section
/-! All steps together; whole methods. -/
section X10
variable {cl : List vw_C} {ct : Nat → vw_C} {fk : Nat → Nat → Nat} {ty : Nat → Nat → FieldType} {Ts Nw : List Cond} {mt : Nat → xM} {en : Nat → String × String × String} {P : xP} {l : Launch} {D : va_G} {cA : Nat → ClassId} {scr : Nat × (Nat → Int32)} {rc : Nat → Nat} {vt : Nat → Nat × Nat × Nat × Nat} {tx : Nat → List Int32}
variable {p : Program} {e : Env} {R : Room} {s : State} {m : MethodId} {args : Array Value} {below : List Frame} {meth : Method} {c0 : Code} {A : Nat → Prop} {ad0 : Nat → Nat} {w0 w9 : xW} {v9 : Option Value} {X : xT → Prop} {M : Nat} {Q : State → Prop}
variable {pc len a b c : Nat} {v : Int32} {u : Int64} {L : xL} {st : List Value} {w : xW}

set_option maxHeartbeats 4000000 in
theorem x_sound1 {ins : Instr} (hx : p.tables.exec = Jvm.exec) (hb : c0.code = (mt M).2.1) (hown : s.vm.findClass (mt M).2.2.2.2 = some m.cls) (hts : ∀ q ∈ Ts, q.before args s = true) (hK : va_K D cl (x_tys cA) s) (hcon : x_con en scr ad0 A s s.heap) (hA : ∀ q, s.heap.size ≤ q → A q) (hR : P.2.1 M + 2 ≤ R.frames ∧ 33 * P.2.1 M + 100 ≤ R.locals ∧ x_C w9 - x_C w0 ≤ R.cells ∧ x_S w9 - x_S w0 ≤ R.slots) (hml : c0.maxLocals = (mt M).2.2.1)
    (hNk : ∀ q ∈ Nw, (∀ s U : State, s.WarmedH U.vm → va_Nw q s → va_Nw q U) ∧ q.onTables = true) (hNw : ∀ q ∈ Nw, va_Nw q s) (hmx : ∀ M, (mt M).2.2.1 ≤ 14) (hnm : meth.name = (mt M).1.name)
    (hK1 : ∀ pc L st w, X (.inl (pc, L, st, w)) → x_gr w w9 ∧ x_WW cl ct fk D cA p l e R s m args below meth c0 A (mt M).2.2.1 ad0 w0 Q pc L st w)
    (hC1 : ∀ M' as pc L st w, X (.inr (.inl (M', as, pc, L, st, w))) → x_CG cl ct fk Ts Nw mt en P l D cA scr M w9 (x_WW cl ct fk D cA p l e R s m args below meth c0 A (mt M).2.2.1 ad0 w0 Q) M' as pc L st w)
    (hE : ins = .ireturn ∨ ins = .lreturn ∨ ins = .areturn ∨ ins = .return_ → x_WW cl ct fk D cA p l e R s m args below meth c0 A (mt M).2.2.1 ad0 w0 Q pc L st w) (hT1 : ∀ i, ins = .new i → ¬ c = 0 → st = [] → X (.inr (.inr (.inr (a, x_lost w 6)))) → x_WW cl ct fk D cA p l e R s m args below meth c0 A (mt M).2.2.1 ad0 w0 Q pc L st w) (htx : tx 0 = [112] ∧ tx 1 = [99, 110, 102]) (hdt : ∀ i, ins = .invokevirtual i → 2 ≤ c → 3 ≤ P.2.1 M)
    (ok : x_okr cl ct fk ty Ts Nw mt rc vt en M (pc, ins, len, a, b, c, v, u)) (h : x_go X rc vt scr tx ins a b c v u pc L st w) : x_WW cl ct fk D cA p l e R s m args below meth c0 A (mt M).2.2.1 ad0 w0 Q pc L st w := by
  cases ins
  case iconst => exact xs_iconst hx hb hK1 ok h
  case bipush => exact xs_bipush hx hb hK1 ok h
  case sipush => exact xs_sipush hx hb hK1 ok h
  case lconst => exact xs_lconst hx hb hK1 ok h
  case iload => exact xs_iload hx hb hK1 ok h
  case lload => exact xs_lload hx hb hK1 ok h
  case aload => exact xs_aload hx hb hK1 ok h
  case iload_n => exact xs_iload_n hx hb hK1 ok h
  case lload_n => exact xs_lload_n hx hb hK1 ok h
  case aload_n => exact xs_aload_n hx hb hK1 ok h
  case istore => exact xs_istore hx hb hK1 ok h
  case lstore => exact xs_lstore hx hb hK1 ok h
  case astore => exact xs_astore hx hb hK1 ok h
  case istore_n => exact xs_istore_n hx hb hK1 ok h
  case lstore_n => exact xs_lstore_n hx hb hK1 ok h
  case astore_n => exact xs_astore_n hx hb hK1 ok h
  case iinc => exact xs_iinc hx hb hK1 ok h
  case iadd => exact xs_iadd hx hb hK1 ok h
  case isub => exact xs_isub hx hb hK1 ok h
  case imul => exact xs_imul hx hb hK1 ok h
  case iand => exact xs_iand hx hb hK1 ok h
  case ior => exact xs_ior hx hb hK1 ok h
  case ixor => exact xs_ixor hx hb hK1 ok h
  case ishl => exact xs_ishl hx hb hK1 ok h
  case iushr => exact xs_iushr hx hb hK1 ok h
  case idiv => exact xs_idiv hx hb hK1 ok h
  case irem => exact xs_irem hx hb hK1 ok h
  case ineg => exact xs_ineg hx hb hK1 ok h
  case land => exact xs_land hx hb hK1 ok h
  case lor => exact xs_lor hx hb hK1 ok h
  case lxor => exact xs_lxor hx hb hK1 ok h
  case lshl => exact xs_lshl hx hb hK1 ok h
  case lshr => exact xs_lshr hx hb hK1 ok h
  case lushr => exact xs_lushr hx hb hK1 ok h
  case i2l => exact xs_i2l hx hb hK1 ok h
  case l2i => exact xs_l2i hx hb hK1 ok h
  case lcmp => exact xs_lcmp hx hb hK1 ok h
  case dup => exact xs_dup hx hb hK1 ok h
  case pop => exact xs_pop hx hb hK1 ok h
  case dup2 => exact xs_dup2 hx hb hK1 ok h
  case ifCond => exact xs_ifCond hx hb hK1 ok h
  case if_icmp => exact xs_if_icmp hx hb hK1 ok h
  case goto => exact xs_goto hx hb hK1 ok h
  case tableswitch => exact xs_tableswitch hx hb hK1 ok h
  case ldc => exact xs_ldc hx hb hK1 hown hts hcon ok h
  case ldc2_w => exact xs_ldc2 hx hb hK1 hown hts ok h
  case getfield => exact xs_getfield hx hb hK1 hown hts hK ok h
  case putfield => exact xs_putfield hx hb hK1 hown hts hK hnm ok h
  case getstatic => exact xs_getstatic hx hb hK1 hown hts hcon ok h
  case iaload => exact xs_iaload hx hb hK1 hK hcon ok h
  case baload => exact xs_baload hx hb hK1 hK ok h
  case laload => exact xs_laload hx hb hK1 hK ok h
  case iastore => exact xs_iastore hx hb hK1 hK ok h
  case bastore => exact xs_bastore hx hb hK1 hK ok h
  case lastore => exact xs_lastore hx hb hK1 hK ok h
  case arraylength => exact xs_arraylength hx hb hK1 hK hcon ok h
  case new => exact xs_new hx hb hK1 hown hts hK hA hR (hT1 _ rfl) ok h
  case newarray => exact xs_newarray hx hb hK1 hown hts hK hA hR ok h
  case invokestatic => exact xs_invokestatic hx hb hK1 hown hts hK hcon hA hR hml hNk hNw hmx hC1 ok h
  case invokespecial => exact xs_invokespecial hx hb hK1 hown hts hK hcon hA hR hml hNk hNw hmx hC1 ok h
  case invokevirtual => exact xs_invokevirtual hx hb hK1 hown hts hK hcon hA hR hml hNk hNw hmx htx (hdt _ rfl) hC1 ok h
  case ireturn => exact hE (Or.inl rfl)
  case lreturn => exact hE (Or.inr (Or.inl rfl))
  case areturn => exact hE (Or.inr (Or.inr (Or.inl rfl)))
  case return_ => exact hE (Or.inr (Or.inr (Or.inr rfl)))
  case if_acmp cd off =>
    cases cd
    · exact (show False from h).elim
    · exact xs_if_acmp hx hb hK1 hcon ok h
  all_goals exact (show False from h).elim
end X10
theorem x_find_in : ∀ (t : List xR) (pc : Nat) (r : xR), x_find t pc = some r → r ∈ t ∧ r.1 = pc
  | [], pc, r, h => by cases h
  | a :: t, pc, r, h => by
    unfold x_find at h
    cases hb : Nat.beq a.1 pc with
    | true =>
      rw [hb] at h
      cases h
      exact ⟨List.mem_cons_self, Nat.eq_of_beq_eq_true hb⟩
    | false =>
      rw [hb] at h
      obtain ⟨h1, h2⟩ := x_find_in t pc r h
      exact ⟨List.mem_cons_of_mem _ h1, h2⟩
theorem x_at_pad : ∀ (n : Nat) (L : xL) (i : Nat) (v : Value), x_at (x_pad n L) i = some v → x_at L i = some v
  | 0, L, i, v, h => by simp [x_pad, x_at] at h
  | n + 1, [], 0, v, h => by simp [x_pad, x_at] at h
  | n + 1, [], i + 1, v, h => by
    have := x_at_pad n [] i v h
    simp [x_at] at this
  | n + 1, a :: t, 0, v, h => h
  | n + 1, a :: t, i + 1, v, h => x_at_pad n t i v h
theorem x_at_lay {ad : Nat → Nat} : ∀ (as : List Value) (i j : Nat) (v : Value), x_at (x_lay as) j = some v → (i + j, x_cv ad v) ∈ lv_args i (as.map (x_cv ad)) ∧ v ∈ as
  | [], i, j, v, h => by simp [x_lay, x_at] at h
  | a :: r, i, j, v, h => by
    unfold x_lay at h
    rw [List.map_cons, lv_args, x_cat_cv]
    cases h2 : x_two (some a) with
    | true =>
      rw [h2] at h
      rw [if_pos (x_two_cat.mp h2)]
      match j, h with
      | 0, h => cases h; exact ⟨List.mem_cons_self, List.mem_cons_self⟩
      | 1, h => cases h
      | j + 2, h =>
        obtain ⟨q1, q2⟩ := x_at_lay r (i + 2) j v h
        refine ⟨List.mem_cons_of_mem _ ?_, List.mem_cons_of_mem _ q2⟩
        have e1 : i + (j + 2) = i + 2 + j := by omega
        rw [e1]; exact q1
    | false =>
      rw [h2] at h
      have hc : ¬ a.category = 2 := fun q => by rw [x_two_cat.mpr q] at h2; cases h2
      rw [if_neg hc]
      match j, h with
      | 0, h => cases h; exact ⟨List.mem_cons_self, List.mem_cons_self⟩
      | j + 1, h =>
        obtain ⟨q1, q2⟩ := x_at_lay r (i + 1) j v h
        refine ⟨List.mem_cons_of_mem _ ?_, List.mem_cons_of_mem _ q2⟩
        have e1 : i + (j + 1) = i + 1 + j := by omega
        rw [e1]; exact q1
theorem x_sl_len {ad : Nat → Nat} : ∀ as : List Value, (lg_sl (as.map (x_cv ad))).length = x_cats as
  | [] => rfl
  | a :: r => by
    have ih := x_sl_len (ad := ad) r
    unfold lg_sl at ih ⊢
    rw [List.map_cons, List.flatMap_cons, List.length_append, ih, x_cat_cv]
    show _ = x_cat a + x_cats r
    cases a <;> rfl
/-- a method without handlers that is no law -/
def x_nh (P : xP) (M : Nat) : Prop := P.2.1 M ≤ 8 ∧ ∀ pc k, P.2.2.2.2.2.2 M pc k = none
section X11
variable {cl : List vw_C} {ct : Nat → vw_C} {fk : Nat → Nat → Nat} {ty : Nat → Nat → FieldType} {Ts Nw : List Cond} {mt : Nat → xM} {en : Nat → String × String × String} {P : xP} {l : Launch} {D : va_G} {cA : Nat → ClassId} {scr : Nat × (Nat → Int32)}
set_option maxHeartbeats 4000000 in
/-- a method of the program meets what the small machine says of it -/
theorem x_sound (hok : ∀ M, x_nh P M → ∀ r, r ∈ P.1 M → x_okr cl ct fk ty Ts Nw mt P.2.2.2.1 P.2.2.2.2.1 en M r) (hpl : ∀ M, plainName (mt M).1.cls = true) (hcls : ∀ M, (mt M).1.cls = (mt M).2.2.2.2) (hmx : ∀ M, (mt M).2.2.1 ≤ 14) (hmp : ∀ M, P.2.2.1 M = (mt M).2.2.1)
    (hNk : ∀ q ∈ Nw, (∀ s U : State, s.WarmedH U.vm → va_Nw q s → va_Nw q U) ∧ q.onTables = true) (htx : P.2.2.2.2.2.1 0 = [112] ∧ P.2.2.2.2.2.1 1 = [99, 110, 102]) (hdt : ∀ M r, r ∈ P.1 M → ∀ i, r.2.1 = .invokevirtual i → 2 ≤ r.2.2.2.2.2.1 → 3 ≤ P.2.1 M) (hhn : ∀ M, P.2.1 M < 8 → ∀ pc k, P.2.2.2.2.2.2 M pc k = none) : ∀ (n M : Nat) (as : List Value) (w : xW) (v : Option Value) (w' : xW), x_nh P M → x_cats as ≤ (mt M).2.2.1 →
    x_wp P scr n M 0 (x_pad (P.2.2.1 M) (x_lay as)) [] w (fun o2 w2 => o2 = .inl v ∧ w2 = w') → x_Met cl ct fk Ts Nw mt en P l D cA scr M as w v w' := by
  intro n
  induction n using Nat.strongRecOn with
  | ind n ih =>
    intro M as w v w' hd8 hca h ad sz
    refine Met.ofW (cc := (mt M).2.1) (maxL := (mt M).2.2.1) (ret := (mt M).2.2.2.1) (hpl M) rfl ?_
    intro p e s m args below meth c s₁ B hml hv
    obtain ⟨rfl, hsz, hrep, hK, hNw, hcon, hwa⟩ := hv
    subst hsz
    have hx := B.exec
    have hb := B.bytes
    have hr := B.returns
    have hts0 := atoms_spec (ws := x_ws Ts mt M) B.pre
    have hts : ∀ q ∈ Ts, q.before ((as.map (x_cv ad)).toArray) s = true := fun q hq => hts0 q (List.mem_cons_of_mem _ hq)
    have hown : s.vm.findClass (mt M).2.2.2.2 = some m.cls := by rw [← hcls M]; exact findClass_of_methodNamed B.named
    have hlk := B.notSynchronized
    have hnm : meth.name = (mt M).1.name := (name_of_methodNamed B.named B.method).1
    have hl0 := lv_entry (as.map (x_cv ad)) (n := (mt M).2.2.1) (by rw [x_sl_len]; exact hca)
    rw [lg_entry_eq]
    generalize (lg_sl (as.map (x_cv ad)) ++ List.replicate ((mt M).2.2.1 - (lg_sl (as.map (x_cv ad))).length) Slot.unset).toArray = ls at hl0 ⊢
    have hA : ∀ q, s.heap.size ≤ q → va_A (x_wd cA (fun a => (ct a).2.2) fk ad w) s.heap.size q := fun q hq => Or.inr hq
    have walk : ∀ (k : Nat), k ≤ n → ∀ (pc : Nat) (L : xL) (st : List Value) (w1 : xW), x_wp P scr k M pc L st w1 (fun o2 w2 => o2 = .inl v ∧ w2 = w') →
        x_WW cl ct fk D cA p l e (x_rm (P.2.1 M) (x_C w' - x_C w) (x_S w' - x_S w)) s m (as.map (x_cv ad)).toArray below meth c (va_A (x_wd cA (fun a => (ct a).2.2) fk ad w) s.heap.size) (mt M).2.2.1 ad w (MQ below (x_post cl ct fk D cA ad w v w' (va_A (x_wd cA (fun a => (ct a).2.2) fk ad w) s.heap.size)) (as.map (x_cv ad)).toArray s (x_C w' - x_C w) (x_S w' - x_S w) (va_A (x_wd cA (fun a => (ct a).2.2) fk ad w) s.heap.size)) pc L st w1 := by
      intro k
      induction k with
      | zero => intro _ pc L st w1 h; exact h.elim
      | succ k ihk =>
        intro hk pc L st w1 h
        obtain ⟨r, hr1, h⟩ := x_som_of h
        obtain ⟨hin, rfl⟩ := x_find_in _ _ _ hr1
        have okr := hok M hd8 r hin
        have hdt2 := hdt M r hin
        obtain ⟨pc, ins, len, a, b, c2, v2, u2⟩ := r
        have hfin : ∀ (o : xO) (w2 : xW), (o = .inl v ∧ w2 = w') → x_gr w2 w' := fun o w2 hq => by rw [hq.2]; exact x_gr_rf
        refine x_sound1 (p := p) (l := l) (e := e) (ins := ins) (X := x_aim P M pc (fun o2 w2 => o2 = .inl v ∧ w2 = w') (fun pc L st w => x_wp P scr k M pc L st w (fun o2 w2 => o2 = .inl v ∧ w2 = w')) (fun M' L w Q' => x_wp P scr k M' 0 L [] w Q')) hx hb hown hts hK hcon hA ⟨Nat.le_refl _, Nat.le_refl _, Nat.le_refl _, Nat.le_refl _⟩ hml hNk hNw hmx hnm ?_ ?_ ?_ ?_ htx (fun i e => hdt2 i e) okr h
        · intro pc2 L2 st2 w2 h2
          exact ⟨x_wp_gr _ _ _ _ _ _ _ hfin h2, ihk (by omega) _ _ _ _ h2⟩
        · intro M' as' pc2 L2 st2 w2 h2
          obtain ⟨hb2, h2⟩ := x_if_of h2
          rw [Bool.and_eq_true] at hb2
          obtain ⟨o3, w3, q1, q2⟩ := x_wp_det _ _ _ _ _ _ _ h2
          have hgr := x_wp_gr (w9 := w3) _ _ _ _ _ _ _ (fun o w hq => by rw [hq.2]; exact x_gr_rf) q2
          cases o3 with
          | inl v3 =>
            have hdep : P.2.1 M' < P.2.1 M := by simpa [Nat.blt, Nat.lt_iff_add_one_le] using Nat.le_of_ble_eq_true hb2.1
            refine ⟨hdep, v3, w3, ih k (by omega) M' as' w2 v3 w3 ⟨by have := hd8.1; omega, hhn M' (by have := hd8.1; omega)⟩ (by rw [← hmp]; exact Nat.le_of_ble_eq_true hb2.2) q2, hgr, x_wp_gr _ _ _ _ _ _ _ hfin q1, ihk (by omega) _ _ _ _ q1⟩
          | inr t3 =>
            have q3 : x_som (P.2.2.2.2.2.2 M pc t3) _ := q1
            rw [hd8.2] at q3
            exact q3.elim
        · intro hE
          have hR1 : ∀ (v3 : Option Value) (w3 : xW), x_aim P M pc (fun o2 w2 => o2 = .inl v ∧ w2 = w') (fun pc L st w => x_wp P scr k M pc L st w (fun o2 w2 => o2 = .inl v ∧ w2 = w')) (fun M' L w Q' => x_wp P scr k M' 0 L [] w Q') (.inr (.inr (.inl (v3, w3)))) → v3 = v ∧ w3 = w' := fun v3 w3 h3 => ⟨Sum.inl.inj h3.1, h3.2⟩
          rcases hE with rfl | rfl | rfl | rfl
          · exact xs_ireturn hx hb hr hlk hR1 okr h
          · exact xs_lreturn hx hb hr hlk hR1 okr h
          · exact xs_areturn hx hb hr hlk hR1 okr h
          · exact xs_return_ hx hb hr hlk hR1 okr h
        · intro i _ _ _ h3
          exact absurd h3.1 (fun q => by cases q)
    have k1 := walk n (Nat.le_refl _) 0 _ _ _ h x_gr_rf s.heap [] ls ad x_ext_rf hrep va_S.rf ⟨hl0.1, hl0.2.1, fun i z hz => hl0.2.2 (i, x_cv ad z) (by
      have := (x_at_lay (ad := ad) as 0 i z (x_at_pad _ _ _ _ hz)).1
      rw [Nat.zero_add] at this
      exact this)⟩ (fun _ hv => by cases hv) (fun i z hz => hwa z (x_at_lay (ad := ad) as 0 i z (x_at_pad _ _ _ _ hz)).2)
    rw [Nat.sub_self, Nat.sub_self] at k1
    exact k1
end X11
end
section
/-! Calls out of words. -/
section X12
variable {Ts Nw : List Cond} {own : String} {idx : Nat} {y : MethodName} {bytes : ByteArray} {maxL n : Nat} {ret : Option FieldType}
theorem x_goodT (hG : ∀ w ∈ Ts, goodWord w = true) {ws : List Cond} (h : ∀ w ∈ ws, w ∈ Ts) : GoodIn Ts ws := fun w hw => ⟨h w hw, good_of_word (hG w (h w hw))⟩
theorem x_goodC (hG : ∀ w ∈ Ts, goodWord w = true) (hc : Cond.code y bytes maxL ret ∈ Ts) : GoodIn Ts (Cond.code y bytes maxL ret :: Ts) := x_goodT hG fun w hw => by
  rcases List.mem_cons.mp hw with rfl | hw
  · exact hc
  · exact hw
theorem x_CallS_own (hG : ∀ w ∈ Ts, goodWord w = true) (hc : Cond.code y bytes maxL ret ∈ Ts) (hl : Cond.methodLink own idx y ∈ Ts) (hs : Cond.static y ∈ Ts) (hi : Cond.initialized y.cls ∈ Ts)
    (hd : y.cls ≠ "java/lang/invoke/MethodHandle" ∧ y.cls ≠ "java/lang/invoke/VarHandle" ∧ (parseMethodDescriptor y.desc).map (fun d => d.parameters.length) = some n) : x_CallS Ts Nw own idx y bytes maxL ret n := by
  intro p l e R s m args below meth c H locs cells slots cc nL rm Pc Qc mc ms free As rest g S hNw hM h1 h2 h3 h4 hp hg hn hsz hst hW hdg hf
  have ht := S.2.2.2.2
  exact va_runS S hM ⟨callB_of n ht (x_goodC hG hc) rfl h1 h2 (ht _ hi) (ht _ hl) hd ⟨h3, h4⟩, ht _ hs⟩ hp hg hn hsz hst hW hdg hf
theorem x_CallS_nest {host : String} (hG : ∀ w ∈ Ts, goodWord w = true) (hc : Cond.code y bytes maxL ret ∈ Ts) (hl : Cond.methodLinkNest own idx y host ∈ Nw) (hs : Cond.static y ∈ Ts) (hi : Cond.initialized y.cls ∈ Ts)
    (hd : y.cls ≠ "java/lang/invoke/MethodHandle" ∧ y.cls ≠ "java/lang/invoke/VarHandle" ∧ (parseMethodDescriptor y.desc).map (fun d => d.parameters.length) = some n) : x_CallS Ts Nw own idx y bytes maxL ret n := by
  intro p l e R s m args below meth c H locs cells slots cc nL rm Pc Qc mc ms free As rest g S hNw hM h1 h2 h3 h4 hp hg hn hsz hst hW hdg hf
  have ht := S.2.2.2.2
  exact va_runSN S hM ⟨va_cnB n ht (x_goodC hG hc) rfl h1 h2 (hNw _ hl) (ht _ hi) hd ⟨h3, h4⟩, ht _ hs, trivial⟩ hp hg hn hsz hst hW hdg hf
theorem x_CallI_own (hG : ∀ w ∈ Ts, goodWord w = true) (hc : Cond.code y bytes maxL none ∈ Ts) (hl : Cond.methodLink own idx y ∈ Ts) (hs : Cond.instanceMethod y ∈ Ts) (hi : Cond.initialized y.cls ∈ Ts) (hy : y.name = "<init>")
    (hd : y.cls ≠ "java/lang/invoke/MethodHandle" ∧ y.cls ≠ "java/lang/invoke/VarHandle" ∧ (parseMethodDescriptor y.desc).map (fun d => d.parameters.length) = some n) : x_CallI Ts Nw own idx y bytes maxL (n + 1) := by
  intro p l e R s m args below meth c H locs cells slots cc nL rm Pc Qc mc ms free b As rest g S hNw hM h1 h2 h3 h4 hp hg hn hsz hst hW hdg hf
  have ht := S.2.2.2.2
  exact va_runI S hM (cwI n ht (x_goodC hG hc) rfl h1 h2 (ht _ hi) (ht _ hl) (ht _ hs) hy hd ⟨h3, h4⟩) hp hg (by omega) hsz hst hW hdg hf
theorem x_CallI_nest {host : String} (hG : ∀ w ∈ Ts, goodWord w = true) (hc : Cond.code y bytes maxL none ∈ Ts) (hl : Cond.methodLinkNest own idx y host ∈ Nw) (hs : Cond.instanceMethod y ∈ Ts) (hi : Cond.initialized y.cls ∈ Ts) (hy : y.name = "<init>")
    (hd : y.cls ≠ "java/lang/invoke/MethodHandle" ∧ y.cls ≠ "java/lang/invoke/VarHandle" ∧ (parseMethodDescriptor y.desc).map (fun d => d.parameters.length) = some n) : x_CallI Ts Nw own idx y bytes maxL (n + 1) := by
  intro p l e R s m args below meth c H locs cells slots cc nL rm Pc Qc mc ms free b As rest g S hNw hM h1 h2 h3 h4 hp hg hn hsz hst hW hdg hf
  have ht := S.2.2.2.2
  exact va_runIN S hM ⟨va_cnB n ht (x_goodC hG hc) rfl h1 h2 (hNw _ hl) (ht _ hi) hd ⟨h3, h4⟩, hy, ht _ hs⟩ hp hg (by omega) hsz hst hW hdg hf
theorem x_CallV_own (hG : ∀ w ∈ Ts, goodWord w = true) (hc : Cond.code y bytes maxL ret ∈ Ts) (hl : Cond.methodLink own idx y ∈ Ts) (hs : Cond.instanceMethod y ∈ Ts) (hi : Cond.initialized y.cls ∈ Ts) (hse : Cond.selects y.cls y y ∈ Ts)
    (hd : y.cls ≠ "java/lang/invoke/MethodHandle" ∧ y.cls ≠ "java/lang/invoke/VarHandle" ∧ (parseMethodDescriptor y.desc).map (fun d => d.parameters.length) = some n) : x_CallV Ts Nw own idx y.cls y bytes maxL ret (n + 1) := by
  intro p l e R s m args below meth c H locs cells slots cc nL rm Pc Qc mc ms free b As rest g S hNw hM h1 h2 h3 h4 hp hg hn hsz hst hW hdg hf
  have ht := S.2.2.2.2
  exact va_runV S hM ⟨callB_of n ht (x_goodC hG hc) rfl h1 h2 (ht _ hi) (ht _ hl) hd ⟨h3, h4⟩, ht _ hs, ht _ hse⟩ hp hg (by omega) hsz hst hW hdg hf
/-- an inherited method, by its own code's owner -/
theorem x_CallV_up {C : String} {x : MethodName} (hG : ∀ w ∈ Ts, goodWord w = true) (hc : Cond.code y bytes maxL ret ∈ Ts) (hl : Cond.methodLink own idx x ∈ Ts) (hsm : Cond.sameMethod x.cls y.cls x.name x.desc ∈ Ts) (hs : Cond.instanceMethod y ∈ Ts) (hi : Cond.initialized y.cls ∈ Ts) (hse : Cond.selects C x y ∈ Ts) (hyx : y = ⟨y.cls, x.name, x.desc⟩)
    (hd : y.cls ≠ "java/lang/invoke/MethodHandle" ∧ y.cls ≠ "java/lang/invoke/VarHandle" ∧ (parseMethodDescriptor x.desc).map (fun d => d.parameters.length) = some n) : x_CallV Ts Nw own idx C y bytes maxL ret (n + 1) := by
  intro p l e R s m args below meth c H locs cells slots cc nL rm Pc Qc mc ms free b As rest g S hNw hM h1 h2 h3 h4 hp hg hn hsz hst hW hdg hf
  have ht := S.2.2.2.2
  refine va_runU (owner := y.cls) S hM (va_cwU n ht (x_goodT hG fun w hw => ?_) rfl h1 h2 hyx hd ⟨h3, h4⟩) hp hg (by omega) hsz hst hW hdg hf
  simp only [va_wsU, List.mem_append, List.mem_cons, List.not_mem_nil, or_false] at hw
  rcases hw with (rfl | rfl | rfl | rfl | rfl) | rfl | hw
  · exact hl
  · exact hsm
  · exact hse
  · exact hs
  · exact hi
  · exact hc
  · exact hw
/-- a method whose named one is abstract -/
theorem x_CallV_abs {C owner : String} {x : MethodName} (hG : ∀ w ∈ Ts, goodWord w = true) (hc : Cond.code y bytes maxL ret ∈ Ts) (hl : Cond.methodLink own idx x ∈ Ts) (hsm : Cond.sameMethod x.cls owner x.name x.desc ∈ Ts) (hs : Cond.instanceMethod y ∈ Ts) (hi : Cond.initialized y.cls ∈ Ts) (hse : Cond.selects C x y ∈ Ts) (hdc : Cond.declares ⟨owner, x.name, x.desc⟩ ∈ Nw)
    (hd : owner ≠ "java/lang/invoke/MethodHandle" ∧ owner ≠ "java/lang/invoke/VarHandle" ∧ (parseMethodDescriptor x.desc).map (fun d => d.parameters.length) = some n) : x_CallV Ts Nw own idx C y bytes maxL ret (n + 1) := by
  intro p l e R s m args below meth c H locs cells slots cc nL rm Pc Qc mc ms free b As rest g S hNw hM h1 h2 h3 h4 hp hg hn hsz hst hW hdg hf
  have ht := S.2.2.2.2
  refine va_runU (owner := owner) S hM (va_cwA n ht (x_goodT hG fun w hw => ?_) rfl h1 h2 (hNw _ hdc) hd ⟨h3, h4⟩) hp hg (by omega) hsz hst hW hdg hf
  simp only [va_wsU, List.mem_append, List.mem_cons, List.not_mem_nil, or_false] at hw
  rcases hw with (rfl | rfl | rfl | rfl | rfl) | rfl | hw
  · exact hl
  · exact hsm
  · exact hse
  · exact hs
  · exact hi
  · exact hc
  · exact hw
end X12
end
section
/-! The words of the tables (begun from the skeleton, PART A). -/
-- ===== PART A: goes FIRST, ahead of the names: the tables' words, and 'selects' of the private methods out of them =====
/-- a private method of a class that the tables say can be made, by its rows of tables_1 -/
def lw_okq (q : MethodName × Nat) : Prop := (q.1.cls ≠ "java/lang/invoke/MethodHandle" ∧ q.1.cls ≠ "java/lang/invoke/VarHandle") ∧ Cond.instantiable q.1.cls q.2 ∈ tables_1 ∧ Cond.privateMethod q.1 ∈ tables_1 ∧ Cond.instanceMethod q.1 ∈ tables_1
theorem lw_p0 : lw_okq (⟨"StreamRefuter$Problem", "forgetAll", "()V"⟩, 13) := ⟨⟨by decide +kernel, by decide +kernel⟩, List.mem_of_getElem? (i := 102) (by decide +kernel), List.mem_of_getElem? (i := 422) (by decide +kernel), List.mem_of_getElem? (i := 423) (by decide +kernel)⟩
theorem lw_p1 : lw_okq (⟨"StreamRefuter$Words", "isGap", "(I)Z"⟩, 4) := ⟨⟨by decide +kernel, by decide +kernel⟩, List.mem_of_getElem? (i := 47) (by decide +kernel), List.mem_of_getElem? (i := 440) (by decide +kernel), List.mem_of_getElem? (i := 441) (by decide +kernel)⟩
theorem lw_p2 : lw_okq (⟨"StreamRefuter$Words", "meaning", "(I)I"⟩, 4) := ⟨⟨by decide +kernel, by decide +kernel⟩, List.mem_of_getElem? (i := 47) (by decide +kernel), List.mem_of_getElem? (i := 448) (by decide +kernel), List.mem_of_getElem? (i := 449) (by decide +kernel)⟩
theorem lw_p3 : lw_okq (⟨"StreamRefuter$Words", "sizeOfDigits", "(I)I"⟩, 4) := ⟨⟨by decide +kernel, by decide +kernel⟩, List.mem_of_getElem? (i := 47) (by decide +kernel), List.mem_of_getElem? (i := 452) (by decide +kernel), List.mem_of_getElem? (i := 453) (by decide +kernel)⟩
theorem lw_p4 : lw_okq (⟨"StreamRefuter$Problem", "readFormulaClauses", "(LStreamRefuter$Words;I)I"⟩, 13) := ⟨⟨by decide +kernel, by decide +kernel⟩, List.mem_of_getElem? (i := 102) (by decide +kernel), List.mem_of_getElem? (i := 510) (by decide +kernel), List.mem_of_getElem? (i := 511) (by decide +kernel)⟩
theorem lw_p5 : lw_okq (⟨"StreamRefuter$Problem", "readClause", "(LStreamRefuter$Numbers;)Z"⟩, 13) := ⟨⟨by decide +kernel, by decide +kernel⟩, List.mem_of_getElem? (i := 102) (by decide +kernel), List.mem_of_getElem? (i := 514) (by decide +kernel), List.mem_of_getElem? (i := 515) (by decide +kernel)⟩
theorem lw_p6 : lw_okq (⟨"StreamRefuter$PackedNumbers", "takeTwoBytes", "(I)V"⟩, 4) := ⟨⟨by decide +kernel, by decide +kernel⟩, List.mem_of_getElem? (i := 91) (by decide +kernel), List.mem_of_getElem? (i := 538) (by decide +kernel), List.mem_of_getElem? (i := 539) (by decide +kernel)⟩
theorem lw_p7 : lw_okq (⟨"StreamRefuter$Problem", "keepClause", "()V"⟩, 13) := ⟨⟨by decide +kernel, by decide +kernel⟩, List.mem_of_getElem? (i := 102) (by decide +kernel), List.mem_of_getElem? (i := 544) (by decide +kernel), List.mem_of_getElem? (i := 545) (by decide +kernel)⟩
theorem lw_p8 : lw_okq (⟨"java/lang/Throwable", "fillInStackTrace", "(I)Ljava/lang/Throwable;"⟩, 6) := ⟨⟨by decide +kernel, by decide +kernel⟩, List.mem_of_getElem? (i := 588) (by decide +kernel), List.mem_of_getElem? (i := 586) (by decide +kernel), List.mem_of_getElem? (i := 587) (by decide +kernel)⟩
theorem lw_p9 : lw_okq (⟨"StreamRefuter", "adoptDraft", "()V"⟩, 10) := ⟨⟨by decide +kernel, by decide +kernel⟩, List.mem_of_getElem? (i := 25) (by decide +kernel), List.mem_of_getElem? (i := 614) (by decide +kernel), List.mem_of_getElem? (i := 615) (by decide +kernel)⟩
theorem lw_p10 : lw_okq (⟨"StreamRefuter$Problem", "copyFormula", "(LStreamRefuter$Problem;)V"⟩, 13) := ⟨⟨by decide +kernel, by decide +kernel⟩, List.mem_of_getElem? (i := 102) (by decide +kernel), List.mem_of_getElem? (i := 649) (by decide +kernel), List.mem_of_getElem? (i := 650) (by decide +kernel)⟩
theorem lw_p11 : lw_okq (⟨"StreamRefuter$Problem", "mayOpen", "(LStreamRefuter$Opening;)Z"⟩, 13) := ⟨⟨by decide +kernel, by decide +kernel⟩, List.mem_of_getElem? (i := 102) (by decide +kernel), List.mem_of_getElem? (i := 676) (by decide +kernel), List.mem_of_getElem? (i := 677) (by decide +kernel)⟩
theorem lw_p12 : lw_okq (⟨"StreamRefuter$Problem", "keepStep", "(ILStreamRefuter$Opening;)V"⟩, 13) := ⟨⟨by decide +kernel, by decide +kernel⟩, List.mem_of_getElem? (i := 102) (by decide +kernel), List.mem_of_getElem? (i := 692) (by decide +kernel), List.mem_of_getElem? (i := 693) (by decide +kernel)⟩
theorem lw_p13 : lw_okq (⟨"StreamRefuter$Problem", "lowestAlike", "(JI)J"⟩, 13) := ⟨⟨by decide +kernel, by decide +kernel⟩, List.mem_of_getElem? (i := 102) (by decide +kernel), List.mem_of_getElem? (i := 696) (by decide +kernel), List.mem_of_getElem? (i := 697) (by decide +kernel)⟩
theorem lw_p14 : lw_okq (⟨"StreamRefuter", "adoptSpare", "()V"⟩, 10) := ⟨⟨by decide +kernel, by decide +kernel⟩, List.mem_of_getElem? (i := 25) (by decide +kernel), List.mem_of_getElem? (i := 726) (by decide +kernel), List.mem_of_getElem? (i := 727) (by decide +kernel)⟩
theorem lw_p15 : lw_okq (⟨"StreamRefuter$Propagation", "goOn", "(J)Z"⟩, 10) := ⟨⟨by decide +kernel, by decide +kernel⟩, List.mem_of_getElem? (i := 204) (by decide +kernel), List.mem_of_getElem? (i := 745) (by decide +kernel), List.mem_of_getElem? (i := 746) (by decide +kernel)⟩
def lw_privs_1 : List (MethodName × Nat) := [(⟨"StreamRefuter$Problem", "forgetAll", "()V"⟩, 13), (⟨"StreamRefuter$Words", "isGap", "(I)Z"⟩, 4), (⟨"StreamRefuter$Words", "meaning", "(I)I"⟩, 4), (⟨"StreamRefuter$Words", "sizeOfDigits", "(I)I"⟩, 4), (⟨"StreamRefuter$Problem", "readFormulaClauses", "(LStreamRefuter$Words;I)I"⟩, 13), (⟨"StreamRefuter$Problem", "readClause", "(LStreamRefuter$Numbers;)Z"⟩, 13), (⟨"StreamRefuter$PackedNumbers", "takeTwoBytes", "(I)V"⟩, 4), (⟨"StreamRefuter$Problem", "keepClause", "()V"⟩, 13), (⟨"java/lang/Throwable", "fillInStackTrace", "(I)Ljava/lang/Throwable;"⟩, 6), (⟨"StreamRefuter", "adoptDraft", "()V"⟩, 10), (⟨"StreamRefuter$Problem", "copyFormula", "(LStreamRefuter$Problem;)V"⟩, 13), (⟨"StreamRefuter$Problem", "mayOpen", "(LStreamRefuter$Opening;)Z"⟩, 13), (⟨"StreamRefuter$Problem", "keepStep", "(ILStreamRefuter$Opening;)V"⟩, 13), (⟨"StreamRefuter$Problem", "lowestAlike", "(JI)J"⟩, 13), (⟨"StreamRefuter", "adoptSpare", "()V"⟩, 10), (⟨"StreamRefuter$Propagation", "goOn", "(J)Z"⟩, 10)]
theorem lw_r1 : ∀ q ∈ lw_privs_1, lw_okq q := List.forall_mem_cons.mpr ⟨lw_p0, List.forall_mem_cons.mpr ⟨lw_p1, List.forall_mem_cons.mpr ⟨lw_p2, List.forall_mem_cons.mpr ⟨lw_p3, List.forall_mem_cons.mpr ⟨lw_p4, List.forall_mem_cons.mpr ⟨lw_p5, List.forall_mem_cons.mpr ⟨lw_p6, List.forall_mem_cons.mpr ⟨lw_p7, List.forall_mem_cons.mpr ⟨lw_p8, List.forall_mem_cons.mpr ⟨lw_p9, List.forall_mem_cons.mpr ⟨lw_p10, List.forall_mem_cons.mpr ⟨lw_p11, List.forall_mem_cons.mpr ⟨lw_p12, List.forall_mem_cons.mpr ⟨lw_p13, List.forall_mem_cons.mpr ⟨lw_p14, List.forall_mem_cons.mpr ⟨lw_p15, fun _ h => absurd h List.not_mem_nil⟩⟩⟩⟩⟩⟩⟩⟩⟩⟩⟩⟩⟩⟩⟩⟩
theorem lw_p16 : lw_okq (⟨"StreamRefuter$Propagation", "pickReady", "(J)I"⟩, 10) := ⟨⟨by decide +kernel, by decide +kernel⟩, List.mem_of_getElem? (i := 204) (by decide +kernel), List.mem_of_getElem? (i := 749) (by decide +kernel), List.mem_of_getElem? (i := 750) (by decide +kernel)⟩
theorem lw_p17 : lw_okq (⟨"StreamRefuter$Propagation", "neededFor", "(I)I"⟩, 10) := ⟨⟨by decide +kernel, by decide +kernel⟩, List.mem_of_getElem? (i := 204) (by decide +kernel), List.mem_of_getElem? (i := 755) (by decide +kernel), List.mem_of_getElem? (i := 756) (by decide +kernel)⟩
theorem lw_p18 : lw_okq (⟨"StreamRefuter$Refuter", "isRight", "(LStreamRefuter$Problem;IJ)Z"⟩, 10) := ⟨⟨by decide +kernel, by decide +kernel⟩, List.mem_of_getElem? (i := 196) (by decide +kernel), List.mem_of_getElem? (i := 771) (by decide +kernel), List.mem_of_getElem? (i := 772) (by decide +kernel)⟩
theorem lw_p19 : lw_okq (⟨"StreamRefuter$Propagation", "firstTrue", "(II)I"⟩, 10) := ⟨⟨by decide +kernel, by decide +kernel⟩, List.mem_of_getElem? (i := 204) (by decide +kernel), List.mem_of_getElem? (i := 782) (by decide +kernel), List.mem_of_getElem? (i := 783) (by decide +kernel)⟩
theorem lw_p20 : lw_okq (⟨"StreamRefuter$Refuter", "begin", "(LStreamRefuter$Problem;I)V"⟩, 10) := ⟨⟨by decide +kernel, by decide +kernel⟩, List.mem_of_getElem? (i := 196) (by decide +kernel), List.mem_of_getElem? (i := 798) (by decide +kernel), List.mem_of_getElem? (i := 799) (by decide +kernel)⟩
theorem lw_p21 : lw_okq (⟨"StreamRefuter$Refuter", "noteImplied", "(IJ)Z"⟩, 10) := ⟨⟨by decide +kernel, by decide +kernel⟩, List.mem_of_getElem? (i := 196) (by decide +kernel), List.mem_of_getElem? (i := 803) (by decide +kernel), List.mem_of_getElem? (i := 804) (by decide +kernel)⟩
theorem lw_p22 : lw_okq (⟨"StreamRefuter$Refuter", "markNeeded", "()V"⟩, 10) := ⟨⟨by decide +kernel, by decide +kernel⟩, List.mem_of_getElem? (i := 196) (by decide +kernel), List.mem_of_getElem? (i := 807) (by decide +kernel), List.mem_of_getElem? (i := 808) (by decide +kernel)⟩
theorem lw_p23 : lw_okq (⟨"StreamRefuter$Refuter", "noteReasons", "(I)V"⟩, 10) := ⟨⟨by decide +kernel, by decide +kernel⟩, List.mem_of_getElem? (i := 196) (by decide +kernel), List.mem_of_getElem? (i := 811) (by decide +kernel), List.mem_of_getElem? (i := 812) (by decide +kernel)⟩
theorem lw_p24 : lw_okq (⟨"StreamRefuter$Refuter", "noteConflict", "()V"⟩, 10) := ⟨⟨by decide +kernel, by decide +kernel⟩, List.mem_of_getElem? (i := 196) (by decide +kernel), List.mem_of_getElem? (i := 816) (by decide +kernel), List.mem_of_getElem? (i := 817) (by decide +kernel)⟩
theorem lw_p25 : lw_okq (⟨"StreamRefuter$Refuter", "noteSpared", "(IJ)Z"⟩, 10) := ⟨⟨by decide +kernel, by decide +kernel⟩, List.mem_of_getElem? (i := 196) (by decide +kernel), List.mem_of_getElem? (i := 821) (by decide +kernel), List.mem_of_getElem? (i := 822) (by decide +kernel)⟩
theorem lw_p26 : lw_okq (⟨"StreamRefuter$Refuter", "pickCandidate", "(JI)I"⟩, 10) := ⟨⟨by decide +kernel, by decide +kernel⟩, List.mem_of_getElem? (i := 196) (by decide +kernel), List.mem_of_getElem? (i := 825) (by decide +kernel), List.mem_of_getElem? (i := 826) (by decide +kernel)⟩
theorem lw_p27 : lw_okq (⟨"StreamRefuter$Refuter", "write", "(LStreamRefuter$Tokens;)I"⟩, 10) := ⟨⟨by decide +kernel, by decide +kernel⟩, List.mem_of_getElem? (i := 196) (by decide +kernel), List.mem_of_getElem? (i := 829) (by decide +kernel), List.mem_of_getElem? (i := 830) (by decide +kernel)⟩
theorem lw_p28 : lw_okq (⟨"StreamRefuter$Refuter", "writeDrops", "(LStreamRefuter$Tokens;IJ)V"⟩, 10) := ⟨⟨by decide +kernel, by decide +kernel⟩, List.mem_of_getElem? (i := 196) (by decide +kernel), List.mem_of_getElem? (i := 833) (by decide +kernel), List.mem_of_getElem? (i := 834) (by decide +kernel)⟩
theorem lw_p29 : lw_okq (⟨"StreamRefuter$Refuter", "writeLine", "(LStreamRefuter$Tokens;II)V"⟩, 10) := ⟨⟨by decide +kernel, by decide +kernel⟩, List.mem_of_getElem? (i := 196) (by decide +kernel), List.mem_of_getElem? (i := 837) (by decide +kernel), List.mem_of_getElem? (i := 838) (by decide +kernel)⟩
theorem lw_p30 : lw_okq (⟨"StreamRefuter$Judge", "begin", "(LStreamRefuter$Problem;LStreamRefuter$Tokens;)V"⟩, 12) := ⟨⟨by decide +kernel, by decide +kernel⟩, List.mem_of_getElem? (i := 276) (by decide +kernel), List.mem_of_getElem? (i := 861) (by decide +kernel), List.mem_of_getElem? (i := 862) (by decide +kernel)⟩
theorem lw_p31 : lw_okq (⟨"StreamRefuter$Judge", "learn", "(II)V"⟩, 12) := ⟨⟨by decide +kernel, by decide +kernel⟩, List.mem_of_getElem? (i := 276) (by decide +kernel), List.mem_of_getElem? (i := 865) (by decide +kernel), List.mem_of_getElem? (i := 866) (by decide +kernel)⟩
def lw_privs_2 : List (MethodName × Nat) := [(⟨"StreamRefuter$Propagation", "pickReady", "(J)I"⟩, 10), (⟨"StreamRefuter$Propagation", "neededFor", "(I)I"⟩, 10), (⟨"StreamRefuter$Refuter", "isRight", "(LStreamRefuter$Problem;IJ)Z"⟩, 10), (⟨"StreamRefuter$Propagation", "firstTrue", "(II)I"⟩, 10), (⟨"StreamRefuter$Refuter", "begin", "(LStreamRefuter$Problem;I)V"⟩, 10), (⟨"StreamRefuter$Refuter", "noteImplied", "(IJ)Z"⟩, 10), (⟨"StreamRefuter$Refuter", "markNeeded", "()V"⟩, 10), (⟨"StreamRefuter$Refuter", "noteReasons", "(I)V"⟩, 10), (⟨"StreamRefuter$Refuter", "noteConflict", "()V"⟩, 10), (⟨"StreamRefuter$Refuter", "noteSpared", "(IJ)Z"⟩, 10), (⟨"StreamRefuter$Refuter", "pickCandidate", "(JI)I"⟩, 10), (⟨"StreamRefuter$Refuter", "write", "(LStreamRefuter$Tokens;)I"⟩, 10), (⟨"StreamRefuter$Refuter", "writeDrops", "(LStreamRefuter$Tokens;IJ)V"⟩, 10), (⟨"StreamRefuter$Refuter", "writeLine", "(LStreamRefuter$Tokens;II)V"⟩, 10), (⟨"StreamRefuter$Judge", "begin", "(LStreamRefuter$Problem;LStreamRefuter$Tokens;)V"⟩, 12), (⟨"StreamRefuter$Judge", "learn", "(II)V"⟩, 12)]
theorem lw_r2 : ∀ q ∈ lw_privs_2, lw_okq q := List.forall_mem_cons.mpr ⟨lw_p16, List.forall_mem_cons.mpr ⟨lw_p17, List.forall_mem_cons.mpr ⟨lw_p18, List.forall_mem_cons.mpr ⟨lw_p19, List.forall_mem_cons.mpr ⟨lw_p20, List.forall_mem_cons.mpr ⟨lw_p21, List.forall_mem_cons.mpr ⟨lw_p22, List.forall_mem_cons.mpr ⟨lw_p23, List.forall_mem_cons.mpr ⟨lw_p24, List.forall_mem_cons.mpr ⟨lw_p25, List.forall_mem_cons.mpr ⟨lw_p26, List.forall_mem_cons.mpr ⟨lw_p27, List.forall_mem_cons.mpr ⟨lw_p28, List.forall_mem_cons.mpr ⟨lw_p29, List.forall_mem_cons.mpr ⟨lw_p30, List.forall_mem_cons.mpr ⟨lw_p31, fun _ h => absurd h List.not_mem_nil⟩⟩⟩⟩⟩⟩⟩⟩⟩⟩⟩⟩⟩⟩⟩⟩
theorem lw_p32 : lw_okq (⟨"StreamRefuter$Judge", "dropAll", "(I)Z"⟩, 12) := ⟨⟨by decide +kernel, by decide +kernel⟩, List.mem_of_getElem? (i := 276) (by decide +kernel), List.mem_of_getElem? (i := 874) (by decide +kernel), List.mem_of_getElem? (i := 875) (by decide +kernel)⟩
theorem lw_p33 : lw_okq (⟨"StreamRefuter$Judge", "find", "(I)I"⟩, 12) := ⟨⟨by decide +kernel, by decide +kernel⟩, List.mem_of_getElem? (i := 276) (by decide +kernel), List.mem_of_getElem? (i := 878) (by decide +kernel), List.mem_of_getElem? (i := 879) (by decide +kernel)⟩
theorem lw_p34 : lw_okq (⟨"StreamRefuter$Judge", "isGood", "(II)Z"⟩, 12) := ⟨⟨by decide +kernel, by decide +kernel⟩, List.mem_of_getElem? (i := 276) (by decide +kernel), List.mem_of_getElem? (i := 882) (by decide +kernel), List.mem_of_getElem? (i := 883) (by decide +kernel)⟩
theorem lw_p35 : lw_okq (⟨"StreamRefuter$Judge", "readClause", "()Z"⟩, 12) := ⟨⟨by decide +kernel, by decide +kernel⟩, List.mem_of_getElem? (i := 276) (by decide +kernel), List.mem_of_getElem? (i := 886) (by decide +kernel), List.mem_of_getElem? (i := 887) (by decide +kernel)⟩
theorem lw_p36 : lw_okq (⟨"StreamRefuter$Judge", "followRow", "()Z"⟩, 12) := ⟨⟨by decide +kernel, by decide +kernel⟩, List.mem_of_getElem? (i := 276) (by decide +kernel), List.mem_of_getElem? (i := 893) (by decide +kernel), List.mem_of_getElem? (i := 894) (by decide +kernel)⟩
theorem lw_p37 : lw_okq (⟨"StreamRefuter$Judge", "follow", "(I)Z"⟩, 12) := ⟨⟨by decide +kernel, by decide +kernel⟩, List.mem_of_getElem? (i := 276) (by decide +kernel), List.mem_of_getElem? (i := 897) (by decide +kernel), List.mem_of_getElem? (i := 898) (by decide +kernel)⟩
theorem lw_p38 : lw_okq (⟨"StreamRefuter$Judge", "isSpared", "(II)Z"⟩, 12) := ⟨⟨by decide +kernel, by decide +kernel⟩, List.mem_of_getElem? (i := 276) (by decide +kernel), List.mem_of_getElem? (i := 901) (by decide +kernel), List.mem_of_getElem? (i := 902) (by decide +kernel)⟩
theorem lw_p39 : lw_okq (⟨"StreamRefuter$Judge", "howManyHave", "(I)I"⟩, 12) := ⟨⟨by decide +kernel, by decide +kernel⟩, List.mem_of_getElem? (i := 276) (by decide +kernel), List.mem_of_getElem? (i := 905) (by decide +kernel), List.mem_of_getElem? (i := 906) (by decide +kernel)⟩
theorem lw_p40 : lw_okq (⟨"StreamRefuter$Judge", "withstands", "(I)Z"⟩, 12) := ⟨⟨by decide +kernel, by decide +kernel⟩, List.mem_of_getElem? (i := 276) (by decide +kernel), List.mem_of_getElem? (i := 909) (by decide +kernel), List.mem_of_getElem? (i := 910) (by decide +kernel)⟩
theorem lw_p41 : lw_okq (⟨"StreamRefuterModel", "readFormula", "()I"⟩, 56) := ⟨⟨by decide +kernel, by decide +kernel⟩, List.mem_of_getElem? (i := 913) (by decide +kernel), List.mem_of_getElem? (i := 1109) (by decide +kernel), List.mem_of_getElem? (i := 1110) (by decide +kernel)⟩
theorem lw_p42 : lw_okq (⟨"StreamRefuterModel", "heading", "()I"⟩, 56) := ⟨⟨by decide +kernel, by decide +kernel⟩, List.mem_of_getElem? (i := 913) (by decide +kernel), List.mem_of_getElem? (i := 1113) (by decide +kernel), List.mem_of_getElem? (i := 1114) (by decide +kernel)⟩
theorem lw_p43 : lw_okq (⟨"StreamRefuterModel", "word", "()Z"⟩, 56) := ⟨⟨by decide +kernel, by decide +kernel⟩, List.mem_of_getElem? (i := 913) (by decide +kernel), List.mem_of_getElem? (i := 1117) (by decide +kernel), List.mem_of_getElem? (i := 1118) (by decide +kernel)⟩
theorem lw_p44 : lw_okq (⟨"StreamRefuterModel", "isLetter", "(I)Z"⟩, 56) := ⟨⟨by decide +kernel, by decide +kernel⟩, List.mem_of_getElem? (i := 913) (by decide +kernel), List.mem_of_getElem? (i := 1124) (by decide +kernel), List.mem_of_getElem? (i := 1125) (by decide +kernel)⟩
theorem lw_p45 : lw_okq (⟨"StreamRefuterModel", "isCnf", "()Z"⟩, 56) := ⟨⟨by decide +kernel, by decide +kernel⟩, List.mem_of_getElem? (i := 913) (by decide +kernel), List.mem_of_getElem? (i := 1128) (by decide +kernel), List.mem_of_getElem? (i := 1129) (by decide +kernel)⟩
theorem lw_p46 : lw_okq (⟨"StreamRefuterModel", "within", "(II)I"⟩, 56) := ⟨⟨by decide +kernel, by decide +kernel⟩, List.mem_of_getElem? (i := 913) (by decide +kernel), List.mem_of_getElem? (i := 1132) (by decide +kernel), List.mem_of_getElem? (i := 1133) (by decide +kernel)⟩
theorem lw_p47 : lw_okq (⟨"StreamRefuterModel", "next", "()I"⟩, 56) := ⟨⟨by decide +kernel, by decide +kernel⟩, List.mem_of_getElem? (i := 913) (by decide +kernel), List.mem_of_getElem? (i := 1136) (by decide +kernel), List.mem_of_getElem? (i := 1137) (by decide +kernel)⟩
def lw_privs_3 : List (MethodName × Nat) := [(⟨"StreamRefuter$Judge", "dropAll", "(I)Z"⟩, 12), (⟨"StreamRefuter$Judge", "find", "(I)I"⟩, 12), (⟨"StreamRefuter$Judge", "isGood", "(II)Z"⟩, 12), (⟨"StreamRefuter$Judge", "readClause", "()Z"⟩, 12), (⟨"StreamRefuter$Judge", "followRow", "()Z"⟩, 12), (⟨"StreamRefuter$Judge", "follow", "(I)Z"⟩, 12), (⟨"StreamRefuter$Judge", "isSpared", "(II)Z"⟩, 12), (⟨"StreamRefuter$Judge", "howManyHave", "(I)I"⟩, 12), (⟨"StreamRefuter$Judge", "withstands", "(I)Z"⟩, 12), (⟨"StreamRefuterModel", "readFormula", "()I"⟩, 56), (⟨"StreamRefuterModel", "heading", "()I"⟩, 56), (⟨"StreamRefuterModel", "word", "()Z"⟩, 56), (⟨"StreamRefuterModel", "isLetter", "(I)Z"⟩, 56), (⟨"StreamRefuterModel", "isCnf", "()Z"⟩, 56), (⟨"StreamRefuterModel", "within", "(II)I"⟩, 56), (⟨"StreamRefuterModel", "next", "()I"⟩, 56)]
theorem lw_r3 : ∀ q ∈ lw_privs_3, lw_okq q := List.forall_mem_cons.mpr ⟨lw_p32, List.forall_mem_cons.mpr ⟨lw_p33, List.forall_mem_cons.mpr ⟨lw_p34, List.forall_mem_cons.mpr ⟨lw_p35, List.forall_mem_cons.mpr ⟨lw_p36, List.forall_mem_cons.mpr ⟨lw_p37, List.forall_mem_cons.mpr ⟨lw_p38, List.forall_mem_cons.mpr ⟨lw_p39, List.forall_mem_cons.mpr ⟨lw_p40, List.forall_mem_cons.mpr ⟨lw_p41, List.forall_mem_cons.mpr ⟨lw_p42, List.forall_mem_cons.mpr ⟨lw_p43, List.forall_mem_cons.mpr ⟨lw_p44, List.forall_mem_cons.mpr ⟨lw_p45, List.forall_mem_cons.mpr ⟨lw_p46, List.forall_mem_cons.mpr ⟨lw_p47, fun _ h => absurd h List.not_mem_nil⟩⟩⟩⟩⟩⟩⟩⟩⟩⟩⟩⟩⟩⟩⟩⟩
theorem lw_p48 : lw_okq (⟨"StreamRefuterModel", "isNumber", "()Z"⟩, 56) := ⟨⟨by decide +kernel, by decide +kernel⟩, List.mem_of_getElem? (i := 913) (by decide +kernel), List.mem_of_getElem? (i := 1140) (by decide +kernel), List.mem_of_getElem? (i := 1141) (by decide +kernel)⟩
theorem lw_p49 : lw_okq (⟨"StreamRefuterModel", "clause", "(I)I"⟩, 56) := ⟨⟨by decide +kernel, by decide +kernel⟩, List.mem_of_getElem? (i := 913) (by decide +kernel), List.mem_of_getElem? (i := 1144) (by decide +kernel), List.mem_of_getElem? (i := 1145) (by decide +kernel)⟩
theorem lw_p50 : lw_okq (⟨"StreamRefuterModel", "fits", "(I)Z"⟩, 56) := ⟨⟨by decide +kernel, by decide +kernel⟩, List.mem_of_getElem? (i := 913) (by decide +kernel), List.mem_of_getElem? (i := 1148) (by decide +kernel), List.mem_of_getElem? (i := 1149) (by decide +kernel)⟩
theorem lw_p51 : lw_okq (⟨"StreamRefuterModel", "takeOver", "(II)V"⟩, 56) := ⟨⟨by decide +kernel, by decide +kernel⟩, List.mem_of_getElem? (i := 913) (by decide +kernel), List.mem_of_getElem? (i := 1155) (by decide +kernel), List.mem_of_getElem? (i := 1156) (by decide +kernel)⟩
theorem lw_p52 : lw_okq (⟨"StreamRefuterModel", "forget", "()V"⟩, 56) := ⟨⟨by decide +kernel, by decide +kernel⟩, List.mem_of_getElem? (i := 913) (by decide +kernel), List.mem_of_getElem? (i := 1159) (by decide +kernel), List.mem_of_getElem? (i := 1160) (by decide +kernel)⟩
theorem lw_p53 : lw_okq (⟨"StreamRefuterModel", "readStream", "()I"⟩, 56) := ⟨⟨by decide +kernel, by decide +kernel⟩, List.mem_of_getElem? (i := 913) (by decide +kernel), List.mem_of_getElem? (i := 1167) (by decide +kernel), List.mem_of_getElem? (i := 1168) (by decide +kernel)⟩
theorem lw_p54 : lw_okq (⟨"StreamRefuterModel", "beginning", "(II)I"⟩, 56) := ⟨⟨by decide +kernel, by decide +kernel⟩, List.mem_of_getElem? (i := 913) (by decide +kernel), List.mem_of_getElem? (i := 1171) (by decide +kernel), List.mem_of_getElem? (i := 1172) (by decide +kernel)⟩
theorem lw_p55 : lw_okq (⟨"StreamRefuterModel", "same", "(I)I"⟩, 56) := ⟨⟨by decide +kernel, by decide +kernel⟩, List.mem_of_getElem? (i := 913) (by decide +kernel), List.mem_of_getElem? (i := 1175) (by decide +kernel), List.mem_of_getElem? (i := 1176) (by decide +kernel)⟩
theorem lw_p56 : lw_okq (⟨"StreamRefuterModel", "hasLiteral", "(II)Z"⟩, 56) := ⟨⟨by decide +kernel, by decide +kernel⟩, List.mem_of_getElem? (i := 913) (by decide +kernel), List.mem_of_getElem? (i := 1179) (by decide +kernel), List.mem_of_getElem? (i := 1180) (by decide +kernel)⟩
theorem lw_p57 : lw_okq (⟨"StreamRefuterModel", "readLine", "()I"⟩, 56) := ⟨⟨by decide +kernel, by decide +kernel⟩, List.mem_of_getElem? (i := 913) (by decide +kernel), List.mem_of_getElem? (i := 1187) (by decide +kernel), List.mem_of_getElem? (i := 1188) (by decide +kernel)⟩
theorem lw_p58 : lw_okq (⟨"StreamRefuterModel", "push", "(I)V"⟩, 56) := ⟨⟨by decide +kernel, by decide +kernel⟩, List.mem_of_getElem? (i := 913) (by decide +kernel), List.mem_of_getElem? (i := 1191) (by decide +kernel), List.mem_of_getElem? (i := 1192) (by decide +kernel)⟩
theorem lw_p59 : lw_okq (⟨"StreamRefuterModel", "numbers", "()I"⟩, 56) := ⟨⟨by decide +kernel, by decide +kernel⟩, List.mem_of_getElem? (i := 913) (by decide +kernel), List.mem_of_getElem? (i := 1195) (by decide +kernel), List.mem_of_getElem? (i := 1196) (by decide +kernel)⟩
theorem lw_p60 : lw_okq (⟨"StreamRefuterModel", "keepTokens", "()V"⟩, 56) := ⟨⟨by decide +kernel, by decide +kernel⟩, List.mem_of_getElem? (i := 913) (by decide +kernel), List.mem_of_getElem? (i := 1199) (by decide +kernel), List.mem_of_getElem? (i := 1200) (by decide +kernel)⟩
theorem lw_p61 : lw_okq (⟨"StreamRefuterModel", "findEnd", "()I"⟩, 56) := ⟨⟨by decide +kernel, by decide +kernel⟩, List.mem_of_getElem? (i := 913) (by decide +kernel), List.mem_of_getElem? (i := 1215) (by decide +kernel), List.mem_of_getElem? (i := 1216) (by decide +kernel)⟩
theorem lw_p62 : lw_okq (⟨"StreamRefuterModel", "liveAfter", "(I)V"⟩, 56) := ⟨⟨by decide +kernel, by decide +kernel⟩, List.mem_of_getElem? (i := 913) (by decide +kernel), List.mem_of_getElem? (i := 1219) (by decide +kernel), List.mem_of_getElem? (i := 1220) (by decide +kernel)⟩
theorem lw_p63 : lw_okq (⟨"StreamRefuterModel", "beginEmpty", "()V"⟩, 56) := ⟨⟨by decide +kernel, by decide +kernel⟩, List.mem_of_getElem? (i := 913) (by decide +kernel), List.mem_of_getElem? (i := 1223) (by decide +kernel), List.mem_of_getElem? (i := 1224) (by decide +kernel)⟩
def lw_privs_4 : List (MethodName × Nat) := [(⟨"StreamRefuterModel", "isNumber", "()Z"⟩, 56), (⟨"StreamRefuterModel", "clause", "(I)I"⟩, 56), (⟨"StreamRefuterModel", "fits", "(I)Z"⟩, 56), (⟨"StreamRefuterModel", "takeOver", "(II)V"⟩, 56), (⟨"StreamRefuterModel", "forget", "()V"⟩, 56), (⟨"StreamRefuterModel", "readStream", "()I"⟩, 56), (⟨"StreamRefuterModel", "beginning", "(II)I"⟩, 56), (⟨"StreamRefuterModel", "same", "(I)I"⟩, 56), (⟨"StreamRefuterModel", "hasLiteral", "(II)Z"⟩, 56), (⟨"StreamRefuterModel", "readLine", "()I"⟩, 56), (⟨"StreamRefuterModel", "push", "(I)V"⟩, 56), (⟨"StreamRefuterModel", "numbers", "()I"⟩, 56), (⟨"StreamRefuterModel", "keepTokens", "()V"⟩, 56), (⟨"StreamRefuterModel", "findEnd", "()I"⟩, 56), (⟨"StreamRefuterModel", "liveAfter", "(I)V"⟩, 56), (⟨"StreamRefuterModel", "beginEmpty", "()V"⟩, 56)]
theorem lw_r4 : ∀ q ∈ lw_privs_4, lw_okq q := List.forall_mem_cons.mpr ⟨lw_p48, List.forall_mem_cons.mpr ⟨lw_p49, List.forall_mem_cons.mpr ⟨lw_p50, List.forall_mem_cons.mpr ⟨lw_p51, List.forall_mem_cons.mpr ⟨lw_p52, List.forall_mem_cons.mpr ⟨lw_p53, List.forall_mem_cons.mpr ⟨lw_p54, List.forall_mem_cons.mpr ⟨lw_p55, List.forall_mem_cons.mpr ⟨lw_p56, List.forall_mem_cons.mpr ⟨lw_p57, List.forall_mem_cons.mpr ⟨lw_p58, List.forall_mem_cons.mpr ⟨lw_p59, List.forall_mem_cons.mpr ⟨lw_p60, List.forall_mem_cons.mpr ⟨lw_p61, List.forall_mem_cons.mpr ⟨lw_p62, List.forall_mem_cons.mpr ⟨lw_p63, fun _ h => absurd h List.not_mem_nil⟩⟩⟩⟩⟩⟩⟩⟩⟩⟩⟩⟩⟩⟩⟩⟩
theorem lw_p64 : lw_okq (⟨"StreamRefuterModel", "propagate", "()V"⟩, 56) := ⟨⟨by decide +kernel, by decide +kernel⟩, List.mem_of_getElem? (i := 913) (by decide +kernel), List.mem_of_getElem? (i := 1227) (by decide +kernel), List.mem_of_getElem? (i := 1228) (by decide +kernel)⟩
theorem lw_p65 : lw_okq (⟨"StreamRefuterModel", "pick", "()I"⟩, 56) := ⟨⟨by decide +kernel, by decide +kernel⟩, List.mem_of_getElem? (i := 913) (by decide +kernel), List.mem_of_getElem? (i := 1231) (by decide +kernel), List.mem_of_getElem? (i := 1232) (by decide +kernel)⟩
theorem lw_p66 : lw_okq (⟨"StreamRefuterModel", "isReady", "(I)Z"⟩, 56) := ⟨⟨by decide +kernel, by decide +kernel⟩, List.mem_of_getElem? (i := 913) (by decide +kernel), List.mem_of_getElem? (i := 1235) (by decide +kernel), List.mem_of_getElem? (i := 1236) (by decide +kernel)⟩
theorem lw_p67 : lw_okq (⟨"StreamRefuterModel", "value", "(I)I"⟩, 56) := ⟨⟨by decide +kernel, by decide +kernel⟩, List.mem_of_getElem? (i := 913) (by decide +kernel), List.mem_of_getElem? (i := 1239) (by decide +kernel), List.mem_of_getElem? (i := 1240) (by decide +kernel)⟩
theorem lw_p68 : lw_okq (⟨"StreamRefuterModel", "makeTrue", "(I)V"⟩, 56) := ⟨⟨by decide +kernel, by decide +kernel⟩, List.mem_of_getElem? (i := 913) (by decide +kernel), List.mem_of_getElem? (i := 1243) (by decide +kernel), List.mem_of_getElem? (i := 1244) (by decide +kernel)⟩
theorem lw_p69 : lw_okq (⟨"StreamRefuterModel", "isRight", "(I)Z"⟩, 56) := ⟨⟨by decide +kernel, by decide +kernel⟩, List.mem_of_getElem? (i := 913) (by decide +kernel), List.mem_of_getElem? (i := 1251) (by decide +kernel), List.mem_of_getElem? (i := 1252) (by decide +kernel)⟩
theorem lw_p70 : lw_okq (⟨"StreamRefuterModel", "implied", "(I)Z"⟩, 56) := ⟨⟨by decide +kernel, by decide +kernel⟩, List.mem_of_getElem? (i := 913) (by decide +kernel), List.mem_of_getElem? (i := 1255) (by decide +kernel), List.mem_of_getElem? (i := 1256) (by decide +kernel)⟩
theorem lw_p71 : lw_okq (⟨"StreamRefuterModel", "keepBase", "()V"⟩, 56) := ⟨⟨by decide +kernel, by decide +kernel⟩, List.mem_of_getElem? (i := 913) (by decide +kernel), List.mem_of_getElem? (i := 1259) (by decide +kernel), List.mem_of_getElem? (i := 1260) (by decide +kernel)⟩
theorem lw_p72 : lw_okq (⟨"StreamRefuterModel", "passes", "(II)Z"⟩, 56) := ⟨⟨by decide +kernel, by decide +kernel⟩, List.mem_of_getElem? (i := 913) (by decide +kernel), List.mem_of_getElem? (i := 1263) (by decide +kernel), List.mem_of_getElem? (i := 1264) (by decide +kernel)⟩
theorem lw_p73 : lw_okq (⟨"StreamRefuterModel", "needNothing", "()V"⟩, 56) := ⟨⟨by decide +kernel, by decide +kernel⟩, List.mem_of_getElem? (i := 913) (by decide +kernel), List.mem_of_getElem? (i := 1267) (by decide +kernel), List.mem_of_getElem? (i := 1268) (by decide +kernel)⟩
theorem lw_p74 : lw_okq (⟨"StreamRefuterModel", "firstTrue", "(II)I"⟩, 56) := ⟨⟨by decide +kernel, by decide +kernel⟩, List.mem_of_getElem? (i := 913) (by decide +kernel), List.mem_of_getElem? (i := 1271) (by decide +kernel), List.mem_of_getElem? (i := 1272) (by decide +kernel)⟩
theorem lw_p75 : lw_okq (⟨"StreamRefuterModel", "findNeeds", "()V"⟩, 56) := ⟨⟨by decide +kernel, by decide +kernel⟩, List.mem_of_getElem? (i := 913) (by decide +kernel), List.mem_of_getElem? (i := 1275) (by decide +kernel), List.mem_of_getElem? (i := 1276) (by decide +kernel)⟩
theorem lw_p76 : lw_okq (⟨"StreamRefuterModel", "backTo", "(I)V"⟩, 56) := ⟨⟨by decide +kernel, by decide +kernel⟩, List.mem_of_getElem? (i := 913) (by decide +kernel), List.mem_of_getElem? (i := 1279) (by decide +kernel), List.mem_of_getElem? (i := 1280) (by decide +kernel)⟩
theorem lw_p77 : lw_okq (⟨"StreamRefuterModel", "goBack", "(I)I"⟩, 56) := ⟨⟨by decide +kernel, by decide +kernel⟩, List.mem_of_getElem? (i := 913) (by decide +kernel), List.mem_of_getElem? (i := 1287) (by decide +kernel), List.mem_of_getElem? (i := 1288) (by decide +kernel)⟩
theorem lw_p78 : lw_okq (⟨"StreamRefuterModel", "hintsOf", "(I)V"⟩, 56) := ⟨⟨by decide +kernel, by decide +kernel⟩, List.mem_of_getElem? (i := 913) (by decide +kernel), List.mem_of_getElem? (i := 1291) (by decide +kernel), List.mem_of_getElem? (i := 1292) (by decide +kernel)⟩
theorem lw_p79 : lw_okq (⟨"StreamRefuterModel", "addHint", "(I)V"⟩, 56) := ⟨⟨by decide +kernel, by decide +kernel⟩, List.mem_of_getElem? (i := 913) (by decide +kernel), List.mem_of_getElem? (i := 1295) (by decide +kernel), List.mem_of_getElem? (i := 1296) (by decide +kernel)⟩
def lw_privs_5 : List (MethodName × Nat) := [(⟨"StreamRefuterModel", "propagate", "()V"⟩, 56), (⟨"StreamRefuterModel", "pick", "()I"⟩, 56), (⟨"StreamRefuterModel", "isReady", "(I)Z"⟩, 56), (⟨"StreamRefuterModel", "value", "(I)I"⟩, 56), (⟨"StreamRefuterModel", "makeTrue", "(I)V"⟩, 56), (⟨"StreamRefuterModel", "isRight", "(I)Z"⟩, 56), (⟨"StreamRefuterModel", "implied", "(I)Z"⟩, 56), (⟨"StreamRefuterModel", "keepBase", "()V"⟩, 56), (⟨"StreamRefuterModel", "passes", "(II)Z"⟩, 56), (⟨"StreamRefuterModel", "needNothing", "()V"⟩, 56), (⟨"StreamRefuterModel", "firstTrue", "(II)I"⟩, 56), (⟨"StreamRefuterModel", "findNeeds", "()V"⟩, 56), (⟨"StreamRefuterModel", "backTo", "(I)V"⟩, 56), (⟨"StreamRefuterModel", "goBack", "(I)I"⟩, 56), (⟨"StreamRefuterModel", "hintsOf", "(I)V"⟩, 56), (⟨"StreamRefuterModel", "addHint", "(I)V"⟩, 56)]
theorem lw_r5 : ∀ q ∈ lw_privs_5, lw_okq q := List.forall_mem_cons.mpr ⟨lw_p64, List.forall_mem_cons.mpr ⟨lw_p65, List.forall_mem_cons.mpr ⟨lw_p66, List.forall_mem_cons.mpr ⟨lw_p67, List.forall_mem_cons.mpr ⟨lw_p68, List.forall_mem_cons.mpr ⟨lw_p69, List.forall_mem_cons.mpr ⟨lw_p70, List.forall_mem_cons.mpr ⟨lw_p71, List.forall_mem_cons.mpr ⟨lw_p72, List.forall_mem_cons.mpr ⟨lw_p73, List.forall_mem_cons.mpr ⟨lw_p74, List.forall_mem_cons.mpr ⟨lw_p75, List.forall_mem_cons.mpr ⟨lw_p76, List.forall_mem_cons.mpr ⟨lw_p77, List.forall_mem_cons.mpr ⟨lw_p78, List.forall_mem_cons.mpr ⟨lw_p79, fun _ h => absurd h List.not_mem_nil⟩⟩⟩⟩⟩⟩⟩⟩⟩⟩⟩⟩⟩⟩⟩⟩
theorem lw_p80 : lw_okq (⟨"StreamRefuterModel", "wayOf", "(I)I"⟩, 56) := ⟨⟨by decide +kernel, by decide +kernel⟩, List.mem_of_getElem? (i := 913) (by decide +kernel), List.mem_of_getElem? (i := 1299) (by decide +kernel), List.mem_of_getElem? (i := 1300) (by decide +kernel)⟩
theorem lw_p81 : lw_okq (⟨"StreamRefuterModel", "spared", "(I)Z"⟩, 56) := ⟨⟨by decide +kernel, by decide +kernel⟩, List.mem_of_getElem? (i := 913) (by decide +kernel), List.mem_of_getElem? (i := 1303) (by decide +kernel), List.mem_of_getElem? (i := 1304) (by decide +kernel)⟩
theorem lw_p82 : lw_okq (⟨"StreamRefuterModel", "candidate", "(I)I"⟩, 56) := ⟨⟨by decide +kernel, by decide +kernel⟩, List.mem_of_getElem? (i := 913) (by decide +kernel), List.mem_of_getElem? (i := 1307) (by decide +kernel), List.mem_of_getElem? (i := 1308) (by decide +kernel)⟩
theorem lw_p83 : lw_okq (⟨"StreamRefuterModel", "takeGroup", "(II)V"⟩, 56) := ⟨⟨by decide +kernel, by decide +kernel⟩, List.mem_of_getElem? (i := 913) (by decide +kernel), List.mem_of_getElem? (i := 1311) (by decide +kernel), List.mem_of_getElem? (i := 1312) (by decide +kernel)⟩
theorem lw_p84 : lw_okq (⟨"StreamRefuterModel", "addGroup", "(I)V"⟩, 56) := ⟨⟨by decide +kernel, by decide +kernel⟩, List.mem_of_getElem? (i := 913) (by decide +kernel), List.mem_of_getElem? (i := 1315) (by decide +kernel), List.mem_of_getElem? (i := 1316) (by decide +kernel)⟩
theorem lw_p85 : lw_okq (⟨"StreamRefuterModel", "dropUnmarked", "()V"⟩, 56) := ⟨⟨by decide +kernel, by decide +kernel⟩, List.mem_of_getElem? (i := 913) (by decide +kernel), List.mem_of_getElem? (i := 1319) (by decide +kernel), List.mem_of_getElem? (i := 1320) (by decide +kernel)⟩
theorem lw_p86 : lw_okq (⟨"StreamRefuterModel", "pushLine", "(IIZ)V"⟩, 56) := ⟨⟨by decide +kernel, by decide +kernel⟩, List.mem_of_getElem? (i := 913) (by decide +kernel), List.mem_of_getElem? (i := 1323) (by decide +kernel), List.mem_of_getElem? (i := 1324) (by decide +kernel)⟩
theorem lw_p87 : lw_okq (⟨"StreamRefuterModel", "knowFormula", "()V"⟩, 56) := ⟨⟨by decide +kernel, by decide +kernel⟩, List.mem_of_getElem? (i := 913) (by decide +kernel), List.mem_of_getElem? (i := 1351) (by decide +kernel), List.mem_of_getElem? (i := 1352) (by decide +kernel)⟩
theorem lw_p88 : lw_okq (⟨"StreamRefuterModel", "know", "(II)V"⟩, 56) := ⟨⟨by decide +kernel, by decide +kernel⟩, List.mem_of_getElem? (i := 913) (by decide +kernel), List.mem_of_getElem? (i := 1355) (by decide +kernel), List.mem_of_getElem? (i := 1356) (by decide +kernel)⟩
theorem lw_p89 : lw_okq (⟨"StreamRefuterModel", "lineEnd", "(I)I"⟩, 56) := ⟨⟨by decide +kernel, by decide +kernel⟩, List.mem_of_getElem? (i := 913) (by decide +kernel), List.mem_of_getElem? (i := 1359) (by decide +kernel), List.mem_of_getElem? (i := 1360) (by decide +kernel)⟩
theorem lw_p90 : lw_okq (⟨"StreamRefuterModel", "behindZero", "(I)I"⟩, 56) := ⟨⟨by decide +kernel, by decide +kernel⟩, List.mem_of_getElem? (i := 913) (by decide +kernel), List.mem_of_getElem? (i := 1363) (by decide +kernel), List.mem_of_getElem? (i := 1364) (by decide +kernel)⟩
theorem lw_p91 : lw_okq (⟨"StreamRefuterModel", "drops", "(I)Z"⟩, 56) := ⟨⟨by decide +kernel, by decide +kernel⟩, List.mem_of_getElem? (i := 913) (by decide +kernel), List.mem_of_getElem? (i := 1367) (by decide +kernel), List.mem_of_getElem? (i := 1368) (by decide +kernel)⟩
theorem lw_p92 : lw_okq (⟨"StreamRefuterModel", "find", "(I)I"⟩, 56) := ⟨⟨by decide +kernel, by decide +kernel⟩, List.mem_of_getElem? (i := 913) (by decide +kernel), List.mem_of_getElem? (i := 1371) (by decide +kernel), List.mem_of_getElem? (i := 1372) (by decide +kernel)⟩
theorem lw_p93 : lw_okq (⟨"StreamRefuterModel", "goodLine", "(III)I"⟩, 56) := ⟨⟨by decide +kernel, by decide +kernel⟩, List.mem_of_getElem? (i := 913) (by decide +kernel), List.mem_of_getElem? (i := 1375) (by decide +kernel), List.mem_of_getElem? (i := 1376) (by decide +kernel)⟩
theorem lw_p94 : lw_okq (⟨"StreamRefuterModel", "beginLine", "(I)I"⟩, 56) := ⟨⟨by decide +kernel, by decide +kernel⟩, List.mem_of_getElem? (i := 913) (by decide +kernel), List.mem_of_getElem? (i := 1379) (by decide +kernel), List.mem_of_getElem? (i := 1380) (by decide +kernel)⟩
theorem lw_p95 : lw_okq (⟨"StreamRefuterModel", "isFollowed", "(III)Z"⟩, 56) := ⟨⟨by decide +kernel, by decide +kernel⟩, List.mem_of_getElem? (i := 913) (by decide +kernel), List.mem_of_getElem? (i := 1383) (by decide +kernel), List.mem_of_getElem? (i := 1384) (by decide +kernel)⟩
def lw_privs_6 : List (MethodName × Nat) := [(⟨"StreamRefuterModel", "wayOf", "(I)I"⟩, 56), (⟨"StreamRefuterModel", "spared", "(I)Z"⟩, 56), (⟨"StreamRefuterModel", "candidate", "(I)I"⟩, 56), (⟨"StreamRefuterModel", "takeGroup", "(II)V"⟩, 56), (⟨"StreamRefuterModel", "addGroup", "(I)V"⟩, 56), (⟨"StreamRefuterModel", "dropUnmarked", "()V"⟩, 56), (⟨"StreamRefuterModel", "pushLine", "(IIZ)V"⟩, 56), (⟨"StreamRefuterModel", "knowFormula", "()V"⟩, 56), (⟨"StreamRefuterModel", "know", "(II)V"⟩, 56), (⟨"StreamRefuterModel", "lineEnd", "(I)I"⟩, 56), (⟨"StreamRefuterModel", "behindZero", "(I)I"⟩, 56), (⟨"StreamRefuterModel", "drops", "(I)Z"⟩, 56), (⟨"StreamRefuterModel", "find", "(I)I"⟩, 56), (⟨"StreamRefuterModel", "goodLine", "(III)I"⟩, 56), (⟨"StreamRefuterModel", "beginLine", "(I)I"⟩, 56), (⟨"StreamRefuterModel", "isFollowed", "(III)Z"⟩, 56)]
theorem lw_r6 : ∀ q ∈ lw_privs_6, lw_okq q := List.forall_mem_cons.mpr ⟨lw_p80, List.forall_mem_cons.mpr ⟨lw_p81, List.forall_mem_cons.mpr ⟨lw_p82, List.forall_mem_cons.mpr ⟨lw_p83, List.forall_mem_cons.mpr ⟨lw_p84, List.forall_mem_cons.mpr ⟨lw_p85, List.forall_mem_cons.mpr ⟨lw_p86, List.forall_mem_cons.mpr ⟨lw_p87, List.forall_mem_cons.mpr ⟨lw_p88, List.forall_mem_cons.mpr ⟨lw_p89, List.forall_mem_cons.mpr ⟨lw_p90, List.forall_mem_cons.mpr ⟨lw_p91, List.forall_mem_cons.mpr ⟨lw_p92, List.forall_mem_cons.mpr ⟨lw_p93, List.forall_mem_cons.mpr ⟨lw_p94, List.forall_mem_cons.mpr ⟨lw_p95, fun _ h => absurd h List.not_mem_nil⟩⟩⟩⟩⟩⟩⟩⟩⟩⟩⟩⟩⟩⟩⟩⟩
theorem lw_p96 : lw_okq (⟨"StreamRefuterModel", "follow", "(I)I"⟩, 56) := ⟨⟨by decide +kernel, by decide +kernel⟩, List.mem_of_getElem? (i := 913) (by decide +kernel), List.mem_of_getElem? (i := 1387) (by decide +kernel), List.mem_of_getElem? (i := 1388) (by decide +kernel)⟩
theorem lw_p97 : lw_okq (⟨"StreamRefuterModel", "isKnownReady", "(I)Z"⟩, 56) := ⟨⟨by decide +kernel, by decide +kernel⟩, List.mem_of_getElem? (i := 913) (by decide +kernel), List.mem_of_getElem? (i := 1391) (by decide +kernel), List.mem_of_getElem? (i := 1392) (by decide +kernel)⟩
theorem lw_p98 : lw_okq (⟨"StreamRefuterModel", "names", "(III)Z"⟩, 56) := ⟨⟨by decide +kernel, by decide +kernel⟩, List.mem_of_getElem? (i := 913) (by decide +kernel), List.mem_of_getElem? (i := 1395) (by decide +kernel), List.mem_of_getElem? (i := 1396) (by decide +kernel)⟩
theorem lw_p99 : lw_okq (⟨"StreamRefuterModel", "knownHas", "(II)Z"⟩, 56) := ⟨⟨by decide +kernel, by decide +kernel⟩, List.mem_of_getElem? (i := 913) (by decide +kernel), List.mem_of_getElem? (i := 1399) (by decide +kernel), List.mem_of_getElem? (i := 1400) (by decide +kernel)⟩
theorem lw_p100 : lw_okq (⟨"StreamRefuterModel", "followGroup", "(IIII)Z"⟩, 56) := ⟨⟨by decide +kernel, by decide +kernel⟩, List.mem_of_getElem? (i := 913) (by decide +kernel), List.mem_of_getElem? (i := 1403) (by decide +kernel), List.mem_of_getElem? (i := 1404) (by decide +kernel)⟩
theorem lw_p101 : lw_okq (⟨"StreamRefuterModel", "isMet", "(II)Z"⟩, 56) := ⟨⟨by decide +kernel, by decide +kernel⟩, List.mem_of_getElem? (i := 913) (by decide +kernel), List.mem_of_getElem? (i := 1407) (by decide +kernel), List.mem_of_getElem? (i := 1408) (by decide +kernel)⟩
def lw_privs_7 : List (MethodName × Nat) := [(⟨"StreamRefuterModel", "follow", "(I)I"⟩, 56), (⟨"StreamRefuterModel", "isKnownReady", "(I)Z"⟩, 56), (⟨"StreamRefuterModel", "names", "(III)Z"⟩, 56), (⟨"StreamRefuterModel", "knownHas", "(II)Z"⟩, 56), (⟨"StreamRefuterModel", "followGroup", "(IIII)Z"⟩, 56), (⟨"StreamRefuterModel", "isMet", "(II)Z"⟩, 56)]
theorem lw_r7 : ∀ q ∈ lw_privs_7, lw_okq q := List.forall_mem_cons.mpr ⟨lw_p96, List.forall_mem_cons.mpr ⟨lw_p97, List.forall_mem_cons.mpr ⟨lw_p98, List.forall_mem_cons.mpr ⟨lw_p99, List.forall_mem_cons.mpr ⟨lw_p100, List.forall_mem_cons.mpr ⟨lw_p101, fun _ h => absurd h List.not_mem_nil⟩⟩⟩⟩⟩⟩
def lw_privs : List (MethodName × Nat) := lw_privs_1 ++ (lw_privs_2 ++ (lw_privs_3 ++ (lw_privs_4 ++ (lw_privs_5 ++ (lw_privs_6 ++ (lw_privs_7))))))
def lw_tbl : List Cond := k2_sels lw_privs ++ tables_1
theorem lw_privs_ok : ∀ q ∈ lw_privs, lw_okq q := by
  show ∀ q ∈ lw_privs_1 ++ (lw_privs_2 ++ (lw_privs_3 ++ (lw_privs_4 ++ (lw_privs_5 ++ (lw_privs_6 ++ (lw_privs_7)))))), lw_okq q
  exact List.forall_mem_append.mpr ⟨lw_r1, List.forall_mem_append.mpr ⟨lw_r2, List.forall_mem_append.mpr ⟨lw_r3, List.forall_mem_append.mpr ⟨lw_r4, List.forall_mem_append.mpr ⟨lw_r5, List.forall_mem_append.mpr ⟨lw_r6, lw_r7⟩⟩⟩⟩⟩⟩

/-- the words that stay -/
def x_Ts : List Cond := lw_tbl.filter goodWord
theorem x_TsG : ∀ w ∈ x_Ts, goodWord w = true := fun w hw => (List.mem_filter.mp hw).2
theorem x_tm (i : Nat) {w : Cond} (h : tables_1[i]? = some w) (hg : goodWord w = true) : w ∈ x_Ts := List.mem_filter.mpr ⟨List.mem_append_right _ (List.mem_of_getElem? h), hg⟩
theorem x_tp {q : MethodName × Nat} (h : q ∈ lw_privs) : Cond.selects q.1.cls q.1 q.1 ∈ x_Ts := List.mem_filter.mpr ⟨List.mem_append_left _ (List.mem_map.mpr ⟨q, h, rfl⟩), rfl⟩
def x_nth {α : Type} (d : α) : List α → Nat → α
  | [], _ => d
  | a :: _, 0 => a
  | _ :: t, n + 1 => x_nth d t n
theorem x_nth_all {α : Type} {d : α} {P : α → Prop} (hd : P d) : ∀ (l : List α), (∀ a ∈ l, P a) → ∀ i, P (x_nth d l i)
  | [], _, _ => hd
  | a :: _, h, 0 => h a List.mem_cons_self
  | _ :: t, h, n + 1 => x_nth_all hd t (fun a ha => h a (List.mem_cons_of_mem _ ha)) n
end
section
/-! Classes, methods and code of the program: printed by gen/gen_tables.py. -/
def x_R0 : String := "StreamRefuter"
def x_T0 : u_T := fun k => match k with
  | 0 => ("StreamRefuter", "text", "LStreamRefuter$Text;", true)
  | 1 => ("StreamRefuter", "words", "LStreamRefuter$Words;", true)
  | 2 => ("StreamRefuter", "packedNumbers", "LStreamRefuter$PackedNumbers;", true)
  | 3 => ("StreamRefuter", "refuter", "LStreamRefuter$Refuter;", true)
  | 4 => ("StreamRefuter", "judging", "LStreamRefuter$Judge;", true)
  | 5 => ("StreamRefuter", "problem", "LStreamRefuter$Problem;", false)
  | 6 => ("StreamRefuter", "draft", "LStreamRefuter$Problem;", false)
  | 7 => ("StreamRefuter", "kept", "LStreamRefuter$Tokens;", false)
  | 8 => ("StreamRefuter", "spare", "LStreamRefuter$Tokens;", false)
  | _ => ("StreamRefuter", "faultPlace", "I", false)
def x_R1 : String := "StreamRefuter$Text"
def x_T1 : u_T := fun k => match k with
  | 0 => ("StreamRefuter$Text", "bytes", "[I", true)
  | _ => ("StreamRefuter$Text", "length", "I", false)
def x_R2 : String := "StreamRefuter$Words"
def x_T2 : u_T := fun k => match k with
  | 0 => ("StreamRefuter$Numbers", "text", "LStreamRefuter$Text;", true)
  | 1 => ("StreamRefuter$Numbers", "next", "I", false)
  | 2 => ("StreamRefuter$Numbers", "place", "I", false)
  | _ => ("StreamRefuter$Numbers", "value", "I", false)
def x_R3 : String := "StreamRefuter$PackedNumbers"
def x_T3 : u_T := fun k => match k with
  | 0 => ("StreamRefuter$Numbers", "text", "LStreamRefuter$Text;", true)
  | 1 => ("StreamRefuter$Numbers", "next", "I", false)
  | 2 => ("StreamRefuter$Numbers", "place", "I", false)
  | _ => ("StreamRefuter$Numbers", "value", "I", false)
def x_R4 : String := "StreamRefuter$Problem"
def x_T4 : u_T := fun k => match k with
  | 0 => ("StreamRefuter$Problem", "hasFormula", "Z", false)
  | 1 => ("StreamRefuter$Problem", "hasStream", "Z", false)
  | 2 => ("StreamRefuter$Problem", "variables", "I", false)
  | 3 => ("StreamRefuter$Problem", "formulaSize", "I", false)
  | 4 => ("StreamRefuter$Problem", "size", "I", false)
  | 5 => ("StreamRefuter$Problem", "steps", "I", false)
  | 6 => ("StreamRefuter$Problem", "literals", "[I", true)
  | 7 => ("StreamRefuter$Problem", "lengths", "[I", true)
  | 8 => ("StreamRefuter$Problem", "sets", "[I", true)
  | 9 => ("StreamRefuter$Problem", "added", "[I", true)
  | 10 => ("StreamRefuter$Problem", "alive", "[J", true)
  | 11 => ("StreamRefuter$Problem", "marked", "J", false)
  | _ => ("StreamRefuter$Problem", "spared", "J", false)
def x_R5 : String := "StreamRefuter$Tokens"
def x_T5 : u_T := fun k => match k with
  | 0 => ("StreamRefuter$Tokens", "row", "[I", true)
  | 1 => ("StreamRefuter$Tokens", "count", "I", false)
  | _ => ("StreamRefuter$Tokens", "lines", "I", false)
def x_R6 : String := "StreamRefuter$Propagation"
def x_T6 : u_T := fun k => match k with
  | 0 => ("StreamRefuter$Propagation", "problem", "LStreamRefuter$Problem;", false)
  | 1 => ("StreamRefuter$Propagation", "alive", "J", false)
  | 2 => ("StreamRefuter$Propagation", "truths", "I", false)
  | 3 => ("StreamRefuter$Propagation", "baseTruths", "I", false)
  | 4 => ("StreamRefuter$Propagation", "reasons", "[I", true)
  | 5 => ("StreamRefuter$Propagation", "gains", "[I", true)
  | 6 => ("StreamRefuter$Propagation", "taken", "I", false)
  | 7 => ("StreamRefuter$Propagation", "baseTaken", "I", false)
  | 8 => ("StreamRefuter$Propagation", "conflict", "I", false)
  | _ => ("StreamRefuter$Propagation", "needed", "I", false)
def x_R7 : String := "StreamRefuter$Refuter"
def x_T7 : u_T := fun k => match k with
  | 0 => ("StreamRefuter$Refuter", "propagation", "LStreamRefuter$Propagation;", true)
  | 1 => ("StreamRefuter$Refuter", "problem", "LStreamRefuter$Problem;", false)
  | 2 => ("StreamRefuter$Refuter", "marked", "J", false)
  | 3 => ("StreamRefuter$Refuter", "spared", "J", false)
  | 4 => ("StreamRefuter$Refuter", "emptyNumber", "I", false)
  | 5 => ("StreamRefuter$Refuter", "notes", "LStreamRefuter$Tokens;", true)
  | 6 => ("StreamRefuter$Refuter", "groupsFrom", "[I", true)
  | 7 => ("StreamRefuter$Refuter", "baseFrom", "[I", true)
  | 8 => ("StreamRefuter$Refuter", "baseTo", "[I", true)
  | _ => ("StreamRefuter$Refuter", "lastUses", "[J", true)
def x_R8 : String := "StreamRefuter$Judge"
def x_T8 : u_T := fun k => match k with
  | 0 => ("StreamRefuter$Judge", "numbers", "[I", true)
  | 1 => ("StreamRefuter$Judge", "sets", "[I", true)
  | 2 => ("StreamRefuter$Judge", "known", "[Z", true)
  | 3 => ("StreamRefuter$Judge", "namedByLine", "[I", true)
  | 4 => ("StreamRefuter$Judge", "count", "I", false)
  | 5 => ("StreamRefuter$Judge", "variables", "I", false)
  | 6 => ("StreamRefuter$Judge", "highest", "I", false)
  | 7 => ("StreamRefuter$Judge", "tokens", "LStreamRefuter$Tokens;", false)
  | 8 => ("StreamRefuter$Judge", "clause", "I", false)
  | 9 => ("StreamRefuter$Judge", "next", "I", false)
  | 10 => ("StreamRefuter$Judge", "truths", "I", false)
  | _ => ("StreamRefuter$Judge", "conflict", "Z", false)
def x_R9 : String := "StreamRefuterModel"
def x_T9 : u_T := fun k => match k with
  | 0 => ("StreamRefuterModel", "code", "I", false)
  | 1 => ("StreamRefuterModel", "size", "I", false)
  | 2 => ("StreamRefuterModel", "text", "[I", true)
  | 3 => ("StreamRefuterModel", "told", "I", false)
  | 4 => ("StreamRefuterModel", "has", "Z", false)
  | 5 => ("StreamRefuterModel", "vars", "I", false)
  | 6 => ("StreamRefuterModel", "given", "I", false)
  | 7 => ("StreamRefuterModel", "many", "I", false)
  | 8 => ("StreamRefuterModel", "lits", "[I", true)
  | 9 => ("StreamRefuterModel", "lens", "[I", true)
  | 10 => ("StreamRefuterModel", "streamed", "Z", false)
  | 11 => ("StreamRefuterModel", "steps", "I", false)
  | 12 => ("StreamRefuterModel", "adds", "[Z", true)
  | 13 => ("StreamRefuterModel", "about", "[I", true)
  | 14 => ("StreamRefuterModel", "ways", "[I", true)
  | 15 => ("StreamRefuterModel", "marks", "[Z", true)
  | 16 => ("StreamRefuterModel", "at", "I", false)
  | 17 => ("StreamRefuterModel", "from", "I", false)
  | 18 => ("StreamRefuterModel", "num", "I", false)
  | 19 => ("StreamRefuterModel", "packed", "Z", false)
  | 20 => ("StreamRefuterModel", "limit", "I", false)
  | 21 => ("StreamRefuterModel", "newLits", "[I", true)
  | 22 => ("StreamRefuterModel", "newLens", "[I", true)
  | 23 => ("StreamRefuterModel", "newAdds", "[Z", true)
  | 24 => ("StreamRefuterModel", "count", "I", false)
  | 25 => ("StreamRefuterModel", "tokens", "[I", true)
  | 26 => ("StreamRefuterModel", "made", "I", false)
  | 27 => ("StreamRefuterModel", "newTokens", "[I", true)
  | 28 => ("StreamRefuterModel", "alive", "[Z", true)
  | 29 => ("StreamRefuterModel", "marked", "[Z", true)
  | 30 => ("StreamRefuterModel", "state", "[I", true)
  | 31 => ("StreamRefuterModel", "base", "[I", true)
  | 32 => ("StreamRefuterModel", "unit", "I", false)
  | 33 => ("StreamRefuterModel", "conflict", "I", false)
  | 34 => ("StreamRefuterModel", "taken", "I", false)
  | 35 => ("StreamRefuterModel", "takenClause", "[I", true)
  | 36 => ("StreamRefuterModel", "takenVar", "[I", true)
  | 37 => ("StreamRefuterModel", "needVar", "[Z", true)
  | 38 => ("StreamRefuterModel", "need", "[Z", true)
  | 39 => ("StreamRefuterModel", "hints", "I", false)
  | 40 => ("StreamRefuterModel", "hint", "[I", true)
  | 41 => ("StreamRefuterModel", "hintFrom", "[I", true)
  | 42 => ("StreamRefuterModel", "hintLen", "[I", true)
  | 43 => ("StreamRefuterModel", "groups", "I", false)
  | 44 => ("StreamRefuterModel", "group", "[I", true)
  | 45 => ("StreamRefuterModel", "baseNeed", "[Z", true)
  | 46 => ("StreamRefuterModel", "tried", "[Z", true)
  | 47 => ("StreamRefuterModel", "newWays", "[I", true)
  | 48 => ("StreamRefuterModel", "line", "[I", true)
  | 49 => ("StreamRefuterModel", "lastUse", "[I", true)
  | 50 => ("StreamRefuterModel", "known", "I", false)
  | 51 => ("StreamRefuterModel", "number", "[I", true)
  | 52 => ("StreamRefuterModel", "knownLen", "[I", true)
  | 53 => ("StreamRefuterModel", "knownLits", "[I", true)
  | 54 => ("StreamRefuterModel", "stays", "[Z", true)
  | _ => ("StreamRefuterModel", "named", "[Z", true)
def x_cts : List vw_C := [(x_R0, x_T0, 10), (x_R1, x_T1, 2), (x_R2, x_T2, 4), (x_R3, x_T3, 4), (x_R4, x_T4, 13), (x_R5, x_T5, 3), (x_R6, x_T6, 10), (x_R7, x_T7, 10), (x_R8, x_T8, 12), (x_R9, x_T9, 56)]
def x_ct (a : Nat) : vw_C := x_nth (x_R0, x_T0, 10) x_cts a
def x_fks : List (List Nat) := [[2, 2, 2, 2, 2, 2, 2, 2, 2, 0], [2, 0], [2, 0, 0, 0], [2, 0, 0, 0], [0, 0, 0, 0, 0, 0, 2, 2, 2, 2, 2, 1, 1], [2, 0, 0], [2, 1, 0, 0, 2, 2, 0, 0, 0, 0], [2, 2, 1, 1, 0, 2, 2, 2, 2, 2], [2, 2, 2, 2, 0, 0, 0, 2, 0, 0, 0, 0], [0, 0, 2, 0, 0, 0, 0, 0, 2, 2, 0, 0, 2, 2, 2, 2, 0, 0, 0, 0, 0, 2, 2, 2, 0, 2, 0, 2, 2, 2, 2, 2, 0, 0, 0, 2, 2, 2, 2, 0, 2, 2, 2, 0, 2, 2, 2, 2, 2, 2, 0, 2, 2, 2, 2, 2]]
def x_fk (a k : Nat) : Nat := x_nth 0 (x_nth [] x_fks a) k
def x_tyl : List (List FieldType) := [[.object "StreamRefuter$Text", .object "StreamRefuter$Words", .object "StreamRefuter$PackedNumbers", .object "StreamRefuter$Refuter", .object "StreamRefuter$Judge", .object "StreamRefuter$Problem", .object "StreamRefuter$Problem", .object "StreamRefuter$Tokens", .object "StreamRefuter$Tokens", .int], [.array (.int), .int], [.object "StreamRefuter$Text", .int, .int, .int], [.object "StreamRefuter$Text", .int, .int, .int], [.boolean, .boolean, .int, .int, .int, .int, .array (.int), .array (.int), .array (.int), .array (.int), .array (.long), .long, .long], [.array (.int), .int, .int], [.object "StreamRefuter$Problem", .long, .int, .int, .array (.int), .array (.int), .int, .int, .int, .int], [.object "StreamRefuter$Propagation", .object "StreamRefuter$Problem", .long, .long, .int, .object "StreamRefuter$Tokens", .array (.int), .array (.int), .array (.int), .array (.long)], [.array (.int), .array (.int), .array (.boolean), .array (.int), .int, .int, .int, .object "StreamRefuter$Tokens", .int, .int, .int, .boolean], [.int, .int, .array (.int), .int, .boolean, .int, .int, .int, .array (.int), .array (.int), .boolean, .int, .array (.boolean), .array (.int), .array (.int), .array (.boolean), .int, .int, .int, .boolean, .int, .array (.int), .array (.int), .array (.boolean), .int, .array (.int), .int, .array (.int), .array (.boolean), .array (.boolean), .array (.int), .array (.int), .int, .int, .int, .array (.int), .array (.int), .array (.boolean), .array (.boolean), .int, .array (.int), .array (.int), .array (.int), .int, .array (.int), .array (.boolean), .array (.boolean), .array (.int), .array (.int), .array (.int), .int, .array (.int), .array (.int), .array (.int), .array (.boolean), .array (.boolean)]]
def x_ty (a k : Nat) : FieldType := x_nth .int (x_nth [] x_tyl a) k
def x_ons : List String := ["StreamRefuterLaw", "StreamRefuter", "StreamRefuter$Text", "StreamRefuter$Words", "StreamRefuter$Numbers", "StreamRefuter$PackedNumbers", "StreamRefuter$Problem", "StreamRefuter$Tokens", "StreamRefuter$Refuter", "StreamRefuter$Propagation", "StreamRefuter$Judge", "StreamRefuterModel"]
def x_on (i : Nat) : String := x_nth "" x_ons i
def x_m0 : xM := (⟨"StreamRefuter", "<init>", "()V"⟩, prog_1_method_1_code, 1, none, x_on 1)
def x_mts0 : List xM := [(⟨"StreamRefuterLaw", "law", "([I)Z"⟩, code, 7, some .boolean, x_on 0),
  (⟨"StreamRefuter", "<init>", "()V"⟩, prog_1_method_1_code, 1, none, x_on 1),
  (⟨"StreamRefuter$Text", "<init>", "()V"⟩, prog_9_method_1_code, 1, none, x_on 2),
  (⟨"StreamRefuter$Words", "<init>", "(LStreamRefuter$Text;)V"⟩, prog_11_method_1_code, 2, none, x_on 3),
  (⟨"StreamRefuter$Numbers", "<init>", "(LStreamRefuter$Text;)V"⟩, prog_3_method_1_code, 2, none, x_on 4),
  (⟨"StreamRefuter$PackedNumbers", "<init>", "(LStreamRefuter$Text;)V"⟩, prog_5_method_1_code, 2, none, x_on 5),
  (⟨"StreamRefuter$Problem", "<init>", "()V"⟩, prog_6_method_1_code, 1, none, x_on 6),
  (⟨"StreamRefuter$Tokens", "<init>", "()V"⟩, prog_10_method_1_code, 1, none, x_on 7),
  (⟨"StreamRefuter$Refuter", "<init>", "(LStreamRefuter$Problem;)V"⟩, prog_8_method_1_code, 2, none, x_on 8),
  (⟨"StreamRefuter$Propagation", "<init>", "(LStreamRefuter$Problem;)V"⟩, prog_7_method_1_code, 2, none, x_on 9),
  (⟨"StreamRefuter$Judge", "<init>", "(LStreamRefuter$Tokens;)V"⟩, prog_2_method_1_code, 2, none, x_on 10),
  (⟨"StreamRefuterModel", "<init>", "()V"⟩, prog_13_method_1_code, 1, none, x_on 11),
  (⟨"StreamRefuter", "feed", "(IJ)Z"⟩, prog_1_method_2_code, 4, some .boolean, x_on 1),
  (⟨"StreamRefuter$Text", "append", "(IJ)Z"⟩, prog_9_method_2_code, 5, some .boolean, x_on 2),
  (⟨"StreamRefuterModel", "feed", "(IJ)Z"⟩, prog_13_method_3_code, 5, some .boolean, x_on 11),
  (⟨"StreamRefuter", "wipe", "()I"⟩, prog_1_method_3_code, 1, some .int, x_on 1),
  (⟨"StreamRefuter$Text", "empty", "()I"⟩, prog_9_method_3_code, 2, some .int, x_on 2),
  (⟨"StreamRefuterModel", "wipe", "()I"⟩, prog_13_method_4_code, 2, some .int, x_on 11),
  (⟨"StreamRefuterLaw", "formula", "(LStreamRefuter;[J)I"⟩, method_3_code, 3, some .int, x_on 0),
  (⟨"StreamRefuter", "formula", "()I"⟩, prog_1_method_4_code, 1, some .int, x_on 1),
  (⟨"StreamRefuter$Problem", "readFormula", "(LStreamRefuter$Words;)I"⟩, prog_6_method_2_code, 2, some .int, x_on 6),
  (⟨"StreamRefuter$Problem", "forgetAll", "()V"⟩, prog_6_method_10_code, 1, none, x_on 6),
  (⟨"StreamRefuter$Numbers", "restart", "()V"⟩, prog_3_method_2_code, 1, none, x_on 4),
  (⟨"StreamRefuter$Words", "advance", "()V"⟩, prog_11_method_2_code, 2, none, x_on 3),
  (⟨"StreamRefuter$Text", "size", "()I"⟩, prog_9_method_4_code, 1, some .int, x_on 2),
  (⟨"StreamRefuter$Words", "isGap", "(I)Z"⟩, prog_11_method_6_code, 3, some .boolean, x_on 3),
  (⟨"StreamRefuter$Text", "byteAt", "(I)I"⟩, prog_9_method_5_code, 2, some .int, x_on 2),
  (⟨"StreamRefuter$Words", "meaning", "(I)I"⟩, prog_11_method_7_code, 5, some .int, x_on 3),
  (⟨"StreamRefuter$Words", "sizeOfDigits", "(I)I"⟩, prog_11_method_8_code, 6, some .int, x_on 3),
  (⟨"StreamRefuter$Words", "spells", "(Ljava/lang/String;)Z"⟩, prog_11_method_5_code, 4, some .boolean, x_on 3),
  (⟨"StreamRefuter$Problem", "readFormulaClauses", "(LStreamRefuter$Words;I)I"⟩, prog_6_method_3_code, 4, some .int, x_on 6),
  (⟨"StreamRefuter$Problem", "readClause", "(LStreamRefuter$Numbers;)Z"⟩, prog_6_method_8_code, 3, some .boolean, x_on 6)]
def x_mts1 : List xM := [(⟨"StreamRefuter", "canJoin", "(III)Z"⟩, prog_1_method_23_code, 3, some .boolean, x_on 1),
  (⟨"StreamRefuter", "opposites", "(I)I"⟩, prog_1_method_21_code, 1, some .int, x_on 1),
  (⟨"StreamRefuter", "setOf", "(I)I"⟩, prog_1_method_22_code, 1, some .int, x_on 1),
  (⟨"StreamRefuter$PackedNumbers", "advance", "()V"⟩, prog_5_method_2_code, 2, none, x_on 5),
  (⟨"StreamRefuter$PackedNumbers", "meaning", "(I)I"⟩, prog_5_method_6_code, 1, some .int, x_on 5),
  (⟨"StreamRefuter$PackedNumbers", "takeTwoBytes", "(I)V"⟩, prog_5_method_5_code, 3, none, x_on 5),
  (⟨"StreamRefuter$Problem", "keepClause", "()V"⟩, prog_6_method_9_code, 1, none, x_on 6),
  (⟨"StreamRefuter", "adoptDraft", "()V"⟩, prog_1_method_19_code, 2, none, x_on 1),
  (⟨"StreamRefuter$Tokens", "clear", "()V"⟩, prog_10_method_2_code, 1, none, x_on 7),
  (⟨"StreamRefuterModel", "formula", "()I"⟩, prog_13_method_20_code, 2, some .int, x_on 11),
  (⟨"StreamRefuterModel", "readFormula", "()I"⟩, prog_13_method_17_code, 4, some .int, x_on 11),
  (⟨"StreamRefuterModel", "heading", "()I"⟩, prog_13_method_16_code, 2, some .int, x_on 11),
  (⟨"StreamRefuterModel", "word", "()Z"⟩, prog_13_method_7_code, 1, some .boolean, x_on 11),
  (⟨"StreamRefuterModel", "isGap", "(I)Z"⟩, prog_13_method_6_code, 1, some .boolean, x_on 11),
  (⟨"StreamRefuterModel", "isLetter", "(I)Z"⟩, prog_13_method_8_code, 2, some .boolean, x_on 11),
  (⟨"StreamRefuterModel", "isCnf", "()Z"⟩, prog_13_method_15_code, 1, some .boolean, x_on 11),
  (⟨"StreamRefuterModel", "within", "(II)I"⟩, prog_13_method_14_code, 4, some .int, x_on 11),
  (⟨"StreamRefuterModel", "next", "()I"⟩, prog_13_method_10_code, 2, some .int, x_on 11),
  (⟨"StreamRefuterModel", "isNumber", "()Z"⟩, prog_13_method_9_code, 5, some .boolean, x_on 11),
  (⟨"StreamRefuterModel", "clause", "(I)I"⟩, prog_13_method_13_code, 3, some .int, x_on 11),
  (⟨"StreamRefuterModel", "fits", "(I)Z"⟩, prog_13_method_12_code, 4, some .boolean, x_on 11),
  (⟨"StreamRefuterModel", "size", "(I)I"⟩, prog_13_method_11_code, 1, some .int, x_on 11),
  (⟨"StreamRefuterModel", "takeOver", "(II)V"⟩, prog_13_method_18_code, 4, none, x_on 11),
  (⟨"StreamRefuterModel", "forget", "()V"⟩, prog_13_method_19_code, 2, none, x_on 11),
  (⟨"StreamRefuterModel", "thrown", "()I"⟩, prog_13_method_2_code, 1, some .int, x_on 11),
  (⟨"StreamRefuterLaw", "stream", "(LStreamRefuter;Z[J)I"⟩, method_4_code, 4, some .int, x_on 0),
  (⟨"StreamRefuter", "stream", "(Z)I"⟩, prog_1_method_5_code, 3, some .int, x_on 1),
  (⟨"StreamRefuter$Problem", "readStream", "(LStreamRefuter$Problem;LStreamRefuter$Numbers;)I"⟩, prog_6_method_4_code, 5, some .int, x_on 6),
  (⟨"StreamRefuter$Problem", "copyFormula", "(LStreamRefuter$Problem;)V"⟩, prog_6_method_11_code, 2, none, x_on 6),
  (⟨"StreamRefuter$Words", "openStep", "()LStreamRefuter$Opening;"⟩, prog_11_method_3_code, 1, some (.object "StreamRefuter$Opening"), x_on 3),
  (⟨"StreamRefuter$PackedNumbers", "openStep", "()LStreamRefuter$Opening;"⟩, prog_5_method_3_code, 2, some (.object "StreamRefuter$Opening"), x_on 5),
  (⟨"StreamRefuter$Problem", "mayOpen", "(LStreamRefuter$Opening;)Z"⟩, prog_6_method_5_code, 2, some .boolean, x_on 6)]
def x_mts2 : List xM := [(⟨"StreamRefuter$Words", "enterClause", "(LStreamRefuter$Opening;)V"⟩, prog_11_method_4_code, 2, none, x_on 3),
  (⟨"StreamRefuter$PackedNumbers", "enterClause", "(LStreamRefuter$Opening;)V"⟩, prog_5_method_4_code, 2, none, x_on 5),
  (⟨"StreamRefuter$Problem", "keepStep", "(ILStreamRefuter$Opening;)V"⟩, prog_6_method_6_code, 3, none, x_on 6),
  (⟨"StreamRefuter$Problem", "lowestAlike", "(JI)J"⟩, prog_6_method_7_code, 5, some .long, x_on 6),
  (⟨"StreamRefuter", "holdsClause", "(JI)Z"⟩, prog_1_method_24_code, 3, some .boolean, x_on 1),
  (⟨"StreamRefuterModel", "stream", "(Z)I"⟩, prog_13_method_25_code, 3, some .int, x_on 11),
  (⟨"StreamRefuterModel", "readStream", "()I"⟩, prog_13_method_22_code, 5, some .int, x_on 11),
  (⟨"StreamRefuterModel", "beginning", "(II)I"⟩, prog_13_method_21_code, 5, some .int, x_on 11),
  (⟨"StreamRefuterModel", "same", "(I)I"⟩, prog_13_method_24_code, 5, some .int, x_on 11),
  (⟨"StreamRefuterModel", "hasLiteral", "(II)Z"⟩, prog_13_method_23_code, 5, some .boolean, x_on 11),
  (⟨"StreamRefuterLaw", "record", "(LStreamRefuter;[J)I"⟩, method_5_code, 3, some .int, x_on 0),
  (⟨"StreamRefuter", "record", "()I"⟩, prog_1_method_6_code, 1, some .int, x_on 1),
  (⟨"StreamRefuter$Tokens", "readLines", "(LStreamRefuter$Words;)I"⟩, prog_10_method_8_code, 4, some .int, x_on 7),
  (⟨"StreamRefuter$Tokens", "canStand", "(II)Z"⟩, prog_10_method_10_code, 2, some .boolean, x_on 7),
  (⟨"StreamRefuter$Tokens", "add", "(I)V"⟩, prog_10_method_3_code, 2, none, x_on 7),
  (⟨"StreamRefuter$Tokens", "partBehind", "(II)I"⟩, prog_10_method_11_code, 2, some .int, x_on 7),
  (⟨"StreamRefuter", "adoptSpare", "()V"⟩, prog_1_method_20_code, 2, none, x_on 1),
  (⟨"StreamRefuterModel", "record", "()I"⟩, prog_13_method_29_code, 3, some .int, x_on 11),
  (⟨"StreamRefuterModel", "readLine", "()I"⟩, prog_13_method_28_code, 3, some .int, x_on 11),
  (⟨"StreamRefuterModel", "push", "(I)V"⟩, prog_13_method_26_code, 2, none, x_on 11),
  (⟨"StreamRefuterModel", "numbers", "()I"⟩, prog_13_method_27_code, 2, some .int, x_on 11),
  (⟨"StreamRefuterModel", "keepTokens", "()V"⟩, prog_13_method_30_code, 2, none, x_on 11),
  (⟨"StreamRefuter", "fault", "()I"⟩, prog_1_method_7_code, 1, some .int, x_on 1),
  (⟨"StreamRefuterModel", "fault", "()I"⟩, prog_13_method_5_code, 1, some .int, x_on 11),
  (⟨"StreamRefuter", "clauses", "()I"⟩, prog_1_method_8_code, 1, some .int, x_on 1),
  (⟨"StreamRefuterModel", "clauses", "()I"⟩, prog_13_method_31_code, 1, some .int, x_on 11),
  (⟨"StreamRefuter", "literal", "(II)I"⟩, prog_1_method_9_code, 3, some .int, x_on 1),
  (⟨"StreamRefuterModel", "literal", "(II)I"⟩, prog_13_method_32_code, 3, some .int, x_on 11),
  (⟨"StreamRefuterLaw", "end", "(LStreamRefuter;[J)I"⟩, method_6_code, 3, some .int, x_on 0),
  (⟨"StreamRefuter", "end", "()I"⟩, prog_1_method_10_code, 1, some .int, x_on 1),
  (⟨"StreamRefuter$Refuter", "findEnd", "(LStreamRefuter$Problem;)I"⟩, prog_8_method_2_code, 3, some .int, x_on 8),
  (⟨"StreamRefuter$Propagation", "start", "(LStreamRefuter$Problem;JJI)Z"⟩, prog_7_method_2_code, 8, some .boolean, x_on 9)]
def x_mts3 : List xM := [(⟨"StreamRefuter$Propagation", "goOn", "(J)Z"⟩, prog_7_method_4_code, 5, some .boolean, x_on 9),
  (⟨"StreamRefuter$Propagation", "pickReady", "(J)I"⟩, prog_7_method_5_code, 8, some .int, x_on 9),
  (⟨"StreamRefuter$Propagation", "neededFor", "(I)I"⟩, prog_7_method_6_code, 5, some .int, x_on 9),
  (⟨"StreamRefuterModel", "end", "()I"⟩, prog_13_method_48_code, 1, some .int, x_on 11),
  (⟨"StreamRefuterModel", "findEnd", "()I"⟩, prog_13_method_47_code, 2, some .int, x_on 11),
  (⟨"StreamRefuterModel", "liveAfter", "(I)V"⟩, prog_13_method_46_code, 3, none, x_on 11),
  (⟨"StreamRefuterModel", "beginEmpty", "()V"⟩, prog_13_method_38_code, 2, none, x_on 11),
  (⟨"StreamRefuterModel", "propagate", "()V"⟩, prog_13_method_37_code, 3, none, x_on 11),
  (⟨"StreamRefuterModel", "pick", "()I"⟩, prog_13_method_36_code, 3, some .int, x_on 11),
  (⟨"StreamRefuterModel", "isReady", "(I)Z"⟩, prog_13_method_35_code, 5, some .boolean, x_on 11),
  (⟨"StreamRefuterModel", "value", "(I)I"⟩, prog_13_method_33_code, 2, some .int, x_on 11),
  (⟨"StreamRefuterModel", "makeTrue", "(I)V"⟩, prog_13_method_34_code, 2, none, x_on 11),
  (⟨"StreamRefuterLaw", "forward", "(LStreamRefuter;[J)I"⟩, method_7_code, 3, some .int, x_on 0),
  (⟨"StreamRefuter", "forward", "()I"⟩, prog_1_method_11_code, 1, some .int, x_on 1),
  (⟨"StreamRefuter$Refuter", "findWrongStep", "(LStreamRefuter$Problem;)I"⟩, prog_8_method_3_code, 6, some .int, x_on 8),
  (⟨"StreamRefuter$Refuter", "isRight", "(LStreamRefuter$Problem;IJ)Z"⟩, prog_8_method_4_code, 8, some .boolean, x_on 8),
  (⟨"StreamRefuter$Propagation", "withstands", "(IIJ)Z"⟩, prog_7_method_3_code, 6, some .boolean, x_on 9),
  (⟨"StreamRefuter$Propagation", "firstTrue", "(II)I"⟩, prog_7_method_7_code, 6, some .int, x_on 9),
  (⟨"StreamRefuterModel", "forward", "()I"⟩, prog_13_method_50_code, 4, some .int, x_on 11),
  (⟨"StreamRefuterModel", "isRight", "(I)Z"⟩, prog_13_method_49_code, 6, some .boolean, x_on 11),
  (⟨"StreamRefuterModel", "implied", "(I)Z"⟩, prog_13_method_39_code, 3, some .boolean, x_on 11),
  (⟨"StreamRefuterModel", "keepBase", "()V"⟩, prog_13_method_44_code, 2, none, x_on 11),
  (⟨"StreamRefuterModel", "passes", "(II)Z"⟩, prog_13_method_43_code, 6, some .boolean, x_on 11),
  (⟨"StreamRefuterModel", "needNothing", "()V"⟩, prog_13_method_41_code, 2, none, x_on 11),
  (⟨"StreamRefuterModel", "firstTrue", "(II)I"⟩, prog_13_method_42_code, 5, some .int, x_on 11),
  (⟨"StreamRefuterModel", "findNeeds", "()V"⟩, prog_13_method_40_code, 5, none, x_on 11),
  (⟨"StreamRefuterModel", "backTo", "(I)V"⟩, prog_13_method_45_code, 3, none, x_on 11),
  (⟨"StreamRefuterLaw", "refute", "(LStreamRefuter;[J)I"⟩, method_8_code, 3, some .int, x_on 0),
  (⟨"StreamRefuter", "refute", "()I"⟩, prog_1_method_12_code, 2, some .int, x_on 1),
  (⟨"StreamRefuter$Refuter", "goBackwards", "(LStreamRefuter$Problem;LStreamRefuter$Tokens;)I"⟩, prog_8_method_5_code, 8, some .int, x_on 8),
  (⟨"StreamRefuter$Refuter", "begin", "(LStreamRefuter$Problem;I)V"⟩, prog_8_method_6_code, 4, none, x_on 8),
  (⟨"StreamRefuter$Refuter", "noteImplied", "(IJ)Z"⟩, prog_8_method_7_code, 7, some .boolean, x_on 8)]
def x_mts4 : List xM := [(⟨"StreamRefuter$Refuter", "markNeeded", "()V"⟩, prog_8_method_10_code, 2, none, x_on 8),
  (⟨"StreamRefuter$Refuter", "noteReasons", "(I)V"⟩, prog_8_method_11_code, 3, none, x_on 8),
  (⟨"StreamRefuter$Refuter", "noteConflict", "()V"⟩, prog_8_method_12_code, 1, none, x_on 8),
  (⟨"StreamRefuter$Refuter", "noteSpared", "(IJ)Z"⟩, prog_8_method_8_code, 13, some .boolean, x_on 8),
  (⟨"StreamRefuter$Refuter", "pickCandidate", "(JI)I"⟩, prog_8_method_9_code, 5, some .int, x_on 8),
  (⟨"StreamRefuter$Refuter", "write", "(LStreamRefuter$Tokens;)I"⟩, prog_8_method_13_code, 4, some .int, x_on 8),
  (⟨"StreamRefuter$Refuter", "writeDrops", "(LStreamRefuter$Tokens;IJ)V"⟩, prog_8_method_15_code, 6, none, x_on 8),
  (⟨"StreamRefuter$Refuter", "writeLine", "(LStreamRefuter$Tokens;II)V"⟩, prog_8_method_14_code, 5, none, x_on 8),
  (⟨"StreamRefuter$Tokens", "addPart", "(LStreamRefuter$Tokens;II)V"⟩, prog_10_method_4_code, 5, none, x_on 7),
  (⟨"StreamRefuter$Tokens", "at", "(I)I"⟩, prog_10_method_6_code, 2, some .int, x_on 7),
  (⟨"StreamRefuter$Tokens", "isOverfull", "()Z"⟩, prog_10_method_5_code, 1, some .boolean, x_on 7),
  (⟨"StreamRefuterModel", "refute", "()I"⟩, prog_13_method_61_code, 7, some .int, x_on 11),
  (⟨"StreamRefuterModel", "goBack", "(I)I"⟩, prog_13_method_58_code, 4, some .int, x_on 11),
  (⟨"StreamRefuterModel", "hintsOf", "(I)V"⟩, prog_13_method_52_code, 3, none, x_on 11),
  (⟨"StreamRefuterModel", "addHint", "(I)V"⟩, prog_13_method_51_code, 2, none, x_on 11),
  (⟨"StreamRefuterModel", "wayOf", "(I)I"⟩, prog_13_method_57_code, 2, some .int, x_on 11),
  (⟨"StreamRefuterModel", "spared", "(I)Z"⟩, prog_13_method_56_code, 6, some .boolean, x_on 11),
  (⟨"StreamRefuterModel", "candidate", "(I)I"⟩, prog_13_method_54_code, 4, some .int, x_on 11),
  (⟨"StreamRefuterModel", "takeGroup", "(II)V"⟩, prog_13_method_55_code, 4, none, x_on 11),
  (⟨"StreamRefuterModel", "addGroup", "(I)V"⟩, prog_13_method_53_code, 2, none, x_on 11),
  (⟨"StreamRefuterModel", "dropUnmarked", "()V"⟩, prog_13_method_59_code, 3, none, x_on 11),
  (⟨"StreamRefuterModel", "pushLine", "(IIZ)V"⟩, prog_13_method_60_code, 7, none, x_on 11),
  (⟨"StreamRefuter", "marked", "(I)Z"⟩, prog_1_method_13_code, 2, some .boolean, x_on 1),
  (⟨"StreamRefuterModel", "marked", "(I)Z"⟩, prog_13_method_62_code, 2, some .boolean, x_on 11),
  (⟨"StreamRefuter", "way", "(I)I"⟩, prog_1_method_14_code, 3, some .int, x_on 1),
  (⟨"StreamRefuterModel", "way", "(I)I"⟩, prog_13_method_63_code, 2, some .int, x_on 11),
  (⟨"StreamRefuter", "tokens", "()I"⟩, prog_1_method_15_code, 1, some .int, x_on 1),
  (⟨"StreamRefuterModel", "tokens", "()I"⟩, prog_13_method_64_code, 1, some .int, x_on 11),
  (⟨"StreamRefuter", "token", "(I)I"⟩, prog_1_method_16_code, 2, some .int, x_on 1),
  (⟨"StreamRefuterModel", "token", "(I)I"⟩, prog_13_method_65_code, 2, some .int, x_on 11),
  (⟨"StreamRefuter", "alter", "(II)Z"⟩, prog_1_method_17_code, 4, some .boolean, x_on 1),
  (⟨"StreamRefuter$Tokens", "put", "(II)Z"⟩, prog_10_method_7_code, 3, some .boolean, x_on 7)]
def x_mts5 : List xM := [(⟨"StreamRefuterModel", "alter", "(II)Z"⟩, prog_13_method_66_code, 3, some .boolean, x_on 11),
  (⟨"StreamRefuterLaw", "judge", "(LStreamRefuter;[J)I"⟩, method_9_code, 3, some .int, x_on 0),
  (⟨"StreamRefuter", "judge", "()I"⟩, prog_1_method_18_code, 1, some .int, x_on 1),
  (⟨"StreamRefuter$Judge", "verdict", "(LStreamRefuter$Problem;LStreamRefuter$Tokens;)I"⟩, prog_2_method_2_code, 6, some .int, x_on 10),
  (⟨"StreamRefuter$Judge", "begin", "(LStreamRefuter$Problem;LStreamRefuter$Tokens;)V"⟩, prog_2_method_3_code, 4, none, x_on 10),
  (⟨"StreamRefuter$Judge", "learn", "(II)V"⟩, prog_2_method_4_code, 3, none, x_on 10),
  (⟨"StreamRefuter$Tokens", "lineEnd", "(I)I"⟩, prog_10_method_9_code, 4, some .int, x_on 7),
  (⟨"StreamRefuter$Judge", "dropAll", "(I)Z"⟩, prog_2_method_5_code, 4, some .boolean, x_on 10),
  (⟨"StreamRefuter$Judge", "find", "(I)I"⟩, prog_2_method_13_code, 5, some .int, x_on 10),
  (⟨"StreamRefuter$Judge", "isGood", "(II)Z"⟩, prog_2_method_6_code, 4, some .boolean, x_on 10),
  (⟨"StreamRefuter$Judge", "readClause", "()Z"⟩, prog_2_method_7_code, 1, some .boolean, x_on 10),
  (⟨"StreamRefuter$Judge", "followRow", "()Z"⟩, prog_2_method_8_code, 1, some .boolean, x_on 10),
  (⟨"StreamRefuter$Judge", "follow", "(I)Z"⟩, prog_2_method_9_code, 3, some .boolean, x_on 10),
  (⟨"StreamRefuter$Judge", "isSpared", "(II)Z"⟩, prog_2_method_10_code, 7, some .boolean, x_on 10),
  (⟨"StreamRefuter$Judge", "howManyHave", "(I)I"⟩, prog_2_method_12_code, 4, some .int, x_on 10),
  (⟨"StreamRefuter$Judge", "withstands", "(I)Z"⟩, prog_2_method_11_code, 2, some .boolean, x_on 10),
  (⟨"StreamRefuterModel", "judge", "()I"⟩, prog_13_method_82_code, 6, some .int, x_on 11),
  (⟨"StreamRefuterModel", "knowFormula", "()V"⟩, prog_13_method_80_code, 3, none, x_on 11),
  (⟨"StreamRefuterModel", "know", "(II)V"⟩, prog_13_method_79_code, 3, none, x_on 11),
  (⟨"StreamRefuterModel", "lineEnd", "(I)I"⟩, prog_13_method_68_code, 3, some .int, x_on 11),
  (⟨"StreamRefuterModel", "behindZero", "(I)I"⟩, prog_13_method_67_code, 3, some .int, x_on 11),
  (⟨"StreamRefuterModel", "drops", "(I)Z"⟩, prog_13_method_70_code, 4, some .boolean, x_on 11),
  (⟨"StreamRefuterModel", "find", "(I)I"⟩, prog_13_method_69_code, 4, some .int, x_on 11),
  (⟨"StreamRefuterModel", "goodLine", "(III)I"⟩, prog_13_method_81_code, 6, some .int, x_on 11),
  (⟨"StreamRefuterModel", "beginLine", "(I)I"⟩, prog_13_method_71_code, 4, some .int, x_on 11),
  (⟨"StreamRefuterModel", "isFollowed", "(III)Z"⟩, prog_13_method_78_code, 7, some .boolean, x_on 11),
  (⟨"StreamRefuterModel", "follow", "(I)I"⟩, prog_13_method_73_code, 3, some .int, x_on 11),
  (⟨"StreamRefuterModel", "isKnownReady", "(I)Z"⟩, prog_13_method_72_code, 5, some .boolean, x_on 11),
  (⟨"StreamRefuterModel", "names", "(III)Z"⟩, prog_13_method_77_code, 7, some .boolean, x_on 11),
  (⟨"StreamRefuterModel", "knownHas", "(II)Z"⟩, prog_13_method_74_code, 5, some .boolean, x_on 11),
  (⟨"StreamRefuterModel", "followGroup", "(IIII)Z"⟩, prog_13_method_76_code, 7, some .boolean, x_on 11),
  (⟨"StreamRefuterModel", "isMet", "(II)Z"⟩, prog_13_method_75_code, 6, some .boolean, x_on 11)]
def x_mts : List xM := x_mts0 ++ x_mts1 ++ x_mts2 ++ x_mts3 ++ x_mts4 ++ x_mts5
def x_mt (M : Nat) : xM := x_nth x_m0 x_mts M
def x_ois : List Nat := [0, 1, 2, 3, 4, 5, 6, 7, 8, 9, 10, 11, 1, 2, 11, 1, 2, 11, 0, 1, 6, 6, 4, 3, 2, 3, 2, 3, 3, 3, 6, 6, 1, 1, 1, 5, 5, 5, 6, 1, 7, 11, 11, 11, 11, 11, 11, 11, 11, 11, 11, 11, 11, 11, 11, 11, 11, 0, 1, 6, 6, 3, 5, 6, 3, 5, 6, 6, 1, 11, 11, 11, 11, 11, 0, 1, 7, 7, 7, 7, 1, 11, 11, 11, 11, 11, 1, 11, 1, 11, 1, 11, 0, 1, 8, 9, 9, 9, 9, 11, 11, 11, 11, 11, 11, 11, 11, 11, 0, 1, 8, 8, 9, 9, 11, 11, 11, 11, 11, 11, 11, 11, 11, 0, 1, 8, 8, 8, 8, 8, 8, 8, 8, 8, 8, 8, 7, 7, 7, 11, 11, 11, 11, 11, 11, 11, 11, 11, 11, 11, 1, 11, 1, 11, 1, 11, 1, 11, 1, 7, 11, 0, 1, 10, 10, 10, 7, 10, 10, 10, 10, 10, 10, 10, 10, 10, 11, 11, 11, 11, 11, 11, 11, 11, 11, 11, 11, 11, 11, 11, 11, 11]
def x_oi (M : Nat) : Nat := x_nth 1 x_ois M
def x_deps : List Nat := [9, 2, 0, 1, 0, 1, 0, 0, 1, 0, 0, 0, 1, 0, 0, 1, 0, 0, 8, 7, 6, 0, 0, 3, 0, 1, 0, 2, 1, 5, 5, 4, 1, 0, 0, 2, 0, 1, 0, 0, 0, 6, 5, 4, 1, 0, 0, 0, 3, 2, 0, 3, 1, 0, 0, 0, 0, 8, 6, 5, 1, 4, 1, 0, 4, 3, 2, 1, 0, 5, 4, 2, 1, 0, 8, 5, 4, 0, 0, 0, 0, 5, 4, 0, 3, 0, 0, 0, 0, 0, 0, 0, 8, 5, 4, 3, 2, 1, 1, 5, 4, 0, 0, 3, 2, 1, 0, 1, 8, 6, 5, 4, 3, 1, 6, 5, 4, 0, 4, 0, 1, 1, 0, 8, 7, 6, 5, 4, 0, 1, 1, 4, 1, 3, 1, 2, 1, 0, 0, 8, 7, 1, 0, 6, 5, 1, 1, 0, 1, 1, 1, 0, 1, 0, 0, 0, 1, 0, 1, 0, 0, 8, 7, 6, 1, 0, 1, 1, 0, 5, 2, 2, 1, 4, 0, 3, 7, 1, 0, 1, 0, 1, 0, 6, 2, 5, 2, 1, 4, 0, 3, 2]
def x_rcs : List Nat := [99, 0, 1, 2, 99, 3, 4, 5, 7, 6, 8, 9, 0, 1, 9, 0, 1, 9, 99, 0, 4, 4, 99, 2, 1, 2, 1, 2, 2, 2, 4, 4, 0, 0, 0, 3, 3, 3, 4, 0, 5, 9, 9, 9, 9, 9, 9, 9, 9, 9, 9, 9, 9, 9, 9, 9, 9, 99, 0, 4, 4, 2, 3, 4, 2, 3, 4, 4, 0, 9, 9, 9, 9, 9, 99, 0, 5, 5, 5, 5, 0, 9, 9, 9, 9, 9, 0, 9, 0, 9, 0, 9, 99, 0, 7, 6, 6, 6, 6, 9, 9, 9, 9, 9, 9, 9, 9, 9, 99, 0, 7, 7, 6, 6, 9, 9, 9, 9, 9, 9, 9, 9, 9, 99, 0, 7, 7, 7, 7, 7, 7, 7, 7, 7, 7, 7, 5, 5, 5, 9, 9, 9, 9, 9, 9, 9, 9, 9, 9, 9, 0, 9, 0, 9, 0, 9, 0, 9, 0, 5, 9, 99, 0, 8, 8, 8, 5, 8, 8, 8, 8, 8, 8, 8, 8, 8, 9, 9, 9, 9, 9, 9, 9, 9, 9, 9, 9, 9, 9, 9, 9, 9]
def x_vts : List (Nat × Nat × Nat × Nat) := [(2, 22, 2, 22), (2, 23, 3, 35), (2, 22, 3, 22), (2, 61, 3, 62), (2, 64, 3, 65)]
def x_txs : List (List Int32) := [[112], [99, 110, 102]]
def x_hans : List (Nat × Nat × Nat × Nat × Nat × Nat) := [(18, 0, 8, 1, 12, 2), (57, 0, 9, 2, 13, 3), (57, 0, 9, 1, 16, 3), (74, 0, 8, 1, 12, 2), (92, 0, 8, 2, 12, 2), (108, 0, 8, 2, 12, 2), (123, 0, 8, 2, 12, 2), (161, 0, 8, 2, 12, 2)]
def x_han1 : List (Nat × Nat × Nat × Nat × Nat × Nat) → Nat → Nat → Nat → Option (Nat × Nat)
  | [], _, _, _ => none
  | (i, s, e, k, h, j) :: t, M, pc, n => match Nat.beq i M && (Nat.ble s pc && Nat.blt pc e) && Nat.beq k n with
    | true => some (h, j)
    | false => x_han1 t M pc n
/-- 0: StreamRefuterLaw.law([I)Z -/
def x_t0 : List xR := [(0, .new 8, 3, 0, 10, 0, 0, 0), (3, .dup, 1, 0, 0, 0, 0, 0), (4, .invokespecial 36, 3, 1, 1, 0, 0, 0), (7, .astore_n 1, 1, 1, 0, 0, 0, 0), (8, .new 37, 3, 9, 56, 0, 0, 0), (11, .dup, 1, 0, 0, 0, 0, 0), (12, .invokespecial 39, 3, 11, 1, 0, 0, 0), (15, .astore_n 2, 1, 2, 0, 0, 0, 0), (16, .iconst (1), 1, 0, 0, 0, 1, 0), (17, .newarray .long, 2, 2, 0, 0, 0, 0), (19, .astore_n 3, 1, 3, 0, 0, 0, 0), (20, .iconst (0), 1, 0, 0, 0, 0, 0), (21, .istore 4, 2, 0, 0, 0, 0, 0), (23, .iload 4, 2, 0, 0, 0, 0, 0), (25, .aload_n 0, 1, 0, 0, 0, 0, 0), (26, .arraylength, 1, 0, 0, 1, 0, 0), (27, .iconst (4), 1, 0, 0, 0, 4, 0), (28, .isub, 1, 0, 0, 0, 0, 0), (29, .if_icmp .gt (703), 3, 732, 0, 0, 0, 0), (32, .aload_n 0, 1, 0, 0, 0, 0, 0), (33, .iload 4, 2, 0, 0, 0, 0, 0), (35, .iaload, 1, 0, 0, 1, 0, 0), (36, .bipush (31), 2, 0, 0, 0, 31, 0), (38, .iand, 1, 0, 0, 0, 0, 0), (39, .tableswitch (687) (0) (16) #[81, 150, 163, 207, 279, 323, 336, 349, 386, 430, 474, 518, 543, 568, 581, 606, 643], 81, 0, 0, 0, 0, 0), (120, .aload_n 1, 1, 1, 0, 0, 0, 0), (121, .aload_n 0, 1, 0, 0, 0, 0, 0), (122, .iload 4, 2, 0, 0, 0, 0, 0), (124, .iconst (1), 1, 0, 0, 0, 1, 0), (125, .iadd, 1, 0, 0, 0, 0, 0), (126, .iaload, 1, 0, 0, 1, 0, 0), (127, .aload_n 0, 1, 0, 0, 0, 0, 0), (128, .iload 4, 2, 0, 0, 0, 0, 0), (130, .iconst (2), 1, 0, 0, 0, 2, 0), (131, .iadd, 1, 0, 0, 0, 0, 0), (132, .iaload, 1, 0, 0, 1, 0, 0), (133, .i2l, 1, 0, 0, 0, 0, 0), (134, .bipush (32), 2, 0, 0, 0, 32, 0), (136, .lshl, 1, 0, 0, 0, 0, 0), (137, .aload_n 0, 1, 0, 0, 0, 0, 0), (138, .iload 4, 2, 0, 0, 0, 0, 0), (140, .iconst (3), 1, 0, 0, 0, 3, 0), (141, .iadd, 1, 0, 0, 0, 0, 0), (142, .iaload, 1, 0, 0, 1, 0, 0), (143, .i2l, 1, 0, 0, 0, 0, 0), (144, .ldc2_w 40, 3, 0, 0, 0, 0, 4294967295), (147, .land, 1, 0, 0, 0, 0, 0), (148, .lor, 1, 0, 0, 0, 0, 0), (149, .invokevirtual 42, 3, 12, 3, 0, 0, 0), (152, .aload_n 2, 1, 2, 0, 0, 0, 0), (153, .aload_n 0, 1, 0, 0, 0, 0, 0), (154, .iload 4, 2, 0, 0, 0, 0, 0), (156, .iconst (1), 1, 0, 0, 0, 1, 0), (157, .iadd, 1, 0, 0, 0, 0, 0), (158, .iaload, 1, 0, 0, 1, 0, 0), (159, .aload_n 0, 1, 0, 0, 0, 0, 0), (160, .iload 4, 2, 0, 0, 0, 0, 0), (162, .iconst (2), 1, 0, 0, 0, 2, 0), (163, .iadd, 1, 0, 0, 0, 0, 0), (164, .iaload, 1, 0, 0, 1, 0, 0), (165, .i2l, 1, 0, 0, 0, 0, 0), (166, .bipush (32), 2, 0, 0, 0, 32, 0), (168, .lshl, 1, 0, 0, 0, 0, 0), (169, .aload_n 0, 1, 0, 0, 0, 0, 0), (170, .iload 4, 2, 0, 0, 0, 0, 0), (172, .iconst (3), 1, 0, 0, 0, 3, 0), (173, .iadd, 1, 0, 0, 0, 0, 0), (174, .iaload, 1, 0, 0, 1, 0, 0), (175, .i2l, 1, 0, 0, 0, 0, 0), (176, .ldc2_w 40, 3, 0, 0, 0, 0, 4294967295), (179, .land, 1, 0, 0, 0, 0, 0), (180, .lor, 1, 0, 0, 0, 0, 0), (181, .invokevirtual 46, 3, 14, 3, 0, 0, 0), (184, .if_icmp .eq (542), 3, 726, 0, 0, 0, 0), (187, .iconst (0), 1, 0, 0, 0, 0, 0), (188, .ireturn, 1, 0, 0, 1, 0, 0), (189, .aload_n 1, 1, 1, 0, 0, 0, 0), (190, .invokevirtual 47, 3, 15, 1, 0, 0, 0), (193, .aload_n 2, 1, 2, 0, 0, 0, 0), (194, .invokevirtual 50, 3, 17, 1, 0, 0, 0), (197, .if_icmp .eq (529), 3, 726, 0, 0, 0, 0), (200, .iconst (0), 1, 0, 0, 0, 0, 0), (201, .ireturn, 1, 0, 0, 1, 0, 0), (202, .aload_n 1, 1, 1, 0, 0, 0, 0), (203, .aload_n 3, 1, 3, 0, 0, 0, 0), (204, .invokestatic 51, 3, 18, 2, 0, 0, 0), (207, .istore 5, 2, 0, 0, 0, 0, 0), (209, .aload_n 2, 1, 2, 0, 0, 0, 0), (210, .invokevirtual 56, 3, 41, 1, 0, 0, 0), (213, .istore 6, 2, 0, 0, 0, 0, 0), (215, .aload_n 2, 1, 2, 0, 0, 0, 0), (216, .invokevirtual 57, 3, 56, 1, 0, 0, 0), (219, .iload 5, 2, 0, 0, 0, 0, 0), (221, .if_icmp .eq (5), 3, 226, 0, 0, 0, 0), (224, .iconst (0), 1, 0, 0, 0, 0, 0), (225, .ireturn, 1, 0, 0, 1, 0, 0), (226, .iload 5, 2, 0, 0, 0, 0, 0), (228, .ifCond .ne (15), 3, 243, 0, 0, 0, 0), (231, .aload_n 3, 1, 3, 0, 0, 0, 0), (232, .iconst (0), 1, 0, 0, 0, 0, 0), (233, .laload, 1, 0, 0, 0, 0, 0), (234, .iload 6, 2, 0, 0, 0, 0, 0), (236, .i2l, 1, 0, 0, 0, 0, 0), (237, .lcmp, 1, 0, 0, 0, 0, 0), (238, .ifCond .eq (5), 3, 243, 0, 0, 0, 0), (241, .iconst (0), 1, 0, 0, 0, 0, 0), (242, .ireturn, 1, 0, 0, 1, 0, 0), (243, .goto (483), 3, 726, 0, 0, 0, 0), (246, .aload_n 1, 1, 1, 0, 0, 0, 0), (247, .aload_n 0, 1, 0, 0, 0, 0, 0), (248, .iload 4, 2, 0, 0, 0, 0, 0), (250, .iconst (1), 1, 0, 0, 0, 1, 0), (251, .iadd, 1, 0, 0, 0, 0, 0), (252, .iaload, 1, 0, 0, 1, 0, 0), (253, .ifCond .eq (7), 3, 260, 0, 0, 0, 0), (256, .iconst (1), 1, 0, 0, 0, 1, 0), (257, .goto (4), 3, 261, 0, 0, 0, 0), (260, .iconst (0), 1, 0, 0, 0, 0, 0), (261, .aload_n 3, 1, 3, 0, 0, 0, 0), (262, .invokestatic 60, 3, 57, 3, 0, 0, 0), (265, .istore 5, 2, 0, 0, 0, 0, 0), (267, .aload_n 2, 1, 2, 0, 0, 0, 0), (268, .aload_n 0, 1, 0, 0, 0, 0, 0), (269, .iload 4, 2, 0, 0, 0, 0, 0), (271, .iconst (1), 1, 0, 0, 0, 1, 0), (272, .iadd, 1, 0, 0, 0, 0, 0), (273, .iaload, 1, 0, 0, 1, 0, 0), (274, .ifCond .eq (7), 3, 281, 0, 0, 0, 0), (277, .iconst (1), 1, 0, 0, 0, 1, 0), (278, .goto (4), 3, 282, 0, 0, 0, 0), (281, .iconst (0), 1, 0, 0, 0, 0, 0), (282, .invokevirtual 63, 3, 69, 2, 0, 0, 0), (285, .istore 6, 2, 0, 0, 0, 0, 0), (287, .aload_n 2, 1, 2, 0, 0, 0, 0), (288, .invokevirtual 57, 3, 56, 1, 0, 0, 0), (291, .iload 5, 2, 0, 0, 0, 0, 0), (293, .if_icmp .eq (5), 3, 298, 0, 0, 0, 0), (296, .iconst (0), 1, 0, 0, 0, 0, 0), (297, .ireturn, 1, 0, 0, 1, 0, 0), (298, .iload 5, 2, 0, 0, 0, 0, 0), (300, .ifCond .ne (15), 3, 315, 0, 0, 0, 0), (303, .aload_n 3, 1, 3, 0, 0, 0, 0), (304, .iconst (0), 1, 0, 0, 0, 0, 0), (305, .laload, 1, 0, 0, 0, 0, 0), (306, .iload 6, 2, 0, 0, 0, 0, 0), (308, .i2l, 1, 0, 0, 0, 0, 0), (309, .lcmp, 1, 0, 0, 0, 0, 0), (310, .ifCond .eq (5), 3, 315, 0, 0, 0, 0), (313, .iconst (0), 1, 0, 0, 0, 0, 0), (314, .ireturn, 1, 0, 0, 1, 0, 0), (315, .goto (411), 3, 726, 0, 0, 0, 0), (318, .aload_n 1, 1, 1, 0, 0, 0, 0), (319, .aload_n 3, 1, 3, 0, 0, 0, 0), (320, .invokestatic 64, 3, 74, 2, 0, 0, 0), (323, .istore 5, 2, 0, 0, 0, 0, 0), (325, .aload_n 2, 1, 2, 0, 0, 0, 0), (326, .invokevirtual 66, 3, 81, 1, 0, 0, 0), (329, .istore 6, 2, 0, 0, 0, 0, 0), (331, .aload_n 2, 1, 2, 0, 0, 0, 0), (332, .invokevirtual 57, 3, 56, 1, 0, 0, 0), (335, .iload 5, 2, 0, 0, 0, 0, 0), (337, .if_icmp .eq (5), 3, 342, 0, 0, 0, 0), (340, .iconst (0), 1, 0, 0, 0, 0, 0), (341, .ireturn, 1, 0, 0, 1, 0, 0), (342, .iload 5, 2, 0, 0, 0, 0, 0), (344, .ifCond .ne (15), 3, 359, 0, 0, 0, 0), (347, .aload_n 3, 1, 3, 0, 0, 0, 0), (348, .iconst (0), 1, 0, 0, 0, 0, 0), (349, .laload, 1, 0, 0, 0, 0, 0), (350, .iload 6, 2, 0, 0, 0, 0, 0), (352, .i2l, 1, 0, 0, 0, 0, 0), (353, .lcmp, 1, 0, 0, 0, 0, 0), (354, .ifCond .eq (5), 3, 359, 0, 0, 0, 0), (357, .iconst (0), 1, 0, 0, 0, 0, 0), (358, .ireturn, 1, 0, 0, 1, 0, 0), (359, .goto (367), 3, 726, 0, 0, 0, 0), (362, .aload_n 1, 1, 1, 0, 0, 0, 0), (363, .invokevirtual 67, 3, 86, 1, 0, 0, 0), (366, .aload_n 2, 1, 2, 0, 0, 0, 0), (367, .invokevirtual 70, 3, 87, 1, 0, 0, 0), (370, .if_icmp .eq (356), 3, 726, 0, 0, 0, 0), (373, .iconst (0), 1, 0, 0, 0, 0, 0), (374, .ireturn, 1, 0, 0, 1, 0, 0), (375, .aload_n 1, 1, 1, 0, 0, 0, 0), (376, .invokevirtual 71, 3, 88, 1, 0, 0, 0), (379, .aload_n 2, 1, 2, 0, 0, 0, 0), (380, .invokevirtual 74, 3, 89, 1, 0, 0, 0), (383, .if_icmp .eq (343), 3, 726, 0, 0, 0, 0), (386, .iconst (0), 1, 0, 0, 0, 0, 0), (387, .ireturn, 1, 0, 0, 1, 0, 0), (388, .aload_n 1, 1, 1, 0, 0, 0, 0), (389, .aload_n 0, 1, 0, 0, 0, 0, 0), (390, .iload 4, 2, 0, 0, 0, 0, 0), (392, .iconst (1), 1, 0, 0, 0, 1, 0), (393, .iadd, 1, 0, 0, 0, 0, 0), (394, .iaload, 1, 0, 0, 1, 0, 0), (395, .aload_n 0, 1, 0, 0, 0, 0, 0), (396, .iload 4, 2, 0, 0, 0, 0, 0), (398, .iconst (2), 1, 0, 0, 0, 2, 0), (399, .iadd, 1, 0, 0, 0, 0, 0), (400, .iaload, 1, 0, 0, 1, 0, 0), (401, .invokevirtual 75, 3, 90, 3, 0, 0, 0), (404, .aload_n 2, 1, 2, 0, 0, 0, 0), (405, .aload_n 0, 1, 0, 0, 0, 0, 0), (406, .iload 4, 2, 0, 0, 0, 0, 0), (408, .iconst (1), 1, 0, 0, 0, 1, 0), (409, .iadd, 1, 0, 0, 0, 0, 0), (410, .iaload, 1, 0, 0, 1, 0, 0), (411, .aload_n 0, 1, 0, 0, 0, 0, 0), (412, .iload 4, 2, 0, 0, 0, 0, 0), (414, .iconst (2), 1, 0, 0, 0, 2, 0), (415, .iadd, 1, 0, 0, 0, 0, 0), (416, .iaload, 1, 0, 0, 1, 0, 0), (417, .invokevirtual 79, 3, 91, 3, 0, 0, 0), (420, .if_icmp .eq (306), 3, 726, 0, 0, 0, 0), (423, .iconst (0), 1, 0, 0, 0, 0, 0), (424, .ireturn, 1, 0, 0, 1, 0, 0), (425, .aload_n 1, 1, 1, 0, 0, 0, 0), (426, .aload_n 3, 1, 3, 0, 0, 0, 0), (427, .invokestatic 80, 3, 92, 2, 0, 0, 0), (430, .istore 5, 2, 0, 0, 0, 0, 0), (432, .aload_n 2, 1, 2, 0, 0, 0, 0), (433, .invokevirtual 82, 3, 99, 1, 0, 0, 0), (436, .istore 6, 2, 0, 0, 0, 0, 0), (438, .aload_n 2, 1, 2, 0, 0, 0, 0), (439, .invokevirtual 57, 3, 56, 1, 0, 0, 0), (442, .iload 5, 2, 0, 0, 0, 0, 0), (444, .if_icmp .eq (5), 3, 449, 0, 0, 0, 0), (447, .iconst (0), 1, 0, 0, 0, 0, 0), (448, .ireturn, 1, 0, 0, 1, 0, 0), (449, .iload 5, 2, 0, 0, 0, 0, 0), (451, .ifCond .ne (15), 3, 466, 0, 0, 0, 0), (454, .aload_n 3, 1, 3, 0, 0, 0, 0), (455, .iconst (0), 1, 0, 0, 0, 0, 0), (456, .laload, 1, 0, 0, 0, 0, 0), (457, .iload 6, 2, 0, 0, 0, 0, 0), (459, .i2l, 1, 0, 0, 0, 0, 0), (460, .lcmp, 1, 0, 0, 0, 0, 0), (461, .ifCond .eq (5), 3, 466, 0, 0, 0, 0), (464, .iconst (0), 1, 0, 0, 0, 0, 0), (465, .ireturn, 1, 0, 0, 1, 0, 0), (466, .goto (260), 3, 726, 0, 0, 0, 0), (469, .aload_n 1, 1, 1, 0, 0, 0, 0), (470, .aload_n 3, 1, 3, 0, 0, 0, 0), (471, .invokestatic 83, 3, 108, 2, 0, 0, 0), (474, .istore 5, 2, 0, 0, 0, 0, 0), (476, .aload_n 2, 1, 2, 0, 0, 0, 0), (477, .invokevirtual 85, 3, 114, 1, 0, 0, 0), (480, .istore 6, 2, 0, 0, 0, 0, 0), (482, .aload_n 2, 1, 2, 0, 0, 0, 0), (483, .invokevirtual 57, 3, 56, 1, 0, 0, 0), (486, .iload 5, 2, 0, 0, 0, 0, 0), (488, .if_icmp .eq (5), 3, 493, 0, 0, 0, 0), (491, .iconst (0), 1, 0, 0, 0, 0, 0), (492, .ireturn, 1, 0, 0, 1, 0, 0), (493, .iload 5, 2, 0, 0, 0, 0, 0), (495, .ifCond .ne (15), 3, 510, 0, 0, 0, 0), (498, .aload_n 3, 1, 3, 0, 0, 0, 0), (499, .iconst (0), 1, 0, 0, 0, 0, 0), (500, .laload, 1, 0, 0, 0, 0, 0), (501, .iload 6, 2, 0, 0, 0, 0, 0), (503, .i2l, 1, 0, 0, 0, 0, 0), (504, .lcmp, 1, 0, 0, 0, 0, 0), (505, .ifCond .eq (5), 3, 510, 0, 0, 0, 0), (508, .iconst (0), 1, 0, 0, 0, 0, 0), (509, .ireturn, 1, 0, 0, 1, 0, 0), (510, .goto (216), 3, 726, 0, 0, 0, 0), (513, .aload_n 1, 1, 1, 0, 0, 0, 0), (514, .aload_n 3, 1, 3, 0, 0, 0, 0), (515, .invokestatic 86, 3, 123, 2, 0, 0, 0), (518, .istore 5, 2, 0, 0, 0, 0, 0), (520, .aload_n 2, 1, 2, 0, 0, 0, 0), (521, .invokevirtual 88, 3, 139, 1, 0, 0, 0), (524, .istore 6, 2, 0, 0, 0, 0, 0), (526, .aload_n 2, 1, 2, 0, 0, 0, 0), (527, .invokevirtual 57, 3, 56, 1, 0, 0, 0), (530, .iload 5, 2, 0, 0, 0, 0, 0), (532, .if_icmp .eq (5), 3, 537, 0, 0, 0, 0), (535, .iconst (0), 1, 0, 0, 0, 0, 0), (536, .ireturn, 1, 0, 0, 1, 0, 0), (537, .iload 5, 2, 0, 0, 0, 0, 0), (539, .ifCond .ne (15), 3, 554, 0, 0, 0, 0), (542, .aload_n 3, 1, 3, 0, 0, 0, 0), (543, .iconst (0), 1, 0, 0, 0, 0, 0), (544, .laload, 1, 0, 0, 0, 0, 0), (545, .iload 6, 2, 0, 0, 0, 0, 0), (547, .i2l, 1, 0, 0, 0, 0, 0), (548, .lcmp, 1, 0, 0, 0, 0, 0), (549, .ifCond .eq (5), 3, 554, 0, 0, 0, 0), (552, .iconst (0), 1, 0, 0, 0, 0, 0), (553, .ireturn, 1, 0, 0, 1, 0, 0), (554, .goto (172), 3, 726, 0, 0, 0, 0), (557, .aload_n 1, 1, 1, 0, 0, 0, 0), (558, .aload_n 0, 1, 0, 0, 0, 0, 0), (559, .iload 4, 2, 0, 0, 0, 0, 0), (561, .iconst (1), 1, 0, 0, 0, 1, 0), (562, .iadd, 1, 0, 0, 0, 0, 0), (563, .iaload, 1, 0, 0, 1, 0, 0), (564, .invokevirtual 89, 3, 150, 2, 0, 0, 0), (567, .aload_n 2, 1, 2, 0, 0, 0, 0), (568, .aload_n 0, 1, 0, 0, 0, 0, 0), (569, .iload 4, 2, 0, 0, 0, 0, 0), (571, .iconst (1), 1, 0, 0, 0, 1, 0), (572, .iadd, 1, 0, 0, 0, 0, 0), (573, .iaload, 1, 0, 0, 1, 0, 0), (574, .invokevirtual 93, 3, 151, 2, 0, 0, 0), (577, .if_icmp .eq (149), 3, 726, 0, 0, 0, 0), (580, .iconst (0), 1, 0, 0, 0, 0, 0), (581, .ireturn, 1, 0, 0, 1, 0, 0), (582, .aload_n 1, 1, 1, 0, 0, 0, 0), (583, .aload_n 0, 1, 0, 0, 0, 0, 0), (584, .iload 4, 2, 0, 0, 0, 0, 0), (586, .iconst (1), 1, 0, 0, 0, 1, 0), (587, .iadd, 1, 0, 0, 0, 0, 0), (588, .iaload, 1, 0, 0, 1, 0, 0), (589, .invokevirtual 94, 3, 152, 2, 0, 0, 0), (592, .aload_n 2, 1, 2, 0, 0, 0, 0), (593, .aload_n 0, 1, 0, 0, 0, 0, 0), (594, .iload 4, 2, 0, 0, 0, 0, 0), (596, .iconst (1), 1, 0, 0, 0, 1, 0), (597, .iadd, 1, 0, 0, 0, 0, 0), (598, .iaload, 1, 0, 0, 1, 0, 0), (599, .invokevirtual 98, 3, 153, 2, 0, 0, 0), (602, .if_icmp .eq (124), 3, 726, 0, 0, 0, 0), (605, .iconst (0), 1, 0, 0, 0, 0, 0), (606, .ireturn, 1, 0, 0, 1, 0, 0), (607, .aload_n 1, 1, 1, 0, 0, 0, 0), (608, .invokevirtual 99, 3, 154, 1, 0, 0, 0), (611, .aload_n 2, 1, 2, 0, 0, 0, 0), (612, .invokevirtual 102, 3, 155, 1, 0, 0, 0), (615, .if_icmp .eq (111), 3, 726, 0, 0, 0, 0), (618, .iconst (0), 1, 0, 0, 0, 0, 0), (619, .ireturn, 1, 0, 0, 1, 0, 0), (620, .aload_n 1, 1, 1, 0, 0, 0, 0), (621, .aload_n 0, 1, 0, 0, 0, 0, 0), (622, .iload 4, 2, 0, 0, 0, 0, 0), (624, .iconst (1), 1, 0, 0, 0, 1, 0), (625, .iadd, 1, 0, 0, 0, 0, 0), (626, .iaload, 1, 0, 0, 1, 0, 0), (627, .invokevirtual 103, 3, 156, 2, 0, 0, 0), (630, .aload_n 2, 1, 2, 0, 0, 0, 0), (631, .aload_n 0, 1, 0, 0, 0, 0, 0), (632, .iload 4, 2, 0, 0, 0, 0, 0), (634, .iconst (1), 1, 0, 0, 0, 1, 0), (635, .iadd, 1, 0, 0, 0, 0, 0), (636, .iaload, 1, 0, 0, 1, 0, 0), (637, .invokevirtual 106, 3, 157, 2, 0, 0, 0), (640, .if_icmp .eq (86), 3, 726, 0, 0, 0, 0), (643, .iconst (0), 1, 0, 0, 0, 0, 0), (644, .ireturn, 1, 0, 0, 1, 0, 0), (645, .aload_n 1, 1, 1, 0, 0, 0, 0), (646, .aload_n 0, 1, 0, 0, 0, 0, 0), (647, .iload 4, 2, 0, 0, 0, 0, 0), (649, .iconst (1), 1, 0, 0, 0, 1, 0), (650, .iadd, 1, 0, 0, 0, 0, 0), (651, .iaload, 1, 0, 0, 1, 0, 0), (652, .aload_n 0, 1, 0, 0, 0, 0, 0), (653, .iload 4, 2, 0, 0, 0, 0, 0), (655, .iconst (2), 1, 0, 0, 0, 2, 0), (656, .iadd, 1, 0, 0, 0, 0, 0), (657, .iaload, 1, 0, 0, 1, 0, 0), (658, .invokevirtual 107, 3, 158, 3, 0, 0, 0), (661, .aload_n 2, 1, 2, 0, 0, 0, 0), (662, .aload_n 0, 1, 0, 0, 0, 0, 0), (663, .iload 4, 2, 0, 0, 0, 0, 0), (665, .iconst (1), 1, 0, 0, 0, 1, 0), (666, .iadd, 1, 0, 0, 0, 0, 0), (667, .iaload, 1, 0, 0, 1, 0, 0), (668, .aload_n 0, 1, 0, 0, 0, 0, 0), (669, .iload 4, 2, 0, 0, 0, 0, 0), (671, .iconst (2), 1, 0, 0, 0, 2, 0), (672, .iadd, 1, 0, 0, 0, 0, 0), (673, .iaload, 1, 0, 0, 1, 0, 0), (674, .invokevirtual 111, 3, 160, 3, 0, 0, 0), (677, .if_icmp .eq (49), 3, 726, 0, 0, 0, 0), (680, .iconst (0), 1, 0, 0, 0, 0, 0), (681, .ireturn, 1, 0, 0, 1, 0, 0), (682, .aload_n 1, 1, 1, 0, 0, 0, 0), (683, .aload_n 3, 1, 3, 0, 0, 0, 0), (684, .invokestatic 112, 3, 161, 2, 0, 0, 0), (687, .istore 5, 2, 0, 0, 0, 0, 0), (689, .aload_n 2, 1, 2, 0, 0, 0, 0), (690, .invokevirtual 114, 3, 176, 1, 0, 0, 0), (693, .istore 6, 2, 0, 0, 0, 0, 0), (695, .aload_n 2, 1, 2, 0, 0, 0, 0), (696, .invokevirtual 57, 3, 56, 1, 0, 0, 0), (699, .iload 5, 2, 0, 0, 0, 0, 0), (701, .if_icmp .eq (5), 3, 706, 0, 0, 0, 0), (704, .iconst (0), 1, 0, 0, 0, 0, 0), (705, .ireturn, 1, 0, 0, 1, 0, 0), (706, .iload 5, 2, 0, 0, 0, 0, 0), (708, .ifCond .ne (15), 3, 723, 0, 0, 0, 0), (711, .aload_n 3, 1, 3, 0, 0, 0, 0), (712, .iconst (0), 1, 0, 0, 0, 0, 0), (713, .laload, 1, 0, 0, 0, 0, 0), (714, .iload 6, 2, 0, 0, 0, 0, 0), (716, .i2l, 1, 0, 0, 0, 0, 0), (717, .lcmp, 1, 0, 0, 0, 0, 0), (718, .ifCond .eq (5), 3, 723, 0, 0, 0, 0), (721, .iconst (0), 1, 0, 0, 0, 0, 0), (722, .ireturn, 1, 0, 0, 1, 0, 0), (723, .goto (3), 3, 726, 0, 0, 0, 0), (726, .iinc 4 (4), 3, 0, 0, 0, 4, 0), (729, .goto (-706), 3, 23, 0, 0, 0, 0), (732, .iconst (1), 1, 0, 0, 0, 1, 0), (733, .ireturn, 1, 0, 0, 1, 0, 0)]
/-- 1: StreamRefuter.<init>()V -/
def x_t1 : List xR := [(0, .aload_n 0, 1, 0, 0, 0, 0, 0), (1, .invokespecial 1, 3, 0, 0, 1, 0, 0), (4, .aload_n 0, 1, 0, 0, 0, 0, 0), (5, .new 7, 3, 1, 2, 0, 0, 0), (8, .dup, 1, 0, 0, 0, 0, 0), (9, .invokespecial 9, 3, 2, 1, 0, 0, 0), (12, .putfield 10, 3, 0, 0, 2, 0, 0), (15, .aload_n 0, 1, 0, 0, 0, 0, 0), (16, .new 16, 3, 2, 4, 0, 0, 0), (19, .dup, 1, 0, 0, 0, 0, 0), (20, .aload_n 0, 1, 0, 0, 0, 0, 0), (21, .getfield 10, 3, 0, 0, 2, 0, 0), (24, .invokespecial 18, 3, 3, 2, 0, 0, 0), (27, .putfield 21, 3, 0, 1, 2, 0, 0), (30, .aload_n 0, 1, 0, 0, 0, 0, 0), (31, .new 25, 3, 3, 4, 0, 0, 0), (34, .dup, 1, 0, 0, 0, 0, 0), (35, .aload_n 0, 1, 0, 0, 0, 0, 0), (36, .getfield 10, 3, 0, 0, 2, 0, 0), (39, .invokespecial 27, 3, 5, 2, 0, 0, 0), (42, .putfield 28, 3, 0, 2, 2, 0, 0), (45, .aload_n 0, 1, 0, 0, 0, 0, 0), (46, .new 32, 3, 4, 13, 0, 0, 0), (49, .dup, 1, 0, 0, 0, 0, 0), (50, .invokespecial 34, 3, 6, 1, 0, 0, 0), (53, .putfield 35, 3, 0, 5, 2, 0, 0), (56, .aload_n 0, 1, 0, 0, 0, 0, 0), (57, .new 32, 3, 4, 13, 0, 0, 0), (60, .dup, 1, 0, 0, 0, 0, 0), (61, .invokespecial 34, 3, 6, 1, 0, 0, 0), (64, .putfield 39, 3, 0, 6, 2, 0, 0), (67, .aload_n 0, 1, 0, 0, 0, 0, 0), (68, .new 42, 3, 5, 3, 0, 0, 0), (71, .dup, 1, 0, 0, 0, 0, 0), (72, .invokespecial 44, 3, 7, 1, 0, 0, 0), (75, .putfield 45, 3, 0, 7, 2, 0, 0), (78, .aload_n 0, 1, 0, 0, 0, 0, 0), (79, .new 42, 3, 5, 3, 0, 0, 0), (82, .dup, 1, 0, 0, 0, 0, 0), (83, .invokespecial 44, 3, 7, 1, 0, 0, 0), (86, .putfield 49, 3, 0, 8, 2, 0, 0), (89, .aload_n 0, 1, 0, 0, 0, 0, 0), (90, .new 52, 3, 7, 10, 0, 0, 0), (93, .dup, 1, 0, 0, 0, 0, 0), (94, .aload_n 0, 1, 0, 0, 0, 0, 0), (95, .getfield 35, 3, 0, 5, 2, 0, 0), (98, .invokespecial 54, 3, 8, 2, 0, 0, 0), (101, .putfield 57, 3, 0, 3, 2, 0, 0), (104, .aload_n 0, 1, 0, 0, 0, 0, 0), (105, .new 61, 3, 8, 12, 0, 0, 0), (108, .dup, 1, 0, 0, 0, 0, 0), (109, .aload_n 0, 1, 0, 0, 0, 0, 0), (110, .getfield 45, 3, 0, 7, 2, 0, 0), (113, .invokespecial 63, 3, 10, 2, 0, 0, 0), (116, .putfield 66, 3, 0, 4, 2, 0, 0), (119, .aload_n 0, 1, 0, 0, 0, 0, 0), (120, .iconst (0), 1, 0, 0, 0, 0, 0), (121, .putfield 70, 3, 0, 9, 0, 0, 0), (124, .return_, 1, 0, 0, 0, 0, 0)]
/-- 2: StreamRefuter$Text.<init>()V -/
def x_t2 : List xR := [(0, .aload_n 0, 1, 0, 0, 0, 0, 0), (1, .invokespecial 3, 3, 0, 0, 1, 0, 0), (4, .aload_n 0, 1, 0, 0, 0, 0, 0), (5, .sipush (900), 3, 0, 0, 0, 900, 0), (8, .newarray .int, 2, 0, 0, 0, 0, 0), (10, .putfield 9, 3, 1, 0, 2, 0, 0), (13, .aload_n 0, 1, 0, 0, 0, 0, 0), (14, .iconst (0), 1, 0, 0, 0, 0, 0), (15, .putfield 15, 3, 1, 1, 0, 0, 0), (18, .return_, 1, 0, 0, 0, 0, 0)]
/-- 3: StreamRefuter$Words.<init>(LStreamRefuter$Text;)V -/
def x_t3 : List xR := [(0, .aload_n 0, 1, 0, 0, 0, 0, 0), (1, .aload_n 1, 1, 1, 0, 0, 0, 0), (2, .invokespecial 3, 3, 4, 2, 0, 0, 0), (5, .return_, 1, 0, 0, 0, 0, 0)]
/-- 4: StreamRefuter$Numbers.<init>(LStreamRefuter$Text;)V -/
def x_t4 : List xR := [(0, .aload_n 0, 1, 0, 0, 0, 0, 0), (1, .invokespecial 3, 3, 0, 0, 1, 0, 0), (4, .aload_n 0, 1, 0, 0, 0, 0, 0), (5, .iconst (0), 1, 0, 0, 0, 0, 0), (6, .putfield 9, 3, 2, 1, 0, 0, 0), (9, .aload_n 0, 1, 0, 0, 0, 0, 0), (10, .iconst (0), 1, 0, 0, 0, 0, 0), (11, .putfield 15, 3, 2, 2, 0, 0, 0), (14, .aload_n 0, 1, 0, 0, 0, 0, 0), (15, .sipush (20001), 3, 0, 0, 0, 20001, 0), (18, .putfield 18, 3, 2, 3, 0, 0, 0), (21, .aload_n 0, 1, 0, 0, 0, 0, 0), (22, .aload_n 1, 1, 1, 0, 0, 0, 0), (23, .putfield 21, 3, 2, 0, 2, 0, 0), (26, .return_, 1, 0, 0, 0, 0, 0)]
/-- 5: StreamRefuter$PackedNumbers.<init>(LStreamRefuter$Text;)V -/
def x_t5 : List xR := [(0, .aload_n 0, 1, 0, 0, 0, 0, 0), (1, .aload_n 1, 1, 1, 0, 0, 0, 0), (2, .invokespecial 3, 3, 4, 2, 0, 0, 0), (5, .return_, 1, 0, 0, 0, 0, 0)]
/-- 6: StreamRefuter$Problem.<init>()V -/
def x_t6 : List xR := [(0, .aload_n 0, 1, 0, 0, 0, 0, 0), (1, .invokespecial 3, 3, 0, 0, 1, 0, 0), (4, .aload_n 0, 1, 0, 0, 0, 0, 0), (5, .iconst (0), 1, 0, 0, 0, 0, 0), (6, .putfield 9, 3, 4, 0, 3, 0, 0), (9, .aload_n 0, 1, 0, 0, 0, 0, 0), (10, .iconst (0), 1, 0, 0, 0, 0, 0), (11, .putfield 15, 3, 4, 1, 3, 0, 0), (14, .aload_n 0, 1, 0, 0, 0, 0, 0), (15, .iconst (0), 1, 0, 0, 0, 0, 0), (16, .putfield 18, 3, 4, 2, 0, 0, 0), (19, .aload_n 0, 1, 0, 0, 0, 0, 0), (20, .iconst (0), 1, 0, 0, 0, 0, 0), (21, .putfield 22, 3, 4, 3, 0, 0, 0), (24, .aload_n 0, 1, 0, 0, 0, 0, 0), (25, .iconst (0), 1, 0, 0, 0, 0, 0), (26, .putfield 25, 3, 4, 4, 0, 0, 0), (29, .aload_n 0, 1, 0, 0, 0, 0, 0), (30, .iconst (0), 1, 0, 0, 0, 0, 0), (31, .putfield 28, 3, 4, 5, 0, 0, 0), (34, .aload_n 0, 1, 0, 0, 0, 0, 0), (35, .sipush (384), 3, 0, 0, 0, 384, 0), (38, .newarray .int, 2, 0, 0, 0, 0, 0), (40, .putfield 31, 3, 4, 6, 2, 0, 0), (43, .aload_n 0, 1, 0, 0, 0, 0, 0), (44, .bipush (64), 2, 0, 0, 0, 64, 0), (46, .newarray .int, 2, 0, 0, 0, 0, 0), (48, .putfield 35, 3, 4, 7, 2, 0, 0), (51, .aload_n 0, 1, 0, 0, 0, 0, 0), (52, .bipush (64), 2, 0, 0, 0, 64, 0), (54, .newarray .int, 2, 0, 0, 0, 0, 0), (56, .putfield 38, 3, 4, 8, 2, 0, 0), (59, .aload_n 0, 1, 0, 0, 0, 0, 0), (60, .bipush (81), 2, 0, 0, 0, 81, 0), (62, .newarray .int, 2, 0, 0, 0, 0, 0), (64, .putfield 41, 3, 4, 9, 2, 0, 0), (67, .aload_n 0, 1, 0, 0, 0, 0, 0), (68, .bipush (81), 2, 0, 0, 0, 81, 0), (70, .newarray .long, 2, 2, 0, 0, 0, 0), (72, .putfield 44, 3, 4, 10, 2, 0, 0), (75, .aload_n 0, 1, 0, 0, 0, 0, 0), (76, .lconst 0, 1, 0, 0, 0, 0, 0), (77, .putfield 48, 3, 4, 11, 1, 0, 0), (80, .aload_n 0, 1, 0, 0, 0, 0, 0), (81, .lconst 0, 1, 0, 0, 0, 0, 0), (82, .putfield 52, 3, 4, 12, 1, 0, 0), (85, .return_, 1, 0, 0, 0, 0, 0)]
/-- 7: StreamRefuter$Tokens.<init>()V -/
def x_t7 : List xR := [(0, .aload_n 0, 1, 0, 0, 0, 0, 0), (1, .invokespecial 3, 3, 0, 0, 1, 0, 0), (4, .aload_n 0, 1, 0, 0, 0, 0, 0), (5, .sipush (2000), 3, 0, 0, 0, 2000, 0), (8, .newarray .int, 2, 0, 0, 0, 0, 0), (10, .putfield 9, 3, 5, 0, 2, 0, 0), (13, .aload_n 0, 1, 0, 0, 0, 0, 0), (14, .iconst (0), 1, 0, 0, 0, 0, 0), (15, .putfield 15, 3, 5, 1, 0, 0, 0), (18, .aload_n 0, 1, 0, 0, 0, 0, 0), (19, .iconst (0), 1, 0, 0, 0, 0, 0), (20, .putfield 19, 3, 5, 2, 0, 0, 0), (23, .return_, 1, 0, 0, 0, 0, 0)]
/-- 8: StreamRefuter$Refuter.<init>(LStreamRefuter$Problem;)V -/
def x_t8 : List xR := [(0, .aload_n 0, 1, 0, 0, 0, 0, 0), (1, .invokespecial 3, 3, 0, 0, 1, 0, 0), (4, .aload_n 0, 1, 0, 0, 0, 0, 0), (5, .lconst 0, 1, 0, 0, 0, 0, 0), (6, .putfield 9, 3, 7, 2, 1, 0, 0), (9, .aload_n 0, 1, 0, 0, 0, 0, 0), (10, .lconst 0, 1, 0, 0, 0, 0, 0), (11, .putfield 15, 3, 7, 3, 1, 0, 0), (14, .aload_n 0, 1, 0, 0, 0, 0, 0), (15, .iconst (0), 1, 0, 0, 0, 0, 0), (16, .putfield 18, 3, 7, 4, 0, 0, 0), (19, .aload_n 0, 1, 0, 0, 0, 0, 0), (20, .new 22, 3, 5, 3, 0, 0, 0), (23, .dup, 1, 0, 0, 0, 0, 0), (24, .invokespecial 24, 3, 7, 1, 0, 0, 0), (27, .putfield 25, 3, 7, 5, 2, 0, 0), (30, .aload_n 0, 1, 0, 0, 0, 0, 0), (31, .bipush (65), 2, 0, 0, 0, 65, 0), (33, .newarray .int, 2, 0, 0, 0, 0, 0), (35, .putfield 29, 3, 7, 6, 2, 0, 0), (38, .aload_n 0, 1, 0, 0, 0, 0, 0), (39, .bipush (65), 2, 0, 0, 0, 65, 0), (41, .newarray .int, 2, 0, 0, 0, 0, 0), (43, .putfield 33, 3, 7, 7, 2, 0, 0), (46, .aload_n 0, 1, 0, 0, 0, 0, 0), (47, .bipush (65), 2, 0, 0, 0, 65, 0), (49, .newarray .int, 2, 0, 0, 0, 0, 0), (51, .putfield 36, 3, 7, 8, 2, 0, 0), (54, .aload_n 0, 1, 0, 0, 0, 0, 0), (55, .bipush (65), 2, 0, 0, 0, 65, 0), (57, .newarray .long, 2, 2, 0, 0, 0, 0), (59, .putfield 39, 3, 7, 9, 2, 0, 0), (62, .aload_n 0, 1, 0, 0, 0, 0, 0), (63, .aload_n 1, 1, 1, 0, 0, 0, 0), (64, .putfield 43, 3, 7, 1, 2, 0, 0), (67, .aload_n 0, 1, 0, 0, 0, 0, 0), (68, .new 47, 3, 6, 10, 0, 0, 0), (71, .dup, 1, 0, 0, 0, 0, 0), (72, .aload_n 1, 1, 1, 0, 0, 0, 0), (73, .invokespecial 49, 3, 9, 2, 0, 0, 0), (76, .putfield 52, 3, 7, 0, 2, 0, 0), (79, .return_, 1, 0, 0, 0, 0, 0)]
/-- 9: StreamRefuter$Propagation.<init>(LStreamRefuter$Problem;)V -/
def x_t9 : List xR := [(0, .aload_n 0, 1, 0, 0, 0, 0, 0), (1, .invokespecial 3, 3, 0, 0, 1, 0, 0), (4, .aload_n 0, 1, 0, 0, 0, 0, 0), (5, .lconst 0, 1, 0, 0, 0, 0, 0), (6, .putfield 9, 3, 6, 1, 1, 0, 0), (9, .aload_n 0, 1, 0, 0, 0, 0, 0), (10, .iconst (0), 1, 0, 0, 0, 0, 0), (11, .putfield 15, 3, 6, 2, 0, 0, 0), (14, .aload_n 0, 1, 0, 0, 0, 0, 0), (15, .iconst (0), 1, 0, 0, 0, 0, 0), (16, .putfield 19, 3, 6, 3, 0, 0, 0), (19, .aload_n 0, 1, 0, 0, 0, 0, 0), (20, .bipush (17), 2, 0, 0, 0, 17, 0), (22, .newarray .int, 2, 0, 0, 0, 0, 0), (24, .putfield 22, 3, 6, 4, 2, 0, 0), (27, .aload_n 0, 1, 0, 0, 0, 0, 0), (28, .bipush (17), 2, 0, 0, 0, 17, 0), (30, .newarray .int, 2, 0, 0, 0, 0, 0), (32, .putfield 26, 3, 6, 5, 2, 0, 0), (35, .aload_n 0, 1, 0, 0, 0, 0, 0), (36, .iconst (0), 1, 0, 0, 0, 0, 0), (37, .putfield 29, 3, 6, 6, 0, 0, 0), (40, .aload_n 0, 1, 0, 0, 0, 0, 0), (41, .iconst (0), 1, 0, 0, 0, 0, 0), (42, .putfield 32, 3, 6, 7, 0, 0, 0), (45, .aload_n 0, 1, 0, 0, 0, 0, 0), (46, .iconst (0), 1, 0, 0, 0, 0, 0), (47, .putfield 35, 3, 6, 8, 0, 0, 0), (50, .aload_n 0, 1, 0, 0, 0, 0, 0), (51, .iconst (0), 1, 0, 0, 0, 0, 0), (52, .putfield 38, 3, 6, 9, 0, 0, 0), (55, .aload_n 0, 1, 0, 0, 0, 0, 0), (56, .aload_n 1, 1, 1, 0, 0, 0, 0), (57, .putfield 41, 3, 6, 0, 2, 0, 0), (60, .return_, 1, 0, 0, 0, 0, 0)]
/-- 10: StreamRefuter$Judge.<init>(LStreamRefuter$Tokens;)V -/
def x_t10 : List xR := [(0, .aload_n 0, 1, 0, 0, 0, 0, 0), (1, .invokespecial 3, 3, 0, 0, 1, 0, 0), (4, .aload_n 0, 1, 0, 0, 0, 0, 0), (5, .sipush (540), 3, 0, 0, 0, 540, 0), (8, .newarray .int, 2, 0, 0, 0, 0, 0), (10, .putfield 11, 3, 8, 0, 2, 0, 0), (13, .aload_n 0, 1, 0, 0, 0, 0, 0), (14, .sipush (540), 3, 0, 0, 0, 540, 0), (17, .newarray .int, 2, 0, 0, 0, 0, 0), (19, .putfield 15, 3, 8, 1, 2, 0, 0), (22, .aload_n 0, 1, 0, 0, 0, 0, 0), (23, .sipush (540), 3, 0, 0, 0, 540, 0), (26, .newarray .boolean, 2, 1, 0, 0, 0, 0), (28, .putfield 18, 3, 8, 2, 2, 0, 0), (31, .aload_n 0, 1, 0, 0, 0, 0, 0), (32, .sipush (540), 3, 0, 0, 0, 540, 0), (35, .newarray .int, 2, 0, 0, 0, 0, 0), (37, .putfield 22, 3, 8, 3, 2, 0, 0), (40, .aload_n 0, 1, 0, 0, 0, 0, 0), (41, .iconst (0), 1, 0, 0, 0, 0, 0), (42, .putfield 25, 3, 8, 4, 0, 0, 0), (45, .aload_n 0, 1, 0, 0, 0, 0, 0), (46, .iconst (0), 1, 0, 0, 0, 0, 0), (47, .putfield 29, 3, 8, 5, 0, 0, 0), (50, .aload_n 0, 1, 0, 0, 0, 0, 0), (51, .iconst (0), 1, 0, 0, 0, 0, 0), (52, .putfield 32, 3, 8, 6, 0, 0, 0), (55, .aload_n 0, 1, 0, 0, 0, 0, 0), (56, .iconst (0), 1, 0, 0, 0, 0, 0), (57, .putfield 35, 3, 8, 8, 0, 0, 0), (60, .aload_n 0, 1, 0, 0, 0, 0, 0), (61, .iconst (0), 1, 0, 0, 0, 0, 0), (62, .putfield 38, 3, 8, 9, 0, 0, 0), (65, .aload_n 0, 1, 0, 0, 0, 0, 0), (66, .iconst (0), 1, 0, 0, 0, 0, 0), (67, .putfield 41, 3, 8, 10, 0, 0, 0), (70, .aload_n 0, 1, 0, 0, 0, 0, 0), (71, .iconst (0), 1, 0, 0, 0, 0, 0), (72, .putfield 44, 3, 8, 11, 3, 0, 0), (75, .aload_n 0, 1, 0, 0, 0, 0, 0), (76, .aload_n 1, 1, 1, 0, 0, 0, 0), (77, .putfield 48, 3, 8, 7, 2, 0, 0), (80, .return_, 1, 0, 0, 0, 0, 0)]
/-- 11: StreamRefuterModel.<init>()V -/
def x_t11 : List xR := [(0, .aload_n 0, 1, 0, 0, 0, 0, 0), (1, .invokespecial 1, 3, 0, 0, 1, 0, 0), (4, .aload_n 0, 1, 0, 0, 0, 0, 0), (5, .sipush (900), 3, 0, 0, 0, 900, 0), (8, .newarray .int, 2, 0, 0, 0, 0, 0), (10, .putfield 7, 3, 9, 2, 2, 0, 0), (13, .aload_n 0, 1, 0, 0, 0, 0, 0), (14, .sipush (384), 3, 0, 0, 0, 384, 0), (17, .newarray .int, 2, 0, 0, 0, 0, 0), (19, .putfield 13, 3, 9, 8, 2, 0, 0), (22, .aload_n 0, 1, 0, 0, 0, 0, 0), (23, .bipush (64), 2, 0, 0, 0, 64, 0), (25, .newarray .int, 2, 0, 0, 0, 0, 0), (27, .putfield 16, 3, 9, 9, 2, 0, 0), (30, .aload_n 0, 1, 0, 0, 0, 0, 0), (31, .bipush (81), 2, 0, 0, 0, 81, 0), (33, .newarray .boolean, 2, 1, 0, 0, 0, 0), (35, .putfield 19, 3, 9, 12, 2, 0, 0), (38, .aload_n 0, 1, 0, 0, 0, 0, 0), (39, .bipush (81), 2, 0, 0, 0, 81, 0), (41, .newarray .int, 2, 0, 0, 0, 0, 0), (43, .putfield 23, 3, 9, 13, 2, 0, 0), (46, .aload_n 0, 1, 0, 0, 0, 0, 0), (47, .bipush (81), 2, 0, 0, 0, 81, 0), (49, .newarray .int, 2, 0, 0, 0, 0, 0), (51, .putfield 26, 3, 9, 14, 2, 0, 0), (54, .aload_n 0, 1, 0, 0, 0, 0, 0), (55, .bipush (64), 2, 0, 0, 0, 64, 0), (57, .newarray .boolean, 2, 1, 0, 0, 0, 0), (59, .putfield 29, 3, 9, 15, 2, 0, 0), (62, .aload_n 0, 1, 0, 0, 0, 0, 0), (63, .sipush (486), 3, 0, 0, 0, 486, 0), (66, .newarray .int, 2, 0, 0, 0, 0, 0), (68, .putfield 32, 3, 9, 21, 2, 0, 0), (71, .aload_n 0, 1, 0, 0, 0, 0, 0), (72, .bipush (81), 2, 0, 0, 0, 81, 0), (74, .newarray .int, 2, 0, 0, 0, 0, 0), (76, .putfield 35, 3, 9, 22, 2, 0, 0), (79, .aload_n 0, 1, 0, 0, 0, 0, 0), (80, .bipush (81), 2, 0, 0, 0, 81, 0), (82, .newarray .boolean, 2, 1, 0, 0, 0, 0), (84, .putfield 38, 3, 9, 23, 2, 0, 0), (87, .aload_n 0, 1, 0, 0, 0, 0, 0), (88, .sipush (2000), 3, 0, 0, 0, 2000, 0), (91, .newarray .int, 2, 0, 0, 0, 0, 0), (93, .putfield 41, 3, 9, 25, 2, 0, 0), (96, .aload_n 0, 1, 0, 0, 0, 0, 0), (97, .sipush (2000), 3, 0, 0, 0, 2000, 0), (100, .newarray .int, 2, 0, 0, 0, 0, 0), (102, .putfield 44, 3, 9, 27, 2, 0, 0), (105, .aload_n 0, 1, 0, 0, 0, 0, 0), (106, .bipush (64), 2, 0, 0, 0, 64, 0), (108, .newarray .boolean, 2, 1, 0, 0, 0, 0), (110, .putfield 47, 3, 9, 28, 2, 0, 0), (113, .aload_n 0, 1, 0, 0, 0, 0, 0), (114, .bipush (64), 2, 0, 0, 0, 64, 0), (116, .newarray .boolean, 2, 1, 0, 0, 0, 0), (118, .putfield 50, 3, 9, 29, 2, 0, 0), (121, .aload_n 0, 1, 0, 0, 0, 0, 0), (122, .bipush (17), 2, 0, 0, 0, 17, 0), (124, .newarray .int, 2, 0, 0, 0, 0, 0), (126, .putfield 53, 3, 9, 30, 2, 0, 0), (129, .aload_n 0, 1, 0, 0, 0, 0, 0), (130, .bipush (17), 2, 0, 0, 0, 17, 0), (132, .newarray .int, 2, 0, 0, 0, 0, 0), (134, .putfield 56, 3, 9, 31, 2, 0, 0), (137, .aload_n 0, 1, 0, 0, 0, 0, 0), (138, .bipush (60), 2, 0, 0, 0, 60, 0), (140, .newarray .int, 2, 0, 0, 0, 0, 0), (142, .putfield 59, 3, 9, 35, 2, 0, 0), (145, .aload_n 0, 1, 0, 0, 0, 0, 0), (146, .bipush (60), 2, 0, 0, 0, 60, 0), (148, .newarray .int, 2, 0, 0, 0, 0, 0), (150, .putfield 62, 3, 9, 36, 2, 0, 0), (153, .aload_n 0, 1, 0, 0, 0, 0, 0), (154, .bipush (17), 2, 0, 0, 0, 17, 0), (156, .newarray .boolean, 2, 1, 0, 0, 0, 0), (158, .putfield 65, 3, 9, 37, 2, 0, 0), (161, .aload_n 0, 1, 0, 0, 0, 0, 0), (162, .bipush (60), 2, 0, 0, 0, 60, 0), (164, .newarray .boolean, 2, 1, 0, 0, 0, 0), (166, .putfield 68, 3, 9, 38, 2, 0, 0), (169, .aload_n 0, 1, 0, 0, 0, 0, 0), (170, .sipush (2400), 3, 0, 0, 0, 2400, 0), (173, .newarray .int, 2, 0, 0, 0, 0, 0), (175, .putfield 71, 3, 9, 40, 2, 0, 0), (178, .aload_n 0, 1, 0, 0, 0, 0, 0), (179, .bipush (64), 2, 0, 0, 0, 64, 0), (181, .newarray .int, 2, 0, 0, 0, 0, 0), (183, .putfield 74, 3, 9, 41, 2, 0, 0), (186, .aload_n 0, 1, 0, 0, 0, 0, 0), (187, .bipush (64), 2, 0, 0, 0, 64, 0), (189, .newarray .int, 2, 0, 0, 0, 0, 0), (191, .putfield 77, 3, 9, 42, 2, 0, 0), (194, .aload_n 0, 1, 0, 0, 0, 0, 0), (195, .sipush (1400), 3, 0, 0, 0, 1400, 0), (198, .newarray .int, 2, 0, 0, 0, 0, 0), (200, .putfield 80, 3, 9, 44, 2, 0, 0), (203, .aload_n 0, 1, 0, 0, 0, 0, 0), (204, .bipush (60), 2, 0, 0, 0, 60, 0), (206, .newarray .boolean, 2, 1, 0, 0, 0, 0), (208, .putfield 83, 3, 9, 45, 2, 0, 0), (211, .aload_n 0, 1, 0, 0, 0, 0, 0), (212, .bipush (64), 2, 0, 0, 0, 64, 0), (214, .newarray .boolean, 2, 1, 0, 0, 0, 0), (216, .putfield 86, 3, 9, 46, 2, 0, 0), (219, .aload_n 0, 1, 0, 0, 0, 0, 0), (220, .bipush (81), 2, 0, 0, 0, 81, 0), (222, .newarray .int, 2, 0, 0, 0, 0, 0), (224, .putfield 89, 3, 9, 47, 2, 0, 0), (227, .aload_n 0, 1, 0, 0, 0, 0, 0), (228, .bipush (64), 2, 0, 0, 0, 64, 0), (230, .newarray .int, 2, 0, 0, 0, 0, 0), (232, .putfield 92, 3, 9, 48, 2, 0, 0), (235, .aload_n 0, 1, 0, 0, 0, 0, 0), (236, .bipush (64), 2, 0, 0, 0, 64, 0), (238, .newarray .int, 2, 0, 0, 0, 0, 0), (240, .putfield 95, 3, 9, 49, 2, 0, 0), (243, .aload_n 0, 1, 0, 0, 0, 0, 0), (244, .sipush (720), 3, 0, 0, 0, 720, 0), (247, .newarray .int, 2, 0, 0, 0, 0, 0), (249, .putfield 98, 3, 9, 51, 2, 0, 0), (252, .aload_n 0, 1, 0, 0, 0, 0, 0), (253, .sipush (720), 3, 0, 0, 0, 720, 0), (256, .newarray .int, 2, 0, 0, 0, 0, 0), (258, .putfield 101, 3, 9, 52, 2, 0, 0), (261, .aload_n 0, 1, 0, 0, 0, 0, 0), (262, .sipush (11520), 3, 0, 0, 0, 11520, 0), (265, .newarray .int, 2, 0, 0, 0, 0, 0), (267, .putfield 104, 3, 9, 53, 2, 0, 0), (270, .aload_n 0, 1, 0, 0, 0, 0, 0), (271, .sipush (720), 3, 0, 0, 0, 720, 0), (274, .newarray .boolean, 2, 1, 0, 0, 0, 0), (276, .putfield 107, 3, 9, 54, 2, 0, 0), (279, .aload_n 0, 1, 0, 0, 0, 0, 0), (280, .sipush (720), 3, 0, 0, 0, 720, 0), (283, .newarray .boolean, 2, 1, 0, 0, 0, 0), (285, .putfield 110, 3, 9, 55, 2, 0, 0), (288, .return_, 1, 0, 0, 0, 0, 0)]
/-- 12: StreamRefuter.feed(IJ)Z -/
def x_t12 : List xR := [(0, .aload_n 0, 1, 0, 0, 0, 0, 0), (1, .getfield 10, 3, 0, 0, 2, 0, 0), (4, .iload_n 1, 1, 1, 0, 0, 0, 0), (5, .lload_n 2, 1, 2, 0, 0, 0, 0), (6, .invokevirtual 74, 3, 13, 3, 0, 0, 0), (9, .ireturn, 1, 0, 0, 1, 0, 0)]
/-- 13: StreamRefuter$Text.append(IJ)Z -/
def x_t13 : List xR := [(0, .iload_n 1, 1, 1, 0, 0, 0, 0), (1, .iconst (1), 1, 0, 0, 0, 1, 0), (2, .if_icmp .lt (21), 3, 23, 0, 0, 0, 0), (5, .iload_n 1, 1, 1, 0, 0, 0, 0), (6, .bipush (8), 2, 0, 0, 0, 8, 0), (8, .if_icmp .gt (15), 3, 23, 0, 0, 0, 0), (11, .aload_n 0, 1, 0, 0, 0, 0, 0), (12, .getfield 15, 3, 1, 1, 0, 0, 0), (15, .iload_n 1, 1, 1, 0, 0, 0, 0), (16, .iadd, 1, 0, 0, 0, 0, 0), (17, .sipush (900), 3, 0, 0, 0, 900, 0), (20, .if_icmp .le (5), 3, 25, 0, 0, 0, 0), (23, .iconst (0), 1, 0, 0, 0, 0, 0), (24, .ireturn, 1, 0, 0, 1, 0, 0), (25, .iconst (0), 1, 0, 0, 0, 0, 0), (26, .istore 4, 2, 0, 0, 0, 0, 0), (28, .iload 4, 2, 0, 0, 0, 0, 0), (30, .iload_n 1, 1, 1, 0, 0, 0, 0), (31, .if_icmp .ge (33), 3, 64, 0, 0, 0, 0), (34, .aload_n 0, 1, 0, 0, 0, 0, 0), (35, .getfield 9, 3, 1, 0, 2, 0, 0), (38, .aload_n 0, 1, 0, 0, 0, 0, 0), (39, .getfield 15, 3, 1, 1, 0, 0, 0), (42, .iload 4, 2, 0, 0, 0, 0, 0), (44, .iadd, 1, 0, 0, 0, 0, 0), (45, .lload_n 2, 1, 2, 0, 0, 0, 0), (46, .bipush (8), 2, 0, 0, 0, 8, 0), (48, .iload 4, 2, 0, 0, 0, 0, 0), (50, .imul, 1, 0, 0, 0, 0, 0), (51, .lushr, 1, 0, 0, 0, 0, 0), (52, .l2i, 1, 0, 0, 0, 0, 0), (53, .sipush (255), 3, 0, 0, 0, 255, 0), (56, .iand, 1, 0, 0, 0, 0, 0), (57, .iastore, 1, 0, 0, 0, 0, 0), (58, .iinc 4 (1), 3, 0, 0, 0, 1, 0), (61, .goto (-33), 3, 28, 0, 0, 0, 0), (64, .aload_n 0, 1, 0, 0, 0, 0, 0), (65, .dup, 1, 0, 0, 0, 0, 0), (66, .getfield 15, 3, 1, 1, 0, 0, 0), (69, .iload_n 1, 1, 1, 0, 0, 0, 0), (70, .iadd, 1, 0, 0, 0, 0, 0), (71, .putfield 15, 3, 1, 1, 0, 0, 0), (74, .iconst (1), 1, 0, 0, 0, 1, 0), (75, .ireturn, 1, 0, 0, 1, 0, 0)]
/-- 14: StreamRefuterModel.feed(IJ)Z -/
def x_t14 : List xR := [(0, .aload_n 0, 1, 0, 0, 0, 0, 0), (1, .iconst (0), 1, 0, 0, 0, 0, 0), (2, .putfield 113, 3, 9, 0, 0, 0, 0), (5, .iload_n 1, 1, 1, 0, 0, 0, 0), (6, .iconst (1), 1, 0, 0, 0, 1, 0), (7, .if_icmp .lt (21), 3, 28, 0, 0, 0, 0), (10, .iload_n 1, 1, 1, 0, 0, 0, 0), (11, .bipush (8), 2, 0, 0, 0, 8, 0), (13, .if_icmp .gt (15), 3, 28, 0, 0, 0, 0), (16, .aload_n 0, 1, 0, 0, 0, 0, 0), (17, .getfield 117, 3, 9, 1, 0, 0, 0), (20, .iload_n 1, 1, 1, 0, 0, 0, 0), (21, .iadd, 1, 0, 0, 0, 0, 0), (22, .sipush (900), 3, 0, 0, 0, 900, 0), (25, .if_icmp .le (5), 3, 30, 0, 0, 0, 0), (28, .iconst (0), 1, 0, 0, 0, 0, 0), (29, .ireturn, 1, 0, 0, 1, 0, 0), (30, .iconst (0), 1, 0, 0, 0, 0, 0), (31, .istore 4, 2, 0, 0, 0, 0, 0), (33, .iload 4, 2, 0, 0, 0, 0, 0), (35, .iload_n 1, 1, 1, 0, 0, 0, 0), (36, .if_icmp .ge (40), 3, 76, 0, 0, 0, 0), (39, .aload_n 0, 1, 0, 0, 0, 0, 0), (40, .getfield 7, 3, 9, 2, 2, 0, 0), (43, .aload_n 0, 1, 0, 0, 0, 0, 0), (44, .getfield 117, 3, 9, 1, 0, 0, 0), (47, .lload_n 2, 1, 2, 0, 0, 0, 0), (48, .bipush (8), 2, 0, 0, 0, 8, 0), (50, .iload 4, 2, 0, 0, 0, 0, 0), (52, .imul, 1, 0, 0, 0, 0, 0), (53, .lshr, 1, 0, 0, 0, 0, 0), (54, .ldc2_w 120, 3, 0, 0, 0, 0, 255), (57, .land, 1, 0, 0, 0, 0, 0), (58, .l2i, 1, 0, 0, 0, 0, 0), (59, .iastore, 1, 0, 0, 0, 0, 0), (60, .aload_n 0, 1, 0, 0, 0, 0, 0), (61, .dup, 1, 0, 0, 0, 0, 0), (62, .getfield 117, 3, 9, 1, 0, 0, 0), (65, .iconst (1), 1, 0, 0, 0, 1, 0), (66, .iadd, 1, 0, 0, 0, 0, 0), (67, .putfield 117, 3, 9, 1, 0, 0, 0), (70, .iinc 4 (1), 3, 0, 0, 0, 1, 0), (73, .goto (-40), 3, 33, 0, 0, 0, 0), (76, .iconst (1), 1, 0, 0, 0, 1, 0), (77, .ireturn, 1, 0, 0, 1, 0, 0)]
/-- 15: StreamRefuter.wipe()I -/
def x_t15 : List xR := [(0, .aload_n 0, 1, 0, 0, 0, 0, 0), (1, .getfield 10, 3, 0, 0, 2, 0, 0), (4, .invokevirtual 78, 3, 16, 1, 0, 0, 0), (7, .ireturn, 1, 0, 0, 0, 0, 0)]
/-- 16: StreamRefuter$Text.empty()I -/
def x_t16 : List xR := [(0, .aload_n 0, 1, 0, 0, 0, 0, 0), (1, .getfield 15, 3, 1, 1, 0, 0, 0), (4, .istore_n 1, 1, 1, 0, 0, 0, 0), (5, .aload_n 0, 1, 0, 0, 0, 0, 0), (6, .iconst (0), 1, 0, 0, 0, 0, 0), (7, .putfield 15, 3, 1, 1, 0, 0, 0), (10, .iload_n 1, 1, 1, 0, 0, 0, 0), (11, .ireturn, 1, 0, 0, 0, 0, 0)]
/-- 17: StreamRefuterModel.wipe()I -/
def x_t17 : List xR := [(0, .aload_n 0, 1, 0, 0, 0, 0, 0), (1, .iconst (0), 1, 0, 0, 0, 0, 0), (2, .putfield 113, 3, 9, 0, 0, 0, 0), (5, .aload_n 0, 1, 0, 0, 0, 0, 0), (6, .getfield 117, 3, 9, 1, 0, 0, 0), (9, .istore_n 1, 1, 1, 0, 0, 0, 0), (10, .aload_n 0, 1, 0, 0, 0, 0, 0), (11, .iconst (0), 1, 0, 0, 0, 0, 0), (12, .putfield 117, 3, 9, 1, 0, 0, 0), (15, .iload_n 1, 1, 1, 0, 0, 0, 0), (16, .ireturn, 1, 0, 0, 0, 0, 0)]
/-- 18: StreamRefuterLaw.formula(LStreamRefuter;[J)I -/
def x_t18 : List xR := [(0, .aload_n 1, 1, 1, 0, 0, 0, 0), (1, .iconst (0), 1, 0, 0, 0, 0, 0), (2, .aload_n 0, 1, 0, 0, 0, 0, 0), (3, .invokevirtual 7, 3, 19, 1, 0, 0, 0), (6, .i2l, 1, 0, 0, 0, 0, 0), (7, .lastore, 1, 0, 0, 0, 0, 0), (8, .goto (6), 3, 14, 0, 0, 0, 0), (11, .astore_n 2, 1, 2, 0, 0, 0, 0), (12, .iconst (1), 1, 0, 0, 0, 1, 0), (13, .ireturn, 1, 0, 0, 0, 0, 0), (14, .iconst (0), 1, 0, 0, 0, 0, 0), (15, .ireturn, 1, 0, 0, 0, 0, 0)]
/-- 19: StreamRefuter.formula()I -/
def x_t19 : List xR := [(0, .aload_n 0, 1, 0, 0, 0, 0, 0), (1, .aload_n 0, 1, 0, 0, 0, 0, 0), (2, .getfield 39, 3, 0, 6, 2, 0, 0), (5, .aload_n 0, 1, 0, 0, 0, 0, 0), (6, .getfield 21, 3, 0, 1, 2, 0, 0), (9, .invokevirtual 82, 3, 20, 2, 0, 0, 0), (12, .putfield 70, 3, 0, 9, 0, 0, 0), (15, .aload_n 0, 1, 0, 0, 0, 0, 0), (16, .getfield 70, 3, 0, 9, 0, 0, 0), (19, .ifCond .eq (11), 3, 30, 0, 0, 0, 0), (22, .new 86, 3, 1, 0, 1, 0, 0), (30, .aload_n 0, 1, 0, 0, 0, 0, 0), (31, .invokevirtual 89, 3, 39, 1, 0, 0, 0), (34, .aload_n 0, 1, 0, 0, 0, 0, 0), (35, .getfield 45, 3, 0, 7, 2, 0, 0), (38, .invokevirtual 92, 3, 40, 1, 0, 0, 0), (41, .aload_n 0, 1, 0, 0, 0, 0, 0), (42, .getfield 35, 3, 0, 5, 2, 0, 0), (45, .getfield 95, 3, 4, 3, 0, 0, 0), (48, .ireturn, 1, 0, 0, 0, 0, 0)]
/-- 20: StreamRefuter$Problem.readFormula(LStreamRefuter$Words;)I -/
def x_t20 : List xR := [(0, .aload_n 0, 1, 0, 0, 0, 0, 0), (1, .invokevirtual 55, 3, 21, 1, 0, 0, 0), (4, .aload_n 1, 1, 1, 0, 0, 0, 0), (5, .invokevirtual 58, 3, 0, 1, 1, 0, 0), (8, .aload_n 1, 1, 1, 0, 0, 0, 0), (9, .invokevirtual 63, 3, 23, 1, 0, 0, 0), (12, .aload_n 1, 1, 1, 0, 0, 0, 0), (13, .ldc 66, 2, 0, 0, 1, 0, 0), (15, .invokevirtual 68, 3, 29, 2, 0, 0, 0), (18, .ifCond .ne (8), 3, 26, 0, 0, 0, 0), (21, .aload_n 1, 1, 1, 0, 0, 0, 0), (22, .getfield 72, 3, 2, 2, 0, 0, 0), (25, .ireturn, 1, 0, 0, 0, 0, 0), (26, .aload_n 1, 1, 1, 0, 0, 0, 0), (27, .invokevirtual 63, 3, 23, 1, 0, 0, 0), (30, .aload_n 1, 1, 1, 0, 0, 0, 0), (31, .ldc 75, 2, 1, 0, 1, 0, 0), (33, .invokevirtual 68, 3, 29, 2, 0, 0, 0), (36, .ifCond .ne (8), 3, 44, 0, 0, 0, 0), (39, .aload_n 1, 1, 1, 0, 0, 0, 0), (40, .getfield 72, 3, 2, 2, 0, 0, 0), (43, .ireturn, 1, 0, 0, 0, 0, 0), (44, .aload_n 1, 1, 1, 0, 0, 0, 0), (45, .invokevirtual 63, 3, 23, 1, 0, 0, 0), (48, .aload_n 1, 1, 1, 0, 0, 0, 0), (49, .getfield 77, 3, 2, 3, 0, 0, 0), (52, .iconst (1), 1, 0, 0, 0, 1, 0), (53, .if_icmp .lt (12), 3, 65, 0, 0, 0, 0), (56, .aload_n 1, 1, 1, 0, 0, 0, 0), (57, .getfield 77, 3, 2, 3, 0, 0, 0), (60, .bipush (16), 2, 0, 0, 0, 16, 0), (62, .if_icmp .le (8), 3, 70, 0, 0, 0, 0), (65, .aload_n 1, 1, 1, 0, 0, 0, 0), (66, .getfield 72, 3, 2, 2, 0, 0, 0), (69, .ireturn, 1, 0, 0, 0, 0, 0), (70, .aload_n 0, 1, 0, 0, 0, 0, 0), (71, .aload_n 1, 1, 1, 0, 0, 0, 0), (72, .getfield 77, 3, 2, 3, 0, 0, 0), (75, .putfield 18, 3, 4, 2, 0, 0, 0), (78, .aload_n 1, 1, 1, 0, 0, 0, 0), (79, .invokevirtual 63, 3, 23, 1, 0, 0, 0), (82, .aload_n 1, 1, 1, 0, 0, 0, 0), (83, .getfield 77, 3, 2, 3, 0, 0, 0), (86, .ifCond .lt (12), 3, 98, 0, 0, 0, 0), (89, .aload_n 1, 1, 1, 0, 0, 0, 0), (90, .getfield 77, 3, 2, 3, 0, 0, 0), (93, .bipush (40), 2, 0, 0, 0, 40, 0), (95, .if_icmp .le (8), 3, 103, 0, 0, 0, 0), (98, .aload_n 1, 1, 1, 0, 0, 0, 0), (99, .getfield 72, 3, 2, 2, 0, 0, 0), (102, .ireturn, 1, 0, 0, 0, 0, 0), (103, .aload_n 0, 1, 0, 0, 0, 0, 0), (104, .aload_n 1, 1, 1, 0, 0, 0, 0), (105, .aload_n 1, 1, 1, 0, 0, 0, 0), (106, .getfield 77, 3, 2, 3, 0, 0, 0), (109, .invokevirtual 80, 3, 30, 3, 0, 0, 0), (112, .ireturn, 1, 0, 0, 0, 0, 0)]
/-- 21: StreamRefuter$Problem.forgetAll()V -/
def x_t21 : List xR := [(0, .aload_n 0, 1, 0, 0, 0, 0, 0), (1, .iconst (0), 1, 0, 0, 0, 0, 0), (2, .putfield 9, 3, 4, 0, 3, 0, 0), (5, .aload_n 0, 1, 0, 0, 0, 0, 0), (6, .iconst (0), 1, 0, 0, 0, 0, 0), (7, .putfield 15, 3, 4, 1, 3, 0, 0), (10, .aload_n 0, 1, 0, 0, 0, 0, 0), (11, .iconst (0), 1, 0, 0, 0, 0, 0), (12, .putfield 18, 3, 4, 2, 0, 0, 0), (15, .aload_n 0, 1, 0, 0, 0, 0, 0), (16, .iconst (0), 1, 0, 0, 0, 0, 0), (17, .putfield 22, 3, 4, 3, 0, 0, 0), (20, .aload_n 0, 1, 0, 0, 0, 0, 0), (21, .iconst (0), 1, 0, 0, 0, 0, 0), (22, .putfield 25, 3, 4, 4, 0, 0, 0), (25, .aload_n 0, 1, 0, 0, 0, 0, 0), (26, .iconst (0), 1, 0, 0, 0, 0, 0), (27, .putfield 28, 3, 4, 5, 0, 0, 0), (30, .aload_n 0, 1, 0, 0, 0, 0, 0), (31, .getfield 44, 3, 4, 10, 2, 0, 0), (34, .iconst (0), 1, 0, 0, 0, 0, 0), (35, .lconst 0, 1, 0, 0, 0, 0, 0), (36, .lastore, 1, 0, 0, 0, 0, 0), (37, .aload_n 0, 1, 0, 0, 0, 0, 0), (38, .lconst 0, 1, 0, 0, 0, 0, 0), (39, .putfield 48, 3, 4, 11, 1, 0, 0), (42, .aload_n 0, 1, 0, 0, 0, 0, 0), (43, .lconst 0, 1, 0, 0, 0, 0, 0), (44, .putfield 52, 3, 4, 12, 1, 0, 0), (47, .return_, 1, 0, 0, 0, 0, 0)]
/-- 22: StreamRefuter$Numbers.restart()V -/
def x_t22 : List xR := [(0, .aload_n 0, 1, 0, 0, 0, 0, 0), (1, .iconst (0), 1, 0, 0, 0, 0, 0), (2, .putfield 9, 3, 2, 1, 0, 0, 0), (5, .return_, 1, 0, 0, 0, 0, 0)]
/-- 23: StreamRefuter$Words.advance()V -/
def x_t23 : List xR := [(0, .aload_n 0, 1, 0, 0, 0, 0, 0), (1, .getfield 9, 3, 2, 1, 0, 0, 0), (4, .aload_n 0, 1, 0, 0, 0, 0, 0), (5, .getfield 15, 3, 2, 0, 2, 0, 0), (8, .invokevirtual 19, 3, 24, 1, 0, 0, 0), (11, .if_icmp .ge (27), 3, 38, 0, 0, 0, 0), (14, .aload_n 0, 1, 0, 0, 0, 0, 0), (15, .aload_n 0, 1, 0, 0, 0, 0, 0), (16, .getfield 9, 3, 2, 1, 0, 0, 0), (19, .invokevirtual 25, 3, 25, 2, 0, 0, 0), (22, .ifCond .eq (16), 3, 38, 0, 0, 0, 0), (25, .aload_n 0, 1, 0, 0, 0, 0, 0), (26, .dup, 1, 0, 0, 0, 0, 0), (27, .getfield 9, 3, 2, 1, 0, 0, 0), (30, .iconst (1), 1, 0, 0, 0, 1, 0), (31, .iadd, 1, 0, 0, 0, 0, 0), (32, .putfield 9, 3, 2, 1, 0, 0, 0), (35, .goto (-35), 3, 0, 0, 0, 0, 0), (38, .aload_n 0, 1, 0, 0, 0, 0, 0), (39, .getfield 9, 3, 2, 1, 0, 0, 0), (42, .istore_n 1, 1, 1, 0, 0, 0, 0), (43, .aload_n 0, 1, 0, 0, 0, 0, 0), (44, .getfield 9, 3, 2, 1, 0, 0, 0), (47, .aload_n 0, 1, 0, 0, 0, 0, 0), (48, .getfield 15, 3, 2, 0, 2, 0, 0), (51, .invokevirtual 19, 3, 24, 1, 0, 0, 0), (54, .if_icmp .ge (27), 3, 81, 0, 0, 0, 0), (57, .aload_n 0, 1, 0, 0, 0, 0, 0), (58, .aload_n 0, 1, 0, 0, 0, 0, 0), (59, .getfield 9, 3, 2, 1, 0, 0, 0), (62, .invokevirtual 25, 3, 25, 2, 0, 0, 0), (65, .ifCond .ne (16), 3, 81, 0, 0, 0, 0), (68, .aload_n 0, 1, 0, 0, 0, 0, 0), (69, .dup, 1, 0, 0, 0, 0, 0), (70, .getfield 9, 3, 2, 1, 0, 0, 0), (73, .iconst (1), 1, 0, 0, 0, 1, 0), (74, .iadd, 1, 0, 0, 0, 0, 0), (75, .putfield 9, 3, 2, 1, 0, 0, 0), (78, .goto (-35), 3, 43, 0, 0, 0, 0), (81, .aload_n 0, 1, 0, 0, 0, 0, 0), (82, .iload_n 1, 1, 1, 0, 0, 0, 0), (83, .iconst (1), 1, 0, 0, 0, 1, 0), (84, .iadd, 1, 0, 0, 0, 0, 0), (85, .putfield 29, 3, 2, 2, 0, 0, 0), (88, .aload_n 0, 1, 0, 0, 0, 0, 0), (89, .iload_n 1, 1, 1, 0, 0, 0, 0), (90, .aload_n 0, 1, 0, 0, 0, 0, 0), (91, .getfield 9, 3, 2, 1, 0, 0, 0), (94, .if_icmp .ne (9), 3, 103, 0, 0, 0, 0), (97, .sipush (20001), 3, 0, 0, 0, 20001, 0), (100, .goto (8), 3, 108, 0, 0, 0, 0), (103, .aload_n 0, 1, 0, 0, 0, 0, 0), (104, .iload_n 1, 1, 1, 0, 0, 0, 0), (105, .invokevirtual 32, 3, 27, 2, 0, 0, 0), (108, .putfield 36, 3, 2, 3, 0, 0, 0), (111, .return_, 1, 0, 0, 0, 0, 0)]
/-- 24: StreamRefuter$Text.size()I -/
def x_t24 : List xR := [(0, .aload_n 0, 1, 0, 0, 0, 0, 0), (1, .getfield 15, 3, 1, 1, 0, 0, 0), (4, .ireturn, 1, 0, 0, 0, 0, 0)]
/-- 25: StreamRefuter$Words.isGap(I)Z -/
def x_t25 : List xR := [(0, .aload_n 0, 1, 0, 0, 0, 0, 0), (1, .getfield 15, 3, 2, 0, 2, 0, 0), (4, .iload_n 1, 1, 1, 0, 0, 0, 0), (5, .invokevirtual 60, 3, 26, 2, 0, 0, 0), (8, .istore_n 2, 1, 2, 0, 0, 0, 0), (9, .iload_n 2, 1, 2, 0, 0, 0, 0), (10, .bipush (32), 2, 0, 0, 0, 32, 0), (12, .if_icmp .eq (9), 3, 21, 0, 0, 0, 0), (15, .iload_n 2, 1, 2, 0, 0, 0, 0), (16, .bipush (10), 2, 0, 0, 0, 10, 0), (18, .if_icmp .ne (7), 3, 25, 0, 0, 0, 0), (21, .iconst (1), 1, 0, 0, 0, 1, 0), (22, .goto (4), 3, 26, 0, 0, 0, 0), (25, .iconst (0), 1, 0, 0, 0, 0, 0), (26, .ireturn, 1, 0, 0, 1, 0, 0)]
/-- 26: StreamRefuter$Text.byteAt(I)I -/
def x_t26 : List xR := [(0, .iload_n 1, 1, 1, 0, 0, 0, 0), (1, .ifCond .lt (20), 3, 21, 0, 0, 0, 0), (4, .iload_n 1, 1, 1, 0, 0, 0, 0), (5, .aload_n 0, 1, 0, 0, 0, 0, 0), (6, .getfield 15, 3, 1, 1, 0, 0, 0), (9, .if_icmp .ge (12), 3, 21, 0, 0, 0, 0), (12, .aload_n 0, 1, 0, 0, 0, 0, 0), (13, .getfield 9, 3, 1, 0, 2, 0, 0), (16, .iload_n 1, 1, 1, 0, 0, 0, 0), (17, .iaload, 1, 0, 0, 0, 0, 0), (18, .goto (4), 3, 22, 0, 0, 0, 0), (21, .iconst (-1), 1, 0, 0, 0, (-1), 0), (22, .ireturn, 1, 0, 0, 0, 0, 0)]
/-- 27: StreamRefuter$Words.meaning(I)I -/
def x_t27 : List xR := [(0, .aload_n 0, 1, 0, 0, 0, 0, 0), (1, .getfield 9, 3, 2, 1, 0, 0, 0), (4, .iload_n 1, 1, 1, 0, 0, 0, 0), (5, .isub, 1, 0, 0, 0, 0, 0), (6, .iconst (1), 1, 0, 0, 0, 1, 0), (7, .if_icmp .ne (20), 3, 27, 0, 0, 0, 0), (10, .aload_n 0, 1, 0, 0, 0, 0, 0), (11, .getfield 15, 3, 2, 0, 2, 0, 0), (14, .iload_n 1, 1, 1, 0, 0, 0, 0), (15, .invokevirtual 60, 3, 26, 2, 0, 0, 0), (18, .bipush (100), 2, 0, 0, 0, 100, 0), (20, .if_icmp .ne (7), 3, 27, 0, 0, 0, 0), (23, .sipush (10000), 3, 0, 0, 0, 10000, 0), (26, .ireturn, 1, 0, 0, 0, 0, 0), (27, .aload_n 0, 1, 0, 0, 0, 0, 0), (28, .getfield 15, 3, 2, 0, 2, 0, 0), (31, .iload_n 1, 1, 1, 0, 0, 0, 0), (32, .invokevirtual 60, 3, 26, 2, 0, 0, 0), (35, .bipush (45), 2, 0, 0, 0, 45, 0), (37, .if_icmp .ne (7), 3, 44, 0, 0, 0, 0), (40, .iconst (1), 1, 0, 0, 0, 1, 0), (41, .goto (4), 3, 45, 0, 0, 0, 0), (44, .iconst (0), 1, 0, 0, 0, 0, 0), (45, .istore_n 2, 1, 2, 0, 0, 0, 0), (46, .iload_n 2, 1, 2, 0, 0, 0, 0), (47, .ifCond .eq (9), 3, 56, 0, 0, 0, 0), (50, .iload_n 1, 1, 1, 0, 0, 0, 0), (51, .iconst (1), 1, 0, 0, 0, 1, 0), (52, .iadd, 1, 0, 0, 0, 0, 0), (53, .goto (4), 3, 57, 0, 0, 0, 0), (56, .iload_n 1, 1, 1, 0, 0, 0, 0), (57, .istore_n 3, 1, 3, 0, 0, 0, 0), (58, .aload_n 0, 1, 0, 0, 0, 0, 0), (59, .getfield 9, 3, 2, 1, 0, 0, 0), (62, .iload_n 3, 1, 3, 0, 0, 0, 0), (63, .isub, 1, 0, 0, 0, 0, 0), (64, .iconst (1), 1, 0, 0, 0, 1, 0), (65, .if_icmp .ne (28), 3, 93, 0, 0, 0, 0), (68, .aload_n 0, 1, 0, 0, 0, 0, 0), (69, .getfield 15, 3, 2, 0, 2, 0, 0), (72, .iload_n 3, 1, 3, 0, 0, 0, 0), (73, .invokevirtual 60, 3, 26, 2, 0, 0, 0), (76, .bipush (48), 2, 0, 0, 0, 48, 0), (78, .if_icmp .ne (15), 3, 93, 0, 0, 0, 0), (81, .iload_n 2, 1, 2, 0, 0, 0, 0), (82, .ifCond .eq (9), 3, 91, 0, 0, 0, 0), (85, .sipush (20000), 3, 0, 0, 0, 20000, 0), (88, .goto (4), 3, 92, 0, 0, 0, 0), (91, .iconst (0), 1, 0, 0, 0, 0, 0), (92, .ireturn, 1, 0, 0, 0, 0, 0), (93, .aload_n 0, 1, 0, 0, 0, 0, 0), (94, .iload_n 3, 1, 3, 0, 0, 0, 0), (95, .invokevirtual 67, 3, 28, 2, 0, 0, 0), (98, .istore 4, 2, 0, 0, 0, 0, 0), (100, .iload_n 2, 1, 2, 0, 0, 0, 0), (101, .ifCond .eq (17), 3, 118, 0, 0, 0, 0), (104, .iload 4, 2, 0, 0, 0, 0, 0), (106, .sipush (20000), 3, 0, 0, 0, 20000, 0), (109, .if_icmp .eq (9), 3, 118, 0, 0, 0, 0), (112, .iload 4, 2, 0, 0, 0, 0, 0), (114, .ineg, 1, 0, 0, 0, 0, 0), (115, .goto (5), 3, 120, 0, 0, 0, 0), (118, .iload 4, 2, 0, 0, 0, 0, 0), (120, .ireturn, 1, 0, 0, 0, 0, 0)]
/-- 28: StreamRefuter$Words.sizeOfDigits(I)I -/
def x_t28 : List xR := [(0, .aload_n 0, 1, 0, 0, 0, 0, 0), (1, .getfield 9, 3, 2, 1, 0, 0, 0), (4, .iload_n 1, 1, 1, 0, 0, 0, 0), (5, .isub, 1, 0, 0, 0, 0, 0), (6, .istore_n 2, 1, 2, 0, 0, 0, 0), (7, .iload_n 2, 1, 2, 0, 0, 0, 0), (8, .iconst (1), 1, 0, 0, 0, 1, 0), (9, .if_icmp .lt (21), 3, 30, 0, 0, 0, 0), (12, .iload_n 2, 1, 2, 0, 0, 0, 0), (13, .iconst (4), 1, 0, 0, 0, 4, 0), (14, .if_icmp .gt (16), 3, 30, 0, 0, 0, 0), (17, .aload_n 0, 1, 0, 0, 0, 0, 0), (18, .getfield 15, 3, 2, 0, 2, 0, 0), (21, .iload_n 1, 1, 1, 0, 0, 0, 0), (22, .invokevirtual 60, 3, 26, 2, 0, 0, 0), (25, .bipush (48), 2, 0, 0, 0, 48, 0), (27, .if_icmp .ne (7), 3, 34, 0, 0, 0, 0), (30, .sipush (20000), 3, 0, 0, 0, 20000, 0), (33, .ireturn, 1, 0, 0, 0, 0, 0), (34, .iconst (0), 1, 0, 0, 0, 0, 0), (35, .istore_n 3, 1, 3, 0, 0, 0, 0), (36, .iload_n 1, 1, 1, 0, 0, 0, 0), (37, .istore 4, 2, 0, 0, 0, 0, 0), (39, .iload 4, 2, 0, 0, 0, 0, 0), (41, .aload_n 0, 1, 0, 0, 0, 0, 0), (42, .getfield 9, 3, 2, 1, 0, 0, 0), (45, .if_icmp .ge (47), 3, 92, 0, 0, 0, 0), (48, .aload_n 0, 1, 0, 0, 0, 0, 0), (49, .getfield 15, 3, 2, 0, 2, 0, 0), (52, .iload 4, 2, 0, 0, 0, 0, 0), (54, .invokevirtual 60, 3, 26, 2, 0, 0, 0), (57, .bipush (48), 2, 0, 0, 0, 48, 0), (59, .isub, 1, 0, 0, 0, 0, 0), (60, .istore 5, 2, 0, 0, 0, 0, 0), (62, .iload 5, 2, 0, 0, 0, 0, 0), (64, .ifCond .lt (10), 3, 74, 0, 0, 0, 0), (67, .iload 5, 2, 0, 0, 0, 0, 0), (69, .bipush (9), 2, 0, 0, 0, 9, 0), (71, .if_icmp .le (7), 3, 78, 0, 0, 0, 0), (74, .sipush (20000), 3, 0, 0, 0, 20000, 0), (77, .ireturn, 1, 0, 0, 0, 0, 0), (78, .iload_n 3, 1, 3, 0, 0, 0, 0), (79, .bipush (10), 2, 0, 0, 0, 10, 0), (81, .imul, 1, 0, 0, 0, 0, 0), (82, .iload 5, 2, 0, 0, 0, 0, 0), (84, .iadd, 1, 0, 0, 0, 0, 0), (85, .istore_n 3, 1, 3, 0, 0, 0, 0), (86, .iinc 4 (1), 3, 0, 0, 0, 1, 0), (89, .goto (-50), 3, 39, 0, 0, 0, 0), (92, .iload_n 3, 1, 3, 0, 0, 0, 0), (93, .ireturn, 1, 0, 0, 0, 0, 0)]
/-- 29: StreamRefuter$Words.spells(Ljava/lang/String;)Z -/
def x_t29 : List xR := [(0, .aload_n 0, 1, 0, 0, 0, 0, 0), (1, .getfield 29, 3, 2, 2, 0, 0, 0), (4, .iconst (1), 1, 0, 0, 0, 1, 0), (5, .isub, 1, 0, 0, 0, 0, 0), (6, .istore_n 2, 1, 2, 0, 0, 0, 0), (7, .aload_n 0, 1, 0, 0, 0, 0, 0), (8, .getfield 9, 3, 2, 1, 0, 0, 0), (11, .iload_n 2, 1, 2, 0, 0, 0, 0), (12, .isub, 1, 0, 0, 0, 0, 0), (13, .aload_n 1, 1, 1, 0, 0, 0, 0), (14, .invokevirtual 55, 3, 0, 2, 2, 0, 0), (17, .if_icmp .eq (5), 3, 22, 0, 0, 0, 0), (20, .iconst (0), 1, 0, 0, 0, 0, 0), (21, .ireturn, 1, 0, 0, 1, 0, 0), (22, .iconst (0), 1, 0, 0, 0, 0, 0), (23, .istore_n 3, 1, 3, 0, 0, 0, 0), (24, .iload_n 3, 1, 3, 0, 0, 0, 0), (25, .aload_n 1, 1, 1, 0, 0, 0, 0), (26, .invokevirtual 55, 3, 0, 2, 2, 0, 0), (29, .if_icmp .ge (29), 3, 58, 0, 0, 0, 0), (32, .aload_n 0, 1, 0, 0, 0, 0, 0), (33, .getfield 15, 3, 2, 0, 2, 0, 0), (36, .iload_n 2, 1, 2, 0, 0, 0, 0), (37, .iload_n 3, 1, 3, 0, 0, 0, 0), (38, .iadd, 1, 0, 0, 0, 0, 0), (39, .invokevirtual 60, 3, 26, 2, 0, 0, 0), (42, .aload_n 1, 1, 1, 0, 0, 0, 0), (43, .iload_n 3, 1, 3, 0, 0, 0, 0), (44, .invokevirtual 63, 3, 0, 2, 3, 0, 0), (47, .if_icmp .eq (5), 3, 52, 0, 0, 0, 0), (50, .iconst (0), 1, 0, 0, 0, 0, 0), (51, .ireturn, 1, 0, 0, 1, 0, 0), (52, .iinc 3 (1), 3, 0, 0, 0, 1, 0), (55, .goto (-31), 3, 24, 0, 0, 0, 0), (58, .iconst (1), 1, 0, 0, 0, 1, 0), (59, .ireturn, 1, 0, 0, 1, 0, 0)]
/-- 30: StreamRefuter$Problem.readFormulaClauses(LStreamRefuter$Words;I)I -/
def x_t30 : List xR := [(0, .iconst (1), 1, 0, 0, 0, 1, 0), (1, .istore_n 3, 1, 3, 0, 0, 0, 0), (2, .iload_n 3, 1, 3, 0, 0, 0, 0), (3, .iload_n 2, 1, 2, 0, 0, 0, 0), (4, .if_icmp .gt (42), 3, 46, 0, 0, 0, 0), (7, .aload_n 1, 1, 1, 0, 0, 0, 0), (8, .invokevirtual 63, 3, 23, 1, 0, 0, 0), (11, .aload_n 0, 1, 0, 0, 0, 0, 0), (12, .aload_n 1, 1, 1, 0, 0, 0, 0), (13, .invokevirtual 84, 3, 31, 2, 0, 0, 0), (16, .ifCond .ne (8), 3, 24, 0, 0, 0, 0), (19, .aload_n 1, 1, 1, 0, 0, 0, 0), (20, .getfield 72, 3, 2, 2, 0, 0, 0), (23, .ireturn, 1, 0, 0, 0, 0, 0), (24, .aload_n 0, 1, 0, 0, 0, 0, 0), (25, .invokevirtual 88, 3, 38, 1, 0, 0, 0), (28, .aload_n 0, 1, 0, 0, 0, 0, 0), (29, .getfield 44, 3, 4, 10, 2, 0, 0), (32, .iconst (0), 1, 0, 0, 0, 0, 0), (33, .dup2, 1, 0, 0, 0, 0, 0), (34, .laload, 1, 0, 0, 0, 0, 0), (35, .lconst 1, 1, 0, 0, 0, 0, 1), (36, .iload_n 3, 1, 3, 0, 0, 0, 0), (37, .lshl, 1, 0, 0, 0, 0, 0), (38, .lor, 1, 0, 0, 0, 0, 0), (39, .lastore, 1, 0, 0, 0, 0, 0), (40, .iinc 3 (1), 3, 0, 0, 0, 1, 0), (43, .goto (-41), 3, 2, 0, 0, 0, 0), (46, .aload_n 1, 1, 1, 0, 0, 0, 0), (47, .invokevirtual 63, 3, 23, 1, 0, 0, 0), (50, .aload_n 1, 1, 1, 0, 0, 0, 0), (51, .getfield 77, 3, 2, 3, 0, 0, 0), (54, .sipush (20001), 3, 0, 0, 0, 20001, 0), (57, .if_icmp .eq (8), 3, 65, 0, 0, 0, 0), (60, .aload_n 1, 1, 1, 0, 0, 0, 0), (61, .getfield 72, 3, 2, 2, 0, 0, 0), (64, .ireturn, 1, 0, 0, 0, 0, 0), (65, .aload_n 0, 1, 0, 0, 0, 0, 0), (66, .iload_n 2, 1, 2, 0, 0, 0, 0), (67, .putfield 22, 3, 4, 3, 0, 0, 0), (70, .aload_n 0, 1, 0, 0, 0, 0, 0), (71, .iconst (1), 1, 0, 0, 0, 1, 0), (72, .putfield 9, 3, 4, 0, 3, 0, 0), (75, .iconst (0), 1, 0, 0, 0, 0, 0), (76, .ireturn, 1, 0, 0, 0, 0, 0)]
/-- 31: StreamRefuter$Problem.readClause(LStreamRefuter$Numbers;)Z -/
def x_t31 : List xR := [(0, .aload_n 0, 1, 0, 0, 0, 0, 0), (1, .getfield 35, 3, 4, 7, 2, 0, 0), (4, .iconst (0), 1, 0, 0, 0, 0, 0), (5, .iconst (0), 1, 0, 0, 0, 0, 0), (6, .iastore, 1, 0, 0, 0, 0, 0), (7, .aload_n 0, 1, 0, 0, 0, 0, 0), (8, .getfield 38, 3, 4, 8, 2, 0, 0), (11, .iconst (0), 1, 0, 0, 0, 0, 0), (12, .iconst (0), 1, 0, 0, 0, 0, 0), (13, .iastore, 1, 0, 0, 0, 0, 0), (14, .iconst (0), 1, 0, 0, 0, 0, 0), (15, .istore_n 2, 1, 2, 0, 0, 0, 0), (16, .iload_n 2, 1, 2, 0, 0, 0, 0), (17, .bipush (6), 2, 0, 0, 0, 6, 0), (19, .if_icmp .ge (77), 3, 96, 0, 0, 0, 0), (22, .aload_n 1, 1, 1, 0, 0, 0, 0), (23, .getfield 137, 3, 2, 3, 0, 0, 0), (26, .ifCond .eq (70), 3, 96, 0, 0, 0, 0), (29, .aload_n 1, 1, 1, 0, 0, 0, 0), (30, .getfield 137, 3, 2, 3, 0, 0, 0), (33, .aload_n 0, 1, 0, 0, 0, 0, 0), (34, .getfield 38, 3, 4, 8, 2, 0, 0), (37, .iconst (0), 1, 0, 0, 0, 0, 0), (38, .iaload, 1, 0, 0, 0, 0, 0), (39, .aload_n 0, 1, 0, 0, 0, 0, 0), (40, .getfield 18, 3, 4, 2, 0, 0, 0), (43, .invokestatic 138, 3, 32, 3, 0, 0, 0), (46, .ifCond .ne (5), 3, 51, 0, 0, 0, 0), (49, .iconst (0), 1, 0, 0, 0, 0, 0), (50, .ireturn, 1, 0, 0, 1, 0, 0), (51, .aload_n 0, 1, 0, 0, 0, 0, 0), (52, .getfield 31, 3, 4, 6, 2, 0, 0), (55, .iload_n 2, 1, 2, 0, 0, 0, 0), (56, .aload_n 1, 1, 1, 0, 0, 0, 0), (57, .getfield 137, 3, 2, 3, 0, 0, 0), (60, .iastore, 1, 0, 0, 0, 0, 0), (61, .aload_n 0, 1, 0, 0, 0, 0, 0), (62, .getfield 35, 3, 4, 7, 2, 0, 0), (65, .iconst (0), 1, 0, 0, 0, 0, 0), (66, .iload_n 2, 1, 2, 0, 0, 0, 0), (67, .iconst (1), 1, 0, 0, 0, 1, 0), (68, .iadd, 1, 0, 0, 0, 0, 0), (69, .iastore, 1, 0, 0, 0, 0, 0), (70, .aload_n 0, 1, 0, 0, 0, 0, 0), (71, .getfield 38, 3, 4, 8, 2, 0, 0), (74, .iconst (0), 1, 0, 0, 0, 0, 0), (75, .dup2, 1, 0, 0, 0, 0, 0), (76, .iaload, 1, 0, 0, 0, 0, 0), (77, .aload_n 1, 1, 1, 0, 0, 0, 0), (78, .getfield 137, 3, 2, 3, 0, 0, 0), (81, .invokestatic 142, 3, 34, 1, 0, 0, 0), (84, .ior, 1, 0, 0, 0, 0, 0), (85, .iastore, 1, 0, 0, 0, 0, 0), (86, .aload_n 1, 1, 1, 0, 0, 0, 0), (87, .invokevirtual 146, 3, 1, 1, 1, 0, 0), (90, .iinc 2 (1), 3, 0, 0, 0, 1, 0), (93, .goto (-77), 3, 16, 0, 0, 0, 0), (96, .aload_n 1, 1, 1, 0, 0, 0, 0), (97, .getfield 137, 3, 2, 3, 0, 0, 0), (100, .ifCond .ne (7), 3, 107, 0, 0, 0, 0), (103, .iconst (1), 1, 0, 0, 0, 1, 0), (104, .goto (4), 3, 108, 0, 0, 0, 0), (107, .iconst (0), 1, 0, 0, 0, 0, 0), (108, .ireturn, 1, 0, 0, 1, 0, 0)]
/-- 32: StreamRefuter.canJoin(III)Z -/
def x_t32 : List xR := [(0, .iload_n 0, 1, 0, 0, 0, 0, 0), (1, .ifCond .eq (14), 3, 15, 0, 0, 0, 0), (4, .iload_n 0, 1, 0, 0, 0, 0, 0), (5, .iload_n 2, 1, 2, 0, 0, 0, 0), (6, .if_icmp .gt (9), 3, 15, 0, 0, 0, 0), (9, .iload_n 0, 1, 0, 0, 0, 0, 0), (10, .iload_n 2, 1, 2, 0, 0, 0, 0), (11, .ineg, 1, 0, 0, 0, 0, 0), (12, .if_icmp .ge (5), 3, 17, 0, 0, 0, 0), (15, .iconst (0), 1, 0, 0, 0, 0, 0), (16, .ireturn, 1, 0, 0, 1, 0, 0), (17, .iload_n 1, 1, 1, 0, 0, 0, 0), (18, .iload_n 1, 1, 1, 0, 0, 0, 0), (19, .invokestatic 173, 3, 33, 1, 0, 0, 0), (22, .ior, 1, 0, 0, 0, 0, 0), (23, .iload_n 0, 1, 0, 0, 0, 0, 0), (24, .invokestatic 176, 3, 34, 1, 0, 0, 0), (27, .iand, 1, 0, 0, 0, 0, 0), (28, .ifCond .ne (7), 3, 35, 0, 0, 0, 0), (31, .iconst (1), 1, 0, 0, 0, 1, 0), (32, .goto (4), 3, 36, 0, 0, 0, 0), (35, .iconst (0), 1, 0, 0, 0, 0, 0), (36, .ireturn, 1, 0, 0, 1, 0, 0)]
/-- 33: StreamRefuter.opposites(I)I -/
def x_t33 : List xR := [(0, .iload_n 0, 1, 0, 0, 0, 0, 0), (1, .bipush (16), 2, 0, 0, 0, 16, 0), (3, .ishl, 1, 0, 0, 0, 0, 0), (4, .iload_n 0, 1, 0, 0, 0, 0, 0), (5, .bipush (16), 2, 0, 0, 0, 16, 0), (7, .iushr, 1, 0, 0, 0, 0, 0), (8, .ior, 1, 0, 0, 0, 0, 0), (9, .ireturn, 1, 0, 0, 0, 0, 0)]
/-- 34: StreamRefuter.setOf(I)I -/
def x_t34 : List xR := [(0, .iload_n 0, 1, 0, 0, 0, 0, 0), (1, .ifCond .le (11), 3, 12, 0, 0, 0, 0), (4, .iconst (1), 1, 0, 0, 0, 1, 0), (5, .iload_n 0, 1, 0, 0, 0, 0, 0), (6, .iconst (1), 1, 0, 0, 0, 1, 0), (7, .isub, 1, 0, 0, 0, 0, 0), (8, .ishl, 1, 0, 0, 0, 0, 0), (9, .goto (9), 3, 18, 0, 0, 0, 0), (12, .iconst (1), 1, 0, 0, 0, 1, 0), (13, .bipush (15), 2, 0, 0, 0, 15, 0), (15, .iload_n 0, 1, 0, 0, 0, 0, 0), (16, .isub, 1, 0, 0, 0, 0, 0), (17, .ishl, 1, 0, 0, 0, 0, 0), (18, .ireturn, 1, 0, 0, 0, 0, 0)]
/-- 35: StreamRefuter$PackedNumbers.advance()V -/
def x_t35 : List xR := [(0, .aload_n 0, 1, 0, 0, 0, 0, 0), (1, .getfield 9, 3, 3, 0, 2, 0, 0), (4, .aload_n 0, 1, 0, 0, 0, 0, 0), (5, .getfield 15, 3, 3, 1, 0, 0, 0), (8, .invokevirtual 19, 3, 26, 2, 0, 0, 0), (11, .istore_n 1, 1, 1, 0, 0, 0, 0), (12, .aload_n 0, 1, 0, 0, 0, 0, 0), (13, .aload_n 0, 1, 0, 0, 0, 0, 0), (14, .getfield 15, 3, 3, 1, 0, 0, 0), (17, .iconst (1), 1, 0, 0, 0, 1, 0), (18, .iadd, 1, 0, 0, 0, 0, 0), (19, .putfield 25, 3, 3, 2, 0, 0, 0), (22, .iload_n 1, 1, 1, 0, 0, 0, 0), (23, .iconst (-1), 1, 0, 0, 0, (-1), 0), (24, .if_icmp .ne (13), 3, 37, 0, 0, 0, 0), (27, .aload_n 0, 1, 0, 0, 0, 0, 0), (28, .sipush (20001), 3, 0, 0, 0, 20001, 0), (31, .putfield 28, 3, 3, 3, 0, 0, 0), (34, .goto (36), 3, 70, 0, 0, 0, 0), (37, .iload_n 1, 1, 1, 0, 0, 0, 0), (38, .sipush (128), 3, 0, 0, 0, 128, 0), (41, .if_icmp .ge (24), 3, 65, 0, 0, 0, 0), (44, .aload_n 0, 1, 0, 0, 0, 0, 0), (45, .iload_n 1, 1, 1, 0, 0, 0, 0), (46, .invokestatic 31, 3, 36, 1, 0, 0, 0), (49, .putfield 28, 3, 3, 3, 0, 0, 0), (52, .aload_n 0, 1, 0, 0, 0, 0, 0), (53, .dup, 1, 0, 0, 0, 0, 0), (54, .getfield 15, 3, 3, 1, 0, 0, 0), (57, .iconst (1), 1, 0, 0, 0, 1, 0), (58, .iadd, 1, 0, 0, 0, 0, 0), (59, .putfield 15, 3, 3, 1, 0, 0, 0), (62, .goto (8), 3, 70, 0, 0, 0, 0), (65, .aload_n 0, 1, 0, 0, 0, 0, 0), (66, .iload_n 1, 1, 1, 0, 0, 0, 0), (67, .invokevirtual 34, 3, 37, 2, 0, 0, 0), (70, .return_, 1, 0, 0, 0, 0, 0)]
/-- 36: StreamRefuter$PackedNumbers.meaning(I)I -/
def x_t36 : List xR := [(0, .iload_n 0, 1, 0, 0, 0, 0, 0), (1, .iconst (1), 1, 0, 0, 0, 1, 0), (2, .if_icmp .ne (7), 3, 9, 0, 0, 0, 0), (5, .sipush (20000), 3, 0, 0, 0, 20000, 0), (8, .ireturn, 1, 0, 0, 0, 0, 0), (9, .iload_n 0, 1, 0, 0, 0, 0, 0), (10, .iconst (2), 1, 0, 0, 0, 2, 0), (11, .irem, 1, 0, 0, 0, 0, 0), (12, .ifCond .ne (9), 3, 21, 0, 0, 0, 0), (15, .iload_n 0, 1, 0, 0, 0, 0, 0), (16, .iconst (2), 1, 0, 0, 0, 2, 0), (17, .idiv, 1, 0, 0, 0, 0, 0), (18, .goto (7), 3, 25, 0, 0, 0, 0), (21, .iload_n 0, 1, 0, 0, 0, 0, 0), (22, .iconst (2), 1, 0, 0, 0, 2, 0), (23, .idiv, 1, 0, 0, 0, 0, 0), (24, .ineg, 1, 0, 0, 0, 0, 0), (25, .ireturn, 1, 0, 0, 0, 0, 0)]
/-- 37: StreamRefuter$PackedNumbers.takeTwoBytes(I)V -/
def x_t37 : List xR := [(0, .aload_n 0, 1, 0, 0, 0, 0, 0), (1, .getfield 9, 3, 3, 0, 2, 0, 0), (4, .aload_n 0, 1, 0, 0, 0, 0, 0), (5, .getfield 15, 3, 3, 1, 0, 0, 0), (8, .iconst (1), 1, 0, 0, 0, 1, 0), (9, .iadd, 1, 0, 0, 0, 0, 0), (10, .invokevirtual 19, 3, 26, 2, 0, 0, 0), (13, .istore_n 2, 1, 2, 0, 0, 0, 0), (14, .iload_n 2, 1, 2, 0, 0, 0, 0), (15, .iconst (-1), 1, 0, 0, 0, (-1), 0), (16, .if_icmp .ne (26), 3, 42, 0, 0, 0, 0), (19, .aload_n 0, 1, 0, 0, 0, 0, 0), (20, .aload_n 0, 1, 0, 0, 0, 0, 0), (21, .getfield 9, 3, 3, 0, 2, 0, 0), (24, .invokevirtual 57, 3, 24, 1, 0, 0, 0), (27, .iconst (1), 1, 0, 0, 0, 1, 0), (28, .iadd, 1, 0, 0, 0, 0, 0), (29, .putfield 25, 3, 3, 2, 0, 0, 0), (32, .aload_n 0, 1, 0, 0, 0, 0, 0), (33, .sipush (20001), 3, 0, 0, 0, 20001, 0), (36, .putfield 28, 3, 3, 3, 0, 0, 0), (39, .goto (48), 3, 87, 0, 0, 0, 0), (42, .iload_n 2, 1, 2, 0, 0, 0, 0), (43, .sipush (128), 3, 0, 0, 0, 128, 0), (46, .if_icmp .lt (13), 3, 59, 0, 0, 0, 0), (49, .aload_n 0, 1, 0, 0, 0, 0, 0), (50, .sipush (20000), 3, 0, 0, 0, 20000, 0), (53, .putfield 28, 3, 3, 3, 0, 0, 0), (56, .goto (31), 3, 87, 0, 0, 0, 0), (59, .aload_n 0, 1, 0, 0, 0, 0, 0), (60, .iload_n 1, 1, 1, 0, 0, 0, 0), (61, .sipush (128), 3, 0, 0, 0, 128, 0), (64, .isub, 1, 0, 0, 0, 0, 0), (65, .sipush (128), 3, 0, 0, 0, 128, 0), (68, .iload_n 2, 1, 2, 0, 0, 0, 0), (69, .imul, 1, 0, 0, 0, 0, 0), (70, .iadd, 1, 0, 0, 0, 0, 0), (71, .invokestatic 31, 3, 36, 1, 0, 0, 0), (74, .putfield 28, 3, 3, 3, 0, 0, 0), (77, .aload_n 0, 1, 0, 0, 0, 0, 0), (78, .dup, 1, 0, 0, 0, 0, 0), (79, .getfield 15, 3, 3, 1, 0, 0, 0), (82, .iconst (2), 1, 0, 0, 0, 2, 0), (83, .iadd, 1, 0, 0, 0, 0, 0), (84, .putfield 15, 3, 3, 1, 0, 0, 0), (87, .return_, 1, 0, 0, 0, 0, 0)]
/-- 38: StreamRefuter$Problem.keepClause()V -/
def x_t38 : List xR := [(0, .aload_n 0, 1, 0, 0, 0, 0, 0), (1, .getfield 25, 3, 4, 4, 0, 0, 0), (4, .bipush (63), 2, 0, 0, 0, 63, 0), (6, .if_icmp .lt (4), 3, 10, 0, 0, 0, 0), (9, .return_, 1, 0, 0, 0, 0, 0), (10, .aload_n 0, 1, 0, 0, 0, 0, 0), (11, .dup, 1, 0, 0, 0, 0, 0), (12, .getfield 25, 3, 4, 4, 0, 0, 0), (15, .iconst (1), 1, 0, 0, 0, 1, 0), (16, .iadd, 1, 0, 0, 0, 0, 0), (17, .putfield 25, 3, 4, 4, 0, 0, 0), (20, .aload_n 0, 1, 0, 0, 0, 0, 0), (21, .getfield 35, 3, 4, 7, 2, 0, 0), (24, .aload_n 0, 1, 0, 0, 0, 0, 0), (25, .getfield 25, 3, 4, 4, 0, 0, 0), (28, .aload_n 0, 1, 0, 0, 0, 0, 0), (29, .getfield 35, 3, 4, 7, 2, 0, 0), (32, .iconst (0), 1, 0, 0, 0, 0, 0), (33, .iaload, 1, 0, 0, 0, 0, 0), (34, .iastore, 1, 0, 0, 0, 0, 0), (35, .aload_n 0, 1, 0, 0, 0, 0, 0), (36, .getfield 38, 3, 4, 8, 2, 0, 0), (39, .aload_n 0, 1, 0, 0, 0, 0, 0), (40, .getfield 25, 3, 4, 4, 0, 0, 0), (43, .aload_n 0, 1, 0, 0, 0, 0, 0), (44, .getfield 38, 3, 4, 8, 2, 0, 0), (47, .iconst (0), 1, 0, 0, 0, 0, 0), (48, .iaload, 1, 0, 0, 0, 0, 0), (49, .iastore, 1, 0, 0, 0, 0, 0), (50, .aload_n 0, 1, 0, 0, 0, 0, 0), (51, .getfield 31, 3, 4, 6, 2, 0, 0), (54, .iconst (0), 1, 0, 0, 0, 0, 0), (55, .aload_n 0, 1, 0, 0, 0, 0, 0), (56, .getfield 31, 3, 4, 6, 2, 0, 0), (59, .aload_n 0, 1, 0, 0, 0, 0, 0), (60, .getfield 25, 3, 4, 4, 0, 0, 0), (63, .bipush (6), 2, 0, 0, 0, 6, 0), (65, .imul, 1, 0, 0, 0, 0, 0), (66, .bipush (6), 2, 0, 0, 0, 6, 0), (68, .invokestatic 147, 3, 0, 0, 1, 0, 0), (71, .return_, 1, 0, 0, 0, 0, 0)]
/-- 39: StreamRefuter.adoptDraft()V -/
def x_t39 : List xR := [(0, .aload_n 0, 1, 0, 0, 0, 0, 0), (1, .getfield 35, 3, 0, 5, 2, 0, 0), (4, .astore_n 1, 1, 1, 0, 0, 0, 0), (5, .aload_n 0, 1, 0, 0, 0, 0, 0), (6, .aload_n 0, 1, 0, 0, 0, 0, 0), (7, .getfield 39, 3, 0, 6, 2, 0, 0), (10, .putfield 35, 3, 0, 5, 2, 0, 0), (13, .aload_n 0, 1, 0, 0, 0, 0, 0), (14, .aload_n 1, 1, 1, 0, 0, 0, 0), (15, .putfield 39, 3, 0, 6, 2, 0, 0), (18, .return_, 1, 0, 0, 0, 0, 0)]
/-- 40: StreamRefuter$Tokens.clear()V -/
def x_t40 : List xR := [(0, .aload_n 0, 1, 0, 0, 0, 0, 0), (1, .iconst (0), 1, 0, 0, 0, 0, 0), (2, .putfield 15, 3, 5, 1, 0, 0, 0), (5, .aload_n 0, 1, 0, 0, 0, 0, 0), (6, .iconst (0), 1, 0, 0, 0, 0, 0), (7, .putfield 19, 3, 5, 2, 0, 0, 0), (10, .return_, 1, 0, 0, 0, 0, 0)]
/-- 41: StreamRefuterModel.formula()I -/
def x_t41 : List xR := [(0, .aload_n 0, 1, 0, 0, 0, 0, 0), (1, .aload_n 0, 1, 0, 0, 0, 0, 0), (2, .invokevirtual 178, 3, 42, 1, 0, 0, 0), (5, .putfield 122, 3, 9, 3, 0, 0, 0), (8, .aload_n 0, 1, 0, 0, 0, 0, 0), (9, .aload_n 0, 1, 0, 0, 0, 0, 0), (10, .getfield 122, 3, 9, 3, 0, 0, 0), (13, .ifCond .le (7), 3, 20, 0, 0, 0, 0), (16, .iconst (1), 1, 0, 0, 0, 1, 0), (17, .goto (4), 3, 21, 0, 0, 0, 0), (20, .iconst (0), 1, 0, 0, 0, 0, 0), (21, .putfield 113, 3, 9, 0, 0, 0, 0), (24, .aload_n 0, 1, 0, 0, 0, 0, 0), (25, .getfield 113, 3, 9, 0, 0, 0, 0), (28, .ifCond .le (5), 3, 33, 0, 0, 0, 0), (31, .iconst (0), 1, 0, 0, 0, 0, 0), (32, .ireturn, 1, 0, 0, 0, 0, 0), (33, .aload_n 0, 1, 0, 0, 0, 0, 0), (34, .iconst (1), 1, 0, 0, 0, 1, 0), (35, .putfield 181, 3, 9, 4, 3, 0, 0), (38, .aload_n 0, 1, 0, 0, 0, 0, 0), (39, .aload_n 0, 1, 0, 0, 0, 0, 0), (40, .getfield 152, 3, 9, 20, 0, 0, 0), (43, .putfield 184, 3, 9, 5, 0, 0, 0), (46, .aload_n 0, 1, 0, 0, 0, 0, 0), (47, .aload_n 0, 1, 0, 0, 0, 0, 0), (48, .getfield 135, 3, 9, 18, 0, 0, 0), (51, .putfield 187, 3, 9, 6, 0, 0, 0), (54, .aload_n 0, 1, 0, 0, 0, 0, 0), (55, .aload_n 0, 1, 0, 0, 0, 0, 0), (56, .getfield 135, 3, 9, 18, 0, 0, 0), (59, .putfield 190, 3, 9, 7, 0, 0, 0), (62, .iconst (1), 1, 0, 0, 0, 1, 0), (63, .istore_n 1, 1, 1, 0, 0, 0, 0), (64, .iload_n 1, 1, 1, 0, 0, 0, 0), (65, .aload_n 0, 1, 0, 0, 0, 0, 0), (66, .getfield 187, 3, 9, 6, 0, 0, 0), (69, .if_icmp .gt (15), 3, 84, 0, 0, 0, 0), (72, .aload_n 0, 1, 0, 0, 0, 0, 0), (73, .iload_n 1, 1, 1, 0, 0, 0, 0), (74, .iload_n 1, 1, 1, 0, 0, 0, 0), (75, .invokevirtual 193, 3, 54, 3, 0, 0, 0), (78, .iinc 1 (1), 3, 0, 0, 0, 1, 0), (81, .goto (-17), 3, 64, 0, 0, 0, 0), (84, .aload_n 0, 1, 0, 0, 0, 0, 0), (85, .iconst (0), 1, 0, 0, 0, 0, 0), (86, .putfield 197, 3, 9, 10, 3, 0, 0), (89, .aload_n 0, 1, 0, 0, 0, 0, 0), (90, .iconst (0), 1, 0, 0, 0, 0, 0), (91, .putfield 200, 3, 9, 11, 0, 0, 0), (94, .aload_n 0, 1, 0, 0, 0, 0, 0), (95, .iconst (0), 1, 0, 0, 0, 0, 0), (96, .putfield 203, 3, 9, 24, 0, 0, 0), (99, .aload_n 0, 1, 0, 0, 0, 0, 0), (100, .invokevirtual 206, 3, 55, 1, 0, 0, 0), (103, .aload_n 0, 1, 0, 0, 0, 0, 0), (104, .getfield 187, 3, 9, 6, 0, 0, 0), (107, .ireturn, 1, 0, 0, 0, 0, 0)]
/-- 42: StreamRefuterModel.readFormula()I -/
def x_t42 : List xR := [(0, .aload_n 0, 1, 0, 0, 0, 0, 0), (1, .iconst (0), 1, 0, 0, 0, 0, 0), (2, .putfield 125, 3, 9, 16, 0, 0, 0), (5, .aload_n 0, 1, 0, 0, 0, 0, 0), (6, .iconst (0), 1, 0, 0, 0, 0, 0), (7, .putfield 138, 3, 9, 19, 3, 0, 0), (10, .aload_n 0, 1, 0, 0, 0, 0, 0), (11, .invokevirtual 172, 3, 43, 1, 0, 0, 0), (14, .istore_n 1, 1, 1, 0, 0, 0, 0), (15, .aload_n 0, 1, 0, 0, 0, 0, 0), (16, .getfield 135, 3, 9, 18, 0, 0, 0), (19, .istore_n 2, 1, 2, 0, 0, 0, 0), (20, .iconst (1), 1, 0, 0, 0, 1, 0), (21, .istore_n 3, 1, 3, 0, 0, 0, 0), (22, .iload_n 3, 1, 3, 0, 0, 0, 0), (23, .iload_n 2, 1, 2, 0, 0, 0, 0), (24, .if_icmp .gt (19), 3, 43, 0, 0, 0, 0), (27, .iload_n 1, 1, 1, 0, 0, 0, 0), (28, .ifCond .ne (15), 3, 43, 0, 0, 0, 0), (31, .aload_n 0, 1, 0, 0, 0, 0, 0), (32, .iload_n 3, 1, 3, 0, 0, 0, 0), (33, .invokevirtual 175, 3, 51, 2, 0, 0, 0), (36, .istore_n 1, 1, 1, 0, 0, 0, 0), (37, .iinc 3 (1), 3, 0, 0, 0, 1, 0), (40, .goto (-18), 3, 22, 0, 0, 0, 0), (43, .iload_n 1, 1, 1, 0, 0, 0, 0), (44, .ifCond .ne (17), 3, 61, 0, 0, 0, 0), (47, .aload_n 0, 1, 0, 0, 0, 0, 0), (48, .invokevirtual 142, 3, 44, 1, 0, 0, 0), (51, .ifCond .eq (10), 3, 61, 0, 0, 0, 0), (54, .aload_n 0, 1, 0, 0, 0, 0, 0), (55, .getfield 132, 3, 9, 17, 0, 0, 0), (58, .iconst (1), 1, 0, 0, 0, 1, 0), (59, .iadd, 1, 0, 0, 0, 0, 0), (60, .ireturn, 1, 0, 0, 0, 0, 0), (61, .aload_n 0, 1, 0, 0, 0, 0, 0), (62, .iload_n 2, 1, 2, 0, 0, 0, 0), (63, .putfield 135, 3, 9, 18, 0, 0, 0), (66, .iload_n 1, 1, 1, 0, 0, 0, 0), (67, .ireturn, 1, 0, 0, 0, 0, 0)]
/-- 43: StreamRefuterModel.heading()I -/
def x_t43 : List xR := [(0, .aload_n 0, 1, 0, 0, 0, 0, 0), (1, .invokevirtual 142, 3, 44, 1, 0, 0, 0), (4, .ifCond .eq (12), 3, 16, 0, 0, 0, 0), (7, .aload_n 0, 1, 0, 0, 0, 0, 0), (8, .bipush (112), 2, 0, 0, 0, 112, 0), (10, .invokevirtual 162, 3, 46, 2, 0, 0, 0), (13, .ifCond .ne (10), 3, 23, 0, 0, 0, 0), (16, .aload_n 0, 1, 0, 0, 0, 0, 0), (17, .getfield 132, 3, 9, 17, 0, 0, 0), (20, .iconst (1), 1, 0, 0, 0, 1, 0), (21, .iadd, 1, 0, 0, 0, 0, 0), (22, .ireturn, 1, 0, 0, 0, 0, 0), (23, .aload_n 0, 1, 0, 0, 0, 0, 0), (24, .invokevirtual 142, 3, 44, 1, 0, 0, 0), (27, .ifCond .eq (10), 3, 37, 0, 0, 0, 0), (30, .aload_n 0, 1, 0, 0, 0, 0, 0), (31, .invokevirtual 165, 3, 47, 1, 0, 0, 0), (34, .ifCond .ne (10), 3, 44, 0, 0, 0, 0), (37, .aload_n 0, 1, 0, 0, 0, 0, 0), (38, .getfield 132, 3, 9, 17, 0, 0, 0), (41, .iconst (1), 1, 0, 0, 0, 1, 0), (42, .iadd, 1, 0, 0, 0, 0, 0), (43, .ireturn, 1, 0, 0, 0, 0, 0), (44, .aload_n 0, 1, 0, 0, 0, 0, 0), (45, .iconst (1), 1, 0, 0, 0, 1, 0), (46, .bipush (16), 2, 0, 0, 0, 16, 0), (48, .invokevirtual 168, 3, 48, 3, 0, 0, 0), (51, .istore_n 1, 1, 1, 0, 0, 0, 0), (52, .aload_n 0, 1, 0, 0, 0, 0, 0), (53, .aload_n 0, 1, 0, 0, 0, 0, 0), (54, .getfield 135, 3, 9, 18, 0, 0, 0), (57, .putfield 152, 3, 9, 20, 0, 0, 0), (60, .iload_n 1, 1, 1, 0, 0, 0, 0), (61, .ifCond .le (7), 3, 68, 0, 0, 0, 0), (64, .iload_n 1, 1, 1, 0, 0, 0, 0), (65, .goto (10), 3, 75, 0, 0, 0, 0), (68, .aload_n 0, 1, 0, 0, 0, 0, 0), (69, .iconst (0), 1, 0, 0, 0, 0, 0), (70, .bipush (40), 2, 0, 0, 0, 40, 0), (72, .invokevirtual 168, 3, 48, 3, 0, 0, 0), (75, .ireturn, 1, 0, 0, 0, 0, 0)]
/-- 44: StreamRefuterModel.word()Z -/
def x_t44 : List xR := [(0, .aload_n 0, 1, 0, 0, 0, 0, 0), (1, .getfield 125, 3, 9, 16, 0, 0, 0), (4, .aload_n 0, 1, 0, 0, 0, 0, 0), (5, .getfield 117, 3, 9, 1, 0, 0, 0), (8, .if_icmp .ge (31), 3, 39, 0, 0, 0, 0), (11, .aload_n 0, 1, 0, 0, 0, 0, 0), (12, .getfield 7, 3, 9, 2, 2, 0, 0), (15, .aload_n 0, 1, 0, 0, 0, 0, 0), (16, .getfield 125, 3, 9, 16, 0, 0, 0), (19, .iaload, 1, 0, 0, 0, 0, 0), (20, .invokestatic 128, 3, 45, 1, 0, 0, 0), (23, .ifCond .eq (16), 3, 39, 0, 0, 0, 0), (26, .aload_n 0, 1, 0, 0, 0, 0, 0), (27, .dup, 1, 0, 0, 0, 0, 0), (28, .getfield 125, 3, 9, 16, 0, 0, 0), (31, .iconst (1), 1, 0, 0, 0, 1, 0), (32, .iadd, 1, 0, 0, 0, 0, 0), (33, .putfield 125, 3, 9, 16, 0, 0, 0), (36, .goto (-36), 3, 0, 0, 0, 0, 0), (39, .aload_n 0, 1, 0, 0, 0, 0, 0), (40, .aload_n 0, 1, 0, 0, 0, 0, 0), (41, .getfield 125, 3, 9, 16, 0, 0, 0), (44, .putfield 132, 3, 9, 17, 0, 0, 0), (47, .aload_n 0, 1, 0, 0, 0, 0, 0), (48, .getfield 125, 3, 9, 16, 0, 0, 0), (51, .aload_n 0, 1, 0, 0, 0, 0, 0), (52, .getfield 117, 3, 9, 1, 0, 0, 0), (55, .if_icmp .ge (31), 3, 86, 0, 0, 0, 0), (58, .aload_n 0, 1, 0, 0, 0, 0, 0), (59, .getfield 7, 3, 9, 2, 2, 0, 0), (62, .aload_n 0, 1, 0, 0, 0, 0, 0), (63, .getfield 125, 3, 9, 16, 0, 0, 0), (66, .iaload, 1, 0, 0, 0, 0, 0), (67, .invokestatic 128, 3, 45, 1, 0, 0, 0), (70, .ifCond .ne (16), 3, 86, 0, 0, 0, 0), (73, .aload_n 0, 1, 0, 0, 0, 0, 0), (74, .dup, 1, 0, 0, 0, 0, 0), (75, .getfield 125, 3, 9, 16, 0, 0, 0), (78, .iconst (1), 1, 0, 0, 0, 1, 0), (79, .iadd, 1, 0, 0, 0, 0, 0), (80, .putfield 125, 3, 9, 16, 0, 0, 0), (83, .goto (-36), 3, 47, 0, 0, 0, 0), (86, .aload_n 0, 1, 0, 0, 0, 0, 0), (87, .getfield 132, 3, 9, 17, 0, 0, 0), (90, .aload_n 0, 1, 0, 0, 0, 0, 0), (91, .getfield 125, 3, 9, 16, 0, 0, 0), (94, .if_icmp .ge (7), 3, 101, 0, 0, 0, 0), (97, .iconst (1), 1, 0, 0, 0, 1, 0), (98, .goto (4), 3, 102, 0, 0, 0, 0), (101, .iconst (0), 1, 0, 0, 0, 0, 0), (102, .ireturn, 1, 0, 0, 1, 0, 0)]
/-- 45: StreamRefuterModel.isGap(I)Z -/
def x_t45 : List xR := [(0, .iload_n 0, 1, 0, 0, 0, 0, 0), (1, .bipush (32), 2, 0, 0, 0, 32, 0), (3, .if_icmp .eq (9), 3, 12, 0, 0, 0, 0), (6, .iload_n 0, 1, 0, 0, 0, 0, 0), (7, .bipush (10), 2, 0, 0, 0, 10, 0), (9, .if_icmp .ne (7), 3, 16, 0, 0, 0, 0), (12, .iconst (1), 1, 0, 0, 0, 1, 0), (13, .goto (4), 3, 17, 0, 0, 0, 0), (16, .iconst (0), 1, 0, 0, 0, 0, 0), (17, .ireturn, 1, 0, 0, 1, 0, 0)]
/-- 46: StreamRefuterModel.isLetter(I)Z -/
def x_t46 : List xR := [(0, .aload_n 0, 1, 0, 0, 0, 0, 0), (1, .getfield 125, 3, 9, 16, 0, 0, 0), (4, .aload_n 0, 1, 0, 0, 0, 0, 0), (5, .getfield 132, 3, 9, 17, 0, 0, 0), (8, .iconst (1), 1, 0, 0, 0, 1, 0), (9, .iadd, 1, 0, 0, 0, 0, 0), (10, .if_icmp .ne (20), 3, 30, 0, 0, 0, 0), (13, .aload_n 0, 1, 0, 0, 0, 0, 0), (14, .getfield 7, 3, 9, 2, 2, 0, 0), (17, .aload_n 0, 1, 0, 0, 0, 0, 0), (18, .getfield 132, 3, 9, 17, 0, 0, 0), (21, .iaload, 1, 0, 0, 0, 0, 0), (22, .iload_n 1, 1, 1, 0, 0, 0, 0), (23, .if_icmp .ne (7), 3, 30, 0, 0, 0, 0), (26, .iconst (1), 1, 0, 0, 0, 1, 0), (27, .goto (4), 3, 31, 0, 0, 0, 0), (30, .iconst (0), 1, 0, 0, 0, 0, 0), (31, .ireturn, 1, 0, 0, 1, 0, 0)]
/-- 47: StreamRefuterModel.isCnf()Z -/
def x_t47 : List xR := [(0, .aload_n 0, 1, 0, 0, 0, 0, 0), (1, .getfield 125, 3, 9, 16, 0, 0, 0), (4, .aload_n 0, 1, 0, 0, 0, 0, 0), (5, .getfield 132, 3, 9, 17, 0, 0, 0), (8, .iconst (3), 1, 0, 0, 0, 3, 0), (9, .iadd, 1, 0, 0, 0, 0, 0), (10, .if_icmp .ne (53), 3, 63, 0, 0, 0, 0), (13, .aload_n 0, 1, 0, 0, 0, 0, 0), (14, .getfield 7, 3, 9, 2, 2, 0, 0), (17, .aload_n 0, 1, 0, 0, 0, 0, 0), (18, .getfield 132, 3, 9, 17, 0, 0, 0), (21, .iaload, 1, 0, 0, 0, 0, 0), (22, .bipush (99), 2, 0, 0, 0, 99, 0), (24, .if_icmp .ne (39), 3, 63, 0, 0, 0, 0), (27, .aload_n 0, 1, 0, 0, 0, 0, 0), (28, .getfield 7, 3, 9, 2, 2, 0, 0), (31, .aload_n 0, 1, 0, 0, 0, 0, 0), (32, .getfield 132, 3, 9, 17, 0, 0, 0), (35, .iconst (1), 1, 0, 0, 0, 1, 0), (36, .iadd, 1, 0, 0, 0, 0, 0), (37, .iaload, 1, 0, 0, 0, 0, 0), (38, .bipush (110), 2, 0, 0, 0, 110, 0), (40, .if_icmp .ne (23), 3, 63, 0, 0, 0, 0), (43, .aload_n 0, 1, 0, 0, 0, 0, 0), (44, .getfield 7, 3, 9, 2, 2, 0, 0), (47, .aload_n 0, 1, 0, 0, 0, 0, 0), (48, .getfield 132, 3, 9, 17, 0, 0, 0), (51, .iconst (2), 1, 0, 0, 0, 2, 0), (52, .iadd, 1, 0, 0, 0, 0, 0), (53, .iaload, 1, 0, 0, 0, 0, 0), (54, .bipush (102), 2, 0, 0, 0, 102, 0), (56, .if_icmp .ne (7), 3, 63, 0, 0, 0, 0), (59, .iconst (1), 1, 0, 0, 0, 1, 0), (60, .goto (4), 3, 64, 0, 0, 0, 0), (63, .iconst (0), 1, 0, 0, 0, 0, 0), (64, .ireturn, 1, 0, 0, 1, 0, 0)]
/-- 48: StreamRefuterModel.within(II)I -/
def x_t48 : List xR := [(0, .aload_n 0, 1, 0, 0, 0, 0, 0), (1, .invokevirtual 155, 3, 49, 1, 0, 0, 0), (4, .istore_n 3, 1, 3, 0, 0, 0, 0), (5, .iload_n 3, 1, 3, 0, 0, 0, 0), (6, .ifCond .le (7), 3, 13, 0, 0, 0, 0), (9, .iload_n 3, 1, 3, 0, 0, 0, 0), (10, .goto (29), 3, 39, 0, 0, 0, 0), (13, .aload_n 0, 1, 0, 0, 0, 0, 0), (14, .getfield 135, 3, 9, 18, 0, 0, 0), (17, .iload_n 1, 1, 1, 0, 0, 0, 0), (18, .if_icmp .lt (11), 3, 29, 0, 0, 0, 0), (21, .aload_n 0, 1, 0, 0, 0, 0, 0), (22, .getfield 135, 3, 9, 18, 0, 0, 0), (25, .iload_n 2, 1, 2, 0, 0, 0, 0), (26, .if_icmp .le (12), 3, 38, 0, 0, 0, 0), (29, .aload_n 0, 1, 0, 0, 0, 0, 0), (30, .getfield 132, 3, 9, 17, 0, 0, 0), (33, .iconst (1), 1, 0, 0, 0, 1, 0), (34, .iadd, 1, 0, 0, 0, 0, 0), (35, .goto (4), 3, 39, 0, 0, 0, 0), (38, .iconst (0), 1, 0, 0, 0, 0, 0), (39, .ireturn, 1, 0, 0, 0, 0, 0)]
/-- 49: StreamRefuterModel.next()I -/
def x_t49 : List xR := [(0, .aload_n 0, 1, 0, 0, 0, 0, 0), (1, .getfield 138, 3, 9, 19, 0, 0, 0), (4, .ifCond .ne (37), 3, 41, 0, 0, 0, 0), (7, .aload_n 0, 1, 0, 0, 0, 0, 0), (8, .invokevirtual 142, 3, 44, 1, 0, 0, 0), (11, .ifCond .ne (12), 3, 23, 0, 0, 0, 0), (14, .aload_n 0, 1, 0, 0, 0, 0, 0), (15, .getfield 117, 3, 9, 1, 0, 0, 0), (18, .iconst (1), 1, 0, 0, 0, 1, 0), (19, .iadd, 1, 0, 0, 0, 0, 0), (20, .goto (20), 3, 40, 0, 0, 0, 0), (23, .aload_n 0, 1, 0, 0, 0, 0, 0), (24, .invokevirtual 146, 3, 50, 1, 0, 0, 0), (27, .ifCond .eq (7), 3, 34, 0, 0, 0, 0), (30, .iconst (0), 1, 0, 0, 0, 0, 0), (31, .goto (9), 3, 40, 0, 0, 0, 0), (34, .aload_n 0, 1, 0, 0, 0, 0, 0), (35, .getfield 132, 3, 9, 17, 0, 0, 0), (38, .iconst (1), 1, 0, 0, 0, 1, 0), (39, .iadd, 1, 0, 0, 0, 0, 0), (40, .ireturn, 1, 0, 0, 0, 0, 0), (41, .aload_n 0, 1, 0, 0, 0, 0, 0), (42, .aload_n 0, 1, 0, 0, 0, 0, 0), (43, .getfield 125, 3, 9, 16, 0, 0, 0), (46, .putfield 132, 3, 9, 17, 0, 0, 0), (49, .aload_n 0, 1, 0, 0, 0, 0, 0), (50, .getfield 125, 3, 9, 16, 0, 0, 0), (53, .aload_n 0, 1, 0, 0, 0, 0, 0), (54, .getfield 117, 3, 9, 1, 0, 0, 0), (57, .if_icmp .eq (30), 3, 87, 0, 0, 0, 0), (60, .aload_n 0, 1, 0, 0, 0, 0, 0), (61, .getfield 7, 3, 9, 2, 2, 0, 0), (64, .aload_n 0, 1, 0, 0, 0, 0, 0), (65, .getfield 125, 3, 9, 16, 0, 0, 0), (68, .iaload, 1, 0, 0, 0, 0, 0), (69, .bipush (127), 2, 0, 0, 0, 127, 0), (71, .if_icmp .le (23), 3, 94, 0, 0, 0, 0), (74, .aload_n 0, 1, 0, 0, 0, 0, 0), (75, .getfield 125, 3, 9, 16, 0, 0, 0), (78, .iconst (1), 1, 0, 0, 0, 1, 0), (79, .iadd, 1, 0, 0, 0, 0, 0), (80, .aload_n 0, 1, 0, 0, 0, 0, 0), (81, .getfield 117, 3, 9, 1, 0, 0, 0), (84, .if_icmp .ne (10), 3, 94, 0, 0, 0, 0), (87, .aload_n 0, 1, 0, 0, 0, 0, 0), (88, .getfield 117, 3, 9, 1, 0, 0, 0), (91, .iconst (1), 1, 0, 0, 0, 1, 0), (92, .iadd, 1, 0, 0, 0, 0, 0), (93, .ireturn, 1, 0, 0, 0, 0, 0), (94, .aload_n 0, 1, 0, 0, 0, 0, 0), (95, .getfield 7, 3, 9, 2, 2, 0, 0), (98, .aload_n 0, 1, 0, 0, 0, 0, 0), (99, .getfield 125, 3, 9, 16, 0, 0, 0), (102, .iaload, 1, 0, 0, 0, 0, 0), (103, .bipush (127), 2, 0, 0, 0, 127, 0), (105, .if_icmp .le (26), 3, 131, 0, 0, 0, 0), (108, .aload_n 0, 1, 0, 0, 0, 0, 0), (109, .getfield 7, 3, 9, 2, 2, 0, 0), (112, .aload_n 0, 1, 0, 0, 0, 0, 0), (113, .getfield 125, 3, 9, 16, 0, 0, 0), (116, .iconst (1), 1, 0, 0, 0, 1, 0), (117, .iadd, 1, 0, 0, 0, 0, 0), (118, .iaload, 1, 0, 0, 0, 0, 0), (119, .bipush (127), 2, 0, 0, 0, 127, 0), (121, .if_icmp .le (10), 3, 131, 0, 0, 0, 0), (124, .aload_n 0, 1, 0, 0, 0, 0, 0), (125, .getfield 125, 3, 9, 16, 0, 0, 0), (128, .iconst (1), 1, 0, 0, 0, 1, 0), (129, .iadd, 1, 0, 0, 0, 0, 0), (130, .ireturn, 1, 0, 0, 0, 0, 0), (131, .aload_n 0, 1, 0, 0, 0, 0, 0), (132, .getfield 7, 3, 9, 2, 2, 0, 0), (135, .aload_n 0, 1, 0, 0, 0, 0, 0), (136, .getfield 125, 3, 9, 16, 0, 0, 0), (139, .iaload, 1, 0, 0, 0, 0, 0), (140, .sipush (128), 3, 0, 0, 0, 128, 0), (143, .if_icmp .ge (15), 3, 158, 0, 0, 0, 0), (146, .aload_n 0, 1, 0, 0, 0, 0, 0), (147, .getfield 7, 3, 9, 2, 2, 0, 0), (150, .aload_n 0, 1, 0, 0, 0, 0, 0), (151, .getfield 125, 3, 9, 16, 0, 0, 0), (154, .iaload, 1, 0, 0, 0, 0, 0), (155, .goto (32), 3, 187, 0, 0, 0, 0), (158, .aload_n 0, 1, 0, 0, 0, 0, 0), (159, .getfield 7, 3, 9, 2, 2, 0, 0), (162, .aload_n 0, 1, 0, 0, 0, 0, 0), (163, .getfield 125, 3, 9, 16, 0, 0, 0), (166, .iaload, 1, 0, 0, 0, 0, 0), (167, .sipush (128), 3, 0, 0, 0, 128, 0), (170, .isub, 1, 0, 0, 0, 0, 0), (171, .sipush (128), 3, 0, 0, 0, 128, 0), (174, .aload_n 0, 1, 0, 0, 0, 0, 0), (175, .getfield 7, 3, 9, 2, 2, 0, 0), (178, .aload_n 0, 1, 0, 0, 0, 0, 0), (179, .getfield 125, 3, 9, 16, 0, 0, 0), (182, .iconst (1), 1, 0, 0, 0, 1, 0), (183, .iadd, 1, 0, 0, 0, 0, 0), (184, .iaload, 1, 0, 0, 0, 0, 0), (185, .imul, 1, 0, 0, 0, 0, 0), (186, .iadd, 1, 0, 0, 0, 0, 0), (187, .istore_n 1, 1, 1, 0, 0, 0, 0), (188, .aload_n 0, 1, 0, 0, 0, 0, 0), (189, .aload_n 0, 1, 0, 0, 0, 0, 0), (190, .getfield 7, 3, 9, 2, 2, 0, 0), (193, .aload_n 0, 1, 0, 0, 0, 0, 0), (194, .getfield 125, 3, 9, 16, 0, 0, 0), (197, .iaload, 1, 0, 0, 0, 0, 0), (198, .sipush (128), 3, 0, 0, 0, 128, 0), (201, .if_icmp .ge (12), 3, 213, 0, 0, 0, 0), (204, .aload_n 0, 1, 0, 0, 0, 0, 0), (205, .getfield 125, 3, 9, 16, 0, 0, 0), (208, .iconst (1), 1, 0, 0, 0, 1, 0), (209, .iadd, 1, 0, 0, 0, 0, 0), (210, .goto (9), 3, 219, 0, 0, 0, 0), (213, .aload_n 0, 1, 0, 0, 0, 0, 0), (214, .getfield 125, 3, 9, 16, 0, 0, 0), (217, .iconst (2), 1, 0, 0, 0, 2, 0), (218, .iadd, 1, 0, 0, 0, 0, 0), (219, .putfield 125, 3, 9, 16, 0, 0, 0), (222, .aload_n 0, 1, 0, 0, 0, 0, 0), (223, .iload_n 1, 1, 1, 0, 0, 0, 0), (224, .iconst (1), 1, 0, 0, 0, 1, 0), (225, .if_icmp .ne (9), 3, 234, 0, 0, 0, 0), (228, .sipush (9999), 3, 0, 0, 0, 9999, 0), (231, .goto (19), 3, 250, 0, 0, 0, 0), (234, .iload_n 1, 1, 1, 0, 0, 0, 0), (235, .iconst (2), 1, 0, 0, 0, 2, 0), (236, .irem, 1, 0, 0, 0, 0, 0), (237, .ifCond .ne (9), 3, 246, 0, 0, 0, 0), (240, .iload_n 1, 1, 1, 0, 0, 0, 0), (241, .iconst (2), 1, 0, 0, 0, 2, 0), (242, .idiv, 1, 0, 0, 0, 0, 0), (243, .goto (7), 3, 250, 0, 0, 0, 0), (246, .iload_n 1, 1, 1, 0, 0, 0, 0), (247, .iconst (2), 1, 0, 0, 0, 2, 0), (248, .idiv, 1, 0, 0, 0, 0, 0), (249, .ineg, 1, 0, 0, 0, 0, 0), (250, .putfield 135, 3, 9, 18, 0, 0, 0), (253, .iconst (0), 1, 0, 0, 0, 0, 0), (254, .ireturn, 1, 0, 0, 0, 0, 0)]
/-- 50: StreamRefuterModel.isNumber()Z -/
def x_t50 : List xR := [(0, .aload_n 0, 1, 0, 0, 0, 0, 0), (1, .getfield 7, 3, 9, 2, 2, 0, 0), (4, .aload_n 0, 1, 0, 0, 0, 0, 0), (5, .getfield 132, 3, 9, 17, 0, 0, 0), (8, .iaload, 1, 0, 0, 0, 0, 0), (9, .bipush (45), 2, 0, 0, 0, 45, 0), (11, .if_icmp .ne (12), 3, 23, 0, 0, 0, 0), (14, .aload_n 0, 1, 0, 0, 0, 0, 0), (15, .getfield 132, 3, 9, 17, 0, 0, 0), (18, .iconst (1), 1, 0, 0, 0, 1, 0), (19, .iadd, 1, 0, 0, 0, 0, 0), (20, .goto (7), 3, 27, 0, 0, 0, 0), (23, .aload_n 0, 1, 0, 0, 0, 0, 0), (24, .getfield 132, 3, 9, 17, 0, 0, 0), (27, .istore_n 1, 1, 1, 0, 0, 0, 0), (28, .aload_n 0, 1, 0, 0, 0, 0, 0), (29, .getfield 125, 3, 9, 16, 0, 0, 0), (32, .iload_n 1, 1, 1, 0, 0, 0, 0), (33, .isub, 1, 0, 0, 0, 0, 0), (34, .istore_n 2, 1, 2, 0, 0, 0, 0), (35, .iload_n 2, 1, 2, 0, 0, 0, 0), (36, .ifCond .le (12), 3, 48, 0, 0, 0, 0), (39, .iload_n 2, 1, 2, 0, 0, 0, 0), (40, .iconst (5), 1, 0, 0, 0, 5, 0), (41, .if_icmp .ge (7), 3, 48, 0, 0, 0, 0), (44, .iconst (1), 1, 0, 0, 0, 1, 0), (45, .goto (4), 3, 49, 0, 0, 0, 0), (48, .iconst (0), 1, 0, 0, 0, 0, 0), (49, .istore_n 3, 1, 3, 0, 0, 0, 0), (50, .aload_n 0, 1, 0, 0, 0, 0, 0), (51, .iconst (0), 1, 0, 0, 0, 0, 0), (52, .putfield 135, 3, 9, 18, 0, 0, 0), (55, .iload_n 1, 1, 1, 0, 0, 0, 0), (56, .istore 4, 2, 0, 0, 0, 0, 0), (58, .iload 4, 2, 0, 0, 0, 0, 0), (60, .aload_n 0, 1, 0, 0, 0, 0, 0), (61, .getfield 125, 3, 9, 16, 0, 0, 0), (64, .if_icmp .ge (65), 3, 129, 0, 0, 0, 0), (67, .iload_n 3, 1, 3, 0, 0, 0, 0), (68, .ifCond .eq (61), 3, 129, 0, 0, 0, 0), (71, .aload_n 0, 1, 0, 0, 0, 0, 0), (72, .getfield 7, 3, 9, 2, 2, 0, 0), (75, .iload 4, 2, 0, 0, 0, 0, 0), (77, .iaload, 1, 0, 0, 0, 0, 0), (78, .bipush (48), 2, 0, 0, 0, 48, 0), (80, .if_icmp .lt (19), 3, 99, 0, 0, 0, 0), (83, .aload_n 0, 1, 0, 0, 0, 0, 0), (84, .getfield 7, 3, 9, 2, 2, 0, 0), (87, .iload 4, 2, 0, 0, 0, 0, 0), (89, .iaload, 1, 0, 0, 0, 0, 0), (90, .bipush (57), 2, 0, 0, 0, 57, 0), (92, .if_icmp .gt (7), 3, 99, 0, 0, 0, 0), (95, .iconst (1), 1, 0, 0, 0, 1, 0), (96, .goto (4), 3, 100, 0, 0, 0, 0), (99, .iconst (0), 1, 0, 0, 0, 0, 0), (100, .istore_n 3, 1, 3, 0, 0, 0, 0), (101, .aload_n 0, 1, 0, 0, 0, 0, 0), (102, .bipush (10), 2, 0, 0, 0, 10, 0), (104, .aload_n 0, 1, 0, 0, 0, 0, 0), (105, .getfield 135, 3, 9, 18, 0, 0, 0), (108, .imul, 1, 0, 0, 0, 0, 0), (109, .aload_n 0, 1, 0, 0, 0, 0, 0), (110, .getfield 7, 3, 9, 2, 2, 0, 0), (113, .iload 4, 2, 0, 0, 0, 0, 0), (115, .iaload, 1, 0, 0, 0, 0, 0), (116, .iadd, 1, 0, 0, 0, 0, 0), (117, .bipush (48), 2, 0, 0, 0, 48, 0), (119, .isub, 1, 0, 0, 0, 0, 0), (120, .putfield 135, 3, 9, 18, 0, 0, 0), (123, .iinc 4 (1), 3, 0, 0, 0, 1, 0), (126, .goto (-68), 3, 58, 0, 0, 0, 0), (129, .iload_n 3, 1, 3, 0, 0, 0, 0), (130, .ifCond .eq (31), 3, 161, 0, 0, 0, 0), (133, .aload_n 0, 1, 0, 0, 0, 0, 0), (134, .getfield 7, 3, 9, 2, 2, 0, 0), (137, .iload_n 1, 1, 1, 0, 0, 0, 0), (138, .iaload, 1, 0, 0, 0, 0, 0), (139, .bipush (48), 2, 0, 0, 0, 48, 0), (141, .if_icmp .ne (16), 3, 157, 0, 0, 0, 0), (144, .aload_n 0, 1, 0, 0, 0, 0, 0), (145, .getfield 125, 3, 9, 16, 0, 0, 0), (148, .aload_n 0, 1, 0, 0, 0, 0, 0), (149, .getfield 132, 3, 9, 17, 0, 0, 0), (152, .iconst (1), 1, 0, 0, 0, 1, 0), (153, .iadd, 1, 0, 0, 0, 0, 0), (154, .if_icmp .ne (7), 3, 161, 0, 0, 0, 0), (157, .iconst (1), 1, 0, 0, 0, 1, 0), (158, .goto (4), 3, 162, 0, 0, 0, 0), (161, .iconst (0), 1, 0, 0, 0, 0, 0), (162, .istore_n 3, 1, 3, 0, 0, 0, 0), (163, .aload_n 0, 1, 0, 0, 0, 0, 0), (164, .iload_n 1, 1, 1, 0, 0, 0, 0), (165, .aload_n 0, 1, 0, 0, 0, 0, 0), (166, .getfield 132, 3, 9, 17, 0, 0, 0), (169, .if_icmp .le (11), 3, 180, 0, 0, 0, 0), (172, .aload_n 0, 1, 0, 0, 0, 0, 0), (173, .getfield 135, 3, 9, 18, 0, 0, 0), (176, .ineg, 1, 0, 0, 0, 0, 0), (177, .goto (7), 3, 184, 0, 0, 0, 0), (180, .aload_n 0, 1, 0, 0, 0, 0, 0), (181, .getfield 135, 3, 9, 18, 0, 0, 0), (184, .putfield 135, 3, 9, 18, 0, 0, 0), (187, .iload_n 3, 1, 3, 0, 0, 0, 0), (188, .ireturn, 1, 0, 0, 1, 0, 0)]
/-- 51: StreamRefuterModel.clause(I)I -/
def x_t51 : List xR := [(0, .aload_n 0, 1, 0, 0, 0, 0, 0), (1, .getfield 35, 3, 9, 22, 2, 0, 0), (4, .iload_n 1, 1, 1, 0, 0, 0, 0), (5, .iconst (0), 1, 0, 0, 0, 0, 0), (6, .iastore, 1, 0, 0, 0, 0, 0), (7, .aload_n 0, 1, 0, 0, 0, 0, 0), (8, .invokevirtual 155, 3, 49, 1, 0, 0, 0), (11, .istore_n 2, 1, 2, 0, 0, 0, 0), (12, .iload_n 2, 1, 2, 0, 0, 0, 0), (13, .ifCond .ne (63), 3, 76, 0, 0, 0, 0), (16, .aload_n 0, 1, 0, 0, 0, 0, 0), (17, .getfield 135, 3, 9, 18, 0, 0, 0), (20, .ifCond .eq (56), 3, 76, 0, 0, 0, 0), (23, .aload_n 0, 1, 0, 0, 0, 0, 0), (24, .iload_n 1, 1, 1, 0, 0, 0, 0), (25, .invokevirtual 159, 3, 52, 2, 0, 0, 0), (28, .ifCond .ne (10), 3, 38, 0, 0, 0, 0), (31, .aload_n 0, 1, 0, 0, 0, 0, 0), (32, .getfield 132, 3, 9, 17, 0, 0, 0), (35, .iconst (1), 1, 0, 0, 0, 1, 0), (36, .iadd, 1, 0, 0, 0, 0, 0), (37, .ireturn, 1, 0, 0, 0, 0, 0), (38, .aload_n 0, 1, 0, 0, 0, 0, 0), (39, .getfield 32, 3, 9, 21, 2, 0, 0), (42, .bipush (6), 2, 0, 0, 0, 6, 0), (44, .iload_n 1, 1, 1, 0, 0, 0, 0), (45, .imul, 1, 0, 0, 0, 0, 0), (46, .aload_n 0, 1, 0, 0, 0, 0, 0), (47, .getfield 35, 3, 9, 22, 2, 0, 0), (50, .iload_n 1, 1, 1, 0, 0, 0, 0), (51, .iaload, 1, 0, 0, 0, 0, 0), (52, .iadd, 1, 0, 0, 0, 0, 0), (53, .aload_n 0, 1, 0, 0, 0, 0, 0), (54, .getfield 135, 3, 9, 18, 0, 0, 0), (57, .iastore, 1, 0, 0, 0, 0, 0), (58, .aload_n 0, 1, 0, 0, 0, 0, 0), (59, .getfield 35, 3, 9, 22, 2, 0, 0), (62, .iload_n 1, 1, 1, 0, 0, 0, 0), (63, .dup2, 1, 0, 0, 0, 0, 0), (64, .iaload, 1, 0, 0, 0, 0, 0), (65, .iconst (1), 1, 0, 0, 0, 1, 0), (66, .iadd, 1, 0, 0, 0, 0, 0), (67, .iastore, 1, 0, 0, 0, 0, 0), (68, .aload_n 0, 1, 0, 0, 0, 0, 0), (69, .invokevirtual 155, 3, 49, 1, 0, 0, 0), (72, .istore_n 2, 1, 2, 0, 0, 0, 0), (73, .goto (-61), 3, 12, 0, 0, 0, 0), (76, .iload_n 2, 1, 2, 0, 0, 0, 0), (77, .ireturn, 1, 0, 0, 0, 0, 0)]
/-- 52: StreamRefuterModel.fits(I)Z -/
def x_t52 : List xR := [(0, .aload_n 0, 1, 0, 0, 0, 0, 0), (1, .getfield 135, 3, 9, 18, 0, 0, 0), (4, .invokestatic 149, 3, 53, 1, 0, 0, 0), (7, .aload_n 0, 1, 0, 0, 0, 0, 0), (8, .getfield 152, 3, 9, 20, 0, 0, 0), (11, .if_icmp .gt (18), 3, 29, 0, 0, 0, 0), (14, .aload_n 0, 1, 0, 0, 0, 0, 0), (15, .getfield 35, 3, 9, 22, 2, 0, 0), (18, .iload_n 1, 1, 1, 0, 0, 0, 0), (19, .iaload, 1, 0, 0, 0, 0, 0), (20, .bipush (6), 2, 0, 0, 0, 6, 0), (22, .if_icmp .ge (7), 3, 29, 0, 0, 0, 0), (25, .iconst (1), 1, 0, 0, 0, 1, 0), (26, .goto (4), 3, 30, 0, 0, 0, 0), (29, .iconst (0), 1, 0, 0, 0, 0, 0), (30, .istore_n 2, 1, 2, 0, 0, 0, 0), (31, .iconst (0), 1, 0, 0, 0, 0, 0), (32, .istore_n 3, 1, 3, 0, 0, 0, 0), (33, .iload_n 3, 1, 3, 0, 0, 0, 0), (34, .aload_n 0, 1, 0, 0, 0, 0, 0), (35, .getfield 35, 3, 9, 22, 2, 0, 0), (38, .iload_n 1, 1, 1, 0, 0, 0, 0), (39, .iaload, 1, 0, 0, 0, 0, 0), (40, .if_icmp .ge (43), 3, 83, 0, 0, 0, 0), (43, .iload_n 2, 1, 2, 0, 0, 0, 0), (44, .ifCond .eq (39), 3, 83, 0, 0, 0, 0), (47, .aload_n 0, 1, 0, 0, 0, 0, 0), (48, .getfield 32, 3, 9, 21, 2, 0, 0), (51, .bipush (6), 2, 0, 0, 0, 6, 0), (53, .iload_n 1, 1, 1, 0, 0, 0, 0), (54, .imul, 1, 0, 0, 0, 0, 0), (55, .iload_n 3, 1, 3, 0, 0, 0, 0), (56, .iadd, 1, 0, 0, 0, 0, 0), (57, .iaload, 1, 0, 0, 0, 0, 0), (58, .invokestatic 149, 3, 53, 1, 0, 0, 0), (61, .aload_n 0, 1, 0, 0, 0, 0, 0), (62, .getfield 135, 3, 9, 18, 0, 0, 0), (65, .invokestatic 149, 3, 53, 1, 0, 0, 0), (68, .if_icmp .eq (7), 3, 75, 0, 0, 0, 0), (71, .iconst (1), 1, 0, 0, 0, 1, 0), (72, .goto (4), 3, 76, 0, 0, 0, 0), (75, .iconst (0), 1, 0, 0, 0, 0, 0), (76, .istore_n 2, 1, 2, 0, 0, 0, 0), (77, .iinc 3 (1), 3, 0, 0, 0, 1, 0), (80, .goto (-47), 3, 33, 0, 0, 0, 0), (83, .iload_n 2, 1, 2, 0, 0, 0, 0), (84, .ireturn, 1, 0, 0, 1, 0, 0)]
/-- 53: StreamRefuterModel.size(I)I -/
def x_t53 : List xR := [(0, .iload_n 0, 1, 0, 0, 0, 0, 0), (1, .ifCond .ge (8), 3, 9, 0, 0, 0, 0), (4, .iload_n 0, 1, 0, 0, 0, 0, 0), (5, .ineg, 1, 0, 0, 0, 0, 0), (6, .goto (4), 3, 10, 0, 0, 0, 0), (9, .iload_n 0, 1, 0, 0, 0, 0, 0), (10, .ireturn, 1, 0, 0, 0, 0, 0)]
/-- 54: StreamRefuterModel.takeOver(II)V -/
def x_t54 : List xR := [(0, .aload_n 0, 1, 0, 0, 0, 0, 0), (1, .getfield 16, 3, 9, 9, 2, 0, 0), (4, .iload_n 2, 1, 2, 0, 0, 0, 0), (5, .aload_n 0, 1, 0, 0, 0, 0, 0), (6, .getfield 35, 3, 9, 22, 2, 0, 0), (9, .iload_n 1, 1, 1, 0, 0, 0, 0), (10, .iaload, 1, 0, 0, 0, 0, 0), (11, .iastore, 1, 0, 0, 0, 0, 0), (12, .iconst (0), 1, 0, 0, 0, 0, 0), (13, .istore_n 3, 1, 3, 0, 0, 0, 0), (14, .iload_n 3, 1, 3, 0, 0, 0, 0), (15, .bipush (6), 2, 0, 0, 0, 6, 0), (17, .if_icmp .ge (31), 3, 48, 0, 0, 0, 0), (20, .aload_n 0, 1, 0, 0, 0, 0, 0), (21, .getfield 13, 3, 9, 8, 2, 0, 0), (24, .bipush (6), 2, 0, 0, 0, 6, 0), (26, .iload_n 2, 1, 2, 0, 0, 0, 0), (27, .imul, 1, 0, 0, 0, 0, 0), (28, .iload_n 3, 1, 3, 0, 0, 0, 0), (29, .iadd, 1, 0, 0, 0, 0, 0), (30, .aload_n 0, 1, 0, 0, 0, 0, 0), (31, .getfield 32, 3, 9, 21, 2, 0, 0), (34, .bipush (6), 2, 0, 0, 0, 6, 0), (36, .iload_n 1, 1, 1, 0, 0, 0, 0), (37, .imul, 1, 0, 0, 0, 0, 0), (38, .iload_n 3, 1, 3, 0, 0, 0, 0), (39, .iadd, 1, 0, 0, 0, 0, 0), (40, .iaload, 1, 0, 0, 0, 0, 0), (41, .iastore, 1, 0, 0, 0, 0, 0), (42, .iinc 3 (1), 3, 0, 0, 0, 1, 0), (45, .goto (-31), 3, 14, 0, 0, 0, 0), (48, .return_, 1, 0, 0, 0, 0, 0)]
/-- 55: StreamRefuterModel.forget()V -/
def x_t55 : List xR := [(0, .iconst (0), 1, 0, 0, 0, 0, 0), (1, .istore_n 1, 1, 1, 0, 0, 0, 0), (2, .iload_n 1, 1, 1, 0, 0, 0, 0), (3, .bipush (81), 2, 0, 0, 0, 81, 0), (5, .if_icmp .ge (16), 3, 21, 0, 0, 0, 0), (8, .aload_n 0, 1, 0, 0, 0, 0, 0), (9, .getfield 26, 3, 9, 14, 2, 0, 0), (12, .iload_n 1, 1, 1, 0, 0, 0, 0), (13, .iconst (0), 1, 0, 0, 0, 0, 0), (14, .iastore, 1, 0, 0, 0, 0, 0), (15, .iinc 1 (1), 3, 0, 0, 0, 1, 0), (18, .goto (-16), 3, 2, 0, 0, 0, 0), (21, .iconst (0), 1, 0, 0, 0, 0, 0), (22, .istore_n 1, 1, 1, 0, 0, 0, 0), (23, .iload_n 1, 1, 1, 0, 0, 0, 0), (24, .bipush (64), 2, 0, 0, 0, 64, 0), (26, .if_icmp .ge (16), 3, 42, 0, 0, 0, 0), (29, .aload_n 0, 1, 0, 0, 0, 0, 0), (30, .getfield 29, 3, 9, 15, 2, 0, 0), (33, .iload_n 1, 1, 1, 0, 0, 0, 0), (34, .iconst (0), 1, 0, 0, 0, 0, 0), (35, .bastore, 1, 0, 0, 0, 0, 0), (36, .iinc 1 (1), 3, 0, 0, 0, 1, 0), (39, .goto (-16), 3, 23, 0, 0, 0, 0), (42, .return_, 1, 0, 0, 0, 0, 0)]
/-- 56: StreamRefuterModel.thrown()I -/
def x_t56 : List xR := [(0, .aload_n 0, 1, 0, 0, 0, 0, 0), (1, .getfield 113, 3, 9, 0, 0, 0, 0), (4, .ireturn, 1, 0, 0, 0, 0, 0)]
/-- 57: StreamRefuterLaw.stream(LStreamRefuter;Z[J)I -/
def x_t57 : List xR := [(0, .aload_n 2, 1, 2, 0, 0, 0, 0), (1, .iconst (0), 1, 0, 0, 0, 0, 0), (2, .aload_n 0, 1, 0, 0, 0, 0, 0), (3, .iload_n 1, 1, 1, 0, 0, 0, 0), (4, .invokevirtual 15, 3, 58, 2, 0, 0, 0), (7, .i2l, 1, 0, 0, 0, 0, 0), (8, .lastore, 1, 0, 0, 0, 0, 0), (9, .goto (9), 3, 18, 0, 0, 0, 0), (12, .astore_n 3, 1, 3, 0, 0, 0, 0), (13, .iconst (1), 1, 0, 0, 0, 1, 0), (14, .ireturn, 1, 0, 0, 0, 0, 0), (15, .astore_n 3, 1, 3, 0, 0, 0, 0), (16, .iconst (2), 1, 0, 0, 0, 2, 0), (17, .ireturn, 1, 0, 0, 0, 0, 0), (18, .iconst (0), 1, 0, 0, 0, 0, 0), (19, .ireturn, 1, 0, 0, 0, 0, 0)]
/-- 58: StreamRefuter.stream(Z)I -/
def x_t58 : List xR := [(0, .aload_n 0, 1, 0, 0, 0, 0, 0), (1, .getfield 35, 3, 0, 5, 2, 0, 0), (4, .getfield 98, 3, 4, 0, 0, 0, 0), (7, .ifCond .ne (11), 3, 18, 0, 0, 0, 0), (10, .new 102, 3, 2, 0, 1, 0, 0), (18, .aload_n 0, 1, 0, 0, 0, 0, 0), (19, .getfield 21, 3, 0, 1, 2, 0, 0), (22, .astore_n 2, 1, 2, 0, 0, 0, 0), (23, .iload_n 1, 1, 1, 0, 0, 0, 0), (24, .ifCond .eq (8), 3, 32, 0, 0, 0, 0), (27, .aload_n 0, 1, 0, 0, 0, 0, 0), (28, .getfield 28, 3, 0, 2, 2, 0, 0), (31, .astore_n 2, 1, 2, 0, 0, 0, 0), (32, .aload_n 0, 1, 0, 0, 0, 0, 0), (33, .aload_n 0, 1, 0, 0, 0, 0, 0), (34, .getfield 39, 3, 0, 6, 2, 0, 0), (37, .aload_n 0, 1, 0, 0, 0, 0, 0), (38, .getfield 35, 3, 0, 5, 2, 0, 0), (41, .aload_n 2, 1, 2, 0, 0, 0, 0), (42, .invokevirtual 105, 3, 59, 3, 0, 0, 0), (45, .putfield 70, 3, 0, 9, 0, 0, 0), (48, .aload_n 0, 1, 0, 0, 0, 0, 0), (49, .getfield 70, 3, 0, 9, 0, 0, 0), (52, .ifCond .eq (11), 3, 63, 0, 0, 0, 0), (55, .new 86, 3, 1, 0, 1, 0, 0), (63, .aload_n 0, 1, 0, 0, 0, 0, 0), (64, .invokevirtual 89, 3, 39, 1, 0, 0, 0), (67, .aload_n 0, 1, 0, 0, 0, 0, 0), (68, .getfield 35, 3, 0, 5, 2, 0, 0), (71, .getfield 109, 3, 4, 5, 0, 0, 0), (74, .ireturn, 1, 0, 0, 0, 0, 0)]
/-- 59: StreamRefuter$Problem.readStream(LStreamRefuter$Problem;LStreamRefuter$Numbers;)I -/
def x_t59 : List xR := [(0, .aload_n 0, 1, 0, 0, 0, 0, 0), (1, .aload_n 1, 1, 1, 0, 0, 0, 0), (2, .invokevirtual 91, 3, 60, 2, 0, 0, 0), (5, .aload_n 2, 1, 2, 0, 0, 0, 0), (6, .invokevirtual 95, 3, 2, 1, 1, 0, 0), (9, .iconst (1), 1, 0, 0, 0, 1, 0), (10, .istore_n 3, 1, 3, 0, 0, 0, 0), (11, .iload_n 3, 1, 3, 0, 0, 0, 0), (12, .bipush (81), 2, 0, 0, 0, 81, 0), (14, .if_icmp .gt (72), 3, 86, 0, 0, 0, 0), (17, .aload_n 2, 1, 2, 0, 0, 0, 0), (18, .invokevirtual 98, 3, 3, 1, 1, 0, 0), (21, .astore 4, 2, 0, 0, 0, 0, 0), (23, .aload 4, 2, 0, 0, 0, 0, 0), (25, .getstatic 102, 3, 0, 0, 0, 0, 0), (28, .if_acmp .ne (6), 3, 34, 0, 0, 0, 0), (31, .goto (55), 3, 86, 0, 0, 0, 0), (34, .iload_n 3, 1, 3, 0, 0, 0, 0), (35, .bipush (80), 2, 0, 0, 0, 80, 0), (37, .if_icmp .gt (12), 3, 49, 0, 0, 0, 0), (40, .aload_n 0, 1, 0, 0, 0, 0, 0), (41, .aload 4, 2, 0, 0, 0, 0, 0), (43, .invokevirtual 108, 3, 63, 2, 0, 0, 0), (46, .ifCond .ne (8), 3, 54, 0, 0, 0, 0), (49, .aload_n 2, 1, 2, 0, 0, 0, 0), (50, .getfield 112, 3, 2, 2, 0, 0, 0), (53, .ireturn, 1, 0, 0, 0, 0, 0), (54, .aload_n 2, 1, 2, 0, 0, 0, 0), (55, .aload 4, 2, 0, 0, 0, 0, 0), (57, .invokevirtual 113, 3, 4, 2, 1, 0, 0), (60, .aload_n 0, 1, 0, 0, 0, 0, 0), (61, .aload_n 2, 1, 2, 0, 0, 0, 0), (62, .invokevirtual 84, 3, 31, 2, 0, 0, 0), (65, .ifCond .ne (8), 3, 73, 0, 0, 0, 0), (68, .aload_n 2, 1, 2, 0, 0, 0, 0), (69, .getfield 112, 3, 2, 2, 0, 0, 0), (72, .ireturn, 1, 0, 0, 0, 0, 0), (73, .aload_n 0, 1, 0, 0, 0, 0, 0), (74, .iload_n 3, 1, 3, 0, 0, 0, 0), (75, .aload 4, 2, 0, 0, 0, 0, 0), (77, .invokevirtual 117, 3, 66, 3, 0, 0, 0), (80, .iinc 3 (1), 3, 0, 0, 0, 1, 0), (83, .goto (-72), 3, 11, 0, 0, 0, 0), (86, .aload_n 0, 1, 0, 0, 0, 0, 0), (87, .iconst (1), 1, 0, 0, 0, 1, 0), (88, .putfield 15, 3, 4, 1, 3, 0, 0), (91, .iconst (0), 1, 0, 0, 0, 0, 0), (92, .ireturn, 1, 0, 0, 0, 0, 0)]
/-- 60: StreamRefuter$Problem.copyFormula(LStreamRefuter$Problem;)V -/
def x_t60 : List xR := [(0, .aload_n 0, 1, 0, 0, 0, 0, 0), (1, .invokevirtual 55, 3, 21, 1, 0, 0, 0), (4, .aload_n 0, 1, 0, 0, 0, 0, 0), (5, .aload_n 1, 1, 1, 0, 0, 0, 0), (6, .getfield 9, 3, 4, 0, 0, 0, 0), (9, .putfield 9, 3, 4, 0, 3, 0, 0), (12, .aload_n 0, 1, 0, 0, 0, 0, 0), (13, .aload_n 1, 1, 1, 0, 0, 0, 0), (14, .getfield 18, 3, 4, 2, 0, 0, 0), (17, .putfield 18, 3, 4, 2, 0, 0, 0), (20, .aload_n 0, 1, 0, 0, 0, 0, 0), (21, .aload_n 1, 1, 1, 0, 0, 0, 0), (22, .getfield 22, 3, 4, 3, 0, 0, 0), (25, .putfield 22, 3, 4, 3, 0, 0, 0), (28, .aload_n 0, 1, 0, 0, 0, 0, 0), (29, .aload_n 1, 1, 1, 0, 0, 0, 0), (30, .getfield 22, 3, 4, 3, 0, 0, 0), (33, .putfield 25, 3, 4, 4, 0, 0, 0), (36, .aload_n 0, 1, 0, 0, 0, 0, 0), (37, .getfield 44, 3, 4, 10, 2, 0, 0), (40, .iconst (0), 1, 0, 0, 0, 0, 0), (41, .aload_n 1, 1, 1, 0, 0, 0, 0), (42, .getfield 44, 3, 4, 10, 2, 0, 0), (45, .iconst (0), 1, 0, 0, 0, 0, 0), (46, .laload, 1, 0, 0, 0, 0, 0), (47, .lastore, 1, 0, 0, 0, 0, 0), (48, .aload_n 1, 1, 1, 0, 0, 0, 0), (49, .getfield 35, 3, 4, 7, 2, 0, 0), (52, .iconst (0), 1, 0, 0, 0, 0, 0), (53, .aload_n 0, 1, 0, 0, 0, 0, 0), (54, .getfield 35, 3, 4, 7, 2, 0, 0), (57, .iconst (0), 1, 0, 0, 0, 0, 0), (58, .aload_n 0, 1, 0, 0, 0, 0, 0), (59, .getfield 25, 3, 4, 4, 0, 0, 0), (62, .iconst (1), 1, 0, 0, 0, 1, 0), (63, .iadd, 1, 0, 0, 0, 0, 0), (64, .invokestatic 147, 3, 0, 0, 1, 0, 0), (67, .aload_n 1, 1, 1, 0, 0, 0, 0), (68, .getfield 38, 3, 4, 8, 2, 0, 0), (71, .iconst (0), 1, 0, 0, 0, 0, 0), (72, .aload_n 0, 1, 0, 0, 0, 0, 0), (73, .getfield 38, 3, 4, 8, 2, 0, 0), (76, .iconst (0), 1, 0, 0, 0, 0, 0), (77, .aload_n 0, 1, 0, 0, 0, 0, 0), (78, .getfield 25, 3, 4, 4, 0, 0, 0), (81, .iconst (1), 1, 0, 0, 0, 1, 0), (82, .iadd, 1, 0, 0, 0, 0, 0), (83, .invokestatic 147, 3, 0, 0, 1, 0, 0), (86, .aload_n 1, 1, 1, 0, 0, 0, 0), (87, .getfield 31, 3, 4, 6, 2, 0, 0), (90, .iconst (0), 1, 0, 0, 0, 0, 0), (91, .aload_n 0, 1, 0, 0, 0, 0, 0), (92, .getfield 31, 3, 4, 6, 2, 0, 0), (95, .iconst (0), 1, 0, 0, 0, 0, 0), (96, .aload_n 0, 1, 0, 0, 0, 0, 0), (97, .getfield 25, 3, 4, 4, 0, 0, 0), (100, .iconst (1), 1, 0, 0, 0, 1, 0), (101, .iadd, 1, 0, 0, 0, 0, 0), (102, .bipush (6), 2, 0, 0, 0, 6, 0), (104, .imul, 1, 0, 0, 0, 0, 0), (105, .invokestatic 147, 3, 0, 0, 1, 0, 0), (108, .return_, 1, 0, 0, 0, 0, 0)]
/-- 61: StreamRefuter$Words.openStep()LStreamRefuter$Opening; -/
def x_t61 : List xR := [(0, .aload_n 0, 1, 0, 0, 0, 0, 0), (1, .invokevirtual 39, 3, 23, 1, 0, 0, 0), (4, .aload_n 0, 1, 0, 0, 0, 0, 0), (5, .getfield 36, 3, 2, 3, 0, 0, 0), (8, .sipush (20001), 3, 0, 0, 0, 20001, 0), (11, .if_icmp .ne (7), 3, 18, 0, 0, 0, 0), (14, .getstatic 43, 3, 0, 0, 0, 0, 0), (17, .areturn, 1, 0, 0, 0, 0, 0), (18, .aload_n 0, 1, 0, 0, 0, 0, 0), (19, .getfield 36, 3, 2, 3, 0, 0, 0), (22, .sipush (10000), 3, 0, 0, 0, 10000, 0), (25, .if_icmp .ne (9), 3, 34, 0, 0, 0, 0), (28, .getstatic 49, 3, 1, 0, 0, 0, 0), (31, .goto (6), 3, 37, 0, 0, 0, 0), (34, .getstatic 52, 3, 2, 0, 0, 0, 0), (37, .areturn, 1, 0, 0, 0, 0, 0)]
/-- 62: StreamRefuter$PackedNumbers.openStep()LStreamRefuter$Opening; -/
def x_t62 : List xR := [(0, .aload_n 0, 1, 0, 0, 0, 0, 0), (1, .getfield 9, 3, 3, 0, 2, 0, 0), (4, .aload_n 0, 1, 0, 0, 0, 0, 0), (5, .getfield 15, 3, 3, 1, 0, 0, 0), (8, .invokevirtual 19, 3, 26, 2, 0, 0, 0), (11, .istore_n 1, 1, 1, 0, 0, 0, 0), (12, .aload_n 0, 1, 0, 0, 0, 0, 0), (13, .dup, 1, 0, 0, 0, 0, 0), (14, .getfield 15, 3, 3, 1, 0, 0, 0), (17, .iconst (1), 1, 0, 0, 0, 1, 0), (18, .iadd, 1, 0, 0, 0, 0, 0), (19, .putfield 15, 3, 3, 1, 0, 0, 0), (22, .aload_n 0, 1, 0, 0, 0, 0, 0), (23, .aload_n 0, 1, 0, 0, 0, 0, 0), (24, .getfield 15, 3, 3, 1, 0, 0, 0), (27, .putfield 25, 3, 3, 2, 0, 0, 0), (30, .iload_n 1, 1, 1, 0, 0, 0, 0), (31, .iconst (-1), 1, 0, 0, 0, (-1), 0), (32, .if_icmp .ne (7), 3, 39, 0, 0, 0, 0), (35, .getstatic 38, 3, 0, 0, 0, 0, 0), (38, .areturn, 1, 0, 0, 0, 0, 0), (39, .iload_n 1, 1, 1, 0, 0, 0, 0), (40, .bipush (100), 2, 0, 0, 0, 100, 0), (42, .if_icmp .ne (7), 3, 49, 0, 0, 0, 0), (45, .getstatic 44, 3, 1, 0, 0, 0, 0), (48, .areturn, 1, 0, 0, 0, 0, 0), (49, .iload_n 1, 1, 1, 0, 0, 0, 0), (50, .bipush (97), 2, 0, 0, 0, 97, 0), (52, .if_icmp .ne (9), 3, 61, 0, 0, 0, 0), (55, .getstatic 47, 3, 2, 0, 0, 0, 0), (58, .goto (6), 3, 64, 0, 0, 0, 0), (61, .getstatic 50, 3, 3, 0, 0, 0, 0), (64, .areturn, 1, 0, 0, 0, 0, 0)]
/-- 63: StreamRefuter$Problem.mayOpen(LStreamRefuter$Opening;)Z -/
def x_t63 : List xR := [(0, .aload_n 1, 1, 1, 0, 0, 0, 0), (1, .getstatic 121, 3, 2, 0, 0, 0, 0), (4, .if_acmp .ne (18), 3, 22, 0, 0, 0, 0), (7, .aload_n 0, 1, 0, 0, 0, 0, 0), (8, .getfield 25, 3, 4, 4, 0, 0, 0), (11, .bipush (63), 2, 0, 0, 0, 63, 0), (13, .if_icmp .ge (7), 3, 20, 0, 0, 0, 0), (16, .iconst (1), 1, 0, 0, 0, 1, 0), (17, .goto (4), 3, 21, 0, 0, 0, 0), (20, .iconst (0), 1, 0, 0, 0, 0, 0), (21, .ireturn, 1, 0, 0, 1, 0, 0), (22, .aload_n 1, 1, 1, 0, 0, 0, 0), (23, .getstatic 124, 3, 1, 0, 0, 0, 0), (26, .if_acmp .ne (7), 3, 33, 0, 0, 0, 0), (29, .iconst (1), 1, 0, 0, 0, 1, 0), (30, .goto (4), 3, 34, 0, 0, 0, 0), (33, .iconst (0), 1, 0, 0, 0, 0, 0), (34, .ireturn, 1, 0, 0, 1, 0, 0)]
/-- 64: StreamRefuter$Words.enterClause(LStreamRefuter$Opening;)V -/
def x_t64 : List xR := [(0, .aload_n 1, 1, 1, 0, 0, 0, 0), (1, .getstatic 49, 3, 1, 0, 0, 0, 0), (4, .if_acmp .ne (7), 3, 11, 0, 0, 0, 0), (7, .aload_n 0, 1, 0, 0, 0, 0, 0), (8, .invokevirtual 39, 3, 23, 1, 0, 0, 0), (11, .return_, 1, 0, 0, 0, 0, 0)]
/-- 65: StreamRefuter$PackedNumbers.enterClause(LStreamRefuter$Opening;)V -/
def x_t65 : List xR := [(0, .aload_n 0, 1, 0, 0, 0, 0, 0), (1, .invokevirtual 53, 3, 35, 1, 0, 0, 0), (4, .return_, 1, 0, 0, 0, 0, 0)]
/-- 66: StreamRefuter$Problem.keepStep(ILStreamRefuter$Opening;)V -/
def x_t66 : List xR := [(0, .aload_n 0, 1, 0, 0, 0, 0, 0), (1, .iload_n 1, 1, 1, 0, 0, 0, 0), (2, .putfield 28, 3, 4, 5, 0, 0, 0), (5, .aload_n 2, 1, 2, 0, 0, 0, 0), (6, .getstatic 121, 3, 2, 0, 0, 0, 0), (9, .if_acmp .ne (41), 3, 50, 0, 0, 0, 0), (12, .aload_n 0, 1, 0, 0, 0, 0, 0), (13, .invokevirtual 88, 3, 38, 1, 0, 0, 0), (16, .aload_n 0, 1, 0, 0, 0, 0, 0), (17, .getfield 41, 3, 4, 9, 2, 0, 0), (20, .iload_n 1, 1, 1, 0, 0, 0, 0), (21, .aload_n 0, 1, 0, 0, 0, 0, 0), (22, .getfield 25, 3, 4, 4, 0, 0, 0), (25, .iastore, 1, 0, 0, 0, 0, 0), (26, .aload_n 0, 1, 0, 0, 0, 0, 0), (27, .getfield 44, 3, 4, 10, 2, 0, 0), (30, .iload_n 1, 1, 1, 0, 0, 0, 0), (31, .aload_n 0, 1, 0, 0, 0, 0, 0), (32, .getfield 44, 3, 4, 10, 2, 0, 0), (35, .iload_n 1, 1, 1, 0, 0, 0, 0), (36, .iconst (1), 1, 0, 0, 0, 1, 0), (37, .isub, 1, 0, 0, 0, 0, 0), (38, .laload, 1, 0, 0, 0, 0, 0), (39, .lconst 1, 1, 0, 0, 0, 0, 1), (40, .aload_n 0, 1, 0, 0, 0, 0, 0), (41, .getfield 25, 3, 4, 4, 0, 0, 0), (44, .lshl, 1, 0, 0, 0, 0, 0), (45, .lor, 1, 0, 0, 0, 0, 0), (46, .lastore, 1, 0, 0, 0, 0, 0), (47, .goto (47), 3, 94, 0, 0, 0, 0), (50, .aload_n 0, 1, 0, 0, 0, 0, 0), (51, .getfield 41, 3, 4, 9, 2, 0, 0), (54, .iload_n 1, 1, 1, 0, 0, 0, 0), (55, .iconst (0), 1, 0, 0, 0, 0, 0), (56, .iastore, 1, 0, 0, 0, 0, 0), (57, .aload_n 0, 1, 0, 0, 0, 0, 0), (58, .getfield 44, 3, 4, 10, 2, 0, 0), (61, .iload_n 1, 1, 1, 0, 0, 0, 0), (62, .aload_n 0, 1, 0, 0, 0, 0, 0), (63, .getfield 44, 3, 4, 10, 2, 0, 0), (66, .iload_n 1, 1, 1, 0, 0, 0, 0), (67, .iconst (1), 1, 0, 0, 0, 1, 0), (68, .isub, 1, 0, 0, 0, 0, 0), (69, .laload, 1, 0, 0, 0, 0, 0), (70, .aload_n 0, 1, 0, 0, 0, 0, 0), (71, .aload_n 0, 1, 0, 0, 0, 0, 0), (72, .getfield 44, 3, 4, 10, 2, 0, 0), (75, .iload_n 1, 1, 1, 0, 0, 0, 0), (76, .iconst (1), 1, 0, 0, 0, 1, 0), (77, .isub, 1, 0, 0, 0, 0, 0), (78, .laload, 1, 0, 0, 0, 0, 0), (79, .aload_n 0, 1, 0, 0, 0, 0, 0), (80, .getfield 38, 3, 4, 8, 2, 0, 0), (83, .iconst (0), 1, 0, 0, 0, 0, 0), (84, .iaload, 1, 0, 0, 0, 0, 0), (85, .invokevirtual 127, 3, 67, 3, 0, 0, 0), (88, .ldc2_w 131, 3, 0, 0, 0, 0, (-1)), (91, .lxor, 1, 0, 0, 0, 0, 0), (92, .land, 1, 0, 0, 0, 0, 0), (93, .lastore, 1, 0, 0, 0, 0, 0), (94, .return_, 1, 0, 0, 0, 0, 0)]
/-- 67: StreamRefuter$Problem.lowestAlike(JI)J -/
def x_t67 : List xR := [(0, .iconst (1), 1, 0, 0, 0, 1, 0), (1, .istore 4, 2, 0, 0, 0, 0, 0), (3, .iload 4, 2, 0, 0, 0, 0, 0), (5, .aload_n 0, 1, 0, 0, 0, 0, 0), (6, .getfield 25, 3, 4, 4, 0, 0, 0), (9, .if_icmp .gt (34), 3, 43, 0, 0, 0, 0), (12, .lload_n 1, 1, 1, 0, 0, 0, 0), (13, .iload 4, 2, 0, 0, 0, 0, 0), (15, .invokestatic 133, 3, 68, 2, 0, 0, 0), (18, .ifCond .eq (19), 3, 37, 0, 0, 0, 0), (21, .aload_n 0, 1, 0, 0, 0, 0, 0), (22, .getfield 38, 3, 4, 8, 2, 0, 0), (25, .iload 4, 2, 0, 0, 0, 0, 0), (27, .iaload, 1, 0, 0, 0, 0, 0), (28, .iload_n 3, 1, 3, 0, 0, 0, 0), (29, .if_icmp .ne (8), 3, 37, 0, 0, 0, 0), (32, .lconst 1, 1, 0, 0, 0, 0, 1), (33, .iload 4, 2, 0, 0, 0, 0, 0), (35, .lshl, 1, 0, 0, 0, 0, 0), (36, .lreturn, 1, 0, 0, 0, 0, 0), (37, .iinc 4 (1), 3, 0, 0, 0, 1, 0), (40, .goto (-37), 3, 3, 0, 0, 0, 0), (43, .lconst 0, 1, 0, 0, 0, 0, 0), (44, .lreturn, 1, 0, 0, 0, 0, 0)]
/-- 68: StreamRefuter.holdsClause(JI)Z -/
def x_t68 : List xR := [(0, .lload_n 0, 1, 0, 0, 0, 0, 0), (1, .iload_n 2, 1, 2, 0, 0, 0, 0), (2, .lushr, 1, 0, 0, 0, 0, 0), (3, .lconst 1, 1, 0, 0, 0, 0, 1), (4, .land, 1, 0, 0, 0, 0, 0), (5, .lconst 0, 1, 0, 0, 0, 0, 0), (6, .lcmp, 1, 0, 0, 0, 0, 0), (7, .ifCond .eq (7), 3, 14, 0, 0, 0, 0), (10, .iconst (1), 1, 0, 0, 0, 1, 0), (11, .goto (4), 3, 15, 0, 0, 0, 0), (14, .iconst (0), 1, 0, 0, 0, 0, 0), (15, .ireturn, 1, 0, 0, 1, 0, 0)]
/-- 69: StreamRefuterModel.stream(Z)I -/
def x_t69 : List xR := [(0, .aload_n 0, 1, 0, 0, 0, 0, 0), (1, .aload_n 0, 1, 0, 0, 0, 0, 0), (2, .getfield 181, 3, 9, 4, 0, 0, 0), (5, .ifCond .eq (7), 3, 12, 0, 0, 0, 0), (8, .iconst (0), 1, 0, 0, 0, 0, 0), (9, .goto (4), 3, 13, 0, 0, 0, 0), (12, .iconst (1), 1, 0, 0, 0, 1, 0), (13, .putfield 113, 3, 9, 0, 0, 0, 0), (16, .aload_n 0, 1, 0, 0, 0, 0, 0), (17, .getfield 113, 3, 9, 0, 0, 0, 0), (20, .ifCond .le (5), 3, 25, 0, 0, 0, 0), (23, .iconst (0), 1, 0, 0, 0, 0, 0), (24, .ireturn, 1, 0, 0, 0, 0, 0), (25, .aload_n 0, 1, 0, 0, 0, 0, 0), (26, .iload_n 1, 1, 1, 0, 0, 0, 0), (27, .putfield 138, 3, 9, 19, 3, 0, 0), (30, .aload_n 0, 1, 0, 0, 0, 0, 0), (31, .aload_n 0, 1, 0, 0, 0, 0, 0), (32, .invokevirtual 216, 3, 70, 1, 0, 0, 0), (35, .putfield 122, 3, 9, 3, 0, 0, 0), (38, .aload_n 0, 1, 0, 0, 0, 0, 0), (39, .aload_n 0, 1, 0, 0, 0, 0, 0), (40, .getfield 122, 3, 9, 3, 0, 0, 0), (43, .ifCond .le (7), 3, 50, 0, 0, 0, 0), (46, .iconst (2), 1, 0, 0, 0, 2, 0), (47, .goto (4), 3, 51, 0, 0, 0, 0), (50, .iconst (0), 1, 0, 0, 0, 0, 0), (51, .putfield 113, 3, 9, 0, 0, 0, 0), (54, .aload_n 0, 1, 0, 0, 0, 0, 0), (55, .getfield 113, 3, 9, 0, 0, 0, 0), (58, .ifCond .le (5), 3, 63, 0, 0, 0, 0), (61, .iconst (0), 1, 0, 0, 0, 0, 0), (62, .ireturn, 1, 0, 0, 0, 0, 0), (63, .aload_n 0, 1, 0, 0, 0, 0, 0), (64, .iconst (1), 1, 0, 0, 0, 1, 0), (65, .putfield 197, 3, 9, 10, 3, 0, 0), (68, .aload_n 0, 1, 0, 0, 0, 0, 0), (69, .aload_n 0, 1, 0, 0, 0, 0, 0), (70, .getfield 135, 3, 9, 18, 0, 0, 0), (73, .putfield 200, 3, 9, 11, 0, 0, 0), (76, .aload_n 0, 1, 0, 0, 0, 0, 0), (77, .aload_n 0, 1, 0, 0, 0, 0, 0), (78, .getfield 187, 3, 9, 6, 0, 0, 0), (81, .putfield 190, 3, 9, 7, 0, 0, 0), (84, .aload_n 0, 1, 0, 0, 0, 0, 0), (85, .invokevirtual 206, 3, 55, 1, 0, 0, 0), (88, .iconst (0), 1, 0, 0, 0, 0, 0), (89, .istore_n 2, 1, 2, 0, 0, 0, 0), (90, .iload_n 2, 1, 2, 0, 0, 0, 0), (91, .bipush (64), 2, 0, 0, 0, 64, 0), (93, .if_icmp .ge (32), 3, 125, 0, 0, 0, 0), (96, .aload_n 0, 1, 0, 0, 0, 0, 0), (97, .getfield 47, 3, 9, 28, 2, 0, 0), (100, .iload_n 2, 1, 2, 0, 0, 0, 0), (101, .iload_n 2, 1, 2, 0, 0, 0, 0), (102, .ifCond .le (15), 3, 117, 0, 0, 0, 0), (105, .iload_n 2, 1, 2, 0, 0, 0, 0), (106, .aload_n 0, 1, 0, 0, 0, 0, 0), (107, .getfield 187, 3, 9, 6, 0, 0, 0), (110, .if_icmp .gt (7), 3, 117, 0, 0, 0, 0), (113, .iconst (1), 1, 0, 0, 0, 1, 0), (114, .goto (4), 3, 118, 0, 0, 0, 0), (117, .iconst (0), 1, 0, 0, 0, 0, 0), (118, .bastore, 1, 0, 0, 0, 0, 0), (119, .iinc 2 (1), 3, 0, 0, 0, 1, 0), (122, .goto (-32), 3, 90, 0, 0, 0, 0), (125, .iconst (1), 1, 0, 0, 0, 1, 0), (126, .istore_n 2, 1, 2, 0, 0, 0, 0), (127, .iload_n 2, 1, 2, 0, 0, 0, 0), (128, .aload_n 0, 1, 0, 0, 0, 0, 0), (129, .getfield 200, 3, 9, 11, 0, 0, 0), (132, .if_icmp .gt (101), 3, 233, 0, 0, 0, 0), (135, .aload_n 0, 1, 0, 0, 0, 0, 0), (136, .getfield 19, 3, 9, 12, 2, 0, 0), (139, .iload_n 2, 1, 2, 0, 0, 0, 0), (140, .aload_n 0, 1, 0, 0, 0, 0, 0), (141, .getfield 38, 3, 9, 23, 2, 0, 0), (144, .iload_n 2, 1, 2, 0, 0, 0, 0), (145, .iconst (1), 1, 0, 0, 0, 1, 0), (146, .isub, 1, 0, 0, 0, 0, 0), (147, .baload, 1, 0, 0, 0, 0, 0), (148, .bastore, 1, 0, 0, 0, 0, 0), (149, .aload_n 0, 1, 0, 0, 0, 0, 0), (150, .getfield 19, 3, 9, 12, 2, 0, 0), (153, .iload_n 2, 1, 2, 0, 0, 0, 0), (154, .baload, 1, 0, 0, 0, 0, 0), (155, .ifCond .eq (47), 3, 202, 0, 0, 0, 0), (158, .aload_n 0, 1, 0, 0, 0, 0, 0), (159, .dup, 1, 0, 0, 0, 0, 0), (160, .getfield 190, 3, 9, 7, 0, 0, 0), (163, .iconst (1), 1, 0, 0, 0, 1, 0), (164, .iadd, 1, 0, 0, 0, 0, 0), (165, .putfield 190, 3, 9, 7, 0, 0, 0), (168, .aload_n 0, 1, 0, 0, 0, 0, 0), (169, .iload_n 2, 1, 2, 0, 0, 0, 0), (170, .iconst (1), 1, 0, 0, 0, 1, 0), (171, .isub, 1, 0, 0, 0, 0, 0), (172, .aload_n 0, 1, 0, 0, 0, 0, 0), (173, .getfield 190, 3, 9, 7, 0, 0, 0), (176, .invokevirtual 193, 3, 54, 3, 0, 0, 0), (179, .aload_n 0, 1, 0, 0, 0, 0, 0), (180, .getfield 23, 3, 9, 13, 2, 0, 0), (183, .iload_n 2, 1, 2, 0, 0, 0, 0), (184, .aload_n 0, 1, 0, 0, 0, 0, 0), (185, .getfield 190, 3, 9, 7, 0, 0, 0), (188, .iastore, 1, 0, 0, 0, 0, 0), (189, .aload_n 0, 1, 0, 0, 0, 0, 0), (190, .getfield 47, 3, 9, 28, 2, 0, 0), (193, .aload_n 0, 1, 0, 0, 0, 0, 0), (194, .getfield 190, 3, 9, 7, 0, 0, 0), (197, .iconst (1), 1, 0, 0, 0, 1, 0), (198, .bastore, 1, 0, 0, 0, 0, 0), (199, .goto (28), 3, 227, 0, 0, 0, 0), (202, .aload_n 0, 1, 0, 0, 0, 0, 0), (203, .getfield 23, 3, 9, 13, 2, 0, 0), (206, .iload_n 2, 1, 2, 0, 0, 0, 0), (207, .aload_n 0, 1, 0, 0, 0, 0, 0), (208, .iload_n 2, 1, 2, 0, 0, 0, 0), (209, .iconst (1), 1, 0, 0, 0, 1, 0), (210, .isub, 1, 0, 0, 0, 0, 0), (211, .invokevirtual 219, 3, 72, 2, 0, 0, 0), (214, .iastore, 1, 0, 0, 0, 0, 0), (215, .aload_n 0, 1, 0, 0, 0, 0, 0), (216, .getfield 47, 3, 9, 28, 2, 0, 0), (219, .aload_n 0, 1, 0, 0, 0, 0, 0), (220, .getfield 23, 3, 9, 13, 2, 0, 0), (223, .iload_n 2, 1, 2, 0, 0, 0, 0), (224, .iaload, 1, 0, 0, 0, 0, 0), (225, .iconst (0), 1, 0, 0, 0, 0, 0), (226, .bastore, 1, 0, 0, 0, 0, 0), (227, .iinc 2 (1), 3, 0, 0, 0, 1, 0), (230, .goto (-103), 3, 127, 0, 0, 0, 0), (233, .aload_n 0, 1, 0, 0, 0, 0, 0), (234, .getfield 200, 3, 9, 11, 0, 0, 0), (237, .ireturn, 1, 0, 0, 0, 0, 0)]
/-- 70: StreamRefuterModel.readStream()I -/
def x_t70 : List xR := [(0, .aload_n 0, 1, 0, 0, 0, 0, 0), (1, .iconst (0), 1, 0, 0, 0, 0, 0), (2, .putfield 125, 3, 9, 16, 0, 0, 0), (5, .aload_n 0, 1, 0, 0, 0, 0, 0), (6, .aload_n 0, 1, 0, 0, 0, 0, 0), (7, .getfield 184, 3, 9, 5, 0, 0, 0), (10, .putfield 152, 3, 9, 20, 0, 0, 0), (13, .iconst (0), 1, 0, 0, 0, 0, 0), (14, .istore_n 1, 1, 1, 0, 0, 0, 0), (15, .iconst (0), 1, 0, 0, 0, 0, 0), (16, .istore_n 2, 1, 2, 0, 0, 0, 0), (17, .iconst (0), 1, 0, 0, 0, 0, 0), (18, .istore_n 3, 1, 3, 0, 0, 0, 0), (19, .aload_n 0, 1, 0, 0, 0, 0, 0), (20, .iconst (0), 1, 0, 0, 0, 0, 0), (21, .iconst (0), 1, 0, 0, 0, 0, 0), (22, .invokevirtual 209, 3, 71, 3, 0, 0, 0), (25, .istore 4, 2, 0, 0, 0, 0, 0), (27, .iload 4, 2, 0, 0, 0, 0, 0), (29, .ifCond .le (66), 3, 95, 0, 0, 0, 0), (32, .iload_n 3, 1, 3, 0, 0, 0, 0), (33, .ifCond .ne (62), 3, 95, 0, 0, 0, 0), (36, .aload_n 0, 1, 0, 0, 0, 0, 0), (37, .getfield 38, 3, 9, 23, 2, 0, 0), (40, .iload_n 1, 1, 1, 0, 0, 0, 0), (41, .iload 4, 2, 0, 0, 0, 0, 0), (43, .iconst (1), 1, 0, 0, 0, 1, 0), (44, .if_icmp .ne (7), 3, 51, 0, 0, 0, 0), (47, .iconst (1), 1, 0, 0, 0, 1, 0), (48, .goto (4), 3, 52, 0, 0, 0, 0), (51, .iconst (0), 1, 0, 0, 0, 0, 0), (52, .bastore, 1, 0, 0, 0, 0, 0), (53, .iload 4, 2, 0, 0, 0, 0, 0), (55, .iconst (1), 1, 0, 0, 0, 1, 0), (56, .if_icmp .ne (9), 3, 65, 0, 0, 0, 0), (59, .iload_n 2, 1, 2, 0, 0, 0, 0), (60, .iconst (1), 1, 0, 0, 0, 1, 0), (61, .iadd, 1, 0, 0, 0, 0, 0), (62, .goto (4), 3, 66, 0, 0, 0, 0), (65, .iload_n 2, 1, 2, 0, 0, 0, 0), (66, .istore_n 2, 1, 2, 0, 0, 0, 0), (67, .aload_n 0, 1, 0, 0, 0, 0, 0), (68, .iload_n 1, 1, 1, 0, 0, 0, 0), (69, .invokevirtual 175, 3, 51, 2, 0, 0, 0), (72, .istore_n 3, 1, 3, 0, 0, 0, 0), (73, .iinc 1 (1), 3, 0, 0, 0, 1, 0), (76, .iload_n 3, 1, 3, 0, 0, 0, 0), (77, .ifCond .le (7), 3, 84, 0, 0, 0, 0), (80, .iconst (0), 1, 0, 0, 0, 0, 0), (81, .goto (9), 3, 90, 0, 0, 0, 0), (84, .aload_n 0, 1, 0, 0, 0, 0, 0), (85, .iload_n 1, 1, 1, 0, 0, 0, 0), (86, .iload_n 2, 1, 2, 0, 0, 0, 0), (87, .invokevirtual 209, 3, 71, 3, 0, 0, 0), (90, .istore 4, 2, 0, 0, 0, 0, 0), (92, .goto (-65), 3, 27, 0, 0, 0, 0), (95, .aload_n 0, 1, 0, 0, 0, 0, 0), (96, .iload_n 1, 1, 1, 0, 0, 0, 0), (97, .putfield 135, 3, 9, 18, 0, 0, 0), (100, .iload 4, 2, 0, 0, 0, 0, 0), (102, .ifCond .ge (9), 3, 111, 0, 0, 0, 0), (105, .iload 4, 2, 0, 0, 0, 0, 0), (107, .ineg, 1, 0, 0, 0, 0, 0), (108, .goto (4), 3, 112, 0, 0, 0, 0), (111, .iload_n 3, 1, 3, 0, 0, 0, 0), (112, .ireturn, 1, 0, 0, 0, 0, 0)]
/-- 71: StreamRefuterModel.beginning(II)I -/
def x_t71 : List xR := [(0, .aload_n 0, 1, 0, 0, 0, 0, 0), (1, .getfield 138, 3, 9, 19, 0, 0, 0), (4, .ifCond .eq (17), 3, 21, 0, 0, 0, 0), (7, .aload_n 0, 1, 0, 0, 0, 0, 0), (8, .getfield 125, 3, 9, 16, 0, 0, 0), (11, .aload_n 0, 1, 0, 0, 0, 0, 0), (12, .getfield 117, 3, 9, 1, 0, 0, 0), (15, .if_icmp .ne (15), 3, 30, 0, 0, 0, 0), (18, .goto (10), 3, 28, 0, 0, 0, 0), (21, .aload_n 0, 1, 0, 0, 0, 0, 0), (22, .invokevirtual 142, 3, 44, 1, 0, 0, 0), (25, .ifCond .ne (5), 3, 30, 0, 0, 0, 0), (28, .iconst (0), 1, 0, 0, 0, 0, 0), (29, .ireturn, 1, 0, 0, 0, 0, 0), (30, .aload_n 0, 1, 0, 0, 0, 0, 0), (31, .aload_n 0, 1, 0, 0, 0, 0, 0), (32, .getfield 138, 3, 9, 19, 0, 0, 0), (35, .ifCond .eq (10), 3, 45, 0, 0, 0, 0), (38, .aload_n 0, 1, 0, 0, 0, 0, 0), (39, .getfield 125, 3, 9, 16, 0, 0, 0), (42, .goto (7), 3, 49, 0, 0, 0, 0), (45, .aload_n 0, 1, 0, 0, 0, 0, 0), (46, .getfield 132, 3, 9, 17, 0, 0, 0), (49, .putfield 132, 3, 9, 17, 0, 0, 0), (52, .aload_n 0, 1, 0, 0, 0, 0, 0), (53, .getfield 138, 3, 9, 19, 0, 0, 0), (56, .ifCond .eq (25), 3, 81, 0, 0, 0, 0), (59, .aload_n 0, 1, 0, 0, 0, 0, 0), (60, .getfield 7, 3, 9, 2, 2, 0, 0), (63, .aload_n 0, 1, 0, 0, 0, 0, 0), (64, .getfield 125, 3, 9, 16, 0, 0, 0), (67, .iaload, 1, 0, 0, 0, 0, 0), (68, .bipush (100), 2, 0, 0, 0, 100, 0), (70, .if_icmp .ne (7), 3, 77, 0, 0, 0, 0), (73, .iconst (1), 1, 0, 0, 0, 1, 0), (74, .goto (13), 3, 87, 0, 0, 0, 0), (77, .iconst (0), 1, 0, 0, 0, 0, 0), (78, .goto (9), 3, 87, 0, 0, 0, 0), (81, .aload_n 0, 1, 0, 0, 0, 0, 0), (82, .bipush (100), 2, 0, 0, 0, 100, 0), (84, .invokevirtual 162, 3, 46, 2, 0, 0, 0), (87, .istore_n 3, 1, 3, 0, 0, 0, 0), (88, .aload_n 0, 1, 0, 0, 0, 0, 0), (89, .getfield 138, 3, 9, 19, 0, 0, 0), (92, .ifCond .eq (25), 3, 117, 0, 0, 0, 0), (95, .iload_n 3, 1, 3, 0, 0, 0, 0), (96, .ifCond .ne (21), 3, 117, 0, 0, 0, 0), (99, .aload_n 0, 1, 0, 0, 0, 0, 0), (100, .getfield 7, 3, 9, 2, 2, 0, 0), (103, .aload_n 0, 1, 0, 0, 0, 0, 0), (104, .getfield 125, 3, 9, 16, 0, 0, 0), (107, .iaload, 1, 0, 0, 0, 0, 0), (108, .bipush (97), 2, 0, 0, 0, 97, 0), (110, .if_icmp .eq (7), 3, 117, 0, 0, 0, 0), (113, .iconst (1), 1, 0, 0, 0, 1, 0), (114, .goto (4), 3, 118, 0, 0, 0, 0), (117, .iconst (0), 1, 0, 0, 0, 0, 0), (118, .istore 4, 2, 0, 0, 0, 0, 0), (120, .iload_n 1, 1, 1, 0, 0, 0, 0), (121, .bipush (80), 2, 0, 0, 0, 80, 0), (123, .if_icmp .eq (23), 3, 146, 0, 0, 0, 0), (126, .iload 4, 2, 0, 0, 0, 0, 0), (128, .ifCond .ne (18), 3, 146, 0, 0, 0, 0), (131, .iload_n 3, 1, 3, 0, 0, 0, 0), (132, .ifCond .ne (21), 3, 153, 0, 0, 0, 0), (135, .aload_n 0, 1, 0, 0, 0, 0, 0), (136, .getfield 187, 3, 9, 6, 0, 0, 0), (139, .iload_n 2, 1, 2, 0, 0, 0, 0), (140, .iadd, 1, 0, 0, 0, 0, 0), (141, .bipush (63), 2, 0, 0, 0, 63, 0), (143, .if_icmp .ne (10), 3, 153, 0, 0, 0, 0), (146, .iconst (-1), 1, 0, 0, 0, (-1), 0), (147, .aload_n 0, 1, 0, 0, 0, 0, 0), (148, .getfield 132, 3, 9, 17, 0, 0, 0), (151, .isub, 1, 0, 0, 0, 0, 0), (152, .ireturn, 1, 0, 0, 0, 0, 0), (153, .aload_n 0, 1, 0, 0, 0, 0, 0), (154, .aload_n 0, 1, 0, 0, 0, 0, 0), (155, .getfield 138, 3, 9, 19, 0, 0, 0), (158, .ifCond .eq (12), 3, 170, 0, 0, 0, 0), (161, .aload_n 0, 1, 0, 0, 0, 0, 0), (162, .getfield 125, 3, 9, 16, 0, 0, 0), (165, .iconst (1), 1, 0, 0, 0, 1, 0), (166, .iadd, 1, 0, 0, 0, 0, 0), (167, .goto (18), 3, 185, 0, 0, 0, 0), (170, .iload_n 3, 1, 3, 0, 0, 0, 0), (171, .ifCond .eq (10), 3, 181, 0, 0, 0, 0), (174, .aload_n 0, 1, 0, 0, 0, 0, 0), (175, .getfield 125, 3, 9, 16, 0, 0, 0), (178, .goto (7), 3, 185, 0, 0, 0, 0), (181, .aload_n 0, 1, 0, 0, 0, 0, 0), (182, .getfield 132, 3, 9, 17, 0, 0, 0), (185, .putfield 125, 3, 9, 16, 0, 0, 0), (188, .iload_n 3, 1, 3, 0, 0, 0, 0), (189, .ifCond .eq (7), 3, 196, 0, 0, 0, 0), (192, .iconst (2), 1, 0, 0, 0, 2, 0), (193, .goto (4), 3, 197, 0, 0, 0, 0), (196, .iconst (1), 1, 0, 0, 0, 1, 0), (197, .ireturn, 1, 0, 0, 0, 0, 0)]
/-- 72: StreamRefuterModel.same(I)I -/
def x_t72 : List xR := [(0, .iconst (1), 1, 0, 0, 0, 1, 0), (1, .istore_n 2, 1, 2, 0, 0, 0, 0), (2, .iload_n 2, 1, 2, 0, 0, 0, 0), (3, .aload_n 0, 1, 0, 0, 0, 0, 0), (4, .getfield 190, 3, 9, 7, 0, 0, 0), (7, .if_icmp .gt (87), 3, 94, 0, 0, 0, 0), (10, .aload_n 0, 1, 0, 0, 0, 0, 0), (11, .getfield 47, 3, 9, 28, 2, 0, 0), (14, .iload_n 2, 1, 2, 0, 0, 0, 0), (15, .baload, 1, 0, 0, 0, 0, 0), (16, .ifCond .eq (22), 3, 38, 0, 0, 0, 0), (19, .aload_n 0, 1, 0, 0, 0, 0, 0), (20, .getfield 16, 3, 9, 9, 2, 0, 0), (23, .iload_n 2, 1, 2, 0, 0, 0, 0), (24, .iaload, 1, 0, 0, 0, 0, 0), (25, .aload_n 0, 1, 0, 0, 0, 0, 0), (26, .getfield 35, 3, 9, 22, 2, 0, 0), (29, .iload_n 1, 1, 1, 0, 0, 0, 0), (30, .iaload, 1, 0, 0, 0, 0, 0), (31, .if_icmp .ne (7), 3, 38, 0, 0, 0, 0), (34, .iconst (1), 1, 0, 0, 0, 1, 0), (35, .goto (4), 3, 39, 0, 0, 0, 0), (38, .iconst (0), 1, 0, 0, 0, 0, 0), (39, .istore_n 3, 1, 3, 0, 0, 0, 0), (40, .iconst (0), 1, 0, 0, 0, 0, 0), (41, .istore 4, 2, 0, 0, 0, 0, 0), (43, .iload 4, 2, 0, 0, 0, 0, 0), (45, .aload_n 0, 1, 0, 0, 0, 0, 0), (46, .getfield 35, 3, 9, 22, 2, 0, 0), (49, .iload_n 1, 1, 1, 0, 0, 0, 0), (50, .iaload, 1, 0, 0, 0, 0, 0), (51, .if_icmp .ge (31), 3, 82, 0, 0, 0, 0), (54, .iload_n 3, 1, 3, 0, 0, 0, 0), (55, .ifCond .eq (27), 3, 82, 0, 0, 0, 0), (58, .aload_n 0, 1, 0, 0, 0, 0, 0), (59, .iload_n 2, 1, 2, 0, 0, 0, 0), (60, .aload_n 0, 1, 0, 0, 0, 0, 0), (61, .getfield 32, 3, 9, 21, 2, 0, 0), (64, .bipush (6), 2, 0, 0, 0, 6, 0), (66, .iload_n 1, 1, 1, 0, 0, 0, 0), (67, .imul, 1, 0, 0, 0, 0, 0), (68, .iload 4, 2, 0, 0, 0, 0, 0), (70, .iadd, 1, 0, 0, 0, 0, 0), (71, .iaload, 1, 0, 0, 0, 0, 0), (72, .invokevirtual 212, 3, 73, 3, 0, 0, 0), (75, .istore_n 3, 1, 3, 0, 0, 0, 0), (76, .iinc 4 (1), 3, 0, 0, 0, 1, 0), (79, .goto (-36), 3, 43, 0, 0, 0, 0), (82, .iload_n 3, 1, 3, 0, 0, 0, 0), (83, .ifCond .eq (5), 3, 88, 0, 0, 0, 0), (86, .iload_n 2, 1, 2, 0, 0, 0, 0), (87, .ireturn, 1, 0, 0, 0, 0, 0), (88, .iinc 2 (1), 3, 0, 0, 0, 1, 0), (91, .goto (-89), 3, 2, 0, 0, 0, 0), (94, .iconst (0), 1, 0, 0, 0, 0, 0), (95, .ireturn, 1, 0, 0, 0, 0, 0)]
/-- 73: StreamRefuterModel.hasLiteral(II)Z -/
def x_t73 : List xR := [(0, .iconst (0), 1, 0, 0, 0, 0, 0), (1, .istore_n 3, 1, 3, 0, 0, 0, 0), (2, .iconst (0), 1, 0, 0, 0, 0, 0), (3, .istore 4, 2, 0, 0, 0, 0, 0), (5, .iload 4, 2, 0, 0, 0, 0, 0), (7, .aload_n 0, 1, 0, 0, 0, 0, 0), (8, .getfield 16, 3, 9, 9, 2, 0, 0), (11, .iload_n 1, 1, 1, 0, 0, 0, 0), (12, .iaload, 1, 0, 0, 0, 0, 0), (13, .if_icmp .ge (35), 3, 48, 0, 0, 0, 0), (16, .iload_n 3, 1, 3, 0, 0, 0, 0), (17, .ifCond .ne (19), 3, 36, 0, 0, 0, 0), (20, .aload_n 0, 1, 0, 0, 0, 0, 0), (21, .getfield 13, 3, 9, 8, 2, 0, 0), (24, .bipush (6), 2, 0, 0, 0, 6, 0), (26, .iload_n 1, 1, 1, 0, 0, 0, 0), (27, .imul, 1, 0, 0, 0, 0, 0), (28, .iload 4, 2, 0, 0, 0, 0, 0), (30, .iadd, 1, 0, 0, 0, 0, 0), (31, .iaload, 1, 0, 0, 0, 0, 0), (32, .iload_n 2, 1, 2, 0, 0, 0, 0), (33, .if_icmp .ne (7), 3, 40, 0, 0, 0, 0), (36, .iconst (1), 1, 0, 0, 0, 1, 0), (37, .goto (4), 3, 41, 0, 0, 0, 0), (40, .iconst (0), 1, 0, 0, 0, 0, 0), (41, .istore_n 3, 1, 3, 0, 0, 0, 0), (42, .iinc 4 (1), 3, 0, 0, 0, 1, 0), (45, .goto (-40), 3, 5, 0, 0, 0, 0), (48, .iload_n 3, 1, 3, 0, 0, 0, 0), (49, .ireturn, 1, 0, 0, 1, 0, 0)]
/-- 74: StreamRefuterLaw.record(LStreamRefuter;[J)I -/
def x_t74 : List xR := [(0, .aload_n 1, 1, 1, 0, 0, 0, 0), (1, .iconst (0), 1, 0, 0, 0, 0, 0), (2, .aload_n 0, 1, 0, 0, 0, 0, 0), (3, .invokevirtual 21, 3, 75, 1, 0, 0, 0), (6, .i2l, 1, 0, 0, 0, 0, 0), (7, .lastore, 1, 0, 0, 0, 0, 0), (8, .goto (6), 3, 14, 0, 0, 0, 0), (11, .astore_n 2, 1, 2, 0, 0, 0, 0), (12, .iconst (1), 1, 0, 0, 0, 1, 0), (13, .ireturn, 1, 0, 0, 0, 0, 0), (14, .iconst (0), 1, 0, 0, 0, 0, 0), (15, .ireturn, 1, 0, 0, 0, 0, 0)]
/-- 75: StreamRefuter.record()I -/
def x_t75 : List xR := [(0, .aload_n 0, 1, 0, 0, 0, 0, 0), (1, .aload_n 0, 1, 0, 0, 0, 0, 0), (2, .getfield 49, 3, 0, 8, 2, 0, 0), (5, .aload_n 0, 1, 0, 0, 0, 0, 0), (6, .getfield 21, 3, 0, 1, 2, 0, 0), (9, .invokevirtual 112, 3, 76, 2, 0, 0, 0), (12, .putfield 70, 3, 0, 9, 0, 0, 0), (15, .aload_n 0, 1, 0, 0, 0, 0, 0), (16, .getfield 70, 3, 0, 9, 0, 0, 0), (19, .ifCond .eq (11), 3, 30, 0, 0, 0, 0), (22, .new 86, 3, 1, 0, 1, 0, 0), (30, .aload_n 0, 1, 0, 0, 0, 0, 0), (31, .invokevirtual 115, 3, 80, 1, 0, 0, 0), (34, .aload_n 0, 1, 0, 0, 0, 0, 0), (35, .getfield 45, 3, 0, 7, 2, 0, 0), (38, .getfield 118, 3, 5, 2, 0, 0, 0), (41, .ireturn, 1, 0, 0, 0, 0, 0)]
/-- 76: StreamRefuter$Tokens.readLines(LStreamRefuter$Words;)I -/
def x_t76 : List xR := [(0, .aload_n 0, 1, 0, 0, 0, 0, 0), (1, .invokevirtual 30, 3, 40, 1, 0, 0, 0), (4, .aload_n 1, 1, 1, 0, 0, 0, 0), (5, .invokevirtual 33, 3, 0, 1, 1, 0, 0), (8, .iconst (0), 1, 0, 0, 0, 0, 0), (9, .istore_n 2, 1, 2, 0, 0, 0, 0), (10, .iconst (1), 1, 0, 0, 0, 1, 0), (11, .istore_n 3, 1, 3, 0, 0, 0, 0), (12, .iload_n 3, 1, 3, 0, 0, 0, 0), (13, .sipush (900), 3, 0, 0, 0, 900, 0), (16, .if_icmp .gt (77), 3, 93, 0, 0, 0, 0), (19, .aload_n 1, 1, 1, 0, 0, 0, 0), (20, .invokevirtual 38, 3, 23, 1, 0, 0, 0), (23, .aload_n 1, 1, 1, 0, 0, 0, 0), (24, .getfield 41, 3, 2, 3, 0, 0, 0), (27, .sipush (20001), 3, 0, 0, 0, 20001, 0), (30, .if_icmp .ne (6), 3, 36, 0, 0, 0, 0), (33, .goto (60), 3, 93, 0, 0, 0, 0), (36, .iload_n 2, 1, 2, 0, 0, 0, 0), (37, .aload_n 1, 1, 1, 0, 0, 0, 0), (38, .getfield 41, 3, 2, 3, 0, 0, 0), (41, .invokestatic 44, 3, 77, 2, 0, 0, 0), (44, .ifCond .ne (8), 3, 52, 0, 0, 0, 0), (47, .aload_n 1, 1, 1, 0, 0, 0, 0), (48, .getfield 48, 3, 2, 2, 0, 0, 0), (51, .ireturn, 1, 0, 0, 0, 0, 0), (52, .aload_n 0, 1, 0, 0, 0, 0, 0), (53, .aload_n 1, 1, 1, 0, 0, 0, 0), (54, .getfield 41, 3, 2, 3, 0, 0, 0), (57, .invokevirtual 26, 3, 78, 2, 0, 0, 0), (60, .iload_n 2, 1, 2, 0, 0, 0, 0), (61, .aload_n 1, 1, 1, 0, 0, 0, 0), (62, .getfield 41, 3, 2, 3, 0, 0, 0), (65, .invokestatic 51, 3, 79, 2, 0, 0, 0), (68, .istore_n 2, 1, 2, 0, 0, 0, 0), (69, .aload_n 0, 1, 0, 0, 0, 0, 0), (70, .dup, 1, 0, 0, 0, 0, 0), (71, .getfield 19, 3, 5, 2, 0, 0, 0), (74, .iload_n 2, 1, 2, 0, 0, 0, 0), (75, .ifCond .ne (7), 3, 82, 0, 0, 0, 0), (78, .iconst (1), 1, 0, 0, 0, 1, 0), (79, .goto (4), 3, 83, 0, 0, 0, 0), (82, .iconst (0), 1, 0, 0, 0, 0, 0), (83, .iadd, 1, 0, 0, 0, 0, 0), (84, .putfield 19, 3, 5, 2, 0, 0, 0), (87, .iinc 3 (1), 3, 0, 0, 0, 1, 0), (90, .goto (-78), 3, 12, 0, 0, 0, 0), (93, .iload_n 2, 1, 2, 0, 0, 0, 0), (94, .ifCond .ne (7), 3, 101, 0, 0, 0, 0), (97, .iconst (0), 1, 0, 0, 0, 0, 0), (98, .goto (7), 3, 105, 0, 0, 0, 0), (101, .aload_n 1, 1, 1, 0, 0, 0, 0), (102, .getfield 48, 3, 2, 2, 0, 0, 0), (105, .ireturn, 1, 0, 0, 0, 0, 0)]
/-- 77: StreamRefuter$Tokens.canStand(II)Z -/
def x_t77 : List xR := [(0, .iload_n 1, 1, 1, 0, 0, 0, 0), (1, .sipush (10000), 3, 0, 0, 0, 10000, 0), (4, .if_icmp .ne (16), 3, 20, 0, 0, 0, 0), (7, .iload_n 0, 1, 0, 0, 0, 0, 0), (8, .iconst (1), 1, 0, 0, 0, 1, 0), (9, .if_icmp .ne (7), 3, 16, 0, 0, 0, 0), (12, .iconst (1), 1, 0, 0, 0, 1, 0), (13, .goto (19), 3, 32, 0, 0, 0, 0), (16, .iconst (0), 1, 0, 0, 0, 0, 0), (17, .goto (15), 3, 32, 0, 0, 0, 0), (20, .iload_n 1, 1, 1, 0, 0, 0, 0), (21, .sipush (20000), 3, 0, 0, 0, 20000, 0), (24, .if_icmp .eq (7), 3, 31, 0, 0, 0, 0), (27, .iconst (1), 1, 0, 0, 0, 1, 0), (28, .goto (4), 3, 32, 0, 0, 0, 0), (31, .iconst (0), 1, 0, 0, 0, 0, 0), (32, .ireturn, 1, 0, 0, 1, 0, 0)]
/-- 78: StreamRefuter$Tokens.add(I)V -/
def x_t78 : List xR := [(0, .aload_n 0, 1, 0, 0, 0, 0, 0), (1, .getfield 15, 3, 5, 1, 0, 0, 0), (4, .sipush (2000), 3, 0, 0, 0, 2000, 0), (7, .if_icmp .ge (13), 3, 20, 0, 0, 0, 0), (10, .aload_n 0, 1, 0, 0, 0, 0, 0), (11, .getfield 9, 3, 5, 0, 2, 0, 0), (14, .aload_n 0, 1, 0, 0, 0, 0, 0), (15, .getfield 15, 3, 5, 1, 0, 0, 0), (18, .iload_n 1, 1, 1, 0, 0, 0, 0), (19, .iastore, 1, 0, 0, 0, 0, 0), (20, .aload_n 0, 1, 0, 0, 0, 0, 0), (21, .dup, 1, 0, 0, 0, 0, 0), (22, .getfield 15, 3, 5, 1, 0, 0, 0), (25, .iconst (1), 1, 0, 0, 0, 1, 0), (26, .iadd, 1, 0, 0, 0, 0, 0), (27, .putfield 15, 3, 5, 1, 0, 0, 0), (30, .return_, 1, 0, 0, 0, 0, 0)]
/-- 79: StreamRefuter$Tokens.partBehind(II)I -/
def x_t79 : List xR := [(0, .iload_n 0, 1, 0, 0, 0, 0, 0), (1, .ifCond .ne (5), 3, 6, 0, 0, 0, 0), (4, .iconst (1), 1, 0, 0, 0, 1, 0), (5, .ireturn, 1, 0, 0, 0, 0, 0), (6, .iload_n 0, 1, 0, 0, 0, 0, 0), (7, .iconst (3), 1, 0, 0, 0, 3, 0), (8, .if_icmp .ne (13), 3, 21, 0, 0, 0, 0), (11, .iload_n 1, 1, 1, 0, 0, 0, 0), (12, .ifCond .ne (7), 3, 19, 0, 0, 0, 0), (15, .iconst (0), 1, 0, 0, 0, 0, 0), (16, .goto (4), 3, 20, 0, 0, 0, 0), (19, .iconst (3), 1, 0, 0, 0, 3, 0), (20, .ireturn, 1, 0, 0, 0, 0, 0), (21, .iload_n 1, 1, 1, 0, 0, 0, 0), (22, .ifCond .eq (10), 3, 32, 0, 0, 0, 0), (25, .iload_n 1, 1, 1, 0, 0, 0, 0), (26, .sipush (10000), 3, 0, 0, 0, 10000, 0), (29, .if_icmp .ne (7), 3, 36, 0, 0, 0, 0), (32, .iconst (3), 1, 0, 0, 0, 3, 0), (33, .goto (4), 3, 37, 0, 0, 0, 0), (36, .iconst (2), 1, 0, 0, 0, 2, 0), (37, .ireturn, 1, 0, 0, 0, 0, 0)]
/-- 80: StreamRefuter.adoptSpare()V -/
def x_t80 : List xR := [(0, .aload_n 0, 1, 0, 0, 0, 0, 0), (1, .getfield 45, 3, 0, 7, 2, 0, 0), (4, .astore_n 1, 1, 1, 0, 0, 0, 0), (5, .aload_n 0, 1, 0, 0, 0, 0, 0), (6, .aload_n 0, 1, 0, 0, 0, 0, 0), (7, .getfield 49, 3, 0, 8, 2, 0, 0), (10, .putfield 45, 3, 0, 7, 2, 0, 0), (13, .aload_n 0, 1, 0, 0, 0, 0, 0), (14, .aload_n 1, 1, 1, 0, 0, 0, 0), (15, .putfield 49, 3, 0, 8, 2, 0, 0), (18, .return_, 1, 0, 0, 0, 0, 0)]
/-- 81: StreamRefuterModel.record()I -/
def x_t81 : List xR := [(0, .aload_n 0, 1, 0, 0, 0, 0, 0), (1, .iconst (0), 1, 0, 0, 0, 0, 0), (2, .putfield 125, 3, 9, 16, 0, 0, 0), (5, .aload_n 0, 1, 0, 0, 0, 0, 0), (6, .iconst (0), 1, 0, 0, 0, 0, 0), (7, .putfield 138, 3, 9, 19, 3, 0, 0), (10, .aload_n 0, 1, 0, 0, 0, 0, 0), (11, .iconst (0), 1, 0, 0, 0, 0, 0), (12, .putfield 222, 3, 9, 26, 0, 0, 0), (15, .iconst (0), 1, 0, 0, 0, 0, 0), (16, .istore_n 1, 1, 1, 0, 0, 0, 0), (17, .iconst (0), 1, 0, 0, 0, 0, 0), (18, .istore_n 2, 1, 2, 0, 0, 0, 0), (19, .iload_n 2, 1, 2, 0, 0, 0, 0), (20, .ifCond .ne (21), 3, 41, 0, 0, 0, 0), (23, .aload_n 0, 1, 0, 0, 0, 0, 0), (24, .invokevirtual 142, 3, 44, 1, 0, 0, 0), (27, .ifCond .eq (14), 3, 41, 0, 0, 0, 0), (30, .aload_n 0, 1, 0, 0, 0, 0, 0), (31, .invokevirtual 232, 3, 82, 1, 0, 0, 0), (34, .istore_n 2, 1, 2, 0, 0, 0, 0), (35, .iinc 1 (1), 3, 0, 0, 0, 1, 0), (38, .goto (-19), 3, 19, 0, 0, 0, 0), (41, .aload_n 0, 1, 0, 0, 0, 0, 0), (42, .iload_n 2, 1, 2, 0, 0, 0, 0), (43, .putfield 122, 3, 9, 3, 0, 0, 0), (46, .aload_n 0, 1, 0, 0, 0, 0, 0), (47, .iload_n 2, 1, 2, 0, 0, 0, 0), (48, .ifCond .le (7), 3, 55, 0, 0, 0, 0), (51, .iconst (1), 1, 0, 0, 0, 1, 0), (52, .goto (4), 3, 56, 0, 0, 0, 0), (55, .iconst (0), 1, 0, 0, 0, 0, 0), (56, .putfield 113, 3, 9, 0, 0, 0, 0), (59, .aload_n 0, 1, 0, 0, 0, 0, 0), (60, .getfield 113, 3, 9, 0, 0, 0, 0), (63, .ifCond .le (5), 3, 68, 0, 0, 0, 0), (66, .iconst (0), 1, 0, 0, 0, 0, 0), (67, .ireturn, 1, 0, 0, 0, 0, 0), (68, .aload_n 0, 1, 0, 0, 0, 0, 0), (69, .invokevirtual 235, 3, 85, 1, 0, 0, 0), (72, .iload_n 1, 1, 1, 0, 0, 0, 0), (73, .ireturn, 1, 0, 0, 0, 0, 0)]
/-- 82: StreamRefuterModel.readLine()I -/
def x_t82 : List xR := [(0, .aload_n 0, 1, 0, 0, 0, 0, 0), (1, .invokevirtual 146, 3, 50, 1, 0, 0, 0), (4, .ifCond .ne (10), 3, 14, 0, 0, 0, 0), (7, .aload_n 0, 1, 0, 0, 0, 0, 0), (8, .getfield 132, 3, 9, 17, 0, 0, 0), (11, .iconst (1), 1, 0, 0, 0, 1, 0), (12, .iadd, 1, 0, 0, 0, 0, 0), (13, .ireturn, 1, 0, 0, 0, 0, 0), (14, .aload_n 0, 1, 0, 0, 0, 0, 0), (15, .aload_n 0, 1, 0, 0, 0, 0, 0), (16, .getfield 135, 3, 9, 18, 0, 0, 0), (19, .invokevirtual 225, 3, 83, 2, 0, 0, 0), (22, .aload_n 0, 1, 0, 0, 0, 0, 0), (23, .getfield 125, 3, 9, 16, 0, 0, 0), (26, .istore_n 1, 1, 1, 0, 0, 0, 0), (27, .aload_n 0, 1, 0, 0, 0, 0, 0), (28, .invokevirtual 142, 3, 44, 1, 0, 0, 0), (31, .ifCond .ne (10), 3, 41, 0, 0, 0, 0), (34, .aload_n 0, 1, 0, 0, 0, 0, 0), (35, .getfield 117, 3, 9, 1, 0, 0, 0), (38, .iconst (1), 1, 0, 0, 0, 1, 0), (39, .iadd, 1, 0, 0, 0, 0, 0), (40, .ireturn, 1, 0, 0, 0, 0, 0), (41, .aload_n 0, 1, 0, 0, 0, 0, 0), (42, .bipush (100), 2, 0, 0, 0, 100, 0), (44, .invokevirtual 162, 3, 46, 2, 0, 0, 0), (47, .ifCond .eq (15), 3, 62, 0, 0, 0, 0), (50, .aload_n 0, 1, 0, 0, 0, 0, 0), (51, .sipush (10000), 3, 0, 0, 0, 10000, 0), (54, .invokevirtual 225, 3, 83, 2, 0, 0, 0), (57, .aload_n 0, 1, 0, 0, 0, 0, 0), (58, .invokevirtual 229, 3, 84, 1, 0, 0, 0), (61, .ireturn, 1, 0, 0, 0, 0, 0), (62, .aload_n 0, 1, 0, 0, 0, 0, 0), (63, .iload_n 1, 1, 1, 0, 0, 0, 0), (64, .putfield 125, 3, 9, 16, 0, 0, 0), (67, .aload_n 0, 1, 0, 0, 0, 0, 0), (68, .invokevirtual 229, 3, 84, 1, 0, 0, 0), (71, .istore_n 2, 1, 2, 0, 0, 0, 0), (72, .iload_n 2, 1, 2, 0, 0, 0, 0), (73, .ifCond .le (7), 3, 80, 0, 0, 0, 0), (76, .iload_n 2, 1, 2, 0, 0, 0, 0), (77, .goto (7), 3, 84, 0, 0, 0, 0), (80, .aload_n 0, 1, 0, 0, 0, 0, 0), (81, .invokevirtual 229, 3, 84, 1, 0, 0, 0), (84, .ireturn, 1, 0, 0, 0, 0, 0)]
/-- 83: StreamRefuterModel.push(I)V -/
def x_t83 : List xR := [(0, .aload_n 0, 1, 0, 0, 0, 0, 0), (1, .getfield 222, 3, 9, 26, 0, 0, 0), (4, .sipush (2000), 3, 0, 0, 0, 2000, 0), (7, .if_icmp .ge (13), 3, 20, 0, 0, 0, 0), (10, .aload_n 0, 1, 0, 0, 0, 0, 0), (11, .getfield 44, 3, 9, 27, 2, 0, 0), (14, .aload_n 0, 1, 0, 0, 0, 0, 0), (15, .getfield 222, 3, 9, 26, 0, 0, 0), (18, .iload_n 1, 1, 1, 0, 0, 0, 0), (19, .iastore, 1, 0, 0, 0, 0, 0), (20, .aload_n 0, 1, 0, 0, 0, 0, 0), (21, .dup, 1, 0, 0, 0, 0, 0), (22, .getfield 222, 3, 9, 26, 0, 0, 0), (25, .iconst (1), 1, 0, 0, 0, 1, 0), (26, .iadd, 1, 0, 0, 0, 0, 0), (27, .putfield 222, 3, 9, 26, 0, 0, 0), (30, .return_, 1, 0, 0, 0, 0, 0)]
/-- 84: StreamRefuterModel.numbers()I -/
def x_t84 : List xR := [(0, .aload_n 0, 1, 0, 0, 0, 0, 0), (1, .invokevirtual 155, 3, 49, 1, 0, 0, 0), (4, .istore_n 1, 1, 1, 0, 0, 0, 0), (5, .iload_n 1, 1, 1, 0, 0, 0, 0), (6, .ifCond .ne (26), 3, 32, 0, 0, 0, 0), (9, .aload_n 0, 1, 0, 0, 0, 0, 0), (10, .getfield 135, 3, 9, 18, 0, 0, 0), (13, .ifCond .eq (19), 3, 32, 0, 0, 0, 0), (16, .aload_n 0, 1, 0, 0, 0, 0, 0), (17, .aload_n 0, 1, 0, 0, 0, 0, 0), (18, .getfield 135, 3, 9, 18, 0, 0, 0), (21, .invokevirtual 225, 3, 83, 2, 0, 0, 0), (24, .aload_n 0, 1, 0, 0, 0, 0, 0), (25, .invokevirtual 155, 3, 49, 1, 0, 0, 0), (28, .istore_n 1, 1, 1, 0, 0, 0, 0), (29, .goto (-24), 3, 5, 0, 0, 0, 0), (32, .aload_n 0, 1, 0, 0, 0, 0, 0), (33, .iconst (0), 1, 0, 0, 0, 0, 0), (34, .invokevirtual 225, 3, 83, 2, 0, 0, 0), (37, .iload_n 1, 1, 1, 0, 0, 0, 0), (38, .ireturn, 1, 0, 0, 0, 0, 0)]
/-- 85: StreamRefuterModel.keepTokens()V -/
def x_t85 : List xR := [(0, .aload_n 0, 1, 0, 0, 0, 0, 0), (1, .aload_n 0, 1, 0, 0, 0, 0, 0), (2, .getfield 222, 3, 9, 26, 0, 0, 0), (5, .putfield 203, 3, 9, 24, 0, 0, 0), (8, .iconst (0), 1, 0, 0, 0, 0, 0), (9, .istore_n 1, 1, 1, 0, 0, 0, 0), (10, .iload_n 1, 1, 1, 0, 0, 0, 0), (11, .aload_n 0, 1, 0, 0, 0, 0, 0), (12, .getfield 222, 3, 9, 26, 0, 0, 0), (15, .if_icmp .ge (21), 3, 36, 0, 0, 0, 0), (18, .aload_n 0, 1, 0, 0, 0, 0, 0), (19, .getfield 41, 3, 9, 25, 2, 0, 0), (22, .iload_n 1, 1, 1, 0, 0, 0, 0), (23, .aload_n 0, 1, 0, 0, 0, 0, 0), (24, .getfield 44, 3, 9, 27, 2, 0, 0), (27, .iload_n 1, 1, 1, 0, 0, 0, 0), (28, .iaload, 1, 0, 0, 0, 0, 0), (29, .iastore, 1, 0, 0, 0, 0, 0), (30, .iinc 1 (1), 3, 0, 0, 0, 1, 0), (33, .goto (-23), 3, 10, 0, 0, 0, 0), (36, .return_, 1, 0, 0, 0, 0, 0)]
/-- 86: StreamRefuter.fault()I -/
def x_t86 : List xR := [(0, .aload_n 0, 1, 0, 0, 0, 0, 0), (1, .getfield 70, 3, 0, 9, 0, 0, 0), (4, .ireturn, 1, 0, 0, 0, 0, 0)]
/-- 87: StreamRefuterModel.fault()I -/
def x_t87 : List xR := [(0, .aload_n 0, 1, 0, 0, 0, 0, 0), (1, .iconst (0), 1, 0, 0, 0, 0, 0), (2, .putfield 113, 3, 9, 0, 0, 0, 0), (5, .aload_n 0, 1, 0, 0, 0, 0, 0), (6, .getfield 122, 3, 9, 3, 0, 0, 0), (9, .ireturn, 1, 0, 0, 0, 0, 0)]
/-- 88: StreamRefuter.clauses()I -/
def x_t88 : List xR := [(0, .aload_n 0, 1, 0, 0, 0, 0, 0), (1, .getfield 35, 3, 0, 5, 2, 0, 0), (4, .getfield 121, 3, 4, 4, 0, 0, 0), (7, .ireturn, 1, 0, 0, 0, 0, 0)]
/-- 89: StreamRefuterModel.clauses()I -/
def x_t89 : List xR := [(0, .aload_n 0, 1, 0, 0, 0, 0, 0), (1, .iconst (0), 1, 0, 0, 0, 0, 0), (2, .putfield 113, 3, 9, 0, 0, 0, 0), (5, .aload_n 0, 1, 0, 0, 0, 0, 0), (6, .getfield 190, 3, 9, 7, 0, 0, 0), (9, .ireturn, 1, 0, 0, 0, 0, 0)]
/-- 90: StreamRefuter.literal(II)I -/
def x_t90 : List xR := [(0, .iload_n 1, 1, 1, 0, 0, 0, 0), (1, .iconst (1), 1, 0, 0, 0, 1, 0), (2, .if_icmp .lt (31), 3, 33, 0, 0, 0, 0), (5, .iload_n 1, 1, 1, 0, 0, 0, 0), (6, .aload_n 0, 1, 0, 0, 0, 0, 0), (7, .getfield 35, 3, 0, 5, 2, 0, 0), (10, .getfield 121, 3, 4, 4, 0, 0, 0), (13, .if_icmp .gt (20), 3, 33, 0, 0, 0, 0), (16, .iload_n 2, 1, 2, 0, 0, 0, 0), (17, .ifCond .lt (16), 3, 33, 0, 0, 0, 0), (20, .iload_n 2, 1, 2, 0, 0, 0, 0), (21, .aload_n 0, 1, 0, 0, 0, 0, 0), (22, .getfield 35, 3, 0, 5, 2, 0, 0), (25, .getfield 124, 3, 4, 7, 2, 0, 0), (28, .iload_n 1, 1, 1, 0, 0, 0, 0), (29, .iaload, 1, 0, 0, 0, 0, 0), (30, .if_icmp .lt (5), 3, 35, 0, 0, 0, 0), (33, .iconst (0), 1, 0, 0, 0, 0, 0), (34, .ireturn, 1, 0, 0, 0, 0, 0), (35, .aload_n 0, 1, 0, 0, 0, 0, 0), (36, .getfield 35, 3, 0, 5, 2, 0, 0), (39, .getfield 128, 3, 4, 6, 2, 0, 0), (42, .iload_n 1, 1, 1, 0, 0, 0, 0), (43, .bipush (6), 2, 0, 0, 0, 6, 0), (45, .imul, 1, 0, 0, 0, 0, 0), (46, .iload_n 2, 1, 2, 0, 0, 0, 0), (47, .iadd, 1, 0, 0, 0, 0, 0), (48, .iaload, 1, 0, 0, 0, 0, 0), (49, .ireturn, 1, 0, 0, 0, 0, 0)]
/-- 91: StreamRefuterModel.literal(II)I -/
def x_t91 : List xR := [(0, .aload_n 0, 1, 0, 0, 0, 0, 0), (1, .iconst (0), 1, 0, 0, 0, 0, 0), (2, .putfield 113, 3, 9, 0, 0, 0, 0), (5, .iload_n 1, 1, 1, 0, 0, 0, 0), (6, .iconst (1), 1, 0, 0, 0, 1, 0), (7, .if_icmp .lt (25), 3, 32, 0, 0, 0, 0), (10, .iload_n 1, 1, 1, 0, 0, 0, 0), (11, .aload_n 0, 1, 0, 0, 0, 0, 0), (12, .getfield 190, 3, 9, 7, 0, 0, 0), (15, .if_icmp .gt (17), 3, 32, 0, 0, 0, 0), (18, .iload_n 2, 1, 2, 0, 0, 0, 0), (19, .ifCond .lt (13), 3, 32, 0, 0, 0, 0), (22, .iload_n 2, 1, 2, 0, 0, 0, 0), (23, .aload_n 0, 1, 0, 0, 0, 0, 0), (24, .getfield 16, 3, 9, 9, 2, 0, 0), (27, .iload_n 1, 1, 1, 0, 0, 0, 0), (28, .iaload, 1, 0, 0, 0, 0, 0), (29, .if_icmp .lt (7), 3, 36, 0, 0, 0, 0), (32, .iconst (0), 1, 0, 0, 0, 0, 0), (33, .goto (14), 3, 47, 0, 0, 0, 0), (36, .aload_n 0, 1, 0, 0, 0, 0, 0), (37, .getfield 13, 3, 9, 8, 2, 0, 0), (40, .bipush (6), 2, 0, 0, 0, 6, 0), (42, .iload_n 1, 1, 1, 0, 0, 0, 0), (43, .imul, 1, 0, 0, 0, 0, 0), (44, .iload_n 2, 1, 2, 0, 0, 0, 0), (45, .iadd, 1, 0, 0, 0, 0, 0), (46, .iaload, 1, 0, 0, 0, 0, 0), (47, .ireturn, 1, 0, 0, 0, 0, 0)]
/-- 92: StreamRefuterLaw.end(LStreamRefuter;[J)I -/
def x_t92 : List xR := [(0, .aload_n 1, 1, 1, 0, 0, 0, 0), (1, .iconst (0), 1, 0, 0, 0, 0, 0), (2, .aload_n 0, 1, 0, 0, 0, 0, 0), (3, .invokevirtual 24, 3, 93, 1, 0, 0, 0), (6, .i2l, 1, 0, 0, 0, 0, 0), (7, .lastore, 1, 0, 0, 0, 0, 0), (8, .goto (6), 3, 14, 0, 0, 0, 0), (11, .astore_n 2, 1, 2, 0, 0, 0, 0), (12, .iconst (1), 1, 0, 0, 0, 1, 0), (13, .ireturn, 1, 0, 0, 0, 0, 0), (14, .iconst (0), 1, 0, 0, 0, 0, 0), (15, .ireturn, 1, 0, 0, 0, 0, 0)]
/-- 93: StreamRefuter.end()I -/
def x_t93 : List xR := [(0, .aload_n 0, 1, 0, 0, 0, 0, 0), (1, .getfield 35, 3, 0, 5, 2, 0, 0), (4, .getfield 131, 3, 4, 1, 0, 0, 0), (7, .ifCond .ne (11), 3, 18, 0, 0, 0, 0), (10, .new 102, 3, 2, 0, 1, 0, 0), (18, .aload_n 0, 1, 0, 0, 0, 0, 0), (19, .getfield 57, 3, 0, 3, 2, 0, 0), (22, .aload_n 0, 1, 0, 0, 0, 0, 0), (23, .getfield 35, 3, 0, 5, 2, 0, 0), (26, .invokevirtual 134, 3, 94, 2, 0, 0, 0), (29, .ireturn, 1, 0, 0, 0, 0, 0)]
/-- 94: StreamRefuter$Refuter.findEnd(LStreamRefuter$Problem;)I -/
def x_t94 : List xR := [(0, .iconst (0), 1, 0, 0, 0, 0, 0), (1, .istore_n 2, 1, 2, 0, 0, 0, 0), (2, .iload_n 2, 1, 2, 0, 0, 0, 0), (3, .aload_n 1, 1, 1, 0, 0, 0, 0), (4, .getfield 56, 3, 4, 5, 0, 0, 0), (7, .if_icmp .gt (30), 3, 37, 0, 0, 0, 0), (10, .aload_n 0, 1, 0, 0, 0, 0, 0), (11, .getfield 52, 3, 7, 0, 2, 0, 0), (14, .aload_n 1, 1, 1, 0, 0, 0, 0), (15, .aload_n 1, 1, 1, 0, 0, 0, 0), (16, .getfield 61, 3, 4, 10, 2, 0, 0), (19, .iload_n 2, 1, 2, 0, 0, 0, 0), (20, .laload, 1, 0, 0, 0, 0, 0), (21, .lconst 0, 1, 0, 0, 0, 0, 0), (22, .iconst (0), 1, 0, 0, 0, 0, 0), (23, .invokevirtual 64, 3, 95, 5, 0, 0, 0), (26, .ifCond .eq (5), 3, 31, 0, 0, 0, 0), (29, .iload_n 2, 1, 2, 0, 0, 0, 0), (30, .ireturn, 1, 0, 0, 0, 0, 0), (31, .iinc 2 (1), 3, 0, 0, 0, 1, 0), (34, .goto (-32), 3, 2, 0, 0, 0, 0), (37, .iconst (-1), 1, 0, 0, 0, (-1), 0), (38, .ireturn, 1, 0, 0, 0, 0, 0)]
/-- 95: StreamRefuter$Propagation.start(LStreamRefuter$Problem;JJI)Z -/
def x_t95 : List xR := [(0, .aload_n 0, 1, 0, 0, 0, 0, 0), (1, .aload_n 1, 1, 1, 0, 0, 0, 0), (2, .putfield 41, 3, 6, 0, 2, 0, 0), (5, .aload_n 0, 1, 0, 0, 0, 0, 0), (6, .lload_n 2, 1, 2, 0, 0, 0, 0), (7, .putfield 9, 3, 6, 1, 1, 0, 0), (10, .aload_n 0, 1, 0, 0, 0, 0, 0), (11, .iload 6, 2, 0, 0, 0, 0, 0), (13, .putfield 15, 3, 6, 2, 0, 0, 0), (16, .aload_n 0, 1, 0, 0, 0, 0, 0), (17, .iconst (0), 1, 0, 0, 0, 0, 0), (18, .putfield 29, 3, 6, 6, 0, 0, 0), (21, .aload_n 0, 1, 0, 0, 0, 0, 0), (22, .lload 4, 2, 0, 0, 0, 0, 0), (24, .invokevirtual 45, 3, 96, 2, 0, 0, 0), (27, .istore 7, 2, 0, 0, 0, 0, 0), (29, .aload_n 0, 1, 0, 0, 0, 0, 0), (30, .aload_n 0, 1, 0, 0, 0, 0, 0), (31, .getfield 15, 3, 6, 2, 0, 0, 0), (34, .putfield 19, 3, 6, 3, 0, 0, 0), (37, .aload_n 0, 1, 0, 0, 0, 0, 0), (38, .aload_n 0, 1, 0, 0, 0, 0, 0), (39, .getfield 29, 3, 6, 6, 0, 0, 0), (42, .putfield 32, 3, 6, 7, 0, 0, 0), (45, .iload 7, 2, 0, 0, 0, 0, 0), (47, .ireturn, 1, 0, 0, 1, 0, 0)]
/-- 96: StreamRefuter$Propagation.goOn(J)Z -/
def x_t96 : List xR := [(0, .aload_n 0, 1, 0, 0, 0, 0, 0), (1, .getfield 29, 3, 6, 6, 0, 0, 0), (4, .aload_n 0, 1, 0, 0, 0, 0, 0), (5, .getfield 22, 3, 6, 4, 2, 0, 0), (8, .arraylength, 1, 0, 0, 0, 0, 0), (9, .if_icmp .ge (113), 3, 122, 0, 0, 0, 0), (12, .aload_n 0, 1, 0, 0, 0, 0, 0), (13, .lload_n 1, 1, 1, 0, 0, 0, 0), (14, .invokevirtual 65, 3, 97, 2, 0, 0, 0), (17, .istore_n 3, 1, 3, 0, 0, 0, 0), (18, .iload_n 3, 1, 3, 0, 0, 0, 0), (19, .ifCond .ne (5), 3, 24, 0, 0, 0, 0), (22, .iconst (0), 1, 0, 0, 0, 0, 0), (23, .ireturn, 1, 0, 0, 1, 0, 0), (24, .aload_n 0, 1, 0, 0, 0, 0, 0), (25, .getfield 41, 3, 6, 0, 2, 0, 0), (28, .getfield 49, 3, 4, 8, 2, 0, 0), (31, .iload_n 3, 1, 3, 0, 0, 0, 0), (32, .iaload, 1, 0, 0, 0, 0, 0), (33, .aload_n 0, 1, 0, 0, 0, 0, 0), (34, .getfield 15, 3, 6, 2, 0, 0, 0), (37, .invokestatic 54, 3, 33, 1, 0, 0, 0), (40, .iconst (-1), 1, 0, 0, 0, (-1), 0), (41, .ixor, 1, 0, 0, 0, 0, 0), (42, .iand, 1, 0, 0, 0, 0, 0), (43, .istore 4, 2, 0, 0, 0, 0, 0), (45, .iload 4, 2, 0, 0, 0, 0, 0), (47, .ifCond .ne (30), 3, 77, 0, 0, 0, 0), (50, .aload_n 0, 1, 0, 0, 0, 0, 0), (51, .iload_n 3, 1, 3, 0, 0, 0, 0), (52, .putfield 35, 3, 6, 8, 0, 0, 0), (55, .aload_n 0, 1, 0, 0, 0, 0, 0), (56, .aload_n 0, 1, 0, 0, 0, 0, 0), (57, .aload_n 0, 1, 0, 0, 0, 0, 0), (58, .getfield 41, 3, 6, 0, 2, 0, 0), (61, .getfield 49, 3, 4, 8, 2, 0, 0), (64, .iload_n 3, 1, 3, 0, 0, 0, 0), (65, .iaload, 1, 0, 0, 0, 0, 0), (66, .invokestatic 54, 3, 33, 1, 0, 0, 0), (69, .invokevirtual 62, 3, 98, 2, 0, 0, 0), (72, .putfield 38, 3, 6, 9, 0, 0, 0), (75, .iconst (1), 1, 0, 0, 0, 1, 0), (76, .ireturn, 1, 0, 0, 1, 0, 0), (77, .aload_n 0, 1, 0, 0, 0, 0, 0), (78, .getfield 22, 3, 6, 4, 2, 0, 0), (81, .aload_n 0, 1, 0, 0, 0, 0, 0), (82, .getfield 29, 3, 6, 6, 0, 0, 0), (85, .iload_n 3, 1, 3, 0, 0, 0, 0), (86, .iastore, 1, 0, 0, 0, 0, 0), (87, .aload_n 0, 1, 0, 0, 0, 0, 0), (88, .getfield 26, 3, 6, 5, 2, 0, 0), (91, .aload_n 0, 1, 0, 0, 0, 0, 0), (92, .getfield 29, 3, 6, 6, 0, 0, 0), (95, .iload 4, 2, 0, 0, 0, 0, 0), (97, .iastore, 1, 0, 0, 0, 0, 0), (98, .aload_n 0, 1, 0, 0, 0, 0, 0), (99, .dup, 1, 0, 0, 0, 0, 0), (100, .getfield 29, 3, 6, 6, 0, 0, 0), (103, .iconst (1), 1, 0, 0, 0, 1, 0), (104, .iadd, 1, 0, 0, 0, 0, 0), (105, .putfield 29, 3, 6, 6, 0, 0, 0), (108, .aload_n 0, 1, 0, 0, 0, 0, 0), (109, .dup, 1, 0, 0, 0, 0, 0), (110, .getfield 15, 3, 6, 2, 0, 0, 0), (113, .iload 4, 2, 0, 0, 0, 0, 0), (115, .ior, 1, 0, 0, 0, 0, 0), (116, .putfield 15, 3, 6, 2, 0, 0, 0), (119, .goto (-119), 3, 0, 0, 0, 0, 0), (122, .iconst (0), 1, 0, 0, 0, 0, 0), (123, .ireturn, 1, 0, 0, 1, 0, 0)]
/-- 97: StreamRefuter$Propagation.pickReady(J)I -/
def x_t97 : List xR := [(0, .aload_n 0, 1, 0, 0, 0, 0, 0), (1, .getfield 15, 3, 6, 2, 0, 0, 0), (4, .invokestatic 54, 3, 33, 1, 0, 0, 0), (7, .istore_n 3, 1, 3, 0, 0, 0, 0), (8, .iconst (0), 1, 0, 0, 0, 0, 0), (9, .istore 4, 2, 0, 0, 0, 0, 0), (11, .iconst (1), 1, 0, 0, 0, 1, 0), (12, .istore 5, 2, 0, 0, 0, 0, 0), (14, .iload 5, 2, 0, 0, 0, 0, 0), (16, .aload_n 0, 1, 0, 0, 0, 0, 0), (17, .getfield 41, 3, 6, 0, 2, 0, 0), (20, .getfield 69, 3, 4, 4, 0, 0, 0), (23, .if_icmp .gt (95), 3, 118, 0, 0, 0, 0), (26, .aload_n 0, 1, 0, 0, 0, 0, 0), (27, .getfield 41, 3, 6, 0, 2, 0, 0), (30, .getfield 49, 3, 4, 8, 2, 0, 0), (33, .iload 5, 2, 0, 0, 0, 0, 0), (35, .iaload, 1, 0, 0, 0, 0, 0), (36, .iload_n 3, 1, 3, 0, 0, 0, 0), (37, .iconst (-1), 1, 0, 0, 0, (-1), 0), (38, .ixor, 1, 0, 0, 0, 0, 0), (39, .iand, 1, 0, 0, 0, 0, 0), (40, .istore 6, 2, 0, 0, 0, 0, 0), (42, .iload 6, 2, 0, 0, 0, 0, 0), (44, .iload 6, 2, 0, 0, 0, 0, 0), (46, .iconst (1), 1, 0, 0, 0, 1, 0), (47, .isub, 1, 0, 0, 0, 0, 0), (48, .iand, 1, 0, 0, 0, 0, 0), (49, .ifCond .ne (17), 3, 66, 0, 0, 0, 0), (52, .iload 6, 2, 0, 0, 0, 0, 0), (54, .aload_n 0, 1, 0, 0, 0, 0, 0), (55, .getfield 15, 3, 6, 2, 0, 0, 0), (58, .iand, 1, 0, 0, 0, 0, 0), (59, .ifCond .ne (7), 3, 66, 0, 0, 0, 0), (62, .iconst (1), 1, 0, 0, 0, 1, 0), (63, .goto (4), 3, 67, 0, 0, 0, 0), (66, .iconst (0), 1, 0, 0, 0, 0, 0), (67, .istore 7, 2, 0, 0, 0, 0, 0), (69, .iload 7, 2, 0, 0, 0, 0, 0), (71, .ifCond .eq (41), 3, 112, 0, 0, 0, 0), (74, .aload_n 0, 1, 0, 0, 0, 0, 0), (75, .getfield 9, 3, 6, 1, 1, 0, 0), (78, .iload 5, 2, 0, 0, 0, 0, 0), (80, .invokestatic 72, 3, 68, 2, 0, 0, 0), (83, .ifCond .eq (29), 3, 112, 0, 0, 0, 0), (86, .lload_n 1, 1, 1, 0, 0, 0, 0), (87, .iload 5, 2, 0, 0, 0, 0, 0), (89, .invokestatic 72, 3, 68, 2, 0, 0, 0), (92, .ifCond .eq (6), 3, 98, 0, 0, 0, 0), (95, .iload 5, 2, 0, 0, 0, 0, 0), (97, .ireturn, 1, 0, 0, 0, 0, 0), (98, .iload 4, 2, 0, 0, 0, 0, 0), (100, .ifCond .ne (8), 3, 108, 0, 0, 0, 0), (103, .iload 5, 2, 0, 0, 0, 0, 0), (105, .goto (5), 3, 110, 0, 0, 0, 0), (108, .iload 4, 2, 0, 0, 0, 0, 0), (110, .istore 4, 2, 0, 0, 0, 0, 0), (112, .iinc 5 (1), 3, 0, 0, 0, 1, 0), (115, .goto (-101), 3, 14, 0, 0, 0, 0), (118, .iload 4, 2, 0, 0, 0, 0, 0), (120, .ireturn, 1, 0, 0, 0, 0, 0)]
/-- 98: StreamRefuter$Propagation.neededFor(I)I -/
def x_t98 : List xR := [(0, .iload_n 1, 1, 1, 0, 0, 0, 0), (1, .istore_n 2, 1, 2, 0, 0, 0, 0), (2, .iconst (0), 1, 0, 0, 0, 0, 0), (3, .istore_n 3, 1, 3, 0, 0, 0, 0), (4, .aload_n 0, 1, 0, 0, 0, 0, 0), (5, .getfield 29, 3, 6, 6, 0, 0, 0), (8, .iconst (1), 1, 0, 0, 0, 1, 0), (9, .isub, 1, 0, 0, 0, 0, 0), (10, .istore 4, 2, 0, 0, 0, 0, 0), (12, .iload 4, 2, 0, 0, 0, 0, 0), (14, .ifCond .lt (59), 3, 73, 0, 0, 0, 0), (17, .aload_n 0, 1, 0, 0, 0, 0, 0), (18, .getfield 26, 3, 6, 5, 2, 0, 0), (21, .iload 4, 2, 0, 0, 0, 0, 0), (23, .iaload, 1, 0, 0, 0, 0, 0), (24, .iload_n 2, 1, 2, 0, 0, 0, 0), (25, .iand, 1, 0, 0, 0, 0, 0), (26, .ifCond .eq (41), 3, 67, 0, 0, 0, 0), (29, .iload_n 3, 1, 3, 0, 0, 0, 0), (30, .iconst (1), 1, 0, 0, 0, 1, 0), (31, .iload 4, 2, 0, 0, 0, 0, 0), (33, .ishl, 1, 0, 0, 0, 0, 0), (34, .ior, 1, 0, 0, 0, 0, 0), (35, .istore_n 3, 1, 3, 0, 0, 0, 0), (36, .iload_n 2, 1, 2, 0, 0, 0, 0), (37, .aload_n 0, 1, 0, 0, 0, 0, 0), (38, .getfield 41, 3, 6, 0, 2, 0, 0), (41, .getfield 49, 3, 4, 8, 2, 0, 0), (44, .aload_n 0, 1, 0, 0, 0, 0, 0), (45, .getfield 22, 3, 6, 4, 2, 0, 0), (48, .iload 4, 2, 0, 0, 0, 0, 0), (50, .iaload, 1, 0, 0, 0, 0, 0), (51, .iaload, 1, 0, 0, 0, 0, 0), (52, .aload_n 0, 1, 0, 0, 0, 0, 0), (53, .getfield 26, 3, 6, 5, 2, 0, 0), (56, .iload 4, 2, 0, 0, 0, 0, 0), (58, .iaload, 1, 0, 0, 0, 0, 0), (59, .iconst (-1), 1, 0, 0, 0, (-1), 0), (60, .ixor, 1, 0, 0, 0, 0, 0), (61, .iand, 1, 0, 0, 0, 0, 0), (62, .invokestatic 54, 3, 33, 1, 0, 0, 0), (65, .ior, 1, 0, 0, 0, 0, 0), (66, .istore_n 2, 1, 2, 0, 0, 0, 0), (67, .iinc 4 (-1), 3, 0, 0, 0, (-1), 0), (70, .goto (-58), 3, 12, 0, 0, 0, 0), (73, .iload_n 3, 1, 3, 0, 0, 0, 0), (74, .ireturn, 1, 0, 0, 0, 0, 0)]
/-- 99: StreamRefuterModel.end()I -/
def x_t99 : List xR := [(0, .aload_n 0, 1, 0, 0, 0, 0, 0), (1, .aload_n 0, 1, 0, 0, 0, 0, 0), (2, .getfield 197, 3, 9, 10, 0, 0, 0), (5, .ifCond .eq (7), 3, 12, 0, 0, 0, 0), (8, .iconst (0), 1, 0, 0, 0, 0, 0), (9, .goto (4), 3, 13, 0, 0, 0, 0), (12, .iconst (1), 1, 0, 0, 0, 1, 0), (13, .putfield 113, 3, 9, 0, 0, 0, 0), (16, .aload_n 0, 1, 0, 0, 0, 0, 0), (17, .getfield 113, 3, 9, 0, 0, 0, 0), (20, .ifCond .le (7), 3, 27, 0, 0, 0, 0), (23, .iconst (0), 1, 0, 0, 0, 0, 0), (24, .goto (7), 3, 31, 0, 0, 0, 0), (27, .aload_n 0, 1, 0, 0, 0, 0, 0), (28, .invokevirtual 277, 3, 100, 1, 0, 0, 0), (31, .ireturn, 1, 0, 0, 0, 0, 0)]
/-- 100: StreamRefuterModel.findEnd()I -/
def x_t100 : List xR := [(0, .iconst (0), 1, 0, 0, 0, 0, 0), (1, .istore_n 1, 1, 1, 0, 0, 0, 0), (2, .iload_n 1, 1, 1, 0, 0, 0, 0), (3, .aload_n 0, 1, 0, 0, 0, 0, 0), (4, .getfield 200, 3, 9, 11, 0, 0, 0), (7, .if_icmp .gt (31), 3, 38, 0, 0, 0, 0), (10, .aload_n 0, 1, 0, 0, 0, 0, 0), (11, .iload_n 1, 1, 1, 0, 0, 0, 0), (12, .invokevirtual 274, 3, 101, 2, 0, 0, 0), (15, .aload_n 0, 1, 0, 0, 0, 0, 0), (16, .invokevirtual 259, 3, 102, 1, 0, 0, 0), (19, .aload_n 0, 1, 0, 0, 0, 0, 0), (20, .invokevirtual 262, 3, 103, 1, 0, 0, 0), (23, .aload_n 0, 1, 0, 0, 0, 0, 0), (24, .getfield 247, 3, 9, 33, 0, 0, 0), (27, .ifCond .le (5), 3, 32, 0, 0, 0, 0), (30, .iload_n 1, 1, 1, 0, 0, 0, 0), (31, .ireturn, 1, 0, 0, 0, 0, 0), (32, .iinc 1 (1), 3, 0, 0, 0, 1, 0), (35, .goto (-33), 3, 2, 0, 0, 0, 0), (38, .iconst (-1), 1, 0, 0, 0, (-1), 0), (39, .ireturn, 1, 0, 0, 0, 0, 0)]
/-- 101: StreamRefuterModel.liveAfter(I)V -/
def x_t101 : List xR := [(0, .iconst (0), 1, 0, 0, 0, 0, 0), (1, .istore_n 2, 1, 2, 0, 0, 0, 0), (2, .iload_n 2, 1, 2, 0, 0, 0, 0), (3, .bipush (64), 2, 0, 0, 0, 64, 0), (5, .if_icmp .ge (39), 3, 44, 0, 0, 0, 0), (8, .aload_n 0, 1, 0, 0, 0, 0, 0), (9, .getfield 47, 3, 9, 28, 2, 0, 0), (12, .iload_n 2, 1, 2, 0, 0, 0, 0), (13, .iload_n 2, 1, 2, 0, 0, 0, 0), (14, .ifCond .le (15), 3, 29, 0, 0, 0, 0), (17, .iload_n 2, 1, 2, 0, 0, 0, 0), (18, .aload_n 0, 1, 0, 0, 0, 0, 0), (19, .getfield 187, 3, 9, 6, 0, 0, 0), (22, .if_icmp .gt (7), 3, 29, 0, 0, 0, 0), (25, .iconst (1), 1, 0, 0, 0, 1, 0), (26, .goto (4), 3, 30, 0, 0, 0, 0), (29, .iconst (0), 1, 0, 0, 0, 0, 0), (30, .bastore, 1, 0, 0, 0, 0, 0), (31, .aload_n 0, 1, 0, 0, 0, 0, 0), (32, .getfield 50, 3, 9, 29, 2, 0, 0), (35, .iload_n 2, 1, 2, 0, 0, 0, 0), (36, .iconst (0), 1, 0, 0, 0, 0, 0), (37, .bastore, 1, 0, 0, 0, 0, 0), (38, .iinc 2 (1), 3, 0, 0, 0, 1, 0), (41, .goto (-39), 3, 2, 0, 0, 0, 0), (44, .iconst (1), 1, 0, 0, 0, 1, 0), (45, .istore_n 2, 1, 2, 0, 0, 0, 0), (46, .iload_n 2, 1, 2, 0, 0, 0, 0), (47, .iload_n 1, 1, 1, 0, 0, 0, 0), (48, .if_icmp .gt (26), 3, 74, 0, 0, 0, 0), (51, .aload_n 0, 1, 0, 0, 0, 0, 0), (52, .getfield 47, 3, 9, 28, 2, 0, 0), (55, .aload_n 0, 1, 0, 0, 0, 0, 0), (56, .getfield 23, 3, 9, 13, 2, 0, 0), (59, .iload_n 2, 1, 2, 0, 0, 0, 0), (60, .iaload, 1, 0, 0, 0, 0, 0), (61, .aload_n 0, 1, 0, 0, 0, 0, 0), (62, .getfield 19, 3, 9, 12, 2, 0, 0), (65, .iload_n 2, 1, 2, 0, 0, 0, 0), (66, .baload, 1, 0, 0, 0, 0, 0), (67, .bastore, 1, 0, 0, 0, 0, 0), (68, .iinc 2 (1), 3, 0, 0, 0, 1, 0), (71, .goto (-25), 3, 46, 0, 0, 0, 0), (74, .return_, 1, 0, 0, 0, 0, 0)]
/-- 102: StreamRefuterModel.beginEmpty()V -/
def x_t102 : List xR := [(0, .aload_n 0, 1, 0, 0, 0, 0, 0), (1, .iconst (0), 1, 0, 0, 0, 0, 0), (2, .putfield 253, 3, 9, 34, 0, 0, 0), (5, .iconst (0), 1, 0, 0, 0, 0, 0), (6, .istore_n 1, 1, 1, 0, 0, 0, 0), (7, .iload_n 1, 1, 1, 0, 0, 0, 0), (8, .bipush (17), 2, 0, 0, 0, 17, 0), (10, .if_icmp .ge (16), 3, 26, 0, 0, 0, 0), (13, .aload_n 0, 1, 0, 0, 0, 0, 0), (14, .getfield 53, 3, 9, 30, 2, 0, 0), (17, .iload_n 1, 1, 1, 0, 0, 0, 0), (18, .iconst (0), 1, 0, 0, 0, 0, 0), (19, .iastore, 1, 0, 0, 0, 0, 0), (20, .iinc 1 (1), 3, 0, 0, 0, 1, 0), (23, .goto (-16), 3, 7, 0, 0, 0, 0), (26, .return_, 1, 0, 0, 0, 0, 0)]
/-- 103: StreamRefuterModel.propagate()V -/
def x_t103 : List xR := [(0, .aload_n 0, 1, 0, 0, 0, 0, 0), (1, .iconst (0), 1, 0, 0, 0, 0, 0), (2, .putfield 247, 3, 9, 33, 0, 0, 0), (5, .aload_n 0, 1, 0, 0, 0, 0, 0), (6, .invokevirtual 250, 3, 104, 1, 0, 0, 0), (9, .istore_n 1, 1, 1, 0, 0, 0, 0), (10, .iload_n 1, 1, 1, 0, 0, 0, 0), (11, .ifCond .le (74), 3, 85, 0, 0, 0, 0), (14, .aload_n 0, 1, 0, 0, 0, 0, 0), (15, .iload_n 1, 1, 1, 0, 0, 0, 0), (16, .invokevirtual 244, 3, 105, 2, 0, 0, 0), (19, .istore_n 2, 1, 2, 0, 0, 0, 0), (20, .aload_n 0, 1, 0, 0, 0, 0, 0), (21, .getfield 59, 3, 9, 35, 2, 0, 0), (24, .aload_n 0, 1, 0, 0, 0, 0, 0), (25, .getfield 253, 3, 9, 34, 0, 0, 0), (28, .iload_n 1, 1, 1, 0, 0, 0, 0), (29, .iastore, 1, 0, 0, 0, 0, 0), (30, .aload_n 0, 1, 0, 0, 0, 0, 0), (31, .getfield 62, 3, 9, 36, 2, 0, 0), (34, .aload_n 0, 1, 0, 0, 0, 0, 0), (35, .getfield 253, 3, 9, 34, 0, 0, 0), (38, .aload_n 0, 1, 0, 0, 0, 0, 0), (39, .getfield 238, 3, 9, 32, 0, 0, 0), (42, .invokestatic 149, 3, 53, 1, 0, 0, 0), (45, .iastore, 1, 0, 0, 0, 0, 0), (46, .aload_n 0, 1, 0, 0, 0, 0, 0), (47, .dup, 1, 0, 0, 0, 0, 0), (48, .getfield 253, 3, 9, 34, 0, 0, 0), (51, .iconst (1), 1, 0, 0, 0, 1, 0), (52, .iadd, 1, 0, 0, 0, 0, 0), (53, .putfield 253, 3, 9, 34, 0, 0, 0), (56, .aload_n 0, 1, 0, 0, 0, 0, 0), (57, .getfield 238, 3, 9, 32, 0, 0, 0), (60, .ifCond .ne (9), 3, 69, 0, 0, 0, 0), (63, .aload_n 0, 1, 0, 0, 0, 0, 0), (64, .iload_n 1, 1, 1, 0, 0, 0, 0), (65, .putfield 247, 3, 9, 33, 0, 0, 0), (68, .return_, 1, 0, 0, 0, 0, 0), (69, .aload_n 0, 1, 0, 0, 0, 0, 0), (70, .aload_n 0, 1, 0, 0, 0, 0, 0), (71, .getfield 238, 3, 9, 32, 0, 0, 0), (74, .invokevirtual 256, 3, 107, 2, 0, 0, 0), (77, .aload_n 0, 1, 0, 0, 0, 0, 0), (78, .invokevirtual 250, 3, 104, 1, 0, 0, 0), (81, .istore_n 1, 1, 1, 0, 0, 0, 0), (82, .goto (-72), 3, 10, 0, 0, 0, 0), (85, .return_, 1, 0, 0, 0, 0, 0)]
/-- 104: StreamRefuterModel.pick()I -/
def x_t104 : List xR := [(0, .iconst (0), 1, 0, 0, 0, 0, 0), (1, .istore_n 1, 1, 1, 0, 0, 0, 0), (2, .iconst (1), 1, 0, 0, 0, 1, 0), (3, .istore_n 2, 1, 2, 0, 0, 0, 0), (4, .iload_n 2, 1, 2, 0, 0, 0, 0), (5, .aload_n 0, 1, 0, 0, 0, 0, 0), (6, .getfield 190, 3, 9, 7, 0, 0, 0), (9, .if_icmp .gt (47), 3, 56, 0, 0, 0, 0), (12, .aload_n 0, 1, 0, 0, 0, 0, 0), (13, .getfield 47, 3, 9, 28, 2, 0, 0), (16, .iload_n 2, 1, 2, 0, 0, 0, 0), (17, .baload, 1, 0, 0, 0, 0, 0), (18, .ifCond .eq (32), 3, 50, 0, 0, 0, 0), (21, .aload_n 0, 1, 0, 0, 0, 0, 0), (22, .iload_n 2, 1, 2, 0, 0, 0, 0), (23, .invokevirtual 244, 3, 105, 2, 0, 0, 0), (26, .ifCond .eq (24), 3, 50, 0, 0, 0, 0), (29, .aload_n 0, 1, 0, 0, 0, 0, 0), (30, .getfield 50, 3, 9, 29, 2, 0, 0), (33, .iload_n 2, 1, 2, 0, 0, 0, 0), (34, .baload, 1, 0, 0, 0, 0, 0), (35, .ifCond .eq (5), 3, 40, 0, 0, 0, 0), (38, .iload_n 2, 1, 2, 0, 0, 0, 0), (39, .ireturn, 1, 0, 0, 0, 0, 0), (40, .iload_n 1, 1, 1, 0, 0, 0, 0), (41, .ifCond .ne (7), 3, 48, 0, 0, 0, 0), (44, .iload_n 2, 1, 2, 0, 0, 0, 0), (45, .goto (4), 3, 49, 0, 0, 0, 0), (48, .iload_n 1, 1, 1, 0, 0, 0, 0), (49, .istore_n 1, 1, 1, 0, 0, 0, 0), (50, .iinc 2 (1), 3, 0, 0, 0, 1, 0), (53, .goto (-49), 3, 4, 0, 0, 0, 0), (56, .iload_n 1, 1, 1, 0, 0, 0, 0), (57, .ireturn, 1, 0, 0, 0, 0, 0)]
/-- 105: StreamRefuterModel.isReady(I)Z -/
def x_t105 : List xR := [(0, .iconst (1), 1, 0, 0, 0, 1, 0), (1, .istore_n 2, 1, 2, 0, 0, 0, 0), (2, .aload_n 0, 1, 0, 0, 0, 0, 0), (3, .iconst (0), 1, 0, 0, 0, 0, 0), (4, .putfield 238, 3, 9, 32, 0, 0, 0), (7, .iconst (0), 1, 0, 0, 0, 0, 0), (8, .istore_n 3, 1, 3, 0, 0, 0, 0), (9, .iload_n 3, 1, 3, 0, 0, 0, 0), (10, .aload_n 0, 1, 0, 0, 0, 0, 0), (11, .getfield 16, 3, 9, 9, 2, 0, 0), (14, .iload_n 1, 1, 1, 0, 0, 0, 0), (15, .iaload, 1, 0, 0, 0, 0, 0), (16, .if_icmp .ge (80), 3, 96, 0, 0, 0, 0), (19, .aload_n 0, 1, 0, 0, 0, 0, 0), (20, .getfield 13, 3, 9, 8, 2, 0, 0), (23, .bipush (6), 2, 0, 0, 0, 6, 0), (25, .iload_n 1, 1, 1, 0, 0, 0, 0), (26, .imul, 1, 0, 0, 0, 0, 0), (27, .iload_n 3, 1, 3, 0, 0, 0, 0), (28, .iadd, 1, 0, 0, 0, 0, 0), (29, .iaload, 1, 0, 0, 0, 0, 0), (30, .istore 4, 2, 0, 0, 0, 0, 0), (32, .iload_n 2, 1, 2, 0, 0, 0, 0), (33, .ifCond .eq (33), 3, 66, 0, 0, 0, 0), (36, .aload_n 0, 1, 0, 0, 0, 0, 0), (37, .iload 4, 2, 0, 0, 0, 0, 0), (39, .invokevirtual 241, 3, 106, 2, 0, 0, 0), (42, .iconst (1), 1, 0, 0, 0, 1, 0), (43, .if_icmp .ge (23), 3, 66, 0, 0, 0, 0), (46, .aload_n 0, 1, 0, 0, 0, 0, 0), (47, .iload 4, 2, 0, 0, 0, 0, 0), (49, .invokevirtual 241, 3, 106, 2, 0, 0, 0), (52, .ifCond .lt (10), 3, 62, 0, 0, 0, 0), (55, .aload_n 0, 1, 0, 0, 0, 0, 0), (56, .getfield 238, 3, 9, 32, 0, 0, 0), (59, .ifCond .ne (7), 3, 66, 0, 0, 0, 0), (62, .iconst (1), 1, 0, 0, 0, 1, 0), (63, .goto (4), 3, 67, 0, 0, 0, 0), (66, .iconst (0), 1, 0, 0, 0, 0, 0), (67, .istore_n 2, 1, 2, 0, 0, 0, 0), (68, .aload_n 0, 1, 0, 0, 0, 0, 0), (69, .aload_n 0, 1, 0, 0, 0, 0, 0), (70, .iload 4, 2, 0, 0, 0, 0, 0), (72, .invokevirtual 241, 3, 106, 2, 0, 0, 0), (75, .ifCond .ne (8), 3, 83, 0, 0, 0, 0), (78, .iload 4, 2, 0, 0, 0, 0, 0), (80, .goto (7), 3, 87, 0, 0, 0, 0), (83, .aload_n 0, 1, 0, 0, 0, 0, 0), (84, .getfield 238, 3, 9, 32, 0, 0, 0), (87, .putfield 238, 3, 9, 32, 0, 0, 0), (90, .iinc 3 (1), 3, 0, 0, 0, 1, 0), (93, .goto (-84), 3, 9, 0, 0, 0, 0), (96, .iload_n 2, 1, 2, 0, 0, 0, 0), (97, .ireturn, 1, 0, 0, 1, 0, 0)]
/-- 106: StreamRefuterModel.value(I)I -/
def x_t106 : List xR := [(0, .iload_n 1, 1, 1, 0, 0, 0, 0), (1, .ifCond .le (12), 3, 13, 0, 0, 0, 0), (4, .aload_n 0, 1, 0, 0, 0, 0, 0), (5, .getfield 53, 3, 9, 30, 2, 0, 0), (8, .iload_n 1, 1, 1, 0, 0, 0, 0), (9, .iaload, 1, 0, 0, 0, 0, 0), (10, .goto (11), 3, 21, 0, 0, 0, 0), (13, .aload_n 0, 1, 0, 0, 0, 0, 0), (14, .getfield 53, 3, 9, 30, 2, 0, 0), (17, .iload_n 1, 1, 1, 0, 0, 0, 0), (18, .ineg, 1, 0, 0, 0, 0, 0), (19, .iaload, 1, 0, 0, 0, 0, 0), (20, .ineg, 1, 0, 0, 0, 0, 0), (21, .ireturn, 1, 0, 0, 0, 0, 0)]
/-- 107: StreamRefuterModel.makeTrue(I)V -/
def x_t107 : List xR := [(0, .aload_n 0, 1, 0, 0, 0, 0, 0), (1, .getfield 53, 3, 9, 30, 2, 0, 0), (4, .iload_n 1, 1, 1, 0, 0, 0, 0), (5, .invokestatic 149, 3, 53, 1, 0, 0, 0), (8, .iload_n 1, 1, 1, 0, 0, 0, 0), (9, .ifCond .le (7), 3, 16, 0, 0, 0, 0), (12, .iconst (1), 1, 0, 0, 0, 1, 0), (13, .goto (4), 3, 17, 0, 0, 0, 0), (16, .iconst (-1), 1, 0, 0, 0, (-1), 0), (17, .iastore, 1, 0, 0, 0, 0, 0), (18, .return_, 1, 0, 0, 0, 0, 0)]
/-- 108: StreamRefuterLaw.forward(LStreamRefuter;[J)I -/
def x_t108 : List xR := [(0, .aload_n 1, 1, 1, 0, 0, 0, 0), (1, .iconst (0), 1, 0, 0, 0, 0, 0), (2, .aload_n 0, 1, 0, 0, 0, 0, 0), (3, .invokevirtual 27, 3, 109, 1, 0, 0, 0), (6, .i2l, 1, 0, 0, 0, 0, 0), (7, .lastore, 1, 0, 0, 0, 0, 0), (8, .goto (6), 3, 14, 0, 0, 0, 0), (11, .astore_n 2, 1, 2, 0, 0, 0, 0), (12, .iconst (1), 1, 0, 0, 0, 1, 0), (13, .ireturn, 1, 0, 0, 0, 0, 0), (14, .iconst (0), 1, 0, 0, 0, 0, 0), (15, .ireturn, 1, 0, 0, 0, 0, 0)]
/-- 109: StreamRefuter.forward()I -/
def x_t109 : List xR := [(0, .aload_n 0, 1, 0, 0, 0, 0, 0), (1, .getfield 35, 3, 0, 5, 2, 0, 0), (4, .getfield 131, 3, 4, 1, 0, 0, 0), (7, .ifCond .ne (11), 3, 18, 0, 0, 0, 0), (10, .new 102, 3, 2, 0, 1, 0, 0), (18, .aload_n 0, 1, 0, 0, 0, 0, 0), (19, .getfield 57, 3, 0, 3, 2, 0, 0), (22, .aload_n 0, 1, 0, 0, 0, 0, 0), (23, .getfield 35, 3, 0, 5, 2, 0, 0), (26, .invokevirtual 138, 3, 110, 2, 0, 0, 0), (29, .ireturn, 1, 0, 0, 0, 0, 0)]
/-- 110: StreamRefuter$Refuter.findWrongStep(LStreamRefuter$Problem;)I -/
def x_t110 : List xR := [(0, .aload_n 0, 1, 0, 0, 0, 0, 0), (1, .aload_n 1, 1, 1, 0, 0, 0, 0), (2, .invokevirtual 68, 3, 94, 2, 0, 0, 0), (5, .istore_n 2, 1, 2, 0, 0, 0, 0), (6, .iload_n 2, 1, 2, 0, 0, 0, 0), (7, .iconst (-1), 1, 0, 0, 0, (-1), 0), (8, .if_icmp .ne (10), 3, 18, 0, 0, 0, 0), (11, .aload_n 1, 1, 1, 0, 0, 0, 0), (12, .getfield 56, 3, 4, 5, 0, 0, 0), (15, .goto (4), 3, 19, 0, 0, 0, 0), (18, .iload_n 2, 1, 2, 0, 0, 0, 0), (19, .istore_n 3, 1, 3, 0, 0, 0, 0), (20, .iconst (1), 1, 0, 0, 0, 1, 0), (21, .istore 4, 2, 0, 0, 0, 0, 0), (23, .iload 4, 2, 0, 0, 0, 0, 0), (25, .iload_n 3, 1, 3, 0, 0, 0, 0), (26, .if_icmp .gt (45), 3, 71, 0, 0, 0, 0), (29, .aload_n 1, 1, 1, 0, 0, 0, 0), (30, .getfield 72, 3, 4, 9, 2, 0, 0), (33, .iload 4, 2, 0, 0, 0, 0, 0), (35, .iaload, 1, 0, 0, 0, 0, 0), (36, .istore 5, 2, 0, 0, 0, 0, 0), (38, .iload 5, 2, 0, 0, 0, 0, 0), (40, .ifCond .eq (25), 3, 65, 0, 0, 0, 0), (43, .aload_n 0, 1, 0, 0, 0, 0, 0), (44, .aload_n 1, 1, 1, 0, 0, 0, 0), (45, .iload 5, 2, 0, 0, 0, 0, 0), (47, .aload_n 1, 1, 1, 0, 0, 0, 0), (48, .getfield 61, 3, 4, 10, 2, 0, 0), (51, .iload 4, 2, 0, 0, 0, 0, 0), (53, .iconst (1), 1, 0, 0, 0, 1, 0), (54, .isub, 1, 0, 0, 0, 0, 0), (55, .laload, 1, 0, 0, 0, 0, 0), (56, .invokevirtual 75, 3, 111, 4, 0, 0, 0), (59, .ifCond .ne (6), 3, 65, 0, 0, 0, 0), (62, .iload 4, 2, 0, 0, 0, 0, 0), (64, .ireturn, 1, 0, 0, 0, 0, 0), (65, .iinc 4 (1), 3, 0, 0, 0, 1, 0), (68, .goto (-45), 3, 23, 0, 0, 0, 0), (71, .iconst (0), 1, 0, 0, 0, 0, 0), (72, .ireturn, 1, 0, 0, 0, 0, 0)]
/-- 111: StreamRefuter$Refuter.isRight(LStreamRefuter$Problem;IJ)Z -/
def x_t111 : List xR := [(0, .aload_n 0, 1, 0, 0, 0, 0, 0), (1, .getfield 52, 3, 7, 0, 2, 0, 0), (4, .aload_n 1, 1, 1, 0, 0, 0, 0), (5, .lload_n 3, 1, 3, 0, 0, 0, 0), (6, .lconst 0, 1, 0, 0, 0, 0, 0), (7, .aload_n 1, 1, 1, 0, 0, 0, 0), (8, .getfield 79, 3, 4, 8, 2, 0, 0), (11, .iload_n 2, 1, 2, 0, 0, 0, 0), (12, .iaload, 1, 0, 0, 0, 0, 0), (13, .invokestatic 82, 3, 33, 1, 0, 0, 0), (16, .invokevirtual 64, 3, 95, 5, 0, 0, 0), (19, .ifCond .eq (5), 3, 24, 0, 0, 0, 0), (22, .iconst (1), 1, 0, 0, 0, 1, 0), (23, .ireturn, 1, 0, 0, 1, 0, 0), (24, .aload_n 1, 1, 1, 0, 0, 0, 0), (25, .getfield 86, 3, 4, 7, 2, 0, 0), (28, .iload_n 2, 1, 2, 0, 0, 0, 0), (29, .iaload, 1, 0, 0, 0, 0, 0), (30, .ifCond .ne (5), 3, 35, 0, 0, 0, 0), (33, .iconst (0), 1, 0, 0, 0, 0, 0), (34, .ireturn, 1, 0, 0, 1, 0, 0), (35, .aload_n 1, 1, 1, 0, 0, 0, 0), (36, .getfield 89, 3, 4, 6, 2, 0, 0), (39, .iload_n 2, 1, 2, 0, 0, 0, 0), (40, .bipush (6), 2, 0, 0, 0, 6, 0), (42, .imul, 1, 0, 0, 0, 0, 0), (43, .iaload, 1, 0, 0, 0, 0, 0), (44, .invokestatic 92, 3, 34, 1, 0, 0, 0), (47, .istore 5, 2, 0, 0, 0, 0, 0), (49, .iconst (1), 1, 0, 0, 0, 1, 0), (50, .istore 6, 2, 0, 0, 0, 0, 0), (52, .iload 6, 2, 0, 0, 0, 0, 0), (54, .aload_n 1, 1, 1, 0, 0, 0, 0), (55, .getfield 95, 3, 4, 4, 0, 0, 0), (58, .if_icmp .gt (63), 3, 121, 0, 0, 0, 0), (61, .lload_n 3, 1, 3, 0, 0, 0, 0), (62, .iload 6, 2, 0, 0, 0, 0, 0), (64, .invokestatic 98, 3, 68, 2, 0, 0, 0), (67, .ifCond .eq (23), 3, 90, 0, 0, 0, 0), (70, .aload_n 1, 1, 1, 0, 0, 0, 0), (71, .getfield 79, 3, 4, 8, 2, 0, 0), (74, .iload 6, 2, 0, 0, 0, 0, 0), (76, .iaload, 1, 0, 0, 0, 0, 0), (77, .iload 5, 2, 0, 0, 0, 0, 0), (79, .invokestatic 82, 3, 33, 1, 0, 0, 0), (82, .iand, 1, 0, 0, 0, 0, 0), (83, .ifCond .eq (7), 3, 90, 0, 0, 0, 0), (86, .iconst (1), 1, 0, 0, 0, 1, 0), (87, .goto (4), 3, 91, 0, 0, 0, 0), (90, .iconst (0), 1, 0, 0, 0, 0, 0), (91, .istore 7, 2, 0, 0, 0, 0, 0), (93, .iload 7, 2, 0, 0, 0, 0, 0), (95, .ifCond .eq (20), 3, 115, 0, 0, 0, 0), (98, .aload_n 0, 1, 0, 0, 0, 0, 0), (99, .getfield 52, 3, 7, 0, 2, 0, 0), (102, .iload 6, 2, 0, 0, 0, 0, 0), (104, .iload 5, 2, 0, 0, 0, 0, 0), (106, .lconst 0, 1, 0, 0, 0, 0, 0), (107, .invokevirtual 102, 3, 112, 4, 0, 0, 0), (110, .ifCond .ne (5), 3, 115, 0, 0, 0, 0), (113, .iconst (0), 1, 0, 0, 0, 0, 0), (114, .ireturn, 1, 0, 0, 1, 0, 0), (115, .iinc 6 (1), 3, 0, 0, 0, 1, 0), (118, .goto (-66), 3, 52, 0, 0, 0, 0), (121, .iconst (1), 1, 0, 0, 0, 1, 0), (122, .ireturn, 1, 0, 0, 1, 0, 0)]
/-- 112: StreamRefuter$Propagation.withstands(IIJ)Z -/
def x_t112 : List xR := [(0, .aload_n 0, 1, 0, 0, 0, 0, 0), (1, .aload_n 0, 1, 0, 0, 0, 0, 0), (2, .getfield 19, 3, 6, 3, 0, 0, 0), (5, .putfield 15, 3, 6, 2, 0, 0, 0), (8, .aload_n 0, 1, 0, 0, 0, 0, 0), (9, .aload_n 0, 1, 0, 0, 0, 0, 0), (10, .getfield 32, 3, 6, 7, 0, 0, 0), (13, .putfield 29, 3, 6, 6, 0, 0, 0), (16, .aload_n 0, 1, 0, 0, 0, 0, 0), (17, .iconst (0), 1, 0, 0, 0, 0, 0), (18, .putfield 35, 3, 6, 8, 0, 0, 0), (21, .aload_n 0, 1, 0, 0, 0, 0, 0), (22, .getfield 41, 3, 6, 0, 2, 0, 0), (25, .getfield 49, 3, 4, 8, 2, 0, 0), (28, .iload_n 1, 1, 1, 0, 0, 0, 0), (29, .iaload, 1, 0, 0, 0, 0, 0), (30, .iload_n 2, 1, 2, 0, 0, 0, 0), (31, .invokestatic 54, 3, 33, 1, 0, 0, 0), (34, .iconst (-1), 1, 0, 0, 0, (-1), 0), (35, .ixor, 1, 0, 0, 0, 0, 0), (36, .iand, 1, 0, 0, 0, 0, 0), (37, .istore 5, 2, 0, 0, 0, 0, 0), (39, .iload 5, 2, 0, 0, 0, 0, 0), (41, .aload_n 0, 1, 0, 0, 0, 0, 0), (42, .getfield 15, 3, 6, 2, 0, 0, 0), (45, .iand, 1, 0, 0, 0, 0, 0), (46, .ifCond .eq (20), 3, 66, 0, 0, 0, 0), (49, .aload_n 0, 1, 0, 0, 0, 0, 0), (50, .aload_n 0, 1, 0, 0, 0, 0, 0), (51, .aload_n 0, 1, 0, 0, 0, 0, 0), (52, .iload_n 1, 1, 1, 0, 0, 0, 0), (53, .iload 5, 2, 0, 0, 0, 0, 0), (55, .invokevirtual 58, 3, 113, 3, 0, 0, 0), (58, .invokevirtual 62, 3, 98, 2, 0, 0, 0), (61, .putfield 38, 3, 6, 9, 0, 0, 0), (64, .iconst (1), 1, 0, 0, 0, 1, 0), (65, .ireturn, 1, 0, 0, 1, 0, 0), (66, .aload_n 0, 1, 0, 0, 0, 0, 0), (67, .dup, 1, 0, 0, 0, 0, 0), (68, .getfield 15, 3, 6, 2, 0, 0, 0), (71, .iload 5, 2, 0, 0, 0, 0, 0), (73, .invokestatic 54, 3, 33, 1, 0, 0, 0), (76, .ior, 1, 0, 0, 0, 0, 0), (77, .putfield 15, 3, 6, 2, 0, 0, 0), (80, .aload_n 0, 1, 0, 0, 0, 0, 0), (81, .lload_n 3, 1, 3, 0, 0, 0, 0), (82, .invokevirtual 45, 3, 96, 2, 0, 0, 0), (85, .ireturn, 1, 0, 0, 1, 0, 0)]
/-- 113: StreamRefuter$Propagation.firstTrue(II)I -/
def x_t113 : List xR := [(0, .iload_n 1, 1, 1, 0, 0, 0, 0), (1, .bipush (6), 2, 0, 0, 0, 6, 0), (3, .imul, 1, 0, 0, 0, 0, 0), (4, .istore_n 3, 1, 3, 0, 0, 0, 0), (5, .iconst (0), 1, 0, 0, 0, 0, 0), (6, .istore 4, 2, 0, 0, 0, 0, 0), (8, .iload 4, 2, 0, 0, 0, 0, 0), (10, .aload_n 0, 1, 0, 0, 0, 0, 0), (11, .getfield 41, 3, 6, 0, 2, 0, 0), (14, .getfield 76, 3, 4, 7, 2, 0, 0), (17, .iload_n 1, 1, 1, 0, 0, 0, 0), (18, .iaload, 1, 0, 0, 0, 0, 0), (19, .if_icmp .ge (41), 3, 60, 0, 0, 0, 0), (22, .aload_n 0, 1, 0, 0, 0, 0, 0), (23, .getfield 41, 3, 6, 0, 2, 0, 0), (26, .getfield 79, 3, 4, 6, 2, 0, 0), (29, .iload_n 3, 1, 3, 0, 0, 0, 0), (30, .iload 4, 2, 0, 0, 0, 0, 0), (32, .iadd, 1, 0, 0, 0, 0, 0), (33, .iaload, 1, 0, 0, 0, 0, 0), (34, .invokestatic 82, 3, 34, 1, 0, 0, 0), (37, .istore 5, 2, 0, 0, 0, 0, 0), (39, .iload 5, 2, 0, 0, 0, 0, 0), (41, .iload_n 2, 1, 2, 0, 0, 0, 0), (42, .iand, 1, 0, 0, 0, 0, 0), (43, .aload_n 0, 1, 0, 0, 0, 0, 0), (44, .getfield 15, 3, 6, 2, 0, 0, 0), (47, .iand, 1, 0, 0, 0, 0, 0), (48, .ifCond .eq (6), 3, 54, 0, 0, 0, 0), (51, .iload 5, 2, 0, 0, 0, 0, 0), (53, .ireturn, 1, 0, 0, 0, 0, 0), (54, .iinc 4 (1), 3, 0, 0, 0, 1, 0), (57, .goto (-49), 3, 8, 0, 0, 0, 0), (60, .iconst (0), 1, 0, 0, 0, 0, 0), (61, .ireturn, 1, 0, 0, 0, 0, 0)]
/-- 114: StreamRefuterModel.forward()I -/
def x_t114 : List xR := [(0, .aload_n 0, 1, 0, 0, 0, 0, 0), (1, .aload_n 0, 1, 0, 0, 0, 0, 0), (2, .getfield 197, 3, 9, 10, 0, 0, 0), (5, .ifCond .eq (7), 3, 12, 0, 0, 0, 0), (8, .iconst (0), 1, 0, 0, 0, 0, 0), (9, .goto (4), 3, 13, 0, 0, 0, 0), (12, .iconst (1), 1, 0, 0, 0, 1, 0), (13, .putfield 113, 3, 9, 0, 0, 0, 0), (16, .aload_n 0, 1, 0, 0, 0, 0, 0), (17, .getfield 113, 3, 9, 0, 0, 0, 0), (20, .ifCond .le (5), 3, 25, 0, 0, 0, 0), (23, .iconst (0), 1, 0, 0, 0, 0, 0), (24, .ireturn, 1, 0, 0, 0, 0, 0), (25, .aload_n 0, 1, 0, 0, 0, 0, 0), (26, .invokevirtual 277, 3, 100, 1, 0, 0, 0), (29, .istore_n 1, 1, 1, 0, 0, 0, 0), (30, .iload_n 1, 1, 1, 0, 0, 0, 0), (31, .ifCond .ge (10), 3, 41, 0, 0, 0, 0), (34, .aload_n 0, 1, 0, 0, 0, 0, 0), (35, .getfield 200, 3, 9, 11, 0, 0, 0), (38, .goto (4), 3, 42, 0, 0, 0, 0), (41, .iload_n 1, 1, 1, 0, 0, 0, 0), (42, .istore_n 2, 1, 2, 0, 0, 0, 0), (43, .iconst (1), 1, 0, 0, 0, 1, 0), (44, .istore_n 3, 1, 3, 0, 0, 0, 0), (45, .iload_n 3, 1, 3, 0, 0, 0, 0), (46, .iload_n 2, 1, 2, 0, 0, 0, 0), (47, .if_icmp .gt (40), 3, 87, 0, 0, 0, 0), (50, .aload_n 0, 1, 0, 0, 0, 0, 0), (51, .getfield 19, 3, 9, 12, 2, 0, 0), (54, .iload_n 3, 1, 3, 0, 0, 0, 0), (55, .baload, 1, 0, 0, 0, 0, 0), (56, .ifCond .eq (25), 3, 81, 0, 0, 0, 0), (59, .aload_n 0, 1, 0, 0, 0, 0, 0), (60, .iload_n 3, 1, 3, 0, 0, 0, 0), (61, .iconst (1), 1, 0, 0, 0, 1, 0), (62, .isub, 1, 0, 0, 0, 0, 0), (63, .invokevirtual 274, 3, 101, 2, 0, 0, 0), (66, .aload_n 0, 1, 0, 0, 0, 0, 0), (67, .aload_n 0, 1, 0, 0, 0, 0, 0), (68, .getfield 23, 3, 9, 13, 2, 0, 0), (71, .iload_n 3, 1, 3, 0, 0, 0, 0), (72, .iaload, 1, 0, 0, 0, 0, 0), (73, .invokevirtual 292, 3, 115, 2, 0, 0, 0), (76, .ifCond .ne (5), 3, 81, 0, 0, 0, 0), (79, .iload_n 3, 1, 3, 0, 0, 0, 0), (80, .ireturn, 1, 0, 0, 0, 0, 0), (81, .iinc 3 (1), 3, 0, 0, 0, 1, 0), (84, .goto (-39), 3, 45, 0, 0, 0, 0), (87, .iconst (0), 1, 0, 0, 0, 0, 0), (88, .ireturn, 1, 0, 0, 0, 0, 0)]
/-- 115: StreamRefuterModel.isRight(I)Z -/
def x_t115 : List xR := [(0, .aload_n 0, 1, 0, 0, 0, 0, 0), (1, .iload_n 1, 1, 1, 0, 0, 0, 0), (2, .invokevirtual 280, 3, 116, 2, 0, 0, 0), (5, .ifCond .eq (5), 3, 10, 0, 0, 0, 0), (8, .iconst (1), 1, 0, 0, 0, 1, 0), (9, .ireturn, 1, 0, 0, 1, 0, 0), (10, .aload_n 0, 1, 0, 0, 0, 0, 0), (11, .getfield 16, 3, 9, 9, 2, 0, 0), (14, .iload_n 1, 1, 1, 0, 0, 0, 0), (15, .iaload, 1, 0, 0, 0, 0, 0), (16, .ifCond .ne (5), 3, 21, 0, 0, 0, 0), (19, .iconst (0), 1, 0, 0, 0, 0, 0), (20, .ireturn, 1, 0, 0, 1, 0, 0), (21, .aload_n 0, 1, 0, 0, 0, 0, 0), (22, .getfield 13, 3, 9, 8, 2, 0, 0), (25, .bipush (6), 2, 0, 0, 0, 6, 0), (27, .iload_n 1, 1, 1, 0, 0, 0, 0), (28, .imul, 1, 0, 0, 0, 0, 0), (29, .iaload, 1, 0, 0, 0, 0, 0), (30, .ineg, 1, 0, 0, 0, 0, 0), (31, .istore_n 2, 1, 2, 0, 0, 0, 0), (32, .aload_n 0, 1, 0, 0, 0, 0, 0), (33, .getfield 253, 3, 9, 34, 0, 0, 0), (36, .istore_n 3, 1, 3, 0, 0, 0, 0), (37, .aload_n 0, 1, 0, 0, 0, 0, 0), (38, .invokevirtual 283, 3, 117, 1, 0, 0, 0), (41, .iconst (1), 1, 0, 0, 0, 1, 0), (42, .istore 4, 2, 0, 0, 0, 0, 0), (44, .iconst (1), 1, 0, 0, 0, 1, 0), (45, .istore 5, 2, 0, 0, 0, 0, 0), (47, .iload 5, 2, 0, 0, 0, 0, 0), (49, .aload_n 0, 1, 0, 0, 0, 0, 0), (50, .getfield 190, 3, 9, 7, 0, 0, 0), (53, .if_icmp .gt (48), 3, 101, 0, 0, 0, 0), (56, .iload 4, 2, 0, 0, 0, 0, 0), (58, .ifCond .eq (43), 3, 101, 0, 0, 0, 0), (61, .aload_n 0, 1, 0, 0, 0, 0, 0), (62, .getfield 47, 3, 9, 28, 2, 0, 0), (65, .iload 5, 2, 0, 0, 0, 0, 0), (67, .baload, 1, 0, 0, 0, 0, 0), (68, .ifCond .eq (27), 3, 95, 0, 0, 0, 0), (71, .aload_n 0, 1, 0, 0, 0, 0, 0), (72, .iload 5, 2, 0, 0, 0, 0, 0), (74, .iload_n 2, 1, 2, 0, 0, 0, 0), (75, .invokevirtual 212, 3, 73, 3, 0, 0, 0), (78, .ifCond .eq (17), 3, 95, 0, 0, 0, 0), (81, .aload_n 0, 1, 0, 0, 0, 0, 0), (82, .iload 5, 2, 0, 0, 0, 0, 0), (84, .iload_n 2, 1, 2, 0, 0, 0, 0), (85, .invokevirtual 286, 3, 118, 3, 0, 0, 0), (88, .istore 4, 2, 0, 0, 0, 0, 0), (90, .aload_n 0, 1, 0, 0, 0, 0, 0), (91, .iload_n 3, 1, 3, 0, 0, 0, 0), (92, .invokevirtual 289, 3, 122, 2, 0, 0, 0), (95, .iinc 5 (1), 3, 0, 0, 0, 1, 0), (98, .goto (-51), 3, 47, 0, 0, 0, 0), (101, .iload 4, 2, 0, 0, 0, 0, 0), (103, .ireturn, 1, 0, 0, 1, 0, 0)]
/-- 116: StreamRefuterModel.implied(I)Z -/
def x_t116 : List xR := [(0, .aload_n 0, 1, 0, 0, 0, 0, 0), (1, .invokevirtual 259, 3, 102, 1, 0, 0, 0), (4, .iconst (0), 1, 0, 0, 0, 0, 0), (5, .istore_n 2, 1, 2, 0, 0, 0, 0), (6, .iload_n 2, 1, 2, 0, 0, 0, 0), (7, .aload_n 0, 1, 0, 0, 0, 0, 0), (8, .getfield 16, 3, 9, 9, 2, 0, 0), (11, .iload_n 1, 1, 1, 0, 0, 0, 0), (12, .iaload, 1, 0, 0, 0, 0, 0), (13, .if_icmp .ge (25), 3, 38, 0, 0, 0, 0), (16, .aload_n 0, 1, 0, 0, 0, 0, 0), (17, .aload_n 0, 1, 0, 0, 0, 0, 0), (18, .getfield 13, 3, 9, 8, 2, 0, 0), (21, .bipush (6), 2, 0, 0, 0, 6, 0), (23, .iload_n 1, 1, 1, 0, 0, 0, 0), (24, .imul, 1, 0, 0, 0, 0, 0), (25, .iload_n 2, 1, 2, 0, 0, 0, 0), (26, .iadd, 1, 0, 0, 0, 0, 0), (27, .iaload, 1, 0, 0, 0, 0, 0), (28, .ineg, 1, 0, 0, 0, 0, 0), (29, .invokevirtual 256, 3, 107, 2, 0, 0, 0), (32, .iinc 2 (1), 3, 0, 0, 0, 1, 0), (35, .goto (-29), 3, 6, 0, 0, 0, 0), (38, .aload_n 0, 1, 0, 0, 0, 0, 0), (39, .invokevirtual 262, 3, 103, 1, 0, 0, 0), (42, .aload_n 0, 1, 0, 0, 0, 0, 0), (43, .getfield 247, 3, 9, 33, 0, 0, 0), (46, .ifCond .le (7), 3, 53, 0, 0, 0, 0), (49, .iconst (1), 1, 0, 0, 0, 1, 0), (50, .goto (4), 3, 54, 0, 0, 0, 0), (53, .iconst (0), 1, 0, 0, 0, 0, 0), (54, .ireturn, 1, 0, 0, 1, 0, 0)]
/-- 117: StreamRefuterModel.keepBase()V -/
def x_t117 : List xR := [(0, .iconst (0), 1, 0, 0, 0, 0, 0), (1, .istore_n 1, 1, 1, 0, 0, 0, 0), (2, .iload_n 1, 1, 1, 0, 0, 0, 0), (3, .bipush (17), 2, 0, 0, 0, 17, 0), (5, .if_icmp .ge (21), 3, 26, 0, 0, 0, 0), (8, .aload_n 0, 1, 0, 0, 0, 0, 0), (9, .getfield 56, 3, 9, 31, 2, 0, 0), (12, .iload_n 1, 1, 1, 0, 0, 0, 0), (13, .aload_n 0, 1, 0, 0, 0, 0, 0), (14, .getfield 53, 3, 9, 30, 2, 0, 0), (17, .iload_n 1, 1, 1, 0, 0, 0, 0), (18, .iaload, 1, 0, 0, 0, 0, 0), (19, .iastore, 1, 0, 0, 0, 0, 0), (20, .iinc 1 (1), 3, 0, 0, 0, 1, 0), (23, .goto (-21), 3, 2, 0, 0, 0, 0), (26, .return_, 1, 0, 0, 0, 0, 0)]
/-- 118: StreamRefuterModel.passes(II)Z -/
def x_t118 : List xR := [(0, .aload_n 0, 1, 0, 0, 0, 0, 0), (1, .invokevirtual 265, 3, 119, 1, 0, 0, 0), (4, .aload_n 0, 1, 0, 0, 0, 0, 0), (5, .iload_n 1, 1, 1, 0, 0, 0, 0), (6, .iload_n 2, 1, 2, 0, 0, 0, 0), (7, .invokevirtual 268, 3, 120, 3, 0, 0, 0), (10, .istore_n 3, 1, 3, 0, 0, 0, 0), (11, .iload_n 3, 1, 3, 0, 0, 0, 0), (12, .ifCond .eq (19), 3, 31, 0, 0, 0, 0), (15, .aload_n 0, 1, 0, 0, 0, 0, 0), (16, .getfield 65, 3, 9, 37, 2, 0, 0), (19, .iload_n 3, 1, 3, 0, 0, 0, 0), (20, .invokestatic 149, 3, 53, 1, 0, 0, 0), (23, .iconst (1), 1, 0, 0, 0, 1, 0), (24, .bastore, 1, 0, 0, 0, 0, 0), (25, .aload_n 0, 1, 0, 0, 0, 0, 0), (26, .invokevirtual 271, 3, 121, 1, 0, 0, 0), (29, .iconst (1), 1, 0, 0, 0, 1, 0), (30, .ireturn, 1, 0, 0, 1, 0, 0), (31, .iconst (0), 1, 0, 0, 0, 0, 0), (32, .istore 4, 2, 0, 0, 0, 0, 0), (34, .iload 4, 2, 0, 0, 0, 0, 0), (36, .aload_n 0, 1, 0, 0, 0, 0, 0), (37, .getfield 16, 3, 9, 9, 2, 0, 0), (40, .iload_n 1, 1, 1, 0, 0, 0, 0), (41, .iaload, 1, 0, 0, 0, 0, 0), (42, .if_icmp .ge (45), 3, 87, 0, 0, 0, 0), (45, .aload_n 0, 1, 0, 0, 0, 0, 0), (46, .getfield 13, 3, 9, 8, 2, 0, 0), (49, .bipush (6), 2, 0, 0, 0, 6, 0), (51, .iload_n 1, 1, 1, 0, 0, 0, 0), (52, .imul, 1, 0, 0, 0, 0, 0), (53, .iload 4, 2, 0, 0, 0, 0, 0), (55, .iadd, 1, 0, 0, 0, 0, 0), (56, .iaload, 1, 0, 0, 0, 0, 0), (57, .istore 5, 2, 0, 0, 0, 0, 0), (59, .iload 5, 2, 0, 0, 0, 0, 0), (61, .iload_n 2, 1, 2, 0, 0, 0, 0), (62, .if_icmp .eq (19), 3, 81, 0, 0, 0, 0), (65, .aload_n 0, 1, 0, 0, 0, 0, 0), (66, .iload 5, 2, 0, 0, 0, 0, 0), (68, .invokevirtual 241, 3, 106, 2, 0, 0, 0), (71, .ifCond .ne (10), 3, 81, 0, 0, 0, 0), (74, .aload_n 0, 1, 0, 0, 0, 0, 0), (75, .iload 5, 2, 0, 0, 0, 0, 0), (77, .ineg, 1, 0, 0, 0, 0, 0), (78, .invokevirtual 256, 3, 107, 2, 0, 0, 0), (81, .iinc 4 (1), 3, 0, 0, 0, 1, 0), (84, .goto (-50), 3, 34, 0, 0, 0, 0), (87, .aload_n 0, 1, 0, 0, 0, 0, 0), (88, .invokevirtual 262, 3, 103, 1, 0, 0, 0), (91, .aload_n 0, 1, 0, 0, 0, 0, 0), (92, .invokevirtual 271, 3, 121, 1, 0, 0, 0), (95, .aload_n 0, 1, 0, 0, 0, 0, 0), (96, .getfield 247, 3, 9, 33, 0, 0, 0), (99, .ifCond .le (7), 3, 106, 0, 0, 0, 0), (102, .iconst (1), 1, 0, 0, 0, 1, 0), (103, .goto (4), 3, 107, 0, 0, 0, 0), (106, .iconst (0), 1, 0, 0, 0, 0, 0), (107, .ireturn, 1, 0, 0, 1, 0, 0)]
/-- 119: StreamRefuterModel.needNothing()V -/
def x_t119 : List xR := [(0, .iconst (0), 1, 0, 0, 0, 0, 0), (1, .istore_n 1, 1, 1, 0, 0, 0, 0), (2, .iload_n 1, 1, 1, 0, 0, 0, 0), (3, .bipush (17), 2, 0, 0, 0, 17, 0), (5, .if_icmp .ge (16), 3, 21, 0, 0, 0, 0), (8, .aload_n 0, 1, 0, 0, 0, 0, 0), (9, .getfield 65, 3, 9, 37, 2, 0, 0), (12, .iload_n 1, 1, 1, 0, 0, 0, 0), (13, .iconst (0), 1, 0, 0, 0, 0, 0), (14, .bastore, 1, 0, 0, 0, 0, 0), (15, .iinc 1 (1), 3, 0, 0, 0, 1, 0), (18, .goto (-16), 3, 2, 0, 0, 0, 0), (21, .return_, 1, 0, 0, 0, 0, 0)]
/-- 120: StreamRefuterModel.firstTrue(II)I -/
def x_t120 : List xR := [(0, .iconst (0), 1, 0, 0, 0, 0, 0), (1, .istore_n 3, 1, 3, 0, 0, 0, 0), (2, .iload_n 3, 1, 3, 0, 0, 0, 0), (3, .aload_n 0, 1, 0, 0, 0, 0, 0), (4, .getfield 16, 3, 9, 9, 2, 0, 0), (7, .iload_n 1, 1, 1, 0, 0, 0, 0), (8, .iaload, 1, 0, 0, 0, 0, 0), (9, .if_icmp .ge (40), 3, 49, 0, 0, 0, 0), (12, .aload_n 0, 1, 0, 0, 0, 0, 0), (13, .getfield 13, 3, 9, 8, 2, 0, 0), (16, .bipush (6), 2, 0, 0, 0, 6, 0), (18, .iload_n 1, 1, 1, 0, 0, 0, 0), (19, .imul, 1, 0, 0, 0, 0, 0), (20, .iload_n 3, 1, 3, 0, 0, 0, 0), (21, .iadd, 1, 0, 0, 0, 0, 0), (22, .iaload, 1, 0, 0, 0, 0, 0), (23, .istore 4, 2, 0, 0, 0, 0, 0), (25, .iload 4, 2, 0, 0, 0, 0, 0), (27, .iload_n 2, 1, 2, 0, 0, 0, 0), (28, .if_icmp .eq (15), 3, 43, 0, 0, 0, 0), (31, .aload_n 0, 1, 0, 0, 0, 0, 0), (32, .iload 4, 2, 0, 0, 0, 0, 0), (34, .invokevirtual 241, 3, 106, 2, 0, 0, 0), (37, .ifCond .le (6), 3, 43, 0, 0, 0, 0), (40, .iload 4, 2, 0, 0, 0, 0, 0), (42, .ireturn, 1, 0, 0, 0, 0, 0), (43, .iinc 3 (1), 3, 0, 0, 0, 1, 0), (46, .goto (-44), 3, 2, 0, 0, 0, 0), (49, .iconst (0), 1, 0, 0, 0, 0, 0), (50, .ireturn, 1, 0, 0, 0, 0, 0)]
/-- 121: StreamRefuterModel.findNeeds()V -/
def x_t121 : List xR := [(0, .aload_n 0, 1, 0, 0, 0, 0, 0), (1, .getfield 253, 3, 9, 34, 0, 0, 0), (4, .iconst (1), 1, 0, 0, 0, 1, 0), (5, .isub, 1, 0, 0, 0, 0, 0), (6, .istore_n 1, 1, 1, 0, 0, 0, 0), (7, .iload_n 1, 1, 1, 0, 0, 0, 0), (8, .ifCond .lt (126), 3, 134, 0, 0, 0, 0), (11, .aload_n 0, 1, 0, 0, 0, 0, 0), (12, .getfield 68, 3, 9, 38, 2, 0, 0), (15, .iload_n 1, 1, 1, 0, 0, 0, 0), (16, .aload_n 0, 1, 0, 0, 0, 0, 0), (17, .getfield 62, 3, 9, 36, 2, 0, 0), (20, .iload_n 1, 1, 1, 0, 0, 0, 0), (21, .iaload, 1, 0, 0, 0, 0, 0), (22, .ifCond .eq (17), 3, 39, 0, 0, 0, 0), (25, .aload_n 0, 1, 0, 0, 0, 0, 0), (26, .getfield 65, 3, 9, 37, 2, 0, 0), (29, .aload_n 0, 1, 0, 0, 0, 0, 0), (30, .getfield 62, 3, 9, 36, 2, 0, 0), (33, .iload_n 1, 1, 1, 0, 0, 0, 0), (34, .iaload, 1, 0, 0, 0, 0, 0), (35, .baload, 1, 0, 0, 0, 0, 0), (36, .ifCond .eq (7), 3, 43, 0, 0, 0, 0), (39, .iconst (1), 1, 0, 0, 0, 1, 0), (40, .goto (4), 3, 44, 0, 0, 0, 0), (43, .iconst (0), 1, 0, 0, 0, 0, 0), (44, .bastore, 1, 0, 0, 0, 0, 0), (45, .aload_n 0, 1, 0, 0, 0, 0, 0), (46, .getfield 59, 3, 9, 35, 2, 0, 0), (49, .iload_n 1, 1, 1, 0, 0, 0, 0), (50, .iaload, 1, 0, 0, 0, 0, 0), (51, .istore_n 2, 1, 2, 0, 0, 0, 0), (52, .iconst (0), 1, 0, 0, 0, 0, 0), (53, .istore_n 3, 1, 3, 0, 0, 0, 0), (54, .iload_n 3, 1, 3, 0, 0, 0, 0), (55, .aload_n 0, 1, 0, 0, 0, 0, 0), (56, .getfield 16, 3, 9, 9, 2, 0, 0), (59, .iload_n 2, 1, 2, 0, 0, 0, 0), (60, .iaload, 1, 0, 0, 0, 0, 0), (61, .if_icmp .ge (67), 3, 128, 0, 0, 0, 0), (64, .aload_n 0, 1, 0, 0, 0, 0, 0), (65, .getfield 68, 3, 9, 38, 2, 0, 0), (68, .iload_n 1, 1, 1, 0, 0, 0, 0), (69, .baload, 1, 0, 0, 0, 0, 0), (70, .ifCond .eq (58), 3, 128, 0, 0, 0, 0), (73, .aload_n 0, 1, 0, 0, 0, 0, 0), (74, .getfield 13, 3, 9, 8, 2, 0, 0), (77, .bipush (6), 2, 0, 0, 0, 6, 0), (79, .iload_n 2, 1, 2, 0, 0, 0, 0), (80, .imul, 1, 0, 0, 0, 0, 0), (81, .iload_n 3, 1, 3, 0, 0, 0, 0), (82, .iadd, 1, 0, 0, 0, 0, 0), (83, .iaload, 1, 0, 0, 0, 0, 0), (84, .invokestatic 149, 3, 53, 1, 0, 0, 0), (87, .istore 4, 2, 0, 0, 0, 0, 0), (89, .aload_n 0, 1, 0, 0, 0, 0, 0), (90, .getfield 65, 3, 9, 37, 2, 0, 0), (93, .iload 4, 2, 0, 0, 0, 0, 0), (95, .aload_n 0, 1, 0, 0, 0, 0, 0), (96, .getfield 65, 3, 9, 37, 2, 0, 0), (99, .iload 4, 2, 0, 0, 0, 0, 0), (101, .baload, 1, 0, 0, 0, 0, 0), (102, .ifCond .ne (14), 3, 116, 0, 0, 0, 0), (105, .iload 4, 2, 0, 0, 0, 0, 0), (107, .aload_n 0, 1, 0, 0, 0, 0, 0), (108, .getfield 62, 3, 9, 36, 2, 0, 0), (111, .iload_n 1, 1, 1, 0, 0, 0, 0), (112, .iaload, 1, 0, 0, 0, 0, 0), (113, .if_icmp .eq (7), 3, 120, 0, 0, 0, 0), (116, .iconst (1), 1, 0, 0, 0, 1, 0), (117, .goto (4), 3, 121, 0, 0, 0, 0), (120, .iconst (0), 1, 0, 0, 0, 0, 0), (121, .bastore, 1, 0, 0, 0, 0, 0), (122, .iinc 3 (1), 3, 0, 0, 0, 1, 0), (125, .goto (-71), 3, 54, 0, 0, 0, 0), (128, .iinc 1 (-1), 3, 0, 0, 0, (-1), 0), (131, .goto (-124), 3, 7, 0, 0, 0, 0), (134, .return_, 1, 0, 0, 0, 0, 0)]
/-- 122: StreamRefuterModel.backTo(I)V -/
def x_t122 : List xR := [(0, .aload_n 0, 1, 0, 0, 0, 0, 0), (1, .iload_n 1, 1, 1, 0, 0, 0, 0), (2, .putfield 253, 3, 9, 34, 0, 0, 0), (5, .iconst (0), 1, 0, 0, 0, 0, 0), (6, .istore_n 2, 1, 2, 0, 0, 0, 0), (7, .iload_n 2, 1, 2, 0, 0, 0, 0), (8, .bipush (17), 2, 0, 0, 0, 17, 0), (10, .if_icmp .ge (21), 3, 31, 0, 0, 0, 0), (13, .aload_n 0, 1, 0, 0, 0, 0, 0), (14, .getfield 53, 3, 9, 30, 2, 0, 0), (17, .iload_n 2, 1, 2, 0, 0, 0, 0), (18, .aload_n 0, 1, 0, 0, 0, 0, 0), (19, .getfield 56, 3, 9, 31, 2, 0, 0), (22, .iload_n 2, 1, 2, 0, 0, 0, 0), (23, .iaload, 1, 0, 0, 0, 0, 0), (24, .iastore, 1, 0, 0, 0, 0, 0), (25, .iinc 2 (1), 3, 0, 0, 0, 1, 0), (28, .goto (-21), 3, 7, 0, 0, 0, 0), (31, .return_, 1, 0, 0, 0, 0, 0)]
/-- 123: StreamRefuterLaw.refute(LStreamRefuter;[J)I -/
def x_t123 : List xR := [(0, .aload_n 1, 1, 1, 0, 0, 0, 0), (1, .iconst (0), 1, 0, 0, 0, 0, 0), (2, .aload_n 0, 1, 0, 0, 0, 0, 0), (3, .invokevirtual 30, 3, 124, 1, 0, 0, 0), (6, .i2l, 1, 0, 0, 0, 0, 0), (7, .lastore, 1, 0, 0, 0, 0, 0), (8, .goto (6), 3, 14, 0, 0, 0, 0), (11, .astore_n 2, 1, 2, 0, 0, 0, 0), (12, .iconst (1), 1, 0, 0, 0, 1, 0), (13, .ireturn, 1, 0, 0, 0, 0, 0), (14, .iconst (0), 1, 0, 0, 0, 0, 0), (15, .ireturn, 1, 0, 0, 0, 0, 0)]
/-- 124: StreamRefuter.refute()I -/
def x_t124 : List xR := [(0, .aload_n 0, 1, 0, 0, 0, 0, 0), (1, .getfield 35, 3, 0, 5, 2, 0, 0), (4, .getfield 131, 3, 4, 1, 0, 0, 0), (7, .ifCond .ne (11), 3, 18, 0, 0, 0, 0), (10, .new 102, 3, 2, 0, 1, 0, 0), (18, .aload_n 0, 1, 0, 0, 0, 0, 0), (19, .getfield 57, 3, 0, 3, 2, 0, 0), (22, .aload_n 0, 1, 0, 0, 0, 0, 0), (23, .getfield 35, 3, 0, 5, 2, 0, 0), (26, .aload_n 0, 1, 0, 0, 0, 0, 0), (27, .getfield 49, 3, 0, 8, 2, 0, 0), (30, .invokevirtual 141, 3, 125, 3, 0, 0, 0), (33, .istore_n 1, 1, 1, 0, 0, 0, 0), (34, .iload_n 1, 1, 1, 0, 0, 0, 0), (35, .ifCond .le (7), 3, 42, 0, 0, 0, 0), (38, .aload_n 0, 1, 0, 0, 0, 0, 0), (39, .invokevirtual 115, 3, 80, 1, 0, 0, 0), (42, .iload_n 1, 1, 1, 0, 0, 0, 0), (43, .ireturn, 1, 0, 0, 0, 0, 0)]
/-- 125: StreamRefuter$Refuter.goBackwards(LStreamRefuter$Problem;LStreamRefuter$Tokens;)I -/
def x_t125 : List xR := [(0, .aload_n 0, 1, 0, 0, 0, 0, 0), (1, .aload_n 1, 1, 1, 0, 0, 0, 0), (2, .invokevirtual 68, 3, 94, 2, 0, 0, 0), (5, .istore_n 3, 1, 3, 0, 0, 0, 0), (6, .iload_n 3, 1, 3, 0, 0, 0, 0), (7, .iconst (-1), 1, 0, 0, 0, (-1), 0), (8, .if_icmp .ne (5), 3, 13, 0, 0, 0, 0), (11, .iconst (0), 1, 0, 0, 0, 0, 0), (12, .ireturn, 1, 0, 0, 0, 0, 0), (13, .aload_n 0, 1, 0, 0, 0, 0, 0), (14, .aload_n 1, 1, 1, 0, 0, 0, 0), (15, .iload_n 3, 1, 3, 0, 0, 0, 0), (16, .invokevirtual 106, 3, 126, 3, 0, 0, 0), (19, .iload_n 3, 1, 3, 0, 0, 0, 0), (20, .istore 4, 2, 0, 0, 0, 0, 0), (22, .iload 4, 2, 0, 0, 0, 0, 0), (24, .iconst (1), 1, 0, 0, 0, 1, 0), (25, .if_icmp .lt (67), 3, 92, 0, 0, 0, 0), (28, .aload_n 1, 1, 1, 0, 0, 0, 0), (29, .getfield 72, 3, 4, 9, 2, 0, 0), (32, .iload 4, 2, 0, 0, 0, 0, 0), (34, .iaload, 1, 0, 0, 0, 0, 0), (35, .istore 5, 2, 0, 0, 0, 0, 0), (37, .aload_n 1, 1, 1, 0, 0, 0, 0), (38, .getfield 61, 3, 4, 10, 2, 0, 0), (41, .iload 4, 2, 0, 0, 0, 0, 0), (43, .iconst (1), 1, 0, 0, 0, 1, 0), (44, .isub, 1, 0, 0, 0, 0, 0), (45, .laload, 1, 0, 0, 0, 0, 0), (46, .lstore 6, 2, 0, 0, 0, 0, 0), (48, .aload_n 0, 1, 0, 0, 0, 0, 0), (49, .getfield 9, 3, 7, 2, 1, 0, 0), (52, .iload 5, 2, 0, 0, 0, 0, 0), (54, .invokestatic 98, 3, 68, 2, 0, 0, 0), (57, .ifCond .eq (29), 3, 86, 0, 0, 0, 0), (60, .aload_n 0, 1, 0, 0, 0, 0, 0), (61, .iload 5, 2, 0, 0, 0, 0, 0), (63, .lload 6, 2, 0, 0, 0, 0, 0), (65, .invokevirtual 110, 3, 127, 3, 0, 0, 0), (68, .ifCond .ne (18), 3, 86, 0, 0, 0, 0), (71, .aload_n 0, 1, 0, 0, 0, 0, 0), (72, .iload 5, 2, 0, 0, 0, 0, 0), (74, .lload 6, 2, 0, 0, 0, 0, 0), (76, .invokevirtual 114, 3, 131, 3, 0, 0, 0), (79, .ifCond .ne (7), 3, 86, 0, 0, 0, 0), (82, .iload 4, 2, 0, 0, 0, 0, 0), (84, .ineg, 1, 0, 0, 0, 0, 0), (85, .ireturn, 1, 0, 0, 0, 0, 0), (86, .iinc 4 (-1), 3, 0, 0, 0, (-1), 0), (89, .goto (-67), 3, 22, 0, 0, 0, 0), (92, .aload_n 0, 1, 0, 0, 0, 0, 0), (93, .aload_n 2, 1, 2, 0, 0, 0, 0), (94, .invokevirtual 117, 3, 133, 2, 0, 0, 0), (97, .istore 4, 2, 0, 0, 0, 0, 0), (99, .aload_n 2, 1, 2, 0, 0, 0, 0), (100, .invokevirtual 121, 3, 138, 1, 0, 0, 0), (103, .ifCond .eq (7), 3, 110, 0, 0, 0, 0), (106, .sipush (-1000), 3, 0, 0, 0, (-1000), 0), (109, .ireturn, 1, 0, 0, 0, 0, 0), (110, .aload_n 1, 1, 1, 0, 0, 0, 0), (111, .aload_n 0, 1, 0, 0, 0, 0, 0), (112, .getfield 9, 3, 7, 2, 1, 0, 0), (115, .putfield 125, 3, 4, 11, 1, 0, 0), (118, .aload_n 1, 1, 1, 0, 0, 0, 0), (119, .aload_n 0, 1, 0, 0, 0, 0, 0), (120, .getfield 15, 3, 7, 3, 1, 0, 0), (123, .putfield 126, 3, 4, 12, 1, 0, 0), (126, .iload 4, 2, 0, 0, 0, 0, 0), (128, .ireturn, 1, 0, 0, 0, 0, 0)]
/-- 126: StreamRefuter$Refuter.begin(LStreamRefuter$Problem;I)V -/
def x_t126 : List xR := [(0, .aload_n 0, 1, 0, 0, 0, 0, 0), (1, .aload_n 1, 1, 1, 0, 0, 0, 0), (2, .putfield 43, 3, 7, 1, 2, 0, 0), (5, .aload_n 0, 1, 0, 0, 0, 0, 0), (6, .lconst 0, 1, 0, 0, 0, 0, 0), (7, .putfield 9, 3, 7, 2, 1, 0, 0), (10, .aload_n 0, 1, 0, 0, 0, 0, 0), (11, .lconst 0, 1, 0, 0, 0, 0, 0), (12, .putfield 15, 3, 7, 3, 1, 0, 0), (15, .aload_n 0, 1, 0, 0, 0, 0, 0), (16, .getfield 25, 3, 7, 5, 2, 0, 0), (19, .invokevirtual 127, 3, 40, 1, 0, 0, 0), (22, .aload_n 0, 1, 0, 0, 0, 0, 0), (23, .aload_n 1, 1, 1, 0, 0, 0, 0), (24, .getfield 130, 3, 4, 3, 0, 0, 0), (27, .iconst (1), 1, 0, 0, 0, 1, 0), (28, .iadd, 1, 0, 0, 0, 0, 0), (29, .putfield 18, 3, 7, 4, 0, 0, 0), (32, .iconst (1), 1, 0, 0, 0, 1, 0), (33, .istore_n 3, 1, 3, 0, 0, 0, 0), (34, .iload_n 3, 1, 3, 0, 0, 0, 0), (35, .iload_n 2, 1, 2, 0, 0, 0, 0), (36, .if_icmp .gt (32), 3, 68, 0, 0, 0, 0), (39, .aload_n 0, 1, 0, 0, 0, 0, 0), (40, .dup, 1, 0, 0, 0, 0, 0), (41, .getfield 18, 3, 7, 4, 0, 0, 0), (44, .aload_n 1, 1, 1, 0, 0, 0, 0), (45, .getfield 72, 3, 4, 9, 2, 0, 0), (48, .iload_n 3, 1, 3, 0, 0, 0, 0), (49, .iaload, 1, 0, 0, 0, 0, 0), (50, .ifCond .ne (7), 3, 57, 0, 0, 0, 0), (53, .iconst (0), 1, 0, 0, 0, 0, 0), (54, .goto (4), 3, 58, 0, 0, 0, 0), (57, .iconst (1), 1, 0, 0, 0, 1, 0), (58, .iadd, 1, 0, 0, 0, 0, 0), (59, .putfield 18, 3, 7, 4, 0, 0, 0), (62, .iinc 3 (1), 3, 0, 0, 0, 1, 0), (65, .goto (-31), 3, 34, 0, 0, 0, 0), (68, .aload_n 0, 1, 0, 0, 0, 0, 0), (69, .aload_n 0, 1, 0, 0, 0, 0, 0), (70, .getfield 18, 3, 7, 4, 0, 0, 0), (73, .aload_n 1, 1, 1, 0, 0, 0, 0), (74, .getfield 61, 3, 4, 10, 2, 0, 0), (77, .iload_n 2, 1, 2, 0, 0, 0, 0), (78, .laload, 1, 0, 0, 0, 0, 0), (79, .invokevirtual 110, 3, 127, 3, 0, 0, 0), (82, .pop, 1, 0, 0, 0, 0, 0), (83, .return_, 1, 0, 0, 0, 0, 0)]
/-- 127: StreamRefuter$Refuter.noteImplied(IJ)Z -/
def x_t127 : List xR := [(0, .iload_n 1, 1, 1, 0, 0, 0, 0), (1, .aload_n 0, 1, 0, 0, 0, 0, 0), (2, .getfield 18, 3, 7, 4, 0, 0, 0), (5, .if_icmp .ne (7), 3, 12, 0, 0, 0, 0), (8, .iconst (0), 1, 0, 0, 0, 0, 0), (9, .goto (12), 3, 21, 0, 0, 0, 0), (12, .aload_n 0, 1, 0, 0, 0, 0, 0), (13, .getfield 43, 3, 7, 1, 2, 0, 0), (16, .getfield 79, 3, 4, 8, 2, 0, 0), (19, .iload_n 1, 1, 1, 0, 0, 0, 0), (20, .iaload, 1, 0, 0, 0, 0, 0), (21, .istore 4, 2, 0, 0, 0, 0, 0), (23, .aload_n 0, 1, 0, 0, 0, 0, 0), (24, .getfield 52, 3, 7, 0, 2, 0, 0), (27, .aload_n 0, 1, 0, 0, 0, 0, 0), (28, .getfield 43, 3, 7, 1, 2, 0, 0), (31, .lload_n 2, 1, 2, 0, 0, 0, 0), (32, .aload_n 0, 1, 0, 0, 0, 0, 0), (33, .getfield 9, 3, 7, 2, 1, 0, 0), (36, .iload 4, 2, 0, 0, 0, 0, 0), (38, .invokestatic 82, 3, 33, 1, 0, 0, 0), (41, .invokevirtual 64, 3, 95, 5, 0, 0, 0), (44, .ifCond .ne (5), 3, 49, 0, 0, 0, 0), (47, .iconst (0), 1, 0, 0, 0, 0, 0), (48, .ireturn, 1, 0, 0, 1, 0, 0), (49, .aload_n 0, 1, 0, 0, 0, 0, 0), (50, .getfield 9, 3, 7, 2, 1, 0, 0), (53, .lstore 5, 2, 0, 0, 0, 0, 0), (55, .aload_n 0, 1, 0, 0, 0, 0, 0), (56, .invokevirtual 133, 3, 128, 1, 0, 0, 0), (59, .aload_n 0, 1, 0, 0, 0, 0, 0), (60, .getfield 29, 3, 7, 6, 2, 0, 0), (63, .iload_n 1, 1, 1, 0, 0, 0, 0), (64, .aload_n 0, 1, 0, 0, 0, 0, 0), (65, .getfield 25, 3, 7, 5, 2, 0, 0), (68, .getfield 136, 3, 5, 1, 0, 0, 0), (71, .iastore, 1, 0, 0, 0, 0, 0), (72, .aload_n 0, 1, 0, 0, 0, 0, 0), (73, .getfield 33, 3, 7, 7, 2, 0, 0), (76, .iload_n 1, 1, 1, 0, 0, 0, 0), (77, .aload_n 0, 1, 0, 0, 0, 0, 0), (78, .getfield 25, 3, 7, 5, 2, 0, 0), (81, .getfield 136, 3, 5, 1, 0, 0, 0), (84, .iastore, 1, 0, 0, 0, 0, 0), (85, .aload_n 0, 1, 0, 0, 0, 0, 0), (86, .aload_n 0, 1, 0, 0, 0, 0, 0), (87, .getfield 52, 3, 7, 0, 2, 0, 0), (90, .getfield 139, 3, 6, 9, 0, 0, 0), (93, .invokevirtual 142, 3, 129, 2, 0, 0, 0), (96, .aload_n 0, 1, 0, 0, 0, 0, 0), (97, .invokevirtual 146, 3, 130, 1, 0, 0, 0), (100, .aload_n 0, 1, 0, 0, 0, 0, 0), (101, .getfield 36, 3, 7, 8, 2, 0, 0), (104, .iload_n 1, 1, 1, 0, 0, 0, 0), (105, .aload_n 0, 1, 0, 0, 0, 0, 0), (106, .getfield 25, 3, 7, 5, 2, 0, 0), (109, .getfield 136, 3, 5, 1, 0, 0, 0), (112, .iastore, 1, 0, 0, 0, 0, 0), (113, .aload_n 0, 1, 0, 0, 0, 0, 0), (114, .getfield 39, 3, 7, 9, 2, 0, 0), (117, .iload_n 1, 1, 1, 0, 0, 0, 0), (118, .aload_n 0, 1, 0, 0, 0, 0, 0), (119, .getfield 9, 3, 7, 2, 1, 0, 0), (122, .lload 5, 2, 0, 0, 0, 0, 0), (124, .ldc2_w 149, 3, 0, 0, 0, 0, (-1)), (127, .lxor, 1, 0, 0, 0, 0, 0), (128, .land, 1, 0, 0, 0, 0, 0), (129, .lastore, 1, 0, 0, 0, 0, 0), (130, .iconst (1), 1, 0, 0, 0, 1, 0), (131, .ireturn, 1, 0, 0, 1, 0, 0)]
/-- 128: StreamRefuter$Refuter.markNeeded()V -/
def x_t128 : List xR := [(0, .iconst (0), 1, 0, 0, 0, 0, 0), (1, .istore_n 1, 1, 1, 0, 0, 0, 0), (2, .iload_n 1, 1, 1, 0, 0, 0, 0), (3, .aload_n 0, 1, 0, 0, 0, 0, 0), (4, .getfield 52, 3, 7, 0, 2, 0, 0), (7, .getfield 161, 3, 6, 4, 2, 0, 0), (10, .arraylength, 1, 0, 0, 0, 0, 0), (11, .if_icmp .ge (43), 3, 54, 0, 0, 0, 0), (14, .aload_n 0, 1, 0, 0, 0, 0, 0), (15, .getfield 52, 3, 7, 0, 2, 0, 0), (18, .getfield 139, 3, 6, 9, 0, 0, 0), (21, .iload_n 1, 1, 1, 0, 0, 0, 0), (22, .iushr, 1, 0, 0, 0, 0, 0), (23, .iconst (1), 1, 0, 0, 0, 1, 0), (24, .iand, 1, 0, 0, 0, 0, 0), (25, .ifCond .eq (23), 3, 48, 0, 0, 0, 0), (28, .aload_n 0, 1, 0, 0, 0, 0, 0), (29, .dup, 1, 0, 0, 0, 0, 0), (30, .getfield 9, 3, 7, 2, 1, 0, 0), (33, .lconst 1, 1, 0, 0, 0, 0, 1), (34, .aload_n 0, 1, 0, 0, 0, 0, 0), (35, .getfield 52, 3, 7, 0, 2, 0, 0), (38, .getfield 161, 3, 6, 4, 2, 0, 0), (41, .iload_n 1, 1, 1, 0, 0, 0, 0), (42, .iaload, 1, 0, 0, 0, 0, 0), (43, .lshl, 1, 0, 0, 0, 0, 0), (44, .lor, 1, 0, 0, 0, 0, 0), (45, .putfield 9, 3, 7, 2, 1, 0, 0), (48, .iinc 1 (1), 3, 0, 0, 0, 1, 0), (51, .goto (-49), 3, 2, 0, 0, 0, 0), (54, .aload_n 0, 1, 0, 0, 0, 0, 0), (55, .getfield 52, 3, 7, 0, 2, 0, 0), (58, .getfield 164, 3, 6, 8, 0, 0, 0), (61, .ifCond .eq (21), 3, 82, 0, 0, 0, 0), (64, .aload_n 0, 1, 0, 0, 0, 0, 0), (65, .dup, 1, 0, 0, 0, 0, 0), (66, .getfield 9, 3, 7, 2, 1, 0, 0), (69, .lconst 1, 1, 0, 0, 0, 0, 1), (70, .aload_n 0, 1, 0, 0, 0, 0, 0), (71, .getfield 52, 3, 7, 0, 2, 0, 0), (74, .getfield 164, 3, 6, 8, 0, 0, 0), (77, .lshl, 1, 0, 0, 0, 0, 0), (78, .lor, 1, 0, 0, 0, 0, 0), (79, .putfield 9, 3, 7, 2, 1, 0, 0), (82, .return_, 1, 0, 0, 0, 0, 0)]
/-- 129: StreamRefuter$Refuter.noteReasons(I)V -/
def x_t129 : List xR := [(0, .iconst (0), 1, 0, 0, 0, 0, 0), (1, .istore_n 2, 1, 2, 0, 0, 0, 0), (2, .iload_n 2, 1, 2, 0, 0, 0, 0), (3, .aload_n 0, 1, 0, 0, 0, 0, 0), (4, .getfield 52, 3, 7, 0, 2, 0, 0), (7, .getfield 161, 3, 6, 4, 2, 0, 0), (10, .arraylength, 1, 0, 0, 0, 0, 0), (11, .if_icmp .ge (33), 3, 44, 0, 0, 0, 0), (14, .iload_n 1, 1, 1, 0, 0, 0, 0), (15, .iload_n 2, 1, 2, 0, 0, 0, 0), (16, .iushr, 1, 0, 0, 0, 0, 0), (17, .iconst (1), 1, 0, 0, 0, 1, 0), (18, .iand, 1, 0, 0, 0, 0, 0), (19, .ifCond .eq (19), 3, 38, 0, 0, 0, 0), (22, .aload_n 0, 1, 0, 0, 0, 0, 0), (23, .getfield 25, 3, 7, 5, 2, 0, 0), (26, .aload_n 0, 1, 0, 0, 0, 0, 0), (27, .getfield 52, 3, 7, 0, 2, 0, 0), (30, .getfield 161, 3, 6, 4, 2, 0, 0), (33, .iload_n 2, 1, 2, 0, 0, 0, 0), (34, .iaload, 1, 0, 0, 0, 0, 0), (35, .invokevirtual 158, 3, 78, 2, 0, 0, 0), (38, .iinc 2 (1), 3, 0, 0, 0, 1, 0), (41, .goto (-39), 3, 2, 0, 0, 0, 0), (44, .return_, 1, 0, 0, 0, 0, 0)]
/-- 130: StreamRefuter$Refuter.noteConflict()V -/
def x_t130 : List xR := [(0, .aload_n 0, 1, 0, 0, 0, 0, 0), (1, .getfield 52, 3, 7, 0, 2, 0, 0), (4, .getfield 164, 3, 6, 8, 0, 0, 0), (7, .ifCond .eq (17), 3, 24, 0, 0, 0, 0), (10, .aload_n 0, 1, 0, 0, 0, 0, 0), (11, .getfield 25, 3, 7, 5, 2, 0, 0), (14, .aload_n 0, 1, 0, 0, 0, 0, 0), (15, .getfield 52, 3, 7, 0, 2, 0, 0), (18, .getfield 164, 3, 6, 8, 0, 0, 0), (21, .invokevirtual 158, 3, 78, 2, 0, 0, 0), (24, .return_, 1, 0, 0, 0, 0, 0)]
/-- 131: StreamRefuter$Refuter.noteSpared(IJ)Z -/
def x_t131 : List xR := [(0, .aload_n 0, 1, 0, 0, 0, 0, 0), (1, .getfield 43, 3, 7, 1, 2, 0, 0), (4, .getfield 86, 3, 4, 7, 2, 0, 0), (7, .iload_n 1, 1, 1, 0, 0, 0, 0), (8, .iaload, 1, 0, 0, 0, 0, 0), (9, .ifCond .ne (5), 3, 14, 0, 0, 0, 0), (12, .iconst (0), 1, 0, 0, 0, 0, 0), (13, .ireturn, 1, 0, 0, 1, 0, 0), (14, .aload_n 0, 1, 0, 0, 0, 0, 0), (15, .getfield 9, 3, 7, 2, 1, 0, 0), (18, .lstore 4, 2, 0, 0, 0, 0, 0), (20, .aload_n 0, 1, 0, 0, 0, 0, 0), (21, .getfield 43, 3, 7, 1, 2, 0, 0), (24, .getfield 89, 3, 4, 6, 2, 0, 0), (27, .iload_n 1, 1, 1, 0, 0, 0, 0), (28, .bipush (6), 2, 0, 0, 0, 6, 0), (30, .imul, 1, 0, 0, 0, 0, 0), (31, .iaload, 1, 0, 0, 0, 0, 0), (32, .invokestatic 92, 3, 34, 1, 0, 0, 0), (35, .istore 6, 2, 0, 0, 0, 0, 0), (37, .iconst (1), 1, 0, 0, 0, 1, 0), (38, .aload_n 0, 1, 0, 0, 0, 0, 0), (39, .getfield 52, 3, 7, 0, 2, 0, 0), (42, .getfield 151, 3, 6, 7, 0, 0, 0), (45, .ishl, 1, 0, 0, 0, 0, 0), (46, .iconst (1), 1, 0, 0, 0, 1, 0), (47, .isub, 1, 0, 0, 0, 0, 0), (48, .istore 7, 2, 0, 0, 0, 0, 0), (50, .iconst (0), 1, 0, 0, 0, 0, 0), (51, .istore 8, 2, 0, 0, 0, 0, 0), (53, .lconst 0, 1, 0, 0, 0, 0, 0), (54, .lstore 9, 2, 0, 0, 0, 0, 0), (56, .aload_n 0, 1, 0, 0, 0, 0, 0), (57, .getfield 29, 3, 7, 6, 2, 0, 0), (60, .iload_n 1, 1, 1, 0, 0, 0, 0), (61, .aload_n 0, 1, 0, 0, 0, 0, 0), (62, .getfield 25, 3, 7, 5, 2, 0, 0), (65, .getfield 136, 3, 5, 1, 0, 0, 0), (68, .iastore, 1, 0, 0, 0, 0, 0), (69, .iconst (1), 1, 0, 0, 0, 1, 0), (70, .istore 11, 2, 0, 0, 0, 0, 0), (72, .iload 11, 2, 0, 0, 0, 0, 0), (74, .bipush (63), 2, 0, 0, 0, 63, 0), (76, .if_icmp .gt (119), 3, 195, 0, 0, 0, 0), (79, .aload_n 0, 1, 0, 0, 0, 0, 0), (80, .lload_n 2, 1, 2, 0, 0, 0, 0), (81, .aload_n 0, 1, 0, 0, 0, 0, 0), (82, .getfield 9, 3, 7, 2, 1, 0, 0), (85, .land, 1, 0, 0, 0, 0, 0), (86, .lload 9, 2, 0, 0, 0, 0, 0), (88, .ldc2_w 149, 3, 0, 0, 0, 0, (-1)), (91, .lxor, 1, 0, 0, 0, 0, 0), (92, .land, 1, 0, 0, 0, 0, 0), (93, .iload 6, 2, 0, 0, 0, 0, 0), (95, .invokestatic 82, 3, 33, 1, 0, 0, 0), (98, .invokevirtual 154, 3, 132, 3, 0, 0, 0), (101, .istore 12, 2, 0, 0, 0, 0, 0), (103, .iload 12, 2, 0, 0, 0, 0, 0), (105, .ifCond .ne (6), 3, 111, 0, 0, 0, 0), (108, .goto (87), 3, 195, 0, 0, 0, 0), (111, .aload_n 0, 1, 0, 0, 0, 0, 0), (112, .getfield 52, 3, 7, 0, 2, 0, 0), (115, .iload 12, 2, 0, 0, 0, 0, 0), (117, .iload 6, 2, 0, 0, 0, 0, 0), (119, .aload_n 0, 1, 0, 0, 0, 0, 0), (120, .getfield 9, 3, 7, 2, 1, 0, 0), (123, .invokevirtual 102, 3, 112, 4, 0, 0, 0), (126, .ifCond .ne (5), 3, 131, 0, 0, 0, 0), (129, .iconst (0), 1, 0, 0, 0, 0, 0), (130, .ireturn, 1, 0, 0, 1, 0, 0), (131, .lload 9, 2, 0, 0, 0, 0, 0), (133, .lconst 1, 1, 0, 0, 0, 0, 1), (134, .iload 12, 2, 0, 0, 0, 0, 0), (136, .lshl, 1, 0, 0, 0, 0, 0), (137, .lor, 1, 0, 0, 0, 0, 0), (138, .lstore 9, 2, 0, 0, 0, 0, 0), (140, .aload_n 0, 1, 0, 0, 0, 0, 0), (141, .invokevirtual 133, 3, 128, 1, 0, 0, 0), (144, .aload_n 0, 1, 0, 0, 0, 0, 0), (145, .getfield 25, 3, 7, 5, 2, 0, 0), (148, .iload 12, 2, 0, 0, 0, 0, 0), (150, .ineg, 1, 0, 0, 0, 0, 0), (151, .invokevirtual 158, 3, 78, 2, 0, 0, 0), (154, .aload_n 0, 1, 0, 0, 0, 0, 0), (155, .aload_n 0, 1, 0, 0, 0, 0, 0), (156, .getfield 52, 3, 7, 0, 2, 0, 0), (159, .getfield 139, 3, 6, 9, 0, 0, 0), (162, .iload 7, 2, 0, 0, 0, 0, 0), (164, .iconst (-1), 1, 0, 0, 0, (-1), 0), (165, .ixor, 1, 0, 0, 0, 0, 0), (166, .iand, 1, 0, 0, 0, 0, 0), (167, .invokevirtual 142, 3, 129, 2, 0, 0, 0), (170, .aload_n 0, 1, 0, 0, 0, 0, 0), (171, .invokevirtual 146, 3, 130, 1, 0, 0, 0), (174, .iload 8, 2, 0, 0, 0, 0, 0), (176, .aload_n 0, 1, 0, 0, 0, 0, 0), (177, .getfield 52, 3, 7, 0, 2, 0, 0), (180, .getfield 139, 3, 6, 9, 0, 0, 0), (183, .iload 7, 2, 0, 0, 0, 0, 0), (185, .iand, 1, 0, 0, 0, 0, 0), (186, .ior, 1, 0, 0, 0, 0, 0), (187, .istore 8, 2, 0, 0, 0, 0, 0), (189, .iinc 11 (1), 3, 0, 0, 0, 1, 0), (192, .goto (-120), 3, 72, 0, 0, 0, 0), (195, .aload_n 0, 1, 0, 0, 0, 0, 0), (196, .getfield 33, 3, 7, 7, 2, 0, 0), (199, .iload_n 1, 1, 1, 0, 0, 0, 0), (200, .aload_n 0, 1, 0, 0, 0, 0, 0), (201, .getfield 25, 3, 7, 5, 2, 0, 0), (204, .getfield 136, 3, 5, 1, 0, 0, 0), (207, .iastore, 1, 0, 0, 0, 0, 0), (208, .aload_n 0, 1, 0, 0, 0, 0, 0), (209, .iload 8, 2, 0, 0, 0, 0, 0), (211, .invokevirtual 142, 3, 129, 2, 0, 0, 0), (214, .aload_n 0, 1, 0, 0, 0, 0, 0), (215, .getfield 36, 3, 7, 8, 2, 0, 0), (218, .iload_n 1, 1, 1, 0, 0, 0, 0), (219, .aload_n 0, 1, 0, 0, 0, 0, 0), (220, .getfield 25, 3, 7, 5, 2, 0, 0), (223, .getfield 136, 3, 5, 1, 0, 0, 0), (226, .iastore, 1, 0, 0, 0, 0, 0), (227, .aload_n 0, 1, 0, 0, 0, 0, 0), (228, .getfield 39, 3, 7, 9, 2, 0, 0), (231, .iload_n 1, 1, 1, 0, 0, 0, 0), (232, .aload_n 0, 1, 0, 0, 0, 0, 0), (233, .getfield 9, 3, 7, 2, 1, 0, 0), (236, .lload 4, 2, 0, 0, 0, 0, 0), (238, .ldc2_w 149, 3, 0, 0, 0, 0, (-1)), (241, .lxor, 1, 0, 0, 0, 0, 0), (242, .land, 1, 0, 0, 0, 0, 0), (243, .lastore, 1, 0, 0, 0, 0, 0), (244, .aload_n 0, 1, 0, 0, 0, 0, 0), (245, .dup, 1, 0, 0, 0, 0, 0), (246, .getfield 15, 3, 7, 3, 1, 0, 0), (249, .lconst 1, 1, 0, 0, 0, 0, 1), (250, .iload_n 1, 1, 1, 0, 0, 0, 0), (251, .lshl, 1, 0, 0, 0, 0, 0), (252, .lor, 1, 0, 0, 0, 0, 0), (253, .putfield 15, 3, 7, 3, 1, 0, 0), (256, .iconst (1), 1, 0, 0, 0, 1, 0), (257, .ireturn, 1, 0, 0, 1, 0, 0)]
/-- 132: StreamRefuter$Refuter.pickCandidate(JI)I -/
def x_t132 : List xR := [(0, .iconst (1), 1, 0, 0, 0, 1, 0), (1, .istore 4, 2, 0, 0, 0, 0, 0), (3, .iload 4, 2, 0, 0, 0, 0, 0), (5, .aload_n 0, 1, 0, 0, 0, 0, 0), (6, .getfield 43, 3, 7, 1, 2, 0, 0), (9, .getfield 95, 3, 4, 4, 0, 0, 0), (12, .if_icmp .gt (36), 3, 48, 0, 0, 0, 0), (15, .lload_n 1, 1, 1, 0, 0, 0, 0), (16, .iload 4, 2, 0, 0, 0, 0, 0), (18, .invokestatic 98, 3, 68, 2, 0, 0, 0), (21, .ifCond .eq (21), 3, 42, 0, 0, 0, 0), (24, .aload_n 0, 1, 0, 0, 0, 0, 0), (25, .getfield 43, 3, 7, 1, 2, 0, 0), (28, .getfield 79, 3, 4, 8, 2, 0, 0), (31, .iload 4, 2, 0, 0, 0, 0, 0), (33, .iaload, 1, 0, 0, 0, 0, 0), (34, .iload_n 3, 1, 3, 0, 0, 0, 0), (35, .iand, 1, 0, 0, 0, 0, 0), (36, .ifCond .eq (6), 3, 42, 0, 0, 0, 0), (39, .iload 4, 2, 0, 0, 0, 0, 0), (41, .ireturn, 1, 0, 0, 0, 0, 0), (42, .iinc 4 (1), 3, 0, 0, 0, 1, 0), (45, .goto (-42), 3, 3, 0, 0, 0, 0), (48, .iconst (0), 1, 0, 0, 0, 0, 0), (49, .ireturn, 1, 0, 0, 0, 0, 0)]
/-- 133: StreamRefuter$Refuter.write(LStreamRefuter$Tokens;)I -/
def x_t133 : List xR := [(0, .aload_n 1, 1, 1, 0, 0, 0, 0), (1, .invokevirtual 127, 3, 40, 1, 0, 0, 0), (4, .aload_n 0, 1, 0, 0, 0, 0, 0), (5, .aload_n 1, 1, 1, 0, 0, 0, 0), (6, .aload_n 0, 1, 0, 0, 0, 0, 0), (7, .getfield 43, 3, 7, 1, 2, 0, 0), (10, .getfield 130, 3, 4, 3, 0, 0, 0), (13, .aload_n 0, 1, 0, 0, 0, 0, 0), (14, .getfield 43, 3, 7, 1, 2, 0, 0), (17, .getfield 61, 3, 4, 10, 2, 0, 0), (20, .iconst (0), 1, 0, 0, 0, 0, 0), (21, .laload, 1, 0, 0, 0, 0, 0), (22, .aload_n 0, 1, 0, 0, 0, 0, 0), (23, .getfield 9, 3, 7, 2, 1, 0, 0), (26, .ldc2_w 149, 3, 0, 0, 0, 0, (-1)), (29, .lxor, 1, 0, 0, 0, 0, 0), (30, .land, 1, 0, 0, 0, 0, 0), (31, .invokevirtual 167, 3, 134, 4, 0, 0, 0), (34, .iconst (1), 1, 0, 0, 0, 1, 0), (35, .istore_n 2, 1, 2, 0, 0, 0, 0), (36, .aload_n 0, 1, 0, 0, 0, 0, 0), (37, .getfield 43, 3, 7, 1, 2, 0, 0), (40, .getfield 130, 3, 4, 3, 0, 0, 0), (43, .iconst (1), 1, 0, 0, 0, 1, 0), (44, .iadd, 1, 0, 0, 0, 0, 0), (45, .istore_n 3, 1, 3, 0, 0, 0, 0), (46, .iload_n 3, 1, 3, 0, 0, 0, 0), (47, .aload_n 0, 1, 0, 0, 0, 0, 0), (48, .getfield 18, 3, 7, 4, 0, 0, 0), (51, .if_icmp .ge (50), 3, 101, 0, 0, 0, 0), (54, .aload_n 0, 1, 0, 0, 0, 0, 0), (55, .getfield 9, 3, 7, 2, 1, 0, 0), (58, .iload_n 3, 1, 3, 0, 0, 0, 0), (59, .invokestatic 98, 3, 68, 2, 0, 0, 0), (62, .ifCond .eq (33), 3, 95, 0, 0, 0, 0), (65, .aload_n 0, 1, 0, 0, 0, 0, 0), (66, .aload_n 1, 1, 1, 0, 0, 0, 0), (67, .iload_n 3, 1, 3, 0, 0, 0, 0), (68, .aload_n 0, 1, 0, 0, 0, 0, 0), (69, .getfield 43, 3, 7, 1, 2, 0, 0), (72, .getfield 86, 3, 4, 7, 2, 0, 0), (75, .iload_n 3, 1, 3, 0, 0, 0, 0), (76, .iaload, 1, 0, 0, 0, 0, 0), (77, .invokevirtual 171, 3, 135, 4, 0, 0, 0), (80, .aload_n 0, 1, 0, 0, 0, 0, 0), (81, .aload_n 1, 1, 1, 0, 0, 0, 0), (82, .iload_n 3, 1, 3, 0, 0, 0, 0), (83, .aload_n 0, 1, 0, 0, 0, 0, 0), (84, .getfield 39, 3, 7, 9, 2, 0, 0), (87, .iload_n 3, 1, 3, 0, 0, 0, 0), (88, .laload, 1, 0, 0, 0, 0, 0), (89, .invokevirtual 167, 3, 134, 4, 0, 0, 0), (92, .iinc 2 (1), 3, 0, 0, 0, 1, 0), (95, .iinc 3 (1), 3, 0, 0, 0, 1, 0), (98, .goto (-52), 3, 46, 0, 0, 0, 0), (101, .aload_n 0, 1, 0, 0, 0, 0, 0), (102, .aload_n 1, 1, 1, 0, 0, 0, 0), (103, .aload_n 0, 1, 0, 0, 0, 0, 0), (104, .getfield 18, 3, 7, 4, 0, 0, 0), (107, .iconst (0), 1, 0, 0, 0, 0, 0), (108, .invokevirtual 171, 3, 135, 4, 0, 0, 0), (111, .iload_n 2, 1, 2, 0, 0, 0, 0), (112, .ireturn, 1, 0, 0, 0, 0, 0)]
/-- 134: StreamRefuter$Refuter.writeDrops(LStreamRefuter$Tokens;IJ)V -/
def x_t134 : List xR := [(0, .lload_n 3, 1, 3, 0, 0, 0, 0), (1, .lconst 0, 1, 0, 0, 0, 0, 0), (2, .lcmp, 1, 0, 0, 0, 0, 0), (3, .ifCond .ne (4), 3, 7, 0, 0, 0, 0), (6, .return_, 1, 0, 0, 0, 0, 0), (7, .aload_n 1, 1, 1, 0, 0, 0, 0), (8, .iload_n 2, 1, 2, 0, 0, 0, 0), (9, .invokevirtual 158, 3, 78, 2, 0, 0, 0), (12, .aload_n 1, 1, 1, 0, 0, 0, 0), (13, .sipush (10000), 3, 0, 0, 0, 10000, 0), (16, .invokevirtual 158, 3, 78, 2, 0, 0, 0), (19, .iconst (1), 1, 0, 0, 0, 1, 0), (20, .istore 5, 2, 0, 0, 0, 0, 0), (22, .iload 5, 2, 0, 0, 0, 0, 0), (24, .aload_n 0, 1, 0, 0, 0, 0, 0), (25, .getfield 43, 3, 7, 1, 2, 0, 0), (28, .getfield 95, 3, 4, 4, 0, 0, 0), (31, .if_icmp .gt (24), 3, 55, 0, 0, 0, 0), (34, .lload_n 3, 1, 3, 0, 0, 0, 0), (35, .iload 5, 2, 0, 0, 0, 0, 0), (37, .invokestatic 98, 3, 68, 2, 0, 0, 0), (40, .ifCond .eq (9), 3, 49, 0, 0, 0, 0), (43, .aload_n 1, 1, 1, 0, 0, 0, 0), (44, .iload 5, 2, 0, 0, 0, 0, 0), (46, .invokevirtual 158, 3, 78, 2, 0, 0, 0), (49, .iinc 5 (1), 3, 0, 0, 0, 1, 0), (52, .goto (-30), 3, 22, 0, 0, 0, 0), (55, .aload_n 1, 1, 1, 0, 0, 0, 0), (56, .iconst (0), 1, 0, 0, 0, 0, 0), (57, .invokevirtual 158, 3, 78, 2, 0, 0, 0), (60, .return_, 1, 0, 0, 0, 0, 0)]
/-- 135: StreamRefuter$Refuter.writeLine(LStreamRefuter$Tokens;II)V -/
def x_t135 : List xR := [(0, .aload_n 1, 1, 1, 0, 0, 0, 0), (1, .iload_n 2, 1, 2, 0, 0, 0, 0), (2, .invokevirtual 158, 3, 78, 2, 0, 0, 0), (5, .iconst (0), 1, 0, 0, 0, 0, 0), (6, .istore 4, 2, 0, 0, 0, 0, 0), (8, .iload 4, 2, 0, 0, 0, 0, 0), (10, .iload_n 3, 1, 3, 0, 0, 0, 0), (11, .if_icmp .ge (28), 3, 39, 0, 0, 0, 0), (14, .aload_n 1, 1, 1, 0, 0, 0, 0), (15, .aload_n 0, 1, 0, 0, 0, 0, 0), (16, .getfield 43, 3, 7, 1, 2, 0, 0), (19, .getfield 89, 3, 4, 6, 2, 0, 0), (22, .iload_n 2, 1, 2, 0, 0, 0, 0), (23, .bipush (6), 2, 0, 0, 0, 6, 0), (25, .imul, 1, 0, 0, 0, 0, 0), (26, .iload 4, 2, 0, 0, 0, 0, 0), (28, .iadd, 1, 0, 0, 0, 0, 0), (29, .iaload, 1, 0, 0, 0, 0, 0), (30, .invokevirtual 158, 3, 78, 2, 0, 0, 0), (33, .iinc 4 (1), 3, 0, 0, 0, 1, 0), (36, .goto (-28), 3, 8, 0, 0, 0, 0), (39, .aload_n 1, 1, 1, 0, 0, 0, 0), (40, .iconst (0), 1, 0, 0, 0, 0, 0), (41, .invokevirtual 158, 3, 78, 2, 0, 0, 0), (44, .aload_n 1, 1, 1, 0, 0, 0, 0), (45, .aload_n 0, 1, 0, 0, 0, 0, 0), (46, .getfield 25, 3, 7, 5, 2, 0, 0), (49, .aload_n 0, 1, 0, 0, 0, 0, 0), (50, .getfield 33, 3, 7, 7, 2, 0, 0), (53, .iload_n 2, 1, 2, 0, 0, 0, 0), (54, .iaload, 1, 0, 0, 0, 0, 0), (55, .aload_n 0, 1, 0, 0, 0, 0, 0), (56, .getfield 36, 3, 7, 8, 2, 0, 0), (59, .iload_n 2, 1, 2, 0, 0, 0, 0), (60, .iaload, 1, 0, 0, 0, 0, 0), (61, .invokevirtual 175, 3, 136, 4, 0, 0, 0), (64, .aload_n 1, 1, 1, 0, 0, 0, 0), (65, .aload_n 0, 1, 0, 0, 0, 0, 0), (66, .getfield 25, 3, 7, 5, 2, 0, 0), (69, .aload_n 0, 1, 0, 0, 0, 0, 0), (70, .getfield 29, 3, 7, 6, 2, 0, 0), (73, .iload_n 2, 1, 2, 0, 0, 0, 0), (74, .iaload, 1, 0, 0, 0, 0, 0), (75, .aload_n 0, 1, 0, 0, 0, 0, 0), (76, .getfield 33, 3, 7, 7, 2, 0, 0), (79, .iload_n 2, 1, 2, 0, 0, 0, 0), (80, .iaload, 1, 0, 0, 0, 0, 0), (81, .invokevirtual 175, 3, 136, 4, 0, 0, 0), (84, .aload_n 1, 1, 1, 0, 0, 0, 0), (85, .iconst (0), 1, 0, 0, 0, 0, 0), (86, .invokevirtual 158, 3, 78, 2, 0, 0, 0), (89, .return_, 1, 0, 0, 0, 0, 0)]
/-- 136: StreamRefuter$Tokens.addPart(LStreamRefuter$Tokens;II)V -/
def x_t136 : List xR := [(0, .iload_n 2, 1, 2, 0, 0, 0, 0), (1, .istore 4, 2, 0, 0, 0, 0, 0), (3, .iload 4, 2, 0, 0, 0, 0, 0), (5, .iload_n 3, 1, 3, 0, 0, 0, 0), (6, .if_icmp .ge (19), 3, 25, 0, 0, 0, 0), (9, .aload_n 0, 1, 0, 0, 0, 0, 0), (10, .aload_n 1, 1, 1, 0, 0, 0, 0), (11, .iload 4, 2, 0, 0, 0, 0, 0), (13, .invokevirtual 22, 3, 137, 2, 0, 0, 0), (16, .invokevirtual 26, 3, 78, 2, 0, 0, 0), (19, .iinc 4 (1), 3, 0, 0, 0, 1, 0), (22, .goto (-19), 3, 3, 0, 0, 0, 0), (25, .return_, 1, 0, 0, 0, 0, 0)]
/-- 137: StreamRefuter$Tokens.at(I)I -/
def x_t137 : List xR := [(0, .iload_n 1, 1, 1, 0, 0, 0, 0), (1, .ifCond .lt (27), 3, 28, 0, 0, 0, 0), (4, .iload_n 1, 1, 1, 0, 0, 0, 0), (5, .aload_n 0, 1, 0, 0, 0, 0, 0), (6, .getfield 15, 3, 5, 1, 0, 0, 0), (9, .if_icmp .ge (19), 3, 28, 0, 0, 0, 0), (12, .iload_n 1, 1, 1, 0, 0, 0, 0), (13, .sipush (2000), 3, 0, 0, 0, 2000, 0), (16, .if_icmp .ge (12), 3, 28, 0, 0, 0, 0), (19, .aload_n 0, 1, 0, 0, 0, 0, 0), (20, .getfield 9, 3, 5, 0, 2, 0, 0), (23, .iload_n 1, 1, 1, 0, 0, 0, 0), (24, .iaload, 1, 0, 0, 0, 0, 0), (25, .goto (4), 3, 29, 0, 0, 0, 0), (28, .iconst (0), 1, 0, 0, 0, 0, 0), (29, .ireturn, 1, 0, 0, 0, 0, 0)]
/-- 138: StreamRefuter$Tokens.isOverfull()Z -/
def x_t138 : List xR := [(0, .aload_n 0, 1, 0, 0, 0, 0, 0), (1, .getfield 15, 3, 5, 1, 0, 0, 0), (4, .sipush (2000), 3, 0, 0, 0, 2000, 0), (7, .if_icmp .le (7), 3, 14, 0, 0, 0, 0), (10, .iconst (1), 1, 0, 0, 0, 1, 0), (11, .goto (4), 3, 15, 0, 0, 0, 0), (14, .iconst (0), 1, 0, 0, 0, 0, 0), (15, .ireturn, 1, 0, 0, 1, 0, 0)]
/-- 139: StreamRefuterModel.refute()I -/
def x_t139 : List xR := [(0, .aload_n 0, 1, 0, 0, 0, 0, 0), (1, .aload_n 0, 1, 0, 0, 0, 0, 0), (2, .getfield 197, 3, 9, 10, 0, 0, 0), (5, .ifCond .eq (7), 3, 12, 0, 0, 0, 0), (8, .iconst (0), 1, 0, 0, 0, 0, 0), (9, .goto (4), 3, 13, 0, 0, 0, 0), (12, .iconst (1), 1, 0, 0, 0, 1, 0), (13, .putfield 113, 3, 9, 0, 0, 0, 0), (16, .aload_n 0, 1, 0, 0, 0, 0, 0), (17, .getfield 113, 3, 9, 0, 0, 0, 0), (20, .ifCond .le (5), 3, 25, 0, 0, 0, 0), (23, .iconst (0), 1, 0, 0, 0, 0, 0), (24, .ireturn, 1, 0, 0, 0, 0, 0), (25, .aload_n 0, 1, 0, 0, 0, 0, 0), (26, .invokevirtual 277, 3, 100, 1, 0, 0, 0), (29, .istore_n 1, 1, 1, 0, 0, 0, 0), (30, .iload_n 1, 1, 1, 0, 0, 0, 0), (31, .ifCond .ge (5), 3, 36, 0, 0, 0, 0), (34, .iconst (0), 1, 0, 0, 0, 0, 0), (35, .ireturn, 1, 0, 0, 0, 0, 0), (36, .aload_n 0, 1, 0, 0, 0, 0, 0), (37, .iload_n 1, 1, 1, 0, 0, 0, 0), (38, .invokevirtual 322, 3, 140, 2, 0, 0, 0), (41, .istore_n 2, 1, 2, 0, 0, 0, 0), (42, .iload_n 2, 1, 2, 0, 0, 0, 0), (43, .ifCond .le (6), 3, 49, 0, 0, 0, 0), (46, .iload_n 2, 1, 2, 0, 0, 0, 0), (47, .ineg, 1, 0, 0, 0, 0, 0), (48, .ireturn, 1, 0, 0, 0, 0, 0), (49, .aload_n 0, 1, 0, 0, 0, 0, 0), (50, .getfield 187, 3, 9, 6, 0, 0, 0), (53, .istore_n 3, 1, 3, 0, 0, 0, 0), (54, .iconst (1), 1, 0, 0, 0, 1, 0), (55, .istore 4, 2, 0, 0, 0, 0, 0), (57, .iload 4, 2, 0, 0, 0, 0, 0), (59, .iload_n 1, 1, 1, 0, 0, 0, 0), (60, .if_icmp .gt (27), 3, 87, 0, 0, 0, 0), (63, .aload_n 0, 1, 0, 0, 0, 0, 0), (64, .getfield 19, 3, 9, 12, 2, 0, 0), (67, .iload 4, 2, 0, 0, 0, 0, 0), (69, .baload, 1, 0, 0, 0, 0, 0), (70, .ifCond .eq (9), 3, 79, 0, 0, 0, 0), (73, .iload_n 3, 1, 3, 0, 0, 0, 0), (74, .iconst (1), 1, 0, 0, 0, 1, 0), (75, .iadd, 1, 0, 0, 0, 0, 0), (76, .goto (4), 3, 80, 0, 0, 0, 0), (79, .iload_n 3, 1, 3, 0, 0, 0, 0), (80, .istore_n 3, 1, 3, 0, 0, 0, 0), (81, .iinc 4 (1), 3, 0, 0, 0, 1, 0), (84, .goto (-27), 3, 57, 0, 0, 0, 0), (87, .iconst (0), 1, 0, 0, 0, 0, 0), (88, .istore 4, 2, 0, 0, 0, 0, 0), (90, .aload_n 0, 1, 0, 0, 0, 0, 0), (91, .getfield 187, 3, 9, 6, 0, 0, 0), (94, .iconst (1), 1, 0, 0, 0, 1, 0), (95, .iadd, 1, 0, 0, 0, 0, 0), (96, .istore 5, 2, 0, 0, 0, 0, 0), (98, .iload 5, 2, 0, 0, 0, 0, 0), (100, .iload_n 3, 1, 3, 0, 0, 0, 0), (101, .if_icmp .gt (31), 3, 132, 0, 0, 0, 0), (104, .aload_n 0, 1, 0, 0, 0, 0, 0), (105, .getfield 50, 3, 9, 29, 2, 0, 0), (108, .iload 5, 2, 0, 0, 0, 0, 0), (110, .baload, 1, 0, 0, 0, 0, 0), (111, .ifCond .eq (15), 3, 126, 0, 0, 0, 0), (114, .aload_n 0, 1, 0, 0, 0, 0, 0), (115, .getfield 92, 3, 9, 48, 2, 0, 0), (118, .iload 4, 2, 0, 0, 0, 0, 0), (120, .iload 5, 2, 0, 0, 0, 0, 0), (122, .iastore, 1, 0, 0, 0, 0, 0), (123, .iinc 4 (1), 3, 0, 0, 0, 1, 0), (126, .iinc 5 (1), 3, 0, 0, 0, 1, 0), (129, .goto (-31), 3, 98, 0, 0, 0, 0), (132, .aload_n 0, 1, 0, 0, 0, 0, 0), (133, .getfield 92, 3, 9, 48, 2, 0, 0), (136, .iload 4, 2, 0, 0, 0, 0, 0), (138, .iconst (0), 1, 0, 0, 0, 0, 0), (139, .iastore, 1, 0, 0, 0, 0, 0), (140, .iinc 4 (1), 3, 0, 0, 0, 1, 0), (143, .iconst (0), 1, 0, 0, 0, 0, 0), (144, .istore 5, 2, 0, 0, 0, 0, 0), (146, .iload 5, 2, 0, 0, 0, 0, 0), (148, .bipush (64), 2, 0, 0, 0, 64, 0), (150, .if_icmp .ge (17), 3, 167, 0, 0, 0, 0), (153, .aload_n 0, 1, 0, 0, 0, 0, 0), (154, .getfield 95, 3, 9, 49, 2, 0, 0), (157, .iload 5, 2, 0, 0, 0, 0, 0), (159, .iconst (-1), 1, 0, 0, 0, (-1), 0), (160, .iastore, 1, 0, 0, 0, 0, 0), (161, .iinc 5 (1), 3, 0, 0, 0, 1, 0), (164, .goto (-18), 3, 146, 0, 0, 0, 0), (167, .iconst (0), 1, 0, 0, 0, 0, 0), (168, .istore 5, 2, 0, 0, 0, 0, 0), (170, .iload 5, 2, 0, 0, 0, 0, 0), (172, .iload 4, 2, 0, 0, 0, 0, 0), (174, .if_icmp .ge (65), 3, 239, 0, 0, 0, 0), (177, .iconst (0), 1, 0, 0, 0, 0, 0), (178, .istore 6, 2, 0, 0, 0, 0, 0), (180, .iload 6, 2, 0, 0, 0, 0, 0), (182, .aload_n 0, 1, 0, 0, 0, 0, 0), (183, .getfield 77, 3, 9, 42, 2, 0, 0), (186, .aload_n 0, 1, 0, 0, 0, 0, 0), (187, .getfield 92, 3, 9, 48, 2, 0, 0), (190, .iload 5, 2, 0, 0, 0, 0, 0), (192, .iaload, 1, 0, 0, 0, 0, 0), (193, .iaload, 1, 0, 0, 0, 0, 0), (194, .if_icmp .ge (39), 3, 233, 0, 0, 0, 0), (197, .aload_n 0, 1, 0, 0, 0, 0, 0), (198, .getfield 95, 3, 9, 49, 2, 0, 0), (201, .aload_n 0, 1, 0, 0, 0, 0, 0), (202, .getfield 71, 3, 9, 40, 2, 0, 0), (205, .aload_n 0, 1, 0, 0, 0, 0, 0), (206, .getfield 74, 3, 9, 41, 2, 0, 0), (209, .aload_n 0, 1, 0, 0, 0, 0, 0), (210, .getfield 92, 3, 9, 48, 2, 0, 0), (213, .iload 5, 2, 0, 0, 0, 0, 0), (215, .iaload, 1, 0, 0, 0, 0, 0), (216, .iaload, 1, 0, 0, 0, 0, 0), (217, .iload 6, 2, 0, 0, 0, 0, 0), (219, .iadd, 1, 0, 0, 0, 0, 0), (220, .iaload, 1, 0, 0, 0, 0, 0), (221, .invokestatic 149, 3, 53, 1, 0, 0, 0), (224, .iload 5, 2, 0, 0, 0, 0, 0), (226, .iastore, 1, 0, 0, 0, 0, 0), (227, .iinc 6 (1), 3, 0, 0, 0, 1, 0), (230, .goto (-50), 3, 180, 0, 0, 0, 0), (233, .iinc 5 (1), 3, 0, 0, 0, 1, 0), (236, .goto (-66), 3, 170, 0, 0, 0, 0), (239, .aload_n 0, 1, 0, 0, 0, 0, 0), (240, .iconst (0), 1, 0, 0, 0, 0, 0), (241, .putfield 222, 3, 9, 26, 0, 0, 0), (244, .aload_n 0, 1, 0, 0, 0, 0, 0), (245, .invokevirtual 325, 3, 148, 1, 0, 0, 0), (248, .iconst (0), 1, 0, 0, 0, 0, 0), (249, .istore 5, 2, 0, 0, 0, 0, 0), (251, .iload 5, 2, 0, 0, 0, 0, 0), (253, .iload 4, 2, 0, 0, 0, 0, 0), (255, .if_icmp .ge (52), 3, 307, 0, 0, 0, 0), (258, .aload_n 0, 1, 0, 0, 0, 0, 0), (259, .iload 5, 2, 0, 0, 0, 0, 0), (261, .aload_n 0, 1, 0, 0, 0, 0, 0), (262, .getfield 92, 3, 9, 48, 2, 0, 0), (265, .iload 5, 2, 0, 0, 0, 0, 0), (267, .iaload, 1, 0, 0, 0, 0, 0), (268, .ifCond .ne (9), 3, 277, 0, 0, 0, 0), (271, .iload_n 3, 1, 3, 0, 0, 0, 0), (272, .iconst (1), 1, 0, 0, 0, 1, 0), (273, .iadd, 1, 0, 0, 0, 0, 0), (274, .goto (10), 3, 284, 0, 0, 0, 0), (277, .aload_n 0, 1, 0, 0, 0, 0, 0), (278, .getfield 92, 3, 9, 48, 2, 0, 0), (281, .iload 5, 2, 0, 0, 0, 0, 0), (283, .iaload, 1, 0, 0, 0, 0, 0), (284, .iload 5, 2, 0, 0, 0, 0, 0), (286, .iload 4, 2, 0, 0, 0, 0, 0), (288, .iconst (1), 1, 0, 0, 0, 1, 0), (289, .isub, 1, 0, 0, 0, 0, 0), (290, .if_icmp .ne (7), 3, 297, 0, 0, 0, 0), (293, .iconst (1), 1, 0, 0, 0, 1, 0), (294, .goto (4), 3, 298, 0, 0, 0, 0), (297, .iconst (0), 1, 0, 0, 0, 0, 0), (298, .invokevirtual 328, 3, 149, 4, 0, 0, 0), (301, .iinc 5 (1), 3, 0, 0, 0, 1, 0), (304, .goto (-53), 3, 251, 0, 0, 0, 0), (307, .aload_n 0, 1, 0, 0, 0, 0, 0), (308, .getfield 222, 3, 9, 26, 0, 0, 0), (311, .sipush (2000), 3, 0, 0, 0, 2000, 0), (314, .if_icmp .le (7), 3, 321, 0, 0, 0, 0), (317, .sipush (-1000), 3, 0, 0, 0, (-1000), 0), (320, .ireturn, 1, 0, 0, 0, 0, 0), (321, .aload_n 0, 1, 0, 0, 0, 0, 0), (322, .invokevirtual 235, 3, 85, 1, 0, 0, 0), (325, .iconst (0), 1, 0, 0, 0, 0, 0), (326, .istore 5, 2, 0, 0, 0, 0, 0), (328, .iload 5, 2, 0, 0, 0, 0, 0), (330, .bipush (64), 2, 0, 0, 0, 64, 0), (332, .if_icmp .ge (23), 3, 355, 0, 0, 0, 0), (335, .aload_n 0, 1, 0, 0, 0, 0, 0), (336, .getfield 29, 3, 9, 15, 2, 0, 0), (339, .iload 5, 2, 0, 0, 0, 0, 0), (341, .aload_n 0, 1, 0, 0, 0, 0, 0), (342, .getfield 50, 3, 9, 29, 2, 0, 0), (345, .iload 5, 2, 0, 0, 0, 0, 0), (347, .baload, 1, 0, 0, 0, 0, 0), (348, .bastore, 1, 0, 0, 0, 0, 0), (349, .iinc 5 (1), 3, 0, 0, 0, 1, 0), (352, .goto (-24), 3, 328, 0, 0, 0, 0), (355, .iconst (0), 1, 0, 0, 0, 0, 0), (356, .istore 5, 2, 0, 0, 0, 0, 0), (358, .iload 5, 2, 0, 0, 0, 0, 0), (360, .bipush (81), 2, 0, 0, 0, 81, 0), (362, .if_icmp .ge (23), 3, 385, 0, 0, 0, 0), (365, .aload_n 0, 1, 0, 0, 0, 0, 0), (366, .getfield 26, 3, 9, 14, 2, 0, 0), (369, .iload 5, 2, 0, 0, 0, 0, 0), (371, .aload_n 0, 1, 0, 0, 0, 0, 0), (372, .getfield 89, 3, 9, 47, 2, 0, 0), (375, .iload 5, 2, 0, 0, 0, 0, 0), (377, .iaload, 1, 0, 0, 0, 0, 0), (378, .iastore, 1, 0, 0, 0, 0, 0), (379, .iinc 5 (1), 3, 0, 0, 0, 1, 0), (382, .goto (-24), 3, 358, 0, 0, 0, 0), (385, .iload 4, 2, 0, 0, 0, 0, 0), (387, .ireturn, 1, 0, 0, 0, 0, 0)]
/-- 140: StreamRefuterModel.goBack(I)I -/
def x_t140 : List xR := [(0, .aload_n 0, 1, 0, 0, 0, 0, 0), (1, .iconst (0), 1, 0, 0, 0, 0, 0), (2, .putfield 295, 3, 9, 39, 0, 0, 0), (5, .aload_n 0, 1, 0, 0, 0, 0, 0), (6, .iload_n 1, 1, 1, 0, 0, 0, 0), (7, .invokevirtual 274, 3, 101, 2, 0, 0, 0), (10, .aload_n 0, 1, 0, 0, 0, 0, 0), (11, .invokevirtual 259, 3, 102, 1, 0, 0, 0), (14, .aload_n 0, 1, 0, 0, 0, 0, 0), (15, .invokevirtual 262, 3, 103, 1, 0, 0, 0), (18, .aload_n 0, 1, 0, 0, 0, 0, 0), (19, .invokevirtual 265, 3, 119, 1, 0, 0, 0), (22, .aload_n 0, 1, 0, 0, 0, 0, 0), (23, .invokevirtual 271, 3, 121, 1, 0, 0, 0), (26, .aload_n 0, 1, 0, 0, 0, 0, 0), (27, .iconst (0), 1, 0, 0, 0, 0, 0), (28, .invokevirtual 313, 3, 141, 2, 0, 0, 0), (31, .iconst (0), 1, 0, 0, 0, 0, 0), (32, .istore_n 2, 1, 2, 0, 0, 0, 0), (33, .iload_n 2, 1, 2, 0, 0, 0, 0), (34, .bipush (81), 2, 0, 0, 0, 81, 0), (36, .if_icmp .ge (16), 3, 52, 0, 0, 0, 0), (39, .aload_n 0, 1, 0, 0, 0, 0, 0), (40, .getfield 89, 3, 9, 47, 2, 0, 0), (43, .iload_n 2, 1, 2, 0, 0, 0, 0), (44, .iconst (0), 1, 0, 0, 0, 0, 0), (45, .iastore, 1, 0, 0, 0, 0, 0), (46, .iinc 2 (1), 3, 0, 0, 0, 1, 0), (49, .goto (-16), 3, 33, 0, 0, 0, 0), (52, .iload_n 1, 1, 1, 0, 0, 0, 0), (53, .istore_n 2, 1, 2, 0, 0, 0, 0), (54, .iload_n 2, 1, 2, 0, 0, 0, 0), (55, .ifCond .le (80), 3, 135, 0, 0, 0, 0), (58, .aload_n 0, 1, 0, 0, 0, 0, 0), (59, .getfield 23, 3, 9, 13, 2, 0, 0), (62, .iload_n 2, 1, 2, 0, 0, 0, 0), (63, .iaload, 1, 0, 0, 0, 0, 0), (64, .istore_n 3, 1, 3, 0, 0, 0, 0), (65, .aload_n 0, 1, 0, 0, 0, 0, 0), (66, .getfield 47, 3, 9, 28, 2, 0, 0), (69, .iload_n 3, 1, 3, 0, 0, 0, 0), (70, .aload_n 0, 1, 0, 0, 0, 0, 0), (71, .getfield 19, 3, 9, 12, 2, 0, 0), (74, .iload_n 2, 1, 2, 0, 0, 0, 0), (75, .baload, 1, 0, 0, 0, 0, 0), (76, .ifCond .ne (11), 3, 87, 0, 0, 0, 0), (79, .iload_n 3, 1, 3, 0, 0, 0, 0), (80, .ifCond .le (7), 3, 87, 0, 0, 0, 0), (83, .iconst (1), 1, 0, 0, 0, 1, 0), (84, .goto (4), 3, 88, 0, 0, 0, 0), (87, .iconst (0), 1, 0, 0, 0, 0, 0), (88, .bastore, 1, 0, 0, 0, 0, 0), (89, .aload_n 0, 1, 0, 0, 0, 0, 0), (90, .getfield 19, 3, 9, 12, 2, 0, 0), (93, .iload_n 2, 1, 2, 0, 0, 0, 0), (94, .baload, 1, 0, 0, 0, 0, 0), (95, .ifCond .eq (34), 3, 129, 0, 0, 0, 0), (98, .aload_n 0, 1, 0, 0, 0, 0, 0), (99, .getfield 50, 3, 9, 29, 2, 0, 0), (102, .iload_n 3, 1, 3, 0, 0, 0, 0), (103, .baload, 1, 0, 0, 0, 0, 0), (104, .ifCond .eq (25), 3, 129, 0, 0, 0, 0), (107, .aload_n 0, 1, 0, 0, 0, 0, 0), (108, .getfield 89, 3, 9, 47, 2, 0, 0), (111, .iload_n 2, 1, 2, 0, 0, 0, 0), (112, .aload_n 0, 1, 0, 0, 0, 0, 0), (113, .iload_n 3, 1, 3, 0, 0, 0, 0), (114, .invokevirtual 319, 3, 143, 2, 0, 0, 0), (117, .iastore, 1, 0, 0, 0, 0, 0), (118, .aload_n 0, 1, 0, 0, 0, 0, 0), (119, .getfield 89, 3, 9, 47, 2, 0, 0), (122, .iload_n 2, 1, 2, 0, 0, 0, 0), (123, .iaload, 1, 0, 0, 0, 0, 0), (124, .ifCond .ne (5), 3, 129, 0, 0, 0, 0), (127, .iload_n 2, 1, 2, 0, 0, 0, 0), (128, .ireturn, 1, 0, 0, 0, 0, 0), (129, .iinc 2 (-1), 3, 0, 0, 0, (-1), 0), (132, .goto (-78), 3, 54, 0, 0, 0, 0), (135, .iconst (0), 1, 0, 0, 0, 0, 0), (136, .ireturn, 1, 0, 0, 0, 0, 0)]
/-- 141: StreamRefuterModel.hintsOf(I)V -/
def x_t141 : List xR := [(0, .aload_n 0, 1, 0, 0, 0, 0, 0), (1, .getfield 74, 3, 9, 41, 2, 0, 0), (4, .iload_n 1, 1, 1, 0, 0, 0, 0), (5, .aload_n 0, 1, 0, 0, 0, 0, 0), (6, .getfield 295, 3, 9, 39, 0, 0, 0), (9, .iastore, 1, 0, 0, 0, 0, 0), (10, .iconst (0), 1, 0, 0, 0, 0, 0), (11, .istore_n 2, 1, 2, 0, 0, 0, 0), (12, .iload_n 2, 1, 2, 0, 0, 0, 0), (13, .aload_n 0, 1, 0, 0, 0, 0, 0), (14, .getfield 253, 3, 9, 34, 0, 0, 0), (17, .if_icmp .ge (40), 3, 57, 0, 0, 0, 0), (20, .aload_n 0, 1, 0, 0, 0, 0, 0), (21, .getfield 68, 3, 9, 38, 2, 0, 0), (24, .iload_n 2, 1, 2, 0, 0, 0, 0), (25, .baload, 1, 0, 0, 0, 0, 0), (26, .ifCond .eq (25), 3, 51, 0, 0, 0, 0), (29, .aload_n 0, 1, 0, 0, 0, 0, 0), (30, .aload_n 0, 1, 0, 0, 0, 0, 0), (31, .getfield 59, 3, 9, 35, 2, 0, 0), (34, .iload_n 2, 1, 2, 0, 0, 0, 0), (35, .iaload, 1, 0, 0, 0, 0, 0), (36, .invokevirtual 298, 3, 142, 2, 0, 0, 0), (39, .aload_n 0, 1, 0, 0, 0, 0, 0), (40, .getfield 50, 3, 9, 29, 2, 0, 0), (43, .aload_n 0, 1, 0, 0, 0, 0, 0), (44, .getfield 59, 3, 9, 35, 2, 0, 0), (47, .iload_n 2, 1, 2, 0, 0, 0, 0), (48, .iaload, 1, 0, 0, 0, 0, 0), (49, .iconst (1), 1, 0, 0, 0, 1, 0), (50, .bastore, 1, 0, 0, 0, 0, 0), (51, .iinc 2 (1), 3, 0, 0, 0, 1, 0), (54, .goto (-42), 3, 12, 0, 0, 0, 0), (57, .aload_n 0, 1, 0, 0, 0, 0, 0), (58, .getfield 77, 3, 9, 42, 2, 0, 0), (61, .iload_n 1, 1, 1, 0, 0, 0, 0), (62, .aload_n 0, 1, 0, 0, 0, 0, 0), (63, .getfield 295, 3, 9, 39, 0, 0, 0), (66, .aload_n 0, 1, 0, 0, 0, 0, 0), (67, .getfield 74, 3, 9, 41, 2, 0, 0), (70, .iload_n 1, 1, 1, 0, 0, 0, 0), (71, .iaload, 1, 0, 0, 0, 0, 0), (72, .isub, 1, 0, 0, 0, 0, 0), (73, .iastore, 1, 0, 0, 0, 0, 0), (74, .return_, 1, 0, 0, 0, 0, 0)]
/-- 142: StreamRefuterModel.addHint(I)V -/
def x_t142 : List xR := [(0, .aload_n 0, 1, 0, 0, 0, 0, 0), (1, .getfield 295, 3, 9, 39, 0, 0, 0), (4, .sipush (2400), 3, 0, 0, 0, 2400, 0), (7, .if_icmp .ge (23), 3, 30, 0, 0, 0, 0), (10, .aload_n 0, 1, 0, 0, 0, 0, 0), (11, .getfield 71, 3, 9, 40, 2, 0, 0), (14, .aload_n 0, 1, 0, 0, 0, 0, 0), (15, .getfield 295, 3, 9, 39, 0, 0, 0), (18, .iload_n 1, 1, 1, 0, 0, 0, 0), (19, .iastore, 1, 0, 0, 0, 0, 0), (20, .aload_n 0, 1, 0, 0, 0, 0, 0), (21, .dup, 1, 0, 0, 0, 0, 0), (22, .getfield 295, 3, 9, 39, 0, 0, 0), (25, .iconst (1), 1, 0, 0, 0, 1, 0), (26, .iadd, 1, 0, 0, 0, 0, 0), (27, .putfield 295, 3, 9, 39, 0, 0, 0), (30, .return_, 1, 0, 0, 0, 0, 0)]
/-- 143: StreamRefuterModel.wayOf(I)I -/
def x_t143 : List xR := [(0, .aload_n 0, 1, 0, 0, 0, 0, 0), (1, .iload_n 1, 1, 1, 0, 0, 0, 0), (2, .invokevirtual 280, 3, 116, 2, 0, 0, 0), (5, .ifCond .eq (18), 3, 23, 0, 0, 0, 0), (8, .aload_n 0, 1, 0, 0, 0, 0, 0), (9, .invokevirtual 265, 3, 119, 1, 0, 0, 0), (12, .aload_n 0, 1, 0, 0, 0, 0, 0), (13, .invokevirtual 271, 3, 121, 1, 0, 0, 0), (16, .aload_n 0, 1, 0, 0, 0, 0, 0), (17, .iload_n 1, 1, 1, 0, 0, 0, 0), (18, .invokevirtual 313, 3, 141, 2, 0, 0, 0), (21, .iconst (1), 1, 0, 0, 0, 1, 0), (22, .ireturn, 1, 0, 0, 0, 0, 0), (23, .aload_n 0, 1, 0, 0, 0, 0, 0), (24, .getfield 16, 3, 9, 9, 2, 0, 0), (27, .iload_n 1, 1, 1, 0, 0, 0, 0), (28, .iaload, 1, 0, 0, 0, 0, 0), (29, .ifCond .le (15), 3, 44, 0, 0, 0, 0), (32, .aload_n 0, 1, 0, 0, 0, 0, 0), (33, .iload_n 1, 1, 1, 0, 0, 0, 0), (34, .invokevirtual 316, 3, 144, 2, 0, 0, 0), (37, .ifCond .eq (7), 3, 44, 0, 0, 0, 0), (40, .iconst (2), 1, 0, 0, 0, 2, 0), (41, .goto (4), 3, 45, 0, 0, 0, 0), (44, .iconst (0), 1, 0, 0, 0, 0, 0), (45, .ireturn, 1, 0, 0, 0, 0, 0)]
/-- 144: StreamRefuterModel.spared(I)Z -/
def x_t144 : List xR := [(0, .aload_n 0, 1, 0, 0, 0, 0, 0), (1, .getfield 13, 3, 9, 8, 2, 0, 0), (4, .bipush (6), 2, 0, 0, 0, 6, 0), (6, .iload_n 1, 1, 1, 0, 0, 0, 0), (7, .imul, 1, 0, 0, 0, 0, 0), (8, .iaload, 1, 0, 0, 0, 0, 0), (9, .ineg, 1, 0, 0, 0, 0, 0), (10, .istore_n 2, 1, 2, 0, 0, 0, 0), (11, .aload_n 0, 1, 0, 0, 0, 0, 0), (12, .getfield 253, 3, 9, 34, 0, 0, 0), (15, .istore_n 3, 1, 3, 0, 0, 0, 0), (16, .aload_n 0, 1, 0, 0, 0, 0, 0), (17, .invokevirtual 283, 3, 117, 1, 0, 0, 0), (20, .aload_n 0, 1, 0, 0, 0, 0, 0), (21, .iconst (0), 1, 0, 0, 0, 0, 0), (22, .putfield 301, 3, 9, 43, 0, 0, 0), (25, .iconst (0), 1, 0, 0, 0, 0, 0), (26, .istore 4, 2, 0, 0, 0, 0, 0), (28, .iload 4, 2, 0, 0, 0, 0, 0), (30, .bipush (60), 2, 0, 0, 0, 60, 0), (32, .if_icmp .ge (17), 3, 49, 0, 0, 0, 0), (35, .aload_n 0, 1, 0, 0, 0, 0, 0), (36, .getfield 83, 3, 9, 45, 2, 0, 0), (39, .iload 4, 2, 0, 0, 0, 0, 0), (41, .iconst (0), 1, 0, 0, 0, 0, 0), (42, .bastore, 1, 0, 0, 0, 0, 0), (43, .iinc 4 (1), 3, 0, 0, 0, 1, 0), (46, .goto (-18), 3, 28, 0, 0, 0, 0), (49, .iconst (0), 1, 0, 0, 0, 0, 0), (50, .istore 4, 2, 0, 0, 0, 0, 0), (52, .iload 4, 2, 0, 0, 0, 0, 0), (54, .bipush (64), 2, 0, 0, 0, 64, 0), (56, .if_icmp .ge (17), 3, 73, 0, 0, 0, 0), (59, .aload_n 0, 1, 0, 0, 0, 0, 0), (60, .getfield 86, 3, 9, 46, 2, 0, 0), (63, .iload 4, 2, 0, 0, 0, 0, 0), (65, .iconst (0), 1, 0, 0, 0, 0, 0), (66, .bastore, 1, 0, 0, 0, 0, 0), (67, .iinc 4 (1), 3, 0, 0, 0, 1, 0), (70, .goto (-18), 3, 52, 0, 0, 0, 0), (73, .aload_n 0, 1, 0, 0, 0, 0, 0), (74, .iload_n 2, 1, 2, 0, 0, 0, 0), (75, .invokevirtual 307, 3, 145, 2, 0, 0, 0), (78, .istore 4, 2, 0, 0, 0, 0, 0), (80, .iload 4, 2, 0, 0, 0, 0, 0), (82, .ifCond .le (45), 3, 127, 0, 0, 0, 0), (85, .aload_n 0, 1, 0, 0, 0, 0, 0), (86, .getfield 86, 3, 9, 46, 2, 0, 0), (89, .iload 4, 2, 0, 0, 0, 0, 0), (91, .iconst (1), 1, 0, 0, 0, 1, 0), (92, .bastore, 1, 0, 0, 0, 0, 0), (93, .aload_n 0, 1, 0, 0, 0, 0, 0), (94, .iload 4, 2, 0, 0, 0, 0, 0), (96, .iload_n 2, 1, 2, 0, 0, 0, 0), (97, .invokevirtual 286, 3, 118, 3, 0, 0, 0), (100, .ifCond .ne (5), 3, 105, 0, 0, 0, 0), (103, .iconst (0), 1, 0, 0, 0, 0, 0), (104, .ireturn, 1, 0, 0, 1, 0, 0), (105, .aload_n 0, 1, 0, 0, 0, 0, 0), (106, .iload 4, 2, 0, 0, 0, 0, 0), (108, .iload_n 3, 1, 3, 0, 0, 0, 0), (109, .invokevirtual 310, 3, 146, 3, 0, 0, 0), (112, .aload_n 0, 1, 0, 0, 0, 0, 0), (113, .iload_n 3, 1, 3, 0, 0, 0, 0), (114, .invokevirtual 289, 3, 122, 2, 0, 0, 0), (117, .aload_n 0, 1, 0, 0, 0, 0, 0), (118, .iload_n 2, 1, 2, 0, 0, 0, 0), (119, .invokevirtual 307, 3, 145, 2, 0, 0, 0), (122, .istore 4, 2, 0, 0, 0, 0, 0), (124, .goto (-44), 3, 80, 0, 0, 0, 0), (127, .aload_n 0, 1, 0, 0, 0, 0, 0), (128, .getfield 74, 3, 9, 41, 2, 0, 0), (131, .iload_n 1, 1, 1, 0, 0, 0, 0), (132, .aload_n 0, 1, 0, 0, 0, 0, 0), (133, .getfield 295, 3, 9, 39, 0, 0, 0), (136, .iastore, 1, 0, 0, 0, 0, 0), (137, .iconst (0), 1, 0, 0, 0, 0, 0), (138, .istore 5, 2, 0, 0, 0, 0, 0), (140, .iload 5, 2, 0, 0, 0, 0, 0), (142, .iload_n 3, 1, 3, 0, 0, 0, 0), (143, .if_icmp .ge (30), 3, 173, 0, 0, 0, 0), (146, .aload_n 0, 1, 0, 0, 0, 0, 0), (147, .getfield 83, 3, 9, 45, 2, 0, 0), (150, .iload 5, 2, 0, 0, 0, 0, 0), (152, .baload, 1, 0, 0, 0, 0, 0), (153, .ifCond .eq (14), 3, 167, 0, 0, 0, 0), (156, .aload_n 0, 1, 0, 0, 0, 0, 0), (157, .aload_n 0, 1, 0, 0, 0, 0, 0), (158, .getfield 59, 3, 9, 35, 2, 0, 0), (161, .iload 5, 2, 0, 0, 0, 0, 0), (163, .iaload, 1, 0, 0, 0, 0, 0), (164, .invokevirtual 298, 3, 142, 2, 0, 0, 0), (167, .iinc 5 (1), 3, 0, 0, 0, 1, 0), (170, .goto (-30), 3, 140, 0, 0, 0, 0), (173, .iconst (0), 1, 0, 0, 0, 0, 0), (174, .istore 5, 2, 0, 0, 0, 0, 0), (176, .iload 5, 2, 0, 0, 0, 0, 0), (178, .aload_n 0, 1, 0, 0, 0, 0, 0), (179, .getfield 301, 3, 9, 43, 0, 0, 0), (182, .if_icmp .ge (20), 3, 202, 0, 0, 0, 0), (185, .aload_n 0, 1, 0, 0, 0, 0, 0), (186, .aload_n 0, 1, 0, 0, 0, 0, 0), (187, .getfield 80, 3, 9, 44, 2, 0, 0), (190, .iload 5, 2, 0, 0, 0, 0, 0), (192, .iaload, 1, 0, 0, 0, 0, 0), (193, .invokevirtual 298, 3, 142, 2, 0, 0, 0), (196, .iinc 5 (1), 3, 0, 0, 0, 1, 0), (199, .goto (-23), 3, 176, 0, 0, 0, 0), (202, .aload_n 0, 1, 0, 0, 0, 0, 0), (203, .getfield 77, 3, 9, 42, 2, 0, 0), (206, .iload_n 1, 1, 1, 0, 0, 0, 0), (207, .aload_n 0, 1, 0, 0, 0, 0, 0), (208, .getfield 295, 3, 9, 39, 0, 0, 0), (211, .aload_n 0, 1, 0, 0, 0, 0, 0), (212, .getfield 74, 3, 9, 41, 2, 0, 0), (215, .iload_n 1, 1, 1, 0, 0, 0, 0), (216, .iaload, 1, 0, 0, 0, 0, 0), (217, .isub, 1, 0, 0, 0, 0, 0), (218, .iastore, 1, 0, 0, 0, 0, 0), (219, .iconst (1), 1, 0, 0, 0, 1, 0), (220, .ireturn, 1, 0, 0, 1, 0, 0)]
/-- 145: StreamRefuterModel.candidate(I)I -/
def x_t145 : List xR := [(0, .iconst (0), 1, 0, 0, 0, 0, 0), (1, .istore_n 2, 1, 2, 0, 0, 0, 0), (2, .aload_n 0, 1, 0, 0, 0, 0, 0), (3, .getfield 190, 3, 9, 7, 0, 0, 0), (6, .istore_n 3, 1, 3, 0, 0, 0, 0), (7, .iload_n 3, 1, 3, 0, 0, 0, 0), (8, .ifCond .le (51), 3, 59, 0, 0, 0, 0), (11, .aload_n 0, 1, 0, 0, 0, 0, 0), (12, .getfield 47, 3, 9, 28, 2, 0, 0), (15, .iload_n 3, 1, 3, 0, 0, 0, 0), (16, .baload, 1, 0, 0, 0, 0, 0), (17, .ifCond .eq (34), 3, 51, 0, 0, 0, 0), (20, .aload_n 0, 1, 0, 0, 0, 0, 0), (21, .getfield 50, 3, 9, 29, 2, 0, 0), (24, .iload_n 3, 1, 3, 0, 0, 0, 0), (25, .baload, 1, 0, 0, 0, 0, 0), (26, .ifCond .eq (25), 3, 51, 0, 0, 0, 0), (29, .aload_n 0, 1, 0, 0, 0, 0, 0), (30, .getfield 86, 3, 9, 46, 2, 0, 0), (33, .iload_n 3, 1, 3, 0, 0, 0, 0), (34, .baload, 1, 0, 0, 0, 0, 0), (35, .ifCond .ne (16), 3, 51, 0, 0, 0, 0), (38, .aload_n 0, 1, 0, 0, 0, 0, 0), (39, .iload_n 3, 1, 3, 0, 0, 0, 0), (40, .iload_n 1, 1, 1, 0, 0, 0, 0), (41, .invokevirtual 212, 3, 73, 3, 0, 0, 0), (44, .ifCond .eq (7), 3, 51, 0, 0, 0, 0), (47, .iload_n 3, 1, 3, 0, 0, 0, 0), (48, .goto (4), 3, 52, 0, 0, 0, 0), (51, .iload_n 2, 1, 2, 0, 0, 0, 0), (52, .istore_n 2, 1, 2, 0, 0, 0, 0), (53, .iinc 3 (-1), 3, 0, 0, 0, (-1), 0), (56, .goto (-49), 3, 7, 0, 0, 0, 0), (59, .iload_n 2, 1, 2, 0, 0, 0, 0), (60, .ireturn, 1, 0, 0, 0, 0, 0)]
/-- 146: StreamRefuterModel.takeGroup(II)V -/
def x_t146 : List xR := [(0, .aload_n 0, 1, 0, 0, 0, 0, 0), (1, .iload_n 1, 1, 1, 0, 0, 0, 0), (2, .ineg, 1, 0, 0, 0, 0, 0), (3, .invokevirtual 304, 3, 147, 2, 0, 0, 0), (6, .iconst (0), 1, 0, 0, 0, 0, 0), (7, .istore_n 3, 1, 3, 0, 0, 0, 0), (8, .iload_n 3, 1, 3, 0, 0, 0, 0), (9, .aload_n 0, 1, 0, 0, 0, 0, 0), (10, .getfield 253, 3, 9, 34, 0, 0, 0), (13, .if_icmp .ge (70), 3, 83, 0, 0, 0, 0), (16, .aload_n 0, 1, 0, 0, 0, 0, 0), (17, .getfield 68, 3, 9, 38, 2, 0, 0), (20, .iload_n 3, 1, 3, 0, 0, 0, 0), (21, .baload, 1, 0, 0, 0, 0, 0), (22, .ifCond .eq (55), 3, 77, 0, 0, 0, 0), (25, .aload_n 0, 1, 0, 0, 0, 0, 0), (26, .getfield 50, 3, 9, 29, 2, 0, 0), (29, .aload_n 0, 1, 0, 0, 0, 0, 0), (30, .getfield 59, 3, 9, 35, 2, 0, 0), (33, .iload_n 3, 1, 3, 0, 0, 0, 0), (34, .iaload, 1, 0, 0, 0, 0, 0), (35, .iconst (1), 1, 0, 0, 0, 1, 0), (36, .bastore, 1, 0, 0, 0, 0, 0), (37, .aload_n 0, 1, 0, 0, 0, 0, 0), (38, .getfield 83, 3, 9, 45, 2, 0, 0), (41, .iload_n 3, 1, 3, 0, 0, 0, 0), (42, .iload_n 3, 1, 3, 0, 0, 0, 0), (43, .iload_n 2, 1, 2, 0, 0, 0, 0), (44, .if_icmp .lt (12), 3, 56, 0, 0, 0, 0), (47, .aload_n 0, 1, 0, 0, 0, 0, 0), (48, .getfield 83, 3, 9, 45, 2, 0, 0), (51, .iload_n 3, 1, 3, 0, 0, 0, 0), (52, .baload, 1, 0, 0, 0, 0, 0), (53, .ifCond .eq (7), 3, 60, 0, 0, 0, 0), (56, .iconst (1), 1, 0, 0, 0, 1, 0), (57, .goto (4), 3, 61, 0, 0, 0, 0), (60, .iconst (0), 1, 0, 0, 0, 0, 0), (61, .bastore, 1, 0, 0, 0, 0, 0), (62, .iload_n 3, 1, 3, 0, 0, 0, 0), (63, .iload_n 2, 1, 2, 0, 0, 0, 0), (64, .if_icmp .lt (13), 3, 77, 0, 0, 0, 0), (67, .aload_n 0, 1, 0, 0, 0, 0, 0), (68, .aload_n 0, 1, 0, 0, 0, 0, 0), (69, .getfield 59, 3, 9, 35, 2, 0, 0), (72, .iload_n 3, 1, 3, 0, 0, 0, 0), (73, .iaload, 1, 0, 0, 0, 0, 0), (74, .invokevirtual 304, 3, 147, 2, 0, 0, 0), (77, .iinc 3 (1), 3, 0, 0, 0, 1, 0), (80, .goto (-72), 3, 8, 0, 0, 0, 0), (83, .return_, 1, 0, 0, 0, 0, 0)]
/-- 147: StreamRefuterModel.addGroup(I)V -/
def x_t147 : List xR := [(0, .aload_n 0, 1, 0, 0, 0, 0, 0), (1, .getfield 80, 3, 9, 44, 2, 0, 0), (4, .aload_n 0, 1, 0, 0, 0, 0, 0), (5, .getfield 301, 3, 9, 43, 0, 0, 0), (8, .iload_n 1, 1, 1, 0, 0, 0, 0), (9, .iastore, 1, 0, 0, 0, 0, 0), (10, .aload_n 0, 1, 0, 0, 0, 0, 0), (11, .dup, 1, 0, 0, 0, 0, 0), (12, .getfield 301, 3, 9, 43, 0, 0, 0), (15, .iconst (1), 1, 0, 0, 0, 1, 0), (16, .iadd, 1, 0, 0, 0, 0, 0), (17, .putfield 301, 3, 9, 43, 0, 0, 0), (20, .return_, 1, 0, 0, 0, 0, 0)]
/-- 148: StreamRefuterModel.dropUnmarked()V -/
def x_t148 : List xR := [(0, .iconst (0), 1, 0, 0, 0, 0, 0), (1, .istore_n 1, 1, 1, 0, 0, 0, 0), (2, .iconst (1), 1, 0, 0, 0, 1, 0), (3, .istore_n 2, 1, 2, 0, 0, 0, 0), (4, .iload_n 2, 1, 2, 0, 0, 0, 0), (5, .aload_n 0, 1, 0, 0, 0, 0, 0), (6, .getfield 187, 3, 9, 6, 0, 0, 0), (9, .if_icmp .gt (28), 3, 37, 0, 0, 0, 0), (12, .iload_n 1, 1, 1, 0, 0, 0, 0), (13, .ifCond .ne (12), 3, 25, 0, 0, 0, 0), (16, .aload_n 0, 1, 0, 0, 0, 0, 0), (17, .getfield 50, 3, 9, 29, 2, 0, 0), (20, .iload_n 2, 1, 2, 0, 0, 0, 0), (21, .baload, 1, 0, 0, 0, 0, 0), (22, .ifCond .ne (7), 3, 29, 0, 0, 0, 0), (25, .iconst (1), 1, 0, 0, 0, 1, 0), (26, .goto (4), 3, 30, 0, 0, 0, 0), (29, .iconst (0), 1, 0, 0, 0, 0, 0), (30, .istore_n 1, 1, 1, 0, 0, 0, 0), (31, .iinc 2 (1), 3, 0, 0, 0, 1, 0), (34, .goto (-30), 3, 4, 0, 0, 0, 0), (37, .iload_n 1, 1, 1, 0, 0, 0, 0), (38, .ifCond .ne (4), 3, 42, 0, 0, 0, 0), (41, .return_, 1, 0, 0, 0, 0, 0), (42, .aload_n 0, 1, 0, 0, 0, 0, 0), (43, .aload_n 0, 1, 0, 0, 0, 0, 0), (44, .getfield 187, 3, 9, 6, 0, 0, 0), (47, .invokevirtual 225, 3, 83, 2, 0, 0, 0), (50, .aload_n 0, 1, 0, 0, 0, 0, 0), (51, .sipush (10000), 3, 0, 0, 0, 10000, 0), (54, .invokevirtual 225, 3, 83, 2, 0, 0, 0), (57, .iconst (1), 1, 0, 0, 0, 1, 0), (58, .istore_n 2, 1, 2, 0, 0, 0, 0), (59, .iload_n 2, 1, 2, 0, 0, 0, 0), (60, .aload_n 0, 1, 0, 0, 0, 0, 0), (61, .getfield 187, 3, 9, 6, 0, 0, 0), (64, .if_icmp .gt (23), 3, 87, 0, 0, 0, 0), (67, .aload_n 0, 1, 0, 0, 0, 0, 0), (68, .getfield 50, 3, 9, 29, 2, 0, 0), (71, .iload_n 2, 1, 2, 0, 0, 0, 0), (72, .baload, 1, 0, 0, 0, 0, 0), (73, .ifCond .ne (8), 3, 81, 0, 0, 0, 0), (76, .aload_n 0, 1, 0, 0, 0, 0, 0), (77, .iload_n 2, 1, 2, 0, 0, 0, 0), (78, .invokevirtual 225, 3, 83, 2, 0, 0, 0), (81, .iinc 2 (1), 3, 0, 0, 0, 1, 0), (84, .goto (-25), 3, 59, 0, 0, 0, 0), (87, .aload_n 0, 1, 0, 0, 0, 0, 0), (88, .iconst (0), 1, 0, 0, 0, 0, 0), (89, .invokevirtual 225, 3, 83, 2, 0, 0, 0), (92, .return_, 1, 0, 0, 0, 0, 0)]
/-- 149: StreamRefuterModel.pushLine(IIZ)V -/
def x_t149 : List xR := [(0, .aload_n 0, 1, 0, 0, 0, 0, 0), (1, .getfield 92, 3, 9, 48, 2, 0, 0), (4, .iload_n 1, 1, 1, 0, 0, 0, 0), (5, .iaload, 1, 0, 0, 0, 0, 0), (6, .istore 4, 2, 0, 0, 0, 0, 0), (8, .aload_n 0, 1, 0, 0, 0, 0, 0), (9, .iload_n 2, 1, 2, 0, 0, 0, 0), (10, .invokevirtual 225, 3, 83, 2, 0, 0, 0), (13, .iconst (0), 1, 0, 0, 0, 0, 0), (14, .istore 5, 2, 0, 0, 0, 0, 0), (16, .iload 5, 2, 0, 0, 0, 0, 0), (18, .aload_n 0, 1, 0, 0, 0, 0, 0), (19, .getfield 16, 3, 9, 9, 2, 0, 0), (22, .iload 4, 2, 0, 0, 0, 0, 0), (24, .iaload, 1, 0, 0, 0, 0, 0), (25, .if_icmp .ge (31), 3, 56, 0, 0, 0, 0), (28, .iload 4, 2, 0, 0, 0, 0, 0), (30, .ifCond .le (26), 3, 56, 0, 0, 0, 0), (33, .aload_n 0, 1, 0, 0, 0, 0, 0), (34, .aload_n 0, 1, 0, 0, 0, 0, 0), (35, .getfield 13, 3, 9, 8, 2, 0, 0), (38, .bipush (6), 2, 0, 0, 0, 6, 0), (40, .iload 4, 2, 0, 0, 0, 0, 0), (42, .imul, 1, 0, 0, 0, 0, 0), (43, .iload 5, 2, 0, 0, 0, 0, 0), (45, .iadd, 1, 0, 0, 0, 0, 0), (46, .iaload, 1, 0, 0, 0, 0, 0), (47, .invokevirtual 225, 3, 83, 2, 0, 0, 0), (50, .iinc 5 (1), 3, 0, 0, 0, 1, 0), (53, .goto (-37), 3, 16, 0, 0, 0, 0), (56, .aload_n 0, 1, 0, 0, 0, 0, 0), (57, .iconst (0), 1, 0, 0, 0, 0, 0), (58, .invokevirtual 225, 3, 83, 2, 0, 0, 0), (61, .iconst (0), 1, 0, 0, 0, 0, 0), (62, .istore 5, 2, 0, 0, 0, 0, 0), (64, .iload 5, 2, 0, 0, 0, 0, 0), (66, .aload_n 0, 1, 0, 0, 0, 0, 0), (67, .getfield 77, 3, 9, 42, 2, 0, 0), (70, .iload 4, 2, 0, 0, 0, 0, 0), (72, .iaload, 1, 0, 0, 0, 0, 0), (73, .if_icmp .ge (28), 3, 101, 0, 0, 0, 0), (76, .aload_n 0, 1, 0, 0, 0, 0, 0), (77, .aload_n 0, 1, 0, 0, 0, 0, 0), (78, .getfield 71, 3, 9, 40, 2, 0, 0), (81, .aload_n 0, 1, 0, 0, 0, 0, 0), (82, .getfield 74, 3, 9, 41, 2, 0, 0), (85, .iload 4, 2, 0, 0, 0, 0, 0), (87, .iaload, 1, 0, 0, 0, 0, 0), (88, .iload 5, 2, 0, 0, 0, 0, 0), (90, .iadd, 1, 0, 0, 0, 0, 0), (91, .iaload, 1, 0, 0, 0, 0, 0), (92, .invokevirtual 225, 3, 83, 2, 0, 0, 0), (95, .iinc 5 (1), 3, 0, 0, 0, 1, 0), (98, .goto (-34), 3, 64, 0, 0, 0, 0), (101, .aload_n 0, 1, 0, 0, 0, 0, 0), (102, .iconst (0), 1, 0, 0, 0, 0, 0), (103, .invokevirtual 225, 3, 83, 2, 0, 0, 0), (106, .iconst (0), 1, 0, 0, 0, 0, 0), (107, .istore 5, 2, 0, 0, 0, 0, 0), (109, .iconst (1), 1, 0, 0, 0, 1, 0), (110, .istore 6, 2, 0, 0, 0, 0, 0), (112, .iload 6, 2, 0, 0, 0, 0, 0), (114, .bipush (64), 2, 0, 0, 0, 64, 0), (116, .if_icmp .ge (50), 3, 166, 0, 0, 0, 0), (119, .iload_n 3, 1, 3, 0, 0, 0, 0), (120, .ifCond .ne (46), 3, 166, 0, 0, 0, 0), (123, .aload_n 0, 1, 0, 0, 0, 0, 0), (124, .getfield 95, 3, 9, 49, 2, 0, 0), (127, .iload 6, 2, 0, 0, 0, 0, 0), (129, .iaload, 1, 0, 0, 0, 0, 0), (130, .iload_n 1, 1, 1, 0, 0, 0, 0), (131, .if_icmp .ne (29), 3, 160, 0, 0, 0, 0), (134, .iload 5, 2, 0, 0, 0, 0, 0), (136, .ifCond .ne (15), 3, 151, 0, 0, 0, 0), (139, .aload_n 0, 1, 0, 0, 0, 0, 0), (140, .iload_n 2, 1, 2, 0, 0, 0, 0), (141, .invokevirtual 225, 3, 83, 2, 0, 0, 0), (144, .aload_n 0, 1, 0, 0, 0, 0, 0), (145, .sipush (10000), 3, 0, 0, 0, 10000, 0), (148, .invokevirtual 225, 3, 83, 2, 0, 0, 0), (151, .iconst (1), 1, 0, 0, 0, 1, 0), (152, .istore 5, 2, 0, 0, 0, 0, 0), (154, .aload_n 0, 1, 0, 0, 0, 0, 0), (155, .iload 6, 2, 0, 0, 0, 0, 0), (157, .invokevirtual 225, 3, 83, 2, 0, 0, 0), (160, .iinc 6 (1), 3, 0, 0, 0, 1, 0), (163, .goto (-51), 3, 112, 0, 0, 0, 0), (166, .iload 5, 2, 0, 0, 0, 0, 0), (168, .ifCond .eq (8), 3, 176, 0, 0, 0, 0), (171, .aload_n 0, 1, 0, 0, 0, 0, 0), (172, .iconst (0), 1, 0, 0, 0, 0, 0), (173, .invokevirtual 225, 3, 83, 2, 0, 0, 0), (176, .return_, 1, 0, 0, 0, 0, 0)]
/-- 150: StreamRefuter.marked(I)Z -/
def x_t150 : List xR := [(0, .iload_n 1, 1, 1, 0, 0, 0, 0), (1, .iconst (1), 1, 0, 0, 0, 1, 0), (2, .if_icmp .lt (32), 3, 34, 0, 0, 0, 0), (5, .iload_n 1, 1, 1, 0, 0, 0, 0), (6, .aload_n 0, 1, 0, 0, 0, 0, 0), (7, .getfield 35, 3, 0, 5, 2, 0, 0), (10, .getfield 121, 3, 4, 4, 0, 0, 0), (13, .if_icmp .gt (21), 3, 34, 0, 0, 0, 0), (16, .aload_n 0, 1, 0, 0, 0, 0, 0), (17, .getfield 35, 3, 0, 5, 2, 0, 0), (20, .getfield 145, 3, 4, 11, 1, 0, 0), (23, .iload_n 1, 1, 1, 0, 0, 0, 0), (24, .invokestatic 149, 3, 68, 2, 0, 0, 0), (27, .ifCond .eq (7), 3, 34, 0, 0, 0, 0), (30, .iconst (1), 1, 0, 0, 0, 1, 0), (31, .goto (4), 3, 35, 0, 0, 0, 0), (34, .iconst (0), 1, 0, 0, 0, 0, 0), (35, .ireturn, 1, 0, 0, 1, 0, 0)]
/-- 151: StreamRefuterModel.marked(I)Z -/
def x_t151 : List xR := [(0, .aload_n 0, 1, 0, 0, 0, 0, 0), (1, .iconst (0), 1, 0, 0, 0, 0, 0), (2, .putfield 113, 3, 9, 0, 0, 0, 0), (5, .iload_n 1, 1, 1, 0, 0, 0, 0), (6, .ifCond .le (24), 3, 30, 0, 0, 0, 0), (9, .iload_n 1, 1, 1, 0, 0, 0, 0), (10, .aload_n 0, 1, 0, 0, 0, 0, 0), (11, .getfield 190, 3, 9, 7, 0, 0, 0), (14, .if_icmp .gt (16), 3, 30, 0, 0, 0, 0), (17, .aload_n 0, 1, 0, 0, 0, 0, 0), (18, .getfield 29, 3, 9, 15, 2, 0, 0), (21, .iload_n 1, 1, 1, 0, 0, 0, 0), (22, .baload, 1, 0, 0, 0, 0, 0), (23, .ifCond .eq (7), 3, 30, 0, 0, 0, 0), (26, .iconst (1), 1, 0, 0, 0, 1, 0), (27, .goto (4), 3, 31, 0, 0, 0, 0), (30, .iconst (0), 1, 0, 0, 0, 0, 0), (31, .ireturn, 1, 0, 0, 1, 0, 0)]
/-- 152: StreamRefuter.way(I)I -/
def x_t152 : List xR := [(0, .iload_n 1, 1, 1, 0, 0, 0, 0), (1, .iconst (1), 1, 0, 0, 0, 1, 0), (2, .if_icmp .lt (14), 3, 16, 0, 0, 0, 0), (5, .iload_n 1, 1, 1, 0, 0, 0, 0), (6, .aload_n 0, 1, 0, 0, 0, 0, 0), (7, .getfield 35, 3, 0, 5, 2, 0, 0), (10, .getfield 109, 3, 4, 5, 0, 0, 0), (13, .if_icmp .le (5), 3, 18, 0, 0, 0, 0), (16, .iconst (-1), 1, 0, 0, 0, (-1), 0), (17, .ireturn, 1, 0, 0, 0, 0, 0), (18, .aload_n 0, 1, 0, 0, 0, 0, 0), (19, .getfield 35, 3, 0, 5, 2, 0, 0), (22, .getfield 153, 3, 4, 9, 2, 0, 0), (25, .iload_n 1, 1, 1, 0, 0, 0, 0), (26, .iaload, 1, 0, 0, 0, 0, 0), (27, .istore_n 2, 1, 2, 0, 0, 0, 0), (28, .aload_n 0, 1, 0, 0, 0, 0, 0), (29, .getfield 35, 3, 0, 5, 2, 0, 0), (32, .getfield 145, 3, 4, 11, 1, 0, 0), (35, .iload_n 2, 1, 2, 0, 0, 0, 0), (36, .invokestatic 149, 3, 68, 2, 0, 0, 0), (39, .ifCond .ne (5), 3, 44, 0, 0, 0, 0), (42, .iconst (0), 1, 0, 0, 0, 0, 0), (43, .ireturn, 1, 0, 0, 0, 0, 0), (44, .aload_n 0, 1, 0, 0, 0, 0, 0), (45, .getfield 35, 3, 0, 5, 2, 0, 0), (48, .getfield 156, 3, 4, 12, 1, 0, 0), (51, .iload_n 2, 1, 2, 0, 0, 0, 0), (52, .invokestatic 149, 3, 68, 2, 0, 0, 0), (55, .ifCond .eq (7), 3, 62, 0, 0, 0, 0), (58, .iconst (2), 1, 0, 0, 0, 2, 0), (59, .goto (4), 3, 63, 0, 0, 0, 0), (62, .iconst (1), 1, 0, 0, 0, 1, 0), (63, .ireturn, 1, 0, 0, 0, 0, 0)]
/-- 153: StreamRefuterModel.way(I)I -/
def x_t153 : List xR := [(0, .aload_n 0, 1, 0, 0, 0, 0, 0), (1, .iconst (0), 1, 0, 0, 0, 0, 0), (2, .putfield 113, 3, 9, 0, 0, 0, 0), (5, .iload_n 1, 1, 1, 0, 0, 0, 0), (6, .iconst (1), 1, 0, 0, 0, 1, 0), (7, .if_icmp .lt (11), 3, 18, 0, 0, 0, 0), (10, .iload_n 1, 1, 1, 0, 0, 0, 0), (11, .aload_n 0, 1, 0, 0, 0, 0, 0), (12, .getfield 200, 3, 9, 11, 0, 0, 0), (15, .if_icmp .le (7), 3, 22, 0, 0, 0, 0), (18, .iconst (-1), 1, 0, 0, 0, (-1), 0), (19, .goto (9), 3, 28, 0, 0, 0, 0), (22, .aload_n 0, 1, 0, 0, 0, 0, 0), (23, .getfield 26, 3, 9, 14, 2, 0, 0), (26, .iload_n 1, 1, 1, 0, 0, 0, 0), (27, .iaload, 1, 0, 0, 0, 0, 0), (28, .ireturn, 1, 0, 0, 0, 0, 0)]
/-- 154: StreamRefuter.tokens()I -/
def x_t154 : List xR := [(0, .aload_n 0, 1, 0, 0, 0, 0, 0), (1, .getfield 45, 3, 0, 7, 2, 0, 0), (4, .getfield 159, 3, 5, 1, 0, 0, 0), (7, .ireturn, 1, 0, 0, 0, 0, 0)]
/-- 155: StreamRefuterModel.tokens()I -/
def x_t155 : List xR := [(0, .aload_n 0, 1, 0, 0, 0, 0, 0), (1, .iconst (0), 1, 0, 0, 0, 0, 0), (2, .putfield 113, 3, 9, 0, 0, 0, 0), (5, .aload_n 0, 1, 0, 0, 0, 0, 0), (6, .getfield 203, 3, 9, 24, 0, 0, 0), (9, .ireturn, 1, 0, 0, 0, 0, 0)]
/-- 156: StreamRefuter.token(I)I -/
def x_t156 : List xR := [(0, .aload_n 0, 1, 0, 0, 0, 0, 0), (1, .getfield 45, 3, 0, 7, 2, 0, 0), (4, .iload_n 1, 1, 1, 0, 0, 0, 0), (5, .invokevirtual 162, 3, 137, 2, 0, 0, 0), (8, .ireturn, 1, 0, 0, 0, 0, 0)]
/-- 157: StreamRefuterModel.token(I)I -/
def x_t157 : List xR := [(0, .aload_n 0, 1, 0, 0, 0, 0, 0), (1, .iconst (0), 1, 0, 0, 0, 0, 0), (2, .putfield 113, 3, 9, 0, 0, 0, 0), (5, .iload_n 1, 1, 1, 0, 0, 0, 0), (6, .ifCond .lt (11), 3, 17, 0, 0, 0, 0), (9, .iload_n 1, 1, 1, 0, 0, 0, 0), (10, .aload_n 0, 1, 0, 0, 0, 0, 0), (11, .getfield 203, 3, 9, 24, 0, 0, 0), (14, .if_icmp .lt (7), 3, 21, 0, 0, 0, 0), (17, .iconst (0), 1, 0, 0, 0, 0, 0), (18, .goto (9), 3, 27, 0, 0, 0, 0), (21, .aload_n 0, 1, 0, 0, 0, 0, 0), (22, .getfield 41, 3, 9, 25, 2, 0, 0), (25, .iload_n 1, 1, 1, 0, 0, 0, 0), (26, .iaload, 1, 0, 0, 0, 0, 0), (27, .ireturn, 1, 0, 0, 0, 0, 0)]
/-- 158: StreamRefuter.alter(II)Z -/
def x_t158 : List xR := [(0, .iload_n 2, 1, 2, 0, 0, 0, 0), (1, .sipush (10000), 3, 0, 0, 0, 10000, 0), (4, .if_icmp .eq (17), 3, 21, 0, 0, 0, 0), (7, .iload_n 2, 1, 2, 0, 0, 0, 0), (8, .sipush (-9999), 3, 0, 0, 0, (-9999), 0), (11, .if_icmp .lt (14), 3, 25, 0, 0, 0, 0), (14, .iload_n 2, 1, 2, 0, 0, 0, 0), (15, .sipush (9999), 3, 0, 0, 0, 9999, 0), (18, .if_icmp .gt (7), 3, 25, 0, 0, 0, 0), (21, .iconst (1), 1, 0, 0, 0, 1, 0), (22, .goto (4), 3, 26, 0, 0, 0, 0), (25, .iconst (0), 1, 0, 0, 0, 0, 0), (26, .istore_n 3, 1, 3, 0, 0, 0, 0), (27, .iload_n 3, 1, 3, 0, 0, 0, 0), (28, .ifCond .eq (19), 3, 47, 0, 0, 0, 0), (31, .aload_n 0, 1, 0, 0, 0, 0, 0), (32, .getfield 45, 3, 0, 7, 2, 0, 0), (35, .iload_n 1, 1, 1, 0, 0, 0, 0), (36, .iload_n 2, 1, 2, 0, 0, 0, 0), (37, .invokevirtual 166, 3, 159, 3, 0, 0, 0), (40, .ifCond .eq (7), 3, 47, 0, 0, 0, 0), (43, .iconst (1), 1, 0, 0, 0, 1, 0), (44, .goto (4), 3, 48, 0, 0, 0, 0), (47, .iconst (0), 1, 0, 0, 0, 0, 0), (48, .ireturn, 1, 0, 0, 1, 0, 0)]
/-- 159: StreamRefuter$Tokens.put(II)Z -/
def x_t159 : List xR := [(0, .iload_n 1, 1, 1, 0, 0, 0, 0), (1, .ifCond .lt (18), 3, 19, 0, 0, 0, 0), (4, .iload_n 1, 1, 1, 0, 0, 0, 0), (5, .aload_n 0, 1, 0, 0, 0, 0, 0), (6, .getfield 15, 3, 5, 1, 0, 0, 0), (9, .if_icmp .ge (10), 3, 19, 0, 0, 0, 0), (12, .iload_n 1, 1, 1, 0, 0, 0, 0), (13, .sipush (2000), 3, 0, 0, 0, 2000, 0), (16, .if_icmp .lt (5), 3, 21, 0, 0, 0, 0), (19, .iconst (0), 1, 0, 0, 0, 0, 0), (20, .ireturn, 1, 0, 0, 1, 0, 0), (21, .aload_n 0, 1, 0, 0, 0, 0, 0), (22, .getfield 9, 3, 5, 0, 2, 0, 0), (25, .iload_n 1, 1, 1, 0, 0, 0, 0), (26, .iload_n 2, 1, 2, 0, 0, 0, 0), (27, .iastore, 1, 0, 0, 0, 0, 0), (28, .iconst (1), 1, 0, 0, 0, 1, 0), (29, .ireturn, 1, 0, 0, 1, 0, 0)]
/-- 160: StreamRefuterModel.alter(II)Z -/
def x_t160 : List xR := [(0, .aload_n 0, 1, 0, 0, 0, 0, 0), (1, .iconst (0), 1, 0, 0, 0, 0, 0), (2, .putfield 113, 3, 9, 0, 0, 0, 0), (5, .iload_n 1, 1, 1, 0, 0, 0, 0), (6, .ifCond .lt (32), 3, 38, 0, 0, 0, 0), (9, .iload_n 1, 1, 1, 0, 0, 0, 0), (10, .aload_n 0, 1, 0, 0, 0, 0, 0), (11, .getfield 203, 3, 9, 24, 0, 0, 0), (14, .if_icmp .ge (24), 3, 38, 0, 0, 0, 0), (17, .iload_n 2, 1, 2, 0, 0, 0, 0), (18, .sipush (-9999), 3, 0, 0, 0, (-9999), 0), (21, .if_icmp .lt (10), 3, 31, 0, 0, 0, 0), (24, .iload_n 2, 1, 2, 0, 0, 0, 0), (25, .sipush (9999), 3, 0, 0, 0, 9999, 0), (28, .if_icmp .le (12), 3, 40, 0, 0, 0, 0), (31, .iload_n 2, 1, 2, 0, 0, 0, 0), (32, .sipush (10000), 3, 0, 0, 0, 10000, 0), (35, .if_icmp .eq (5), 3, 40, 0, 0, 0, 0), (38, .iconst (0), 1, 0, 0, 0, 0, 0), (39, .ireturn, 1, 0, 0, 1, 0, 0), (40, .aload_n 0, 1, 0, 0, 0, 0, 0), (41, .getfield 41, 3, 9, 25, 2, 0, 0), (44, .iload_n 1, 1, 1, 0, 0, 0, 0), (45, .iload_n 2, 1, 2, 0, 0, 0, 0), (46, .iastore, 1, 0, 0, 0, 0, 0), (47, .iconst (1), 1, 0, 0, 0, 1, 0), (48, .ireturn, 1, 0, 0, 1, 0, 0)]
/-- 161: StreamRefuterLaw.judge(LStreamRefuter;[J)I -/
def x_t161 : List xR := [(0, .aload_n 1, 1, 1, 0, 0, 0, 0), (1, .iconst (0), 1, 0, 0, 0, 0, 0), (2, .aload_n 0, 1, 0, 0, 0, 0, 0), (3, .invokevirtual 33, 3, 162, 1, 0, 0, 0), (6, .i2l, 1, 0, 0, 0, 0, 0), (7, .lastore, 1, 0, 0, 0, 0, 0), (8, .goto (6), 3, 14, 0, 0, 0, 0), (11, .astore_n 2, 1, 2, 0, 0, 0, 0), (12, .iconst (1), 1, 0, 0, 0, 1, 0), (13, .ireturn, 1, 0, 0, 0, 0, 0), (14, .iconst (0), 1, 0, 0, 0, 0, 0), (15, .ireturn, 1, 0, 0, 0, 0, 0)]
/-- 162: StreamRefuter.judge()I -/
def x_t162 : List xR := [(0, .aload_n 0, 1, 0, 0, 0, 0, 0), (1, .getfield 35, 3, 0, 5, 2, 0, 0), (4, .getfield 98, 3, 4, 0, 0, 0, 0), (7, .ifCond .ne (11), 3, 18, 0, 0, 0, 0), (10, .new 102, 3, 2, 0, 1, 0, 0), (18, .aload_n 0, 1, 0, 0, 0, 0, 0), (19, .getfield 66, 3, 0, 4, 2, 0, 0), (22, .aload_n 0, 1, 0, 0, 0, 0, 0), (23, .getfield 35, 3, 0, 5, 2, 0, 0), (26, .aload_n 0, 1, 0, 0, 0, 0, 0), (27, .getfield 45, 3, 0, 7, 2, 0, 0), (30, .invokevirtual 170, 3, 163, 3, 0, 0, 0), (33, .ireturn, 1, 0, 0, 0, 0, 0)]
/-- 163: StreamRefuter$Judge.verdict(LStreamRefuter$Problem;LStreamRefuter$Tokens;)I -/
def x_t163 : List xR := [(0, .aload_n 0, 1, 0, 0, 0, 0, 0), (1, .aload_n 1, 1, 1, 0, 0, 0, 0), (2, .aload_n 2, 1, 2, 0, 0, 0, 0), (3, .invokevirtual 52, 3, 164, 3, 0, 0, 0), (6, .iconst (0), 1, 0, 0, 0, 0, 0), (7, .istore_n 3, 1, 3, 0, 0, 0, 0), (8, .iconst (1), 1, 0, 0, 0, 1, 0), (9, .istore 4, 2, 0, 0, 0, 0, 0), (11, .iload 4, 2, 0, 0, 0, 0, 0), (13, .sipush (2000), 3, 0, 0, 0, 2000, 0), (16, .if_icmp .gt (91), 3, 107, 0, 0, 0, 0), (19, .iload_n 3, 1, 3, 0, 0, 0, 0), (20, .aload_n 2, 1, 2, 0, 0, 0, 0), (21, .getfield 56, 3, 5, 1, 0, 0, 0), (24, .if_icmp .ge (83), 3, 107, 0, 0, 0, 0), (27, .aload_n 2, 1, 2, 0, 0, 0, 0), (28, .iload_n 3, 1, 3, 0, 0, 0, 0), (29, .invokevirtual 59, 3, 166, 2, 0, 0, 0), (32, .istore 5, 2, 0, 0, 0, 0, 0), (34, .iload 5, 2, 0, 0, 0, 0, 0), (36, .iconst (-1), 1, 0, 0, 0, (-1), 0), (37, .if_icmp .ne (7), 3, 44, 0, 0, 0, 0), (40, .iload 4, 2, 0, 0, 0, 0, 0), (42, .ineg, 1, 0, 0, 0, 0, 0), (43, .ireturn, 1, 0, 0, 0, 0, 0), (44, .aload_n 2, 1, 2, 0, 0, 0, 0), (45, .iload_n 3, 1, 3, 0, 0, 0, 0), (46, .iconst (1), 1, 0, 0, 0, 1, 0), (47, .iadd, 1, 0, 0, 0, 0, 0), (48, .invokevirtual 63, 3, 137, 2, 0, 0, 0), (51, .sipush (10000), 3, 0, 0, 0, 10000, 0), (54, .if_icmp .ne (17), 3, 71, 0, 0, 0, 0), (57, .aload_n 0, 1, 0, 0, 0, 0, 0), (58, .iload_n 3, 1, 3, 0, 0, 0, 0), (59, .iconst (2), 1, 0, 0, 0, 2, 0), (60, .iadd, 1, 0, 0, 0, 0, 0), (61, .invokevirtual 66, 3, 167, 2, 0, 0, 0), (64, .ifCond .ne (34), 3, 98, 0, 0, 0, 0), (67, .iload 4, 2, 0, 0, 0, 0, 0), (69, .ineg, 1, 0, 0, 0, 0, 0), (70, .ireturn, 1, 0, 0, 0, 0, 0), (71, .aload_n 0, 1, 0, 0, 0, 0, 0), (72, .iload_n 3, 1, 3, 0, 0, 0, 0), (73, .iload 4, 2, 0, 0, 0, 0, 0), (75, .invokevirtual 70, 3, 169, 3, 0, 0, 0), (78, .ifCond .ne (7), 3, 85, 0, 0, 0, 0), (81, .iload 4, 2, 0, 0, 0, 0, 0), (83, .ineg, 1, 0, 0, 0, 0, 0), (84, .ireturn, 1, 0, 0, 0, 0, 0), (85, .aload_n 2, 1, 2, 0, 0, 0, 0), (86, .iload_n 3, 1, 3, 0, 0, 0, 0), (87, .iconst (1), 1, 0, 0, 0, 1, 0), (88, .iadd, 1, 0, 0, 0, 0, 0), (89, .invokevirtual 63, 3, 137, 2, 0, 0, 0), (92, .ifCond .ne (6), 3, 98, 0, 0, 0, 0), (95, .iload 4, 2, 0, 0, 0, 0, 0), (97, .ireturn, 1, 0, 0, 0, 0, 0), (98, .iload 5, 2, 0, 0, 0, 0, 0), (100, .istore_n 3, 1, 3, 0, 0, 0, 0), (101, .iinc 4 (1), 3, 0, 0, 0, 1, 0), (104, .goto (-93), 3, 11, 0, 0, 0, 0), (107, .iconst (0), 1, 0, 0, 0, 0, 0), (108, .ireturn, 1, 0, 0, 0, 0, 0)]
/-- 164: StreamRefuter$Judge.begin(LStreamRefuter$Problem;LStreamRefuter$Tokens;)V -/
def x_t164 : List xR := [(0, .aload_n 0, 1, 0, 0, 0, 0, 0), (1, .aload_n 2, 1, 2, 0, 0, 0, 0), (2, .putfield 48, 3, 8, 7, 2, 0, 0), (5, .aload_n 0, 1, 0, 0, 0, 0, 0), (6, .aload_n 1, 1, 1, 0, 0, 0, 0), (7, .getfield 74, 3, 4, 2, 0, 0, 0), (10, .putfield 29, 3, 8, 5, 0, 0, 0), (13, .aload_n 0, 1, 0, 0, 0, 0, 0), (14, .iconst (0), 1, 0, 0, 0, 0, 0), (15, .putfield 25, 3, 8, 4, 0, 0, 0), (18, .iconst (1), 1, 0, 0, 0, 1, 0), (19, .istore_n 3, 1, 3, 0, 0, 0, 0), (20, .iload_n 3, 1, 3, 0, 0, 0, 0), (21, .aload_n 1, 1, 1, 0, 0, 0, 0), (22, .getfield 77, 3, 4, 3, 0, 0, 0), (25, .if_icmp .gt (20), 3, 45, 0, 0, 0, 0), (28, .aload_n 0, 1, 0, 0, 0, 0, 0), (29, .iload_n 3, 1, 3, 0, 0, 0, 0), (30, .aload_n 1, 1, 1, 0, 0, 0, 0), (31, .getfield 80, 3, 4, 8, 2, 0, 0), (34, .iload_n 3, 1, 3, 0, 0, 0, 0), (35, .iaload, 1, 0, 0, 0, 0, 0), (36, .invokevirtual 81, 3, 165, 3, 0, 0, 0), (39, .iinc 3 (1), 3, 0, 0, 0, 1, 0), (42, .goto (-22), 3, 20, 0, 0, 0, 0), (45, .aload_n 0, 1, 0, 0, 0, 0, 0), (46, .aload_n 1, 1, 1, 0, 0, 0, 0), (47, .getfield 77, 3, 4, 3, 0, 0, 0), (50, .putfield 32, 3, 8, 6, 0, 0, 0), (53, .return_, 1, 0, 0, 0, 0, 0)]
/-- 165: StreamRefuter$Judge.learn(II)V -/
def x_t165 : List xR := [(0, .aload_n 0, 1, 0, 0, 0, 0, 0), (1, .getfield 25, 3, 8, 4, 0, 0, 0), (4, .sipush (540), 3, 0, 0, 0, 540, 0), (7, .if_icmp .ge (53), 3, 60, 0, 0, 0, 0), (10, .aload_n 0, 1, 0, 0, 0, 0, 0), (11, .getfield 11, 3, 8, 0, 2, 0, 0), (14, .aload_n 0, 1, 0, 0, 0, 0, 0), (15, .getfield 25, 3, 8, 4, 0, 0, 0), (18, .iload_n 1, 1, 1, 0, 0, 0, 0), (19, .iastore, 1, 0, 0, 0, 0, 0), (20, .aload_n 0, 1, 0, 0, 0, 0, 0), (21, .getfield 15, 3, 8, 1, 2, 0, 0), (24, .aload_n 0, 1, 0, 0, 0, 0, 0), (25, .getfield 25, 3, 8, 4, 0, 0, 0), (28, .iload_n 2, 1, 2, 0, 0, 0, 0), (29, .iastore, 1, 0, 0, 0, 0, 0), (30, .aload_n 0, 1, 0, 0, 0, 0, 0), (31, .getfield 18, 3, 8, 2, 2, 0, 0), (34, .aload_n 0, 1, 0, 0, 0, 0, 0), (35, .getfield 25, 3, 8, 4, 0, 0, 0), (38, .iconst (1), 1, 0, 0, 0, 1, 0), (39, .bastore, 1, 0, 0, 0, 0, 0), (40, .aload_n 0, 1, 0, 0, 0, 0, 0), (41, .getfield 22, 3, 8, 3, 2, 0, 0), (44, .aload_n 0, 1, 0, 0, 0, 0, 0), (45, .getfield 25, 3, 8, 4, 0, 0, 0), (48, .iconst (0), 1, 0, 0, 0, 0, 0), (49, .iastore, 1, 0, 0, 0, 0, 0), (50, .aload_n 0, 1, 0, 0, 0, 0, 0), (51, .dup, 1, 0, 0, 0, 0, 0), (52, .getfield 25, 3, 8, 4, 0, 0, 0), (55, .iconst (1), 1, 0, 0, 0, 1, 0), (56, .iadd, 1, 0, 0, 0, 0, 0), (57, .putfield 25, 3, 8, 4, 0, 0, 0), (60, .return_, 1, 0, 0, 0, 0, 0)]
/-- 166: StreamRefuter$Tokens.lineEnd(I)I -/
def x_t166 : List xR := [(0, .iconst (0), 1, 0, 0, 0, 0, 0), (1, .istore_n 2, 1, 2, 0, 0, 0, 0), (2, .iload_n 1, 1, 1, 0, 0, 0, 0), (3, .istore_n 3, 1, 3, 0, 0, 0, 0), (4, .iload_n 3, 1, 3, 0, 0, 0, 0), (5, .aload_n 0, 1, 0, 0, 0, 0, 0), (6, .getfield 15, 3, 5, 1, 0, 0, 0), (9, .if_icmp .ge (41), 3, 50, 0, 0, 0, 0), (12, .iload_n 2, 1, 2, 0, 0, 0, 0), (13, .aload_n 0, 1, 0, 0, 0, 0, 0), (14, .iload_n 3, 1, 3, 0, 0, 0, 0), (15, .invokevirtual 22, 3, 137, 2, 0, 0, 0), (18, .invokestatic 44, 3, 77, 2, 0, 0, 0), (21, .ifCond .ne (5), 3, 26, 0, 0, 0, 0), (24, .iconst (-1), 1, 0, 0, 0, (-1), 0), (25, .ireturn, 1, 0, 0, 0, 0, 0), (26, .iload_n 2, 1, 2, 0, 0, 0, 0), (27, .aload_n 0, 1, 0, 0, 0, 0, 0), (28, .iload_n 3, 1, 3, 0, 0, 0, 0), (29, .invokevirtual 22, 3, 137, 2, 0, 0, 0), (32, .invokestatic 51, 3, 79, 2, 0, 0, 0), (35, .istore_n 2, 1, 2, 0, 0, 0, 0), (36, .iload_n 2, 1, 2, 0, 0, 0, 0), (37, .ifCond .ne (7), 3, 44, 0, 0, 0, 0), (40, .iload_n 3, 1, 3, 0, 0, 0, 0), (41, .iconst (1), 1, 0, 0, 0, 1, 0), (42, .iadd, 1, 0, 0, 0, 0, 0), (43, .ireturn, 1, 0, 0, 0, 0, 0), (44, .iinc 3 (1), 3, 0, 0, 0, 1, 0), (47, .goto (-43), 3, 4, 0, 0, 0, 0), (50, .iconst (-1), 1, 0, 0, 0, (-1), 0), (51, .ireturn, 1, 0, 0, 0, 0, 0)]
/-- 167: StreamRefuter$Judge.dropAll(I)Z -/
def x_t167 : List xR := [(0, .iload_n 1, 1, 1, 0, 0, 0, 0), (1, .istore_n 2, 1, 2, 0, 0, 0, 0), (2, .iload_n 2, 1, 2, 0, 0, 0, 0), (3, .aload_n 0, 1, 0, 0, 0, 0, 0), (4, .getfield 48, 3, 8, 7, 2, 0, 0), (7, .getfield 56, 3, 5, 1, 0, 0, 0), (10, .if_icmp .ge (47), 3, 57, 0, 0, 0, 0), (13, .aload_n 0, 1, 0, 0, 0, 0, 0), (14, .getfield 48, 3, 8, 7, 2, 0, 0), (17, .iload_n 2, 1, 2, 0, 0, 0, 0), (18, .invokevirtual 63, 3, 137, 2, 0, 0, 0), (21, .ifCond .eq (36), 3, 57, 0, 0, 0, 0), (24, .aload_n 0, 1, 0, 0, 0, 0, 0), (25, .aload_n 0, 1, 0, 0, 0, 0, 0), (26, .getfield 48, 3, 8, 7, 2, 0, 0), (29, .iload_n 2, 1, 2, 0, 0, 0, 0), (30, .invokevirtual 63, 3, 137, 2, 0, 0, 0), (33, .invokevirtual 85, 3, 168, 2, 0, 0, 0), (36, .istore_n 3, 1, 3, 0, 0, 0, 0), (37, .iload_n 3, 1, 3, 0, 0, 0, 0), (38, .iconst (-1), 1, 0, 0, 0, (-1), 0), (39, .if_icmp .ne (5), 3, 44, 0, 0, 0, 0), (42, .iconst (0), 1, 0, 0, 0, 0, 0), (43, .ireturn, 1, 0, 0, 1, 0, 0), (44, .aload_n 0, 1, 0, 0, 0, 0, 0), (45, .getfield 18, 3, 8, 2, 2, 0, 0), (48, .iload_n 3, 1, 3, 0, 0, 0, 0), (49, .iconst (0), 1, 0, 0, 0, 0, 0), (50, .bastore, 1, 0, 0, 0, 0, 0), (51, .iinc 2 (1), 3, 0, 0, 0, 1, 0), (54, .goto (-52), 3, 2, 0, 0, 0, 0), (57, .iconst (1), 1, 0, 0, 0, 1, 0), (58, .ireturn, 1, 0, 0, 1, 0, 0)]
/-- 168: StreamRefuter$Judge.find(I)I -/
def x_t168 : List xR := [(0, .iconst (0), 1, 0, 0, 0, 0, 0), (1, .istore_n 2, 1, 2, 0, 0, 0, 0), (2, .aload_n 0, 1, 0, 0, 0, 0, 0), (3, .getfield 25, 3, 8, 4, 0, 0, 0), (6, .iconst (1), 1, 0, 0, 0, 1, 0), (7, .isub, 1, 0, 0, 0, 0, 0), (8, .istore_n 3, 1, 3, 0, 0, 0, 0), (9, .iload_n 2, 1, 2, 0, 0, 0, 0), (10, .iload_n 3, 1, 3, 0, 0, 0, 0), (11, .if_icmp .gt (65), 3, 76, 0, 0, 0, 0), (14, .iload_n 2, 1, 2, 0, 0, 0, 0), (15, .iload_n 3, 1, 3, 0, 0, 0, 0), (16, .iadd, 1, 0, 0, 0, 0, 0), (17, .iconst (2), 1, 0, 0, 0, 2, 0), (18, .idiv, 1, 0, 0, 0, 0, 0), (19, .istore 4, 2, 0, 0, 0, 0, 0), (21, .aload_n 0, 1, 0, 0, 0, 0, 0), (22, .getfield 11, 3, 8, 0, 2, 0, 0), (25, .iload 4, 2, 0, 0, 0, 0, 0), (27, .iaload, 1, 0, 0, 0, 0, 0), (28, .iload_n 1, 1, 1, 0, 0, 0, 0), (29, .if_icmp .ne (20), 3, 49, 0, 0, 0, 0), (32, .aload_n 0, 1, 0, 0, 0, 0, 0), (33, .getfield 18, 3, 8, 2, 2, 0, 0), (36, .iload 4, 2, 0, 0, 0, 0, 0), (38, .baload, 1, 0, 0, 0, 0, 0), (39, .ifCond .eq (8), 3, 47, 0, 0, 0, 0), (42, .iload 4, 2, 0, 0, 0, 0, 0), (44, .goto (4), 3, 48, 0, 0, 0, 0), (47, .iconst (-1), 1, 0, 0, 0, (-1), 0), (48, .ireturn, 1, 0, 0, 0, 0, 0), (49, .aload_n 0, 1, 0, 0, 0, 0, 0), (50, .getfield 11, 3, 8, 0, 2, 0, 0), (53, .iload 4, 2, 0, 0, 0, 0, 0), (55, .iaload, 1, 0, 0, 0, 0, 0), (56, .iload_n 1, 1, 1, 0, 0, 0, 0), (57, .if_icmp .ge (11), 3, 68, 0, 0, 0, 0), (60, .iload 4, 2, 0, 0, 0, 0, 0), (62, .iconst (1), 1, 0, 0, 0, 1, 0), (63, .iadd, 1, 0, 0, 0, 0, 0), (64, .istore_n 2, 1, 2, 0, 0, 0, 0), (65, .goto (8), 3, 73, 0, 0, 0, 0), (68, .iload 4, 2, 0, 0, 0, 0, 0), (70, .iconst (1), 1, 0, 0, 0, 1, 0), (71, .isub, 1, 0, 0, 0, 0, 0), (72, .istore_n 3, 1, 3, 0, 0, 0, 0), (73, .goto (-64), 3, 9, 0, 0, 0, 0), (76, .iconst (-1), 1, 0, 0, 0, (-1), 0), (77, .ireturn, 1, 0, 0, 0, 0, 0)]
/-- 169: StreamRefuter$Judge.isGood(II)Z -/
def x_t169 : List xR := [(0, .aload_n 0, 1, 0, 0, 0, 0, 0), (1, .getfield 48, 3, 8, 7, 2, 0, 0), (4, .iload_n 1, 1, 1, 0, 0, 0, 0), (5, .invokevirtual 63, 3, 137, 2, 0, 0, 0), (8, .istore_n 3, 1, 3, 0, 0, 0, 0), (9, .aload_n 0, 1, 0, 0, 0, 0, 0), (10, .iload_n 1, 1, 1, 0, 0, 0, 0), (11, .iconst (1), 1, 0, 0, 0, 1, 0), (12, .iadd, 1, 0, 0, 0, 0, 0), (13, .putfield 38, 3, 8, 9, 0, 0, 0), (16, .iload_n 3, 1, 3, 0, 0, 0, 0), (17, .aload_n 0, 1, 0, 0, 0, 0, 0), (18, .getfield 32, 3, 8, 6, 0, 0, 0), (21, .if_icmp .le (10), 3, 31, 0, 0, 0, 0), (24, .aload_n 0, 1, 0, 0, 0, 0, 0), (25, .invokevirtual 88, 3, 170, 1, 0, 0, 0), (28, .ifCond .ne (5), 3, 33, 0, 0, 0, 0), (31, .iconst (0), 1, 0, 0, 0, 0, 0), (32, .ireturn, 1, 0, 0, 1, 0, 0), (33, .aload_n 0, 1, 0, 0, 0, 0, 0), (34, .aload_n 0, 1, 0, 0, 0, 0, 0), (35, .getfield 35, 3, 8, 8, 0, 0, 0), (38, .invokestatic 92, 3, 33, 1, 0, 0, 0), (41, .putfield 41, 3, 8, 10, 0, 0, 0), (44, .aload_n 0, 1, 0, 0, 0, 0, 0), (45, .invokevirtual 95, 3, 171, 1, 0, 0, 0), (48, .ifCond .ne (5), 3, 53, 0, 0, 0, 0), (51, .iconst (0), 1, 0, 0, 0, 0, 0), (52, .ireturn, 1, 0, 0, 1, 0, 0), (53, .aload_n 0, 1, 0, 0, 0, 0, 0), (54, .getfield 44, 3, 8, 11, 0, 0, 0), (57, .ifCond .eq (20), 3, 77, 0, 0, 0, 0), (60, .aload_n 0, 1, 0, 0, 0, 0, 0), (61, .getfield 48, 3, 8, 7, 2, 0, 0), (64, .aload_n 0, 1, 0, 0, 0, 0, 0), (65, .getfield 38, 3, 8, 9, 0, 0, 0), (68, .invokevirtual 63, 3, 137, 2, 0, 0, 0), (71, .ifCond .eq (26), 3, 97, 0, 0, 0, 0), (74, .goto (21), 3, 95, 0, 0, 0, 0), (77, .aload_n 0, 1, 0, 0, 0, 0, 0), (78, .aload_n 0, 1, 0, 0, 0, 0, 0), (79, .getfield 48, 3, 8, 7, 2, 0, 0), (82, .iload_n 1, 1, 1, 0, 0, 0, 0), (83, .iconst (1), 1, 0, 0, 0, 1, 0), (84, .iadd, 1, 0, 0, 0, 0, 0), (85, .invokevirtual 63, 3, 137, 2, 0, 0, 0), (88, .iload_n 2, 1, 2, 0, 0, 0, 0), (89, .invokevirtual 98, 3, 173, 3, 0, 0, 0), (92, .ifCond .ne (5), 3, 97, 0, 0, 0, 0), (95, .iconst (0), 1, 0, 0, 0, 0, 0), (96, .ireturn, 1, 0, 0, 1, 0, 0), (97, .aload_n 0, 1, 0, 0, 0, 0, 0), (98, .iload_n 3, 1, 3, 0, 0, 0, 0), (99, .putfield 32, 3, 8, 6, 0, 0, 0), (102, .aload_n 0, 1, 0, 0, 0, 0, 0), (103, .iload_n 3, 1, 3, 0, 0, 0, 0), (104, .aload_n 0, 1, 0, 0, 0, 0, 0), (105, .getfield 35, 3, 8, 8, 0, 0, 0), (108, .invokevirtual 81, 3, 165, 3, 0, 0, 0), (111, .iconst (1), 1, 0, 0, 0, 1, 0), (112, .ireturn, 1, 0, 0, 1, 0, 0)]
/-- 170: StreamRefuter$Judge.readClause()Z -/
def x_t170 : List xR := [(0, .aload_n 0, 1, 0, 0, 0, 0, 0), (1, .iconst (0), 1, 0, 0, 0, 0, 0), (2, .putfield 35, 3, 8, 8, 0, 0, 0), (5, .aload_n 0, 1, 0, 0, 0, 0, 0), (6, .getfield 38, 3, 8, 9, 0, 0, 0), (9, .aload_n 0, 1, 0, 0, 0, 0, 0), (10, .getfield 48, 3, 8, 7, 2, 0, 0), (13, .getfield 56, 3, 5, 1, 0, 0, 0), (16, .if_icmp .ge (80), 3, 96, 0, 0, 0, 0), (19, .aload_n 0, 1, 0, 0, 0, 0, 0), (20, .getfield 48, 3, 8, 7, 2, 0, 0), (23, .aload_n 0, 1, 0, 0, 0, 0, 0), (24, .getfield 38, 3, 8, 9, 0, 0, 0), (27, .invokevirtual 63, 3, 137, 2, 0, 0, 0), (30, .ifCond .eq (66), 3, 96, 0, 0, 0, 0), (33, .aload_n 0, 1, 0, 0, 0, 0, 0), (34, .getfield 48, 3, 8, 7, 2, 0, 0), (37, .aload_n 0, 1, 0, 0, 0, 0, 0), (38, .getfield 38, 3, 8, 9, 0, 0, 0), (41, .invokevirtual 63, 3, 137, 2, 0, 0, 0), (44, .aload_n 0, 1, 0, 0, 0, 0, 0), (45, .getfield 35, 3, 8, 8, 0, 0, 0), (48, .aload_n 0, 1, 0, 0, 0, 0, 0), (49, .getfield 29, 3, 8, 5, 0, 0, 0), (52, .invokestatic 101, 3, 32, 3, 0, 0, 0), (55, .ifCond .ne (5), 3, 60, 0, 0, 0, 0), (58, .iconst (0), 1, 0, 0, 0, 0, 0), (59, .ireturn, 1, 0, 0, 1, 0, 0), (60, .aload_n 0, 1, 0, 0, 0, 0, 0), (61, .dup, 1, 0, 0, 0, 0, 0), (62, .getfield 35, 3, 8, 8, 0, 0, 0), (65, .aload_n 0, 1, 0, 0, 0, 0, 0), (66, .getfield 48, 3, 8, 7, 2, 0, 0), (69, .aload_n 0, 1, 0, 0, 0, 0, 0), (70, .getfield 38, 3, 8, 9, 0, 0, 0), (73, .invokevirtual 63, 3, 137, 2, 0, 0, 0), (76, .invokestatic 105, 3, 34, 1, 0, 0, 0), (79, .ior, 1, 0, 0, 0, 0, 0), (80, .putfield 35, 3, 8, 8, 0, 0, 0), (83, .aload_n 0, 1, 0, 0, 0, 0, 0), (84, .dup, 1, 0, 0, 0, 0, 0), (85, .getfield 38, 3, 8, 9, 0, 0, 0), (88, .iconst (1), 1, 0, 0, 0, 1, 0), (89, .iadd, 1, 0, 0, 0, 0, 0), (90, .putfield 38, 3, 8, 9, 0, 0, 0), (93, .goto (-88), 3, 5, 0, 0, 0, 0), (96, .aload_n 0, 1, 0, 0, 0, 0, 0), (97, .dup, 1, 0, 0, 0, 0, 0), (98, .getfield 38, 3, 8, 9, 0, 0, 0), (101, .iconst (1), 1, 0, 0, 0, 1, 0), (102, .iadd, 1, 0, 0, 0, 0, 0), (103, .putfield 38, 3, 8, 9, 0, 0, 0), (106, .iconst (1), 1, 0, 0, 0, 1, 0), (107, .ireturn, 1, 0, 0, 1, 0, 0)]
/-- 171: StreamRefuter$Judge.followRow()Z -/
def x_t171 : List xR := [(0, .aload_n 0, 1, 0, 0, 0, 0, 0), (1, .iconst (0), 1, 0, 0, 0, 0, 0), (2, .putfield 44, 3, 8, 11, 3, 0, 0), (5, .aload_n 0, 1, 0, 0, 0, 0, 0), (6, .getfield 38, 3, 8, 9, 0, 0, 0), (9, .aload_n 0, 1, 0, 0, 0, 0, 0), (10, .getfield 48, 3, 8, 7, 2, 0, 0), (13, .getfield 56, 3, 5, 1, 0, 0, 0), (16, .if_icmp .ge (61), 3, 77, 0, 0, 0, 0), (19, .aload_n 0, 1, 0, 0, 0, 0, 0), (20, .getfield 48, 3, 8, 7, 2, 0, 0), (23, .aload_n 0, 1, 0, 0, 0, 0, 0), (24, .getfield 38, 3, 8, 9, 0, 0, 0), (27, .invokevirtual 63, 3, 137, 2, 0, 0, 0), (30, .ifCond .le (47), 3, 77, 0, 0, 0, 0), (33, .aload_n 0, 1, 0, 0, 0, 0, 0), (34, .getfield 44, 3, 8, 11, 0, 0, 0), (37, .ifCond .ne (25), 3, 62, 0, 0, 0, 0), (40, .aload_n 0, 1, 0, 0, 0, 0, 0), (41, .aload_n 0, 1, 0, 0, 0, 0, 0), (42, .aload_n 0, 1, 0, 0, 0, 0, 0), (43, .getfield 48, 3, 8, 7, 2, 0, 0), (46, .aload_n 0, 1, 0, 0, 0, 0, 0), (47, .getfield 38, 3, 8, 9, 0, 0, 0), (50, .invokevirtual 63, 3, 137, 2, 0, 0, 0), (53, .invokevirtual 85, 3, 168, 2, 0, 0, 0), (56, .invokevirtual 108, 3, 172, 2, 0, 0, 0), (59, .ifCond .ne (5), 3, 64, 0, 0, 0, 0), (62, .iconst (0), 1, 0, 0, 0, 0, 0), (63, .ireturn, 1, 0, 0, 1, 0, 0), (64, .aload_n 0, 1, 0, 0, 0, 0, 0), (65, .dup, 1, 0, 0, 0, 0, 0), (66, .getfield 38, 3, 8, 9, 0, 0, 0), (69, .iconst (1), 1, 0, 0, 0, 1, 0), (70, .iadd, 1, 0, 0, 0, 0, 0), (71, .putfield 38, 3, 8, 9, 0, 0, 0), (74, .goto (-69), 3, 5, 0, 0, 0, 0), (77, .iconst (1), 1, 0, 0, 0, 1, 0), (78, .ireturn, 1, 0, 0, 1, 0, 0)]
/-- 172: StreamRefuter$Judge.follow(I)Z -/
def x_t172 : List xR := [(0, .iload_n 1, 1, 1, 0, 0, 0, 0), (1, .iconst (-1), 1, 0, 0, 0, (-1), 0), (2, .if_icmp .ne (5), 3, 7, 0, 0, 0, 0), (5, .iconst (0), 1, 0, 0, 0, 0, 0), (6, .ireturn, 1, 0, 0, 1, 0, 0), (7, .aload_n 0, 1, 0, 0, 0, 0, 0), (8, .getfield 15, 3, 8, 1, 2, 0, 0), (11, .iload_n 1, 1, 1, 0, 0, 0, 0), (12, .iaload, 1, 0, 0, 0, 0, 0), (13, .aload_n 0, 1, 0, 0, 0, 0, 0), (14, .getfield 41, 3, 8, 10, 0, 0, 0), (17, .invokestatic 92, 3, 33, 1, 0, 0, 0), (20, .iconst (-1), 1, 0, 0, 0, (-1), 0), (21, .ixor, 1, 0, 0, 0, 0, 0), (22, .iand, 1, 0, 0, 0, 0, 0), (23, .istore_n 2, 1, 2, 0, 0, 0, 0), (24, .iload_n 2, 1, 2, 0, 0, 0, 0), (25, .iload_n 2, 1, 2, 0, 0, 0, 0), (26, .iconst (1), 1, 0, 0, 0, 1, 0), (27, .isub, 1, 0, 0, 0, 0, 0), (28, .iand, 1, 0, 0, 0, 0, 0), (29, .ifCond .ne (12), 3, 41, 0, 0, 0, 0), (32, .iload_n 2, 1, 2, 0, 0, 0, 0), (33, .aload_n 0, 1, 0, 0, 0, 0, 0), (34, .getfield 41, 3, 8, 10, 0, 0, 0), (37, .iand, 1, 0, 0, 0, 0, 0), (38, .ifCond .eq (5), 3, 43, 0, 0, 0, 0), (41, .iconst (0), 1, 0, 0, 0, 0, 0), (42, .ireturn, 1, 0, 0, 1, 0, 0), (43, .aload_n 0, 1, 0, 0, 0, 0, 0), (44, .dup, 1, 0, 0, 0, 0, 0), (45, .getfield 41, 3, 8, 10, 0, 0, 0), (48, .iload_n 2, 1, 2, 0, 0, 0, 0), (49, .ior, 1, 0, 0, 0, 0, 0), (50, .putfield 41, 3, 8, 10, 0, 0, 0), (53, .aload_n 0, 1, 0, 0, 0, 0, 0), (54, .iload_n 2, 1, 2, 0, 0, 0, 0), (55, .ifCond .ne (7), 3, 62, 0, 0, 0, 0), (58, .iconst (1), 1, 0, 0, 0, 1, 0), (59, .goto (4), 3, 63, 0, 0, 0, 0), (62, .iconst (0), 1, 0, 0, 0, 0, 0), (63, .putfield 44, 3, 8, 11, 3, 0, 0), (66, .iconst (1), 1, 0, 0, 0, 1, 0), (67, .ireturn, 1, 0, 0, 1, 0, 0)]
/-- 173: StreamRefuter$Judge.isSpared(II)Z -/
def x_t173 : List xR := [(0, .iload_n 1, 1, 1, 0, 0, 0, 0), (1, .ifCond .ne (5), 3, 6, 0, 0, 0, 0), (4, .iconst (0), 1, 0, 0, 0, 0, 0), (5, .ireturn, 1, 0, 0, 1, 0, 0), (6, .iload_n 1, 1, 1, 0, 0, 0, 0), (7, .ineg, 1, 0, 0, 0, 0, 0), (8, .invokestatic 105, 3, 34, 1, 0, 0, 0), (11, .istore_n 3, 1, 3, 0, 0, 0, 0), (12, .aload_n 0, 1, 0, 0, 0, 0, 0), (13, .iload_n 3, 1, 3, 0, 0, 0, 0), (14, .invokevirtual 111, 3, 174, 2, 0, 0, 0), (17, .istore 4, 2, 0, 0, 0, 0, 0), (19, .aload_n 0, 1, 0, 0, 0, 0, 0), (20, .getfield 41, 3, 8, 10, 0, 0, 0), (23, .istore 5, 2, 0, 0, 0, 0, 0), (25, .aload_n 0, 1, 0, 0, 0, 0, 0), (26, .getfield 38, 3, 8, 9, 0, 0, 0), (29, .aload_n 0, 1, 0, 0, 0, 0, 0), (30, .getfield 48, 3, 8, 7, 2, 0, 0), (33, .getfield 56, 3, 5, 1, 0, 0, 0), (36, .if_icmp .ge (116), 3, 152, 0, 0, 0, 0), (39, .aload_n 0, 1, 0, 0, 0, 0, 0), (40, .getfield 48, 3, 8, 7, 2, 0, 0), (43, .aload_n 0, 1, 0, 0, 0, 0, 0), (44, .getfield 38, 3, 8, 9, 0, 0, 0), (47, .invokevirtual 63, 3, 137, 2, 0, 0, 0), (50, .ifCond .ge (102), 3, 152, 0, 0, 0, 0), (53, .aload_n 0, 1, 0, 0, 0, 0, 0), (54, .aload_n 0, 1, 0, 0, 0, 0, 0), (55, .getfield 48, 3, 8, 7, 2, 0, 0), (58, .aload_n 0, 1, 0, 0, 0, 0, 0), (59, .getfield 38, 3, 8, 9, 0, 0, 0), (62, .invokevirtual 63, 3, 137, 2, 0, 0, 0), (65, .ineg, 1, 0, 0, 0, 0, 0), (66, .invokevirtual 85, 3, 168, 2, 0, 0, 0), (69, .istore 6, 2, 0, 0, 0, 0, 0), (71, .aload_n 0, 1, 0, 0, 0, 0, 0), (72, .dup, 1, 0, 0, 0, 0, 0), (73, .getfield 38, 3, 8, 9, 0, 0, 0), (76, .iconst (1), 1, 0, 0, 0, 1, 0), (77, .iadd, 1, 0, 0, 0, 0, 0), (78, .putfield 38, 3, 8, 9, 0, 0, 0), (81, .iload 6, 2, 0, 0, 0, 0, 0), (83, .iconst (-1), 1, 0, 0, 0, (-1), 0), (84, .if_icmp .eq (26), 3, 110, 0, 0, 0, 0), (87, .aload_n 0, 1, 0, 0, 0, 0, 0), (88, .getfield 22, 3, 8, 3, 2, 0, 0), (91, .iload 6, 2, 0, 0, 0, 0, 0), (93, .iaload, 1, 0, 0, 0, 0, 0), (94, .iload_n 2, 1, 2, 0, 0, 0, 0), (95, .if_icmp .eq (15), 3, 110, 0, 0, 0, 0), (98, .aload_n 0, 1, 0, 0, 0, 0, 0), (99, .getfield 15, 3, 8, 1, 2, 0, 0), (102, .iload 6, 2, 0, 0, 0, 0, 0), (104, .iaload, 1, 0, 0, 0, 0, 0), (105, .iload_n 3, 1, 3, 0, 0, 0, 0), (106, .iand, 1, 0, 0, 0, 0, 0), (107, .ifCond .ne (5), 3, 112, 0, 0, 0, 0), (110, .iconst (0), 1, 0, 0, 0, 0, 0), (111, .ireturn, 1, 0, 0, 1, 0, 0), (112, .aload_n 0, 1, 0, 0, 0, 0, 0), (113, .getfield 22, 3, 8, 3, 2, 0, 0), (116, .iload 6, 2, 0, 0, 0, 0, 0), (118, .iload_n 2, 1, 2, 0, 0, 0, 0), (119, .iastore, 1, 0, 0, 0, 0, 0), (120, .iinc 4 (-1), 3, 0, 0, 0, (-1), 0), (123, .aload_n 0, 1, 0, 0, 0, 0, 0), (124, .aload_n 0, 1, 0, 0, 0, 0, 0), (125, .getfield 15, 3, 8, 1, 2, 0, 0), (128, .iload 6, 2, 0, 0, 0, 0, 0), (130, .iaload, 1, 0, 0, 0, 0, 0), (131, .iload_n 3, 1, 3, 0, 0, 0, 0), (132, .iconst (-1), 1, 0, 0, 0, (-1), 0), (133, .ixor, 1, 0, 0, 0, 0, 0), (134, .iand, 1, 0, 0, 0, 0, 0), (135, .invokevirtual 114, 3, 175, 2, 0, 0, 0), (138, .ifCond .ne (5), 3, 143, 0, 0, 0, 0), (141, .iconst (0), 1, 0, 0, 0, 0, 0), (142, .ireturn, 1, 0, 0, 1, 0, 0), (143, .aload_n 0, 1, 0, 0, 0, 0, 0), (144, .iload 5, 2, 0, 0, 0, 0, 0), (146, .putfield 41, 3, 8, 10, 0, 0, 0), (149, .goto (-124), 3, 25, 0, 0, 0, 0), (152, .iload 4, 2, 0, 0, 0, 0, 0), (154, .ifCond .ne (7), 3, 161, 0, 0, 0, 0), (157, .iconst (1), 1, 0, 0, 0, 1, 0), (158, .goto (4), 3, 162, 0, 0, 0, 0), (161, .iconst (0), 1, 0, 0, 0, 0, 0), (162, .ireturn, 1, 0, 0, 1, 0, 0)]
/-- 174: StreamRefuter$Judge.howManyHave(I)I -/
def x_t174 : List xR := [(0, .iconst (0), 1, 0, 0, 0, 0, 0), (1, .istore_n 2, 1, 2, 0, 0, 0, 0), (2, .iconst (0), 1, 0, 0, 0, 0, 0), (3, .istore_n 3, 1, 3, 0, 0, 0, 0), (4, .iload_n 3, 1, 3, 0, 0, 0, 0), (5, .aload_n 0, 1, 0, 0, 0, 0, 0), (6, .getfield 25, 3, 8, 4, 0, 0, 0), (9, .if_icmp .ge (37), 3, 46, 0, 0, 0, 0), (12, .iload_n 2, 1, 2, 0, 0, 0, 0), (13, .aload_n 0, 1, 0, 0, 0, 0, 0), (14, .getfield 18, 3, 8, 2, 2, 0, 0), (17, .iload_n 3, 1, 3, 0, 0, 0, 0), (18, .baload, 1, 0, 0, 0, 0, 0), (19, .ifCond .eq (18), 3, 37, 0, 0, 0, 0), (22, .aload_n 0, 1, 0, 0, 0, 0, 0), (23, .getfield 15, 3, 8, 1, 2, 0, 0), (26, .iload_n 3, 1, 3, 0, 0, 0, 0), (27, .iaload, 1, 0, 0, 0, 0, 0), (28, .iload_n 1, 1, 1, 0, 0, 0, 0), (29, .iand, 1, 0, 0, 0, 0, 0), (30, .ifCond .eq (7), 3, 37, 0, 0, 0, 0), (33, .iconst (1), 1, 0, 0, 0, 1, 0), (34, .goto (4), 3, 38, 0, 0, 0, 0), (37, .iconst (0), 1, 0, 0, 0, 0, 0), (38, .iadd, 1, 0, 0, 0, 0, 0), (39, .istore_n 2, 1, 2, 0, 0, 0, 0), (40, .iinc 3 (1), 3, 0, 0, 0, 1, 0), (43, .goto (-39), 3, 4, 0, 0, 0, 0), (46, .iload_n 2, 1, 2, 0, 0, 0, 0), (47, .ireturn, 1, 0, 0, 0, 0, 0)]
/-- 175: StreamRefuter$Judge.withstands(I)Z -/
def x_t175 : List xR := [(0, .iload_n 1, 1, 1, 0, 0, 0, 0), (1, .aload_n 0, 1, 0, 0, 0, 0, 0), (2, .getfield 41, 3, 8, 10, 0, 0, 0), (5, .iand, 1, 0, 0, 0, 0, 0), (6, .ifCond .eq (23), 3, 29, 0, 0, 0, 0), (9, .aload_n 0, 1, 0, 0, 0, 0, 0), (10, .getfield 48, 3, 8, 7, 2, 0, 0), (13, .aload_n 0, 1, 0, 0, 0, 0, 0), (14, .getfield 38, 3, 8, 9, 0, 0, 0), (17, .invokevirtual 63, 3, 137, 2, 0, 0, 0), (20, .ifCond .gt (7), 3, 27, 0, 0, 0, 0), (23, .iconst (1), 1, 0, 0, 0, 1, 0), (24, .goto (4), 3, 28, 0, 0, 0, 0), (27, .iconst (0), 1, 0, 0, 0, 0, 0), (28, .ireturn, 1, 0, 0, 1, 0, 0), (29, .aload_n 0, 1, 0, 0, 0, 0, 0), (30, .dup, 1, 0, 0, 0, 0, 0), (31, .getfield 41, 3, 8, 10, 0, 0, 0), (34, .iload_n 1, 1, 1, 0, 0, 0, 0), (35, .invokestatic 92, 3, 33, 1, 0, 0, 0), (38, .ior, 1, 0, 0, 0, 0, 0), (39, .putfield 41, 3, 8, 10, 0, 0, 0), (42, .aload_n 0, 1, 0, 0, 0, 0, 0), (43, .invokevirtual 95, 3, 171, 1, 0, 0, 0), (46, .ifCond .eq (14), 3, 60, 0, 0, 0, 0), (49, .aload_n 0, 1, 0, 0, 0, 0, 0), (50, .getfield 44, 3, 8, 11, 0, 0, 0), (53, .ifCond .eq (7), 3, 60, 0, 0, 0, 0), (56, .iconst (1), 1, 0, 0, 0, 1, 0), (57, .goto (4), 3, 61, 0, 0, 0, 0), (60, .iconst (0), 1, 0, 0, 0, 0, 0), (61, .ireturn, 1, 0, 0, 1, 0, 0)]
/-- 176: StreamRefuterModel.judge()I -/
def x_t176 : List xR := [(0, .aload_n 0, 1, 0, 0, 0, 0, 0), (1, .aload_n 0, 1, 0, 0, 0, 0, 0), (2, .getfield 181, 3, 9, 4, 0, 0, 0), (5, .ifCond .eq (7), 3, 12, 0, 0, 0, 0), (8, .iconst (0), 1, 0, 0, 0, 0, 0), (9, .goto (4), 3, 13, 0, 0, 0, 0), (12, .iconst (1), 1, 0, 0, 0, 1, 0), (13, .putfield 113, 3, 9, 0, 0, 0, 0), (16, .aload_n 0, 1, 0, 0, 0, 0, 0), (17, .getfield 113, 3, 9, 0, 0, 0, 0), (20, .ifCond .le (5), 3, 25, 0, 0, 0, 0), (23, .iconst (0), 1, 0, 0, 0, 0, 0), (24, .ireturn, 1, 0, 0, 0, 0, 0), (25, .aload_n 0, 1, 0, 0, 0, 0, 0), (26, .invokevirtual 370, 3, 177, 1, 0, 0, 0), (29, .aload_n 0, 1, 0, 0, 0, 0, 0), (30, .getfield 187, 3, 9, 6, 0, 0, 0), (33, .istore_n 1, 1, 1, 0, 0, 0, 0), (34, .iconst (0), 1, 0, 0, 0, 0, 0), (35, .istore_n 2, 1, 2, 0, 0, 0, 0), (36, .iconst (0), 1, 0, 0, 0, 0, 0), (37, .istore_n 3, 1, 3, 0, 0, 0, 0), (38, .iload_n 3, 1, 3, 0, 0, 0, 0), (39, .aload_n 0, 1, 0, 0, 0, 0, 0), (40, .getfield 203, 3, 9, 24, 0, 0, 0), (43, .if_icmp .ge (87), 3, 130, 0, 0, 0, 0), (46, .iinc 2 (1), 3, 0, 0, 0, 1, 0), (49, .aload_n 0, 1, 0, 0, 0, 0, 0), (50, .iload_n 3, 1, 3, 0, 0, 0, 0), (51, .invokevirtual 373, 3, 179, 2, 0, 0, 0), (54, .istore 4, 2, 0, 0, 0, 0, 0), (56, .iload 4, 2, 0, 0, 0, 0, 0), (58, .ifCond .ge (6), 3, 64, 0, 0, 0, 0), (61, .iload_n 2, 1, 2, 0, 0, 0, 0), (62, .ineg, 1, 0, 0, 0, 0, 0), (63, .ireturn, 1, 0, 0, 0, 0, 0), (64, .aload_n 0, 1, 0, 0, 0, 0, 0), (65, .getfield 41, 3, 9, 25, 2, 0, 0), (68, .iload_n 3, 1, 3, 0, 0, 0, 0), (69, .iconst (1), 1, 0, 0, 0, 1, 0), (70, .iadd, 1, 0, 0, 0, 0, 0), (71, .iaload, 1, 0, 0, 0, 0, 0), (72, .sipush (10000), 3, 0, 0, 0, 10000, 0), (75, .if_icmp .ne (14), 3, 89, 0, 0, 0, 0), (78, .aload_n 0, 1, 0, 0, 0, 0, 0), (79, .iload_n 3, 1, 3, 0, 0, 0, 0), (80, .invokevirtual 376, 3, 181, 2, 0, 0, 0), (83, .ifCond .ne (41), 3, 124, 0, 0, 0, 0), (86, .iload_n 2, 1, 2, 0, 0, 0, 0), (87, .ineg, 1, 0, 0, 0, 0, 0), (88, .ireturn, 1, 0, 0, 0, 0, 0), (89, .aload_n 0, 1, 0, 0, 0, 0, 0), (90, .iload_n 3, 1, 3, 0, 0, 0, 0), (91, .iload 4, 2, 0, 0, 0, 0, 0), (93, .iload_n 1, 1, 1, 0, 0, 0, 0), (94, .invokevirtual 379, 3, 183, 4, 0, 0, 0), (97, .istore 5, 2, 0, 0, 0, 0, 0), (99, .iload 5, 2, 0, 0, 0, 0, 0), (101, .iconst (1), 1, 0, 0, 0, 1, 0), (102, .if_icmp .ge (15), 3, 117, 0, 0, 0, 0), (105, .iload 5, 2, 0, 0, 0, 0, 0), (107, .ifCond .ge (8), 3, 115, 0, 0, 0, 0), (110, .iload_n 2, 1, 2, 0, 0, 0, 0), (111, .ineg, 1, 0, 0, 0, 0, 0), (112, .goto (4), 3, 116, 0, 0, 0, 0), (115, .iload_n 2, 1, 2, 0, 0, 0, 0), (116, .ireturn, 1, 0, 0, 0, 0, 0), (117, .aload_n 0, 1, 0, 0, 0, 0, 0), (118, .getfield 41, 3, 9, 25, 2, 0, 0), (121, .iload_n 3, 1, 3, 0, 0, 0, 0), (122, .iaload, 1, 0, 0, 0, 0, 0), (123, .istore_n 1, 1, 1, 0, 0, 0, 0), (124, .iload 4, 2, 0, 0, 0, 0, 0), (126, .istore_n 3, 1, 3, 0, 0, 0, 0), (127, .goto (-89), 3, 38, 0, 0, 0, 0), (130, .iconst (0), 1, 0, 0, 0, 0, 0), (131, .ireturn, 1, 0, 0, 0, 0, 0)]
/-- 177: StreamRefuterModel.knowFormula()V -/
def x_t177 : List xR := [(0, .aload_n 0, 1, 0, 0, 0, 0, 0), (1, .iconst (0), 1, 0, 0, 0, 0, 0), (2, .putfield 335, 3, 9, 50, 0, 0, 0), (5, .iconst (1), 1, 0, 0, 0, 1, 0), (6, .istore_n 1, 1, 1, 0, 0, 0, 0), (7, .iload_n 1, 1, 1, 0, 0, 0, 0), (8, .aload_n 0, 1, 0, 0, 0, 0, 0), (9, .getfield 187, 3, 9, 6, 0, 0, 0), (12, .if_icmp .gt (63), 3, 75, 0, 0, 0, 0), (15, .iconst (0), 1, 0, 0, 0, 0, 0), (16, .istore_n 2, 1, 2, 0, 0, 0, 0), (17, .iload_n 2, 1, 2, 0, 0, 0, 0), (18, .aload_n 0, 1, 0, 0, 0, 0, 0), (19, .getfield 16, 3, 9, 9, 2, 0, 0), (22, .iload_n 1, 1, 1, 0, 0, 0, 0), (23, .iaload, 1, 0, 0, 0, 0, 0), (24, .if_icmp .ge (34), 3, 58, 0, 0, 0, 0), (27, .aload_n 0, 1, 0, 0, 0, 0, 0), (28, .getfield 104, 3, 9, 53, 2, 0, 0), (31, .bipush (16), 2, 0, 0, 0, 16, 0), (33, .aload_n 0, 1, 0, 0, 0, 0, 0), (34, .getfield 335, 3, 9, 50, 0, 0, 0), (37, .imul, 1, 0, 0, 0, 0, 0), (38, .iload_n 2, 1, 2, 0, 0, 0, 0), (39, .iadd, 1, 0, 0, 0, 0, 0), (40, .aload_n 0, 1, 0, 0, 0, 0, 0), (41, .getfield 13, 3, 9, 8, 2, 0, 0), (44, .bipush (6), 2, 0, 0, 0, 6, 0), (46, .iload_n 1, 1, 1, 0, 0, 0, 0), (47, .imul, 1, 0, 0, 0, 0, 0), (48, .iload_n 2, 1, 2, 0, 0, 0, 0), (49, .iadd, 1, 0, 0, 0, 0, 0), (50, .iaload, 1, 0, 0, 0, 0, 0), (51, .iastore, 1, 0, 0, 0, 0, 0), (52, .iinc 2 (1), 3, 0, 0, 0, 1, 0), (55, .goto (-38), 3, 17, 0, 0, 0, 0), (58, .aload_n 0, 1, 0, 0, 0, 0, 0), (59, .iload_n 1, 1, 1, 0, 0, 0, 0), (60, .aload_n 0, 1, 0, 0, 0, 0, 0), (61, .getfield 16, 3, 9, 9, 2, 0, 0), (64, .iload_n 1, 1, 1, 0, 0, 0, 0), (65, .iaload, 1, 0, 0, 0, 0, 0), (66, .invokevirtual 361, 3, 178, 3, 0, 0, 0), (69, .iinc 1 (1), 3, 0, 0, 0, 1, 0), (72, .goto (-65), 3, 7, 0, 0, 0, 0), (75, .return_, 1, 0, 0, 0, 0, 0)]
/-- 178: StreamRefuterModel.know(II)V -/
def x_t178 : List xR := [(0, .aload_n 0, 1, 0, 0, 0, 0, 0), (1, .getfield 98, 3, 9, 51, 2, 0, 0), (4, .aload_n 0, 1, 0, 0, 0, 0, 0), (5, .getfield 335, 3, 9, 50, 0, 0, 0), (8, .iload_n 1, 1, 1, 0, 0, 0, 0), (9, .iastore, 1, 0, 0, 0, 0, 0), (10, .aload_n 0, 1, 0, 0, 0, 0, 0), (11, .getfield 101, 3, 9, 52, 2, 0, 0), (14, .aload_n 0, 1, 0, 0, 0, 0, 0), (15, .getfield 335, 3, 9, 50, 0, 0, 0), (18, .iload_n 2, 1, 2, 0, 0, 0, 0), (19, .iastore, 1, 0, 0, 0, 0, 0), (20, .aload_n 0, 1, 0, 0, 0, 0, 0), (21, .getfield 107, 3, 9, 54, 2, 0, 0), (24, .aload_n 0, 1, 0, 0, 0, 0, 0), (25, .getfield 335, 3, 9, 50, 0, 0, 0), (28, .iconst (1), 1, 0, 0, 0, 1, 0), (29, .bastore, 1, 0, 0, 0, 0, 0), (30, .aload_n 0, 1, 0, 0, 0, 0, 0), (31, .dup, 1, 0, 0, 0, 0, 0), (32, .getfield 335, 3, 9, 50, 0, 0, 0), (35, .iconst (1), 1, 0, 0, 0, 1, 0), (36, .iadd, 1, 0, 0, 0, 0, 0), (37, .putfield 335, 3, 9, 50, 0, 0, 0), (40, .return_, 1, 0, 0, 0, 0, 0)]
/-- 179: StreamRefuterModel.lineEnd(I)I -/
def x_t179 : List xR := [(0, .aload_n 0, 1, 0, 0, 0, 0, 0), (1, .getfield 41, 3, 9, 25, 2, 0, 0), (4, .iload_n 1, 1, 1, 0, 0, 0, 0), (5, .iaload, 1, 0, 0, 0, 0, 0), (6, .sipush (10000), 3, 0, 0, 0, 10000, 0), (9, .if_icmp .eq (13), 3, 22, 0, 0, 0, 0), (12, .iload_n 1, 1, 1, 0, 0, 0, 0), (13, .iconst (1), 1, 0, 0, 0, 1, 0), (14, .iadd, 1, 0, 0, 0, 0, 0), (15, .aload_n 0, 1, 0, 0, 0, 0, 0), (16, .getfield 203, 3, 9, 24, 0, 0, 0), (19, .if_icmp .ne (5), 3, 24, 0, 0, 0, 0), (22, .iconst (-1), 1, 0, 0, 0, (-1), 0), (23, .ireturn, 1, 0, 0, 0, 0, 0), (24, .aload_n 0, 1, 0, 0, 0, 0, 0), (25, .getfield 41, 3, 9, 25, 2, 0, 0), (28, .iload_n 1, 1, 1, 0, 0, 0, 0), (29, .iconst (1), 1, 0, 0, 0, 1, 0), (30, .iadd, 1, 0, 0, 0, 0, 0), (31, .iaload, 1, 0, 0, 0, 0, 0), (32, .sipush (10000), 3, 0, 0, 0, 10000, 0), (35, .if_icmp .ne (11), 3, 46, 0, 0, 0, 0), (38, .aload_n 0, 1, 0, 0, 0, 0, 0), (39, .iload_n 1, 1, 1, 0, 0, 0, 0), (40, .iconst (2), 1, 0, 0, 0, 2, 0), (41, .iadd, 1, 0, 0, 0, 0, 0), (42, .invokevirtual 332, 3, 180, 2, 0, 0, 0), (45, .ireturn, 1, 0, 0, 0, 0, 0), (46, .aload_n 0, 1, 0, 0, 0, 0, 0), (47, .iload_n 1, 1, 1, 0, 0, 0, 0), (48, .iconst (1), 1, 0, 0, 0, 1, 0), (49, .iadd, 1, 0, 0, 0, 0, 0), (50, .invokevirtual 332, 3, 180, 2, 0, 0, 0), (53, .istore_n 2, 1, 2, 0, 0, 0, 0), (54, .iload_n 2, 1, 2, 0, 0, 0, 0), (55, .ifCond .ge (7), 3, 62, 0, 0, 0, 0), (58, .iconst (-1), 1, 0, 0, 0, (-1), 0), (59, .goto (8), 3, 67, 0, 0, 0, 0), (62, .aload_n 0, 1, 0, 0, 0, 0, 0), (63, .iload_n 2, 1, 2, 0, 0, 0, 0), (64, .invokevirtual 332, 3, 180, 2, 0, 0, 0), (67, .ireturn, 1, 0, 0, 0, 0, 0)]
/-- 180: StreamRefuterModel.behindZero(I)I -/
def x_t180 : List xR := [(0, .iload_n 1, 1, 1, 0, 0, 0, 0), (1, .istore_n 2, 1, 2, 0, 0, 0, 0), (2, .iload_n 2, 1, 2, 0, 0, 0, 0), (3, .aload_n 0, 1, 0, 0, 0, 0, 0), (4, .getfield 203, 3, 9, 24, 0, 0, 0), (7, .if_icmp .ge (30), 3, 37, 0, 0, 0, 0), (10, .aload_n 0, 1, 0, 0, 0, 0, 0), (11, .getfield 41, 3, 9, 25, 2, 0, 0), (14, .iload_n 2, 1, 2, 0, 0, 0, 0), (15, .iaload, 1, 0, 0, 0, 0, 0), (16, .ifCond .eq (21), 3, 37, 0, 0, 0, 0), (19, .aload_n 0, 1, 0, 0, 0, 0, 0), (20, .getfield 41, 3, 9, 25, 2, 0, 0), (23, .iload_n 2, 1, 2, 0, 0, 0, 0), (24, .iaload, 1, 0, 0, 0, 0, 0), (25, .sipush (10000), 3, 0, 0, 0, 10000, 0), (28, .if_icmp .eq (9), 3, 37, 0, 0, 0, 0), (31, .iinc 2 (1), 3, 0, 0, 0, 1, 0), (34, .goto (-32), 3, 2, 0, 0, 0, 0), (37, .iload_n 2, 1, 2, 0, 0, 0, 0), (38, .aload_n 0, 1, 0, 0, 0, 0, 0), (39, .getfield 203, 3, 9, 24, 0, 0, 0), (42, .if_icmp .ge (18), 3, 60, 0, 0, 0, 0), (45, .aload_n 0, 1, 0, 0, 0, 0, 0), (46, .getfield 41, 3, 9, 25, 2, 0, 0), (49, .iload_n 2, 1, 2, 0, 0, 0, 0), (50, .iaload, 1, 0, 0, 0, 0, 0), (51, .ifCond .ne (9), 3, 60, 0, 0, 0, 0), (54, .iload_n 2, 1, 2, 0, 0, 0, 0), (55, .iconst (1), 1, 0, 0, 0, 1, 0), (56, .iadd, 1, 0, 0, 0, 0, 0), (57, .goto (4), 3, 61, 0, 0, 0, 0), (60, .iconst (-1), 1, 0, 0, 0, (-1), 0), (61, .ireturn, 1, 0, 0, 0, 0, 0)]
/-- 181: StreamRefuterModel.drops(I)Z -/
def x_t181 : List xR := [(0, .iload_n 1, 1, 1, 0, 0, 0, 0), (1, .iconst (2), 1, 0, 0, 0, 2, 0), (2, .iadd, 1, 0, 0, 0, 0, 0), (3, .istore_n 2, 1, 2, 0, 0, 0, 0), (4, .aload_n 0, 1, 0, 0, 0, 0, 0), (5, .getfield 41, 3, 9, 25, 2, 0, 0), (8, .iload_n 2, 1, 2, 0, 0, 0, 0), (9, .iaload, 1, 0, 0, 0, 0, 0), (10, .ifCond .eq (33), 3, 43, 0, 0, 0, 0), (13, .aload_n 0, 1, 0, 0, 0, 0, 0), (14, .aload_n 0, 1, 0, 0, 0, 0, 0), (15, .getfield 41, 3, 9, 25, 2, 0, 0), (18, .iload_n 2, 1, 2, 0, 0, 0, 0), (19, .iaload, 1, 0, 0, 0, 0, 0), (20, .invokevirtual 338, 3, 182, 2, 0, 0, 0), (23, .istore_n 3, 1, 3, 0, 0, 0, 0), (24, .iload_n 3, 1, 3, 0, 0, 0, 0), (25, .ifCond .ge (5), 3, 30, 0, 0, 0, 0), (28, .iconst (0), 1, 0, 0, 0, 0, 0), (29, .ireturn, 1, 0, 0, 1, 0, 0), (30, .aload_n 0, 1, 0, 0, 0, 0, 0), (31, .getfield 107, 3, 9, 54, 2, 0, 0), (34, .iload_n 3, 1, 3, 0, 0, 0, 0), (35, .iconst (0), 1, 0, 0, 0, 0, 0), (36, .bastore, 1, 0, 0, 0, 0, 0), (37, .iinc 2 (1), 3, 0, 0, 0, 1, 0), (40, .goto (-36), 3, 4, 0, 0, 0, 0), (43, .iconst (1), 1, 0, 0, 0, 1, 0), (44, .ireturn, 1, 0, 0, 1, 0, 0)]
/-- 182: StreamRefuterModel.find(I)I -/
def x_t182 : List xR := [(0, .iconst (-1), 1, 0, 0, 0, (-1), 0), (1, .istore_n 2, 1, 2, 0, 0, 0, 0), (2, .iconst (0), 1, 0, 0, 0, 0, 0), (3, .istore_n 3, 1, 3, 0, 0, 0, 0), (4, .iload_n 3, 1, 3, 0, 0, 0, 0), (5, .aload_n 0, 1, 0, 0, 0, 0, 0), (6, .getfield 335, 3, 9, 50, 0, 0, 0), (9, .if_icmp .ge (34), 3, 43, 0, 0, 0, 0), (12, .aload_n 0, 1, 0, 0, 0, 0, 0), (13, .getfield 107, 3, 9, 54, 2, 0, 0), (16, .iload_n 3, 1, 3, 0, 0, 0, 0), (17, .baload, 1, 0, 0, 0, 0, 0), (18, .ifCond .eq (17), 3, 35, 0, 0, 0, 0), (21, .aload_n 0, 1, 0, 0, 0, 0, 0), (22, .getfield 98, 3, 9, 51, 2, 0, 0), (25, .iload_n 3, 1, 3, 0, 0, 0, 0), (26, .iaload, 1, 0, 0, 0, 0, 0), (27, .iload_n 1, 1, 1, 0, 0, 0, 0), (28, .if_icmp .ne (7), 3, 35, 0, 0, 0, 0), (31, .iload_n 3, 1, 3, 0, 0, 0, 0), (32, .goto (4), 3, 36, 0, 0, 0, 0), (35, .iload_n 2, 1, 2, 0, 0, 0, 0), (36, .istore_n 2, 1, 2, 0, 0, 0, 0), (37, .iinc 3 (1), 3, 0, 0, 0, 1, 0), (40, .goto (-36), 3, 4, 0, 0, 0, 0), (43, .iload_n 2, 1, 2, 0, 0, 0, 0), (44, .ireturn, 1, 0, 0, 0, 0, 0)]
/-- 183: StreamRefuterModel.goodLine(III)I -/
def x_t183 : List xR := [(0, .aload_n 0, 1, 0, 0, 0, 0, 0), (1, .getfield 41, 3, 9, 25, 2, 0, 0), (4, .iload_n 1, 1, 1, 0, 0, 0, 0), (5, .iaload, 1, 0, 0, 0, 0, 0), (6, .iload_n 3, 1, 3, 0, 0, 0, 0), (7, .if_icmp .le (13), 3, 20, 0, 0, 0, 0), (10, .aload_n 0, 1, 0, 0, 0, 0, 0), (11, .iload_n 1, 1, 1, 0, 0, 0, 0), (12, .iconst (1), 1, 0, 0, 0, 1, 0), (13, .iadd, 1, 0, 0, 0, 0, 0), (14, .invokevirtual 364, 3, 184, 2, 0, 0, 0), (17, .goto (4), 3, 21, 0, 0, 0, 0), (20, .iconst (-1), 1, 0, 0, 0, (-1), 0), (21, .istore 4, 2, 0, 0, 0, 0, 0), (23, .iload 4, 2, 0, 0, 0, 0, 0), (25, .ifCond .lt (14), 3, 39, 0, 0, 0, 0), (28, .aload_n 0, 1, 0, 0, 0, 0, 0), (29, .iload_n 1, 1, 1, 0, 0, 0, 0), (30, .iload 4, 2, 0, 0, 0, 0, 0), (32, .iload_n 2, 1, 2, 0, 0, 0, 0), (33, .invokevirtual 367, 3, 185, 4, 0, 0, 0), (36, .ifCond .ne (5), 3, 41, 0, 0, 0, 0), (39, .iconst (-1), 1, 0, 0, 0, (-1), 0), (40, .ireturn, 1, 0, 0, 0, 0, 0), (41, .iconst (0), 1, 0, 0, 0, 0, 0), (42, .istore 5, 2, 0, 0, 0, 0, 0), (44, .iload 5, 2, 0, 0, 0, 0, 0), (46, .iload 4, 2, 0, 0, 0, 0, 0), (48, .if_icmp .ge (35), 3, 83, 0, 0, 0, 0), (51, .aload_n 0, 1, 0, 0, 0, 0, 0), (52, .getfield 104, 3, 9, 53, 2, 0, 0), (55, .bipush (16), 2, 0, 0, 0, 16, 0), (57, .aload_n 0, 1, 0, 0, 0, 0, 0), (58, .getfield 335, 3, 9, 50, 0, 0, 0), (61, .imul, 1, 0, 0, 0, 0, 0), (62, .iload 5, 2, 0, 0, 0, 0, 0), (64, .iadd, 1, 0, 0, 0, 0, 0), (65, .aload_n 0, 1, 0, 0, 0, 0, 0), (66, .getfield 41, 3, 9, 25, 2, 0, 0), (69, .iload_n 1, 1, 1, 0, 0, 0, 0), (70, .iconst (1), 1, 0, 0, 0, 1, 0), (71, .iadd, 1, 0, 0, 0, 0, 0), (72, .iload 5, 2, 0, 0, 0, 0, 0), (74, .iadd, 1, 0, 0, 0, 0, 0), (75, .iaload, 1, 0, 0, 0, 0, 0), (76, .iastore, 1, 0, 0, 0, 0, 0), (77, .iinc 5 (1), 3, 0, 0, 0, 1, 0), (80, .goto (-36), 3, 44, 0, 0, 0, 0), (83, .aload_n 0, 1, 0, 0, 0, 0, 0), (84, .aload_n 0, 1, 0, 0, 0, 0, 0), (85, .getfield 41, 3, 9, 25, 2, 0, 0), (88, .iload_n 1, 1, 1, 0, 0, 0, 0), (89, .iaload, 1, 0, 0, 0, 0, 0), (90, .iload 4, 2, 0, 0, 0, 0, 0), (92, .invokevirtual 361, 3, 178, 3, 0, 0, 0), (95, .iload 4, 2, 0, 0, 0, 0, 0), (97, .ireturn, 1, 0, 0, 0, 0, 0)]
/-- 184: StreamRefuterModel.beginLine(I)I -/
def x_t184 : List xR := [(0, .aload_n 0, 1, 0, 0, 0, 0, 0), (1, .invokevirtual 259, 3, 102, 1, 0, 0, 0), (4, .iconst (0), 1, 0, 0, 0, 0, 0), (5, .istore_n 2, 1, 2, 0, 0, 0, 0), (6, .iload_n 1, 1, 1, 0, 0, 0, 0), (7, .istore_n 3, 1, 3, 0, 0, 0, 0), (8, .aload_n 0, 1, 0, 0, 0, 0, 0), (9, .getfield 41, 3, 9, 25, 2, 0, 0), (12, .iload_n 3, 1, 3, 0, 0, 0, 0), (13, .iaload, 1, 0, 0, 0, 0, 0), (14, .ifCond .eq (58), 3, 72, 0, 0, 0, 0), (17, .aload_n 0, 1, 0, 0, 0, 0, 0), (18, .getfield 41, 3, 9, 25, 2, 0, 0), (21, .iload_n 3, 1, 3, 0, 0, 0, 0), (22, .iaload, 1, 0, 0, 0, 0, 0), (23, .invokestatic 149, 3, 53, 1, 0, 0, 0), (26, .aload_n 0, 1, 0, 0, 0, 0, 0), (27, .getfield 184, 3, 9, 5, 0, 0, 0), (30, .if_icmp .gt (20), 3, 50, 0, 0, 0, 0), (33, .aload_n 0, 1, 0, 0, 0, 0, 0), (34, .getfield 53, 3, 9, 30, 2, 0, 0), (37, .aload_n 0, 1, 0, 0, 0, 0, 0), (38, .getfield 41, 3, 9, 25, 2, 0, 0), (41, .iload_n 3, 1, 3, 0, 0, 0, 0), (42, .iaload, 1, 0, 0, 0, 0, 0), (43, .invokestatic 149, 3, 53, 1, 0, 0, 0), (46, .iaload, 1, 0, 0, 0, 0, 0), (47, .ifCond .eq (5), 3, 52, 0, 0, 0, 0), (50, .iconst (-1), 1, 0, 0, 0, (-1), 0), (51, .ireturn, 1, 0, 0, 0, 0, 0), (52, .aload_n 0, 1, 0, 0, 0, 0, 0), (53, .aload_n 0, 1, 0, 0, 0, 0, 0), (54, .getfield 41, 3, 9, 25, 2, 0, 0), (57, .iload_n 3, 1, 3, 0, 0, 0, 0), (58, .iaload, 1, 0, 0, 0, 0, 0), (59, .ineg, 1, 0, 0, 0, 0, 0), (60, .invokevirtual 256, 3, 107, 2, 0, 0, 0), (63, .iinc 2 (1), 3, 0, 0, 0, 1, 0), (66, .iinc 3 (1), 3, 0, 0, 0, 1, 0), (69, .goto (-61), 3, 8, 0, 0, 0, 0), (72, .iload_n 2, 1, 2, 0, 0, 0, 0), (73, .ireturn, 1, 0, 0, 0, 0, 0)]
/-- 185: StreamRefuterModel.isFollowed(III)Z -/
def x_t185 : List xR := [(0, .iload_n 1, 1, 1, 0, 0, 0, 0), (1, .iload_n 2, 1, 2, 0, 0, 0, 0), (2, .iadd, 1, 0, 0, 0, 0, 0), (3, .iconst (2), 1, 0, 0, 0, 2, 0), (4, .iadd, 1, 0, 0, 0, 0, 0), (5, .istore 4, 2, 0, 0, 0, 0, 0), (7, .iload_n 3, 1, 3, 0, 0, 0, 0), (8, .iconst (1), 1, 0, 0, 0, 1, 0), (9, .isub, 1, 0, 0, 0, 0, 0), (10, .istore 5, 2, 0, 0, 0, 0, 0), (12, .iconst (1), 1, 0, 0, 0, 1, 0), (13, .istore 6, 2, 0, 0, 0, 0, 0), (15, .iload 4, 2, 0, 0, 0, 0, 0), (17, .iload 5, 2, 0, 0, 0, 0, 0), (19, .if_icmp .ge (38), 3, 57, 0, 0, 0, 0), (22, .aload_n 0, 1, 0, 0, 0, 0, 0), (23, .getfield 41, 3, 9, 25, 2, 0, 0), (26, .iload 4, 2, 0, 0, 0, 0, 0), (28, .iaload, 1, 0, 0, 0, 0, 0), (29, .ifCond .le (28), 3, 57, 0, 0, 0, 0), (32, .iload 6, 2, 0, 0, 0, 0, 0), (34, .iconst (1), 1, 0, 0, 0, 1, 0), (35, .if_icmp .ne (22), 3, 57, 0, 0, 0, 0), (38, .aload_n 0, 1, 0, 0, 0, 0, 0), (39, .aload_n 0, 1, 0, 0, 0, 0, 0), (40, .getfield 41, 3, 9, 25, 2, 0, 0), (43, .iload 4, 2, 0, 0, 0, 0, 0), (45, .iaload, 1, 0, 0, 0, 0, 0), (46, .invokevirtual 347, 3, 186, 2, 0, 0, 0), (49, .istore 6, 2, 0, 0, 0, 0, 0), (51, .iinc 4 (1), 3, 0, 0, 0, 1, 0), (54, .goto (-39), 3, 15, 0, 0, 0, 0), (57, .iload 6, 2, 0, 0, 0, 0, 0), (59, .iconst (1), 1, 0, 0, 0, 1, 0), (60, .if_icmp .eq (22), 3, 82, 0, 0, 0, 0), (63, .iload 6, 2, 0, 0, 0, 0, 0), (65, .iconst (2), 1, 0, 0, 0, 2, 0), (66, .if_icmp .ne (14), 3, 80, 0, 0, 0, 0), (69, .iload 4, 2, 0, 0, 0, 0, 0), (71, .iload 5, 2, 0, 0, 0, 0, 0), (73, .if_icmp .ne (7), 3, 80, 0, 0, 0, 0), (76, .iconst (1), 1, 0, 0, 0, 1, 0), (77, .goto (4), 3, 81, 0, 0, 0, 0), (80, .iconst (0), 1, 0, 0, 0, 0, 0), (81, .ireturn, 1, 0, 0, 1, 0, 0), (82, .iload_n 2, 1, 2, 0, 0, 0, 0), (83, .ifCond .le (27), 3, 110, 0, 0, 0, 0), (86, .aload_n 0, 1, 0, 0, 0, 0, 0), (87, .iload 4, 2, 0, 0, 0, 0, 0), (89, .iload 5, 2, 0, 0, 0, 0, 0), (91, .aload_n 0, 1, 0, 0, 0, 0, 0), (92, .getfield 41, 3, 9, 25, 2, 0, 0), (95, .iload_n 1, 1, 1, 0, 0, 0, 0), (96, .iconst (1), 1, 0, 0, 0, 1, 0), (97, .iadd, 1, 0, 0, 0, 0, 0), (98, .iaload, 1, 0, 0, 0, 0, 0), (99, .ineg, 1, 0, 0, 0, 0, 0), (100, .invokevirtual 357, 3, 188, 4, 0, 0, 0), (103, .ifCond .eq (7), 3, 110, 0, 0, 0, 0), (106, .iconst (1), 1, 0, 0, 0, 1, 0), (107, .goto (4), 3, 111, 0, 0, 0, 0), (110, .iconst (0), 1, 0, 0, 0, 0, 0), (111, .ireturn, 1, 0, 0, 1, 0, 0)]
/-- 186: StreamRefuterModel.follow(I)I -/
def x_t186 : List xR := [(0, .aload_n 0, 1, 0, 0, 0, 0, 0), (1, .iload_n 1, 1, 1, 0, 0, 0, 0), (2, .invokevirtual 338, 3, 182, 2, 0, 0, 0), (5, .istore_n 2, 1, 2, 0, 0, 0, 0), (6, .iload_n 2, 1, 2, 0, 0, 0, 0), (7, .ifCond .lt (11), 3, 18, 0, 0, 0, 0), (10, .aload_n 0, 1, 0, 0, 0, 0, 0), (11, .iload_n 2, 1, 2, 0, 0, 0, 0), (12, .invokevirtual 341, 3, 187, 2, 0, 0, 0), (15, .ifCond .ne (5), 3, 20, 0, 0, 0, 0), (18, .iconst (0), 1, 0, 0, 0, 0, 0), (19, .ireturn, 1, 0, 0, 0, 0, 0), (20, .aload_n 0, 1, 0, 0, 0, 0, 0), (21, .getfield 238, 3, 9, 32, 0, 0, 0), (24, .ifCond .ne (5), 3, 29, 0, 0, 0, 0), (27, .iconst (2), 1, 0, 0, 0, 2, 0), (28, .ireturn, 1, 0, 0, 0, 0, 0), (29, .aload_n 0, 1, 0, 0, 0, 0, 0), (30, .aload_n 0, 1, 0, 0, 0, 0, 0), (31, .getfield 238, 3, 9, 32, 0, 0, 0), (34, .invokevirtual 256, 3, 107, 2, 0, 0, 0), (37, .iconst (1), 1, 0, 0, 0, 1, 0), (38, .ireturn, 1, 0, 0, 0, 0, 0)]
/-- 187: StreamRefuterModel.isKnownReady(I)Z -/
def x_t187 : List xR := [(0, .iconst (1), 1, 0, 0, 0, 1, 0), (1, .istore_n 2, 1, 2, 0, 0, 0, 0), (2, .aload_n 0, 1, 0, 0, 0, 0, 0), (3, .iconst (0), 1, 0, 0, 0, 0, 0), (4, .putfield 238, 3, 9, 32, 0, 0, 0), (7, .iconst (0), 1, 0, 0, 0, 0, 0), (8, .istore_n 3, 1, 3, 0, 0, 0, 0), (9, .iload_n 3, 1, 3, 0, 0, 0, 0), (10, .aload_n 0, 1, 0, 0, 0, 0, 0), (11, .getfield 101, 3, 9, 52, 2, 0, 0), (14, .iload_n 1, 1, 1, 0, 0, 0, 0), (15, .iaload, 1, 0, 0, 0, 0, 0), (16, .if_icmp .ge (80), 3, 96, 0, 0, 0, 0), (19, .aload_n 0, 1, 0, 0, 0, 0, 0), (20, .getfield 104, 3, 9, 53, 2, 0, 0), (23, .bipush (16), 2, 0, 0, 0, 16, 0), (25, .iload_n 1, 1, 1, 0, 0, 0, 0), (26, .imul, 1, 0, 0, 0, 0, 0), (27, .iload_n 3, 1, 3, 0, 0, 0, 0), (28, .iadd, 1, 0, 0, 0, 0, 0), (29, .iaload, 1, 0, 0, 0, 0, 0), (30, .istore 4, 2, 0, 0, 0, 0, 0), (32, .iload_n 2, 1, 2, 0, 0, 0, 0), (33, .ifCond .eq (33), 3, 66, 0, 0, 0, 0), (36, .aload_n 0, 1, 0, 0, 0, 0, 0), (37, .iload 4, 2, 0, 0, 0, 0, 0), (39, .invokevirtual 241, 3, 106, 2, 0, 0, 0), (42, .iconst (1), 1, 0, 0, 0, 1, 0), (43, .if_icmp .ge (23), 3, 66, 0, 0, 0, 0), (46, .aload_n 0, 1, 0, 0, 0, 0, 0), (47, .iload 4, 2, 0, 0, 0, 0, 0), (49, .invokevirtual 241, 3, 106, 2, 0, 0, 0), (52, .ifCond .lt (10), 3, 62, 0, 0, 0, 0), (55, .aload_n 0, 1, 0, 0, 0, 0, 0), (56, .getfield 238, 3, 9, 32, 0, 0, 0), (59, .ifCond .ne (7), 3, 66, 0, 0, 0, 0), (62, .iconst (1), 1, 0, 0, 0, 1, 0), (63, .goto (4), 3, 67, 0, 0, 0, 0), (66, .iconst (0), 1, 0, 0, 0, 0, 0), (67, .istore_n 2, 1, 2, 0, 0, 0, 0), (68, .aload_n 0, 1, 0, 0, 0, 0, 0), (69, .aload_n 0, 1, 0, 0, 0, 0, 0), (70, .iload 4, 2, 0, 0, 0, 0, 0), (72, .invokevirtual 241, 3, 106, 2, 0, 0, 0), (75, .ifCond .ne (8), 3, 83, 0, 0, 0, 0), (78, .iload 4, 2, 0, 0, 0, 0, 0), (80, .goto (7), 3, 87, 0, 0, 0, 0), (83, .aload_n 0, 1, 0, 0, 0, 0, 0), (84, .getfield 238, 3, 9, 32, 0, 0, 0), (87, .putfield 238, 3, 9, 32, 0, 0, 0), (90, .iinc 3 (1), 3, 0, 0, 0, 1, 0), (93, .goto (-84), 3, 9, 0, 0, 0, 0), (96, .iload_n 2, 1, 2, 0, 0, 0, 0), (97, .ireturn, 1, 0, 0, 1, 0, 0)]
/-- 188: StreamRefuterModel.names(III)Z -/
def x_t188 : List xR := [(0, .iconst (0), 1, 0, 0, 0, 0, 0), (1, .istore 4, 2, 0, 0, 0, 0, 0), (3, .iload 4, 2, 0, 0, 0, 0, 0), (5, .aload_n 0, 1, 0, 0, 0, 0, 0), (6, .getfield 335, 3, 9, 50, 0, 0, 0), (9, .if_icmp .ge (17), 3, 26, 0, 0, 0, 0), (12, .aload_n 0, 1, 0, 0, 0, 0, 0), (13, .getfield 110, 3, 9, 55, 2, 0, 0), (16, .iload 4, 2, 0, 0, 0, 0, 0), (18, .iconst (0), 1, 0, 0, 0, 0, 0), (19, .bastore, 1, 0, 0, 0, 0, 0), (20, .iinc 4 (1), 3, 0, 0, 0, 1, 0), (23, .goto (-20), 3, 3, 0, 0, 0, 0), (26, .aload_n 0, 1, 0, 0, 0, 0, 0), (27, .invokevirtual 283, 3, 117, 1, 0, 0, 0), (30, .iload_n 1, 1, 1, 0, 0, 0, 0), (31, .istore 4, 2, 0, 0, 0, 0, 0), (33, .iload 4, 2, 0, 0, 0, 0, 0), (35, .iload_n 2, 1, 2, 0, 0, 0, 0), (36, .if_icmp .ge (110), 3, 146, 0, 0, 0, 0), (39, .aload_n 0, 1, 0, 0, 0, 0, 0), (40, .aload_n 0, 1, 0, 0, 0, 0, 0), (41, .getfield 41, 3, 9, 25, 2, 0, 0), (44, .iload 4, 2, 0, 0, 0, 0, 0), (46, .iaload, 1, 0, 0, 0, 0, 0), (47, .ineg, 1, 0, 0, 0, 0, 0), (48, .invokevirtual 338, 3, 182, 2, 0, 0, 0), (51, .istore 5, 2, 0, 0, 0, 0, 0), (53, .iload 5, 2, 0, 0, 0, 0, 0), (55, .ifCond .lt (23), 3, 78, 0, 0, 0, 0), (58, .aload_n 0, 1, 0, 0, 0, 0, 0), (59, .getfield 110, 3, 9, 55, 2, 0, 0), (62, .iload 5, 2, 0, 0, 0, 0, 0), (64, .baload, 1, 0, 0, 0, 0, 0), (65, .ifCond .ne (13), 3, 78, 0, 0, 0, 0), (68, .aload_n 0, 1, 0, 0, 0, 0, 0), (69, .iload 5, 2, 0, 0, 0, 0, 0), (71, .iload_n 3, 1, 3, 0, 0, 0, 0), (72, .invokevirtual 350, 3, 189, 3, 0, 0, 0), (75, .ifCond .ne (5), 3, 80, 0, 0, 0, 0), (78, .iconst (0), 1, 0, 0, 0, 0, 0), (79, .ireturn, 1, 0, 0, 1, 0, 0), (80, .aload_n 0, 1, 0, 0, 0, 0, 0), (81, .getfield 110, 3, 9, 55, 2, 0, 0), (84, .iload 5, 2, 0, 0, 0, 0, 0), (86, .iconst (1), 1, 0, 0, 0, 1, 0), (87, .bastore, 1, 0, 0, 0, 0, 0), (88, .iload 4, 2, 0, 0, 0, 0, 0), (90, .iconst (1), 1, 0, 0, 0, 1, 0), (91, .iadd, 1, 0, 0, 0, 0, 0), (92, .istore 6, 2, 0, 0, 0, 0, 0), (94, .iload 6, 2, 0, 0, 0, 0, 0), (96, .iload_n 2, 1, 2, 0, 0, 0, 0), (97, .if_icmp .ge (19), 3, 116, 0, 0, 0, 0), (100, .aload_n 0, 1, 0, 0, 0, 0, 0), (101, .getfield 41, 3, 9, 25, 2, 0, 0), (104, .iload 6, 2, 0, 0, 0, 0, 0), (106, .iaload, 1, 0, 0, 0, 0, 0), (107, .ifCond .le (9), 3, 116, 0, 0, 0, 0), (110, .iinc 6 (1), 3, 0, 0, 0, 1, 0), (113, .goto (-19), 3, 94, 0, 0, 0, 0), (116, .aload_n 0, 1, 0, 0, 0, 0, 0), (117, .iload 5, 2, 0, 0, 0, 0, 0), (119, .iload_n 3, 1, 3, 0, 0, 0, 0), (120, .iload 4, 2, 0, 0, 0, 0, 0), (122, .iconst (1), 1, 0, 0, 0, 1, 0), (123, .iadd, 1, 0, 0, 0, 0, 0), (124, .iload 6, 2, 0, 0, 0, 0, 0), (126, .invokevirtual 353, 3, 190, 5, 0, 0, 0), (129, .ifCond .ne (5), 3, 134, 0, 0, 0, 0), (132, .iconst (0), 1, 0, 0, 0, 0, 0), (133, .ireturn, 1, 0, 0, 1, 0, 0), (134, .aload_n 0, 1, 0, 0, 0, 0, 0), (135, .iconst (0), 1, 0, 0, 0, 0, 0), (136, .invokevirtual 289, 3, 122, 2, 0, 0, 0), (139, .iload 6, 2, 0, 0, 0, 0, 0), (141, .istore 4, 2, 0, 0, 0, 0, 0), (143, .goto (-110), 3, 33, 0, 0, 0, 0), (146, .iconst (1), 1, 0, 0, 0, 1, 0), (147, .istore 5, 2, 0, 0, 0, 0, 0), (149, .iconst (0), 1, 0, 0, 0, 0, 0), (150, .istore 6, 2, 0, 0, 0, 0, 0), (152, .iload 6, 2, 0, 0, 0, 0, 0), (154, .aload_n 0, 1, 0, 0, 0, 0, 0), (155, .getfield 335, 3, 9, 50, 0, 0, 0), (158, .if_icmp .ge (51), 3, 209, 0, 0, 0, 0), (161, .iload 5, 2, 0, 0, 0, 0, 0), (163, .ifCond .eq (37), 3, 200, 0, 0, 0, 0), (166, .aload_n 0, 1, 0, 0, 0, 0, 0), (167, .getfield 107, 3, 9, 54, 2, 0, 0), (170, .iload 6, 2, 0, 0, 0, 0, 0), (172, .baload, 1, 0, 0, 0, 0, 0), (173, .ifCond .eq (23), 3, 196, 0, 0, 0, 0), (176, .aload_n 0, 1, 0, 0, 0, 0, 0), (177, .getfield 110, 3, 9, 55, 2, 0, 0), (180, .iload 6, 2, 0, 0, 0, 0, 0), (182, .baload, 1, 0, 0, 0, 0, 0), (183, .ifCond .ne (13), 3, 196, 0, 0, 0, 0), (186, .aload_n 0, 1, 0, 0, 0, 0, 0), (187, .iload 6, 2, 0, 0, 0, 0, 0), (189, .iload_n 3, 1, 3, 0, 0, 0, 0), (190, .invokevirtual 350, 3, 189, 3, 0, 0, 0), (193, .ifCond .ne (7), 3, 200, 0, 0, 0, 0), (196, .iconst (1), 1, 0, 0, 0, 1, 0), (197, .goto (4), 3, 201, 0, 0, 0, 0), (200, .iconst (0), 1, 0, 0, 0, 0, 0), (201, .istore 5, 2, 0, 0, 0, 0, 0), (203, .iinc 6 (1), 3, 0, 0, 0, 1, 0), (206, .goto (-54), 3, 152, 0, 0, 0, 0), (209, .iload 5, 2, 0, 0, 0, 0, 0), (211, .ireturn, 1, 0, 0, 1, 0, 0)]
/-- 189: StreamRefuterModel.knownHas(II)Z -/
def x_t189 : List xR := [(0, .iconst (0), 1, 0, 0, 0, 0, 0), (1, .istore_n 3, 1, 3, 0, 0, 0, 0), (2, .iconst (0), 1, 0, 0, 0, 0, 0), (3, .istore 4, 2, 0, 0, 0, 0, 0), (5, .iload 4, 2, 0, 0, 0, 0, 0), (7, .aload_n 0, 1, 0, 0, 0, 0, 0), (8, .getfield 101, 3, 9, 52, 2, 0, 0), (11, .iload_n 1, 1, 1, 0, 0, 0, 0), (12, .iaload, 1, 0, 0, 0, 0, 0), (13, .if_icmp .ge (35), 3, 48, 0, 0, 0, 0), (16, .iload_n 3, 1, 3, 0, 0, 0, 0), (17, .ifCond .ne (19), 3, 36, 0, 0, 0, 0), (20, .aload_n 0, 1, 0, 0, 0, 0, 0), (21, .getfield 104, 3, 9, 53, 2, 0, 0), (24, .bipush (16), 2, 0, 0, 0, 16, 0), (26, .iload_n 1, 1, 1, 0, 0, 0, 0), (27, .imul, 1, 0, 0, 0, 0, 0), (28, .iload 4, 2, 0, 0, 0, 0, 0), (30, .iadd, 1, 0, 0, 0, 0, 0), (31, .iaload, 1, 0, 0, 0, 0, 0), (32, .iload_n 2, 1, 2, 0, 0, 0, 0), (33, .if_icmp .ne (7), 3, 40, 0, 0, 0, 0), (36, .iconst (1), 1, 0, 0, 0, 1, 0), (37, .goto (4), 3, 41, 0, 0, 0, 0), (40, .iconst (0), 1, 0, 0, 0, 0, 0), (41, .istore_n 3, 1, 3, 0, 0, 0, 0), (42, .iinc 4 (1), 3, 0, 0, 0, 1, 0), (45, .goto (-40), 3, 5, 0, 0, 0, 0), (48, .iload_n 3, 1, 3, 0, 0, 0, 0), (49, .ireturn, 1, 0, 0, 1, 0, 0)]
/-- 190: StreamRefuterModel.followGroup(IIII)Z -/
def x_t190 : List xR := [(0, .aload_n 0, 1, 0, 0, 0, 0, 0), (1, .iload_n 1, 1, 1, 0, 0, 0, 0), (2, .iload_n 2, 1, 2, 0, 0, 0, 0), (3, .invokevirtual 344, 3, 191, 3, 0, 0, 0), (6, .ifCond .eq (15), 3, 21, 0, 0, 0, 0), (9, .iload_n 3, 1, 3, 0, 0, 0, 0), (10, .iload 4, 2, 0, 0, 0, 0, 0), (12, .if_icmp .ne (7), 3, 19, 0, 0, 0, 0), (15, .iconst (1), 1, 0, 0, 0, 1, 0), (16, .goto (4), 3, 20, 0, 0, 0, 0), (19, .iconst (0), 1, 0, 0, 0, 0, 0), (20, .ireturn, 1, 0, 0, 1, 0, 0), (21, .iload_n 3, 1, 3, 0, 0, 0, 0), (22, .istore 5, 2, 0, 0, 0, 0, 0), (24, .iconst (1), 1, 0, 0, 0, 1, 0), (25, .istore 6, 2, 0, 0, 0, 0, 0), (27, .iload 5, 2, 0, 0, 0, 0, 0), (29, .iload 4, 2, 0, 0, 0, 0, 0), (31, .if_icmp .ge (28), 3, 59, 0, 0, 0, 0), (34, .iload 6, 2, 0, 0, 0, 0, 0), (36, .iconst (1), 1, 0, 0, 0, 1, 0), (37, .if_icmp .ne (22), 3, 59, 0, 0, 0, 0), (40, .aload_n 0, 1, 0, 0, 0, 0, 0), (41, .aload_n 0, 1, 0, 0, 0, 0, 0), (42, .getfield 41, 3, 9, 25, 2, 0, 0), (45, .iload 5, 2, 0, 0, 0, 0, 0), (47, .iaload, 1, 0, 0, 0, 0, 0), (48, .invokevirtual 347, 3, 186, 2, 0, 0, 0), (51, .istore 6, 2, 0, 0, 0, 0, 0), (53, .iinc 5 (1), 3, 0, 0, 0, 1, 0), (56, .goto (-29), 3, 27, 0, 0, 0, 0), (59, .iload 6, 2, 0, 0, 0, 0, 0), (61, .iconst (2), 1, 0, 0, 0, 2, 0), (62, .if_icmp .ne (14), 3, 76, 0, 0, 0, 0), (65, .iload 5, 2, 0, 0, 0, 0, 0), (67, .iload 4, 2, 0, 0, 0, 0, 0), (69, .if_icmp .ne (7), 3, 76, 0, 0, 0, 0), (72, .iconst (1), 1, 0, 0, 0, 1, 0), (73, .goto (4), 3, 77, 0, 0, 0, 0), (76, .iconst (0), 1, 0, 0, 0, 0, 0), (77, .ireturn, 1, 0, 0, 1, 0, 0)]
/-- 191: StreamRefuterModel.isMet(II)Z -/
def x_t191 : List xR := [(0, .iconst (0), 1, 0, 0, 0, 0, 0), (1, .istore_n 3, 1, 3, 0, 0, 0, 0), (2, .iconst (0), 1, 0, 0, 0, 0, 0), (3, .istore 4, 2, 0, 0, 0, 0, 0), (5, .iload 4, 2, 0, 0, 0, 0, 0), (7, .aload_n 0, 1, 0, 0, 0, 0, 0), (8, .getfield 101, 3, 9, 52, 2, 0, 0), (11, .iload_n 1, 1, 1, 0, 0, 0, 0), (12, .iaload, 1, 0, 0, 0, 0, 0), (13, .if_icmp .ge (48), 3, 61, 0, 0, 0, 0), (16, .aload_n 0, 1, 0, 0, 0, 0, 0), (17, .getfield 104, 3, 9, 53, 2, 0, 0), (20, .bipush (16), 2, 0, 0, 0, 16, 0), (22, .iload_n 1, 1, 1, 0, 0, 0, 0), (23, .imul, 1, 0, 0, 0, 0, 0), (24, .iload 4, 2, 0, 0, 0, 0, 0), (26, .iadd, 1, 0, 0, 0, 0, 0), (27, .iaload, 1, 0, 0, 0, 0, 0), (28, .istore 5, 2, 0, 0, 0, 0, 0), (30, .iload_n 3, 1, 3, 0, 0, 0, 0), (31, .ifCond .ne (18), 3, 49, 0, 0, 0, 0), (34, .iload 5, 2, 0, 0, 0, 0, 0), (36, .iload_n 2, 1, 2, 0, 0, 0, 0), (37, .if_icmp .eq (16), 3, 53, 0, 0, 0, 0), (40, .aload_n 0, 1, 0, 0, 0, 0, 0), (41, .iload 5, 2, 0, 0, 0, 0, 0), (43, .invokevirtual 241, 3, 106, 2, 0, 0, 0), (46, .ifCond .le (7), 3, 53, 0, 0, 0, 0), (49, .iconst (1), 1, 0, 0, 0, 1, 0), (50, .goto (4), 3, 54, 0, 0, 0, 0), (53, .iconst (0), 1, 0, 0, 0, 0, 0), (54, .istore_n 3, 1, 3, 0, 0, 0, 0), (55, .iinc 4 (1), 3, 0, 0, 0, 1, 0), (58, .goto (-53), 3, 5, 0, 0, 0, 0), (61, .iconst (0), 1, 0, 0, 0, 0, 0), (62, .istore 4, 2, 0, 0, 0, 0, 0), (64, .iload 4, 2, 0, 0, 0, 0, 0), (66, .aload_n 0, 1, 0, 0, 0, 0, 0), (67, .getfield 101, 3, 9, 52, 2, 0, 0), (70, .iload_n 1, 1, 1, 0, 0, 0, 0), (71, .iaload, 1, 0, 0, 0, 0, 0), (72, .if_icmp .ge (40), 3, 112, 0, 0, 0, 0), (75, .iload_n 3, 1, 3, 0, 0, 0, 0), (76, .ifCond .ne (36), 3, 112, 0, 0, 0, 0), (79, .aload_n 0, 1, 0, 0, 0, 0, 0), (80, .getfield 104, 3, 9, 53, 2, 0, 0), (83, .bipush (16), 2, 0, 0, 0, 16, 0), (85, .iload_n 1, 1, 1, 0, 0, 0, 0), (86, .imul, 1, 0, 0, 0, 0, 0), (87, .iload 4, 2, 0, 0, 0, 0, 0), (89, .iadd, 1, 0, 0, 0, 0, 0), (90, .iaload, 1, 0, 0, 0, 0, 0), (91, .istore 5, 2, 0, 0, 0, 0, 0), (93, .iload 5, 2, 0, 0, 0, 0, 0), (95, .iload_n 2, 1, 2, 0, 0, 0, 0), (96, .if_icmp .eq (10), 3, 106, 0, 0, 0, 0), (99, .aload_n 0, 1, 0, 0, 0, 0, 0), (100, .iload 5, 2, 0, 0, 0, 0, 0), (102, .ineg, 1, 0, 0, 0, 0, 0), (103, .invokevirtual 256, 3, 107, 2, 0, 0, 0), (106, .iinc 4 (1), 3, 0, 0, 0, 1, 0), (109, .goto (-45), 3, 64, 0, 0, 0, 0), (112, .iload_n 3, 1, 3, 0, 0, 0, 0), (113, .ireturn, 1, 0, 0, 1, 0, 0)]
def x_tabs : List (List xR) := [x_t0, x_t1, x_t2, x_t3, x_t4, x_t5, x_t6, x_t7, x_t8, x_t9, x_t10, x_t11, x_t12, x_t13, x_t14, x_t15, x_t16, x_t17, x_t18, x_t19, x_t20, x_t21, x_t22, x_t23, x_t24, x_t25, x_t26, x_t27, x_t28, x_t29, x_t30, x_t31, x_t32, x_t33, x_t34, x_t35, x_t36, x_t37, x_t38, x_t39, x_t40, x_t41, x_t42, x_t43, x_t44, x_t45, x_t46, x_t47, x_t48, x_t49, x_t50, x_t51, x_t52, x_t53, x_t54, x_t55, x_t56, x_t57, x_t58, x_t59, x_t60, x_t61, x_t62, x_t63, x_t64, x_t65, x_t66, x_t67, x_t68, x_t69, x_t70, x_t71, x_t72, x_t73, x_t74, x_t75, x_t76, x_t77, x_t78, x_t79, x_t80, x_t81, x_t82, x_t83, x_t84, x_t85, x_t86, x_t87, x_t88, x_t89, x_t90, x_t91, x_t92, x_t93, x_t94, x_t95, x_t96, x_t97, x_t98, x_t99, x_t100, x_t101, x_t102, x_t103, x_t104, x_t105, x_t106, x_t107, x_t108, x_t109, x_t110, x_t111, x_t112, x_t113, x_t114, x_t115, x_t116, x_t117, x_t118, x_t119, x_t120, x_t121, x_t122, x_t123, x_t124, x_t125, x_t126, x_t127, x_t128, x_t129, x_t130, x_t131, x_t132, x_t133, x_t134, x_t135, x_t136, x_t137, x_t138, x_t139, x_t140, x_t141, x_t142, x_t143, x_t144, x_t145, x_t146, x_t147, x_t148, x_t149, x_t150, x_t151, x_t152, x_t153, x_t154, x_t155, x_t156, x_t157, x_t158, x_t159, x_t160, x_t161, x_t162, x_t163, x_t164, x_t165, x_t166, x_t167, x_t168, x_t169, x_t170, x_t171, x_t172, x_t173, x_t174, x_t175, x_t176, x_t177, x_t178, x_t179, x_t180, x_t181, x_t182, x_t183, x_t184, x_t185, x_t186, x_t187, x_t188, x_t189, x_t190, x_t191]
def x_prog : xP := (fun M => x_nth [] x_tabs M, fun M => x_nth 0 x_deps M, fun M => (x_mt M).2.2.1, fun M => x_nth 99 x_rcs M, fun t => x_nth (0, 0, 0, 0) x_vts t, fun t => x_nth [] x_txs t, fun M pc n => x_han1 x_hans M pc n)
def x_en4 : List (String × String × String) := [("StreamRefuter$Opening", "NO_MORE", "LStreamRefuter$Opening;"), ("StreamRefuter$Opening", "DELETION", "LStreamRefuter$Opening;"), ("StreamRefuter$Opening", "ADDITION", "LStreamRefuter$Opening;"), ("StreamRefuter$Opening", "WRONG", "LStreamRefuter$Opening;")]
def x_enu (a : Nat) : String × String × String := x_nth ("StreamRefuter$Opening", "NO_MORE", "LStreamRefuter$Opening;") x_en4 a
end
section
/-! What the words say of classes and links: printed by gen/gen_tables.py. -/
theorem x_w0 : ∀ k, k < 10 → u_lay x_R0 x_T0 k ∈ x_Ts := fun k hk => match k, hk with
  | 0, _ => x_tm 329 (by decide +kernel) rfl
  | 1, _ => x_tm 331 (by decide +kernel) rfl
  | 2, _ => x_tm 333 (by decide +kernel) rfl
  | 3, _ => x_tm 335 (by decide +kernel) rfl
  | 4, _ => x_tm 337 (by decide +kernel) rfl
  | 5, _ => x_tm 339 (by decide +kernel) rfl
  | 6, _ => x_tm 341 (by decide +kernel) rfl
  | 7, _ => x_tm 343 (by decide +kernel) rfl
  | 8, _ => x_tm 345 (by decide +kernel) rfl
  | 9, _ => x_tm 347 (by decide +kernel) rfl
  | n + 10, hk => absurd hk (by omega)
set_option maxRecDepth 20000 in
theorem x_c0 : x_cf x_cts x_ct x_fk x_ty x_Ts 0 := by
  refine ⟨rfl, by decide, fun w hw => ?_, (by decide +kernel : ∀ k, k < 10 → parseFieldDescriptor (x_T0 k).2.2.1 = some (x_ty 0 k)), (by decide +kernel : ∀ i, i < 10 → ∀ j, j < 10 → i ≠ j → (x_T0 i).2.1 ≠ (x_T0 j).2.1), fun k hk => ?_⟩
  · obtain ⟨k, hk, rfl⟩ := List.mem_map.mp hw
    exact x_w0 k (List.mem_range.mp hk)
  · have hk : k < 10 := hk
    match k, hk with
    | 0, _ => exact Or.inr (Or.inr ⟨rfl, Or.inl ⟨_, rfl⟩⟩)
    | 1, _ => exact Or.inr (Or.inr ⟨rfl, Or.inl ⟨_, rfl⟩⟩)
    | 2, _ => exact Or.inr (Or.inr ⟨rfl, Or.inl ⟨_, rfl⟩⟩)
    | 3, _ => exact Or.inr (Or.inr ⟨rfl, Or.inl ⟨_, rfl⟩⟩)
    | 4, _ => exact Or.inr (Or.inr ⟨rfl, Or.inl ⟨_, rfl⟩⟩)
    | 5, _ => exact Or.inr (Or.inr ⟨rfl, Or.inl ⟨_, rfl⟩⟩)
    | 6, _ => exact Or.inr (Or.inr ⟨rfl, Or.inl ⟨_, rfl⟩⟩)
    | 7, _ => exact Or.inr (Or.inr ⟨rfl, Or.inl ⟨_, rfl⟩⟩)
    | 8, _ => exact Or.inr (Or.inr ⟨rfl, Or.inl ⟨_, rfl⟩⟩)
    | 9, _ => exact Or.inl ⟨rfl, Or.inl rfl⟩
    | n + 10, hk => exact absurd hk (by omega)
theorem x_w1 : ∀ k, k < 2 → u_lay x_R1 x_T1 k ∈ x_Ts := fun k hk => match k, hk with
  | 0, _ => x_tm 40 (by decide +kernel) rfl
  | 1, _ => x_tm 42 (by decide +kernel) rfl
  | n + 2, hk => absurd hk (by omega)
set_option maxRecDepth 20000 in
theorem x_c1 : x_cf x_cts x_ct x_fk x_ty x_Ts 1 := by
  refine ⟨rfl, by decide, fun w hw => ?_, (by decide +kernel : ∀ k, k < 2 → parseFieldDescriptor (x_T1 k).2.2.1 = some (x_ty 1 k)), (by decide +kernel : ∀ i, i < 2 → ∀ j, j < 2 → i ≠ j → (x_T1 i).2.1 ≠ (x_T1 j).2.1), fun k hk => ?_⟩
  · obtain ⟨k, hk, rfl⟩ := List.mem_map.mp hw
    exact x_w1 k (List.mem_range.mp hk)
  · have hk : k < 2 := hk
    match k, hk with
    | 0, _ => exact Or.inr (Or.inr ⟨rfl, Or.inr ⟨_, rfl⟩⟩)
    | 1, _ => exact Or.inl ⟨rfl, Or.inl rfl⟩
    | n + 2, hk => exact absurd hk (by omega)
theorem x_w2 : ∀ k, k < 4 → u_lay x_R2 x_T2 k ∈ x_Ts := fun k hk => match k, hk with
  | 0, _ => x_tm 81 (by decide +kernel) rfl
  | 1, _ => x_tm 83 (by decide +kernel) rfl
  | 2, _ => x_tm 85 (by decide +kernel) rfl
  | 3, _ => x_tm 87 (by decide +kernel) rfl
  | n + 4, hk => absurd hk (by omega)
set_option maxRecDepth 20000 in
theorem x_c2 : x_cf x_cts x_ct x_fk x_ty x_Ts 2 := by
  refine ⟨rfl, by decide, fun w hw => ?_, (by decide +kernel : ∀ k, k < 4 → parseFieldDescriptor (x_T2 k).2.2.1 = some (x_ty 2 k)), (by decide +kernel : ∀ i, i < 4 → ∀ j, j < 4 → i ≠ j → (x_T2 i).2.1 ≠ (x_T2 j).2.1), fun k hk => ?_⟩
  · obtain ⟨k, hk, rfl⟩ := List.mem_map.mp hw
    exact x_w2 k (List.mem_range.mp hk)
  · have hk : k < 4 := hk
    match k, hk with
    | 0, _ => exact Or.inr (Or.inr ⟨rfl, Or.inl ⟨_, rfl⟩⟩)
    | 1, _ => exact Or.inl ⟨rfl, Or.inl rfl⟩
    | 2, _ => exact Or.inl ⟨rfl, Or.inl rfl⟩
    | 3, _ => exact Or.inl ⟨rfl, Or.inl rfl⟩
    | n + 4, hk => exact absurd hk (by omega)
theorem x_w3 : ∀ k, k < 4 → u_lay x_R3 x_T3 k ∈ x_Ts := fun k hk => match k, hk with
  | 0, _ => x_tm 96 (by decide +kernel) rfl
  | 1, _ => x_tm 97 (by decide +kernel) rfl
  | 2, _ => x_tm 98 (by decide +kernel) rfl
  | 3, _ => x_tm 99 (by decide +kernel) rfl
  | n + 4, hk => absurd hk (by omega)
set_option maxRecDepth 20000 in
theorem x_c3 : x_cf x_cts x_ct x_fk x_ty x_Ts 3 := by
  refine ⟨rfl, by decide, fun w hw => ?_, (by decide +kernel : ∀ k, k < 4 → parseFieldDescriptor (x_T3 k).2.2.1 = some (x_ty 3 k)), (by decide +kernel : ∀ i, i < 4 → ∀ j, j < 4 → i ≠ j → (x_T3 i).2.1 ≠ (x_T3 j).2.1), fun k hk => ?_⟩
  · obtain ⟨k, hk, rfl⟩ := List.mem_map.mp hw
    exact x_w3 k (List.mem_range.mp hk)
  · have hk : k < 4 := hk
    match k, hk with
    | 0, _ => exact Or.inr (Or.inr ⟨rfl, Or.inl ⟨_, rfl⟩⟩)
    | 1, _ => exact Or.inl ⟨rfl, Or.inl rfl⟩
    | 2, _ => exact Or.inl ⟨rfl, Or.inl rfl⟩
    | 3, _ => exact Or.inl ⟨rfl, Or.inl rfl⟩
    | n + 4, hk => exact absurd hk (by omega)
theorem x_w4 : ∀ k, k < 13 → u_lay x_R4 x_T4 k ∈ x_Ts := fun k hk => match k, hk with
  | 0, _ => x_tm 147 (by decide +kernel) rfl
  | 1, _ => x_tm 149 (by decide +kernel) rfl
  | 2, _ => x_tm 151 (by decide +kernel) rfl
  | 3, _ => x_tm 153 (by decide +kernel) rfl
  | 4, _ => x_tm 155 (by decide +kernel) rfl
  | 5, _ => x_tm 157 (by decide +kernel) rfl
  | 6, _ => x_tm 159 (by decide +kernel) rfl
  | 7, _ => x_tm 161 (by decide +kernel) rfl
  | 8, _ => x_tm 163 (by decide +kernel) rfl
  | 9, _ => x_tm 165 (by decide +kernel) rfl
  | 10, _ => x_tm 167 (by decide +kernel) rfl
  | 11, _ => x_tm 169 (by decide +kernel) rfl
  | 12, _ => x_tm 171 (by decide +kernel) rfl
  | n + 13, hk => absurd hk (by omega)
set_option maxRecDepth 20000 in
theorem x_c4 : x_cf x_cts x_ct x_fk x_ty x_Ts 4 := by
  refine ⟨rfl, by decide, fun w hw => ?_, (by decide +kernel : ∀ k, k < 13 → parseFieldDescriptor (x_T4 k).2.2.1 = some (x_ty 4 k)), (by decide +kernel : ∀ i, i < 13 → ∀ j, j < 13 → i ≠ j → (x_T4 i).2.1 ≠ (x_T4 j).2.1), fun k hk => ?_⟩
  · obtain ⟨k, hk, rfl⟩ := List.mem_map.mp hw
    exact x_w4 k (List.mem_range.mp hk)
  · have hk : k < 13 := hk
    match k, hk with
    | 0, _ => exact Or.inl ⟨rfl, Or.inr rfl⟩
    | 1, _ => exact Or.inl ⟨rfl, Or.inr rfl⟩
    | 2, _ => exact Or.inl ⟨rfl, Or.inl rfl⟩
    | 3, _ => exact Or.inl ⟨rfl, Or.inl rfl⟩
    | 4, _ => exact Or.inl ⟨rfl, Or.inl rfl⟩
    | 5, _ => exact Or.inl ⟨rfl, Or.inl rfl⟩
    | 6, _ => exact Or.inr (Or.inr ⟨rfl, Or.inr ⟨_, rfl⟩⟩)
    | 7, _ => exact Or.inr (Or.inr ⟨rfl, Or.inr ⟨_, rfl⟩⟩)
    | 8, _ => exact Or.inr (Or.inr ⟨rfl, Or.inr ⟨_, rfl⟩⟩)
    | 9, _ => exact Or.inr (Or.inr ⟨rfl, Or.inr ⟨_, rfl⟩⟩)
    | 10, _ => exact Or.inr (Or.inr ⟨rfl, Or.inr ⟨_, rfl⟩⟩)
    | 11, _ => exact Or.inr (Or.inl ⟨rfl, rfl⟩)
    | 12, _ => exact Or.inr (Or.inl ⟨rfl, rfl⟩)
    | n + 13, hk => exact absurd hk (by omega)
theorem x_w5 : ∀ k, k < 3 → u_lay x_R5 x_T5 k ∈ x_Ts := fun k hk => match k, hk with
  | 0, _ => x_tm 188 (by decide +kernel) rfl
  | 1, _ => x_tm 190 (by decide +kernel) rfl
  | 2, _ => x_tm 192 (by decide +kernel) rfl
  | n + 3, hk => absurd hk (by omega)
set_option maxRecDepth 20000 in
theorem x_c5 : x_cf x_cts x_ct x_fk x_ty x_Ts 5 := by
  refine ⟨rfl, by decide, fun w hw => ?_, (by decide +kernel : ∀ k, k < 3 → parseFieldDescriptor (x_T5 k).2.2.1 = some (x_ty 5 k)), (by decide +kernel : ∀ i, i < 3 → ∀ j, j < 3 → i ≠ j → (x_T5 i).2.1 ≠ (x_T5 j).2.1), fun k hk => ?_⟩
  · obtain ⟨k, hk, rfl⟩ := List.mem_map.mp hw
    exact x_w5 k (List.mem_range.mp hk)
  · have hk : k < 3 := hk
    match k, hk with
    | 0, _ => exact Or.inr (Or.inr ⟨rfl, Or.inr ⟨_, rfl⟩⟩)
    | 1, _ => exact Or.inl ⟨rfl, Or.inl rfl⟩
    | 2, _ => exact Or.inl ⟨rfl, Or.inl rfl⟩
    | n + 3, hk => exact absurd hk (by omega)
theorem x_w6 : ∀ k, k < 10 → u_lay x_R6 x_T6 k ∈ x_Ts := fun k hk => match k, hk with
  | 0, _ => x_tm 223 (by decide +kernel) rfl
  | 1, _ => x_tm 225 (by decide +kernel) rfl
  | 2, _ => x_tm 227 (by decide +kernel) rfl
  | 3, _ => x_tm 229 (by decide +kernel) rfl
  | 4, _ => x_tm 231 (by decide +kernel) rfl
  | 5, _ => x_tm 233 (by decide +kernel) rfl
  | 6, _ => x_tm 235 (by decide +kernel) rfl
  | 7, _ => x_tm 237 (by decide +kernel) rfl
  | 8, _ => x_tm 239 (by decide +kernel) rfl
  | 9, _ => x_tm 241 (by decide +kernel) rfl
  | n + 10, hk => absurd hk (by omega)
set_option maxRecDepth 20000 in
theorem x_c6 : x_cf x_cts x_ct x_fk x_ty x_Ts 6 := by
  refine ⟨rfl, by decide, fun w hw => ?_, (by decide +kernel : ∀ k, k < 10 → parseFieldDescriptor (x_T6 k).2.2.1 = some (x_ty 6 k)), (by decide +kernel : ∀ i, i < 10 → ∀ j, j < 10 → i ≠ j → (x_T6 i).2.1 ≠ (x_T6 j).2.1), fun k hk => ?_⟩
  · obtain ⟨k, hk, rfl⟩ := List.mem_map.mp hw
    exact x_w6 k (List.mem_range.mp hk)
  · have hk : k < 10 := hk
    match k, hk with
    | 0, _ => exact Or.inr (Or.inr ⟨rfl, Or.inl ⟨_, rfl⟩⟩)
    | 1, _ => exact Or.inr (Or.inl ⟨rfl, rfl⟩)
    | 2, _ => exact Or.inl ⟨rfl, Or.inl rfl⟩
    | 3, _ => exact Or.inl ⟨rfl, Or.inl rfl⟩
    | 4, _ => exact Or.inr (Or.inr ⟨rfl, Or.inr ⟨_, rfl⟩⟩)
    | 5, _ => exact Or.inr (Or.inr ⟨rfl, Or.inr ⟨_, rfl⟩⟩)
    | 6, _ => exact Or.inl ⟨rfl, Or.inl rfl⟩
    | 7, _ => exact Or.inl ⟨rfl, Or.inl rfl⟩
    | 8, _ => exact Or.inl ⟨rfl, Or.inl rfl⟩
    | 9, _ => exact Or.inl ⟨rfl, Or.inl rfl⟩
    | n + 10, hk => exact absurd hk (by omega)
theorem x_w7 : ∀ k, k < 10 → u_lay x_R7 x_T7 k ∈ x_Ts := fun k hk => match k, hk with
  | 0, _ => x_tm 254 (by decide +kernel) rfl
  | 1, _ => x_tm 256 (by decide +kernel) rfl
  | 2, _ => x_tm 258 (by decide +kernel) rfl
  | 3, _ => x_tm 260 (by decide +kernel) rfl
  | 4, _ => x_tm 262 (by decide +kernel) rfl
  | 5, _ => x_tm 264 (by decide +kernel) rfl
  | 6, _ => x_tm 266 (by decide +kernel) rfl
  | 7, _ => x_tm 268 (by decide +kernel) rfl
  | 8, _ => x_tm 270 (by decide +kernel) rfl
  | 9, _ => x_tm 272 (by decide +kernel) rfl
  | n + 10, hk => absurd hk (by omega)
set_option maxRecDepth 20000 in
theorem x_c7 : x_cf x_cts x_ct x_fk x_ty x_Ts 7 := by
  refine ⟨rfl, by decide, fun w hw => ?_, (by decide +kernel : ∀ k, k < 10 → parseFieldDescriptor (x_T7 k).2.2.1 = some (x_ty 7 k)), (by decide +kernel : ∀ i, i < 10 → ∀ j, j < 10 → i ≠ j → (x_T7 i).2.1 ≠ (x_T7 j).2.1), fun k hk => ?_⟩
  · obtain ⟨k, hk, rfl⟩ := List.mem_map.mp hw
    exact x_w7 k (List.mem_range.mp hk)
  · have hk : k < 10 := hk
    match k, hk with
    | 0, _ => exact Or.inr (Or.inr ⟨rfl, Or.inl ⟨_, rfl⟩⟩)
    | 1, _ => exact Or.inr (Or.inr ⟨rfl, Or.inl ⟨_, rfl⟩⟩)
    | 2, _ => exact Or.inr (Or.inl ⟨rfl, rfl⟩)
    | 3, _ => exact Or.inr (Or.inl ⟨rfl, rfl⟩)
    | 4, _ => exact Or.inl ⟨rfl, Or.inl rfl⟩
    | 5, _ => exact Or.inr (Or.inr ⟨rfl, Or.inl ⟨_, rfl⟩⟩)
    | 6, _ => exact Or.inr (Or.inr ⟨rfl, Or.inr ⟨_, rfl⟩⟩)
    | 7, _ => exact Or.inr (Or.inr ⟨rfl, Or.inr ⟨_, rfl⟩⟩)
    | 8, _ => exact Or.inr (Or.inr ⟨rfl, Or.inr ⟨_, rfl⟩⟩)
    | 9, _ => exact Or.inr (Or.inr ⟨rfl, Or.inr ⟨_, rfl⟩⟩)
    | n + 10, hk => exact absurd hk (by omega)
theorem x_w8 : ∀ k, k < 12 → u_lay x_R8 x_T8 k ∈ x_Ts := fun k hk => match k, hk with
  | 0, _ => x_tm 293 (by decide +kernel) rfl
  | 1, _ => x_tm 295 (by decide +kernel) rfl
  | 2, _ => x_tm 297 (by decide +kernel) rfl
  | 3, _ => x_tm 299 (by decide +kernel) rfl
  | 4, _ => x_tm 301 (by decide +kernel) rfl
  | 5, _ => x_tm 303 (by decide +kernel) rfl
  | 6, _ => x_tm 305 (by decide +kernel) rfl
  | 7, _ => x_tm 307 (by decide +kernel) rfl
  | 8, _ => x_tm 309 (by decide +kernel) rfl
  | 9, _ => x_tm 311 (by decide +kernel) rfl
  | 10, _ => x_tm 313 (by decide +kernel) rfl
  | 11, _ => x_tm 315 (by decide +kernel) rfl
  | n + 12, hk => absurd hk (by omega)
set_option maxRecDepth 20000 in
theorem x_c8 : x_cf x_cts x_ct x_fk x_ty x_Ts 8 := by
  refine ⟨rfl, by decide, fun w hw => ?_, (by decide +kernel : ∀ k, k < 12 → parseFieldDescriptor (x_T8 k).2.2.1 = some (x_ty 8 k)), (by decide +kernel : ∀ i, i < 12 → ∀ j, j < 12 → i ≠ j → (x_T8 i).2.1 ≠ (x_T8 j).2.1), fun k hk => ?_⟩
  · obtain ⟨k, hk, rfl⟩ := List.mem_map.mp hw
    exact x_w8 k (List.mem_range.mp hk)
  · have hk : k < 12 := hk
    match k, hk with
    | 0, _ => exact Or.inr (Or.inr ⟨rfl, Or.inr ⟨_, rfl⟩⟩)
    | 1, _ => exact Or.inr (Or.inr ⟨rfl, Or.inr ⟨_, rfl⟩⟩)
    | 2, _ => exact Or.inr (Or.inr ⟨rfl, Or.inr ⟨_, rfl⟩⟩)
    | 3, _ => exact Or.inr (Or.inr ⟨rfl, Or.inr ⟨_, rfl⟩⟩)
    | 4, _ => exact Or.inl ⟨rfl, Or.inl rfl⟩
    | 5, _ => exact Or.inl ⟨rfl, Or.inl rfl⟩
    | 6, _ => exact Or.inl ⟨rfl, Or.inl rfl⟩
    | 7, _ => exact Or.inr (Or.inr ⟨rfl, Or.inl ⟨_, rfl⟩⟩)
    | 8, _ => exact Or.inl ⟨rfl, Or.inl rfl⟩
    | 9, _ => exact Or.inl ⟨rfl, Or.inl rfl⟩
    | 10, _ => exact Or.inl ⟨rfl, Or.inl rfl⟩
    | 11, _ => exact Or.inl ⟨rfl, Or.inr rfl⟩
    | n + 12, hk => exact absurd hk (by omega)
theorem x_w9 : ∀ k, k < 56 → u_lay x_R9 x_T9 k ∈ x_Ts := fun k hk => match k, hk with
  | 0, _ => x_tm 974 (by decide +kernel) rfl
  | 1, _ => x_tm 976 (by decide +kernel) rfl
  | 2, _ => x_tm 978 (by decide +kernel) rfl
  | 3, _ => x_tm 980 (by decide +kernel) rfl
  | 4, _ => x_tm 982 (by decide +kernel) rfl
  | 5, _ => x_tm 984 (by decide +kernel) rfl
  | 6, _ => x_tm 986 (by decide +kernel) rfl
  | 7, _ => x_tm 988 (by decide +kernel) rfl
  | 8, _ => x_tm 990 (by decide +kernel) rfl
  | 9, _ => x_tm 992 (by decide +kernel) rfl
  | 10, _ => x_tm 994 (by decide +kernel) rfl
  | 11, _ => x_tm 996 (by decide +kernel) rfl
  | 12, _ => x_tm 998 (by decide +kernel) rfl
  | 13, _ => x_tm 1000 (by decide +kernel) rfl
  | 14, _ => x_tm 1002 (by decide +kernel) rfl
  | 15, _ => x_tm 1004 (by decide +kernel) rfl
  | 16, _ => x_tm 1006 (by decide +kernel) rfl
  | 17, _ => x_tm 1008 (by decide +kernel) rfl
  | 18, _ => x_tm 1010 (by decide +kernel) rfl
  | 19, _ => x_tm 1012 (by decide +kernel) rfl
  | 20, _ => x_tm 1014 (by decide +kernel) rfl
  | 21, _ => x_tm 1016 (by decide +kernel) rfl
  | 22, _ => x_tm 1018 (by decide +kernel) rfl
  | 23, _ => x_tm 1020 (by decide +kernel) rfl
  | 24, _ => x_tm 1022 (by decide +kernel) rfl
  | 25, _ => x_tm 1024 (by decide +kernel) rfl
  | 26, _ => x_tm 1026 (by decide +kernel) rfl
  | 27, _ => x_tm 1028 (by decide +kernel) rfl
  | 28, _ => x_tm 1030 (by decide +kernel) rfl
  | 29, _ => x_tm 1032 (by decide +kernel) rfl
  | 30, _ => x_tm 1034 (by decide +kernel) rfl
  | 31, _ => x_tm 1036 (by decide +kernel) rfl
  | 32, _ => x_tm 1038 (by decide +kernel) rfl
  | 33, _ => x_tm 1040 (by decide +kernel) rfl
  | 34, _ => x_tm 1042 (by decide +kernel) rfl
  | 35, _ => x_tm 1044 (by decide +kernel) rfl
  | 36, _ => x_tm 1046 (by decide +kernel) rfl
  | 37, _ => x_tm 1048 (by decide +kernel) rfl
  | 38, _ => x_tm 1050 (by decide +kernel) rfl
  | 39, _ => x_tm 1052 (by decide +kernel) rfl
  | 40, _ => x_tm 1054 (by decide +kernel) rfl
  | 41, _ => x_tm 1056 (by decide +kernel) rfl
  | 42, _ => x_tm 1058 (by decide +kernel) rfl
  | 43, _ => x_tm 1060 (by decide +kernel) rfl
  | 44, _ => x_tm 1062 (by decide +kernel) rfl
  | 45, _ => x_tm 1064 (by decide +kernel) rfl
  | 46, _ => x_tm 1066 (by decide +kernel) rfl
  | 47, _ => x_tm 1068 (by decide +kernel) rfl
  | 48, _ => x_tm 1070 (by decide +kernel) rfl
  | 49, _ => x_tm 1072 (by decide +kernel) rfl
  | 50, _ => x_tm 1074 (by decide +kernel) rfl
  | 51, _ => x_tm 1076 (by decide +kernel) rfl
  | 52, _ => x_tm 1078 (by decide +kernel) rfl
  | 53, _ => x_tm 1080 (by decide +kernel) rfl
  | 54, _ => x_tm 1082 (by decide +kernel) rfl
  | 55, _ => x_tm 1084 (by decide +kernel) rfl
  | n + 56, hk => absurd hk (by omega)
set_option maxRecDepth 20000 in
theorem x_c9 : x_cf x_cts x_ct x_fk x_ty x_Ts 9 := by
  refine ⟨rfl, by decide, fun w hw => ?_, (by decide +kernel : ∀ k, k < 56 → parseFieldDescriptor (x_T9 k).2.2.1 = some (x_ty 9 k)), (by decide +kernel : ∀ i, i < 56 → ∀ j, j < 56 → i ≠ j → (x_T9 i).2.1 ≠ (x_T9 j).2.1), fun k hk => ?_⟩
  · obtain ⟨k, hk, rfl⟩ := List.mem_map.mp hw
    exact x_w9 k (List.mem_range.mp hk)
  · have hk : k < 56 := hk
    match k, hk with
    | 0, _ => exact Or.inl ⟨rfl, Or.inl rfl⟩
    | 1, _ => exact Or.inl ⟨rfl, Or.inl rfl⟩
    | 2, _ => exact Or.inr (Or.inr ⟨rfl, Or.inr ⟨_, rfl⟩⟩)
    | 3, _ => exact Or.inl ⟨rfl, Or.inl rfl⟩
    | 4, _ => exact Or.inl ⟨rfl, Or.inr rfl⟩
    | 5, _ => exact Or.inl ⟨rfl, Or.inl rfl⟩
    | 6, _ => exact Or.inl ⟨rfl, Or.inl rfl⟩
    | 7, _ => exact Or.inl ⟨rfl, Or.inl rfl⟩
    | 8, _ => exact Or.inr (Or.inr ⟨rfl, Or.inr ⟨_, rfl⟩⟩)
    | 9, _ => exact Or.inr (Or.inr ⟨rfl, Or.inr ⟨_, rfl⟩⟩)
    | 10, _ => exact Or.inl ⟨rfl, Or.inr rfl⟩
    | 11, _ => exact Or.inl ⟨rfl, Or.inl rfl⟩
    | 12, _ => exact Or.inr (Or.inr ⟨rfl, Or.inr ⟨_, rfl⟩⟩)
    | 13, _ => exact Or.inr (Or.inr ⟨rfl, Or.inr ⟨_, rfl⟩⟩)
    | 14, _ => exact Or.inr (Or.inr ⟨rfl, Or.inr ⟨_, rfl⟩⟩)
    | 15, _ => exact Or.inr (Or.inr ⟨rfl, Or.inr ⟨_, rfl⟩⟩)
    | 16, _ => exact Or.inl ⟨rfl, Or.inl rfl⟩
    | 17, _ => exact Or.inl ⟨rfl, Or.inl rfl⟩
    | 18, _ => exact Or.inl ⟨rfl, Or.inl rfl⟩
    | 19, _ => exact Or.inl ⟨rfl, Or.inr rfl⟩
    | 20, _ => exact Or.inl ⟨rfl, Or.inl rfl⟩
    | 21, _ => exact Or.inr (Or.inr ⟨rfl, Or.inr ⟨_, rfl⟩⟩)
    | 22, _ => exact Or.inr (Or.inr ⟨rfl, Or.inr ⟨_, rfl⟩⟩)
    | 23, _ => exact Or.inr (Or.inr ⟨rfl, Or.inr ⟨_, rfl⟩⟩)
    | 24, _ => exact Or.inl ⟨rfl, Or.inl rfl⟩
    | 25, _ => exact Or.inr (Or.inr ⟨rfl, Or.inr ⟨_, rfl⟩⟩)
    | 26, _ => exact Or.inl ⟨rfl, Or.inl rfl⟩
    | 27, _ => exact Or.inr (Or.inr ⟨rfl, Or.inr ⟨_, rfl⟩⟩)
    | 28, _ => exact Or.inr (Or.inr ⟨rfl, Or.inr ⟨_, rfl⟩⟩)
    | 29, _ => exact Or.inr (Or.inr ⟨rfl, Or.inr ⟨_, rfl⟩⟩)
    | 30, _ => exact Or.inr (Or.inr ⟨rfl, Or.inr ⟨_, rfl⟩⟩)
    | 31, _ => exact Or.inr (Or.inr ⟨rfl, Or.inr ⟨_, rfl⟩⟩)
    | 32, _ => exact Or.inl ⟨rfl, Or.inl rfl⟩
    | 33, _ => exact Or.inl ⟨rfl, Or.inl rfl⟩
    | 34, _ => exact Or.inl ⟨rfl, Or.inl rfl⟩
    | 35, _ => exact Or.inr (Or.inr ⟨rfl, Or.inr ⟨_, rfl⟩⟩)
    | 36, _ => exact Or.inr (Or.inr ⟨rfl, Or.inr ⟨_, rfl⟩⟩)
    | 37, _ => exact Or.inr (Or.inr ⟨rfl, Or.inr ⟨_, rfl⟩⟩)
    | 38, _ => exact Or.inr (Or.inr ⟨rfl, Or.inr ⟨_, rfl⟩⟩)
    | 39, _ => exact Or.inl ⟨rfl, Or.inl rfl⟩
    | 40, _ => exact Or.inr (Or.inr ⟨rfl, Or.inr ⟨_, rfl⟩⟩)
    | 41, _ => exact Or.inr (Or.inr ⟨rfl, Or.inr ⟨_, rfl⟩⟩)
    | 42, _ => exact Or.inr (Or.inr ⟨rfl, Or.inr ⟨_, rfl⟩⟩)
    | 43, _ => exact Or.inl ⟨rfl, Or.inl rfl⟩
    | 44, _ => exact Or.inr (Or.inr ⟨rfl, Or.inr ⟨_, rfl⟩⟩)
    | 45, _ => exact Or.inr (Or.inr ⟨rfl, Or.inr ⟨_, rfl⟩⟩)
    | 46, _ => exact Or.inr (Or.inr ⟨rfl, Or.inr ⟨_, rfl⟩⟩)
    | 47, _ => exact Or.inr (Or.inr ⟨rfl, Or.inr ⟨_, rfl⟩⟩)
    | 48, _ => exact Or.inr (Or.inr ⟨rfl, Or.inr ⟨_, rfl⟩⟩)
    | 49, _ => exact Or.inr (Or.inr ⟨rfl, Or.inr ⟨_, rfl⟩⟩)
    | 50, _ => exact Or.inl ⟨rfl, Or.inl rfl⟩
    | 51, _ => exact Or.inr (Or.inr ⟨rfl, Or.inr ⟨_, rfl⟩⟩)
    | 52, _ => exact Or.inr (Or.inr ⟨rfl, Or.inr ⟨_, rfl⟩⟩)
    | 53, _ => exact Or.inr (Or.inr ⟨rfl, Or.inr ⟨_, rfl⟩⟩)
    | 54, _ => exact Or.inr (Or.inr ⟨rfl, Or.inr ⟨_, rfl⟩⟩)
    | 55, _ => exact Or.inr (Or.inr ⟨rfl, Or.inr ⟨_, rfl⟩⟩)
    | n + 56, hk => exact absurd hk (by omega)
theorem x_f0_0 : x_fl x_ct x_Ts "StreamRefuter" 10 0 0 := ⟨by decide, "StreamRefuter", x_tm 319 (by decide +kernel) rfl, Or.inl rfl⟩
theorem x_f1_0 : x_fl x_ct x_Ts "StreamRefuter" 21 0 1 := ⟨by decide, "StreamRefuter", x_tm 320 (by decide +kernel) rfl, Or.inl rfl⟩
theorem x_f2_0 : x_fl x_ct x_Ts "StreamRefuter" 28 0 2 := ⟨by decide, "StreamRefuter", x_tm 321 (by decide +kernel) rfl, Or.inl rfl⟩
theorem x_f3_0 : x_fl x_ct x_Ts "StreamRefuter" 35 0 5 := ⟨by decide, "StreamRefuter", x_tm 324 (by decide +kernel) rfl, Or.inl rfl⟩
theorem x_f4_0 : x_fl x_ct x_Ts "StreamRefuter" 39 0 6 := ⟨by decide, "StreamRefuter", x_tm 325 (by decide +kernel) rfl, Or.inl rfl⟩
theorem x_f5_0 : x_fl x_ct x_Ts "StreamRefuter" 45 0 7 := ⟨by decide, "StreamRefuter", x_tm 326 (by decide +kernel) rfl, Or.inl rfl⟩
theorem x_f6_0 : x_fl x_ct x_Ts "StreamRefuter" 49 0 8 := ⟨by decide, "StreamRefuter", x_tm 327 (by decide +kernel) rfl, Or.inl rfl⟩
theorem x_f7_0 : x_fl x_ct x_Ts "StreamRefuter" 57 0 3 := ⟨by decide, "StreamRefuter", x_tm 322 (by decide +kernel) rfl, Or.inl rfl⟩
theorem x_f8_0 : x_fl x_ct x_Ts "StreamRefuter" 66 0 4 := ⟨by decide, "StreamRefuter", x_tm 323 (by decide +kernel) rfl, Or.inl rfl⟩
theorem x_f9_0 : x_fl x_ct x_Ts "StreamRefuter" 70 0 9 := ⟨by decide, "StreamRefuter", x_tm 328 (by decide +kernel) rfl, Or.inl rfl⟩
theorem x_f10_0 : x_fl x_ct x_Ts "StreamRefuter$Text" 9 1 0 := ⟨by decide, "StreamRefuter$Text", x_tm 38 (by decide +kernel) rfl, Or.inl rfl⟩
theorem x_f11_0 : x_fl x_ct x_Ts "StreamRefuter$Text" 15 1 1 := ⟨by decide, "StreamRefuter$Text", x_tm 39 (by decide +kernel) rfl, Or.inl rfl⟩
theorem x_f12_0 : x_fl x_ct x_Ts "StreamRefuter$Numbers" 9 2 1 := ⟨by decide, "StreamRefuter$Numbers", x_tm 60 (by decide +kernel) rfl, Or.inl rfl⟩
theorem x_f12_1 : x_fl x_ct x_Ts "StreamRefuter$Numbers" 9 3 1 := ⟨by decide, "StreamRefuter$Numbers", x_tm 60 (by decide +kernel) rfl, Or.inl rfl⟩
theorem x_f13_0 : x_fl x_ct x_Ts "StreamRefuter$Numbers" 15 2 2 := ⟨by decide, "StreamRefuter$Numbers", x_tm 65 (by decide +kernel) rfl, Or.inl rfl⟩
theorem x_f13_1 : x_fl x_ct x_Ts "StreamRefuter$Numbers" 15 3 2 := ⟨by decide, "StreamRefuter$Numbers", x_tm 65 (by decide +kernel) rfl, Or.inl rfl⟩
theorem x_f14_0 : x_fl x_ct x_Ts "StreamRefuter$Numbers" 18 2 3 := ⟨by decide, "StreamRefuter$Numbers", x_tm 73 (by decide +kernel) rfl, Or.inl rfl⟩
theorem x_f14_1 : x_fl x_ct x_Ts "StreamRefuter$Numbers" 18 3 3 := ⟨by decide, "StreamRefuter$Numbers", x_tm 73 (by decide +kernel) rfl, Or.inl rfl⟩
theorem x_f15_0 : x_fl x_ct x_Ts "StreamRefuter$Numbers" 21 2 0 := ⟨by decide, "StreamRefuter$Numbers", x_tm 55 (by decide +kernel) rfl, Or.inl rfl⟩
theorem x_f15_1 : x_fl x_ct x_Ts "StreamRefuter$Numbers" 21 3 0 := ⟨by decide, "StreamRefuter$Numbers", x_tm 55 (by decide +kernel) rfl, Or.inl rfl⟩
theorem x_f16_0 : x_fl x_ct x_Ts "StreamRefuter$Problem" 9 4 0 := ⟨by decide, "StreamRefuter$Problem", x_tm 107 (by decide +kernel) rfl, Or.inl rfl⟩
theorem x_f17_0 : x_fl x_ct x_Ts "StreamRefuter$Problem" 15 4 1 := ⟨by decide, "StreamRefuter$Problem", x_tm 109 (by decide +kernel) rfl, Or.inl rfl⟩
theorem x_f18_0 : x_fl x_ct x_Ts "StreamRefuter$Problem" 18 4 2 := ⟨by decide, "StreamRefuter$Problem", x_tm 111 (by decide +kernel) rfl, Or.inl rfl⟩
theorem x_f19_0 : x_fl x_ct x_Ts "StreamRefuter$Problem" 22 4 3 := ⟨by decide, "StreamRefuter$Problem", x_tm 113 (by decide +kernel) rfl, Or.inl rfl⟩
theorem x_f20_0 : x_fl x_ct x_Ts "StreamRefuter$Problem" 25 4 4 := ⟨by decide, "StreamRefuter$Problem", x_tm 117 (by decide +kernel) rfl, Or.inl rfl⟩
theorem x_f21_0 : x_fl x_ct x_Ts "StreamRefuter$Problem" 28 4 5 := ⟨by decide, "StreamRefuter$Problem", x_tm 121 (by decide +kernel) rfl, Or.inl rfl⟩
theorem x_f22_0 : x_fl x_ct x_Ts "StreamRefuter$Problem" 31 4 6 := ⟨by decide, "StreamRefuter$Problem", x_tm 124 (by decide +kernel) rfl, Or.inl rfl⟩
theorem x_f23_0 : x_fl x_ct x_Ts "StreamRefuter$Problem" 35 4 7 := ⟨by decide, "StreamRefuter$Problem", x_tm 128 (by decide +kernel) rfl, Or.inl rfl⟩
theorem x_f24_0 : x_fl x_ct x_Ts "StreamRefuter$Problem" 38 4 8 := ⟨by decide, "StreamRefuter$Problem", x_tm 132 (by decide +kernel) rfl, Or.inl rfl⟩
theorem x_f25_0 : x_fl x_ct x_Ts "StreamRefuter$Problem" 41 4 9 := ⟨by decide, "StreamRefuter$Problem", x_tm 136 (by decide +kernel) rfl, Or.inl rfl⟩
theorem x_f26_0 : x_fl x_ct x_Ts "StreamRefuter$Problem" 44 4 10 := ⟨by decide, "StreamRefuter$Problem", x_tm 139 (by decide +kernel) rfl, Or.inl rfl⟩
theorem x_f27_0 : x_fl x_ct x_Ts "StreamRefuter$Problem" 48 4 11 := ⟨by decide, "StreamRefuter$Problem", x_tm 141 (by decide +kernel) rfl, Or.inl rfl⟩
theorem x_f28_0 : x_fl x_ct x_Ts "StreamRefuter$Problem" 52 4 12 := ⟨by decide, "StreamRefuter$Problem", x_tm 144 (by decide +kernel) rfl, Or.inl rfl⟩
theorem x_f29_0 : x_fl x_ct x_Ts "StreamRefuter$Tokens" 9 5 0 := ⟨by decide, "StreamRefuter$Tokens", x_tm 181 (by decide +kernel) rfl, Or.inl rfl⟩
theorem x_f30_0 : x_fl x_ct x_Ts "StreamRefuter$Tokens" 15 5 1 := ⟨by decide, "StreamRefuter$Tokens", x_tm 182 (by decide +kernel) rfl, Or.inl rfl⟩
theorem x_f31_0 : x_fl x_ct x_Ts "StreamRefuter$Tokens" 19 5 2 := ⟨by decide, "StreamRefuter$Tokens", x_tm 186 (by decide +kernel) rfl, Or.inl rfl⟩
theorem x_f32_0 : x_fl x_ct x_Ts "StreamRefuter$Refuter" 9 7 2 := ⟨by decide, "StreamRefuter$Refuter", x_tm 246 (by decide +kernel) rfl, Or.inl rfl⟩
theorem x_f33_0 : x_fl x_ct x_Ts "StreamRefuter$Refuter" 15 7 3 := ⟨by decide, "StreamRefuter$Refuter", x_tm 247 (by decide +kernel) rfl, Or.inl rfl⟩
theorem x_f34_0 : x_fl x_ct x_Ts "StreamRefuter$Refuter" 18 7 4 := ⟨by decide, "StreamRefuter$Refuter", x_tm 248 (by decide +kernel) rfl, Or.inl rfl⟩
theorem x_f35_0 : x_fl x_ct x_Ts "StreamRefuter$Refuter" 25 7 5 := ⟨by decide, "StreamRefuter$Refuter", x_tm 249 (by decide +kernel) rfl, Or.inl rfl⟩
theorem x_f36_0 : x_fl x_ct x_Ts "StreamRefuter$Refuter" 29 7 6 := ⟨by decide, "StreamRefuter$Refuter", x_tm 250 (by decide +kernel) rfl, Or.inl rfl⟩
theorem x_f37_0 : x_fl x_ct x_Ts "StreamRefuter$Refuter" 33 7 7 := ⟨by decide, "StreamRefuter$Refuter", x_tm 251 (by decide +kernel) rfl, Or.inl rfl⟩
theorem x_f38_0 : x_fl x_ct x_Ts "StreamRefuter$Refuter" 36 7 8 := ⟨by decide, "StreamRefuter$Refuter", x_tm 252 (by decide +kernel) rfl, Or.inl rfl⟩
theorem x_f39_0 : x_fl x_ct x_Ts "StreamRefuter$Refuter" 39 7 9 := ⟨by decide, "StreamRefuter$Refuter", x_tm 253 (by decide +kernel) rfl, Or.inl rfl⟩
theorem x_f40_0 : x_fl x_ct x_Ts "StreamRefuter$Refuter" 43 7 1 := ⟨by decide, "StreamRefuter$Refuter", x_tm 245 (by decide +kernel) rfl, Or.inl rfl⟩
theorem x_f41_0 : x_fl x_ct x_Ts "StreamRefuter$Refuter" 52 7 0 := ⟨by decide, "StreamRefuter$Refuter", x_tm 244 (by decide +kernel) rfl, Or.inl rfl⟩
theorem x_f42_0 : x_fl x_ct x_Ts "StreamRefuter$Propagation" 9 6 1 := ⟨by decide, "StreamRefuter$Propagation", x_tm 210 (by decide +kernel) rfl, Or.inl rfl⟩
theorem x_f43_0 : x_fl x_ct x_Ts "StreamRefuter$Propagation" 15 6 2 := ⟨by decide, "StreamRefuter$Propagation", x_tm 211 (by decide +kernel) rfl, Or.inl rfl⟩
theorem x_f44_0 : x_fl x_ct x_Ts "StreamRefuter$Propagation" 19 6 3 := ⟨by decide, "StreamRefuter$Propagation", x_tm 212 (by decide +kernel) rfl, Or.inl rfl⟩
theorem x_f45_0 : x_fl x_ct x_Ts "StreamRefuter$Propagation" 22 6 4 := ⟨by decide, "StreamRefuter$Propagation", x_tm 213 (by decide +kernel) rfl, Or.inl rfl⟩
theorem x_f46_0 : x_fl x_ct x_Ts "StreamRefuter$Propagation" 26 6 5 := ⟨by decide, "StreamRefuter$Propagation", x_tm 215 (by decide +kernel) rfl, Or.inl rfl⟩
theorem x_f47_0 : x_fl x_ct x_Ts "StreamRefuter$Propagation" 29 6 6 := ⟨by decide, "StreamRefuter$Propagation", x_tm 216 (by decide +kernel) rfl, Or.inl rfl⟩
theorem x_f48_0 : x_fl x_ct x_Ts "StreamRefuter$Propagation" 32 6 7 := ⟨by decide, "StreamRefuter$Propagation", x_tm 217 (by decide +kernel) rfl, Or.inl rfl⟩
theorem x_f49_0 : x_fl x_ct x_Ts "StreamRefuter$Propagation" 35 6 8 := ⟨by decide, "StreamRefuter$Propagation", x_tm 219 (by decide +kernel) rfl, Or.inl rfl⟩
theorem x_f50_0 : x_fl x_ct x_Ts "StreamRefuter$Propagation" 38 6 9 := ⟨by decide, "StreamRefuter$Propagation", x_tm 221 (by decide +kernel) rfl, Or.inl rfl⟩
theorem x_f51_0 : x_fl x_ct x_Ts "StreamRefuter$Propagation" 41 6 0 := ⟨by decide, "StreamRefuter$Propagation", x_tm 209 (by decide +kernel) rfl, Or.inl rfl⟩
theorem x_f52_0 : x_fl x_ct x_Ts "StreamRefuter$Judge" 11 8 0 := ⟨by decide, "StreamRefuter$Judge", x_tm 281 (by decide +kernel) rfl, Or.inl rfl⟩
theorem x_f53_0 : x_fl x_ct x_Ts "StreamRefuter$Judge" 15 8 1 := ⟨by decide, "StreamRefuter$Judge", x_tm 282 (by decide +kernel) rfl, Or.inl rfl⟩
theorem x_f54_0 : x_fl x_ct x_Ts "StreamRefuter$Judge" 18 8 2 := ⟨by decide, "StreamRefuter$Judge", x_tm 283 (by decide +kernel) rfl, Or.inl rfl⟩
theorem x_f55_0 : x_fl x_ct x_Ts "StreamRefuter$Judge" 22 8 3 := ⟨by decide, "StreamRefuter$Judge", x_tm 284 (by decide +kernel) rfl, Or.inl rfl⟩
theorem x_f56_0 : x_fl x_ct x_Ts "StreamRefuter$Judge" 25 8 4 := ⟨by decide, "StreamRefuter$Judge", x_tm 285 (by decide +kernel) rfl, Or.inl rfl⟩
theorem x_f57_0 : x_fl x_ct x_Ts "StreamRefuter$Judge" 29 8 5 := ⟨by decide, "StreamRefuter$Judge", x_tm 286 (by decide +kernel) rfl, Or.inl rfl⟩
theorem x_f58_0 : x_fl x_ct x_Ts "StreamRefuter$Judge" 32 8 6 := ⟨by decide, "StreamRefuter$Judge", x_tm 287 (by decide +kernel) rfl, Or.inl rfl⟩
theorem x_f59_0 : x_fl x_ct x_Ts "StreamRefuter$Judge" 35 8 8 := ⟨by decide, "StreamRefuter$Judge", x_tm 289 (by decide +kernel) rfl, Or.inl rfl⟩
theorem x_f60_0 : x_fl x_ct x_Ts "StreamRefuter$Judge" 38 8 9 := ⟨by decide, "StreamRefuter$Judge", x_tm 290 (by decide +kernel) rfl, Or.inl rfl⟩
theorem x_f61_0 : x_fl x_ct x_Ts "StreamRefuter$Judge" 41 8 10 := ⟨by decide, "StreamRefuter$Judge", x_tm 291 (by decide +kernel) rfl, Or.inl rfl⟩
theorem x_f62_0 : x_fl x_ct x_Ts "StreamRefuter$Judge" 44 8 11 := ⟨by decide, "StreamRefuter$Judge", x_tm 292 (by decide +kernel) rfl, Or.inl rfl⟩
theorem x_f63_0 : x_fl x_ct x_Ts "StreamRefuter$Judge" 48 8 7 := ⟨by decide, "StreamRefuter$Judge", x_tm 288 (by decide +kernel) rfl, Or.inl rfl⟩
theorem x_f64_0 : x_fl x_ct x_Ts "StreamRefuterModel" 7 9 2 := ⟨by decide, "StreamRefuterModel", x_tm 920 (by decide +kernel) rfl, Or.inl rfl⟩
theorem x_f65_0 : x_fl x_ct x_Ts "StreamRefuterModel" 13 9 8 := ⟨by decide, "StreamRefuterModel", x_tm 926 (by decide +kernel) rfl, Or.inl rfl⟩
theorem x_f66_0 : x_fl x_ct x_Ts "StreamRefuterModel" 16 9 9 := ⟨by decide, "StreamRefuterModel", x_tm 927 (by decide +kernel) rfl, Or.inl rfl⟩
theorem x_f67_0 : x_fl x_ct x_Ts "StreamRefuterModel" 19 9 12 := ⟨by decide, "StreamRefuterModel", x_tm 930 (by decide +kernel) rfl, Or.inl rfl⟩
theorem x_f68_0 : x_fl x_ct x_Ts "StreamRefuterModel" 23 9 13 := ⟨by decide, "StreamRefuterModel", x_tm 931 (by decide +kernel) rfl, Or.inl rfl⟩
theorem x_f69_0 : x_fl x_ct x_Ts "StreamRefuterModel" 26 9 14 := ⟨by decide, "StreamRefuterModel", x_tm 932 (by decide +kernel) rfl, Or.inl rfl⟩
theorem x_f70_0 : x_fl x_ct x_Ts "StreamRefuterModel" 29 9 15 := ⟨by decide, "StreamRefuterModel", x_tm 933 (by decide +kernel) rfl, Or.inl rfl⟩
theorem x_f71_0 : x_fl x_ct x_Ts "StreamRefuterModel" 32 9 21 := ⟨by decide, "StreamRefuterModel", x_tm 939 (by decide +kernel) rfl, Or.inl rfl⟩
theorem x_f72_0 : x_fl x_ct x_Ts "StreamRefuterModel" 35 9 22 := ⟨by decide, "StreamRefuterModel", x_tm 940 (by decide +kernel) rfl, Or.inl rfl⟩
theorem x_f73_0 : x_fl x_ct x_Ts "StreamRefuterModel" 38 9 23 := ⟨by decide, "StreamRefuterModel", x_tm 941 (by decide +kernel) rfl, Or.inl rfl⟩
theorem x_f74_0 : x_fl x_ct x_Ts "StreamRefuterModel" 41 9 25 := ⟨by decide, "StreamRefuterModel", x_tm 943 (by decide +kernel) rfl, Or.inl rfl⟩
theorem x_f75_0 : x_fl x_ct x_Ts "StreamRefuterModel" 44 9 27 := ⟨by decide, "StreamRefuterModel", x_tm 945 (by decide +kernel) rfl, Or.inl rfl⟩
theorem x_f76_0 : x_fl x_ct x_Ts "StreamRefuterModel" 47 9 28 := ⟨by decide, "StreamRefuterModel", x_tm 946 (by decide +kernel) rfl, Or.inl rfl⟩
theorem x_f77_0 : x_fl x_ct x_Ts "StreamRefuterModel" 50 9 29 := ⟨by decide, "StreamRefuterModel", x_tm 947 (by decide +kernel) rfl, Or.inl rfl⟩
theorem x_f78_0 : x_fl x_ct x_Ts "StreamRefuterModel" 53 9 30 := ⟨by decide, "StreamRefuterModel", x_tm 948 (by decide +kernel) rfl, Or.inl rfl⟩
theorem x_f79_0 : x_fl x_ct x_Ts "StreamRefuterModel" 56 9 31 := ⟨by decide, "StreamRefuterModel", x_tm 949 (by decide +kernel) rfl, Or.inl rfl⟩
theorem x_f80_0 : x_fl x_ct x_Ts "StreamRefuterModel" 59 9 35 := ⟨by decide, "StreamRefuterModel", x_tm 953 (by decide +kernel) rfl, Or.inl rfl⟩
theorem x_f81_0 : x_fl x_ct x_Ts "StreamRefuterModel" 62 9 36 := ⟨by decide, "StreamRefuterModel", x_tm 954 (by decide +kernel) rfl, Or.inl rfl⟩
theorem x_f82_0 : x_fl x_ct x_Ts "StreamRefuterModel" 65 9 37 := ⟨by decide, "StreamRefuterModel", x_tm 955 (by decide +kernel) rfl, Or.inl rfl⟩
theorem x_f83_0 : x_fl x_ct x_Ts "StreamRefuterModel" 68 9 38 := ⟨by decide, "StreamRefuterModel", x_tm 956 (by decide +kernel) rfl, Or.inl rfl⟩
theorem x_f84_0 : x_fl x_ct x_Ts "StreamRefuterModel" 71 9 40 := ⟨by decide, "StreamRefuterModel", x_tm 958 (by decide +kernel) rfl, Or.inl rfl⟩
theorem x_f85_0 : x_fl x_ct x_Ts "StreamRefuterModel" 74 9 41 := ⟨by decide, "StreamRefuterModel", x_tm 959 (by decide +kernel) rfl, Or.inl rfl⟩
theorem x_f86_0 : x_fl x_ct x_Ts "StreamRefuterModel" 77 9 42 := ⟨by decide, "StreamRefuterModel", x_tm 960 (by decide +kernel) rfl, Or.inl rfl⟩
theorem x_f87_0 : x_fl x_ct x_Ts "StreamRefuterModel" 80 9 44 := ⟨by decide, "StreamRefuterModel", x_tm 962 (by decide +kernel) rfl, Or.inl rfl⟩
theorem x_f88_0 : x_fl x_ct x_Ts "StreamRefuterModel" 83 9 45 := ⟨by decide, "StreamRefuterModel", x_tm 963 (by decide +kernel) rfl, Or.inl rfl⟩
theorem x_f89_0 : x_fl x_ct x_Ts "StreamRefuterModel" 86 9 46 := ⟨by decide, "StreamRefuterModel", x_tm 964 (by decide +kernel) rfl, Or.inl rfl⟩
theorem x_f90_0 : x_fl x_ct x_Ts "StreamRefuterModel" 89 9 47 := ⟨by decide, "StreamRefuterModel", x_tm 965 (by decide +kernel) rfl, Or.inl rfl⟩
theorem x_f91_0 : x_fl x_ct x_Ts "StreamRefuterModel" 92 9 48 := ⟨by decide, "StreamRefuterModel", x_tm 966 (by decide +kernel) rfl, Or.inl rfl⟩
theorem x_f92_0 : x_fl x_ct x_Ts "StreamRefuterModel" 95 9 49 := ⟨by decide, "StreamRefuterModel", x_tm 967 (by decide +kernel) rfl, Or.inl rfl⟩
theorem x_f93_0 : x_fl x_ct x_Ts "StreamRefuterModel" 98 9 51 := ⟨by decide, "StreamRefuterModel", x_tm 969 (by decide +kernel) rfl, Or.inl rfl⟩
theorem x_f94_0 : x_fl x_ct x_Ts "StreamRefuterModel" 101 9 52 := ⟨by decide, "StreamRefuterModel", x_tm 970 (by decide +kernel) rfl, Or.inl rfl⟩
theorem x_f95_0 : x_fl x_ct x_Ts "StreamRefuterModel" 104 9 53 := ⟨by decide, "StreamRefuterModel", x_tm 971 (by decide +kernel) rfl, Or.inl rfl⟩
theorem x_f96_0 : x_fl x_ct x_Ts "StreamRefuterModel" 107 9 54 := ⟨by decide, "StreamRefuterModel", x_tm 972 (by decide +kernel) rfl, Or.inl rfl⟩
theorem x_f97_0 : x_fl x_ct x_Ts "StreamRefuterModel" 110 9 55 := ⟨by decide, "StreamRefuterModel", x_tm 973 (by decide +kernel) rfl, Or.inl rfl⟩
theorem x_f98_0 : x_fl x_ct x_Ts "StreamRefuterModel" 113 9 0 := ⟨by decide, "StreamRefuterModel", x_tm 918 (by decide +kernel) rfl, Or.inl rfl⟩
theorem x_f99_0 : x_fl x_ct x_Ts "StreamRefuterModel" 117 9 1 := ⟨by decide, "StreamRefuterModel", x_tm 919 (by decide +kernel) rfl, Or.inl rfl⟩
theorem x_f100_0 : x_fl x_ct x_Ts "StreamRefuter" 95 4 3 := ⟨by decide, "StreamRefuter$Problem", x_tm 115 (by decide +kernel) rfl, Or.inl rfl⟩
theorem x_f101_0 : x_fl x_ct x_Ts "StreamRefuter$Problem" 72 2 2 := ⟨by decide, "StreamRefuter$Words", x_tm 68 (by decide +kernel) rfl, Or.inr (x_tm 69 (by decide +kernel) rfl)⟩
theorem x_f101_1 : x_fl x_ct x_Ts "StreamRefuter$Problem" 72 3 2 := ⟨by decide, "StreamRefuter$Words", x_tm 68 (by decide +kernel) rfl, Or.inr (x_tm 69 (by decide +kernel) rfl)⟩
theorem x_f102_0 : x_fl x_ct x_Ts "StreamRefuter$Problem" 77 2 3 := ⟨by decide, "StreamRefuter$Words", x_tm 76 (by decide +kernel) rfl, Or.inr (x_tm 77 (by decide +kernel) rfl)⟩
theorem x_f102_1 : x_fl x_ct x_Ts "StreamRefuter$Problem" 77 3 3 := ⟨by decide, "StreamRefuter$Words", x_tm 76 (by decide +kernel) rfl, Or.inr (x_tm 77 (by decide +kernel) rfl)⟩
theorem x_f103_0 : x_fl x_ct x_Ts "StreamRefuter$Words" 9 2 1 := ⟨by decide, "StreamRefuter$Words", x_tm 61 (by decide +kernel) rfl, Or.inr (x_tm 62 (by decide +kernel) rfl)⟩
theorem x_f103_1 : x_fl x_ct x_Ts "StreamRefuter$Words" 9 3 1 := ⟨by decide, "StreamRefuter$Words", x_tm 61 (by decide +kernel) rfl, Or.inr (x_tm 62 (by decide +kernel) rfl)⟩
theorem x_f104_0 : x_fl x_ct x_Ts "StreamRefuter$Words" 15 2 0 := ⟨by decide, "StreamRefuter$Words", x_tm 58 (by decide +kernel) rfl, Or.inr (x_tm 59 (by decide +kernel) rfl)⟩
theorem x_f104_1 : x_fl x_ct x_Ts "StreamRefuter$Words" 15 3 0 := ⟨by decide, "StreamRefuter$Words", x_tm 58 (by decide +kernel) rfl, Or.inr (x_tm 59 (by decide +kernel) rfl)⟩
theorem x_f105_0 : x_fl x_ct x_Ts "StreamRefuter$Words" 29 2 2 := ⟨by decide, "StreamRefuter$Words", x_tm 70 (by decide +kernel) rfl, Or.inr (x_tm 69 (by decide +kernel) rfl)⟩
theorem x_f105_1 : x_fl x_ct x_Ts "StreamRefuter$Words" 29 3 2 := ⟨by decide, "StreamRefuter$Words", x_tm 70 (by decide +kernel) rfl, Or.inr (x_tm 69 (by decide +kernel) rfl)⟩
theorem x_f106_0 : x_fl x_ct x_Ts "StreamRefuter$Words" 36 2 3 := ⟨by decide, "StreamRefuter$Words", x_tm 78 (by decide +kernel) rfl, Or.inr (x_tm 77 (by decide +kernel) rfl)⟩
theorem x_f106_1 : x_fl x_ct x_Ts "StreamRefuter$Words" 36 3 3 := ⟨by decide, "StreamRefuter$Words", x_tm 78 (by decide +kernel) rfl, Or.inr (x_tm 77 (by decide +kernel) rfl)⟩
theorem x_f107_0 : x_fl x_ct x_Ts "StreamRefuter$Problem" 137 2 3 := ⟨by decide, "StreamRefuter$Numbers", x_tm 79 (by decide +kernel) rfl, Or.inl rfl⟩
theorem x_f107_1 : x_fl x_ct x_Ts "StreamRefuter$Problem" 137 3 3 := ⟨by decide, "StreamRefuter$Numbers", x_tm 79 (by decide +kernel) rfl, Or.inl rfl⟩
theorem x_f108_0 : x_fl x_ct x_Ts "StreamRefuter$PackedNumbers" 9 3 0 := ⟨by decide, "StreamRefuter$PackedNumbers", x_tm 56 (by decide +kernel) rfl, Or.inr (x_tm 57 (by decide +kernel) rfl)⟩
theorem x_f109_0 : x_fl x_ct x_Ts "StreamRefuter$PackedNumbers" 15 3 1 := ⟨by decide, "StreamRefuter$PackedNumbers", x_tm 63 (by decide +kernel) rfl, Or.inr (x_tm 64 (by decide +kernel) rfl)⟩
theorem x_f110_0 : x_fl x_ct x_Ts "StreamRefuter$PackedNumbers" 25 3 2 := ⟨by decide, "StreamRefuter$PackedNumbers", x_tm 66 (by decide +kernel) rfl, Or.inr (x_tm 67 (by decide +kernel) rfl)⟩
theorem x_f111_0 : x_fl x_ct x_Ts "StreamRefuter$PackedNumbers" 28 3 3 := ⟨by decide, "StreamRefuter$PackedNumbers", x_tm 74 (by decide +kernel) rfl, Or.inr (x_tm 75 (by decide +kernel) rfl)⟩
theorem x_f112_0 : x_fl x_ct x_Ts "StreamRefuterModel" 122 9 3 := ⟨by decide, "StreamRefuterModel", x_tm 921 (by decide +kernel) rfl, Or.inl rfl⟩
theorem x_f113_0 : x_fl x_ct x_Ts "StreamRefuterModel" 181 9 4 := ⟨by decide, "StreamRefuterModel", x_tm 922 (by decide +kernel) rfl, Or.inl rfl⟩
theorem x_f114_0 : x_fl x_ct x_Ts "StreamRefuterModel" 152 9 20 := ⟨by decide, "StreamRefuterModel", x_tm 938 (by decide +kernel) rfl, Or.inl rfl⟩
theorem x_f115_0 : x_fl x_ct x_Ts "StreamRefuterModel" 184 9 5 := ⟨by decide, "StreamRefuterModel", x_tm 923 (by decide +kernel) rfl, Or.inl rfl⟩
theorem x_f116_0 : x_fl x_ct x_Ts "StreamRefuterModel" 135 9 18 := ⟨by decide, "StreamRefuterModel", x_tm 936 (by decide +kernel) rfl, Or.inl rfl⟩
theorem x_f117_0 : x_fl x_ct x_Ts "StreamRefuterModel" 187 9 6 := ⟨by decide, "StreamRefuterModel", x_tm 924 (by decide +kernel) rfl, Or.inl rfl⟩
theorem x_f118_0 : x_fl x_ct x_Ts "StreamRefuterModel" 190 9 7 := ⟨by decide, "StreamRefuterModel", x_tm 925 (by decide +kernel) rfl, Or.inl rfl⟩
theorem x_f119_0 : x_fl x_ct x_Ts "StreamRefuterModel" 197 9 10 := ⟨by decide, "StreamRefuterModel", x_tm 928 (by decide +kernel) rfl, Or.inl rfl⟩
theorem x_f120_0 : x_fl x_ct x_Ts "StreamRefuterModel" 200 9 11 := ⟨by decide, "StreamRefuterModel", x_tm 929 (by decide +kernel) rfl, Or.inl rfl⟩
theorem x_f121_0 : x_fl x_ct x_Ts "StreamRefuterModel" 203 9 24 := ⟨by decide, "StreamRefuterModel", x_tm 942 (by decide +kernel) rfl, Or.inl rfl⟩
theorem x_f122_0 : x_fl x_ct x_Ts "StreamRefuterModel" 125 9 16 := ⟨by decide, "StreamRefuterModel", x_tm 934 (by decide +kernel) rfl, Or.inl rfl⟩
theorem x_f123_0 : x_fl x_ct x_Ts "StreamRefuterModel" 138 9 19 := ⟨by decide, "StreamRefuterModel", x_tm 937 (by decide +kernel) rfl, Or.inl rfl⟩
theorem x_f124_0 : x_fl x_ct x_Ts "StreamRefuterModel" 132 9 17 := ⟨by decide, "StreamRefuterModel", x_tm 935 (by decide +kernel) rfl, Or.inl rfl⟩
theorem x_f125_0 : x_fl x_ct x_Ts "StreamRefuter" 98 4 0 := ⟨by decide, "StreamRefuter$Problem", x_tm 108 (by decide +kernel) rfl, Or.inl rfl⟩
theorem x_f126_0 : x_fl x_ct x_Ts "StreamRefuter" 109 4 5 := ⟨by decide, "StreamRefuter$Problem", x_tm 123 (by decide +kernel) rfl, Or.inl rfl⟩
theorem x_f127_0 : x_fl x_ct x_Ts "StreamRefuter$Problem" 112 2 2 := ⟨by decide, "StreamRefuter$Numbers", x_tm 71 (by decide +kernel) rfl, Or.inl rfl⟩
theorem x_f127_1 : x_fl x_ct x_Ts "StreamRefuter$Problem" 112 3 2 := ⟨by decide, "StreamRefuter$Numbers", x_tm 71 (by decide +kernel) rfl, Or.inl rfl⟩
theorem x_f128_0 : x_fl x_ct x_Ts "StreamRefuter" 118 5 2 := ⟨by decide, "StreamRefuter$Tokens", x_tm 187 (by decide +kernel) rfl, Or.inl rfl⟩
theorem x_f129_0 : x_fl x_ct x_Ts "StreamRefuter$Tokens" 41 2 3 := ⟨by decide, "StreamRefuter$Words", x_tm 80 (by decide +kernel) rfl, Or.inr (x_tm 77 (by decide +kernel) rfl)⟩
theorem x_f129_1 : x_fl x_ct x_Ts "StreamRefuter$Tokens" 41 3 3 := ⟨by decide, "StreamRefuter$Words", x_tm 80 (by decide +kernel) rfl, Or.inr (x_tm 77 (by decide +kernel) rfl)⟩
theorem x_f130_0 : x_fl x_ct x_Ts "StreamRefuter$Tokens" 48 2 2 := ⟨by decide, "StreamRefuter$Words", x_tm 72 (by decide +kernel) rfl, Or.inr (x_tm 69 (by decide +kernel) rfl)⟩
theorem x_f130_1 : x_fl x_ct x_Ts "StreamRefuter$Tokens" 48 3 2 := ⟨by decide, "StreamRefuter$Words", x_tm 72 (by decide +kernel) rfl, Or.inr (x_tm 69 (by decide +kernel) rfl)⟩
theorem x_f131_0 : x_fl x_ct x_Ts "StreamRefuterModel" 222 9 26 := ⟨by decide, "StreamRefuterModel", x_tm 944 (by decide +kernel) rfl, Or.inl rfl⟩
theorem x_f132_0 : x_fl x_ct x_Ts "StreamRefuter" 121 4 4 := ⟨by decide, "StreamRefuter$Problem", x_tm 120 (by decide +kernel) rfl, Or.inl rfl⟩
theorem x_f133_0 : x_fl x_ct x_Ts "StreamRefuter" 124 4 7 := ⟨by decide, "StreamRefuter$Problem", x_tm 131 (by decide +kernel) rfl, Or.inl rfl⟩
theorem x_f134_0 : x_fl x_ct x_Ts "StreamRefuter" 128 4 6 := ⟨by decide, "StreamRefuter$Problem", x_tm 127 (by decide +kernel) rfl, Or.inl rfl⟩
theorem x_f135_0 : x_fl x_ct x_Ts "StreamRefuter" 131 4 1 := ⟨by decide, "StreamRefuter$Problem", x_tm 110 (by decide +kernel) rfl, Or.inl rfl⟩
theorem x_f136_0 : x_fl x_ct x_Ts "StreamRefuter$Refuter" 56 4 5 := ⟨by decide, "StreamRefuter$Problem", x_tm 122 (by decide +kernel) rfl, Or.inl rfl⟩
theorem x_f137_0 : x_fl x_ct x_Ts "StreamRefuter$Refuter" 61 4 10 := ⟨by decide, "StreamRefuter$Problem", x_tm 140 (by decide +kernel) rfl, Or.inl rfl⟩
theorem x_f138_0 : x_fl x_ct x_Ts "StreamRefuter$Propagation" 49 4 8 := ⟨by decide, "StreamRefuter$Problem", x_tm 133 (by decide +kernel) rfl, Or.inl rfl⟩
theorem x_f139_0 : x_fl x_ct x_Ts "StreamRefuter$Propagation" 69 4 4 := ⟨by decide, "StreamRefuter$Problem", x_tm 119 (by decide +kernel) rfl, Or.inl rfl⟩
theorem x_f140_0 : x_fl x_ct x_Ts "StreamRefuterModel" 247 9 33 := ⟨by decide, "StreamRefuterModel", x_tm 951 (by decide +kernel) rfl, Or.inl rfl⟩
theorem x_f141_0 : x_fl x_ct x_Ts "StreamRefuterModel" 253 9 34 := ⟨by decide, "StreamRefuterModel", x_tm 952 (by decide +kernel) rfl, Or.inl rfl⟩
theorem x_f142_0 : x_fl x_ct x_Ts "StreamRefuterModel" 238 9 32 := ⟨by decide, "StreamRefuterModel", x_tm 950 (by decide +kernel) rfl, Or.inl rfl⟩
theorem x_f143_0 : x_fl x_ct x_Ts "StreamRefuter$Refuter" 72 4 9 := ⟨by decide, "StreamRefuter$Problem", x_tm 137 (by decide +kernel) rfl, Or.inl rfl⟩
theorem x_f144_0 : x_fl x_ct x_Ts "StreamRefuter$Refuter" 79 4 8 := ⟨by decide, "StreamRefuter$Problem", x_tm 135 (by decide +kernel) rfl, Or.inl rfl⟩
theorem x_f145_0 : x_fl x_ct x_Ts "StreamRefuter$Refuter" 86 4 7 := ⟨by decide, "StreamRefuter$Problem", x_tm 129 (by decide +kernel) rfl, Or.inl rfl⟩
theorem x_f146_0 : x_fl x_ct x_Ts "StreamRefuter$Refuter" 89 4 6 := ⟨by decide, "StreamRefuter$Problem", x_tm 125 (by decide +kernel) rfl, Or.inl rfl⟩
theorem x_f147_0 : x_fl x_ct x_Ts "StreamRefuter$Refuter" 95 4 4 := ⟨by decide, "StreamRefuter$Problem", x_tm 118 (by decide +kernel) rfl, Or.inl rfl⟩
theorem x_f148_0 : x_fl x_ct x_Ts "StreamRefuter$Propagation" 76 4 7 := ⟨by decide, "StreamRefuter$Problem", x_tm 130 (by decide +kernel) rfl, Or.inl rfl⟩
theorem x_f149_0 : x_fl x_ct x_Ts "StreamRefuter$Propagation" 79 4 6 := ⟨by decide, "StreamRefuter$Problem", x_tm 126 (by decide +kernel) rfl, Or.inl rfl⟩
theorem x_f150_0 : x_fl x_ct x_Ts "StreamRefuter$Refuter" 125 4 11 := ⟨by decide, "StreamRefuter$Problem", x_tm 142 (by decide +kernel) rfl, Or.inl rfl⟩
theorem x_f151_0 : x_fl x_ct x_Ts "StreamRefuter$Refuter" 126 4 12 := ⟨by decide, "StreamRefuter$Problem", x_tm 145 (by decide +kernel) rfl, Or.inl rfl⟩
theorem x_f152_0 : x_fl x_ct x_Ts "StreamRefuter$Refuter" 130 4 3 := ⟨by decide, "StreamRefuter$Problem", x_tm 116 (by decide +kernel) rfl, Or.inl rfl⟩
theorem x_f153_0 : x_fl x_ct x_Ts "StreamRefuter$Refuter" 136 5 1 := ⟨by decide, "StreamRefuter$Tokens", x_tm 184 (by decide +kernel) rfl, Or.inl rfl⟩
theorem x_f154_0 : x_fl x_ct x_Ts "StreamRefuter$Refuter" 139 6 9 := ⟨by decide, "StreamRefuter$Propagation", x_tm 222 (by decide +kernel) rfl, Or.inl rfl⟩
theorem x_f155_0 : x_fl x_ct x_Ts "StreamRefuter$Refuter" 161 6 4 := ⟨by decide, "StreamRefuter$Propagation", x_tm 214 (by decide +kernel) rfl, Or.inl rfl⟩
theorem x_f156_0 : x_fl x_ct x_Ts "StreamRefuter$Refuter" 164 6 8 := ⟨by decide, "StreamRefuter$Propagation", x_tm 220 (by decide +kernel) rfl, Or.inl rfl⟩
theorem x_f157_0 : x_fl x_ct x_Ts "StreamRefuter$Refuter" 151 6 7 := ⟨by decide, "StreamRefuter$Propagation", x_tm 218 (by decide +kernel) rfl, Or.inl rfl⟩
theorem x_f158_0 : x_fl x_ct x_Ts "StreamRefuterModel" 295 9 39 := ⟨by decide, "StreamRefuterModel", x_tm 957 (by decide +kernel) rfl, Or.inl rfl⟩
theorem x_f159_0 : x_fl x_ct x_Ts "StreamRefuterModel" 301 9 43 := ⟨by decide, "StreamRefuterModel", x_tm 961 (by decide +kernel) rfl, Or.inl rfl⟩
theorem x_f160_0 : x_fl x_ct x_Ts "StreamRefuter" 145 4 11 := ⟨by decide, "StreamRefuter$Problem", x_tm 143 (by decide +kernel) rfl, Or.inl rfl⟩
theorem x_f161_0 : x_fl x_ct x_Ts "StreamRefuter" 153 4 9 := ⟨by decide, "StreamRefuter$Problem", x_tm 138 (by decide +kernel) rfl, Or.inl rfl⟩
theorem x_f162_0 : x_fl x_ct x_Ts "StreamRefuter" 156 4 12 := ⟨by decide, "StreamRefuter$Problem", x_tm 146 (by decide +kernel) rfl, Or.inl rfl⟩
theorem x_f163_0 : x_fl x_ct x_Ts "StreamRefuter" 159 5 1 := ⟨by decide, "StreamRefuter$Tokens", x_tm 185 (by decide +kernel) rfl, Or.inl rfl⟩
theorem x_f164_0 : x_fl x_ct x_Ts "StreamRefuter$Judge" 56 5 1 := ⟨by decide, "StreamRefuter$Tokens", x_tm 183 (by decide +kernel) rfl, Or.inl rfl⟩
theorem x_f165_0 : x_fl x_ct x_Ts "StreamRefuter$Judge" 74 4 2 := ⟨by decide, "StreamRefuter$Problem", x_tm 112 (by decide +kernel) rfl, Or.inl rfl⟩
theorem x_f166_0 : x_fl x_ct x_Ts "StreamRefuter$Judge" 77 4 3 := ⟨by decide, "StreamRefuter$Problem", x_tm 114 (by decide +kernel) rfl, Or.inl rfl⟩
theorem x_f167_0 : x_fl x_ct x_Ts "StreamRefuter$Judge" 80 4 8 := ⟨by decide, "StreamRefuter$Problem", x_tm 134 (by decide +kernel) rfl, Or.inl rfl⟩
theorem x_f168_0 : x_fl x_ct x_Ts "StreamRefuterModel" 335 9 50 := ⟨by decide, "StreamRefuterModel", x_tm 968 (by decide +kernel) rfl, Or.inl rfl⟩
theorem x_al1 {a : Nat} {P : Nat → Prop} (h : x_al a = [a]) (hp : P a) : ∀ a' ∈ x_al a, P a' := fun a' ha => by
  rw [h] at ha
  rw [List.mem_singleton.mp ha]
  exact hp
theorem x_al2 {P : Nat → Prop} (h2 : P 2) (h3 : P 3) : ∀ a' ∈ x_al 2, P a' := fun a' ha => by
  have ha : a' ∈ [2, 3] := ha
  rcases List.mem_cons.mp ha with rfl | ha
  · exact h2
  · rw [List.mem_singleton.mp ha]
    exact h3
def x_fls : List (Nat × Nat × Nat × Nat) := [(1, 10, 0, 0), (1, 21, 0, 1), (1, 28, 0, 2), (1, 35, 0, 5), (1, 39, 0, 6), (1, 45, 0, 7), (1, 49, 0, 8), (1, 57, 0, 3), (1, 66, 0, 4), (1, 70, 0, 9), (2, 9, 1, 0), (2, 15, 1, 1), (4, 9, 2, 1), (4, 15, 2, 2), (4, 18, 2, 3), (4, 21, 2, 0), (6, 9, 4, 0), (6, 15, 4, 1), (6, 18, 4, 2), (6, 22, 4, 3), (6, 25, 4, 4), (6, 28, 4, 5), (6, 31, 4, 6), (6, 35, 4, 7), (6, 38, 4, 8), (6, 41, 4, 9), (6, 44, 4, 10), (6, 48, 4, 11), (6, 52, 4, 12), (7, 9, 5, 0), (7, 15, 5, 1), (7, 19, 5, 2), (8, 9, 7, 2), (8, 15, 7, 3), (8, 18, 7, 4), (8, 25, 7, 5), (8, 29, 7, 6), (8, 33, 7, 7), (8, 36, 7, 8), (8, 39, 7, 9), (8, 43, 7, 1), (8, 52, 7, 0), (9, 9, 6, 1), (9, 15, 6, 2), (9, 19, 6, 3), (9, 22, 6, 4), (9, 26, 6, 5), (9, 29, 6, 6), (9, 32, 6, 7), (9, 35, 6, 8), (9, 38, 6, 9), (9, 41, 6, 0), (10, 11, 8, 0), (10, 15, 8, 1), (10, 18, 8, 2), (10, 22, 8, 3), (10, 25, 8, 4), (10, 29, 8, 5), (10, 32, 8, 6), (10, 35, 8, 8), (10, 38, 8, 9), (10, 41, 8, 10), (10, 44, 8, 11), (10, 48, 8, 7), (11, 7, 9, 2), (11, 13, 9, 8), (11, 16, 9, 9), (11, 19, 9, 12), (11, 23, 9, 13), (11, 26, 9, 14), (11, 29, 9, 15), (11, 32, 9, 21), (11, 35, 9, 22), (11, 38, 9, 23), (11, 41, 9, 25), (11, 44, 9, 27), (11, 47, 9, 28), (11, 50, 9, 29), (11, 53, 9, 30), (11, 56, 9, 31), (11, 59, 9, 35), (11, 62, 9, 36), (11, 65, 9, 37), (11, 68, 9, 38), (11, 71, 9, 40), (11, 74, 9, 41), (11, 77, 9, 42), (11, 80, 9, 44), (11, 83, 9, 45), (11, 86, 9, 46), (11, 89, 9, 47), (11, 92, 9, 48), (11, 95, 9, 49), (11, 98, 9, 51), (11, 101, 9, 52), (11, 104, 9, 53), (11, 107, 9, 54), (11, 110, 9, 55), (11, 113, 9, 0), (11, 117, 9, 1), (1, 95, 4, 3), (6, 72, 2, 2), (6, 77, 2, 3), (3, 9, 2, 1), (3, 15, 2, 0), (3, 29, 2, 2), (3, 36, 2, 3), (6, 137, 2, 3), (5, 9, 3, 0), (5, 15, 3, 1), (5, 25, 3, 2), (5, 28, 3, 3), (11, 122, 9, 3), (11, 181, 9, 4), (11, 152, 9, 20), (11, 184, 9, 5), (11, 135, 9, 18), (11, 187, 9, 6), (11, 190, 9, 7), (11, 197, 9, 10), (11, 200, 9, 11), (11, 203, 9, 24), (11, 125, 9, 16), (11, 138, 9, 19), (11, 132, 9, 17), (1, 98, 4, 0), (1, 109, 4, 5), (6, 112, 2, 2), (1, 118, 5, 2), (7, 41, 2, 3), (7, 48, 2, 2), (11, 222, 9, 26), (1, 121, 4, 4), (1, 124, 4, 7), (1, 128, 4, 6), (1, 131, 4, 1), (8, 56, 4, 5), (8, 61, 4, 10), (9, 49, 4, 8), (9, 69, 4, 4), (11, 247, 9, 33), (11, 253, 9, 34), (11, 238, 9, 32), (8, 72, 4, 9), (8, 79, 4, 8), (8, 86, 4, 7), (8, 89, 4, 6), (8, 95, 4, 4), (9, 76, 4, 7), (9, 79, 4, 6), (8, 125, 4, 11), (8, 126, 4, 12), (8, 130, 4, 3), (8, 136, 5, 1), (8, 139, 6, 9), (8, 161, 6, 4), (8, 164, 6, 8), (8, 151, 6, 7), (11, 295, 9, 39), (11, 301, 9, 43), (1, 145, 4, 11), (1, 153, 4, 9), (1, 156, 4, 12), (1, 159, 5, 1), (10, 56, 5, 1), (10, 74, 4, 2), (10, 77, 4, 3), (10, 80, 4, 8), (11, 335, 9, 50)]
theorem x_fls_ok : ∀ q ∈ x_fls, ∀ a' ∈ x_al q.2.2.1, x_cf x_cts x_ct x_fk x_ty x_Ts a' ∧ x_fl x_ct x_Ts (x_on q.1) q.2.1 a' q.2.2.2 := by
  unfold x_fls
  refine List.forall_mem_cons.mpr ⟨x_al1 rfl ⟨x_c0, x_f0_0⟩, ?_⟩
  refine List.forall_mem_cons.mpr ⟨x_al1 rfl ⟨x_c0, x_f1_0⟩, ?_⟩
  refine List.forall_mem_cons.mpr ⟨x_al1 rfl ⟨x_c0, x_f2_0⟩, ?_⟩
  refine List.forall_mem_cons.mpr ⟨x_al1 rfl ⟨x_c0, x_f3_0⟩, ?_⟩
  refine List.forall_mem_cons.mpr ⟨x_al1 rfl ⟨x_c0, x_f4_0⟩, ?_⟩
  refine List.forall_mem_cons.mpr ⟨x_al1 rfl ⟨x_c0, x_f5_0⟩, ?_⟩
  refine List.forall_mem_cons.mpr ⟨x_al1 rfl ⟨x_c0, x_f6_0⟩, ?_⟩
  refine List.forall_mem_cons.mpr ⟨x_al1 rfl ⟨x_c0, x_f7_0⟩, ?_⟩
  refine List.forall_mem_cons.mpr ⟨x_al1 rfl ⟨x_c0, x_f8_0⟩, ?_⟩
  refine List.forall_mem_cons.mpr ⟨x_al1 rfl ⟨x_c0, x_f9_0⟩, ?_⟩
  refine List.forall_mem_cons.mpr ⟨x_al1 rfl ⟨x_c1, x_f10_0⟩, ?_⟩
  refine List.forall_mem_cons.mpr ⟨x_al1 rfl ⟨x_c1, x_f11_0⟩, ?_⟩
  refine List.forall_mem_cons.mpr ⟨x_al2 ⟨x_c2, x_f12_0⟩ ⟨x_c3, x_f12_1⟩, ?_⟩
  refine List.forall_mem_cons.mpr ⟨x_al2 ⟨x_c2, x_f13_0⟩ ⟨x_c3, x_f13_1⟩, ?_⟩
  refine List.forall_mem_cons.mpr ⟨x_al2 ⟨x_c2, x_f14_0⟩ ⟨x_c3, x_f14_1⟩, ?_⟩
  refine List.forall_mem_cons.mpr ⟨x_al2 ⟨x_c2, x_f15_0⟩ ⟨x_c3, x_f15_1⟩, ?_⟩
  refine List.forall_mem_cons.mpr ⟨x_al1 rfl ⟨x_c4, x_f16_0⟩, ?_⟩
  refine List.forall_mem_cons.mpr ⟨x_al1 rfl ⟨x_c4, x_f17_0⟩, ?_⟩
  refine List.forall_mem_cons.mpr ⟨x_al1 rfl ⟨x_c4, x_f18_0⟩, ?_⟩
  refine List.forall_mem_cons.mpr ⟨x_al1 rfl ⟨x_c4, x_f19_0⟩, ?_⟩
  refine List.forall_mem_cons.mpr ⟨x_al1 rfl ⟨x_c4, x_f20_0⟩, ?_⟩
  refine List.forall_mem_cons.mpr ⟨x_al1 rfl ⟨x_c4, x_f21_0⟩, ?_⟩
  refine List.forall_mem_cons.mpr ⟨x_al1 rfl ⟨x_c4, x_f22_0⟩, ?_⟩
  refine List.forall_mem_cons.mpr ⟨x_al1 rfl ⟨x_c4, x_f23_0⟩, ?_⟩
  refine List.forall_mem_cons.mpr ⟨x_al1 rfl ⟨x_c4, x_f24_0⟩, ?_⟩
  refine List.forall_mem_cons.mpr ⟨x_al1 rfl ⟨x_c4, x_f25_0⟩, ?_⟩
  refine List.forall_mem_cons.mpr ⟨x_al1 rfl ⟨x_c4, x_f26_0⟩, ?_⟩
  refine List.forall_mem_cons.mpr ⟨x_al1 rfl ⟨x_c4, x_f27_0⟩, ?_⟩
  refine List.forall_mem_cons.mpr ⟨x_al1 rfl ⟨x_c4, x_f28_0⟩, ?_⟩
  refine List.forall_mem_cons.mpr ⟨x_al1 rfl ⟨x_c5, x_f29_0⟩, ?_⟩
  refine List.forall_mem_cons.mpr ⟨x_al1 rfl ⟨x_c5, x_f30_0⟩, ?_⟩
  refine List.forall_mem_cons.mpr ⟨x_al1 rfl ⟨x_c5, x_f31_0⟩, ?_⟩
  refine List.forall_mem_cons.mpr ⟨x_al1 rfl ⟨x_c7, x_f32_0⟩, ?_⟩
  refine List.forall_mem_cons.mpr ⟨x_al1 rfl ⟨x_c7, x_f33_0⟩, ?_⟩
  refine List.forall_mem_cons.mpr ⟨x_al1 rfl ⟨x_c7, x_f34_0⟩, ?_⟩
  refine List.forall_mem_cons.mpr ⟨x_al1 rfl ⟨x_c7, x_f35_0⟩, ?_⟩
  refine List.forall_mem_cons.mpr ⟨x_al1 rfl ⟨x_c7, x_f36_0⟩, ?_⟩
  refine List.forall_mem_cons.mpr ⟨x_al1 rfl ⟨x_c7, x_f37_0⟩, ?_⟩
  refine List.forall_mem_cons.mpr ⟨x_al1 rfl ⟨x_c7, x_f38_0⟩, ?_⟩
  refine List.forall_mem_cons.mpr ⟨x_al1 rfl ⟨x_c7, x_f39_0⟩, ?_⟩
  refine List.forall_mem_cons.mpr ⟨x_al1 rfl ⟨x_c7, x_f40_0⟩, ?_⟩
  refine List.forall_mem_cons.mpr ⟨x_al1 rfl ⟨x_c7, x_f41_0⟩, ?_⟩
  refine List.forall_mem_cons.mpr ⟨x_al1 rfl ⟨x_c6, x_f42_0⟩, ?_⟩
  refine List.forall_mem_cons.mpr ⟨x_al1 rfl ⟨x_c6, x_f43_0⟩, ?_⟩
  refine List.forall_mem_cons.mpr ⟨x_al1 rfl ⟨x_c6, x_f44_0⟩, ?_⟩
  refine List.forall_mem_cons.mpr ⟨x_al1 rfl ⟨x_c6, x_f45_0⟩, ?_⟩
  refine List.forall_mem_cons.mpr ⟨x_al1 rfl ⟨x_c6, x_f46_0⟩, ?_⟩
  refine List.forall_mem_cons.mpr ⟨x_al1 rfl ⟨x_c6, x_f47_0⟩, ?_⟩
  refine List.forall_mem_cons.mpr ⟨x_al1 rfl ⟨x_c6, x_f48_0⟩, ?_⟩
  refine List.forall_mem_cons.mpr ⟨x_al1 rfl ⟨x_c6, x_f49_0⟩, ?_⟩
  refine List.forall_mem_cons.mpr ⟨x_al1 rfl ⟨x_c6, x_f50_0⟩, ?_⟩
  refine List.forall_mem_cons.mpr ⟨x_al1 rfl ⟨x_c6, x_f51_0⟩, ?_⟩
  refine List.forall_mem_cons.mpr ⟨x_al1 rfl ⟨x_c8, x_f52_0⟩, ?_⟩
  refine List.forall_mem_cons.mpr ⟨x_al1 rfl ⟨x_c8, x_f53_0⟩, ?_⟩
  refine List.forall_mem_cons.mpr ⟨x_al1 rfl ⟨x_c8, x_f54_0⟩, ?_⟩
  refine List.forall_mem_cons.mpr ⟨x_al1 rfl ⟨x_c8, x_f55_0⟩, ?_⟩
  refine List.forall_mem_cons.mpr ⟨x_al1 rfl ⟨x_c8, x_f56_0⟩, ?_⟩
  refine List.forall_mem_cons.mpr ⟨x_al1 rfl ⟨x_c8, x_f57_0⟩, ?_⟩
  refine List.forall_mem_cons.mpr ⟨x_al1 rfl ⟨x_c8, x_f58_0⟩, ?_⟩
  refine List.forall_mem_cons.mpr ⟨x_al1 rfl ⟨x_c8, x_f59_0⟩, ?_⟩
  refine List.forall_mem_cons.mpr ⟨x_al1 rfl ⟨x_c8, x_f60_0⟩, ?_⟩
  refine List.forall_mem_cons.mpr ⟨x_al1 rfl ⟨x_c8, x_f61_0⟩, ?_⟩
  refine List.forall_mem_cons.mpr ⟨x_al1 rfl ⟨x_c8, x_f62_0⟩, ?_⟩
  refine List.forall_mem_cons.mpr ⟨x_al1 rfl ⟨x_c8, x_f63_0⟩, ?_⟩
  refine List.forall_mem_cons.mpr ⟨x_al1 rfl ⟨x_c9, x_f64_0⟩, ?_⟩
  refine List.forall_mem_cons.mpr ⟨x_al1 rfl ⟨x_c9, x_f65_0⟩, ?_⟩
  refine List.forall_mem_cons.mpr ⟨x_al1 rfl ⟨x_c9, x_f66_0⟩, ?_⟩
  refine List.forall_mem_cons.mpr ⟨x_al1 rfl ⟨x_c9, x_f67_0⟩, ?_⟩
  refine List.forall_mem_cons.mpr ⟨x_al1 rfl ⟨x_c9, x_f68_0⟩, ?_⟩
  refine List.forall_mem_cons.mpr ⟨x_al1 rfl ⟨x_c9, x_f69_0⟩, ?_⟩
  refine List.forall_mem_cons.mpr ⟨x_al1 rfl ⟨x_c9, x_f70_0⟩, ?_⟩
  refine List.forall_mem_cons.mpr ⟨x_al1 rfl ⟨x_c9, x_f71_0⟩, ?_⟩
  refine List.forall_mem_cons.mpr ⟨x_al1 rfl ⟨x_c9, x_f72_0⟩, ?_⟩
  refine List.forall_mem_cons.mpr ⟨x_al1 rfl ⟨x_c9, x_f73_0⟩, ?_⟩
  refine List.forall_mem_cons.mpr ⟨x_al1 rfl ⟨x_c9, x_f74_0⟩, ?_⟩
  refine List.forall_mem_cons.mpr ⟨x_al1 rfl ⟨x_c9, x_f75_0⟩, ?_⟩
  refine List.forall_mem_cons.mpr ⟨x_al1 rfl ⟨x_c9, x_f76_0⟩, ?_⟩
  refine List.forall_mem_cons.mpr ⟨x_al1 rfl ⟨x_c9, x_f77_0⟩, ?_⟩
  refine List.forall_mem_cons.mpr ⟨x_al1 rfl ⟨x_c9, x_f78_0⟩, ?_⟩
  refine List.forall_mem_cons.mpr ⟨x_al1 rfl ⟨x_c9, x_f79_0⟩, ?_⟩
  refine List.forall_mem_cons.mpr ⟨x_al1 rfl ⟨x_c9, x_f80_0⟩, ?_⟩
  refine List.forall_mem_cons.mpr ⟨x_al1 rfl ⟨x_c9, x_f81_0⟩, ?_⟩
  refine List.forall_mem_cons.mpr ⟨x_al1 rfl ⟨x_c9, x_f82_0⟩, ?_⟩
  refine List.forall_mem_cons.mpr ⟨x_al1 rfl ⟨x_c9, x_f83_0⟩, ?_⟩
  refine List.forall_mem_cons.mpr ⟨x_al1 rfl ⟨x_c9, x_f84_0⟩, ?_⟩
  refine List.forall_mem_cons.mpr ⟨x_al1 rfl ⟨x_c9, x_f85_0⟩, ?_⟩
  refine List.forall_mem_cons.mpr ⟨x_al1 rfl ⟨x_c9, x_f86_0⟩, ?_⟩
  refine List.forall_mem_cons.mpr ⟨x_al1 rfl ⟨x_c9, x_f87_0⟩, ?_⟩
  refine List.forall_mem_cons.mpr ⟨x_al1 rfl ⟨x_c9, x_f88_0⟩, ?_⟩
  refine List.forall_mem_cons.mpr ⟨x_al1 rfl ⟨x_c9, x_f89_0⟩, ?_⟩
  refine List.forall_mem_cons.mpr ⟨x_al1 rfl ⟨x_c9, x_f90_0⟩, ?_⟩
  refine List.forall_mem_cons.mpr ⟨x_al1 rfl ⟨x_c9, x_f91_0⟩, ?_⟩
  refine List.forall_mem_cons.mpr ⟨x_al1 rfl ⟨x_c9, x_f92_0⟩, ?_⟩
  refine List.forall_mem_cons.mpr ⟨x_al1 rfl ⟨x_c9, x_f93_0⟩, ?_⟩
  refine List.forall_mem_cons.mpr ⟨x_al1 rfl ⟨x_c9, x_f94_0⟩, ?_⟩
  refine List.forall_mem_cons.mpr ⟨x_al1 rfl ⟨x_c9, x_f95_0⟩, ?_⟩
  refine List.forall_mem_cons.mpr ⟨x_al1 rfl ⟨x_c9, x_f96_0⟩, ?_⟩
  refine List.forall_mem_cons.mpr ⟨x_al1 rfl ⟨x_c9, x_f97_0⟩, ?_⟩
  refine List.forall_mem_cons.mpr ⟨x_al1 rfl ⟨x_c9, x_f98_0⟩, ?_⟩
  refine List.forall_mem_cons.mpr ⟨x_al1 rfl ⟨x_c9, x_f99_0⟩, ?_⟩
  refine List.forall_mem_cons.mpr ⟨x_al1 rfl ⟨x_c4, x_f100_0⟩, ?_⟩
  refine List.forall_mem_cons.mpr ⟨x_al2 ⟨x_c2, x_f101_0⟩ ⟨x_c3, x_f101_1⟩, ?_⟩
  refine List.forall_mem_cons.mpr ⟨x_al2 ⟨x_c2, x_f102_0⟩ ⟨x_c3, x_f102_1⟩, ?_⟩
  refine List.forall_mem_cons.mpr ⟨x_al2 ⟨x_c2, x_f103_0⟩ ⟨x_c3, x_f103_1⟩, ?_⟩
  refine List.forall_mem_cons.mpr ⟨x_al2 ⟨x_c2, x_f104_0⟩ ⟨x_c3, x_f104_1⟩, ?_⟩
  refine List.forall_mem_cons.mpr ⟨x_al2 ⟨x_c2, x_f105_0⟩ ⟨x_c3, x_f105_1⟩, ?_⟩
  refine List.forall_mem_cons.mpr ⟨x_al2 ⟨x_c2, x_f106_0⟩ ⟨x_c3, x_f106_1⟩, ?_⟩
  refine List.forall_mem_cons.mpr ⟨x_al2 ⟨x_c2, x_f107_0⟩ ⟨x_c3, x_f107_1⟩, ?_⟩
  refine List.forall_mem_cons.mpr ⟨x_al1 rfl ⟨x_c3, x_f108_0⟩, ?_⟩
  refine List.forall_mem_cons.mpr ⟨x_al1 rfl ⟨x_c3, x_f109_0⟩, ?_⟩
  refine List.forall_mem_cons.mpr ⟨x_al1 rfl ⟨x_c3, x_f110_0⟩, ?_⟩
  refine List.forall_mem_cons.mpr ⟨x_al1 rfl ⟨x_c3, x_f111_0⟩, ?_⟩
  refine List.forall_mem_cons.mpr ⟨x_al1 rfl ⟨x_c9, x_f112_0⟩, ?_⟩
  refine List.forall_mem_cons.mpr ⟨x_al1 rfl ⟨x_c9, x_f113_0⟩, ?_⟩
  refine List.forall_mem_cons.mpr ⟨x_al1 rfl ⟨x_c9, x_f114_0⟩, ?_⟩
  refine List.forall_mem_cons.mpr ⟨x_al1 rfl ⟨x_c9, x_f115_0⟩, ?_⟩
  refine List.forall_mem_cons.mpr ⟨x_al1 rfl ⟨x_c9, x_f116_0⟩, ?_⟩
  refine List.forall_mem_cons.mpr ⟨x_al1 rfl ⟨x_c9, x_f117_0⟩, ?_⟩
  refine List.forall_mem_cons.mpr ⟨x_al1 rfl ⟨x_c9, x_f118_0⟩, ?_⟩
  refine List.forall_mem_cons.mpr ⟨x_al1 rfl ⟨x_c9, x_f119_0⟩, ?_⟩
  refine List.forall_mem_cons.mpr ⟨x_al1 rfl ⟨x_c9, x_f120_0⟩, ?_⟩
  refine List.forall_mem_cons.mpr ⟨x_al1 rfl ⟨x_c9, x_f121_0⟩, ?_⟩
  refine List.forall_mem_cons.mpr ⟨x_al1 rfl ⟨x_c9, x_f122_0⟩, ?_⟩
  refine List.forall_mem_cons.mpr ⟨x_al1 rfl ⟨x_c9, x_f123_0⟩, ?_⟩
  refine List.forall_mem_cons.mpr ⟨x_al1 rfl ⟨x_c9, x_f124_0⟩, ?_⟩
  refine List.forall_mem_cons.mpr ⟨x_al1 rfl ⟨x_c4, x_f125_0⟩, ?_⟩
  refine List.forall_mem_cons.mpr ⟨x_al1 rfl ⟨x_c4, x_f126_0⟩, ?_⟩
  refine List.forall_mem_cons.mpr ⟨x_al2 ⟨x_c2, x_f127_0⟩ ⟨x_c3, x_f127_1⟩, ?_⟩
  refine List.forall_mem_cons.mpr ⟨x_al1 rfl ⟨x_c5, x_f128_0⟩, ?_⟩
  refine List.forall_mem_cons.mpr ⟨x_al2 ⟨x_c2, x_f129_0⟩ ⟨x_c3, x_f129_1⟩, ?_⟩
  refine List.forall_mem_cons.mpr ⟨x_al2 ⟨x_c2, x_f130_0⟩ ⟨x_c3, x_f130_1⟩, ?_⟩
  refine List.forall_mem_cons.mpr ⟨x_al1 rfl ⟨x_c9, x_f131_0⟩, ?_⟩
  refine List.forall_mem_cons.mpr ⟨x_al1 rfl ⟨x_c4, x_f132_0⟩, ?_⟩
  refine List.forall_mem_cons.mpr ⟨x_al1 rfl ⟨x_c4, x_f133_0⟩, ?_⟩
  refine List.forall_mem_cons.mpr ⟨x_al1 rfl ⟨x_c4, x_f134_0⟩, ?_⟩
  refine List.forall_mem_cons.mpr ⟨x_al1 rfl ⟨x_c4, x_f135_0⟩, ?_⟩
  refine List.forall_mem_cons.mpr ⟨x_al1 rfl ⟨x_c4, x_f136_0⟩, ?_⟩
  refine List.forall_mem_cons.mpr ⟨x_al1 rfl ⟨x_c4, x_f137_0⟩, ?_⟩
  refine List.forall_mem_cons.mpr ⟨x_al1 rfl ⟨x_c4, x_f138_0⟩, ?_⟩
  refine List.forall_mem_cons.mpr ⟨x_al1 rfl ⟨x_c4, x_f139_0⟩, ?_⟩
  refine List.forall_mem_cons.mpr ⟨x_al1 rfl ⟨x_c9, x_f140_0⟩, ?_⟩
  refine List.forall_mem_cons.mpr ⟨x_al1 rfl ⟨x_c9, x_f141_0⟩, ?_⟩
  refine List.forall_mem_cons.mpr ⟨x_al1 rfl ⟨x_c9, x_f142_0⟩, ?_⟩
  refine List.forall_mem_cons.mpr ⟨x_al1 rfl ⟨x_c4, x_f143_0⟩, ?_⟩
  refine List.forall_mem_cons.mpr ⟨x_al1 rfl ⟨x_c4, x_f144_0⟩, ?_⟩
  refine List.forall_mem_cons.mpr ⟨x_al1 rfl ⟨x_c4, x_f145_0⟩, ?_⟩
  refine List.forall_mem_cons.mpr ⟨x_al1 rfl ⟨x_c4, x_f146_0⟩, ?_⟩
  refine List.forall_mem_cons.mpr ⟨x_al1 rfl ⟨x_c4, x_f147_0⟩, ?_⟩
  refine List.forall_mem_cons.mpr ⟨x_al1 rfl ⟨x_c4, x_f148_0⟩, ?_⟩
  refine List.forall_mem_cons.mpr ⟨x_al1 rfl ⟨x_c4, x_f149_0⟩, ?_⟩
  refine List.forall_mem_cons.mpr ⟨x_al1 rfl ⟨x_c4, x_f150_0⟩, ?_⟩
  refine List.forall_mem_cons.mpr ⟨x_al1 rfl ⟨x_c4, x_f151_0⟩, ?_⟩
  refine List.forall_mem_cons.mpr ⟨x_al1 rfl ⟨x_c4, x_f152_0⟩, ?_⟩
  refine List.forall_mem_cons.mpr ⟨x_al1 rfl ⟨x_c5, x_f153_0⟩, ?_⟩
  refine List.forall_mem_cons.mpr ⟨x_al1 rfl ⟨x_c6, x_f154_0⟩, ?_⟩
  refine List.forall_mem_cons.mpr ⟨x_al1 rfl ⟨x_c6, x_f155_0⟩, ?_⟩
  refine List.forall_mem_cons.mpr ⟨x_al1 rfl ⟨x_c6, x_f156_0⟩, ?_⟩
  refine List.forall_mem_cons.mpr ⟨x_al1 rfl ⟨x_c6, x_f157_0⟩, ?_⟩
  refine List.forall_mem_cons.mpr ⟨x_al1 rfl ⟨x_c9, x_f158_0⟩, ?_⟩
  refine List.forall_mem_cons.mpr ⟨x_al1 rfl ⟨x_c9, x_f159_0⟩, ?_⟩
  refine List.forall_mem_cons.mpr ⟨x_al1 rfl ⟨x_c4, x_f160_0⟩, ?_⟩
  refine List.forall_mem_cons.mpr ⟨x_al1 rfl ⟨x_c4, x_f161_0⟩, ?_⟩
  refine List.forall_mem_cons.mpr ⟨x_al1 rfl ⟨x_c4, x_f162_0⟩, ?_⟩
  refine List.forall_mem_cons.mpr ⟨x_al1 rfl ⟨x_c5, x_f163_0⟩, ?_⟩
  refine List.forall_mem_cons.mpr ⟨x_al1 rfl ⟨x_c5, x_f164_0⟩, ?_⟩
  refine List.forall_mem_cons.mpr ⟨x_al1 rfl ⟨x_c4, x_f165_0⟩, ?_⟩
  refine List.forall_mem_cons.mpr ⟨x_al1 rfl ⟨x_c4, x_f166_0⟩, ?_⟩
  refine List.forall_mem_cons.mpr ⟨x_al1 rfl ⟨x_c4, x_f167_0⟩, ?_⟩
  refine List.forall_mem_cons.mpr ⟨x_al1 rfl ⟨x_c9, x_f168_0⟩, ?_⟩
  exact fun _ h => absurd h List.not_mem_nil
end
section
/-! What the words say of calls: printed by gen/gen_tables.py. -/
theorem x_r1 {w : Cond} (hw : w ∈ tables_1_1) (hg : goodWord w = true) : w ∈ x_Ts := List.mem_filter.mpr ⟨List.mem_append_right _ (List.mem_append_left _ hw), hg⟩
theorem x_r2 {w : Cond} (hw : w ∈ tables_1_2) (hg : goodWord w = true) : w ∈ x_Ts := List.mem_filter.mpr ⟨List.mem_append_right _ (List.mem_append_right _ (List.mem_append_left _ hw)), hg⟩
theorem x_r3 {w : Cond} (hw : w ∈ tables_1_3) (hg : goodWord w = true) : w ∈ x_Ts := List.mem_filter.mpr ⟨List.mem_append_right _ (List.mem_append_right _ (List.mem_append_right _ (List.mem_append_left _ hw))), hg⟩
theorem x_r4 {w : Cond} (hw : w ∈ tables_1_4) (hg : goodWord w = true) : w ∈ x_Ts := List.mem_filter.mpr ⟨List.mem_append_right _ (List.mem_append_right _ (List.mem_append_right _ (List.mem_append_right _ (List.mem_append_left _ hw)))), hg⟩
theorem x_r5 {w : Cond} (hw : w ∈ tables_1_5) (hg : goodWord w = true) : w ∈ x_Ts := List.mem_filter.mpr ⟨List.mem_append_right _ (List.mem_append_right _ (List.mem_append_right _ (List.mem_append_right _ (List.mem_append_right _ (List.mem_append_left _ hw))))), hg⟩
theorem x_r6 {w : Cond} (hw : w ∈ tables_1_6) (hg : goodWord w = true) : w ∈ x_Ts := List.mem_filter.mpr ⟨List.mem_append_right _ (List.mem_append_right _ (List.mem_append_right _ (List.mem_append_right _ (List.mem_append_right _ (List.mem_append_right _ (hw)))))), hg⟩
def x_Nw : List Cond := [Cond.methodLinkNest "StreamRefuter" 9 ⟨"StreamRefuter$Text", "<init>", "()V"⟩ "StreamRefuter",
  Cond.methodLinkNest "StreamRefuter" 34 ⟨"StreamRefuter$Problem", "<init>", "()V"⟩ "StreamRefuter",
  Cond.methodLinkNest "StreamRefuter" 44 ⟨"StreamRefuter$Tokens", "<init>", "()V"⟩ "StreamRefuter",
  Cond.methodLinkNest "StreamRefuter$Refuter" 24 ⟨"StreamRefuter$Tokens", "<init>", "()V"⟩ "StreamRefuter",
  Cond.methodLinkNest "StreamRefuter$Problem" 138 ⟨"StreamRefuter", "canJoin", "(III)Z"⟩ "StreamRefuter",
  Cond.methodLinkNest "StreamRefuter$Problem" 142 ⟨"StreamRefuter", "setOf", "(I)I"⟩ "StreamRefuter",
  Cond.methodLinkNest "StreamRefuter$Problem" 133 ⟨"StreamRefuter", "holdsClause", "(JI)Z"⟩ "StreamRefuter",
  Cond.methodLinkNest "StreamRefuter$Propagation" 54 ⟨"StreamRefuter", "opposites", "(I)I"⟩ "StreamRefuter",
  Cond.methodLinkNest "StreamRefuter$Propagation" 72 ⟨"StreamRefuter", "holdsClause", "(JI)Z"⟩ "StreamRefuter",
  Cond.methodLinkNest "StreamRefuter$Refuter" 82 ⟨"StreamRefuter", "opposites", "(I)I"⟩ "StreamRefuter",
  Cond.methodLinkNest "StreamRefuter$Refuter" 92 ⟨"StreamRefuter", "setOf", "(I)I"⟩ "StreamRefuter",
  Cond.methodLinkNest "StreamRefuter$Refuter" 98 ⟨"StreamRefuter", "holdsClause", "(JI)Z"⟩ "StreamRefuter",
  Cond.methodLinkNest "StreamRefuter$Propagation" 82 ⟨"StreamRefuter", "setOf", "(I)I"⟩ "StreamRefuter",
  Cond.methodLinkNest "StreamRefuter$Judge" 101 ⟨"StreamRefuter", "canJoin", "(III)Z"⟩ "StreamRefuter",
  Cond.methodLinkNest "StreamRefuter$Judge" 105 ⟨"StreamRefuter", "setOf", "(I)I"⟩ "StreamRefuter",
  Cond.methodLinkNest "StreamRefuter$Judge" 92 ⟨"StreamRefuter", "opposites", "(I)I"⟩ "StreamRefuter",
  Cond.declares ⟨"StreamRefuter$Numbers", "restart", "()V"⟩,
  Cond.declares ⟨"StreamRefuter$Numbers", "advance", "()V"⟩,
  Cond.declares ⟨"StreamRefuter$Numbers", "openStep", "()LStreamRefuter$Opening;"⟩,
  Cond.declares ⟨"StreamRefuter$Numbers", "enterClause", "(LStreamRefuter$Opening;)V"⟩]
theorem x_Nwk : ∀ q ∈ x_Nw, (∀ s U : State, s.WarmedH U.vm → va_Nw q s → va_Nw q U) ∧ q.onTables = true := by
  unfold x_Nw
  refine List.forall_mem_cons.mpr ⟨⟨fun _ _ hW h => va_Nw.warmM hW h, rfl⟩, ?_⟩
  refine List.forall_mem_cons.mpr ⟨⟨fun _ _ hW h => va_Nw.warmM hW h, rfl⟩, ?_⟩
  refine List.forall_mem_cons.mpr ⟨⟨fun _ _ hW h => va_Nw.warmM hW h, rfl⟩, ?_⟩
  refine List.forall_mem_cons.mpr ⟨⟨fun _ _ hW h => va_Nw.warmM hW h, rfl⟩, ?_⟩
  refine List.forall_mem_cons.mpr ⟨⟨fun _ _ hW h => va_Nw.warmM hW h, rfl⟩, ?_⟩
  refine List.forall_mem_cons.mpr ⟨⟨fun _ _ hW h => va_Nw.warmM hW h, rfl⟩, ?_⟩
  refine List.forall_mem_cons.mpr ⟨⟨fun _ _ hW h => va_Nw.warmM hW h, rfl⟩, ?_⟩
  refine List.forall_mem_cons.mpr ⟨⟨fun _ _ hW h => va_Nw.warmM hW h, rfl⟩, ?_⟩
  refine List.forall_mem_cons.mpr ⟨⟨fun _ _ hW h => va_Nw.warmM hW h, rfl⟩, ?_⟩
  refine List.forall_mem_cons.mpr ⟨⟨fun _ _ hW h => va_Nw.warmM hW h, rfl⟩, ?_⟩
  refine List.forall_mem_cons.mpr ⟨⟨fun _ _ hW h => va_Nw.warmM hW h, rfl⟩, ?_⟩
  refine List.forall_mem_cons.mpr ⟨⟨fun _ _ hW h => va_Nw.warmM hW h, rfl⟩, ?_⟩
  refine List.forall_mem_cons.mpr ⟨⟨fun _ _ hW h => va_Nw.warmM hW h, rfl⟩, ?_⟩
  refine List.forall_mem_cons.mpr ⟨⟨fun _ _ hW h => va_Nw.warmM hW h, rfl⟩, ?_⟩
  refine List.forall_mem_cons.mpr ⟨⟨fun _ _ hW h => va_Nw.warmM hW h, rfl⟩, ?_⟩
  refine List.forall_mem_cons.mpr ⟨⟨fun _ _ hW h => va_Nw.warmM hW h, rfl⟩, ?_⟩
  refine List.forall_mem_cons.mpr ⟨⟨fun _ _ hW h => va_Nw.warmD hW h, rfl⟩, ?_⟩
  refine List.forall_mem_cons.mpr ⟨⟨fun _ _ hW h => va_Nw.warmD hW h, rfl⟩, ?_⟩
  refine List.forall_mem_cons.mpr ⟨⟨fun _ _ hW h => va_Nw.warmD hW h, rfl⟩, ?_⟩
  refine List.forall_mem_cons.mpr ⟨⟨fun _ _ hW h => va_Nw.warmD hW h, rfl⟩, ?_⟩
  exact fun _ h => absurd h List.not_mem_nil
theorem x_Nwt : ∀ q ∈ x_Nw, q ∈ lw_tbl := by
  unfold x_Nw
  refine List.forall_mem_cons.mpr ⟨List.mem_append_right _ (List.mem_of_getElem? (i := 34) (by decide +kernel)), ?_⟩
  refine List.forall_mem_cons.mpr ⟨List.mem_append_right _ (List.mem_of_getElem? (i := 103) (by decide +kernel)), ?_⟩
  refine List.forall_mem_cons.mpr ⟨List.mem_append_right _ (List.mem_of_getElem? (i := 177) (by decide +kernel)), ?_⟩
  refine List.forall_mem_cons.mpr ⟨List.mem_append_right _ (List.mem_of_getElem? (i := 202) (by decide +kernel)), ?_⟩
  refine List.forall_mem_cons.mpr ⟨List.mem_append_right _ (List.mem_of_getElem? (i := 517) (by decide +kernel)), ?_⟩
  refine List.forall_mem_cons.mpr ⟨List.mem_append_right _ (List.mem_of_getElem? (i := 526) (by decide +kernel)), ?_⟩
  refine List.forall_mem_cons.mpr ⟨List.mem_append_right _ (List.mem_of_getElem? (i := 699) (by decide +kernel)), ?_⟩
  refine List.forall_mem_cons.mpr ⟨List.mem_append_right _ (List.mem_of_getElem? (i := 752) (by decide +kernel)), ?_⟩
  refine List.forall_mem_cons.mpr ⟨List.mem_append_right _ (List.mem_of_getElem? (i := 753) (by decide +kernel)), ?_⟩
  refine List.forall_mem_cons.mpr ⟨List.mem_append_right _ (List.mem_of_getElem? (i := 774) (by decide +kernel)), ?_⟩
  refine List.forall_mem_cons.mpr ⟨List.mem_append_right _ (List.mem_of_getElem? (i := 775) (by decide +kernel)), ?_⟩
  refine List.forall_mem_cons.mpr ⟨List.mem_append_right _ (List.mem_of_getElem? (i := 776) (by decide +kernel)), ?_⟩
  refine List.forall_mem_cons.mpr ⟨List.mem_append_right _ (List.mem_of_getElem? (i := 785) (by decide +kernel)), ?_⟩
  refine List.forall_mem_cons.mpr ⟨List.mem_append_right _ (List.mem_of_getElem? (i := 889) (by decide +kernel)), ?_⟩
  refine List.forall_mem_cons.mpr ⟨List.mem_append_right _ (List.mem_of_getElem? (i := 890) (by decide +kernel)), ?_⟩
  refine List.forall_mem_cons.mpr ⟨List.mem_append_right _ (List.mem_of_getElem? (i := 891) (by decide +kernel)), ?_⟩
  refine List.forall_mem_cons.mpr ⟨List.mem_append_right _ (List.mem_of_getElem? (i := 427) (by decide +kernel)), ?_⟩
  refine List.forall_mem_cons.mpr ⟨List.mem_append_right _ (List.mem_of_getElem? (i := 528) (by decide +kernel)), ?_⟩
  refine List.forall_mem_cons.mpr ⟨List.mem_append_right _ (List.mem_of_getElem? (i := 654) (by decide +kernel)), ?_⟩
  refine List.forall_mem_cons.mpr ⟨List.mem_append_right _ (List.mem_of_getElem? (i := 682) (by decide +kernel)), ?_⟩
  exact fun _ h => absurd h List.not_mem_nil
theorem x_k1 : Cond.code (x_mt 1).1 (x_mt 1).2.1 (x_mt 1).2.2.1 (x_mt 1).2.2.2.1 ∈ x_Ts := x_r1 (List.mem_of_getElem? (i := 28) rfl) rfl
theorem x_k2 : Cond.code (x_mt 2).1 (x_mt 2).2.1 (x_mt 2).2.2.1 (x_mt 2).2.2.2.1 ∈ x_Ts := x_r1 (List.mem_of_getElem? (i := 36) rfl) rfl
theorem x_k3 : Cond.code (x_mt 3).1 (x_mt 3).2.1 (x_mt 3).2.2.1 (x_mt 3).2.2.2.1 ∈ x_Ts := x_r1 (List.mem_of_getElem? (i := 50) rfl) rfl
theorem x_k4 : Cond.code (x_mt 4).1 (x_mt 4).2.1 (x_mt 4).2.2.1 (x_mt 4).2.2.2.1 ∈ x_Ts := x_r1 (List.mem_of_getElem? (i := 53) rfl) rfl
theorem x_k5 : Cond.code (x_mt 5).1 (x_mt 5).2.1 (x_mt 5).2.2.1 (x_mt 5).2.2.2.1 ∈ x_Ts := x_r1 (List.mem_of_getElem? (i := 94) rfl) rfl
theorem x_k6 : Cond.code (x_mt 6).1 (x_mt 6).2.1 (x_mt 6).2.2.1 (x_mt 6).2.2.2.1 ∈ x_Ts := x_r1 (List.mem_of_getElem? (i := 105) rfl) rfl
theorem x_k7 : Cond.code (x_mt 7).1 (x_mt 7).2.1 (x_mt 7).2.2.1 (x_mt 7).2.2.2.1 ∈ x_Ts := x_r1 (List.mem_of_getElem? (i := 179) rfl) rfl
theorem x_k8 : Cond.code (x_mt 8).1 (x_mt 8).2.1 (x_mt 8).2.2.1 (x_mt 8).2.2.2.1 ∈ x_Ts := x_r1 (List.mem_of_getElem? (i := 199) rfl) rfl
theorem x_k9 : Cond.code (x_mt 9).1 (x_mt 9).2.1 (x_mt 9).2.2.1 (x_mt 9).2.2.2.1 ∈ x_Ts := x_r1 (List.mem_of_getElem? (i := 207) rfl) rfl
theorem x_k10 : Cond.code (x_mt 10).1 (x_mt 10).2.1 (x_mt 10).2.2.1 (x_mt 10).2.2.2.1 ∈ x_Ts := x_r2 (List.mem_of_getElem? (i := 39) rfl) rfl
theorem x_k11 : Cond.code (x_mt 11).1 (x_mt 11).2.1 (x_mt 11).2.2.1 (x_mt 11).2.2.2.1 ∈ x_Ts := x_r4 (List.mem_of_getElem? (i := 196) rfl) rfl
theorem x_k12 : Cond.code (x_mt 12).1 (x_mt 12).2.1 (x_mt 12).2.2.1 (x_mt 12).2.2.2.1 ∈ x_Ts := x_r2 (List.mem_of_getElem? (i := 113) rfl) rfl
theorem x_k13 : Cond.code (x_mt 13).1 (x_mt 13).2.1 (x_mt 13).2.2.1 (x_mt 13).2.2.2.1 ∈ x_Ts := x_r2 (List.mem_of_getElem? (i := 117) rfl) rfl
theorem x_k14 : Cond.code (x_mt 14).1 (x_mt 14).2.1 (x_mt 14).2.2.1 (x_mt 14).2.2.2.1 ∈ x_Ts := x_r5 (List.mem_of_getElem? (i := 134) rfl) rfl
theorem x_k15 : Cond.code (x_mt 15).1 (x_mt 15).2.1 (x_mt 15).2.2.1 (x_mt 15).2.2.2.1 ∈ x_Ts := x_r2 (List.mem_of_getElem? (i := 121) rfl) rfl
theorem x_k16 : Cond.code (x_mt 16).1 (x_mt 16).2.1 (x_mt 16).2.2.1 (x_mt 16).2.2.2.1 ∈ x_Ts := x_r2 (List.mem_of_getElem? (i := 125) rfl) rfl
theorem x_k17 : Cond.code (x_mt 17).1 (x_mt 17).2.1 (x_mt 17).2.2.1 (x_mt 17).2.2.2.1 ∈ x_Ts := x_r5 (List.mem_of_getElem? (i := 139) rfl) rfl
theorem x_k19 : Cond.code (x_mt 19).1 (x_mt 19).2.1 (x_mt 19).2.2.1 (x_mt 19).2.2.2.1 ∈ x_Ts := x_r2 (List.mem_of_getElem? (i := 176) rfl) rfl
theorem x_k20 : Cond.code (x_mt 20).1 (x_mt 20).2.1 (x_mt 20).2.2.1 (x_mt 20).2.2.2.1 ∈ x_Ts := x_r2 (List.mem_of_getElem? (i := 180) rfl) rfl
theorem x_k21 : Cond.code (x_mt 21).1 (x_mt 21).2.1 (x_mt 21).2.2.1 (x_mt 21).2.2.2.1 ∈ x_Ts := x_r2 (List.mem_of_getElem? (i := 184) rfl) rfl
theorem x_k22 : Cond.code (x_mt 22).1 (x_mt 22).2.1 (x_mt 22).2.2.1 (x_mt 22).2.2.2.1 ∈ x_Ts := x_r2 (List.mem_of_getElem? (i := 190) rfl) rfl
theorem x_k23 : Cond.code (x_mt 23).1 (x_mt 23).2.1 (x_mt 23).2.2.1 (x_mt 23).2.2.2.1 ∈ x_Ts := x_r2 (List.mem_of_getElem? (i := 194) rfl) rfl
theorem x_k24 : Cond.code (x_mt 24).1 (x_mt 24).2.1 (x_mt 24).2.2.1 (x_mt 24).2.2.2.1 ∈ x_Ts := x_r2 (List.mem_of_getElem? (i := 198) rfl) rfl
theorem x_k25 : Cond.code (x_mt 25).1 (x_mt 25).2.1 (x_mt 25).2.2.1 (x_mt 25).2.2.2.1 ∈ x_Ts := x_r2 (List.mem_of_getElem? (i := 202) rfl) rfl
theorem x_k26 : Cond.code (x_mt 26).1 (x_mt 26).2.1 (x_mt 26).2.2.1 (x_mt 26).2.2.2.1 ∈ x_Ts := x_r2 (List.mem_of_getElem? (i := 206) rfl) rfl
theorem x_k27 : Cond.code (x_mt 27).1 (x_mt 27).2.1 (x_mt 27).2.2.1 (x_mt 27).2.2.2.1 ∈ x_Ts := x_r2 (List.mem_of_getElem? (i := 210) rfl) rfl
theorem x_k28 : Cond.code (x_mt 28).1 (x_mt 28).2.1 (x_mt 28).2.2.1 (x_mt 28).2.2.2.1 ∈ x_Ts := x_r2 (List.mem_of_getElem? (i := 214) rfl) rfl
theorem x_k29 : Cond.code (x_mt 29).1 (x_mt 29).2.1 (x_mt 29).2.2.1 (x_mt 29).2.2.2.1 ∈ x_Ts := x_r2 (List.mem_of_getElem? (i := 219) rfl) rfl
theorem x_k30 : Cond.code (x_mt 30).1 (x_mt 30).2.1 (x_mt 30).2.2.1 (x_mt 30).2.2.2.1 ∈ x_Ts := x_r3 (List.mem_of_getElem? (i := 32) rfl) rfl
theorem x_k31 : Cond.code (x_mt 31).1 (x_mt 31).2.1 (x_mt 31).2.2.1 (x_mt 31).2.2.2.1 ∈ x_Ts := x_r3 (List.mem_of_getElem? (i := 36) rfl) rfl
theorem x_k32 : Cond.code (x_mt 32).1 (x_mt 32).2.1 (x_mt 32).2.2.1 (x_mt 32).2.2.2.1 ∈ x_Ts := x_r3 (List.mem_of_getElem? (i := 39) rfl) rfl
theorem x_k33 : Cond.code (x_mt 33).1 (x_mt 33).2.1 (x_mt 33).2.2.1 (x_mt 33).2.2.2.1 ∈ x_Ts := x_r3 (List.mem_of_getElem? (i := 42) rfl) rfl
theorem x_k34 : Cond.code (x_mt 34).1 (x_mt 34).2.1 (x_mt 34).2.2.1 (x_mt 34).2.2.2.1 ∈ x_Ts := x_r3 (List.mem_of_getElem? (i := 45) rfl) rfl
theorem x_k35 : Cond.code (x_mt 35).1 (x_mt 35).2.1 (x_mt 35).2.2.1 (x_mt 35).2.2.2.1 ∈ x_Ts := x_r3 (List.mem_of_getElem? (i := 52) rfl) rfl
theorem x_k36 : Cond.code (x_mt 36).1 (x_mt 36).2.1 (x_mt 36).2.2.1 (x_mt 36).2.2.2.1 ∈ x_Ts := x_r3 (List.mem_of_getElem? (i := 56) rfl) rfl
theorem x_k37 : Cond.code (x_mt 37).1 (x_mt 37).2.1 (x_mt 37).2.2.1 (x_mt 37).2.2.2.1 ∈ x_Ts := x_r3 (List.mem_of_getElem? (i := 60) rfl) rfl
theorem x_k38 : Cond.code (x_mt 38).1 (x_mt 38).2.1 (x_mt 38).2.2.1 (x_mt 38).2.2.2.1 ∈ x_Ts := x_r3 (List.mem_of_getElem? (i := 66) rfl) rfl
theorem x_k39 : Cond.code (x_mt 39).1 (x_mt 39).2.1 (x_mt 39).2.2.1 (x_mt 39).2.2.2.1 ∈ x_Ts := x_r3 (List.mem_of_getElem? (i := 136) rfl) rfl
theorem x_k40 : Cond.code (x_mt 40).1 (x_mt 40).2.1 (x_mt 40).2.2.1 (x_mt 40).2.2.2.1 ∈ x_Ts := x_r3 (List.mem_of_getElem? (i := 140) rfl) rfl
theorem x_k41 : Cond.code (x_mt 41).1 (x_mt 41).2.1 (x_mt 41).2.2.1 (x_mt 41).2.2.2.1 ∈ x_Ts := x_r5 (List.mem_of_getElem? (i := 147) rfl) rfl
theorem x_k42 : Cond.code (x_mt 42).1 (x_mt 42).2.1 (x_mt 42).2.2.1 (x_mt 42).2.2.2.1 ∈ x_Ts := x_r5 (List.mem_of_getElem? (i := 151) rfl) rfl
theorem x_k43 : Cond.code (x_mt 43).1 (x_mt 43).2.1 (x_mt 43).2.2.1 (x_mt 43).2.2.2.1 ∈ x_Ts := x_r5 (List.mem_of_getElem? (i := 155) rfl) rfl
theorem x_k44 : Cond.code (x_mt 44).1 (x_mt 44).2.1 (x_mt 44).2.2.1 (x_mt 44).2.2.2.1 ∈ x_Ts := x_r5 (List.mem_of_getElem? (i := 159) rfl) rfl
theorem x_k45 : Cond.code (x_mt 45).1 (x_mt 45).2.1 (x_mt 45).2.2.1 (x_mt 45).2.2.2.1 ∈ x_Ts := x_r5 (List.mem_of_getElem? (i := 162) rfl) rfl
theorem x_k46 : Cond.code (x_mt 46).1 (x_mt 46).2.1 (x_mt 46).2.2.1 (x_mt 46).2.2.2.1 ∈ x_Ts := x_r5 (List.mem_of_getElem? (i := 166) rfl) rfl
theorem x_k47 : Cond.code (x_mt 47).1 (x_mt 47).2.1 (x_mt 47).2.2.1 (x_mt 47).2.2.2.1 ∈ x_Ts := x_r5 (List.mem_of_getElem? (i := 170) rfl) rfl
theorem x_k48 : Cond.code (x_mt 48).1 (x_mt 48).2.1 (x_mt 48).2.2.1 (x_mt 48).2.2.2.1 ∈ x_Ts := x_r5 (List.mem_of_getElem? (i := 174) rfl) rfl
theorem x_k49 : Cond.code (x_mt 49).1 (x_mt 49).2.1 (x_mt 49).2.2.1 (x_mt 49).2.2.2.1 ∈ x_Ts := x_r5 (List.mem_of_getElem? (i := 178) rfl) rfl
theorem x_k50 : Cond.code (x_mt 50).1 (x_mt 50).2.1 (x_mt 50).2.2.1 (x_mt 50).2.2.2.1 ∈ x_Ts := x_r5 (List.mem_of_getElem? (i := 182) rfl) rfl
theorem x_k51 : Cond.code (x_mt 51).1 (x_mt 51).2.1 (x_mt 51).2.2.1 (x_mt 51).2.2.2.1 ∈ x_Ts := x_r5 (List.mem_of_getElem? (i := 186) rfl) rfl
theorem x_k52 : Cond.code (x_mt 52).1 (x_mt 52).2.1 (x_mt 52).2.2.1 (x_mt 52).2.2.2.1 ∈ x_Ts := x_r5 (List.mem_of_getElem? (i := 190) rfl) rfl
theorem x_k53 : Cond.code (x_mt 53).1 (x_mt 53).2.1 (x_mt 53).2.2.1 (x_mt 53).2.2.2.1 ∈ x_Ts := x_r5 (List.mem_of_getElem? (i := 193) rfl) rfl
theorem x_k54 : Cond.code (x_mt 54).1 (x_mt 54).2.1 (x_mt 54).2.2.1 (x_mt 54).2.2.2.1 ∈ x_Ts := x_r5 (List.mem_of_getElem? (i := 197) rfl) rfl
theorem x_k55 : Cond.code (x_mt 55).1 (x_mt 55).2.1 (x_mt 55).2.2.1 (x_mt 55).2.2.2.1 ∈ x_Ts := x_r5 (List.mem_of_getElem? (i := 201) rfl) rfl
theorem x_k56 : Cond.code (x_mt 56).1 (x_mt 56).2.1 (x_mt 56).2.2.1 (x_mt 56).2.2.2.1 ∈ x_Ts := x_r5 (List.mem_of_getElem? (i := 130) rfl) rfl
theorem x_k58 : Cond.code (x_mt 58).1 (x_mt 58).2.1 (x_mt 58).2.2.1 (x_mt 58).2.2.2.1 ∈ x_Ts := x_r3 (List.mem_of_getElem? (i := 148) rfl) rfl
theorem x_k59 : Cond.code (x_mt 59).1 (x_mt 59).2.1 (x_mt 59).2.2.1 (x_mt 59).2.2.2.1 ∈ x_Ts := x_r3 (List.mem_of_getElem? (i := 167) rfl) rfl
theorem x_k60 : Cond.code (x_mt 60).1 (x_mt 60).2.1 (x_mt 60).2.2.1 (x_mt 60).2.2.2.1 ∈ x_Ts := x_r3 (List.mem_of_getElem? (i := 171) rfl) rfl
theorem x_k61 : Cond.code (x_mt 61).1 (x_mt 61).2.1 (x_mt 61).2.2.1 (x_mt 61).2.2.2.1 ∈ x_Ts := x_r3 (List.mem_of_getElem? (i := 189) rfl) rfl
theorem x_k62 : Cond.code (x_mt 62).1 (x_mt 62).2.1 (x_mt 62).2.2.1 (x_mt 62).2.2.2.1 ∈ x_Ts := x_r3 (List.mem_of_getElem? (i := 178) rfl) rfl
theorem x_k63 : Cond.code (x_mt 63).1 (x_mt 63).2.1 (x_mt 63).2.2.1 (x_mt 63).2.2.2.1 ∈ x_Ts := x_r3 (List.mem_of_getElem? (i := 198) rfl) rfl
theorem x_k64 : Cond.code (x_mt 64).1 (x_mt 64).2.1 (x_mt 64).2.2.1 (x_mt 64).2.2.2.1 ∈ x_Ts := x_r3 (List.mem_of_getElem? (i := 210) rfl) rfl
theorem x_k65 : Cond.code (x_mt 65).1 (x_mt 65).2.1 (x_mt 65).2.2.1 (x_mt 65).2.2.2.1 ∈ x_Ts := x_r3 (List.mem_of_getElem? (i := 206) rfl) rfl
theorem x_k66 : Cond.code (x_mt 66).1 (x_mt 66).2.1 (x_mt 66).2.2.1 (x_mt 66).2.2.2.1 ∈ x_Ts := x_r3 (List.mem_of_getElem? (i := 214) rfl) rfl
theorem x_k67 : Cond.code (x_mt 67).1 (x_mt 67).2.1 (x_mt 67).2.2.1 (x_mt 67).2.2.2.1 ∈ x_Ts := x_r3 (List.mem_of_getElem? (i := 218) rfl) rfl
theorem x_k68 : Cond.code (x_mt 68).1 (x_mt 68).2.1 (x_mt 68).2.2.1 (x_mt 68).2.2.2.1 ∈ x_Ts := x_r2 (List.mem_of_getElem? (i := 144) rfl) rfl
theorem x_k69 : Cond.code (x_mt 69).1 (x_mt 69).2.1 (x_mt 69).2.2.1 (x_mt 69).2.2.2.1 ∈ x_Ts := x_r5 (List.mem_of_getElem? (i := 205) rfl) rfl
theorem x_k70 : Cond.code (x_mt 70).1 (x_mt 70).2.1 (x_mt 70).2.2.1 (x_mt 70).2.2.2.1 ∈ x_Ts := x_r5 (List.mem_of_getElem? (i := 209) rfl) rfl
theorem x_k71 : Cond.code (x_mt 71).1 (x_mt 71).2.1 (x_mt 71).2.2.1 (x_mt 71).2.2.2.1 ∈ x_Ts := x_r5 (List.mem_of_getElem? (i := 213) rfl) rfl
theorem x_k72 : Cond.code (x_mt 72).1 (x_mt 72).2.1 (x_mt 72).2.2.1 (x_mt 72).2.2.2.1 ∈ x_Ts := x_r5 (List.mem_of_getElem? (i := 217) rfl) rfl
theorem x_k73 : Cond.code (x_mt 73).1 (x_mt 73).2.1 (x_mt 73).2.2.1 (x_mt 73).2.2.2.1 ∈ x_Ts := x_r5 (List.mem_of_getElem? (i := 221) rfl) rfl
theorem x_k75 : Cond.code (x_mt 75).1 (x_mt 75).2.1 (x_mt 75).2.2.1 (x_mt 75).2.2.2.1 ∈ x_Ts := x_r3 (List.mem_of_getElem? (i := 227) rfl) rfl
theorem x_k76 : Cond.code (x_mt 76).1 (x_mt 76).2.1 (x_mt 76).2.2.1 (x_mt 76).2.2.2.1 ∈ x_Ts := x_r3 (List.mem_of_getElem? (i := 231) rfl) rfl
theorem x_k77 : Cond.code (x_mt 77).1 (x_mt 77).2.1 (x_mt 77).2.2.1 (x_mt 77).2.2.2.1 ∈ x_Ts := x_r3 (List.mem_of_getElem? (i := 237) rfl) rfl
theorem x_k78 : Cond.code (x_mt 78).1 (x_mt 78).2.1 (x_mt 78).2.2.1 (x_mt 78).2.2.2.1 ∈ x_Ts := x_r4 (List.mem_of_getElem? (i := 1) rfl) rfl
theorem x_k79 : Cond.code (x_mt 79).1 (x_mt 79).2.1 (x_mt 79).2.2.1 (x_mt 79).2.2.2.1 ∈ x_Ts := x_r4 (List.mem_of_getElem? (i := 4) rfl) rfl
theorem x_k80 : Cond.code (x_mt 80).1 (x_mt 80).2.1 (x_mt 80).2.2.1 (x_mt 80).2.2.2.1 ∈ x_Ts := x_r4 (List.mem_of_getElem? (i := 8) rfl) rfl
theorem x_k81 : Cond.code (x_mt 81).1 (x_mt 81).2.1 (x_mt 81).2.2.1 (x_mt 81).2.2.2.1 ∈ x_Ts := x_r5 (List.mem_of_getElem? (i := 225) rfl) rfl
theorem x_k82 : Cond.code (x_mt 82).1 (x_mt 82).2.1 (x_mt 82).2.2.1 (x_mt 82).2.2.2.1 ∈ x_Ts := x_r5 (List.mem_of_getElem? (i := 229) rfl) rfl
theorem x_k83 : Cond.code (x_mt 83).1 (x_mt 83).2.1 (x_mt 83).2.2.1 (x_mt 83).2.2.2.1 ∈ x_Ts := x_r5 (List.mem_of_getElem? (i := 233) rfl) rfl
theorem x_k84 : Cond.code (x_mt 84).1 (x_mt 84).2.1 (x_mt 84).2.2.1 (x_mt 84).2.2.2.1 ∈ x_Ts := x_r5 (List.mem_of_getElem? (i := 237) rfl) rfl
theorem x_k85 : Cond.code (x_mt 85).1 (x_mt 85).2.1 (x_mt 85).2.2.1 (x_mt 85).2.2.2.1 ∈ x_Ts := x_r6 (List.mem_of_getElem? (i := 1) rfl) rfl
theorem x_k86 : Cond.code (x_mt 86).1 (x_mt 86).2.1 (x_mt 86).2.2.1 (x_mt 86).2.2.2.1 ∈ x_Ts := x_r2 (List.mem_of_getElem? (i := 129) rfl) rfl
theorem x_k87 : Cond.code (x_mt 87).1 (x_mt 87).2.1 (x_mt 87).2.2.1 (x_mt 87).2.2.2.1 ∈ x_Ts := x_r5 (List.mem_of_getElem? (i := 143) rfl) rfl
theorem x_k88 : Cond.code (x_mt 88).1 (x_mt 88).2.1 (x_mt 88).2.2.1 (x_mt 88).2.2.2.1 ∈ x_Ts := x_r2 (List.mem_of_getElem? (i := 133) rfl) rfl
theorem x_k89 : Cond.code (x_mt 89).1 (x_mt 89).2.1 (x_mt 89).2.2.1 (x_mt 89).2.2.2.1 ∈ x_Ts := x_r6 (List.mem_of_getElem? (i := 5) rfl) rfl
theorem x_k90 : Cond.code (x_mt 90).1 (x_mt 90).2.1 (x_mt 90).2.2.1 (x_mt 90).2.2.2.1 ∈ x_Ts := x_r2 (List.mem_of_getElem? (i := 137) rfl) rfl
theorem x_k91 : Cond.code (x_mt 91).1 (x_mt 91).2.1 (x_mt 91).2.2.1 (x_mt 91).2.2.2.1 ∈ x_Ts := x_r6 (List.mem_of_getElem? (i := 9) rfl) rfl
theorem x_k93 : Cond.code (x_mt 93).1 (x_mt 93).2.1 (x_mt 93).2.2.1 (x_mt 93).2.2.2.1 ∈ x_Ts := x_r4 (List.mem_of_getElem? (i := 15) rfl) rfl
theorem x_k94 : Cond.code (x_mt 94).1 (x_mt 94).2.1 (x_mt 94).2.2.1 (x_mt 94).2.2.2.1 ∈ x_Ts := x_r4 (List.mem_of_getElem? (i := 19) rfl) rfl
theorem x_k95 : Cond.code (x_mt 95).1 (x_mt 95).2.1 (x_mt 95).2.2.1 (x_mt 95).2.2.2.1 ∈ x_Ts := x_r4 (List.mem_of_getElem? (i := 23) rfl) rfl
theorem x_k96 : Cond.code (x_mt 96).1 (x_mt 96).2.1 (x_mt 96).2.2.1 (x_mt 96).2.2.2.1 ∈ x_Ts := x_r4 (List.mem_of_getElem? (i := 27) rfl) rfl
theorem x_k97 : Cond.code (x_mt 97).1 (x_mt 97).2.1 (x_mt 97).2.2.1 (x_mt 97).2.2.2.1 ∈ x_Ts := x_r4 (List.mem_of_getElem? (i := 31) rfl) rfl
theorem x_k98 : Cond.code (x_mt 98).1 (x_mt 98).2.1 (x_mt 98).2.2.1 (x_mt 98).2.2.2.1 ∈ x_Ts := x_r4 (List.mem_of_getElem? (i := 37) rfl) rfl
theorem x_k99 : Cond.code (x_mt 99).1 (x_mt 99).2.1 (x_mt 99).2.2.1 (x_mt 99).2.2.2.1 ∈ x_Ts := x_r6 (List.mem_of_getElem? (i := 13) rfl) rfl
theorem x_k100 : Cond.code (x_mt 100).1 (x_mt 100).2.1 (x_mt 100).2.2.1 (x_mt 100).2.2.2.1 ∈ x_Ts := x_r6 (List.mem_of_getElem? (i := 17) rfl) rfl
theorem x_k101 : Cond.code (x_mt 101).1 (x_mt 101).2.1 (x_mt 101).2.2.1 (x_mt 101).2.2.2.1 ∈ x_Ts := x_r6 (List.mem_of_getElem? (i := 21) rfl) rfl
theorem x_k102 : Cond.code (x_mt 102).1 (x_mt 102).2.1 (x_mt 102).2.2.1 (x_mt 102).2.2.2.1 ∈ x_Ts := x_r6 (List.mem_of_getElem? (i := 25) rfl) rfl
theorem x_k103 : Cond.code (x_mt 103).1 (x_mt 103).2.1 (x_mt 103).2.2.1 (x_mt 103).2.2.2.1 ∈ x_Ts := x_r6 (List.mem_of_getElem? (i := 29) rfl) rfl
theorem x_k104 : Cond.code (x_mt 104).1 (x_mt 104).2.1 (x_mt 104).2.2.1 (x_mt 104).2.2.2.1 ∈ x_Ts := x_r6 (List.mem_of_getElem? (i := 33) rfl) rfl
theorem x_k105 : Cond.code (x_mt 105).1 (x_mt 105).2.1 (x_mt 105).2.2.1 (x_mt 105).2.2.2.1 ∈ x_Ts := x_r6 (List.mem_of_getElem? (i := 37) rfl) rfl
theorem x_k106 : Cond.code (x_mt 106).1 (x_mt 106).2.1 (x_mt 106).2.2.1 (x_mt 106).2.2.2.1 ∈ x_Ts := x_r6 (List.mem_of_getElem? (i := 41) rfl) rfl
theorem x_k107 : Cond.code (x_mt 107).1 (x_mt 107).2.1 (x_mt 107).2.2.1 (x_mt 107).2.2.2.1 ∈ x_Ts := x_r6 (List.mem_of_getElem? (i := 45) rfl) rfl
theorem x_k109 : Cond.code (x_mt 109).1 (x_mt 109).2.1 (x_mt 109).2.2.1 (x_mt 109).2.2.2.1 ∈ x_Ts := x_r4 (List.mem_of_getElem? (i := 44) rfl) rfl
theorem x_k110 : Cond.code (x_mt 110).1 (x_mt 110).2.1 (x_mt 110).2.2.1 (x_mt 110).2.2.2.1 ∈ x_Ts := x_r4 (List.mem_of_getElem? (i := 48) rfl) rfl
theorem x_k111 : Cond.code (x_mt 111).1 (x_mt 111).2.1 (x_mt 111).2.2.1 (x_mt 111).2.2.2.1 ∈ x_Ts := x_r4 (List.mem_of_getElem? (i := 53) rfl) rfl
theorem x_k112 : Cond.code (x_mt 112).1 (x_mt 112).2.1 (x_mt 112).2.2.1 (x_mt 112).2.2.2.1 ∈ x_Ts := x_r4 (List.mem_of_getElem? (i := 60) rfl) rfl
theorem x_k113 : Cond.code (x_mt 113).1 (x_mt 113).2.1 (x_mt 113).2.2.1 (x_mt 113).2.2.2.1 ∈ x_Ts := x_r4 (List.mem_of_getElem? (i := 64) rfl) rfl
theorem x_k114 : Cond.code (x_mt 114).1 (x_mt 114).2.1 (x_mt 114).2.2.1 (x_mt 114).2.2.2.1 ∈ x_Ts := x_r6 (List.mem_of_getElem? (i := 49) rfl) rfl
theorem x_k115 : Cond.code (x_mt 115).1 (x_mt 115).2.1 (x_mt 115).2.2.1 (x_mt 115).2.2.2.1 ∈ x_Ts := x_r6 (List.mem_of_getElem? (i := 53) rfl) rfl
theorem x_k116 : Cond.code (x_mt 116).1 (x_mt 116).2.1 (x_mt 116).2.2.1 (x_mt 116).2.2.2.1 ∈ x_Ts := x_r6 (List.mem_of_getElem? (i := 57) rfl) rfl
theorem x_k117 : Cond.code (x_mt 117).1 (x_mt 117).2.1 (x_mt 117).2.2.1 (x_mt 117).2.2.2.1 ∈ x_Ts := x_r6 (List.mem_of_getElem? (i := 61) rfl) rfl
theorem x_k118 : Cond.code (x_mt 118).1 (x_mt 118).2.1 (x_mt 118).2.2.1 (x_mt 118).2.2.2.1 ∈ x_Ts := x_r6 (List.mem_of_getElem? (i := 65) rfl) rfl
theorem x_k119 : Cond.code (x_mt 119).1 (x_mt 119).2.1 (x_mt 119).2.2.1 (x_mt 119).2.2.2.1 ∈ x_Ts := x_r6 (List.mem_of_getElem? (i := 69) rfl) rfl
theorem x_k120 : Cond.code (x_mt 120).1 (x_mt 120).2.1 (x_mt 120).2.2.1 (x_mt 120).2.2.2.1 ∈ x_Ts := x_r6 (List.mem_of_getElem? (i := 73) rfl) rfl
theorem x_k121 : Cond.code (x_mt 121).1 (x_mt 121).2.1 (x_mt 121).2.2.1 (x_mt 121).2.2.2.1 ∈ x_Ts := x_r6 (List.mem_of_getElem? (i := 77) rfl) rfl
theorem x_k122 : Cond.code (x_mt 122).1 (x_mt 122).2.1 (x_mt 122).2.2.1 (x_mt 122).2.2.2.1 ∈ x_Ts := x_r6 (List.mem_of_getElem? (i := 81) rfl) rfl
theorem x_k124 : Cond.code (x_mt 124).1 (x_mt 124).2.1 (x_mt 124).2.2.1 (x_mt 124).2.2.2.1 ∈ x_Ts := x_r4 (List.mem_of_getElem? (i := 72) rfl) rfl
theorem x_k125 : Cond.code (x_mt 125).1 (x_mt 125).2.1 (x_mt 125).2.2.1 (x_mt 125).2.2.2.1 ∈ x_Ts := x_r4 (List.mem_of_getElem? (i := 76) rfl) rfl
theorem x_k126 : Cond.code (x_mt 126).1 (x_mt 126).2.1 (x_mt 126).2.2.1 (x_mt 126).2.2.2.1 ∈ x_Ts := x_r4 (List.mem_of_getElem? (i := 80) rfl) rfl
theorem x_k127 : Cond.code (x_mt 127).1 (x_mt 127).2.1 (x_mt 127).2.2.1 (x_mt 127).2.2.2.1 ∈ x_Ts := x_r4 (List.mem_of_getElem? (i := 85) rfl) rfl
theorem x_k128 : Cond.code (x_mt 128).1 (x_mt 128).2.1 (x_mt 128).2.2.1 (x_mt 128).2.2.2.1 ∈ x_Ts := x_r4 (List.mem_of_getElem? (i := 89) rfl) rfl
theorem x_k129 : Cond.code (x_mt 129).1 (x_mt 129).2.1 (x_mt 129).2.2.1 (x_mt 129).2.2.2.1 ∈ x_Ts := x_r4 (List.mem_of_getElem? (i := 93) rfl) rfl
theorem x_k130 : Cond.code (x_mt 130).1 (x_mt 130).2.1 (x_mt 130).2.2.1 (x_mt 130).2.2.2.1 ∈ x_Ts := x_r4 (List.mem_of_getElem? (i := 98) rfl) rfl
theorem x_k131 : Cond.code (x_mt 131).1 (x_mt 131).2.1 (x_mt 131).2.2.1 (x_mt 131).2.2.2.1 ∈ x_Ts := x_r4 (List.mem_of_getElem? (i := 103) rfl) rfl
theorem x_k132 : Cond.code (x_mt 132).1 (x_mt 132).2.1 (x_mt 132).2.2.1 (x_mt 132).2.2.2.1 ∈ x_Ts := x_r4 (List.mem_of_getElem? (i := 107) rfl) rfl
theorem x_k133 : Cond.code (x_mt 133).1 (x_mt 133).2.1 (x_mt 133).2.2.1 (x_mt 133).2.2.2.1 ∈ x_Ts := x_r4 (List.mem_of_getElem? (i := 111) rfl) rfl
theorem x_k134 : Cond.code (x_mt 134).1 (x_mt 134).2.1 (x_mt 134).2.2.1 (x_mt 134).2.2.2.1 ∈ x_Ts := x_r4 (List.mem_of_getElem? (i := 115) rfl) rfl
theorem x_k135 : Cond.code (x_mt 135).1 (x_mt 135).2.1 (x_mt 135).2.2.1 (x_mt 135).2.2.2.1 ∈ x_Ts := x_r4 (List.mem_of_getElem? (i := 119) rfl) rfl
theorem x_k136 : Cond.code (x_mt 136).1 (x_mt 136).2.1 (x_mt 136).2.2.1 (x_mt 136).2.2.2.1 ∈ x_Ts := x_r4 (List.mem_of_getElem? (i := 123) rfl) rfl
theorem x_k137 : Cond.code (x_mt 137).1 (x_mt 137).2.1 (x_mt 137).2.2.1 (x_mt 137).2.2.2.1 ∈ x_Ts := x_r2 (List.mem_of_getElem? (i := 160) rfl) rfl
theorem x_k138 : Cond.code (x_mt 138).1 (x_mt 138).2.1 (x_mt 138).2.2.1 (x_mt 138).2.2.2.1 ∈ x_Ts := x_r4 (List.mem_of_getElem? (i := 128) rfl) rfl
theorem x_k139 : Cond.code (x_mt 139).1 (x_mt 139).2.1 (x_mt 139).2.2.1 (x_mt 139).2.2.2.1 ∈ x_Ts := x_r6 (List.mem_of_getElem? (i := 85) rfl) rfl
theorem x_k140 : Cond.code (x_mt 140).1 (x_mt 140).2.1 (x_mt 140).2.2.1 (x_mt 140).2.2.2.1 ∈ x_Ts := x_r6 (List.mem_of_getElem? (i := 89) rfl) rfl
theorem x_k141 : Cond.code (x_mt 141).1 (x_mt 141).2.1 (x_mt 141).2.2.1 (x_mt 141).2.2.2.1 ∈ x_Ts := x_r6 (List.mem_of_getElem? (i := 93) rfl) rfl
theorem x_k142 : Cond.code (x_mt 142).1 (x_mt 142).2.1 (x_mt 142).2.2.1 (x_mt 142).2.2.2.1 ∈ x_Ts := x_r6 (List.mem_of_getElem? (i := 97) rfl) rfl
theorem x_k143 : Cond.code (x_mt 143).1 (x_mt 143).2.1 (x_mt 143).2.2.1 (x_mt 143).2.2.2.1 ∈ x_Ts := x_r6 (List.mem_of_getElem? (i := 101) rfl) rfl
theorem x_k144 : Cond.code (x_mt 144).1 (x_mt 144).2.1 (x_mt 144).2.2.1 (x_mt 144).2.2.2.1 ∈ x_Ts := x_r6 (List.mem_of_getElem? (i := 105) rfl) rfl
theorem x_k145 : Cond.code (x_mt 145).1 (x_mt 145).2.1 (x_mt 145).2.2.1 (x_mt 145).2.2.2.1 ∈ x_Ts := x_r6 (List.mem_of_getElem? (i := 109) rfl) rfl
theorem x_k146 : Cond.code (x_mt 146).1 (x_mt 146).2.1 (x_mt 146).2.2.1 (x_mt 146).2.2.2.1 ∈ x_Ts := x_r6 (List.mem_of_getElem? (i := 113) rfl) rfl
theorem x_k147 : Cond.code (x_mt 147).1 (x_mt 147).2.1 (x_mt 147).2.2.1 (x_mt 147).2.2.2.1 ∈ x_Ts := x_r6 (List.mem_of_getElem? (i := 117) rfl) rfl
theorem x_k148 : Cond.code (x_mt 148).1 (x_mt 148).2.1 (x_mt 148).2.2.1 (x_mt 148).2.2.2.1 ∈ x_Ts := x_r6 (List.mem_of_getElem? (i := 121) rfl) rfl
theorem x_k149 : Cond.code (x_mt 149).1 (x_mt 149).2.1 (x_mt 149).2.2.1 (x_mt 149).2.2.2.1 ∈ x_Ts := x_r6 (List.mem_of_getElem? (i := 125) rfl) rfl
theorem x_k150 : Cond.code (x_mt 150).1 (x_mt 150).2.1 (x_mt 150).2.2.1 (x_mt 150).2.2.2.1 ∈ x_Ts := x_r2 (List.mem_of_getElem? (i := 141) rfl) rfl
theorem x_k151 : Cond.code (x_mt 151).1 (x_mt 151).2.1 (x_mt 151).2.2.1 (x_mt 151).2.2.2.1 ∈ x_Ts := x_r6 (List.mem_of_getElem? (i := 129) rfl) rfl
theorem x_k152 : Cond.code (x_mt 152).1 (x_mt 152).2.1 (x_mt 152).2.2.1 (x_mt 152).2.2.2.1 ∈ x_Ts := x_r2 (List.mem_of_getElem? (i := 148) rfl) rfl
theorem x_k153 : Cond.code (x_mt 153).1 (x_mt 153).2.1 (x_mt 153).2.2.1 (x_mt 153).2.2.2.1 ∈ x_Ts := x_r6 (List.mem_of_getElem? (i := 133) rfl) rfl
theorem x_k154 : Cond.code (x_mt 154).1 (x_mt 154).2.1 (x_mt 154).2.2.1 (x_mt 154).2.2.2.1 ∈ x_Ts := x_r2 (List.mem_of_getElem? (i := 152) rfl) rfl
theorem x_k155 : Cond.code (x_mt 155).1 (x_mt 155).2.1 (x_mt 155).2.2.1 (x_mt 155).2.2.2.1 ∈ x_Ts := x_r6 (List.mem_of_getElem? (i := 137) rfl) rfl
theorem x_k156 : Cond.code (x_mt 156).1 (x_mt 156).2.1 (x_mt 156).2.2.1 (x_mt 156).2.2.2.1 ∈ x_Ts := x_r2 (List.mem_of_getElem? (i := 156) rfl) rfl
theorem x_k157 : Cond.code (x_mt 157).1 (x_mt 157).2.1 (x_mt 157).2.2.1 (x_mt 157).2.2.2.1 ∈ x_Ts := x_r6 (List.mem_of_getElem? (i := 141) rfl) rfl
theorem x_k158 : Cond.code (x_mt 158).1 (x_mt 158).2.1 (x_mt 158).2.2.1 (x_mt 158).2.2.2.1 ∈ x_Ts := x_r2 (List.mem_of_getElem? (i := 164) rfl) rfl
theorem x_k159 : Cond.code (x_mt 159).1 (x_mt 159).2.1 (x_mt 159).2.2.1 (x_mt 159).2.2.2.1 ∈ x_Ts := x_r2 (List.mem_of_getElem? (i := 168) rfl) rfl
theorem x_k160 : Cond.code (x_mt 160).1 (x_mt 160).2.1 (x_mt 160).2.2.1 (x_mt 160).2.2.2.1 ∈ x_Ts := x_r6 (List.mem_of_getElem? (i := 145) rfl) rfl
theorem x_k162 : Cond.code (x_mt 162).1 (x_mt 162).2.1 (x_mt 162).2.2.1 (x_mt 162).2.2.2.1 ∈ x_Ts := x_r4 (List.mem_of_getElem? (i := 135) rfl) rfl
theorem x_k163 : Cond.code (x_mt 163).1 (x_mt 163).2.1 (x_mt 163).2.2.1 (x_mt 163).2.2.2.1 ∈ x_Ts := x_r4 (List.mem_of_getElem? (i := 139) rfl) rfl
theorem x_k164 : Cond.code (x_mt 164).1 (x_mt 164).2.1 (x_mt 164).2.2.1 (x_mt 164).2.2.2.1 ∈ x_Ts := x_r4 (List.mem_of_getElem? (i := 143) rfl) rfl
theorem x_k165 : Cond.code (x_mt 165).1 (x_mt 165).2.1 (x_mt 165).2.2.1 (x_mt 165).2.2.2.1 ∈ x_Ts := x_r4 (List.mem_of_getElem? (i := 147) rfl) rfl
theorem x_k166 : Cond.code (x_mt 166).1 (x_mt 166).2.1 (x_mt 166).2.2.1 (x_mt 166).2.2.2.1 ∈ x_Ts := x_r4 (List.mem_of_getElem? (i := 151) rfl) rfl
theorem x_k167 : Cond.code (x_mt 167).1 (x_mt 167).2.1 (x_mt 167).2.2.1 (x_mt 167).2.2.2.1 ∈ x_Ts := x_r4 (List.mem_of_getElem? (i := 156) rfl) rfl
theorem x_k168 : Cond.code (x_mt 168).1 (x_mt 168).2.1 (x_mt 168).2.2.1 (x_mt 168).2.2.2.1 ∈ x_Ts := x_r4 (List.mem_of_getElem? (i := 160) rfl) rfl
theorem x_k169 : Cond.code (x_mt 169).1 (x_mt 169).2.1 (x_mt 169).2.2.1 (x_mt 169).2.2.2.1 ∈ x_Ts := x_r4 (List.mem_of_getElem? (i := 164) rfl) rfl
theorem x_k170 : Cond.code (x_mt 170).1 (x_mt 170).2.1 (x_mt 170).2.2.1 (x_mt 170).2.2.2.1 ∈ x_Ts := x_r4 (List.mem_of_getElem? (i := 168) rfl) rfl
theorem x_k171 : Cond.code (x_mt 171).1 (x_mt 171).2.1 (x_mt 171).2.2.1 (x_mt 171).2.2.2.1 ∈ x_Ts := x_r4 (List.mem_of_getElem? (i := 175) rfl) rfl
theorem x_k172 : Cond.code (x_mt 172).1 (x_mt 172).2.1 (x_mt 172).2.2.1 (x_mt 172).2.2.2.1 ∈ x_Ts := x_r4 (List.mem_of_getElem? (i := 179) rfl) rfl
theorem x_k173 : Cond.code (x_mt 173).1 (x_mt 173).2.1 (x_mt 173).2.2.1 (x_mt 173).2.2.2.1 ∈ x_Ts := x_r4 (List.mem_of_getElem? (i := 183) rfl) rfl
theorem x_k174 : Cond.code (x_mt 174).1 (x_mt 174).2.1 (x_mt 174).2.2.1 (x_mt 174).2.2.2.1 ∈ x_Ts := x_r4 (List.mem_of_getElem? (i := 187) rfl) rfl
theorem x_k175 : Cond.code (x_mt 175).1 (x_mt 175).2.1 (x_mt 175).2.2.1 (x_mt 175).2.2.2.1 ∈ x_Ts := x_r4 (List.mem_of_getElem? (i := 191) rfl) rfl
theorem x_k176 : Cond.code (x_mt 176).1 (x_mt 176).2.1 (x_mt 176).2.2.1 (x_mt 176).2.2.2.1 ∈ x_Ts := x_r6 (List.mem_of_getElem? (i := 149) rfl) rfl
theorem x_k177 : Cond.code (x_mt 177).1 (x_mt 177).2.1 (x_mt 177).2.2.1 (x_mt 177).2.2.2.1 ∈ x_Ts := x_r6 (List.mem_of_getElem? (i := 153) rfl) rfl
theorem x_k178 : Cond.code (x_mt 178).1 (x_mt 178).2.1 (x_mt 178).2.2.1 (x_mt 178).2.2.2.1 ∈ x_Ts := x_r6 (List.mem_of_getElem? (i := 157) rfl) rfl
theorem x_k179 : Cond.code (x_mt 179).1 (x_mt 179).2.1 (x_mt 179).2.2.1 (x_mt 179).2.2.2.1 ∈ x_Ts := x_r6 (List.mem_of_getElem? (i := 161) rfl) rfl
theorem x_k180 : Cond.code (x_mt 180).1 (x_mt 180).2.1 (x_mt 180).2.2.1 (x_mt 180).2.2.2.1 ∈ x_Ts := x_r6 (List.mem_of_getElem? (i := 165) rfl) rfl
theorem x_k181 : Cond.code (x_mt 181).1 (x_mt 181).2.1 (x_mt 181).2.2.1 (x_mt 181).2.2.2.1 ∈ x_Ts := x_r6 (List.mem_of_getElem? (i := 169) rfl) rfl
theorem x_k182 : Cond.code (x_mt 182).1 (x_mt 182).2.1 (x_mt 182).2.2.1 (x_mt 182).2.2.2.1 ∈ x_Ts := x_r6 (List.mem_of_getElem? (i := 173) rfl) rfl
theorem x_k183 : Cond.code (x_mt 183).1 (x_mt 183).2.1 (x_mt 183).2.2.1 (x_mt 183).2.2.2.1 ∈ x_Ts := x_r6 (List.mem_of_getElem? (i := 177) rfl) rfl
theorem x_k184 : Cond.code (x_mt 184).1 (x_mt 184).2.1 (x_mt 184).2.2.1 (x_mt 184).2.2.2.1 ∈ x_Ts := x_r6 (List.mem_of_getElem? (i := 181) rfl) rfl
theorem x_k185 : Cond.code (x_mt 185).1 (x_mt 185).2.1 (x_mt 185).2.2.1 (x_mt 185).2.2.2.1 ∈ x_Ts := x_r6 (List.mem_of_getElem? (i := 185) rfl) rfl
theorem x_k186 : Cond.code (x_mt 186).1 (x_mt 186).2.1 (x_mt 186).2.2.1 (x_mt 186).2.2.2.1 ∈ x_Ts := x_r6 (List.mem_of_getElem? (i := 189) rfl) rfl
theorem x_k187 : Cond.code (x_mt 187).1 (x_mt 187).2.1 (x_mt 187).2.2.1 (x_mt 187).2.2.2.1 ∈ x_Ts := x_r6 (List.mem_of_getElem? (i := 193) rfl) rfl
theorem x_k188 : Cond.code (x_mt 188).1 (x_mt 188).2.1 (x_mt 188).2.2.1 (x_mt 188).2.2.2.1 ∈ x_Ts := x_r6 (List.mem_of_getElem? (i := 197) rfl) rfl
theorem x_k189 : Cond.code (x_mt 189).1 (x_mt 189).2.1 (x_mt 189).2.2.1 (x_mt 189).2.2.2.1 ∈ x_Ts := x_r6 (List.mem_of_getElem? (i := 201) rfl) rfl
theorem x_k190 : Cond.code (x_mt 190).1 (x_mt 190).2.1 (x_mt 190).2.2.1 (x_mt 190).2.2.2.1 ∈ x_Ts := x_r6 (List.mem_of_getElem? (i := 205) rfl) rfl
theorem x_k191 : Cond.code (x_mt 191).1 (x_mt 191).2.1 (x_mt 191).2.2.1 (x_mt 191).2.2.2.1 ∈ x_Ts := x_r6 (List.mem_of_getElem? (i := 209) rfl) rfl
def x_css : List (Nat × Nat × Nat × Nat) := [(6, 138, 32, 3), (6, 142, 34, 1), (1, 173, 33, 1), (1, 176, 34, 1), (5, 31, 36, 1), (11, 128, 45, 1), (11, 149, 53, 1), (6, 133, 68, 2), (7, 44, 77, 2), (7, 51, 79, 2), (9, 54, 33, 1), (9, 72, 68, 2), (8, 82, 33, 1), (8, 92, 34, 1), (8, 98, 68, 2), (9, 82, 34, 1), (1, 149, 68, 2), (10, 92, 33, 1), (10, 101, 32, 3), (10, 105, 34, 1)]
def x_cssP (q : Nat × Nat × Nat × Nat) : Prop := x_CallS x_Ts x_Nw (x_on q.1) q.2.1 (x_mt q.2.2.1).1 (x_mt q.2.2.1).2.1 (x_mt q.2.2.1).2.2.1 (x_mt q.2.2.1).2.2.2.1 q.2.2.2
theorem x_css0 : x_cssP (6, 138, 32, 3) := x_CallS_nest x_TsG x_k32 (List.mem_of_getElem? (i := 4) rfl) (x_r3 (List.mem_of_getElem? (i := 38) rfl) rfl) (x_r1 (List.mem_of_getElem? (i := 1) rfl) rfl) ⟨by decide, by decide, by decide +kernel⟩
theorem x_css1 : x_cssP (6, 142, 34, 1) := x_CallS_nest x_TsG x_k34 (List.mem_of_getElem? (i := 5) rfl) (x_r3 (List.mem_of_getElem? (i := 44) rfl) rfl) (x_r1 (List.mem_of_getElem? (i := 1) rfl) rfl) ⟨by decide, by decide, by decide +kernel⟩
theorem x_css2 : x_cssP (1, 173, 33, 1) := x_CallS_own x_TsG x_k33 (x_r3 (List.mem_of_getElem? (i := 40) rfl) rfl) (x_r3 (List.mem_of_getElem? (i := 41) rfl) rfl) (x_r1 (List.mem_of_getElem? (i := 1) rfl) rfl) ⟨by decide, by decide, by decide +kernel⟩
theorem x_css3 : x_cssP (1, 176, 34, 1) := x_CallS_own x_TsG x_k34 (x_r3 (List.mem_of_getElem? (i := 43) rfl) rfl) (x_r3 (List.mem_of_getElem? (i := 44) rfl) rfl) (x_r1 (List.mem_of_getElem? (i := 1) rfl) rfl) ⟨by decide, by decide, by decide +kernel⟩
theorem x_css4 : x_cssP (5, 31, 36, 1) := x_CallS_own x_TsG x_k36 (x_r3 (List.mem_of_getElem? (i := 54) rfl) rfl) (x_r3 (List.mem_of_getElem? (i := 55) rfl) rfl) (x_r1 (List.mem_of_getElem? (i := 5) rfl) rfl) ⟨by decide, by decide, by decide +kernel⟩
theorem x_css5 : x_cssP (11, 128, 45, 1) := x_CallS_own x_TsG x_k45 (x_r5 (List.mem_of_getElem? (i := 160) rfl) rfl) (x_r5 (List.mem_of_getElem? (i := 161) rfl) rfl) (x_r1 (List.mem_of_getElem? (i := 11) rfl) rfl) ⟨by decide, by decide, by decide +kernel⟩
theorem x_css6 : x_cssP (11, 149, 53, 1) := x_CallS_own x_TsG x_k53 (x_r5 (List.mem_of_getElem? (i := 191) rfl) rfl) (x_r5 (List.mem_of_getElem? (i := 192) rfl) rfl) (x_r1 (List.mem_of_getElem? (i := 11) rfl) rfl) ⟨by decide, by decide, by decide +kernel⟩
theorem x_css7 : x_cssP (6, 133, 68, 2) := x_CallS_nest x_TsG x_k68 (List.mem_of_getElem? (i := 6) rfl) (x_r2 (List.mem_of_getElem? (i := 143) rfl) rfl) (x_r1 (List.mem_of_getElem? (i := 1) rfl) rfl) ⟨by decide, by decide, by decide +kernel⟩
theorem x_css8 : x_cssP (7, 44, 77, 2) := x_CallS_own x_TsG x_k77 (x_r3 (List.mem_of_getElem? (i := 235) rfl) rfl) (x_r3 (List.mem_of_getElem? (i := 236) rfl) rfl) (x_r1 (List.mem_of_getElem? (i := 7) rfl) rfl) ⟨by decide, by decide, by decide +kernel⟩
theorem x_css9 : x_cssP (7, 51, 79, 2) := x_CallS_own x_TsG x_k79 (x_r4 (List.mem_of_getElem? (i := 2) rfl) rfl) (x_r4 (List.mem_of_getElem? (i := 3) rfl) rfl) (x_r1 (List.mem_of_getElem? (i := 7) rfl) rfl) ⟨by decide, by decide, by decide +kernel⟩
theorem x_css10 : x_cssP (9, 54, 33, 1) := x_CallS_nest x_TsG x_k33 (List.mem_of_getElem? (i := 7) rfl) (x_r3 (List.mem_of_getElem? (i := 41) rfl) rfl) (x_r1 (List.mem_of_getElem? (i := 1) rfl) rfl) ⟨by decide, by decide, by decide +kernel⟩
theorem x_css11 : x_cssP (9, 72, 68, 2) := x_CallS_nest x_TsG x_k68 (List.mem_of_getElem? (i := 8) rfl) (x_r2 (List.mem_of_getElem? (i := 143) rfl) rfl) (x_r1 (List.mem_of_getElem? (i := 1) rfl) rfl) ⟨by decide, by decide, by decide +kernel⟩
theorem x_css12 : x_cssP (8, 82, 33, 1) := x_CallS_nest x_TsG x_k33 (List.mem_of_getElem? (i := 9) rfl) (x_r3 (List.mem_of_getElem? (i := 41) rfl) rfl) (x_r1 (List.mem_of_getElem? (i := 1) rfl) rfl) ⟨by decide, by decide, by decide +kernel⟩
theorem x_css13 : x_cssP (8, 92, 34, 1) := x_CallS_nest x_TsG x_k34 (List.mem_of_getElem? (i := 10) rfl) (x_r3 (List.mem_of_getElem? (i := 44) rfl) rfl) (x_r1 (List.mem_of_getElem? (i := 1) rfl) rfl) ⟨by decide, by decide, by decide +kernel⟩
theorem x_css14 : x_cssP (8, 98, 68, 2) := x_CallS_nest x_TsG x_k68 (List.mem_of_getElem? (i := 11) rfl) (x_r2 (List.mem_of_getElem? (i := 143) rfl) rfl) (x_r1 (List.mem_of_getElem? (i := 1) rfl) rfl) ⟨by decide, by decide, by decide +kernel⟩
theorem x_css15 : x_cssP (9, 82, 34, 1) := x_CallS_nest x_TsG x_k34 (List.mem_of_getElem? (i := 12) rfl) (x_r3 (List.mem_of_getElem? (i := 44) rfl) rfl) (x_r1 (List.mem_of_getElem? (i := 1) rfl) rfl) ⟨by decide, by decide, by decide +kernel⟩
theorem x_css16 : x_cssP (1, 149, 68, 2) := x_CallS_own x_TsG x_k68 (x_r2 (List.mem_of_getElem? (i := 142) rfl) rfl) (x_r2 (List.mem_of_getElem? (i := 143) rfl) rfl) (x_r1 (List.mem_of_getElem? (i := 1) rfl) rfl) ⟨by decide, by decide, by decide +kernel⟩
theorem x_css17 : x_cssP (10, 92, 33, 1) := x_CallS_nest x_TsG x_k33 (List.mem_of_getElem? (i := 15) rfl) (x_r3 (List.mem_of_getElem? (i := 41) rfl) rfl) (x_r1 (List.mem_of_getElem? (i := 1) rfl) rfl) ⟨by decide, by decide, by decide +kernel⟩
theorem x_css18 : x_cssP (10, 101, 32, 3) := x_CallS_nest x_TsG x_k32 (List.mem_of_getElem? (i := 13) rfl) (x_r3 (List.mem_of_getElem? (i := 38) rfl) rfl) (x_r1 (List.mem_of_getElem? (i := 1) rfl) rfl) ⟨by decide, by decide, by decide +kernel⟩
theorem x_css19 : x_cssP (10, 105, 34, 1) := x_CallS_nest x_TsG x_k34 (List.mem_of_getElem? (i := 14) rfl) (x_r3 (List.mem_of_getElem? (i := 44) rfl) rfl) (x_r1 (List.mem_of_getElem? (i := 1) rfl) rfl) ⟨by decide, by decide, by decide +kernel⟩
theorem x_css_ok : ∀ q ∈ x_css, x_cssP q := by
  unfold x_css
  refine List.forall_mem_cons.mpr ⟨x_css0, ?_⟩
  refine List.forall_mem_cons.mpr ⟨x_css1, ?_⟩
  refine List.forall_mem_cons.mpr ⟨x_css2, ?_⟩
  refine List.forall_mem_cons.mpr ⟨x_css3, ?_⟩
  refine List.forall_mem_cons.mpr ⟨x_css4, ?_⟩
  refine List.forall_mem_cons.mpr ⟨x_css5, ?_⟩
  refine List.forall_mem_cons.mpr ⟨x_css6, ?_⟩
  refine List.forall_mem_cons.mpr ⟨x_css7, ?_⟩
  refine List.forall_mem_cons.mpr ⟨x_css8, ?_⟩
  refine List.forall_mem_cons.mpr ⟨x_css9, ?_⟩
  refine List.forall_mem_cons.mpr ⟨x_css10, ?_⟩
  refine List.forall_mem_cons.mpr ⟨x_css11, ?_⟩
  refine List.forall_mem_cons.mpr ⟨x_css12, ?_⟩
  refine List.forall_mem_cons.mpr ⟨x_css13, ?_⟩
  refine List.forall_mem_cons.mpr ⟨x_css14, ?_⟩
  refine List.forall_mem_cons.mpr ⟨x_css15, ?_⟩
  refine List.forall_mem_cons.mpr ⟨x_css16, ?_⟩
  refine List.forall_mem_cons.mpr ⟨x_css17, ?_⟩
  refine List.forall_mem_cons.mpr ⟨x_css18, ?_⟩
  refine List.forall_mem_cons.mpr ⟨x_css19, ?_⟩
  exact fun _ h => absurd h List.not_mem_nil
def x_cis : List (Nat × Nat × Nat × Nat) := [(0, 36, 1, 1), (0, 39, 11, 1), (1, 9, 2, 1), (1, 18, 3, 2), (1, 27, 5, 2), (1, 34, 6, 1), (1, 44, 7, 1), (1, 54, 8, 2), (1, 63, 10, 2), (3, 3, 4, 2), (5, 3, 4, 2), (8, 24, 7, 1), (8, 49, 9, 2)]
def x_cisP (q : Nat × Nat × Nat × Nat) : Prop := (x_mt q.2.2.1).2.2.2.1 = none ∧ x_CallI x_Ts x_Nw (x_on q.1) q.2.1 (x_mt q.2.2.1).1 (x_mt q.2.2.1).2.1 (x_mt q.2.2.1).2.2.1 q.2.2.2
theorem x_cis0 : x_cisP (0, 36, 1, 1) := ⟨rfl, x_CallI_own x_TsG x_k1 (x_r1 (List.mem_of_getElem? (i := 26) rfl) rfl) (x_r1 (List.mem_of_getElem? (i := 27) rfl) rfl) (x_r1 (List.mem_of_getElem? (i := 1) rfl) rfl) rfl ⟨by decide, by decide, by decide +kernel⟩⟩
theorem x_cis1 : x_cisP (0, 39, 11, 1) := ⟨rfl, x_CallI_own x_TsG x_k11 (x_r4 (List.mem_of_getElem? (i := 194) rfl) rfl) (x_r4 (List.mem_of_getElem? (i := 195) rfl) rfl) (x_r1 (List.mem_of_getElem? (i := 11) rfl) rfl) rfl ⟨by decide, by decide, by decide +kernel⟩⟩
theorem x_cis2 : x_cisP (1, 9, 2, 1) := ⟨rfl, x_CallI_nest x_TsG x_k2 (List.mem_of_getElem? (i := 0) rfl) (x_r1 (List.mem_of_getElem? (i := 35) rfl) rfl) (x_r1 (List.mem_of_getElem? (i := 2) rfl) rfl) rfl ⟨by decide, by decide, by decide +kernel⟩⟩
theorem x_cis3 : x_cisP (1, 18, 3, 2) := ⟨rfl, x_CallI_own x_TsG x_k3 (x_r1 (List.mem_of_getElem? (i := 48) rfl) rfl) (x_r1 (List.mem_of_getElem? (i := 49) rfl) rfl) (x_r1 (List.mem_of_getElem? (i := 4) rfl) rfl) rfl ⟨by decide, by decide, by decide +kernel⟩⟩
theorem x_cis4 : x_cisP (1, 27, 5, 2) := ⟨rfl, x_CallI_own x_TsG x_k5 (x_r1 (List.mem_of_getElem? (i := 92) rfl) rfl) (x_r1 (List.mem_of_getElem? (i := 93) rfl) rfl) (x_r1 (List.mem_of_getElem? (i := 5) rfl) rfl) rfl ⟨by decide, by decide, by decide +kernel⟩⟩
theorem x_cis5 : x_cisP (1, 34, 6, 1) := ⟨rfl, x_CallI_nest x_TsG x_k6 (List.mem_of_getElem? (i := 1) rfl) (x_r1 (List.mem_of_getElem? (i := 104) rfl) rfl) (x_r1 (List.mem_of_getElem? (i := 6) rfl) rfl) rfl ⟨by decide, by decide, by decide +kernel⟩⟩
theorem x_cis6 : x_cisP (1, 44, 7, 1) := ⟨rfl, x_CallI_nest x_TsG x_k7 (List.mem_of_getElem? (i := 2) rfl) (x_r1 (List.mem_of_getElem? (i := 178) rfl) rfl) (x_r1 (List.mem_of_getElem? (i := 7) rfl) rfl) rfl ⟨by decide, by decide, by decide +kernel⟩⟩
theorem x_cis7 : x_cisP (1, 54, 8, 2) := ⟨rfl, x_CallI_own x_TsG x_k8 (x_r1 (List.mem_of_getElem? (i := 197) rfl) rfl) (x_r1 (List.mem_of_getElem? (i := 198) rfl) rfl) (x_r1 (List.mem_of_getElem? (i := 8) rfl) rfl) rfl ⟨by decide, by decide, by decide +kernel⟩⟩
theorem x_cis8 : x_cisP (1, 63, 10, 2) := ⟨rfl, x_CallI_own x_TsG x_k10 (x_r2 (List.mem_of_getElem? (i := 37) rfl) rfl) (x_r2 (List.mem_of_getElem? (i := 38) rfl) rfl) (x_r1 (List.mem_of_getElem? (i := 10) rfl) rfl) rfl ⟨by decide, by decide, by decide +kernel⟩⟩
theorem x_cis9 : x_cisP (3, 3, 4, 2) := ⟨rfl, x_CallI_own x_TsG x_k4 (x_r1 (List.mem_of_getElem? (i := 51) rfl) rfl) (x_r1 (List.mem_of_getElem? (i := 52) rfl) rfl) (x_r1 (List.mem_of_getElem? (i := 3) rfl) rfl) rfl ⟨by decide, by decide, by decide +kernel⟩⟩
theorem x_cis10 : x_cisP (5, 3, 4, 2) := ⟨rfl, x_CallI_own x_TsG x_k4 (x_r1 (List.mem_of_getElem? (i := 95) rfl) rfl) (x_r1 (List.mem_of_getElem? (i := 52) rfl) rfl) (x_r1 (List.mem_of_getElem? (i := 3) rfl) rfl) rfl ⟨by decide, by decide, by decide +kernel⟩⟩
theorem x_cis11 : x_cisP (8, 24, 7, 1) := ⟨rfl, x_CallI_nest x_TsG x_k7 (List.mem_of_getElem? (i := 3) rfl) (x_r1 (List.mem_of_getElem? (i := 178) rfl) rfl) (x_r1 (List.mem_of_getElem? (i := 7) rfl) rfl) rfl ⟨by decide, by decide, by decide +kernel⟩⟩
theorem x_cis12 : x_cisP (8, 49, 9, 2) := ⟨rfl, x_CallI_own x_TsG x_k9 (x_r1 (List.mem_of_getElem? (i := 205) rfl) rfl) (x_r1 (List.mem_of_getElem? (i := 206) rfl) rfl) (x_r1 (List.mem_of_getElem? (i := 9) rfl) rfl) rfl ⟨by decide, by decide, by decide +kernel⟩⟩
theorem x_cis_ok : ∀ q ∈ x_cis, x_cisP q := by
  unfold x_cis
  refine List.forall_mem_cons.mpr ⟨x_cis0, ?_⟩
  refine List.forall_mem_cons.mpr ⟨x_cis1, ?_⟩
  refine List.forall_mem_cons.mpr ⟨x_cis2, ?_⟩
  refine List.forall_mem_cons.mpr ⟨x_cis3, ?_⟩
  refine List.forall_mem_cons.mpr ⟨x_cis4, ?_⟩
  refine List.forall_mem_cons.mpr ⟨x_cis5, ?_⟩
  refine List.forall_mem_cons.mpr ⟨x_cis6, ?_⟩
  refine List.forall_mem_cons.mpr ⟨x_cis7, ?_⟩
  refine List.forall_mem_cons.mpr ⟨x_cis8, ?_⟩
  refine List.forall_mem_cons.mpr ⟨x_cis9, ?_⟩
  refine List.forall_mem_cons.mpr ⟨x_cis10, ?_⟩
  refine List.forall_mem_cons.mpr ⟨x_cis11, ?_⟩
  refine List.forall_mem_cons.mpr ⟨x_cis12, ?_⟩
  exact fun _ h => absurd h List.not_mem_nil
def x_cvs : List (Nat × Nat × Nat × Nat) := [(0, 42, 12, 3), (0, 46, 14, 3), (0, 47, 15, 1), (0, 50, 17, 1), (0, 56, 41, 1), (0, 57, 56, 1), (0, 63, 69, 2), (0, 66, 81, 1), (0, 67, 86, 1), (0, 70, 87, 1), (0, 71, 88, 1), (0, 74, 89, 1), (0, 75, 90, 3), (0, 79, 91, 3), (0, 82, 99, 1), (0, 85, 114, 1), (0, 88, 139, 1), (0, 89, 150, 2), (0, 93, 151, 2), (0, 94, 152, 2), (0, 98, 153, 2), (0, 99, 154, 1), (0, 102, 155, 1), (0, 103, 156, 2), (0, 106, 157, 2), (0, 107, 158, 3), (0, 111, 160, 3), (0, 114, 176, 1), (1, 74, 13, 3), (1, 78, 16, 1), (0, 7, 19, 1), (1, 82, 20, 2), (1, 89, 39, 1), (1, 92, 40, 1), (6, 55, 21, 1), (6, 63, 23, 1), (6, 68, 29, 2), (6, 80, 30, 3), (3, 19, 24, 1), (3, 25, 25, 2), (3, 32, 27, 2), (3, 60, 26, 2), (3, 67, 28, 2), (6, 84, 31, 2), (6, 88, 38, 1), (5, 19, 26, 2), (5, 34, 37, 2), (5, 57, 24, 1), (11, 178, 42, 1), (11, 193, 54, 3), (11, 206, 55, 1), (11, 172, 43, 1), (11, 175, 51, 2), (11, 142, 44, 1), (11, 162, 46, 2), (11, 165, 47, 1), (11, 168, 48, 3), (11, 155, 49, 1), (11, 146, 50, 1), (11, 159, 52, 2), (0, 15, 58, 2), (1, 105, 59, 3), (6, 91, 60, 2), (6, 108, 63, 2), (6, 117, 66, 3), (3, 39, 23, 1), (5, 53, 35, 1), (6, 127, 67, 3), (11, 216, 70, 1), (11, 219, 72, 2), (11, 209, 71, 3), (11, 212, 73, 3), (0, 21, 75, 1), (1, 112, 76, 2), (1, 115, 80, 1), (7, 30, 40, 1), (7, 38, 23, 1), (7, 26, 78, 2), (11, 232, 82, 1), (11, 235, 85, 1), (11, 225, 83, 2), (11, 229, 84, 1), (0, 24, 93, 1), (1, 134, 94, 2), (8, 64, 95, 5), (9, 45, 96, 2), (9, 65, 97, 2), (9, 62, 98, 2), (11, 277, 100, 1), (11, 274, 101, 2), (11, 259, 102, 1), (11, 262, 103, 1), (11, 250, 104, 1), (11, 244, 105, 2), (11, 256, 107, 2), (11, 241, 106, 2), (0, 27, 109, 1), (1, 138, 110, 2), (8, 68, 94, 2), (8, 75, 111, 4), (8, 102, 112, 4), (9, 58, 113, 3), (11, 292, 115, 2), (11, 280, 116, 2), (11, 283, 117, 1), (11, 286, 118, 3), (11, 289, 122, 2), (11, 265, 119, 1), (11, 268, 120, 3), (11, 271, 121, 1), (0, 30, 124, 1), (1, 141, 125, 3), (8, 106, 126, 3), (8, 110, 127, 3), (8, 114, 131, 3), (8, 117, 133, 2), (8, 121, 138, 1), (8, 127, 40, 1), (8, 133, 128, 1), (8, 142, 129, 2), (8, 146, 130, 1), (8, 158, 78, 2), (8, 154, 132, 3), (8, 167, 134, 4), (8, 171, 135, 4), (8, 175, 136, 4), (7, 22, 137, 2), (11, 322, 140, 2), (11, 325, 148, 1), (11, 328, 149, 4), (11, 313, 141, 2), (11, 319, 143, 2), (11, 298, 142, 2), (11, 316, 144, 2), (11, 307, 145, 2), (11, 310, 146, 3), (11, 304, 147, 2), (1, 162, 137, 2), (1, 166, 159, 3), (0, 33, 162, 1), (1, 170, 163, 3), (10, 52, 164, 3), (10, 59, 166, 2), (10, 63, 137, 2), (10, 66, 167, 2), (10, 70, 169, 3), (10, 81, 165, 3), (10, 85, 168, 2), (10, 88, 170, 1), (10, 95, 171, 1), (10, 98, 173, 3), (10, 108, 172, 2), (10, 111, 174, 2), (10, 114, 175, 2), (11, 370, 177, 1), (11, 373, 179, 2), (11, 376, 181, 2), (11, 379, 183, 4), (11, 361, 178, 3), (11, 332, 180, 2), (11, 338, 182, 2), (11, 364, 184, 2), (11, 367, 185, 4), (11, 347, 186, 2), (11, 357, 188, 4), (11, 341, 187, 2), (11, 350, 189, 3), (11, 353, 190, 5), (11, 344, 191, 3)]
def x_cvsP (q : Nat × Nat × Nat × Nat) : Prop := x_prog.2.2.2.1 q.2.2.1 < 90 ∧ x_cts[x_prog.2.2.2.1 q.2.2.1]? = some (x_ct (x_prog.2.2.2.1 q.2.2.1)) ∧ x_CallV x_Ts x_Nw (x_on q.1) q.2.1 (x_ct (x_prog.2.2.2.1 q.2.2.1)).1 (x_mt q.2.2.1).1 (x_mt q.2.2.1).2.1 (x_mt q.2.2.1).2.2.1 (x_mt q.2.2.1).2.2.2.1 q.2.2.2
theorem x_cvs0 : x_cvsP (0, 42, 12, 3) := ⟨by decide, rfl, x_CallV_own x_TsG x_k12 (x_r2 (List.mem_of_getElem? (i := 110) rfl) rfl) (x_r2 (List.mem_of_getElem? (i := 111) rfl) rfl) (x_r1 (List.mem_of_getElem? (i := 1) rfl) rfl) (x_r2 (List.mem_of_getElem? (i := 112) rfl) rfl) ⟨by decide, by decide, by decide +kernel⟩⟩
theorem x_cvs1 : x_cvsP (0, 46, 14, 3) := ⟨by decide, rfl, x_CallV_own x_TsG x_k14 (x_r5 (List.mem_of_getElem? (i := 131) rfl) rfl) (x_r5 (List.mem_of_getElem? (i := 132) rfl) rfl) (x_r1 (List.mem_of_getElem? (i := 11) rfl) rfl) (x_r5 (List.mem_of_getElem? (i := 133) rfl) rfl) ⟨by decide, by decide, by decide +kernel⟩⟩
theorem x_cvs2 : x_cvsP (0, 47, 15, 1) := ⟨by decide, rfl, x_CallV_own x_TsG x_k15 (x_r2 (List.mem_of_getElem? (i := 118) rfl) rfl) (x_r2 (List.mem_of_getElem? (i := 119) rfl) rfl) (x_r1 (List.mem_of_getElem? (i := 1) rfl) rfl) (x_r2 (List.mem_of_getElem? (i := 120) rfl) rfl) ⟨by decide, by decide, by decide +kernel⟩⟩
theorem x_cvs3 : x_cvsP (0, 50, 17, 1) := ⟨by decide, rfl, x_CallV_own x_TsG x_k17 (x_r5 (List.mem_of_getElem? (i := 136) rfl) rfl) (x_r5 (List.mem_of_getElem? (i := 137) rfl) rfl) (x_r1 (List.mem_of_getElem? (i := 11) rfl) rfl) (x_r5 (List.mem_of_getElem? (i := 138) rfl) rfl) ⟨by decide, by decide, by decide +kernel⟩⟩
theorem x_cvs4 : x_cvsP (0, 56, 41, 1) := ⟨by decide, rfl, x_CallV_own x_TsG x_k41 (x_r5 (List.mem_of_getElem? (i := 144) rfl) rfl) (x_r5 (List.mem_of_getElem? (i := 145) rfl) rfl) (x_r1 (List.mem_of_getElem? (i := 11) rfl) rfl) (x_r5 (List.mem_of_getElem? (i := 146) rfl) rfl) ⟨by decide, by decide, by decide +kernel⟩⟩
theorem x_cvs5 : x_cvsP (0, 57, 56, 1) := ⟨by decide, rfl, x_CallV_own x_TsG x_k56 (x_r5 (List.mem_of_getElem? (i := 127) rfl) rfl) (x_r5 (List.mem_of_getElem? (i := 128) rfl) rfl) (x_r1 (List.mem_of_getElem? (i := 11) rfl) rfl) (x_r5 (List.mem_of_getElem? (i := 129) rfl) rfl) ⟨by decide, by decide, by decide +kernel⟩⟩
theorem x_cvs6 : x_cvsP (0, 63, 69, 2) := ⟨by decide, rfl, x_CallV_own x_TsG x_k69 (x_r5 (List.mem_of_getElem? (i := 202) rfl) rfl) (x_r5 (List.mem_of_getElem? (i := 203) rfl) rfl) (x_r1 (List.mem_of_getElem? (i := 11) rfl) rfl) (x_r5 (List.mem_of_getElem? (i := 204) rfl) rfl) ⟨by decide, by decide, by decide +kernel⟩⟩
theorem x_cvs7 : x_cvsP (0, 66, 81, 1) := ⟨by decide, rfl, x_CallV_own x_TsG x_k81 (x_r5 (List.mem_of_getElem? (i := 222) rfl) rfl) (x_r5 (List.mem_of_getElem? (i := 223) rfl) rfl) (x_r1 (List.mem_of_getElem? (i := 11) rfl) rfl) (x_r5 (List.mem_of_getElem? (i := 224) rfl) rfl) ⟨by decide, by decide, by decide +kernel⟩⟩
theorem x_cvs8 : x_cvsP (0, 67, 86, 1) := ⟨by decide, rfl, x_CallV_own x_TsG x_k86 (x_r2 (List.mem_of_getElem? (i := 126) rfl) rfl) (x_r2 (List.mem_of_getElem? (i := 127) rfl) rfl) (x_r1 (List.mem_of_getElem? (i := 1) rfl) rfl) (x_r2 (List.mem_of_getElem? (i := 128) rfl) rfl) ⟨by decide, by decide, by decide +kernel⟩⟩
theorem x_cvs9 : x_cvsP (0, 70, 87, 1) := ⟨by decide, rfl, x_CallV_own x_TsG x_k87 (x_r5 (List.mem_of_getElem? (i := 140) rfl) rfl) (x_r5 (List.mem_of_getElem? (i := 141) rfl) rfl) (x_r1 (List.mem_of_getElem? (i := 11) rfl) rfl) (x_r5 (List.mem_of_getElem? (i := 142) rfl) rfl) ⟨by decide, by decide, by decide +kernel⟩⟩
theorem x_cvs10 : x_cvsP (0, 71, 88, 1) := ⟨by decide, rfl, x_CallV_own x_TsG x_k88 (x_r2 (List.mem_of_getElem? (i := 130) rfl) rfl) (x_r2 (List.mem_of_getElem? (i := 131) rfl) rfl) (x_r1 (List.mem_of_getElem? (i := 1) rfl) rfl) (x_r2 (List.mem_of_getElem? (i := 132) rfl) rfl) ⟨by decide, by decide, by decide +kernel⟩⟩
theorem x_cvs11 : x_cvsP (0, 74, 89, 1) := ⟨by decide, rfl, x_CallV_own x_TsG x_k89 (x_r6 (List.mem_of_getElem? (i := 2) rfl) rfl) (x_r6 (List.mem_of_getElem? (i := 3) rfl) rfl) (x_r1 (List.mem_of_getElem? (i := 11) rfl) rfl) (x_r6 (List.mem_of_getElem? (i := 4) rfl) rfl) ⟨by decide, by decide, by decide +kernel⟩⟩
theorem x_cvs12 : x_cvsP (0, 75, 90, 3) := ⟨by decide, rfl, x_CallV_own x_TsG x_k90 (x_r2 (List.mem_of_getElem? (i := 134) rfl) rfl) (x_r2 (List.mem_of_getElem? (i := 135) rfl) rfl) (x_r1 (List.mem_of_getElem? (i := 1) rfl) rfl) (x_r2 (List.mem_of_getElem? (i := 136) rfl) rfl) ⟨by decide, by decide, by decide +kernel⟩⟩
theorem x_cvs13 : x_cvsP (0, 79, 91, 3) := ⟨by decide, rfl, x_CallV_own x_TsG x_k91 (x_r6 (List.mem_of_getElem? (i := 6) rfl) rfl) (x_r6 (List.mem_of_getElem? (i := 7) rfl) rfl) (x_r1 (List.mem_of_getElem? (i := 11) rfl) rfl) (x_r6 (List.mem_of_getElem? (i := 8) rfl) rfl) ⟨by decide, by decide, by decide +kernel⟩⟩
theorem x_cvs14 : x_cvsP (0, 82, 99, 1) := ⟨by decide, rfl, x_CallV_own x_TsG x_k99 (x_r6 (List.mem_of_getElem? (i := 10) rfl) rfl) (x_r6 (List.mem_of_getElem? (i := 11) rfl) rfl) (x_r1 (List.mem_of_getElem? (i := 11) rfl) rfl) (x_r6 (List.mem_of_getElem? (i := 12) rfl) rfl) ⟨by decide, by decide, by decide +kernel⟩⟩
theorem x_cvs15 : x_cvsP (0, 85, 114, 1) := ⟨by decide, rfl, x_CallV_own x_TsG x_k114 (x_r6 (List.mem_of_getElem? (i := 46) rfl) rfl) (x_r6 (List.mem_of_getElem? (i := 47) rfl) rfl) (x_r1 (List.mem_of_getElem? (i := 11) rfl) rfl) (x_r6 (List.mem_of_getElem? (i := 48) rfl) rfl) ⟨by decide, by decide, by decide +kernel⟩⟩
theorem x_cvs16 : x_cvsP (0, 88, 139, 1) := ⟨by decide, rfl, x_CallV_own x_TsG x_k139 (x_r6 (List.mem_of_getElem? (i := 82) rfl) rfl) (x_r6 (List.mem_of_getElem? (i := 83) rfl) rfl) (x_r1 (List.mem_of_getElem? (i := 11) rfl) rfl) (x_r6 (List.mem_of_getElem? (i := 84) rfl) rfl) ⟨by decide, by decide, by decide +kernel⟩⟩
theorem x_cvs17 : x_cvsP (0, 89, 150, 2) := ⟨by decide, rfl, x_CallV_own x_TsG x_k150 (x_r2 (List.mem_of_getElem? (i := 138) rfl) rfl) (x_r2 (List.mem_of_getElem? (i := 139) rfl) rfl) (x_r1 (List.mem_of_getElem? (i := 1) rfl) rfl) (x_r2 (List.mem_of_getElem? (i := 140) rfl) rfl) ⟨by decide, by decide, by decide +kernel⟩⟩
theorem x_cvs18 : x_cvsP (0, 93, 151, 2) := ⟨by decide, rfl, x_CallV_own x_TsG x_k151 (x_r6 (List.mem_of_getElem? (i := 126) rfl) rfl) (x_r6 (List.mem_of_getElem? (i := 127) rfl) rfl) (x_r1 (List.mem_of_getElem? (i := 11) rfl) rfl) (x_r6 (List.mem_of_getElem? (i := 128) rfl) rfl) ⟨by decide, by decide, by decide +kernel⟩⟩
theorem x_cvs19 : x_cvsP (0, 94, 152, 2) := ⟨by decide, rfl, x_CallV_own x_TsG x_k152 (x_r2 (List.mem_of_getElem? (i := 145) rfl) rfl) (x_r2 (List.mem_of_getElem? (i := 146) rfl) rfl) (x_r1 (List.mem_of_getElem? (i := 1) rfl) rfl) (x_r2 (List.mem_of_getElem? (i := 147) rfl) rfl) ⟨by decide, by decide, by decide +kernel⟩⟩
theorem x_cvs20 : x_cvsP (0, 98, 153, 2) := ⟨by decide, rfl, x_CallV_own x_TsG x_k153 (x_r6 (List.mem_of_getElem? (i := 130) rfl) rfl) (x_r6 (List.mem_of_getElem? (i := 131) rfl) rfl) (x_r1 (List.mem_of_getElem? (i := 11) rfl) rfl) (x_r6 (List.mem_of_getElem? (i := 132) rfl) rfl) ⟨by decide, by decide, by decide +kernel⟩⟩
theorem x_cvs21 : x_cvsP (0, 99, 154, 1) := ⟨by decide, rfl, x_CallV_own x_TsG x_k154 (x_r2 (List.mem_of_getElem? (i := 149) rfl) rfl) (x_r2 (List.mem_of_getElem? (i := 150) rfl) rfl) (x_r1 (List.mem_of_getElem? (i := 1) rfl) rfl) (x_r2 (List.mem_of_getElem? (i := 151) rfl) rfl) ⟨by decide, by decide, by decide +kernel⟩⟩
theorem x_cvs22 : x_cvsP (0, 102, 155, 1) := ⟨by decide, rfl, x_CallV_own x_TsG x_k155 (x_r6 (List.mem_of_getElem? (i := 134) rfl) rfl) (x_r6 (List.mem_of_getElem? (i := 135) rfl) rfl) (x_r1 (List.mem_of_getElem? (i := 11) rfl) rfl) (x_r6 (List.mem_of_getElem? (i := 136) rfl) rfl) ⟨by decide, by decide, by decide +kernel⟩⟩
theorem x_cvs23 : x_cvsP (0, 103, 156, 2) := ⟨by decide, rfl, x_CallV_own x_TsG x_k156 (x_r2 (List.mem_of_getElem? (i := 153) rfl) rfl) (x_r2 (List.mem_of_getElem? (i := 154) rfl) rfl) (x_r1 (List.mem_of_getElem? (i := 1) rfl) rfl) (x_r2 (List.mem_of_getElem? (i := 155) rfl) rfl) ⟨by decide, by decide, by decide +kernel⟩⟩
theorem x_cvs24 : x_cvsP (0, 106, 157, 2) := ⟨by decide, rfl, x_CallV_own x_TsG x_k157 (x_r6 (List.mem_of_getElem? (i := 138) rfl) rfl) (x_r6 (List.mem_of_getElem? (i := 139) rfl) rfl) (x_r1 (List.mem_of_getElem? (i := 11) rfl) rfl) (x_r6 (List.mem_of_getElem? (i := 140) rfl) rfl) ⟨by decide, by decide, by decide +kernel⟩⟩
theorem x_cvs25 : x_cvsP (0, 107, 158, 3) := ⟨by decide, rfl, x_CallV_own x_TsG x_k158 (x_r2 (List.mem_of_getElem? (i := 161) rfl) rfl) (x_r2 (List.mem_of_getElem? (i := 162) rfl) rfl) (x_r1 (List.mem_of_getElem? (i := 1) rfl) rfl) (x_r2 (List.mem_of_getElem? (i := 163) rfl) rfl) ⟨by decide, by decide, by decide +kernel⟩⟩
theorem x_cvs26 : x_cvsP (0, 111, 160, 3) := ⟨by decide, rfl, x_CallV_own x_TsG x_k160 (x_r6 (List.mem_of_getElem? (i := 142) rfl) rfl) (x_r6 (List.mem_of_getElem? (i := 143) rfl) rfl) (x_r1 (List.mem_of_getElem? (i := 11) rfl) rfl) (x_r6 (List.mem_of_getElem? (i := 144) rfl) rfl) ⟨by decide, by decide, by decide +kernel⟩⟩
theorem x_cvs27 : x_cvsP (0, 114, 176, 1) := ⟨by decide, rfl, x_CallV_own x_TsG x_k176 (x_r6 (List.mem_of_getElem? (i := 146) rfl) rfl) (x_r6 (List.mem_of_getElem? (i := 147) rfl) rfl) (x_r1 (List.mem_of_getElem? (i := 11) rfl) rfl) (x_r6 (List.mem_of_getElem? (i := 148) rfl) rfl) ⟨by decide, by decide, by decide +kernel⟩⟩
theorem x_cvs28 : x_cvsP (1, 74, 13, 3) := ⟨by decide, rfl, x_CallV_own x_TsG x_k13 (x_r2 (List.mem_of_getElem? (i := 114) rfl) rfl) (x_r2 (List.mem_of_getElem? (i := 115) rfl) rfl) (x_r1 (List.mem_of_getElem? (i := 2) rfl) rfl) (x_r2 (List.mem_of_getElem? (i := 116) rfl) rfl) ⟨by decide, by decide, by decide +kernel⟩⟩
theorem x_cvs29 : x_cvsP (1, 78, 16, 1) := ⟨by decide, rfl, x_CallV_own x_TsG x_k16 (x_r2 (List.mem_of_getElem? (i := 122) rfl) rfl) (x_r2 (List.mem_of_getElem? (i := 123) rfl) rfl) (x_r1 (List.mem_of_getElem? (i := 2) rfl) rfl) (x_r2 (List.mem_of_getElem? (i := 124) rfl) rfl) ⟨by decide, by decide, by decide +kernel⟩⟩
theorem x_cvs30 : x_cvsP (0, 7, 19, 1) := ⟨by decide, rfl, x_CallV_own x_TsG x_k19 (x_r2 (List.mem_of_getElem? (i := 173) rfl) rfl) (x_r2 (List.mem_of_getElem? (i := 174) rfl) rfl) (x_r1 (List.mem_of_getElem? (i := 1) rfl) rfl) (x_r2 (List.mem_of_getElem? (i := 175) rfl) rfl) ⟨by decide, by decide, by decide +kernel⟩⟩
theorem x_cvs31 : x_cvsP (1, 82, 20, 2) := ⟨by decide, rfl, x_CallV_own x_TsG x_k20 (x_r2 (List.mem_of_getElem? (i := 177) rfl) rfl) (x_r2 (List.mem_of_getElem? (i := 178) rfl) rfl) (x_r1 (List.mem_of_getElem? (i := 6) rfl) rfl) (x_r2 (List.mem_of_getElem? (i := 179) rfl) rfl) ⟨by decide, by decide, by decide +kernel⟩⟩
theorem x_cvs32 : x_cvsP (1, 89, 39, 1) := ⟨by decide, rfl, x_CallV_own x_TsG x_k39 (x_r3 (List.mem_of_getElem? (i := 133) rfl) rfl) (x_r3 (List.mem_of_getElem? (i := 135) rfl) rfl) (x_r1 (List.mem_of_getElem? (i := 1) rfl) rfl) (x_tp (q := (⟨"StreamRefuter", "adoptDraft", "()V"⟩, 10)) (List.mem_of_getElem? (i := 9) (by decide +kernel))) ⟨by decide, by decide, by decide +kernel⟩⟩
theorem x_cvs33 : x_cvsP (1, 92, 40, 1) := ⟨by decide, rfl, x_CallV_own x_TsG x_k40 (x_r3 (List.mem_of_getElem? (i := 137) rfl) rfl) (x_r3 (List.mem_of_getElem? (i := 138) rfl) rfl) (x_r1 (List.mem_of_getElem? (i := 7) rfl) rfl) (x_r3 (List.mem_of_getElem? (i := 139) rfl) rfl) ⟨by decide, by decide, by decide +kernel⟩⟩
theorem x_cvs34 : x_cvsP (6, 55, 21, 1) := ⟨by decide, rfl, x_CallV_own x_TsG x_k21 (x_r2 (List.mem_of_getElem? (i := 181) rfl) rfl) (x_r2 (List.mem_of_getElem? (i := 183) rfl) rfl) (x_r1 (List.mem_of_getElem? (i := 6) rfl) rfl) (x_tp (q := (⟨"StreamRefuter$Problem", "forgetAll", "()V"⟩, 13)) (List.mem_of_getElem? (i := 0) (by decide +kernel))) ⟨by decide, by decide, by decide +kernel⟩⟩
theorem x_cvs35 : x_cvsP (6, 63, 23, 1) := ⟨by decide, rfl, x_CallV_own x_TsG x_k23 (x_r2 (List.mem_of_getElem? (i := 191) rfl) rfl) (x_r2 (List.mem_of_getElem? (i := 192) rfl) rfl) (x_r1 (List.mem_of_getElem? (i := 4) rfl) rfl) (x_r2 (List.mem_of_getElem? (i := 193) rfl) rfl) ⟨by decide, by decide, by decide +kernel⟩⟩
theorem x_cvs36 : x_cvsP (6, 68, 29, 2) := ⟨by decide, rfl, x_CallV_own x_TsG x_k29 (x_r2 (List.mem_of_getElem? (i := 216) rfl) rfl) (x_r2 (List.mem_of_getElem? (i := 217) rfl) rfl) (x_r1 (List.mem_of_getElem? (i := 4) rfl) rfl) (x_r2 (List.mem_of_getElem? (i := 218) rfl) rfl) ⟨by decide, by decide, by decide +kernel⟩⟩
theorem x_cvs37 : x_cvsP (6, 80, 30, 3) := ⟨by decide, rfl, x_CallV_own x_TsG x_k30 (x_r3 (List.mem_of_getElem? (i := 29) rfl) rfl) (x_r3 (List.mem_of_getElem? (i := 31) rfl) rfl) (x_r1 (List.mem_of_getElem? (i := 6) rfl) rfl) (x_tp (q := (⟨"StreamRefuter$Problem", "readFormulaClauses", "(LStreamRefuter$Words;I)I"⟩, 13)) (List.mem_of_getElem? (i := 4) (by decide +kernel))) ⟨by decide, by decide, by decide +kernel⟩⟩
theorem x_cvs38 : x_cvsP (3, 19, 24, 1) := ⟨by decide, rfl, x_CallV_own x_TsG x_k24 (x_r2 (List.mem_of_getElem? (i := 195) rfl) rfl) (x_r2 (List.mem_of_getElem? (i := 196) rfl) rfl) (x_r1 (List.mem_of_getElem? (i := 2) rfl) rfl) (x_r2 (List.mem_of_getElem? (i := 197) rfl) rfl) ⟨by decide, by decide, by decide +kernel⟩⟩
theorem x_cvs39 : x_cvsP (3, 25, 25, 2) := ⟨by decide, rfl, x_CallV_own x_TsG x_k25 (x_r2 (List.mem_of_getElem? (i := 199) rfl) rfl) (x_r2 (List.mem_of_getElem? (i := 201) rfl) rfl) (x_r1 (List.mem_of_getElem? (i := 4) rfl) rfl) (x_tp (q := (⟨"StreamRefuter$Words", "isGap", "(I)Z"⟩, 4)) (List.mem_of_getElem? (i := 1) (by decide +kernel))) ⟨by decide, by decide, by decide +kernel⟩⟩
theorem x_cvs40 : x_cvsP (3, 32, 27, 2) := ⟨by decide, rfl, x_CallV_own x_TsG x_k27 (x_r2 (List.mem_of_getElem? (i := 207) rfl) rfl) (x_r2 (List.mem_of_getElem? (i := 209) rfl) rfl) (x_r1 (List.mem_of_getElem? (i := 4) rfl) rfl) (x_tp (q := (⟨"StreamRefuter$Words", "meaning", "(I)I"⟩, 4)) (List.mem_of_getElem? (i := 2) (by decide +kernel))) ⟨by decide, by decide, by decide +kernel⟩⟩
theorem x_cvs41 : x_cvsP (3, 60, 26, 2) := ⟨by decide, rfl, x_CallV_own x_TsG x_k26 (x_r2 (List.mem_of_getElem? (i := 203) rfl) rfl) (x_r2 (List.mem_of_getElem? (i := 204) rfl) rfl) (x_r1 (List.mem_of_getElem? (i := 2) rfl) rfl) (x_r2 (List.mem_of_getElem? (i := 205) rfl) rfl) ⟨by decide, by decide, by decide +kernel⟩⟩
theorem x_cvs42 : x_cvsP (3, 67, 28, 2) := ⟨by decide, rfl, x_CallV_own x_TsG x_k28 (x_r2 (List.mem_of_getElem? (i := 211) rfl) rfl) (x_r2 (List.mem_of_getElem? (i := 213) rfl) rfl) (x_r1 (List.mem_of_getElem? (i := 4) rfl) rfl) (x_tp (q := (⟨"StreamRefuter$Words", "sizeOfDigits", "(I)I"⟩, 4)) (List.mem_of_getElem? (i := 3) (by decide +kernel))) ⟨by decide, by decide, by decide +kernel⟩⟩
theorem x_cvs43 : x_cvsP (6, 84, 31, 2) := ⟨by decide, rfl, x_CallV_own x_TsG x_k31 (x_r3 (List.mem_of_getElem? (i := 33) rfl) rfl) (x_r3 (List.mem_of_getElem? (i := 35) rfl) rfl) (x_r1 (List.mem_of_getElem? (i := 6) rfl) rfl) (x_tp (q := (⟨"StreamRefuter$Problem", "readClause", "(LStreamRefuter$Numbers;)Z"⟩, 13)) (List.mem_of_getElem? (i := 5) (by decide +kernel))) ⟨by decide, by decide, by decide +kernel⟩⟩
theorem x_cvs44 : x_cvsP (6, 88, 38, 1) := ⟨by decide, rfl, x_CallV_own x_TsG x_k38 (x_r3 (List.mem_of_getElem? (i := 63) rfl) rfl) (x_r3 (List.mem_of_getElem? (i := 65) rfl) rfl) (x_r1 (List.mem_of_getElem? (i := 6) rfl) rfl) (x_tp (q := (⟨"StreamRefuter$Problem", "keepClause", "()V"⟩, 13)) (List.mem_of_getElem? (i := 7) (by decide +kernel))) ⟨by decide, by decide, by decide +kernel⟩⟩
theorem x_cvs45 : x_cvsP (5, 19, 26, 2) := ⟨by decide, rfl, x_CallV_own x_TsG x_k26 (x_r3 (List.mem_of_getElem? (i := 53) rfl) rfl) (x_r2 (List.mem_of_getElem? (i := 204) rfl) rfl) (x_r1 (List.mem_of_getElem? (i := 2) rfl) rfl) (x_r2 (List.mem_of_getElem? (i := 205) rfl) rfl) ⟨by decide, by decide, by decide +kernel⟩⟩
theorem x_cvs46 : x_cvsP (5, 34, 37, 2) := ⟨by decide, rfl, x_CallV_own x_TsG x_k37 (x_r3 (List.mem_of_getElem? (i := 57) rfl) rfl) (x_r3 (List.mem_of_getElem? (i := 59) rfl) rfl) (x_r1 (List.mem_of_getElem? (i := 5) rfl) rfl) (x_tp (q := (⟨"StreamRefuter$PackedNumbers", "takeTwoBytes", "(I)V"⟩, 4)) (List.mem_of_getElem? (i := 6) (by decide +kernel))) ⟨by decide, by decide, by decide +kernel⟩⟩
theorem x_cvs47 : x_cvsP (5, 57, 24, 1) := ⟨by decide, rfl, x_CallV_own x_TsG x_k24 (x_r3 (List.mem_of_getElem? (i := 61) rfl) rfl) (x_r2 (List.mem_of_getElem? (i := 196) rfl) rfl) (x_r1 (List.mem_of_getElem? (i := 2) rfl) rfl) (x_r2 (List.mem_of_getElem? (i := 197) rfl) rfl) ⟨by decide, by decide, by decide +kernel⟩⟩
theorem x_cvs48 : x_cvsP (11, 178, 42, 1) := ⟨by decide, rfl, x_CallV_own x_TsG x_k42 (x_r5 (List.mem_of_getElem? (i := 148) rfl) rfl) (x_r5 (List.mem_of_getElem? (i := 150) rfl) rfl) (x_r1 (List.mem_of_getElem? (i := 11) rfl) rfl) (x_tp (q := (⟨"StreamRefuterModel", "readFormula", "()I"⟩, 56)) (List.mem_of_getElem? (i := 41) (by decide +kernel))) ⟨by decide, by decide, by decide +kernel⟩⟩
theorem x_cvs49 : x_cvsP (11, 193, 54, 3) := ⟨by decide, rfl, x_CallV_own x_TsG x_k54 (x_r5 (List.mem_of_getElem? (i := 194) rfl) rfl) (x_r5 (List.mem_of_getElem? (i := 196) rfl) rfl) (x_r1 (List.mem_of_getElem? (i := 11) rfl) rfl) (x_tp (q := (⟨"StreamRefuterModel", "takeOver", "(II)V"⟩, 56)) (List.mem_of_getElem? (i := 51) (by decide +kernel))) ⟨by decide, by decide, by decide +kernel⟩⟩
theorem x_cvs50 : x_cvsP (11, 206, 55, 1) := ⟨by decide, rfl, x_CallV_own x_TsG x_k55 (x_r5 (List.mem_of_getElem? (i := 198) rfl) rfl) (x_r5 (List.mem_of_getElem? (i := 200) rfl) rfl) (x_r1 (List.mem_of_getElem? (i := 11) rfl) rfl) (x_tp (q := (⟨"StreamRefuterModel", "forget", "()V"⟩, 56)) (List.mem_of_getElem? (i := 52) (by decide +kernel))) ⟨by decide, by decide, by decide +kernel⟩⟩
theorem x_cvs51 : x_cvsP (11, 172, 43, 1) := ⟨by decide, rfl, x_CallV_own x_TsG x_k43 (x_r5 (List.mem_of_getElem? (i := 152) rfl) rfl) (x_r5 (List.mem_of_getElem? (i := 154) rfl) rfl) (x_r1 (List.mem_of_getElem? (i := 11) rfl) rfl) (x_tp (q := (⟨"StreamRefuterModel", "heading", "()I"⟩, 56)) (List.mem_of_getElem? (i := 42) (by decide +kernel))) ⟨by decide, by decide, by decide +kernel⟩⟩
theorem x_cvs52 : x_cvsP (11, 175, 51, 2) := ⟨by decide, rfl, x_CallV_own x_TsG x_k51 (x_r5 (List.mem_of_getElem? (i := 183) rfl) rfl) (x_r5 (List.mem_of_getElem? (i := 185) rfl) rfl) (x_r1 (List.mem_of_getElem? (i := 11) rfl) rfl) (x_tp (q := (⟨"StreamRefuterModel", "clause", "(I)I"⟩, 56)) (List.mem_of_getElem? (i := 49) (by decide +kernel))) ⟨by decide, by decide, by decide +kernel⟩⟩
theorem x_cvs53 : x_cvsP (11, 142, 44, 1) := ⟨by decide, rfl, x_CallV_own x_TsG x_k44 (x_r5 (List.mem_of_getElem? (i := 156) rfl) rfl) (x_r5 (List.mem_of_getElem? (i := 158) rfl) rfl) (x_r1 (List.mem_of_getElem? (i := 11) rfl) rfl) (x_tp (q := (⟨"StreamRefuterModel", "word", "()Z"⟩, 56)) (List.mem_of_getElem? (i := 43) (by decide +kernel))) ⟨by decide, by decide, by decide +kernel⟩⟩
theorem x_cvs54 : x_cvsP (11, 162, 46, 2) := ⟨by decide, rfl, x_CallV_own x_TsG x_k46 (x_r5 (List.mem_of_getElem? (i := 163) rfl) rfl) (x_r5 (List.mem_of_getElem? (i := 165) rfl) rfl) (x_r1 (List.mem_of_getElem? (i := 11) rfl) rfl) (x_tp (q := (⟨"StreamRefuterModel", "isLetter", "(I)Z"⟩, 56)) (List.mem_of_getElem? (i := 44) (by decide +kernel))) ⟨by decide, by decide, by decide +kernel⟩⟩
theorem x_cvs55 : x_cvsP (11, 165, 47, 1) := ⟨by decide, rfl, x_CallV_own x_TsG x_k47 (x_r5 (List.mem_of_getElem? (i := 167) rfl) rfl) (x_r5 (List.mem_of_getElem? (i := 169) rfl) rfl) (x_r1 (List.mem_of_getElem? (i := 11) rfl) rfl) (x_tp (q := (⟨"StreamRefuterModel", "isCnf", "()Z"⟩, 56)) (List.mem_of_getElem? (i := 45) (by decide +kernel))) ⟨by decide, by decide, by decide +kernel⟩⟩
theorem x_cvs56 : x_cvsP (11, 168, 48, 3) := ⟨by decide, rfl, x_CallV_own x_TsG x_k48 (x_r5 (List.mem_of_getElem? (i := 171) rfl) rfl) (x_r5 (List.mem_of_getElem? (i := 173) rfl) rfl) (x_r1 (List.mem_of_getElem? (i := 11) rfl) rfl) (x_tp (q := (⟨"StreamRefuterModel", "within", "(II)I"⟩, 56)) (List.mem_of_getElem? (i := 46) (by decide +kernel))) ⟨by decide, by decide, by decide +kernel⟩⟩
theorem x_cvs57 : x_cvsP (11, 155, 49, 1) := ⟨by decide, rfl, x_CallV_own x_TsG x_k49 (x_r5 (List.mem_of_getElem? (i := 175) rfl) rfl) (x_r5 (List.mem_of_getElem? (i := 177) rfl) rfl) (x_r1 (List.mem_of_getElem? (i := 11) rfl) rfl) (x_tp (q := (⟨"StreamRefuterModel", "next", "()I"⟩, 56)) (List.mem_of_getElem? (i := 47) (by decide +kernel))) ⟨by decide, by decide, by decide +kernel⟩⟩
theorem x_cvs58 : x_cvsP (11, 146, 50, 1) := ⟨by decide, rfl, x_CallV_own x_TsG x_k50 (x_r5 (List.mem_of_getElem? (i := 179) rfl) rfl) (x_r5 (List.mem_of_getElem? (i := 181) rfl) rfl) (x_r1 (List.mem_of_getElem? (i := 11) rfl) rfl) (x_tp (q := (⟨"StreamRefuterModel", "isNumber", "()Z"⟩, 56)) (List.mem_of_getElem? (i := 48) (by decide +kernel))) ⟨by decide, by decide, by decide +kernel⟩⟩
theorem x_cvs59 : x_cvsP (11, 159, 52, 2) := ⟨by decide, rfl, x_CallV_own x_TsG x_k52 (x_r5 (List.mem_of_getElem? (i := 187) rfl) rfl) (x_r5 (List.mem_of_getElem? (i := 189) rfl) rfl) (x_r1 (List.mem_of_getElem? (i := 11) rfl) rfl) (x_tp (q := (⟨"StreamRefuterModel", "fits", "(I)Z"⟩, 56)) (List.mem_of_getElem? (i := 50) (by decide +kernel))) ⟨by decide, by decide, by decide +kernel⟩⟩
theorem x_cvs60 : x_cvsP (0, 15, 58, 2) := ⟨by decide, rfl, x_CallV_own x_TsG x_k58 (x_r3 (List.mem_of_getElem? (i := 145) rfl) rfl) (x_r3 (List.mem_of_getElem? (i := 146) rfl) rfl) (x_r1 (List.mem_of_getElem? (i := 1) rfl) rfl) (x_r3 (List.mem_of_getElem? (i := 147) rfl) rfl) ⟨by decide, by decide, by decide +kernel⟩⟩
theorem x_cvs61 : x_cvsP (1, 105, 59, 3) := ⟨by decide, rfl, x_CallV_own x_TsG x_k59 (x_r3 (List.mem_of_getElem? (i := 164) rfl) rfl) (x_r3 (List.mem_of_getElem? (i := 165) rfl) rfl) (x_r1 (List.mem_of_getElem? (i := 6) rfl) rfl) (x_r3 (List.mem_of_getElem? (i := 166) rfl) rfl) ⟨by decide, by decide, by decide +kernel⟩⟩
theorem x_cvs62 : x_cvsP (6, 91, 60, 2) := ⟨by decide, rfl, x_CallV_own x_TsG x_k60 (x_r3 (List.mem_of_getElem? (i := 168) rfl) rfl) (x_r3 (List.mem_of_getElem? (i := 170) rfl) rfl) (x_r1 (List.mem_of_getElem? (i := 6) rfl) rfl) (x_tp (q := (⟨"StreamRefuter$Problem", "copyFormula", "(LStreamRefuter$Problem;)V"⟩, 13)) (List.mem_of_getElem? (i := 10) (by decide +kernel))) ⟨by decide, by decide, by decide +kernel⟩⟩
theorem x_cvs63 : x_cvsP (6, 108, 63, 2) := ⟨by decide, rfl, x_CallV_own x_TsG x_k63 (x_r3 (List.mem_of_getElem? (i := 195) rfl) rfl) (x_r3 (List.mem_of_getElem? (i := 197) rfl) rfl) (x_r1 (List.mem_of_getElem? (i := 6) rfl) rfl) (x_tp (q := (⟨"StreamRefuter$Problem", "mayOpen", "(LStreamRefuter$Opening;)Z"⟩, 13)) (List.mem_of_getElem? (i := 11) (by decide +kernel))) ⟨by decide, by decide, by decide +kernel⟩⟩
theorem x_cvs64 : x_cvsP (6, 117, 66, 3) := ⟨by decide, rfl, x_CallV_own x_TsG x_k66 (x_r3 (List.mem_of_getElem? (i := 211) rfl) rfl) (x_r3 (List.mem_of_getElem? (i := 213) rfl) rfl) (x_r1 (List.mem_of_getElem? (i := 6) rfl) rfl) (x_tp (q := (⟨"StreamRefuter$Problem", "keepStep", "(ILStreamRefuter$Opening;)V"⟩, 13)) (List.mem_of_getElem? (i := 12) (by decide +kernel))) ⟨by decide, by decide, by decide +kernel⟩⟩
theorem x_cvs65 : x_cvsP (3, 39, 23, 1) := ⟨by decide, rfl, x_CallV_own x_TsG x_k23 (x_r3 (List.mem_of_getElem? (i := 190) rfl) rfl) (x_r2 (List.mem_of_getElem? (i := 192) rfl) rfl) (x_r1 (List.mem_of_getElem? (i := 4) rfl) rfl) (x_r2 (List.mem_of_getElem? (i := 193) rfl) rfl) ⟨by decide, by decide, by decide +kernel⟩⟩
theorem x_cvs66 : x_cvsP (5, 53, 35, 1) := ⟨by decide, rfl, x_CallV_own x_TsG x_k35 (x_r3 (List.mem_of_getElem? (i := 207) rfl) rfl) (x_r3 (List.mem_of_getElem? (i := 51) rfl) rfl) (x_r1 (List.mem_of_getElem? (i := 5) rfl) rfl) (x_r6 (List.mem_of_getElem? (i := 215) rfl) rfl) ⟨by decide, by decide, by decide +kernel⟩⟩
theorem x_cvs67 : x_cvsP (6, 127, 67, 3) := ⟨by decide, rfl, x_CallV_own x_TsG x_k67 (x_r3 (List.mem_of_getElem? (i := 215) rfl) rfl) (x_r3 (List.mem_of_getElem? (i := 217) rfl) rfl) (x_r1 (List.mem_of_getElem? (i := 6) rfl) rfl) (x_tp (q := (⟨"StreamRefuter$Problem", "lowestAlike", "(JI)J"⟩, 13)) (List.mem_of_getElem? (i := 13) (by decide +kernel))) ⟨by decide, by decide, by decide +kernel⟩⟩
theorem x_cvs68 : x_cvsP (11, 216, 70, 1) := ⟨by decide, rfl, x_CallV_own x_TsG x_k70 (x_r5 (List.mem_of_getElem? (i := 206) rfl) rfl) (x_r5 (List.mem_of_getElem? (i := 208) rfl) rfl) (x_r1 (List.mem_of_getElem? (i := 11) rfl) rfl) (x_tp (q := (⟨"StreamRefuterModel", "readStream", "()I"⟩, 56)) (List.mem_of_getElem? (i := 53) (by decide +kernel))) ⟨by decide, by decide, by decide +kernel⟩⟩
theorem x_cvs69 : x_cvsP (11, 219, 72, 2) := ⟨by decide, rfl, x_CallV_own x_TsG x_k72 (x_r5 (List.mem_of_getElem? (i := 214) rfl) rfl) (x_r5 (List.mem_of_getElem? (i := 216) rfl) rfl) (x_r1 (List.mem_of_getElem? (i := 11) rfl) rfl) (x_tp (q := (⟨"StreamRefuterModel", "same", "(I)I"⟩, 56)) (List.mem_of_getElem? (i := 55) (by decide +kernel))) ⟨by decide, by decide, by decide +kernel⟩⟩
theorem x_cvs70 : x_cvsP (11, 209, 71, 3) := ⟨by decide, rfl, x_CallV_own x_TsG x_k71 (x_r5 (List.mem_of_getElem? (i := 210) rfl) rfl) (x_r5 (List.mem_of_getElem? (i := 212) rfl) rfl) (x_r1 (List.mem_of_getElem? (i := 11) rfl) rfl) (x_tp (q := (⟨"StreamRefuterModel", "beginning", "(II)I"⟩, 56)) (List.mem_of_getElem? (i := 54) (by decide +kernel))) ⟨by decide, by decide, by decide +kernel⟩⟩
theorem x_cvs71 : x_cvsP (11, 212, 73, 3) := ⟨by decide, rfl, x_CallV_own x_TsG x_k73 (x_r5 (List.mem_of_getElem? (i := 218) rfl) rfl) (x_r5 (List.mem_of_getElem? (i := 220) rfl) rfl) (x_r1 (List.mem_of_getElem? (i := 11) rfl) rfl) (x_tp (q := (⟨"StreamRefuterModel", "hasLiteral", "(II)Z"⟩, 56)) (List.mem_of_getElem? (i := 56) (by decide +kernel))) ⟨by decide, by decide, by decide +kernel⟩⟩
theorem x_cvs72 : x_cvsP (0, 21, 75, 1) := ⟨by decide, rfl, x_CallV_own x_TsG x_k75 (x_r3 (List.mem_of_getElem? (i := 224) rfl) rfl) (x_r3 (List.mem_of_getElem? (i := 225) rfl) rfl) (x_r1 (List.mem_of_getElem? (i := 1) rfl) rfl) (x_r3 (List.mem_of_getElem? (i := 226) rfl) rfl) ⟨by decide, by decide, by decide +kernel⟩⟩
theorem x_cvs73 : x_cvsP (1, 112, 76, 2) := ⟨by decide, rfl, x_CallV_own x_TsG x_k76 (x_r3 (List.mem_of_getElem? (i := 228) rfl) rfl) (x_r3 (List.mem_of_getElem? (i := 229) rfl) rfl) (x_r1 (List.mem_of_getElem? (i := 7) rfl) rfl) (x_r3 (List.mem_of_getElem? (i := 230) rfl) rfl) ⟨by decide, by decide, by decide +kernel⟩⟩
theorem x_cvs74 : x_cvsP (1, 115, 80, 1) := ⟨by decide, rfl, x_CallV_own x_TsG x_k80 (x_r4 (List.mem_of_getElem? (i := 5) rfl) rfl) (x_r4 (List.mem_of_getElem? (i := 7) rfl) rfl) (x_r1 (List.mem_of_getElem? (i := 1) rfl) rfl) (x_tp (q := (⟨"StreamRefuter", "adoptSpare", "()V"⟩, 10)) (List.mem_of_getElem? (i := 14) (by decide +kernel))) ⟨by decide, by decide, by decide +kernel⟩⟩
theorem x_cvs75 : x_cvsP (7, 30, 40, 1) := ⟨by decide, rfl, x_CallV_own x_TsG x_k40 (x_r3 (List.mem_of_getElem? (i := 232) rfl) rfl) (x_r3 (List.mem_of_getElem? (i := 138) rfl) rfl) (x_r1 (List.mem_of_getElem? (i := 7) rfl) rfl) (x_r3 (List.mem_of_getElem? (i := 139) rfl) rfl) ⟨by decide, by decide, by decide +kernel⟩⟩
theorem x_cvs76 : x_cvsP (7, 38, 23, 1) := ⟨by decide, rfl, x_CallV_own x_TsG x_k23 (x_r3 (List.mem_of_getElem? (i := 234) rfl) rfl) (x_r2 (List.mem_of_getElem? (i := 192) rfl) rfl) (x_r1 (List.mem_of_getElem? (i := 4) rfl) rfl) (x_r2 (List.mem_of_getElem? (i := 193) rfl) rfl) ⟨by decide, by decide, by decide +kernel⟩⟩
theorem x_cvs77 : x_cvsP (7, 26, 78, 2) := ⟨by decide, rfl, x_CallV_own x_TsG x_k78 (x_r3 (List.mem_of_getElem? (i := 238) rfl) rfl) (x_r3 (List.mem_of_getElem? (i := 239) rfl) rfl) (x_r1 (List.mem_of_getElem? (i := 7) rfl) rfl) (x_r4 (List.mem_of_getElem? (i := 0) rfl) rfl) ⟨by decide, by decide, by decide +kernel⟩⟩
theorem x_cvs78 : x_cvsP (11, 232, 82, 1) := ⟨by decide, rfl, x_CallV_own x_TsG x_k82 (x_r5 (List.mem_of_getElem? (i := 226) rfl) rfl) (x_r5 (List.mem_of_getElem? (i := 228) rfl) rfl) (x_r1 (List.mem_of_getElem? (i := 11) rfl) rfl) (x_tp (q := (⟨"StreamRefuterModel", "readLine", "()I"⟩, 56)) (List.mem_of_getElem? (i := 57) (by decide +kernel))) ⟨by decide, by decide, by decide +kernel⟩⟩
theorem x_cvs79 : x_cvsP (11, 235, 85, 1) := ⟨by decide, rfl, x_CallV_own x_TsG x_k85 (x_r5 (List.mem_of_getElem? (i := 238) rfl) rfl) (x_r6 (List.mem_of_getElem? (i := 0) rfl) rfl) (x_r1 (List.mem_of_getElem? (i := 11) rfl) rfl) (x_tp (q := (⟨"StreamRefuterModel", "keepTokens", "()V"⟩, 56)) (List.mem_of_getElem? (i := 60) (by decide +kernel))) ⟨by decide, by decide, by decide +kernel⟩⟩
theorem x_cvs80 : x_cvsP (11, 225, 83, 2) := ⟨by decide, rfl, x_CallV_own x_TsG x_k83 (x_r5 (List.mem_of_getElem? (i := 230) rfl) rfl) (x_r5 (List.mem_of_getElem? (i := 232) rfl) rfl) (x_r1 (List.mem_of_getElem? (i := 11) rfl) rfl) (x_tp (q := (⟨"StreamRefuterModel", "push", "(I)V"⟩, 56)) (List.mem_of_getElem? (i := 58) (by decide +kernel))) ⟨by decide, by decide, by decide +kernel⟩⟩
theorem x_cvs81 : x_cvsP (11, 229, 84, 1) := ⟨by decide, rfl, x_CallV_own x_TsG x_k84 (x_r5 (List.mem_of_getElem? (i := 234) rfl) rfl) (x_r5 (List.mem_of_getElem? (i := 236) rfl) rfl) (x_r1 (List.mem_of_getElem? (i := 11) rfl) rfl) (x_tp (q := (⟨"StreamRefuterModel", "numbers", "()I"⟩, 56)) (List.mem_of_getElem? (i := 59) (by decide +kernel))) ⟨by decide, by decide, by decide +kernel⟩⟩
theorem x_cvs82 : x_cvsP (0, 24, 93, 1) := ⟨by decide, rfl, x_CallV_own x_TsG x_k93 (x_r4 (List.mem_of_getElem? (i := 12) rfl) rfl) (x_r4 (List.mem_of_getElem? (i := 13) rfl) rfl) (x_r1 (List.mem_of_getElem? (i := 1) rfl) rfl) (x_r4 (List.mem_of_getElem? (i := 14) rfl) rfl) ⟨by decide, by decide, by decide +kernel⟩⟩
theorem x_cvs83 : x_cvsP (1, 134, 94, 2) := ⟨by decide, rfl, x_CallV_own x_TsG x_k94 (x_r4 (List.mem_of_getElem? (i := 16) rfl) rfl) (x_r4 (List.mem_of_getElem? (i := 17) rfl) rfl) (x_r1 (List.mem_of_getElem? (i := 8) rfl) rfl) (x_r4 (List.mem_of_getElem? (i := 18) rfl) rfl) ⟨by decide, by decide, by decide +kernel⟩⟩
theorem x_cvs84 : x_cvsP (8, 64, 95, 5) := ⟨by decide, rfl, x_CallV_own x_TsG x_k95 (x_r4 (List.mem_of_getElem? (i := 20) rfl) rfl) (x_r4 (List.mem_of_getElem? (i := 21) rfl) rfl) (x_r1 (List.mem_of_getElem? (i := 9) rfl) rfl) (x_r4 (List.mem_of_getElem? (i := 22) rfl) rfl) ⟨by decide, by decide, by decide +kernel⟩⟩
theorem x_cvs85 : x_cvsP (9, 45, 96, 2) := ⟨by decide, rfl, x_CallV_own x_TsG x_k96 (x_r4 (List.mem_of_getElem? (i := 24) rfl) rfl) (x_r4 (List.mem_of_getElem? (i := 26) rfl) rfl) (x_r1 (List.mem_of_getElem? (i := 9) rfl) rfl) (x_tp (q := (⟨"StreamRefuter$Propagation", "goOn", "(J)Z"⟩, 10)) (List.mem_of_getElem? (i := 15) (by decide +kernel))) ⟨by decide, by decide, by decide +kernel⟩⟩
theorem x_cvs86 : x_cvsP (9, 65, 97, 2) := ⟨by decide, rfl, x_CallV_own x_TsG x_k97 (x_r4 (List.mem_of_getElem? (i := 28) rfl) rfl) (x_r4 (List.mem_of_getElem? (i := 30) rfl) rfl) (x_r1 (List.mem_of_getElem? (i := 9) rfl) rfl) (x_tp (q := (⟨"StreamRefuter$Propagation", "pickReady", "(J)I"⟩, 10)) (List.mem_of_getElem? (i := 16) (by decide +kernel))) ⟨by decide, by decide, by decide +kernel⟩⟩
theorem x_cvs87 : x_cvsP (9, 62, 98, 2) := ⟨by decide, rfl, x_CallV_own x_TsG x_k98 (x_r4 (List.mem_of_getElem? (i := 34) rfl) rfl) (x_r4 (List.mem_of_getElem? (i := 36) rfl) rfl) (x_r1 (List.mem_of_getElem? (i := 9) rfl) rfl) (x_tp (q := (⟨"StreamRefuter$Propagation", "neededFor", "(I)I"⟩, 10)) (List.mem_of_getElem? (i := 17) (by decide +kernel))) ⟨by decide, by decide, by decide +kernel⟩⟩
theorem x_cvs88 : x_cvsP (11, 277, 100, 1) := ⟨by decide, rfl, x_CallV_own x_TsG x_k100 (x_r6 (List.mem_of_getElem? (i := 14) rfl) rfl) (x_r6 (List.mem_of_getElem? (i := 16) rfl) rfl) (x_r1 (List.mem_of_getElem? (i := 11) rfl) rfl) (x_tp (q := (⟨"StreamRefuterModel", "findEnd", "()I"⟩, 56)) (List.mem_of_getElem? (i := 61) (by decide +kernel))) ⟨by decide, by decide, by decide +kernel⟩⟩
theorem x_cvs89 : x_cvsP (11, 274, 101, 2) := ⟨by decide, rfl, x_CallV_own x_TsG x_k101 (x_r6 (List.mem_of_getElem? (i := 18) rfl) rfl) (x_r6 (List.mem_of_getElem? (i := 20) rfl) rfl) (x_r1 (List.mem_of_getElem? (i := 11) rfl) rfl) (x_tp (q := (⟨"StreamRefuterModel", "liveAfter", "(I)V"⟩, 56)) (List.mem_of_getElem? (i := 62) (by decide +kernel))) ⟨by decide, by decide, by decide +kernel⟩⟩
theorem x_cvs90 : x_cvsP (11, 259, 102, 1) := ⟨by decide, rfl, x_CallV_own x_TsG x_k102 (x_r6 (List.mem_of_getElem? (i := 22) rfl) rfl) (x_r6 (List.mem_of_getElem? (i := 24) rfl) rfl) (x_r1 (List.mem_of_getElem? (i := 11) rfl) rfl) (x_tp (q := (⟨"StreamRefuterModel", "beginEmpty", "()V"⟩, 56)) (List.mem_of_getElem? (i := 63) (by decide +kernel))) ⟨by decide, by decide, by decide +kernel⟩⟩
theorem x_cvs91 : x_cvsP (11, 262, 103, 1) := ⟨by decide, rfl, x_CallV_own x_TsG x_k103 (x_r6 (List.mem_of_getElem? (i := 26) rfl) rfl) (x_r6 (List.mem_of_getElem? (i := 28) rfl) rfl) (x_r1 (List.mem_of_getElem? (i := 11) rfl) rfl) (x_tp (q := (⟨"StreamRefuterModel", "propagate", "()V"⟩, 56)) (List.mem_of_getElem? (i := 64) (by decide +kernel))) ⟨by decide, by decide, by decide +kernel⟩⟩
theorem x_cvs92 : x_cvsP (11, 250, 104, 1) := ⟨by decide, rfl, x_CallV_own x_TsG x_k104 (x_r6 (List.mem_of_getElem? (i := 30) rfl) rfl) (x_r6 (List.mem_of_getElem? (i := 32) rfl) rfl) (x_r1 (List.mem_of_getElem? (i := 11) rfl) rfl) (x_tp (q := (⟨"StreamRefuterModel", "pick", "()I"⟩, 56)) (List.mem_of_getElem? (i := 65) (by decide +kernel))) ⟨by decide, by decide, by decide +kernel⟩⟩
theorem x_cvs93 : x_cvsP (11, 244, 105, 2) := ⟨by decide, rfl, x_CallV_own x_TsG x_k105 (x_r6 (List.mem_of_getElem? (i := 34) rfl) rfl) (x_r6 (List.mem_of_getElem? (i := 36) rfl) rfl) (x_r1 (List.mem_of_getElem? (i := 11) rfl) rfl) (x_tp (q := (⟨"StreamRefuterModel", "isReady", "(I)Z"⟩, 56)) (List.mem_of_getElem? (i := 66) (by decide +kernel))) ⟨by decide, by decide, by decide +kernel⟩⟩
theorem x_cvs94 : x_cvsP (11, 256, 107, 2) := ⟨by decide, rfl, x_CallV_own x_TsG x_k107 (x_r6 (List.mem_of_getElem? (i := 42) rfl) rfl) (x_r6 (List.mem_of_getElem? (i := 44) rfl) rfl) (x_r1 (List.mem_of_getElem? (i := 11) rfl) rfl) (x_tp (q := (⟨"StreamRefuterModel", "makeTrue", "(I)V"⟩, 56)) (List.mem_of_getElem? (i := 68) (by decide +kernel))) ⟨by decide, by decide, by decide +kernel⟩⟩
theorem x_cvs95 : x_cvsP (11, 241, 106, 2) := ⟨by decide, rfl, x_CallV_own x_TsG x_k106 (x_r6 (List.mem_of_getElem? (i := 38) rfl) rfl) (x_r6 (List.mem_of_getElem? (i := 40) rfl) rfl) (x_r1 (List.mem_of_getElem? (i := 11) rfl) rfl) (x_tp (q := (⟨"StreamRefuterModel", "value", "(I)I"⟩, 56)) (List.mem_of_getElem? (i := 67) (by decide +kernel))) ⟨by decide, by decide, by decide +kernel⟩⟩
theorem x_cvs96 : x_cvsP (0, 27, 109, 1) := ⟨by decide, rfl, x_CallV_own x_TsG x_k109 (x_r4 (List.mem_of_getElem? (i := 41) rfl) rfl) (x_r4 (List.mem_of_getElem? (i := 42) rfl) rfl) (x_r1 (List.mem_of_getElem? (i := 1) rfl) rfl) (x_r4 (List.mem_of_getElem? (i := 43) rfl) rfl) ⟨by decide, by decide, by decide +kernel⟩⟩
theorem x_cvs97 : x_cvsP (1, 138, 110, 2) := ⟨by decide, rfl, x_CallV_own x_TsG x_k110 (x_r4 (List.mem_of_getElem? (i := 45) rfl) rfl) (x_r4 (List.mem_of_getElem? (i := 46) rfl) rfl) (x_r1 (List.mem_of_getElem? (i := 8) rfl) rfl) (x_r4 (List.mem_of_getElem? (i := 47) rfl) rfl) ⟨by decide, by decide, by decide +kernel⟩⟩
theorem x_cvs98 : x_cvsP (8, 68, 94, 2) := ⟨by decide, rfl, x_CallV_own x_TsG x_k94 (x_r4 (List.mem_of_getElem? (i := 49) rfl) rfl) (x_r4 (List.mem_of_getElem? (i := 17) rfl) rfl) (x_r1 (List.mem_of_getElem? (i := 8) rfl) rfl) (x_r4 (List.mem_of_getElem? (i := 18) rfl) rfl) ⟨by decide, by decide, by decide +kernel⟩⟩
theorem x_cvs99 : x_cvsP (8, 75, 111, 4) := ⟨by decide, rfl, x_CallV_own x_TsG x_k111 (x_r4 (List.mem_of_getElem? (i := 50) rfl) rfl) (x_r4 (List.mem_of_getElem? (i := 52) rfl) rfl) (x_r1 (List.mem_of_getElem? (i := 8) rfl) rfl) (x_tp (q := (⟨"StreamRefuter$Refuter", "isRight", "(LStreamRefuter$Problem;IJ)Z"⟩, 10)) (List.mem_of_getElem? (i := 18) (by decide +kernel))) ⟨by decide, by decide, by decide +kernel⟩⟩
theorem x_cvs100 : x_cvsP (8, 102, 112, 4) := ⟨by decide, rfl, x_CallV_own x_TsG x_k112 (x_r4 (List.mem_of_getElem? (i := 57) rfl) rfl) (x_r4 (List.mem_of_getElem? (i := 58) rfl) rfl) (x_r1 (List.mem_of_getElem? (i := 9) rfl) rfl) (x_r4 (List.mem_of_getElem? (i := 59) rfl) rfl) ⟨by decide, by decide, by decide +kernel⟩⟩
theorem x_cvs101 : x_cvsP (9, 58, 113, 3) := ⟨by decide, rfl, x_CallV_own x_TsG x_k113 (x_r4 (List.mem_of_getElem? (i := 61) rfl) rfl) (x_r4 (List.mem_of_getElem? (i := 63) rfl) rfl) (x_r1 (List.mem_of_getElem? (i := 9) rfl) rfl) (x_tp (q := (⟨"StreamRefuter$Propagation", "firstTrue", "(II)I"⟩, 10)) (List.mem_of_getElem? (i := 19) (by decide +kernel))) ⟨by decide, by decide, by decide +kernel⟩⟩
theorem x_cvs102 : x_cvsP (11, 292, 115, 2) := ⟨by decide, rfl, x_CallV_own x_TsG x_k115 (x_r6 (List.mem_of_getElem? (i := 50) rfl) rfl) (x_r6 (List.mem_of_getElem? (i := 52) rfl) rfl) (x_r1 (List.mem_of_getElem? (i := 11) rfl) rfl) (x_tp (q := (⟨"StreamRefuterModel", "isRight", "(I)Z"⟩, 56)) (List.mem_of_getElem? (i := 69) (by decide +kernel))) ⟨by decide, by decide, by decide +kernel⟩⟩
theorem x_cvs103 : x_cvsP (11, 280, 116, 2) := ⟨by decide, rfl, x_CallV_own x_TsG x_k116 (x_r6 (List.mem_of_getElem? (i := 54) rfl) rfl) (x_r6 (List.mem_of_getElem? (i := 56) rfl) rfl) (x_r1 (List.mem_of_getElem? (i := 11) rfl) rfl) (x_tp (q := (⟨"StreamRefuterModel", "implied", "(I)Z"⟩, 56)) (List.mem_of_getElem? (i := 70) (by decide +kernel))) ⟨by decide, by decide, by decide +kernel⟩⟩
theorem x_cvs104 : x_cvsP (11, 283, 117, 1) := ⟨by decide, rfl, x_CallV_own x_TsG x_k117 (x_r6 (List.mem_of_getElem? (i := 58) rfl) rfl) (x_r6 (List.mem_of_getElem? (i := 60) rfl) rfl) (x_r1 (List.mem_of_getElem? (i := 11) rfl) rfl) (x_tp (q := (⟨"StreamRefuterModel", "keepBase", "()V"⟩, 56)) (List.mem_of_getElem? (i := 71) (by decide +kernel))) ⟨by decide, by decide, by decide +kernel⟩⟩
theorem x_cvs105 : x_cvsP (11, 286, 118, 3) := ⟨by decide, rfl, x_CallV_own x_TsG x_k118 (x_r6 (List.mem_of_getElem? (i := 62) rfl) rfl) (x_r6 (List.mem_of_getElem? (i := 64) rfl) rfl) (x_r1 (List.mem_of_getElem? (i := 11) rfl) rfl) (x_tp (q := (⟨"StreamRefuterModel", "passes", "(II)Z"⟩, 56)) (List.mem_of_getElem? (i := 72) (by decide +kernel))) ⟨by decide, by decide, by decide +kernel⟩⟩
theorem x_cvs106 : x_cvsP (11, 289, 122, 2) := ⟨by decide, rfl, x_CallV_own x_TsG x_k122 (x_r6 (List.mem_of_getElem? (i := 78) rfl) rfl) (x_r6 (List.mem_of_getElem? (i := 80) rfl) rfl) (x_r1 (List.mem_of_getElem? (i := 11) rfl) rfl) (x_tp (q := (⟨"StreamRefuterModel", "backTo", "(I)V"⟩, 56)) (List.mem_of_getElem? (i := 76) (by decide +kernel))) ⟨by decide, by decide, by decide +kernel⟩⟩
theorem x_cvs107 : x_cvsP (11, 265, 119, 1) := ⟨by decide, rfl, x_CallV_own x_TsG x_k119 (x_r6 (List.mem_of_getElem? (i := 66) rfl) rfl) (x_r6 (List.mem_of_getElem? (i := 68) rfl) rfl) (x_r1 (List.mem_of_getElem? (i := 11) rfl) rfl) (x_tp (q := (⟨"StreamRefuterModel", "needNothing", "()V"⟩, 56)) (List.mem_of_getElem? (i := 73) (by decide +kernel))) ⟨by decide, by decide, by decide +kernel⟩⟩
theorem x_cvs108 : x_cvsP (11, 268, 120, 3) := ⟨by decide, rfl, x_CallV_own x_TsG x_k120 (x_r6 (List.mem_of_getElem? (i := 70) rfl) rfl) (x_r6 (List.mem_of_getElem? (i := 72) rfl) rfl) (x_r1 (List.mem_of_getElem? (i := 11) rfl) rfl) (x_tp (q := (⟨"StreamRefuterModel", "firstTrue", "(II)I"⟩, 56)) (List.mem_of_getElem? (i := 74) (by decide +kernel))) ⟨by decide, by decide, by decide +kernel⟩⟩
theorem x_cvs109 : x_cvsP (11, 271, 121, 1) := ⟨by decide, rfl, x_CallV_own x_TsG x_k121 (x_r6 (List.mem_of_getElem? (i := 74) rfl) rfl) (x_r6 (List.mem_of_getElem? (i := 76) rfl) rfl) (x_r1 (List.mem_of_getElem? (i := 11) rfl) rfl) (x_tp (q := (⟨"StreamRefuterModel", "findNeeds", "()V"⟩, 56)) (List.mem_of_getElem? (i := 75) (by decide +kernel))) ⟨by decide, by decide, by decide +kernel⟩⟩
theorem x_cvs110 : x_cvsP (0, 30, 124, 1) := ⟨by decide, rfl, x_CallV_own x_TsG x_k124 (x_r4 (List.mem_of_getElem? (i := 69) rfl) rfl) (x_r4 (List.mem_of_getElem? (i := 70) rfl) rfl) (x_r1 (List.mem_of_getElem? (i := 1) rfl) rfl) (x_r4 (List.mem_of_getElem? (i := 71) rfl) rfl) ⟨by decide, by decide, by decide +kernel⟩⟩
theorem x_cvs111 : x_cvsP (1, 141, 125, 3) := ⟨by decide, rfl, x_CallV_own x_TsG x_k125 (x_r4 (List.mem_of_getElem? (i := 73) rfl) rfl) (x_r4 (List.mem_of_getElem? (i := 74) rfl) rfl) (x_r1 (List.mem_of_getElem? (i := 8) rfl) rfl) (x_r4 (List.mem_of_getElem? (i := 75) rfl) rfl) ⟨by decide, by decide, by decide +kernel⟩⟩
theorem x_cvs112 : x_cvsP (8, 106, 126, 3) := ⟨by decide, rfl, x_CallV_own x_TsG x_k126 (x_r4 (List.mem_of_getElem? (i := 77) rfl) rfl) (x_r4 (List.mem_of_getElem? (i := 79) rfl) rfl) (x_r1 (List.mem_of_getElem? (i := 8) rfl) rfl) (x_tp (q := (⟨"StreamRefuter$Refuter", "begin", "(LStreamRefuter$Problem;I)V"⟩, 10)) (List.mem_of_getElem? (i := 20) (by decide +kernel))) ⟨by decide, by decide, by decide +kernel⟩⟩
theorem x_cvs113 : x_cvsP (8, 110, 127, 3) := ⟨by decide, rfl, x_CallV_own x_TsG x_k127 (x_r4 (List.mem_of_getElem? (i := 82) rfl) rfl) (x_r4 (List.mem_of_getElem? (i := 84) rfl) rfl) (x_r1 (List.mem_of_getElem? (i := 8) rfl) rfl) (x_tp (q := (⟨"StreamRefuter$Refuter", "noteImplied", "(IJ)Z"⟩, 10)) (List.mem_of_getElem? (i := 21) (by decide +kernel))) ⟨by decide, by decide, by decide +kernel⟩⟩
theorem x_cvs114 : x_cvsP (8, 114, 131, 3) := ⟨by decide, rfl, x_CallV_own x_TsG x_k131 (x_r4 (List.mem_of_getElem? (i := 100) rfl) rfl) (x_r4 (List.mem_of_getElem? (i := 102) rfl) rfl) (x_r1 (List.mem_of_getElem? (i := 8) rfl) rfl) (x_tp (q := (⟨"StreamRefuter$Refuter", "noteSpared", "(IJ)Z"⟩, 10)) (List.mem_of_getElem? (i := 25) (by decide +kernel))) ⟨by decide, by decide, by decide +kernel⟩⟩
theorem x_cvs115 : x_cvsP (8, 117, 133, 2) := ⟨by decide, rfl, x_CallV_own x_TsG x_k133 (x_r4 (List.mem_of_getElem? (i := 108) rfl) rfl) (x_r4 (List.mem_of_getElem? (i := 110) rfl) rfl) (x_r1 (List.mem_of_getElem? (i := 8) rfl) rfl) (x_tp (q := (⟨"StreamRefuter$Refuter", "write", "(LStreamRefuter$Tokens;)I"⟩, 10)) (List.mem_of_getElem? (i := 27) (by decide +kernel))) ⟨by decide, by decide, by decide +kernel⟩⟩
theorem x_cvs116 : x_cvsP (8, 121, 138, 1) := ⟨by decide, rfl, x_CallV_own x_TsG x_k138 (x_r4 (List.mem_of_getElem? (i := 125) rfl) rfl) (x_r4 (List.mem_of_getElem? (i := 126) rfl) rfl) (x_r1 (List.mem_of_getElem? (i := 7) rfl) rfl) (x_r4 (List.mem_of_getElem? (i := 127) rfl) rfl) ⟨by decide, by decide, by decide +kernel⟩⟩
theorem x_cvs117 : x_cvsP (8, 127, 40, 1) := ⟨by decide, rfl, x_CallV_own x_TsG x_k40 (x_r4 (List.mem_of_getElem? (i := 81) rfl) rfl) (x_r3 (List.mem_of_getElem? (i := 138) rfl) rfl) (x_r1 (List.mem_of_getElem? (i := 7) rfl) rfl) (x_r3 (List.mem_of_getElem? (i := 139) rfl) rfl) ⟨by decide, by decide, by decide +kernel⟩⟩
theorem x_cvs118 : x_cvsP (8, 133, 128, 1) := ⟨by decide, rfl, x_CallV_own x_TsG x_k128 (x_r4 (List.mem_of_getElem? (i := 86) rfl) rfl) (x_r4 (List.mem_of_getElem? (i := 88) rfl) rfl) (x_r1 (List.mem_of_getElem? (i := 8) rfl) rfl) (x_tp (q := (⟨"StreamRefuter$Refuter", "markNeeded", "()V"⟩, 10)) (List.mem_of_getElem? (i := 22) (by decide +kernel))) ⟨by decide, by decide, by decide +kernel⟩⟩
theorem x_cvs119 : x_cvsP (8, 142, 129, 2) := ⟨by decide, rfl, x_CallV_own x_TsG x_k129 (x_r4 (List.mem_of_getElem? (i := 90) rfl) rfl) (x_r4 (List.mem_of_getElem? (i := 92) rfl) rfl) (x_r1 (List.mem_of_getElem? (i := 8) rfl) rfl) (x_tp (q := (⟨"StreamRefuter$Refuter", "noteReasons", "(I)V"⟩, 10)) (List.mem_of_getElem? (i := 23) (by decide +kernel))) ⟨by decide, by decide, by decide +kernel⟩⟩
theorem x_cvs120 : x_cvsP (8, 146, 130, 1) := ⟨by decide, rfl, x_CallV_own x_TsG x_k130 (x_r4 (List.mem_of_getElem? (i := 95) rfl) rfl) (x_r4 (List.mem_of_getElem? (i := 97) rfl) rfl) (x_r1 (List.mem_of_getElem? (i := 8) rfl) rfl) (x_tp (q := (⟨"StreamRefuter$Refuter", "noteConflict", "()V"⟩, 10)) (List.mem_of_getElem? (i := 24) (by decide +kernel))) ⟨by decide, by decide, by decide +kernel⟩⟩
theorem x_cvs121 : x_cvsP (8, 158, 78, 2) := ⟨by decide, rfl, x_CallV_own x_TsG x_k78 (x_r4 (List.mem_of_getElem? (i := 94) rfl) rfl) (x_r3 (List.mem_of_getElem? (i := 239) rfl) rfl) (x_r1 (List.mem_of_getElem? (i := 7) rfl) rfl) (x_r4 (List.mem_of_getElem? (i := 0) rfl) rfl) ⟨by decide, by decide, by decide +kernel⟩⟩
theorem x_cvs122 : x_cvsP (8, 154, 132, 3) := ⟨by decide, rfl, x_CallV_own x_TsG x_k132 (x_r4 (List.mem_of_getElem? (i := 104) rfl) rfl) (x_r4 (List.mem_of_getElem? (i := 106) rfl) rfl) (x_r1 (List.mem_of_getElem? (i := 8) rfl) rfl) (x_tp (q := (⟨"StreamRefuter$Refuter", "pickCandidate", "(JI)I"⟩, 10)) (List.mem_of_getElem? (i := 26) (by decide +kernel))) ⟨by decide, by decide, by decide +kernel⟩⟩
theorem x_cvs123 : x_cvsP (8, 167, 134, 4) := ⟨by decide, rfl, x_CallV_own x_TsG x_k134 (x_r4 (List.mem_of_getElem? (i := 112) rfl) rfl) (x_r4 (List.mem_of_getElem? (i := 114) rfl) rfl) (x_r1 (List.mem_of_getElem? (i := 8) rfl) rfl) (x_tp (q := (⟨"StreamRefuter$Refuter", "writeDrops", "(LStreamRefuter$Tokens;IJ)V"⟩, 10)) (List.mem_of_getElem? (i := 28) (by decide +kernel))) ⟨by decide, by decide, by decide +kernel⟩⟩
theorem x_cvs124 : x_cvsP (8, 171, 135, 4) := ⟨by decide, rfl, x_CallV_own x_TsG x_k135 (x_r4 (List.mem_of_getElem? (i := 116) rfl) rfl) (x_r4 (List.mem_of_getElem? (i := 118) rfl) rfl) (x_r1 (List.mem_of_getElem? (i := 8) rfl) rfl) (x_tp (q := (⟨"StreamRefuter$Refuter", "writeLine", "(LStreamRefuter$Tokens;II)V"⟩, 10)) (List.mem_of_getElem? (i := 29) (by decide +kernel))) ⟨by decide, by decide, by decide +kernel⟩⟩
theorem x_cvs125 : x_cvsP (8, 175, 136, 4) := ⟨by decide, rfl, x_CallV_own x_TsG x_k136 (x_r4 (List.mem_of_getElem? (i := 120) rfl) rfl) (x_r4 (List.mem_of_getElem? (i := 121) rfl) rfl) (x_r1 (List.mem_of_getElem? (i := 7) rfl) rfl) (x_r4 (List.mem_of_getElem? (i := 122) rfl) rfl) ⟨by decide, by decide, by decide +kernel⟩⟩
theorem x_cvs126 : x_cvsP (7, 22, 137, 2) := ⟨by decide, rfl, x_CallV_own x_TsG x_k137 (x_r4 (List.mem_of_getElem? (i := 124) rfl) rfl) (x_r2 (List.mem_of_getElem? (i := 158) rfl) rfl) (x_r1 (List.mem_of_getElem? (i := 7) rfl) rfl) (x_r2 (List.mem_of_getElem? (i := 159) rfl) rfl) ⟨by decide, by decide, by decide +kernel⟩⟩
theorem x_cvs127 : x_cvsP (11, 322, 140, 2) := ⟨by decide, rfl, x_CallV_own x_TsG x_k140 (x_r6 (List.mem_of_getElem? (i := 86) rfl) rfl) (x_r6 (List.mem_of_getElem? (i := 88) rfl) rfl) (x_r1 (List.mem_of_getElem? (i := 11) rfl) rfl) (x_tp (q := (⟨"StreamRefuterModel", "goBack", "(I)I"⟩, 56)) (List.mem_of_getElem? (i := 77) (by decide +kernel))) ⟨by decide, by decide, by decide +kernel⟩⟩
theorem x_cvs128 : x_cvsP (11, 325, 148, 1) := ⟨by decide, rfl, x_CallV_own x_TsG x_k148 (x_r6 (List.mem_of_getElem? (i := 118) rfl) rfl) (x_r6 (List.mem_of_getElem? (i := 120) rfl) rfl) (x_r1 (List.mem_of_getElem? (i := 11) rfl) rfl) (x_tp (q := (⟨"StreamRefuterModel", "dropUnmarked", "()V"⟩, 56)) (List.mem_of_getElem? (i := 85) (by decide +kernel))) ⟨by decide, by decide, by decide +kernel⟩⟩
theorem x_cvs129 : x_cvsP (11, 328, 149, 4) := ⟨by decide, rfl, x_CallV_own x_TsG x_k149 (x_r6 (List.mem_of_getElem? (i := 122) rfl) rfl) (x_r6 (List.mem_of_getElem? (i := 124) rfl) rfl) (x_r1 (List.mem_of_getElem? (i := 11) rfl) rfl) (x_tp (q := (⟨"StreamRefuterModel", "pushLine", "(IIZ)V"⟩, 56)) (List.mem_of_getElem? (i := 86) (by decide +kernel))) ⟨by decide, by decide, by decide +kernel⟩⟩
theorem x_cvs130 : x_cvsP (11, 313, 141, 2) := ⟨by decide, rfl, x_CallV_own x_TsG x_k141 (x_r6 (List.mem_of_getElem? (i := 90) rfl) rfl) (x_r6 (List.mem_of_getElem? (i := 92) rfl) rfl) (x_r1 (List.mem_of_getElem? (i := 11) rfl) rfl) (x_tp (q := (⟨"StreamRefuterModel", "hintsOf", "(I)V"⟩, 56)) (List.mem_of_getElem? (i := 78) (by decide +kernel))) ⟨by decide, by decide, by decide +kernel⟩⟩
theorem x_cvs131 : x_cvsP (11, 319, 143, 2) := ⟨by decide, rfl, x_CallV_own x_TsG x_k143 (x_r6 (List.mem_of_getElem? (i := 98) rfl) rfl) (x_r6 (List.mem_of_getElem? (i := 100) rfl) rfl) (x_r1 (List.mem_of_getElem? (i := 11) rfl) rfl) (x_tp (q := (⟨"StreamRefuterModel", "wayOf", "(I)I"⟩, 56)) (List.mem_of_getElem? (i := 80) (by decide +kernel))) ⟨by decide, by decide, by decide +kernel⟩⟩
theorem x_cvs132 : x_cvsP (11, 298, 142, 2) := ⟨by decide, rfl, x_CallV_own x_TsG x_k142 (x_r6 (List.mem_of_getElem? (i := 94) rfl) rfl) (x_r6 (List.mem_of_getElem? (i := 96) rfl) rfl) (x_r1 (List.mem_of_getElem? (i := 11) rfl) rfl) (x_tp (q := (⟨"StreamRefuterModel", "addHint", "(I)V"⟩, 56)) (List.mem_of_getElem? (i := 79) (by decide +kernel))) ⟨by decide, by decide, by decide +kernel⟩⟩
theorem x_cvs133 : x_cvsP (11, 316, 144, 2) := ⟨by decide, rfl, x_CallV_own x_TsG x_k144 (x_r6 (List.mem_of_getElem? (i := 102) rfl) rfl) (x_r6 (List.mem_of_getElem? (i := 104) rfl) rfl) (x_r1 (List.mem_of_getElem? (i := 11) rfl) rfl) (x_tp (q := (⟨"StreamRefuterModel", "spared", "(I)Z"⟩, 56)) (List.mem_of_getElem? (i := 81) (by decide +kernel))) ⟨by decide, by decide, by decide +kernel⟩⟩
theorem x_cvs134 : x_cvsP (11, 307, 145, 2) := ⟨by decide, rfl, x_CallV_own x_TsG x_k145 (x_r6 (List.mem_of_getElem? (i := 106) rfl) rfl) (x_r6 (List.mem_of_getElem? (i := 108) rfl) rfl) (x_r1 (List.mem_of_getElem? (i := 11) rfl) rfl) (x_tp (q := (⟨"StreamRefuterModel", "candidate", "(I)I"⟩, 56)) (List.mem_of_getElem? (i := 82) (by decide +kernel))) ⟨by decide, by decide, by decide +kernel⟩⟩
theorem x_cvs135 : x_cvsP (11, 310, 146, 3) := ⟨by decide, rfl, x_CallV_own x_TsG x_k146 (x_r6 (List.mem_of_getElem? (i := 110) rfl) rfl) (x_r6 (List.mem_of_getElem? (i := 112) rfl) rfl) (x_r1 (List.mem_of_getElem? (i := 11) rfl) rfl) (x_tp (q := (⟨"StreamRefuterModel", "takeGroup", "(II)V"⟩, 56)) (List.mem_of_getElem? (i := 83) (by decide +kernel))) ⟨by decide, by decide, by decide +kernel⟩⟩
theorem x_cvs136 : x_cvsP (11, 304, 147, 2) := ⟨by decide, rfl, x_CallV_own x_TsG x_k147 (x_r6 (List.mem_of_getElem? (i := 114) rfl) rfl) (x_r6 (List.mem_of_getElem? (i := 116) rfl) rfl) (x_r1 (List.mem_of_getElem? (i := 11) rfl) rfl) (x_tp (q := (⟨"StreamRefuterModel", "addGroup", "(I)V"⟩, 56)) (List.mem_of_getElem? (i := 84) (by decide +kernel))) ⟨by decide, by decide, by decide +kernel⟩⟩
theorem x_cvs137 : x_cvsP (1, 162, 137, 2) := ⟨by decide, rfl, x_CallV_own x_TsG x_k137 (x_r2 (List.mem_of_getElem? (i := 157) rfl) rfl) (x_r2 (List.mem_of_getElem? (i := 158) rfl) rfl) (x_r1 (List.mem_of_getElem? (i := 7) rfl) rfl) (x_r2 (List.mem_of_getElem? (i := 159) rfl) rfl) ⟨by decide, by decide, by decide +kernel⟩⟩
theorem x_cvs138 : x_cvsP (1, 166, 159, 3) := ⟨by decide, rfl, x_CallV_own x_TsG x_k159 (x_r2 (List.mem_of_getElem? (i := 165) rfl) rfl) (x_r2 (List.mem_of_getElem? (i := 166) rfl) rfl) (x_r1 (List.mem_of_getElem? (i := 7) rfl) rfl) (x_r2 (List.mem_of_getElem? (i := 167) rfl) rfl) ⟨by decide, by decide, by decide +kernel⟩⟩
theorem x_cvs139 : x_cvsP (0, 33, 162, 1) := ⟨by decide, rfl, x_CallV_own x_TsG x_k162 (x_r4 (List.mem_of_getElem? (i := 132) rfl) rfl) (x_r4 (List.mem_of_getElem? (i := 133) rfl) rfl) (x_r1 (List.mem_of_getElem? (i := 1) rfl) rfl) (x_r4 (List.mem_of_getElem? (i := 134) rfl) rfl) ⟨by decide, by decide, by decide +kernel⟩⟩
theorem x_cvs140 : x_cvsP (1, 170, 163, 3) := ⟨by decide, rfl, x_CallV_own x_TsG x_k163 (x_r4 (List.mem_of_getElem? (i := 136) rfl) rfl) (x_r4 (List.mem_of_getElem? (i := 137) rfl) rfl) (x_r1 (List.mem_of_getElem? (i := 10) rfl) rfl) (x_r4 (List.mem_of_getElem? (i := 138) rfl) rfl) ⟨by decide, by decide, by decide +kernel⟩⟩
theorem x_cvs141 : x_cvsP (10, 52, 164, 3) := ⟨by decide, rfl, x_CallV_own x_TsG x_k164 (x_r4 (List.mem_of_getElem? (i := 140) rfl) rfl) (x_r4 (List.mem_of_getElem? (i := 142) rfl) rfl) (x_r1 (List.mem_of_getElem? (i := 10) rfl) rfl) (x_tp (q := (⟨"StreamRefuter$Judge", "begin", "(LStreamRefuter$Problem;LStreamRefuter$Tokens;)V"⟩, 12)) (List.mem_of_getElem? (i := 30) (by decide +kernel))) ⟨by decide, by decide, by decide +kernel⟩⟩
theorem x_cvs142 : x_cvsP (10, 59, 166, 2) := ⟨by decide, rfl, x_CallV_own x_TsG x_k166 (x_r4 (List.mem_of_getElem? (i := 148) rfl) rfl) (x_r4 (List.mem_of_getElem? (i := 149) rfl) rfl) (x_r1 (List.mem_of_getElem? (i := 7) rfl) rfl) (x_r4 (List.mem_of_getElem? (i := 150) rfl) rfl) ⟨by decide, by decide, by decide +kernel⟩⟩
theorem x_cvs143 : x_cvsP (10, 63, 137, 2) := ⟨by decide, rfl, x_CallV_own x_TsG x_k137 (x_r4 (List.mem_of_getElem? (i := 152) rfl) rfl) (x_r2 (List.mem_of_getElem? (i := 158) rfl) rfl) (x_r1 (List.mem_of_getElem? (i := 7) rfl) rfl) (x_r2 (List.mem_of_getElem? (i := 159) rfl) rfl) ⟨by decide, by decide, by decide +kernel⟩⟩
theorem x_cvs144 : x_cvsP (10, 66, 167, 2) := ⟨by decide, rfl, x_CallV_own x_TsG x_k167 (x_r4 (List.mem_of_getElem? (i := 153) rfl) rfl) (x_r4 (List.mem_of_getElem? (i := 155) rfl) rfl) (x_r1 (List.mem_of_getElem? (i := 10) rfl) rfl) (x_tp (q := (⟨"StreamRefuter$Judge", "dropAll", "(I)Z"⟩, 12)) (List.mem_of_getElem? (i := 32) (by decide +kernel))) ⟨by decide, by decide, by decide +kernel⟩⟩
theorem x_cvs145 : x_cvsP (10, 70, 169, 3) := ⟨by decide, rfl, x_CallV_own x_TsG x_k169 (x_r4 (List.mem_of_getElem? (i := 161) rfl) rfl) (x_r4 (List.mem_of_getElem? (i := 163) rfl) rfl) (x_r1 (List.mem_of_getElem? (i := 10) rfl) rfl) (x_tp (q := (⟨"StreamRefuter$Judge", "isGood", "(II)Z"⟩, 12)) (List.mem_of_getElem? (i := 34) (by decide +kernel))) ⟨by decide, by decide, by decide +kernel⟩⟩
theorem x_cvs146 : x_cvsP (10, 81, 165, 3) := ⟨by decide, rfl, x_CallV_own x_TsG x_k165 (x_r4 (List.mem_of_getElem? (i := 144) rfl) rfl) (x_r4 (List.mem_of_getElem? (i := 146) rfl) rfl) (x_r1 (List.mem_of_getElem? (i := 10) rfl) rfl) (x_tp (q := (⟨"StreamRefuter$Judge", "learn", "(II)V"⟩, 12)) (List.mem_of_getElem? (i := 31) (by decide +kernel))) ⟨by decide, by decide, by decide +kernel⟩⟩
theorem x_cvs147 : x_cvsP (10, 85, 168, 2) := ⟨by decide, rfl, x_CallV_own x_TsG x_k168 (x_r4 (List.mem_of_getElem? (i := 157) rfl) rfl) (x_r4 (List.mem_of_getElem? (i := 159) rfl) rfl) (x_r1 (List.mem_of_getElem? (i := 10) rfl) rfl) (x_tp (q := (⟨"StreamRefuter$Judge", "find", "(I)I"⟩, 12)) (List.mem_of_getElem? (i := 33) (by decide +kernel))) ⟨by decide, by decide, by decide +kernel⟩⟩
theorem x_cvs148 : x_cvsP (10, 88, 170, 1) := ⟨by decide, rfl, x_CallV_own x_TsG x_k170 (x_r4 (List.mem_of_getElem? (i := 165) rfl) rfl) (x_r4 (List.mem_of_getElem? (i := 167) rfl) rfl) (x_r1 (List.mem_of_getElem? (i := 10) rfl) rfl) (x_tp (q := (⟨"StreamRefuter$Judge", "readClause", "()Z"⟩, 12)) (List.mem_of_getElem? (i := 35) (by decide +kernel))) ⟨by decide, by decide, by decide +kernel⟩⟩
theorem x_cvs149 : x_cvsP (10, 95, 171, 1) := ⟨by decide, rfl, x_CallV_own x_TsG x_k171 (x_r4 (List.mem_of_getElem? (i := 172) rfl) rfl) (x_r4 (List.mem_of_getElem? (i := 174) rfl) rfl) (x_r1 (List.mem_of_getElem? (i := 10) rfl) rfl) (x_tp (q := (⟨"StreamRefuter$Judge", "followRow", "()Z"⟩, 12)) (List.mem_of_getElem? (i := 36) (by decide +kernel))) ⟨by decide, by decide, by decide +kernel⟩⟩
theorem x_cvs150 : x_cvsP (10, 98, 173, 3) := ⟨by decide, rfl, x_CallV_own x_TsG x_k173 (x_r4 (List.mem_of_getElem? (i := 180) rfl) rfl) (x_r4 (List.mem_of_getElem? (i := 182) rfl) rfl) (x_r1 (List.mem_of_getElem? (i := 10) rfl) rfl) (x_tp (q := (⟨"StreamRefuter$Judge", "isSpared", "(II)Z"⟩, 12)) (List.mem_of_getElem? (i := 38) (by decide +kernel))) ⟨by decide, by decide, by decide +kernel⟩⟩
theorem x_cvs151 : x_cvsP (10, 108, 172, 2) := ⟨by decide, rfl, x_CallV_own x_TsG x_k172 (x_r4 (List.mem_of_getElem? (i := 176) rfl) rfl) (x_r4 (List.mem_of_getElem? (i := 178) rfl) rfl) (x_r1 (List.mem_of_getElem? (i := 10) rfl) rfl) (x_tp (q := (⟨"StreamRefuter$Judge", "follow", "(I)Z"⟩, 12)) (List.mem_of_getElem? (i := 37) (by decide +kernel))) ⟨by decide, by decide, by decide +kernel⟩⟩
theorem x_cvs152 : x_cvsP (10, 111, 174, 2) := ⟨by decide, rfl, x_CallV_own x_TsG x_k174 (x_r4 (List.mem_of_getElem? (i := 184) rfl) rfl) (x_r4 (List.mem_of_getElem? (i := 186) rfl) rfl) (x_r1 (List.mem_of_getElem? (i := 10) rfl) rfl) (x_tp (q := (⟨"StreamRefuter$Judge", "howManyHave", "(I)I"⟩, 12)) (List.mem_of_getElem? (i := 39) (by decide +kernel))) ⟨by decide, by decide, by decide +kernel⟩⟩
theorem x_cvs153 : x_cvsP (10, 114, 175, 2) := ⟨by decide, rfl, x_CallV_own x_TsG x_k175 (x_r4 (List.mem_of_getElem? (i := 188) rfl) rfl) (x_r4 (List.mem_of_getElem? (i := 190) rfl) rfl) (x_r1 (List.mem_of_getElem? (i := 10) rfl) rfl) (x_tp (q := (⟨"StreamRefuter$Judge", "withstands", "(I)Z"⟩, 12)) (List.mem_of_getElem? (i := 40) (by decide +kernel))) ⟨by decide, by decide, by decide +kernel⟩⟩
theorem x_cvs154 : x_cvsP (11, 370, 177, 1) := ⟨by decide, rfl, x_CallV_own x_TsG x_k177 (x_r6 (List.mem_of_getElem? (i := 150) rfl) rfl) (x_r6 (List.mem_of_getElem? (i := 152) rfl) rfl) (x_r1 (List.mem_of_getElem? (i := 11) rfl) rfl) (x_tp (q := (⟨"StreamRefuterModel", "knowFormula", "()V"⟩, 56)) (List.mem_of_getElem? (i := 87) (by decide +kernel))) ⟨by decide, by decide, by decide +kernel⟩⟩
theorem x_cvs155 : x_cvsP (11, 373, 179, 2) := ⟨by decide, rfl, x_CallV_own x_TsG x_k179 (x_r6 (List.mem_of_getElem? (i := 158) rfl) rfl) (x_r6 (List.mem_of_getElem? (i := 160) rfl) rfl) (x_r1 (List.mem_of_getElem? (i := 11) rfl) rfl) (x_tp (q := (⟨"StreamRefuterModel", "lineEnd", "(I)I"⟩, 56)) (List.mem_of_getElem? (i := 89) (by decide +kernel))) ⟨by decide, by decide, by decide +kernel⟩⟩
theorem x_cvs156 : x_cvsP (11, 376, 181, 2) := ⟨by decide, rfl, x_CallV_own x_TsG x_k181 (x_r6 (List.mem_of_getElem? (i := 166) rfl) rfl) (x_r6 (List.mem_of_getElem? (i := 168) rfl) rfl) (x_r1 (List.mem_of_getElem? (i := 11) rfl) rfl) (x_tp (q := (⟨"StreamRefuterModel", "drops", "(I)Z"⟩, 56)) (List.mem_of_getElem? (i := 91) (by decide +kernel))) ⟨by decide, by decide, by decide +kernel⟩⟩
theorem x_cvs157 : x_cvsP (11, 379, 183, 4) := ⟨by decide, rfl, x_CallV_own x_TsG x_k183 (x_r6 (List.mem_of_getElem? (i := 174) rfl) rfl) (x_r6 (List.mem_of_getElem? (i := 176) rfl) rfl) (x_r1 (List.mem_of_getElem? (i := 11) rfl) rfl) (x_tp (q := (⟨"StreamRefuterModel", "goodLine", "(III)I"⟩, 56)) (List.mem_of_getElem? (i := 93) (by decide +kernel))) ⟨by decide, by decide, by decide +kernel⟩⟩
theorem x_cvs158 : x_cvsP (11, 361, 178, 3) := ⟨by decide, rfl, x_CallV_own x_TsG x_k178 (x_r6 (List.mem_of_getElem? (i := 154) rfl) rfl) (x_r6 (List.mem_of_getElem? (i := 156) rfl) rfl) (x_r1 (List.mem_of_getElem? (i := 11) rfl) rfl) (x_tp (q := (⟨"StreamRefuterModel", "know", "(II)V"⟩, 56)) (List.mem_of_getElem? (i := 88) (by decide +kernel))) ⟨by decide, by decide, by decide +kernel⟩⟩
theorem x_cvs159 : x_cvsP (11, 332, 180, 2) := ⟨by decide, rfl, x_CallV_own x_TsG x_k180 (x_r6 (List.mem_of_getElem? (i := 162) rfl) rfl) (x_r6 (List.mem_of_getElem? (i := 164) rfl) rfl) (x_r1 (List.mem_of_getElem? (i := 11) rfl) rfl) (x_tp (q := (⟨"StreamRefuterModel", "behindZero", "(I)I"⟩, 56)) (List.mem_of_getElem? (i := 90) (by decide +kernel))) ⟨by decide, by decide, by decide +kernel⟩⟩
theorem x_cvs160 : x_cvsP (11, 338, 182, 2) := ⟨by decide, rfl, x_CallV_own x_TsG x_k182 (x_r6 (List.mem_of_getElem? (i := 170) rfl) rfl) (x_r6 (List.mem_of_getElem? (i := 172) rfl) rfl) (x_r1 (List.mem_of_getElem? (i := 11) rfl) rfl) (x_tp (q := (⟨"StreamRefuterModel", "find", "(I)I"⟩, 56)) (List.mem_of_getElem? (i := 92) (by decide +kernel))) ⟨by decide, by decide, by decide +kernel⟩⟩
theorem x_cvs161 : x_cvsP (11, 364, 184, 2) := ⟨by decide, rfl, x_CallV_own x_TsG x_k184 (x_r6 (List.mem_of_getElem? (i := 178) rfl) rfl) (x_r6 (List.mem_of_getElem? (i := 180) rfl) rfl) (x_r1 (List.mem_of_getElem? (i := 11) rfl) rfl) (x_tp (q := (⟨"StreamRefuterModel", "beginLine", "(I)I"⟩, 56)) (List.mem_of_getElem? (i := 94) (by decide +kernel))) ⟨by decide, by decide, by decide +kernel⟩⟩
theorem x_cvs162 : x_cvsP (11, 367, 185, 4) := ⟨by decide, rfl, x_CallV_own x_TsG x_k185 (x_r6 (List.mem_of_getElem? (i := 182) rfl) rfl) (x_r6 (List.mem_of_getElem? (i := 184) rfl) rfl) (x_r1 (List.mem_of_getElem? (i := 11) rfl) rfl) (x_tp (q := (⟨"StreamRefuterModel", "isFollowed", "(III)Z"⟩, 56)) (List.mem_of_getElem? (i := 95) (by decide +kernel))) ⟨by decide, by decide, by decide +kernel⟩⟩
theorem x_cvs163 : x_cvsP (11, 347, 186, 2) := ⟨by decide, rfl, x_CallV_own x_TsG x_k186 (x_r6 (List.mem_of_getElem? (i := 186) rfl) rfl) (x_r6 (List.mem_of_getElem? (i := 188) rfl) rfl) (x_r1 (List.mem_of_getElem? (i := 11) rfl) rfl) (x_tp (q := (⟨"StreamRefuterModel", "follow", "(I)I"⟩, 56)) (List.mem_of_getElem? (i := 96) (by decide +kernel))) ⟨by decide, by decide, by decide +kernel⟩⟩
theorem x_cvs164 : x_cvsP (11, 357, 188, 4) := ⟨by decide, rfl, x_CallV_own x_TsG x_k188 (x_r6 (List.mem_of_getElem? (i := 194) rfl) rfl) (x_r6 (List.mem_of_getElem? (i := 196) rfl) rfl) (x_r1 (List.mem_of_getElem? (i := 11) rfl) rfl) (x_tp (q := (⟨"StreamRefuterModel", "names", "(III)Z"⟩, 56)) (List.mem_of_getElem? (i := 98) (by decide +kernel))) ⟨by decide, by decide, by decide +kernel⟩⟩
theorem x_cvs165 : x_cvsP (11, 341, 187, 2) := ⟨by decide, rfl, x_CallV_own x_TsG x_k187 (x_r6 (List.mem_of_getElem? (i := 190) rfl) rfl) (x_r6 (List.mem_of_getElem? (i := 192) rfl) rfl) (x_r1 (List.mem_of_getElem? (i := 11) rfl) rfl) (x_tp (q := (⟨"StreamRefuterModel", "isKnownReady", "(I)Z"⟩, 56)) (List.mem_of_getElem? (i := 97) (by decide +kernel))) ⟨by decide, by decide, by decide +kernel⟩⟩
theorem x_cvs166 : x_cvsP (11, 350, 189, 3) := ⟨by decide, rfl, x_CallV_own x_TsG x_k189 (x_r6 (List.mem_of_getElem? (i := 198) rfl) rfl) (x_r6 (List.mem_of_getElem? (i := 200) rfl) rfl) (x_r1 (List.mem_of_getElem? (i := 11) rfl) rfl) (x_tp (q := (⟨"StreamRefuterModel", "knownHas", "(II)Z"⟩, 56)) (List.mem_of_getElem? (i := 99) (by decide +kernel))) ⟨by decide, by decide, by decide +kernel⟩⟩
theorem x_cvs167 : x_cvsP (11, 353, 190, 5) := ⟨by decide, rfl, x_CallV_own x_TsG x_k190 (x_r6 (List.mem_of_getElem? (i := 202) rfl) rfl) (x_r6 (List.mem_of_getElem? (i := 204) rfl) rfl) (x_r1 (List.mem_of_getElem? (i := 11) rfl) rfl) (x_tp (q := (⟨"StreamRefuterModel", "followGroup", "(IIII)Z"⟩, 56)) (List.mem_of_getElem? (i := 100) (by decide +kernel))) ⟨by decide, by decide, by decide +kernel⟩⟩
theorem x_cvs168 : x_cvsP (11, 344, 191, 3) := ⟨by decide, rfl, x_CallV_own x_TsG x_k191 (x_r6 (List.mem_of_getElem? (i := 206) rfl) rfl) (x_r6 (List.mem_of_getElem? (i := 208) rfl) rfl) (x_r1 (List.mem_of_getElem? (i := 11) rfl) rfl) (x_tp (q := (⟨"StreamRefuterModel", "isMet", "(II)Z"⟩, 56)) (List.mem_of_getElem? (i := 101) (by decide +kernel))) ⟨by decide, by decide, by decide +kernel⟩⟩
theorem x_cvs_ok : ∀ q ∈ x_cvs, x_cvsP q := by
  unfold x_cvs
  refine List.forall_mem_cons.mpr ⟨x_cvs0, ?_⟩
  refine List.forall_mem_cons.mpr ⟨x_cvs1, ?_⟩
  refine List.forall_mem_cons.mpr ⟨x_cvs2, ?_⟩
  refine List.forall_mem_cons.mpr ⟨x_cvs3, ?_⟩
  refine List.forall_mem_cons.mpr ⟨x_cvs4, ?_⟩
  refine List.forall_mem_cons.mpr ⟨x_cvs5, ?_⟩
  refine List.forall_mem_cons.mpr ⟨x_cvs6, ?_⟩
  refine List.forall_mem_cons.mpr ⟨x_cvs7, ?_⟩
  refine List.forall_mem_cons.mpr ⟨x_cvs8, ?_⟩
  refine List.forall_mem_cons.mpr ⟨x_cvs9, ?_⟩
  refine List.forall_mem_cons.mpr ⟨x_cvs10, ?_⟩
  refine List.forall_mem_cons.mpr ⟨x_cvs11, ?_⟩
  refine List.forall_mem_cons.mpr ⟨x_cvs12, ?_⟩
  refine List.forall_mem_cons.mpr ⟨x_cvs13, ?_⟩
  refine List.forall_mem_cons.mpr ⟨x_cvs14, ?_⟩
  refine List.forall_mem_cons.mpr ⟨x_cvs15, ?_⟩
  refine List.forall_mem_cons.mpr ⟨x_cvs16, ?_⟩
  refine List.forall_mem_cons.mpr ⟨x_cvs17, ?_⟩
  refine List.forall_mem_cons.mpr ⟨x_cvs18, ?_⟩
  refine List.forall_mem_cons.mpr ⟨x_cvs19, ?_⟩
  refine List.forall_mem_cons.mpr ⟨x_cvs20, ?_⟩
  refine List.forall_mem_cons.mpr ⟨x_cvs21, ?_⟩
  refine List.forall_mem_cons.mpr ⟨x_cvs22, ?_⟩
  refine List.forall_mem_cons.mpr ⟨x_cvs23, ?_⟩
  refine List.forall_mem_cons.mpr ⟨x_cvs24, ?_⟩
  refine List.forall_mem_cons.mpr ⟨x_cvs25, ?_⟩
  refine List.forall_mem_cons.mpr ⟨x_cvs26, ?_⟩
  refine List.forall_mem_cons.mpr ⟨x_cvs27, ?_⟩
  refine List.forall_mem_cons.mpr ⟨x_cvs28, ?_⟩
  refine List.forall_mem_cons.mpr ⟨x_cvs29, ?_⟩
  refine List.forall_mem_cons.mpr ⟨x_cvs30, ?_⟩
  refine List.forall_mem_cons.mpr ⟨x_cvs31, ?_⟩
  refine List.forall_mem_cons.mpr ⟨x_cvs32, ?_⟩
  refine List.forall_mem_cons.mpr ⟨x_cvs33, ?_⟩
  refine List.forall_mem_cons.mpr ⟨x_cvs34, ?_⟩
  refine List.forall_mem_cons.mpr ⟨x_cvs35, ?_⟩
  refine List.forall_mem_cons.mpr ⟨x_cvs36, ?_⟩
  refine List.forall_mem_cons.mpr ⟨x_cvs37, ?_⟩
  refine List.forall_mem_cons.mpr ⟨x_cvs38, ?_⟩
  refine List.forall_mem_cons.mpr ⟨x_cvs39, ?_⟩
  refine List.forall_mem_cons.mpr ⟨x_cvs40, ?_⟩
  refine List.forall_mem_cons.mpr ⟨x_cvs41, ?_⟩
  refine List.forall_mem_cons.mpr ⟨x_cvs42, ?_⟩
  refine List.forall_mem_cons.mpr ⟨x_cvs43, ?_⟩
  refine List.forall_mem_cons.mpr ⟨x_cvs44, ?_⟩
  refine List.forall_mem_cons.mpr ⟨x_cvs45, ?_⟩
  refine List.forall_mem_cons.mpr ⟨x_cvs46, ?_⟩
  refine List.forall_mem_cons.mpr ⟨x_cvs47, ?_⟩
  refine List.forall_mem_cons.mpr ⟨x_cvs48, ?_⟩
  refine List.forall_mem_cons.mpr ⟨x_cvs49, ?_⟩
  refine List.forall_mem_cons.mpr ⟨x_cvs50, ?_⟩
  refine List.forall_mem_cons.mpr ⟨x_cvs51, ?_⟩
  refine List.forall_mem_cons.mpr ⟨x_cvs52, ?_⟩
  refine List.forall_mem_cons.mpr ⟨x_cvs53, ?_⟩
  refine List.forall_mem_cons.mpr ⟨x_cvs54, ?_⟩
  refine List.forall_mem_cons.mpr ⟨x_cvs55, ?_⟩
  refine List.forall_mem_cons.mpr ⟨x_cvs56, ?_⟩
  refine List.forall_mem_cons.mpr ⟨x_cvs57, ?_⟩
  refine List.forall_mem_cons.mpr ⟨x_cvs58, ?_⟩
  refine List.forall_mem_cons.mpr ⟨x_cvs59, ?_⟩
  refine List.forall_mem_cons.mpr ⟨x_cvs60, ?_⟩
  refine List.forall_mem_cons.mpr ⟨x_cvs61, ?_⟩
  refine List.forall_mem_cons.mpr ⟨x_cvs62, ?_⟩
  refine List.forall_mem_cons.mpr ⟨x_cvs63, ?_⟩
  refine List.forall_mem_cons.mpr ⟨x_cvs64, ?_⟩
  refine List.forall_mem_cons.mpr ⟨x_cvs65, ?_⟩
  refine List.forall_mem_cons.mpr ⟨x_cvs66, ?_⟩
  refine List.forall_mem_cons.mpr ⟨x_cvs67, ?_⟩
  refine List.forall_mem_cons.mpr ⟨x_cvs68, ?_⟩
  refine List.forall_mem_cons.mpr ⟨x_cvs69, ?_⟩
  refine List.forall_mem_cons.mpr ⟨x_cvs70, ?_⟩
  refine List.forall_mem_cons.mpr ⟨x_cvs71, ?_⟩
  refine List.forall_mem_cons.mpr ⟨x_cvs72, ?_⟩
  refine List.forall_mem_cons.mpr ⟨x_cvs73, ?_⟩
  refine List.forall_mem_cons.mpr ⟨x_cvs74, ?_⟩
  refine List.forall_mem_cons.mpr ⟨x_cvs75, ?_⟩
  refine List.forall_mem_cons.mpr ⟨x_cvs76, ?_⟩
  refine List.forall_mem_cons.mpr ⟨x_cvs77, ?_⟩
  refine List.forall_mem_cons.mpr ⟨x_cvs78, ?_⟩
  refine List.forall_mem_cons.mpr ⟨x_cvs79, ?_⟩
  refine List.forall_mem_cons.mpr ⟨x_cvs80, ?_⟩
  refine List.forall_mem_cons.mpr ⟨x_cvs81, ?_⟩
  refine List.forall_mem_cons.mpr ⟨x_cvs82, ?_⟩
  refine List.forall_mem_cons.mpr ⟨x_cvs83, ?_⟩
  refine List.forall_mem_cons.mpr ⟨x_cvs84, ?_⟩
  refine List.forall_mem_cons.mpr ⟨x_cvs85, ?_⟩
  refine List.forall_mem_cons.mpr ⟨x_cvs86, ?_⟩
  refine List.forall_mem_cons.mpr ⟨x_cvs87, ?_⟩
  refine List.forall_mem_cons.mpr ⟨x_cvs88, ?_⟩
  refine List.forall_mem_cons.mpr ⟨x_cvs89, ?_⟩
  refine List.forall_mem_cons.mpr ⟨x_cvs90, ?_⟩
  refine List.forall_mem_cons.mpr ⟨x_cvs91, ?_⟩
  refine List.forall_mem_cons.mpr ⟨x_cvs92, ?_⟩
  refine List.forall_mem_cons.mpr ⟨x_cvs93, ?_⟩
  refine List.forall_mem_cons.mpr ⟨x_cvs94, ?_⟩
  refine List.forall_mem_cons.mpr ⟨x_cvs95, ?_⟩
  refine List.forall_mem_cons.mpr ⟨x_cvs96, ?_⟩
  refine List.forall_mem_cons.mpr ⟨x_cvs97, ?_⟩
  refine List.forall_mem_cons.mpr ⟨x_cvs98, ?_⟩
  refine List.forall_mem_cons.mpr ⟨x_cvs99, ?_⟩
  refine List.forall_mem_cons.mpr ⟨x_cvs100, ?_⟩
  refine List.forall_mem_cons.mpr ⟨x_cvs101, ?_⟩
  refine List.forall_mem_cons.mpr ⟨x_cvs102, ?_⟩
  refine List.forall_mem_cons.mpr ⟨x_cvs103, ?_⟩
  refine List.forall_mem_cons.mpr ⟨x_cvs104, ?_⟩
  refine List.forall_mem_cons.mpr ⟨x_cvs105, ?_⟩
  refine List.forall_mem_cons.mpr ⟨x_cvs106, ?_⟩
  refine List.forall_mem_cons.mpr ⟨x_cvs107, ?_⟩
  refine List.forall_mem_cons.mpr ⟨x_cvs108, ?_⟩
  refine List.forall_mem_cons.mpr ⟨x_cvs109, ?_⟩
  refine List.forall_mem_cons.mpr ⟨x_cvs110, ?_⟩
  refine List.forall_mem_cons.mpr ⟨x_cvs111, ?_⟩
  refine List.forall_mem_cons.mpr ⟨x_cvs112, ?_⟩
  refine List.forall_mem_cons.mpr ⟨x_cvs113, ?_⟩
  refine List.forall_mem_cons.mpr ⟨x_cvs114, ?_⟩
  refine List.forall_mem_cons.mpr ⟨x_cvs115, ?_⟩
  refine List.forall_mem_cons.mpr ⟨x_cvs116, ?_⟩
  refine List.forall_mem_cons.mpr ⟨x_cvs117, ?_⟩
  refine List.forall_mem_cons.mpr ⟨x_cvs118, ?_⟩
  refine List.forall_mem_cons.mpr ⟨x_cvs119, ?_⟩
  refine List.forall_mem_cons.mpr ⟨x_cvs120, ?_⟩
  refine List.forall_mem_cons.mpr ⟨x_cvs121, ?_⟩
  refine List.forall_mem_cons.mpr ⟨x_cvs122, ?_⟩
  refine List.forall_mem_cons.mpr ⟨x_cvs123, ?_⟩
  refine List.forall_mem_cons.mpr ⟨x_cvs124, ?_⟩
  refine List.forall_mem_cons.mpr ⟨x_cvs125, ?_⟩
  refine List.forall_mem_cons.mpr ⟨x_cvs126, ?_⟩
  refine List.forall_mem_cons.mpr ⟨x_cvs127, ?_⟩
  refine List.forall_mem_cons.mpr ⟨x_cvs128, ?_⟩
  refine List.forall_mem_cons.mpr ⟨x_cvs129, ?_⟩
  refine List.forall_mem_cons.mpr ⟨x_cvs130, ?_⟩
  refine List.forall_mem_cons.mpr ⟨x_cvs131, ?_⟩
  refine List.forall_mem_cons.mpr ⟨x_cvs132, ?_⟩
  refine List.forall_mem_cons.mpr ⟨x_cvs133, ?_⟩
  refine List.forall_mem_cons.mpr ⟨x_cvs134, ?_⟩
  refine List.forall_mem_cons.mpr ⟨x_cvs135, ?_⟩
  refine List.forall_mem_cons.mpr ⟨x_cvs136, ?_⟩
  refine List.forall_mem_cons.mpr ⟨x_cvs137, ?_⟩
  refine List.forall_mem_cons.mpr ⟨x_cvs138, ?_⟩
  refine List.forall_mem_cons.mpr ⟨x_cvs139, ?_⟩
  refine List.forall_mem_cons.mpr ⟨x_cvs140, ?_⟩
  refine List.forall_mem_cons.mpr ⟨x_cvs141, ?_⟩
  refine List.forall_mem_cons.mpr ⟨x_cvs142, ?_⟩
  refine List.forall_mem_cons.mpr ⟨x_cvs143, ?_⟩
  refine List.forall_mem_cons.mpr ⟨x_cvs144, ?_⟩
  refine List.forall_mem_cons.mpr ⟨x_cvs145, ?_⟩
  refine List.forall_mem_cons.mpr ⟨x_cvs146, ?_⟩
  refine List.forall_mem_cons.mpr ⟨x_cvs147, ?_⟩
  refine List.forall_mem_cons.mpr ⟨x_cvs148, ?_⟩
  refine List.forall_mem_cons.mpr ⟨x_cvs149, ?_⟩
  refine List.forall_mem_cons.mpr ⟨x_cvs150, ?_⟩
  refine List.forall_mem_cons.mpr ⟨x_cvs151, ?_⟩
  refine List.forall_mem_cons.mpr ⟨x_cvs152, ?_⟩
  refine List.forall_mem_cons.mpr ⟨x_cvs153, ?_⟩
  refine List.forall_mem_cons.mpr ⟨x_cvs154, ?_⟩
  refine List.forall_mem_cons.mpr ⟨x_cvs155, ?_⟩
  refine List.forall_mem_cons.mpr ⟨x_cvs156, ?_⟩
  refine List.forall_mem_cons.mpr ⟨x_cvs157, ?_⟩
  refine List.forall_mem_cons.mpr ⟨x_cvs158, ?_⟩
  refine List.forall_mem_cons.mpr ⟨x_cvs159, ?_⟩
  refine List.forall_mem_cons.mpr ⟨x_cvs160, ?_⟩
  refine List.forall_mem_cons.mpr ⟨x_cvs161, ?_⟩
  refine List.forall_mem_cons.mpr ⟨x_cvs162, ?_⟩
  refine List.forall_mem_cons.mpr ⟨x_cvs163, ?_⟩
  refine List.forall_mem_cons.mpr ⟨x_cvs164, ?_⟩
  refine List.forall_mem_cons.mpr ⟨x_cvs165, ?_⟩
  refine List.forall_mem_cons.mpr ⟨x_cvs166, ?_⟩
  refine List.forall_mem_cons.mpr ⟨x_cvs167, ?_⟩
  refine List.forall_mem_cons.mpr ⟨x_cvs168, ?_⟩
  exact fun _ h => absurd h List.not_mem_nil
def x_cvt : List (Nat × Nat × Nat × Nat) := [(6, 58, 0, 1), (6, 146, 1, 1), (6, 95, 2, 1), (6, 98, 3, 1), (6, 113, 4, 2), (7, 33, 0, 1)]
def x_cvtP (q : Nat × Nat × Nat × Nat) : Prop := (x_prog.2.2.2.2.1 q.2.2.1).1 < 90 ∧ (x_prog.2.2.2.2.1 q.2.2.1).2.2.1 < 90 ∧ x_cts[(x_prog.2.2.2.2.1 q.2.2.1).1]? = some (x_ct (x_prog.2.2.2.2.1 q.2.2.1).1) ∧ x_cts[(x_prog.2.2.2.2.1 q.2.2.1).2.2.1]? = some (x_ct (x_prog.2.2.2.2.1 q.2.2.1).2.2.1) ∧ x_CallV x_Ts x_Nw (x_on q.1) q.2.1 (x_ct (x_prog.2.2.2.2.1 q.2.2.1).1).1 (x_mt (x_prog.2.2.2.2.1 q.2.2.1).2.1).1 (x_mt (x_prog.2.2.2.2.1 q.2.2.1).2.1).2.1 (x_mt (x_prog.2.2.2.2.1 q.2.2.1).2.1).2.2.1 (x_mt (x_prog.2.2.2.2.1 q.2.2.1).2.1).2.2.2.1 q.2.2.2 ∧ x_CallV x_Ts x_Nw (x_on q.1) q.2.1 (x_ct (x_prog.2.2.2.2.1 q.2.2.1).2.2.1).1 (x_mt (x_prog.2.2.2.2.1 q.2.2.1).2.2.2).1 (x_mt (x_prog.2.2.2.2.1 q.2.2.1).2.2.2).2.1 (x_mt (x_prog.2.2.2.2.1 q.2.2.1).2.2.2).2.2.1 (x_mt (x_prog.2.2.2.2.1 q.2.2.1).2.2.2).2.2.2.1 q.2.2.2
theorem x_cvt0 : x_cvtP (6, 58, 0, 1) := ⟨by decide, by decide, rfl, rfl, x_CallV_up (x := ⟨"StreamRefuter$Words", "restart", "()V"⟩) x_TsG x_k22 (x_r2 (List.mem_of_getElem? (i := 185) rfl) rfl) (x_r2 (List.mem_of_getElem? (i := 186) rfl) rfl) (x_r2 (List.mem_of_getElem? (i := 189) rfl) rfl) (x_r1 (List.mem_of_getElem? (i := 3) rfl) rfl) (x_r2 (List.mem_of_getElem? (i := 188) rfl) rfl) rfl ⟨by decide, by decide, by decide +kernel⟩, x_CallV_up (x := ⟨"StreamRefuter$Words", "restart", "()V"⟩) x_TsG x_k22 (x_r2 (List.mem_of_getElem? (i := 185) rfl) rfl) (x_r2 (List.mem_of_getElem? (i := 186) rfl) rfl) (x_r2 (List.mem_of_getElem? (i := 189) rfl) rfl) (x_r1 (List.mem_of_getElem? (i := 3) rfl) rfl) (x_r2 (List.mem_of_getElem? (i := 188) rfl) rfl) rfl ⟨by decide, by decide, by decide +kernel⟩⟩
theorem x_cvt1 : x_cvtP (6, 146, 1, 1) := ⟨by decide, by decide, rfl, rfl, x_CallV_abs (owner := "StreamRefuter$Numbers") (x := ⟨"StreamRefuter$Numbers", "advance", "()V"⟩) x_TsG x_k23 (x_r3 (List.mem_of_getElem? (i := 47) rfl) rfl) (x_r3 (List.mem_of_getElem? (i := 49) rfl) rfl) (x_r2 (List.mem_of_getElem? (i := 192) rfl) rfl) (x_r1 (List.mem_of_getElem? (i := 4) rfl) rfl) (x_r3 (List.mem_of_getElem? (i := 62) rfl) rfl) (List.mem_of_getElem? (i := 17) rfl) ⟨by decide, by decide, by decide +kernel⟩, x_CallV_abs (owner := "StreamRefuter$Numbers") (x := ⟨"StreamRefuter$Numbers", "advance", "()V"⟩) x_TsG x_k35 (x_r3 (List.mem_of_getElem? (i := 47) rfl) rfl) (x_r3 (List.mem_of_getElem? (i := 49) rfl) rfl) (x_r3 (List.mem_of_getElem? (i := 51) rfl) rfl) (x_r1 (List.mem_of_getElem? (i := 5) rfl) rfl) (x_r3 (List.mem_of_getElem? (i := 50) rfl) rfl) (List.mem_of_getElem? (i := 17) rfl) ⟨by decide, by decide, by decide +kernel⟩⟩
theorem x_cvt2 : x_cvtP (6, 95, 2, 1) := ⟨by decide, by decide, rfl, rfl, x_CallV_up (x := ⟨"StreamRefuter$Numbers", "restart", "()V"⟩) x_TsG x_k22 (x_r3 (List.mem_of_getElem? (i := 172) rfl) rfl) (x_r6 (List.mem_of_getElem? (i := 212) rfl) rfl) (x_r2 (List.mem_of_getElem? (i := 189) rfl) rfl) (x_r1 (List.mem_of_getElem? (i := 3) rfl) rfl) (x_r6 (List.mem_of_getElem? (i := 214) rfl) rfl) rfl ⟨by decide, by decide, by decide +kernel⟩, x_CallV_up (x := ⟨"StreamRefuter$Numbers", "restart", "()V"⟩) x_TsG x_k22 (x_r3 (List.mem_of_getElem? (i := 172) rfl) rfl) (x_r6 (List.mem_of_getElem? (i := 212) rfl) rfl) (x_r2 (List.mem_of_getElem? (i := 189) rfl) rfl) (x_r1 (List.mem_of_getElem? (i := 3) rfl) rfl) (x_r6 (List.mem_of_getElem? (i := 213) rfl) rfl) rfl ⟨by decide, by decide, by decide +kernel⟩⟩
theorem x_cvt3 : x_cvtP (6, 98, 3, 1) := ⟨by decide, by decide, rfl, rfl, x_CallV_abs (owner := "StreamRefuter$Numbers") (x := ⟨"StreamRefuter$Numbers", "openStep", "()LStreamRefuter$Opening;"⟩) x_TsG x_k61 (x_r3 (List.mem_of_getElem? (i := 173) rfl) rfl) (x_r3 (List.mem_of_getElem? (i := 175) rfl) rfl) (x_r3 (List.mem_of_getElem? (i := 188) rfl) rfl) (x_r1 (List.mem_of_getElem? (i := 4) rfl) rfl) (x_r3 (List.mem_of_getElem? (i := 187) rfl) rfl) (List.mem_of_getElem? (i := 18) rfl) ⟨by decide, by decide, by decide +kernel⟩, x_CallV_abs (owner := "StreamRefuter$Numbers") (x := ⟨"StreamRefuter$Numbers", "openStep", "()LStreamRefuter$Opening;"⟩) x_TsG x_k62 (x_r3 (List.mem_of_getElem? (i := 173) rfl) rfl) (x_r3 (List.mem_of_getElem? (i := 175) rfl) rfl) (x_r3 (List.mem_of_getElem? (i := 177) rfl) rfl) (x_r1 (List.mem_of_getElem? (i := 5) rfl) rfl) (x_r3 (List.mem_of_getElem? (i := 176) rfl) rfl) (List.mem_of_getElem? (i := 18) rfl) ⟨by decide, by decide, by decide +kernel⟩⟩
theorem x_cvt4 : x_cvtP (6, 113, 4, 2) := ⟨by decide, by decide, rfl, rfl, x_CallV_abs (owner := "StreamRefuter$Numbers") (x := ⟨"StreamRefuter$Numbers", "enterClause", "(LStreamRefuter$Opening;)V"⟩) x_TsG x_k64 (x_r3 (List.mem_of_getElem? (i := 201) rfl) rfl) (x_r3 (List.mem_of_getElem? (i := 203) rfl) rfl) (x_r3 (List.mem_of_getElem? (i := 209) rfl) rfl) (x_r1 (List.mem_of_getElem? (i := 4) rfl) rfl) (x_r3 (List.mem_of_getElem? (i := 208) rfl) rfl) (List.mem_of_getElem? (i := 19) rfl) ⟨by decide, by decide, by decide +kernel⟩, x_CallV_abs (owner := "StreamRefuter$Numbers") (x := ⟨"StreamRefuter$Numbers", "enterClause", "(LStreamRefuter$Opening;)V"⟩) x_TsG x_k65 (x_r3 (List.mem_of_getElem? (i := 201) rfl) rfl) (x_r3 (List.mem_of_getElem? (i := 203) rfl) rfl) (x_r3 (List.mem_of_getElem? (i := 205) rfl) rfl) (x_r1 (List.mem_of_getElem? (i := 5) rfl) rfl) (x_r3 (List.mem_of_getElem? (i := 204) rfl) rfl) (List.mem_of_getElem? (i := 19) rfl) ⟨by decide, by decide, by decide +kernel⟩⟩
theorem x_cvt5 : x_cvtP (7, 33, 0, 1) := ⟨by decide, by decide, rfl, rfl, x_CallV_up (x := ⟨"StreamRefuter$Words", "restart", "()V"⟩) x_TsG x_k22 (x_r3 (List.mem_of_getElem? (i := 233) rfl) rfl) (x_r2 (List.mem_of_getElem? (i := 186) rfl) rfl) (x_r2 (List.mem_of_getElem? (i := 189) rfl) rfl) (x_r1 (List.mem_of_getElem? (i := 3) rfl) rfl) (x_r2 (List.mem_of_getElem? (i := 188) rfl) rfl) rfl ⟨by decide, by decide, by decide +kernel⟩, x_CallV_up (x := ⟨"StreamRefuter$Words", "restart", "()V"⟩) x_TsG x_k22 (x_r3 (List.mem_of_getElem? (i := 233) rfl) rfl) (x_r2 (List.mem_of_getElem? (i := 186) rfl) rfl) (x_r2 (List.mem_of_getElem? (i := 189) rfl) rfl) (x_r1 (List.mem_of_getElem? (i := 3) rfl) rfl) (x_r2 (List.mem_of_getElem? (i := 188) rfl) rfl) rfl ⟨by decide, by decide, by decide +kernel⟩⟩
theorem x_cvt_ok : ∀ q ∈ x_cvt, x_cvtP q := by
  unfold x_cvt
  refine List.forall_mem_cons.mpr ⟨x_cvt0, ?_⟩
  refine List.forall_mem_cons.mpr ⟨x_cvt1, ?_⟩
  refine List.forall_mem_cons.mpr ⟨x_cvt2, ?_⟩
  refine List.forall_mem_cons.mpr ⟨x_cvt3, ?_⟩
  refine List.forall_mem_cons.mpr ⟨x_cvt4, ?_⟩
  refine List.forall_mem_cons.mpr ⟨x_cvt5, ?_⟩
  exact fun _ h => absurd h List.not_mem_nil
def x_nws : List (Nat × Nat × Nat) := [(0, 8, 0), (0, 37, 9), (1, 7, 1), (1, 16, 2), (1, 25, 3), (1, 32, 4), (1, 42, 5), (1, 52, 7), (1, 61, 8), (8, 22, 5), (8, 47, 6)]
def x_nwsP (q : Nat × Nat × Nat) : Prop := x_cf x_cts x_ct x_fk x_ty x_Ts q.2.2 ∧ Cond.classLink (x_on q.1) q.2.1 (x_ct q.2.2).1 ∈ x_Ts ∧ Cond.instantiable (x_ct q.2.2).1 (x_ct q.2.2).2.2 ∈ x_Ts ∧ Cond.initialized (x_ct q.2.2).1 ∈ x_Ts
theorem x_nws0 : x_nwsP (0, 8, 0) := ⟨x_c0, x_r1 (List.mem_of_getElem? (i := 24) rfl) rfl, x_r1 (List.mem_of_getElem? (i := 25) rfl) rfl, x_r1 (List.mem_of_getElem? (i := 1) rfl) rfl⟩
theorem x_nws1 : x_nwsP (0, 37, 9) := ⟨x_c9, x_r4 (List.mem_of_getElem? (i := 192) rfl) rfl, x_r4 (List.mem_of_getElem? (i := 193) rfl) rfl, x_r1 (List.mem_of_getElem? (i := 11) rfl) rfl⟩
theorem x_nws2 : x_nwsP (1, 7, 1) := ⟨x_c1, x_r1 (List.mem_of_getElem? (i := 32) rfl) rfl, x_r1 (List.mem_of_getElem? (i := 33) rfl) rfl, x_r1 (List.mem_of_getElem? (i := 2) rfl) rfl⟩
theorem x_nws3 : x_nwsP (1, 16, 2) := ⟨x_c2, x_r1 (List.mem_of_getElem? (i := 46) rfl) rfl, x_r1 (List.mem_of_getElem? (i := 47) rfl) rfl, x_r1 (List.mem_of_getElem? (i := 4) rfl) rfl⟩
theorem x_nws4 : x_nwsP (1, 25, 3) := ⟨x_c3, x_r1 (List.mem_of_getElem? (i := 90) rfl) rfl, x_r1 (List.mem_of_getElem? (i := 91) rfl) rfl, x_r1 (List.mem_of_getElem? (i := 5) rfl) rfl⟩
theorem x_nws5 : x_nwsP (1, 32, 4) := ⟨x_c4, x_r1 (List.mem_of_getElem? (i := 101) rfl) rfl, x_r1 (List.mem_of_getElem? (i := 102) rfl) rfl, x_r1 (List.mem_of_getElem? (i := 6) rfl) rfl⟩
theorem x_nws6 : x_nwsP (1, 42, 5) := ⟨x_c5, x_r1 (List.mem_of_getElem? (i := 175) rfl) rfl, x_r1 (List.mem_of_getElem? (i := 176) rfl) rfl, x_r1 (List.mem_of_getElem? (i := 7) rfl) rfl⟩
theorem x_nws7 : x_nwsP (1, 52, 7) := ⟨x_c7, x_r1 (List.mem_of_getElem? (i := 195) rfl) rfl, x_r1 (List.mem_of_getElem? (i := 196) rfl) rfl, x_r1 (List.mem_of_getElem? (i := 8) rfl) rfl⟩
theorem x_nws8 : x_nwsP (1, 61, 8) := ⟨x_c8, x_r2 (List.mem_of_getElem? (i := 35) rfl) rfl, x_r2 (List.mem_of_getElem? (i := 36) rfl) rfl, x_r1 (List.mem_of_getElem? (i := 10) rfl) rfl⟩
theorem x_nws9 : x_nwsP (8, 22, 5) := ⟨x_c5, x_r1 (List.mem_of_getElem? (i := 201) rfl) rfl, x_r1 (List.mem_of_getElem? (i := 176) rfl) rfl, x_r1 (List.mem_of_getElem? (i := 7) rfl) rfl⟩
theorem x_nws10 : x_nwsP (8, 47, 6) := ⟨x_c6, x_r1 (List.mem_of_getElem? (i := 203) rfl) rfl, x_r1 (List.mem_of_getElem? (i := 204) rfl) rfl, x_r1 (List.mem_of_getElem? (i := 9) rfl) rfl⟩
theorem x_nws_ok : ∀ q ∈ x_nws, x_nwsP q := by
  unfold x_nws
  refine List.forall_mem_cons.mpr ⟨x_nws0, ?_⟩
  refine List.forall_mem_cons.mpr ⟨x_nws1, ?_⟩
  refine List.forall_mem_cons.mpr ⟨x_nws2, ?_⟩
  refine List.forall_mem_cons.mpr ⟨x_nws3, ?_⟩
  refine List.forall_mem_cons.mpr ⟨x_nws4, ?_⟩
  refine List.forall_mem_cons.mpr ⟨x_nws5, ?_⟩
  refine List.forall_mem_cons.mpr ⟨x_nws6, ?_⟩
  refine List.forall_mem_cons.mpr ⟨x_nws7, ?_⟩
  refine List.forall_mem_cons.mpr ⟨x_nws8, ?_⟩
  refine List.forall_mem_cons.mpr ⟨x_nws9, ?_⟩
  refine List.forall_mem_cons.mpr ⟨x_nws10, ?_⟩
  exact fun _ h => absurd h List.not_mem_nil
def x_ldi : List (Nat × Nat × Int32) := []
def x_ldiP (q : Nat × Nat × Int32) : Prop := Jvm.Cond.constant (x_on q.1) q.2.1 q.2.2 ∈ x_Ts
theorem x_ldi_ok : ∀ q ∈ x_ldi, x_ldiP q := by
  unfold x_ldi
  exact fun _ h => absurd h List.not_mem_nil
def x_ldl : List (Nat × Nat × Int64) := [(0, 40, 4294967295), (11, 120, 255), (6, 131, -1), (8, 149, -1)]
def x_ldlP (q : Nat × Nat × Int64) : Prop := Jvm.Cond.constantLong (x_on q.1) q.2.1 q.2.2 ∈ x_Ts
theorem x_ldl0 : x_ldlP (0, 40, 4294967295) := x_r6 (List.mem_of_getElem? (i := 210) rfl) rfl
theorem x_ldl1 : x_ldlP (11, 120, 255) := x_r5 (List.mem_of_getElem? (i := 135) rfl) rfl
theorem x_ldl2 : x_ldlP (6, 131, -1) := x_r3 (List.mem_of_getElem? (i := 220) rfl) rfl
theorem x_ldl3 : x_ldlP (8, 149, -1) := x_r4 (List.mem_of_getElem? (i := 99) rfl) rfl
theorem x_ldl_ok : ∀ q ∈ x_ldl, x_ldlP q := by
  unfold x_ldl
  refine List.forall_mem_cons.mpr ⟨x_ldl0, ?_⟩
  refine List.forall_mem_cons.mpr ⟨x_ldl1, ?_⟩
  refine List.forall_mem_cons.mpr ⟨x_ldl2, ?_⟩
  refine List.forall_mem_cons.mpr ⟨x_ldl3, ?_⟩
  exact fun _ h => absurd h List.not_mem_nil
def x_gst : List (Nat × Nat × Nat) := [(6, 102, 0), (3, 43, 0), (3, 49, 1), (3, 52, 2), (5, 38, 0), (5, 44, 1), (5, 47, 2), (5, 50, 3), (6, 121, 2), (6, 124, 1)]
def x_gstP (q : Nat × Nat × Nat) : Prop := q.2.2 < 4 ∧ ∃ ref, Cond.fieldLink (x_on q.1) q.2.1 ref (x_enu q.2.2).2.1 (x_enu q.2.2).2.2 ∈ x_Ts ∧ (x_enu q.2.2).1 = ref
theorem x_gst0 : x_gstP (6, 102, 0) := ⟨by decide, "StreamRefuter$Opening", x_r3 (List.mem_of_getElem? (i := 194) rfl) rfl, rfl⟩
theorem x_gst1 : x_gstP (3, 43, 0) := ⟨by decide, "StreamRefuter$Opening", x_r3 (List.mem_of_getElem? (i := 191) rfl) rfl, rfl⟩
theorem x_gst2 : x_gstP (3, 49, 1) := ⟨by decide, "StreamRefuter$Opening", x_r3 (List.mem_of_getElem? (i := 192) rfl) rfl, rfl⟩
theorem x_gst3 : x_gstP (3, 52, 2) := ⟨by decide, "StreamRefuter$Opening", x_r3 (List.mem_of_getElem? (i := 193) rfl) rfl, rfl⟩
theorem x_gst4 : x_gstP (5, 38, 0) := ⟨by decide, "StreamRefuter$Opening", x_r3 (List.mem_of_getElem? (i := 179) rfl) rfl, rfl⟩
theorem x_gst5 : x_gstP (5, 44, 1) := ⟨by decide, "StreamRefuter$Opening", x_r3 (List.mem_of_getElem? (i := 181) rfl) rfl, rfl⟩
theorem x_gst6 : x_gstP (5, 47, 2) := ⟨by decide, "StreamRefuter$Opening", x_r3 (List.mem_of_getElem? (i := 183) rfl) rfl, rfl⟩
theorem x_gst7 : x_gstP (5, 50, 3) := ⟨by decide, "StreamRefuter$Opening", x_r3 (List.mem_of_getElem? (i := 185) rfl) rfl, rfl⟩
theorem x_gst8 : x_gstP (6, 121, 2) := ⟨by decide, "StreamRefuter$Opening", x_r3 (List.mem_of_getElem? (i := 199) rfl) rfl, rfl⟩
theorem x_gst9 : x_gstP (6, 124, 1) := ⟨by decide, "StreamRefuter$Opening", x_r3 (List.mem_of_getElem? (i := 200) rfl) rfl, rfl⟩
theorem x_gst_ok : ∀ q ∈ x_gst, x_gstP q := by
  unfold x_gst
  refine List.forall_mem_cons.mpr ⟨x_gst0, ?_⟩
  refine List.forall_mem_cons.mpr ⟨x_gst1, ?_⟩
  refine List.forall_mem_cons.mpr ⟨x_gst2, ?_⟩
  refine List.forall_mem_cons.mpr ⟨x_gst3, ?_⟩
  refine List.forall_mem_cons.mpr ⟨x_gst4, ?_⟩
  refine List.forall_mem_cons.mpr ⟨x_gst5, ?_⟩
  refine List.forall_mem_cons.mpr ⟨x_gst6, ?_⟩
  refine List.forall_mem_cons.mpr ⟨x_gst7, ?_⟩
  refine List.forall_mem_cons.mpr ⟨x_gst8, ?_⟩
  refine List.forall_mem_cons.mpr ⟨x_gst9, ?_⟩
  exact fun _ h => absurd h List.not_mem_nil
def x_acp : List (Nat × Nat) := [(6, 147)]
def x_acpP (q : Nat × Nat) : Prop := Cond.methodLink (x_on q.1) q.2 arraycopyName ∈ x_Ts ∧ Cond.native arraycopyName ∈ x_Ts ∧ Cond.static arraycopyName ∈ x_Ts ∧ Cond.initialized "java/lang/System" ∈ x_Ts
theorem x_acp0 : x_acpP (6, 147) := ⟨x_r3 (List.mem_of_getElem? (i := 67) rfl) rfl, x_r3 (List.mem_of_getElem? (i := 69) rfl) rfl, x_r3 (List.mem_of_getElem? (i := 68) rfl) rfl, x_r1 (List.mem_of_getElem? (i := 16) rfl) rfl⟩
theorem x_acp_ok : ∀ q ∈ x_acp, x_acpP q := by
  unfold x_acp
  refine List.forall_mem_cons.mpr ⟨x_acp0, ?_⟩
  exact fun _ h => absurd h List.not_mem_nil
def x_obi : List (Nat × Nat) := [(1, 1), (2, 3), (4, 3), (6, 3), (7, 3), (8, 3), (9, 3), (10, 3), (11, 1)]
def x_obiP (q : Nat × Nat) : Prop := Cond.methodLink (x_on q.1) q.2 objectInit ∈ x_Ts ∧ Cond.instanceMethod objectInit ∈ x_Ts ∧ Cond.code objectInit ⟨#[0xb1]⟩ 1 none ∈ x_Ts
theorem x_obi0 : x_obiP (1, 1) := ⟨x_r1 (List.mem_of_getElem? (i := 29) rfl) rfl, x_r1 (List.mem_of_getElem? (i := 30) rfl) rfl, x_r1 (List.mem_of_getElem? (i := 31) rfl) rfl⟩
theorem x_obi1 : x_obiP (2, 3) := ⟨x_r1 (List.mem_of_getElem? (i := 37) rfl) rfl, x_r1 (List.mem_of_getElem? (i := 30) rfl) rfl, x_r1 (List.mem_of_getElem? (i := 31) rfl) rfl⟩
theorem x_obi2 : x_obiP (4, 3) := ⟨x_r1 (List.mem_of_getElem? (i := 54) rfl) rfl, x_r1 (List.mem_of_getElem? (i := 30) rfl) rfl, x_r1 (List.mem_of_getElem? (i := 31) rfl) rfl⟩
theorem x_obi3 : x_obiP (6, 3) := ⟨x_r1 (List.mem_of_getElem? (i := 106) rfl) rfl, x_r1 (List.mem_of_getElem? (i := 30) rfl) rfl, x_r1 (List.mem_of_getElem? (i := 31) rfl) rfl⟩
theorem x_obi4 : x_obiP (7, 3) := ⟨x_r1 (List.mem_of_getElem? (i := 180) rfl) rfl, x_r1 (List.mem_of_getElem? (i := 30) rfl) rfl, x_r1 (List.mem_of_getElem? (i := 31) rfl) rfl⟩
theorem x_obi5 : x_obiP (8, 3) := ⟨x_r1 (List.mem_of_getElem? (i := 200) rfl) rfl, x_r1 (List.mem_of_getElem? (i := 30) rfl) rfl, x_r1 (List.mem_of_getElem? (i := 31) rfl) rfl⟩
theorem x_obi6 : x_obiP (9, 3) := ⟨x_r1 (List.mem_of_getElem? (i := 208) rfl) rfl, x_r1 (List.mem_of_getElem? (i := 30) rfl) rfl, x_r1 (List.mem_of_getElem? (i := 31) rfl) rfl⟩
theorem x_obi7 : x_obiP (10, 3) := ⟨x_r2 (List.mem_of_getElem? (i := 40) rfl) rfl, x_r1 (List.mem_of_getElem? (i := 30) rfl) rfl, x_r1 (List.mem_of_getElem? (i := 31) rfl) rfl⟩
theorem x_obi8 : x_obiP (11, 1) := ⟨x_r4 (List.mem_of_getElem? (i := 197) rfl) rfl, x_r1 (List.mem_of_getElem? (i := 30) rfl) rfl, x_r1 (List.mem_of_getElem? (i := 31) rfl) rfl⟩
theorem x_obi_ok : ∀ q ∈ x_obi, x_obiP q := by
  unfold x_obi
  refine List.forall_mem_cons.mpr ⟨x_obi0, ?_⟩
  refine List.forall_mem_cons.mpr ⟨x_obi1, ?_⟩
  refine List.forall_mem_cons.mpr ⟨x_obi2, ?_⟩
  refine List.forall_mem_cons.mpr ⟨x_obi3, ?_⟩
  refine List.forall_mem_cons.mpr ⟨x_obi4, ?_⟩
  refine List.forall_mem_cons.mpr ⟨x_obi5, ?_⟩
  refine List.forall_mem_cons.mpr ⟨x_obi6, ?_⟩
  refine List.forall_mem_cons.mpr ⟨x_obi7, ?_⟩
  refine List.forall_mem_cons.mpr ⟨x_obi8, ?_⟩
  exact fun _ h => absurd h List.not_mem_nil
theorem x_ac_int : Cond.arrayClass (newarray.typeOf .int) ∈ x_Ts := x_r1 (List.mem_of_getElem? (i := 45) rfl) rfl
theorem x_ac_boolean : Cond.arrayClass (newarray.typeOf .boolean) ∈ x_Ts := x_r2 (List.mem_of_getElem? (i := 78) rfl) rfl
theorem x_ac_long : Cond.arrayClass (newarray.typeOf .long) ∈ x_Ts := x_r1 (List.mem_of_getElem? (i := 174) rfl) rfl
end
section
/-! A check of rows by computing, and that it says what is asked of them. -/
def x_h4 (q : Nat × Nat × Nat × Nat) : List (Nat × Nat × Nat × Nat) → Bool
  | [] => false
  | a :: t => (Nat.beq a.1 q.1 && Nat.beq a.2.1 q.2.1 && Nat.beq a.2.2.1 q.2.2.1 && Nat.beq a.2.2.2 q.2.2.2) || x_h4 q t
theorem x_h4_in {q : Nat × Nat × Nat × Nat} : ∀ (l : List (Nat × Nat × Nat × Nat)), x_h4 q l = true → q ∈ l
  | [], h => by cases h
  | a :: t, h => by
    unfold x_h4 at h
    rw [Bool.or_eq_true] at h
    rcases h with h | h
    · simp only [Bool.and_eq_true] at h
      obtain ⟨⟨⟨h1, h2⟩, h3⟩, h4⟩ := h
      obtain ⟨a1, a2, a3, a4⟩ := a
      obtain ⟨q1, q2, q3, q4⟩ := q
      have e1 := Nat.eq_of_beq_eq_true h1
      have e2 := Nat.eq_of_beq_eq_true h2
      have e3 := Nat.eq_of_beq_eq_true h3
      have e4 := Nat.eq_of_beq_eq_true h4
      dsimp only at e1 e2 e3 e4
      subst e1; subst e2; subst e3; subst e4
      exact List.mem_cons_self
    · exact List.mem_cons_of_mem _ (x_h4_in t h)
/-- the rows of the methods that have no handlers -/
def x_okb (M : Nat) (r : xR) : Bool := decide (decode (x_mt M).2.1 r.1 = .ok (r.2.1, r.2.2.1)) && match r with
  | (pc, ins, len, a, b, c, v, u) => match ins with
    | .iconst n => decide (len = 1 ∧ Int32.ofInt n = v)
    | .bipush n => decide (len = 2 ∧ (Int8.ofInt n).toInt32 = v)
    | .sipush n => decide (len = 3 ∧ (Int16.ofInt n).toInt32 = v)
    | .ldc i => decide (len = 2 ∧ c = 1 ∧ (x_mt M).2.2.2.2 = "StreamRefuter$Problem" ∧ ((a = 0 ∧ i = 66) ∨ (a = 1 ∧ i = 75)))
    | .lconst n => decide (len = 1 ∧ Int64.ofNat (n : Nat) = u)
    | .ldc2_w i => decide (len = 3 ∧ (x_oi M, i, u) ∈ x_ldl)
    | .iload _ => decide (len = 2)
    | .lload _ => decide (len = 2)
    | .aload _ => decide (len = 2)
    | .iload_n k => decide (len = 1 ∧ (k : Nat) = a)
    | .lload_n k => decide (len = 1 ∧ (k : Nat) = a)
    | .aload_n k => decide (len = 1 ∧ (k : Nat) = a)
    | .istore i => decide (len = 2 ∧ i < (x_mt M).2.2.1)
    | .astore i => decide (len = 2 ∧ i < (x_mt M).2.2.1)
    | .lstore i => decide (len = 2 ∧ i + 1 < (x_mt M).2.2.1)
    | .istore_n k => decide (len = 1 ∧ (k : Nat) = a ∧ a < (x_mt M).2.2.1)
    | .astore_n k => decide (len = 1 ∧ (k : Nat) = a ∧ a < (x_mt M).2.2.1)
    | .lstore_n k => decide (len = 1 ∧ (k : Nat) = a ∧ a + 1 < (x_mt M).2.2.1)
    | .iinc i n => decide (len = 3 ∧ i < (x_mt M).2.2.1 ∧ Int32.ofInt n = v)
    | .ifCond _ off => decide (len = 3 ∧ (pc : Int) + off = (a : Int))
    | .if_icmp _ off => decide (len = 3 ∧ (pc : Int) + off = (a : Int))
    | .if_acmp _ off => decide (len = 3 ∧ (pc : Int) + off = (a : Int))
    | .goto off => decide (len = 3 ∧ (pc : Int) + off = (a : Int))
    | .tableswitch d _ _ offs => decide (0 ≤ (pc : Int) + d) && offs.toList.all (fun o => decide (0 ≤ (pc : Int) + o))
    | .getfield i => decide (len = 3) && x_h4 (x_oi M, i, a, b) x_fls && decide (∀ a' ∈ x_al a, x_fk a' b = c)
    | .putfield i => decide (len = 3) && x_h4 (x_oi M, i, a, b) x_fls && decide (∀ a' ∈ x_al a, (((x_ct a').2.1 b).2.2.2 = false ∨ (((x_ct a').2.1 b).2.2.2 = true ∧ (x_mt M).1.name = "<init>" ∧ ((x_ct a').2.1 b).1 = (x_mt M).2.2.2.2)) ∧ ((c = 0 ∧ x_ty a' b = .int ∧ x_fk a' b = 0) ∨ (c = 1 ∧ x_ty a' b = .long ∧ x_fk a' b = 1) ∨ (c = 2 ∧ x_fk a' b = 2) ∨ (c = 3 ∧ x_ty a' b = .boolean ∧ x_fk a' b = 0)))
    | .getstatic i => decide (len = 3 ∧ (x_oi M, i, a) ∈ x_gst)
    | .newarray t => decide (len = 2 ∧ ((t = .int ∧ a = 0) ∨ (t = .boolean ∧ a = 1) ∨ (t = .long ∧ a = 2)))
    | .new i => decide (len = 3 ∧ (c = 0 → (x_oi M, i, a) ∈ x_nws ∧ b = (x_ct a).2.2))
    | .invokestatic i => decide (len = 3) && (match c with
      | 0 => x_h4 (x_oi M, i, a, b) x_css
      | _ => decide ((x_oi M, i) ∈ x_acp))
    | .invokespecial i => decide (len = 3) && (match c with
      | 0 => x_h4 (x_oi M, i, a, b) x_cis
      | _ => decide ((x_oi M, i) ∈ x_obi))
    | .invokevirtual i => decide (len = 3) && (match c with
      | 0 => x_h4 (x_oi M, i, a, b) x_cvs
      | 1 => x_h4 (x_oi M, i, a, b) x_cvt
      | _ => false)
    | .ireturn => decide (len = 1 ∧ ((c = 0 ∧ (x_mt M).2.2.2.1 = some .int) ∨ (c = 1 ∧ (x_mt M).2.2.2.1 = some .boolean)))
    | .lreturn => decide (len = 1 ∧ (x_mt M).2.2.2.1 = some .long)
    | .areturn => decide (len = 1 ∧ (x_mt M).2.2.2.1 = some (.object "StreamRefuter$Opening"))
    | .return_ => decide (len = 1 ∧ (x_mt M).2.2.2.1 = none)
    | _ => decide (len = 1)
set_option maxHeartbeats 4000000 in
theorem x_okb_ok {M : Nat} (ho : x_on (x_oi M) = (x_mt M).2.2.2.2) (r : xR) (h : x_okb M r = true) : x_okr x_cts x_ct x_fk x_ty x_Ts x_Nw x_mt x_prog.2.2.2.1 x_prog.2.2.2.2.1 x_enu M r := by
  unfold x_okb at h
  rw [Bool.and_eq_true] at h
  obtain ⟨h0, h⟩ := h
  refine ⟨of_decide_eq_true h0, ?_⟩
  clear h0
  obtain ⟨pc, ins, len, a, b, c, v, u⟩ := r
  cases ins
  case ldc i =>
    obtain ⟨h1, h2, h3, h4⟩ := of_decide_eq_true h
    exact ⟨h1, Or.inr ⟨h2, h3, h4⟩⟩
  case tableswitch d lo hi offs =>
    have h : (decide (0 ≤ (pc : Int) + d) && offs.toList.all (fun o => decide (0 ≤ (pc : Int) + o))) = true := h
    rw [Bool.and_eq_true, List.all_eq_true] at h
    refine ⟨⟨((pc : Int) + d).toNat, (Int.toNat_of_nonneg (of_decide_eq_true h.1)).symm⟩, fun k o ho => ⟨((pc : Int) + o).toNat, (Int.toNat_of_nonneg (of_decide_eq_true (h.2 o ?_))).symm⟩⟩
    exact List.mem_of_getElem? (by rw [Array.getElem?_toList]; exact ho)
  case ldc2_w i =>
    obtain ⟨h1, h2⟩ := of_decide_eq_true h
    exact ⟨h1, ho ▸ x_ldl_ok _ h2⟩
  case getfield i =>
    have h : (decide (len = 3) && x_h4 (x_oi M, i, a, b) x_fls && decide (∀ a' ∈ x_al a, x_fk a' b = c)) = true := h
    simp only [Bool.and_eq_true] at h
    obtain ⟨⟨h1, h2⟩, h3⟩ := h
    refine ⟨of_decide_eq_true h1, fun a' ha => ?_⟩
    obtain ⟨q1, q2⟩ := x_fls_ok _ (x_h4_in _ h2) a' ha
    exact ⟨q1, ho ▸ q2, of_decide_eq_true h3 a' ha⟩
  case putfield i =>
    simp only [Bool.and_eq_true] at h
    obtain ⟨⟨h1, h2⟩, h3⟩ := h
    refine ⟨of_decide_eq_true h1, fun a' ha => ?_⟩
    obtain ⟨q1, q2⟩ := x_fls_ok _ (x_h4_in _ h2) a' ha
    obtain ⟨q3, q4⟩ := of_decide_eq_true h3 a' ha
    exact ⟨q1, ho ▸ q2, q3, q4⟩
  case getstatic i =>
    obtain ⟨h1, h2⟩ := of_decide_eq_true h
    obtain ⟨q1, ref, q2, q3⟩ := x_gst_ok _ h2
    exact ⟨h1, q1, ref, ho ▸ q2, q3⟩
  case newarray t =>
    obtain ⟨h1, h2⟩ := of_decide_eq_true h
    refine ⟨h1, ?_, h2⟩
    rcases h2 with ⟨rfl, -⟩ | ⟨rfl, -⟩ | ⟨rfl, -⟩
    · exact x_ac_int
    · exact x_ac_boolean
    · exact x_ac_long
  case new i =>
    obtain ⟨h1, h2⟩ := of_decide_eq_true h
    refine ⟨h1, fun hc => ?_⟩
    obtain ⟨h3, h4⟩ := h2 hc
    obtain ⟨q1, q2, q3, q4⟩ := x_nws_ok _ h3
    exact ⟨q1, h4, ho ▸ q2, q3, q4⟩
  case invokestatic i =>
    rw [Bool.and_eq_true] at h
    obtain ⟨h1, h2⟩ := h
    refine ⟨of_decide_eq_true h1, fun hc => ?_, fun hc => ?_⟩
    · subst hc
      exact ho ▸ x_css_ok _ (x_h4_in _ h2)
    · obtain ⟨k, rfl⟩ : ∃ k, c = k + 1 := ⟨c - 1, by omega⟩
      obtain ⟨q1, q2⟩ := x_acp_ok _ (of_decide_eq_true h2)
      exact ⟨ho ▸ q1, q2⟩
  case invokespecial i =>
    rw [Bool.and_eq_true] at h
    obtain ⟨h1, h2⟩ := h
    refine ⟨of_decide_eq_true h1, fun hc => ?_, fun hc => ?_⟩
    · subst hc
      obtain ⟨q1, q2⟩ := x_cis_ok _ (x_h4_in _ h2)
      exact ⟨q1, ho ▸ q2⟩
    · obtain ⟨k, rfl⟩ : ∃ k, c = k + 1 := ⟨c - 1, by omega⟩
      obtain ⟨q1, q2⟩ := x_obi_ok _ (of_decide_eq_true h2)
      exact ⟨ho ▸ q1, q2⟩
  case invokevirtual i =>
    rw [Bool.and_eq_true] at h
    obtain ⟨h1, h2⟩ := h
    match c, h2 with
    | 0, h2 =>
      refine ⟨of_decide_eq_true h1, by decide, (fun hc => by cases hc), (fun hc => by cases hc), fun _ => ?_, fun hc => by cases hc⟩
      obtain ⟨q1, q2, q3⟩ := x_cvs_ok _ (x_h4_in _ h2)
      exact ⟨q1, q2, ho ▸ q3⟩
    | 1, h2 =>
      refine ⟨of_decide_eq_true h1, by decide, (fun hc => by cases hc), (fun hc => by cases hc), fun hc => (by cases hc), fun _ => ?_⟩
      obtain ⟨q1, q2, q3, q4, q5, q6⟩ := x_cvt_ok _ (x_h4_in _ h2)
      exact ⟨q1, q2, q3, q4, ho ▸ q5, ho ▸ q6⟩
    | n + 2, h2 => cases h2
  case areturn =>
    obtain ⟨h1, h2⟩ := of_decide_eq_true h
    exact ⟨h1, _, h2⟩
  all_goals exact of_decide_eq_true h
end
section
/-! Every row of these methods is as asked. -/
set_option maxRecDepth 100000 in
theorem x_o1 : x_t1.all (x_okb 1) = true := by decide +kernel
set_option maxRecDepth 100000 in
theorem x_o2 : x_t2.all (x_okb 2) = true := by decide +kernel
set_option maxRecDepth 100000 in
theorem x_o3 : x_t3.all (x_okb 3) = true := by decide +kernel
set_option maxRecDepth 100000 in
theorem x_o4 : x_t4.all (x_okb 4) = true := by decide +kernel
set_option maxRecDepth 100000 in
theorem x_o5 : x_t5.all (x_okb 5) = true := by decide +kernel
set_option maxRecDepth 100000 in
theorem x_o6 : x_t6.all (x_okb 6) = true := by decide +kernel
set_option maxRecDepth 100000 in
theorem x_o7 : x_t7.all (x_okb 7) = true := by decide +kernel
set_option maxRecDepth 100000 in
theorem x_o8 : x_t8.all (x_okb 8) = true := by decide +kernel
set_option maxRecDepth 100000 in
theorem x_o9 : x_t9.all (x_okb 9) = true := by decide +kernel
set_option maxRecDepth 100000 in
theorem x_o10 : x_t10.all (x_okb 10) = true := by decide +kernel
set_option maxRecDepth 100000 in
theorem x_o11 : x_t11.all (x_okb 11) = true := by decide +kernel
set_option maxRecDepth 100000 in
theorem x_o12 : x_t12.all (x_okb 12) = true := by decide +kernel
set_option maxRecDepth 100000 in
theorem x_o13 : x_t13.all (x_okb 13) = true := by decide +kernel
set_option maxRecDepth 100000 in
theorem x_o14 : x_t14.all (x_okb 14) = true := by decide +kernel
set_option maxRecDepth 100000 in
theorem x_o15 : x_t15.all (x_okb 15) = true := by decide +kernel
set_option maxRecDepth 100000 in
theorem x_o16 : x_t16.all (x_okb 16) = true := by decide +kernel
set_option maxRecDepth 100000 in
theorem x_o17 : x_t17.all (x_okb 17) = true := by decide +kernel
set_option maxRecDepth 100000 in
theorem x_o19 : x_t19.all (x_okb 19) = true := by decide +kernel
set_option maxRecDepth 100000 in
theorem x_o21 : x_t21.all (x_okb 21) = true := by decide +kernel
set_option maxRecDepth 100000 in
theorem x_o22 : x_t22.all (x_okb 22) = true := by decide +kernel
set_option maxRecDepth 100000 in
theorem x_o23 : x_t23.all (x_okb 23) = true := by decide +kernel
set_option maxRecDepth 100000 in
theorem x_o24 : x_t24.all (x_okb 24) = true := by decide +kernel
set_option maxRecDepth 100000 in
theorem x_o25 : x_t25.all (x_okb 25) = true := by decide +kernel
set_option maxRecDepth 100000 in
theorem x_o26 : x_t26.all (x_okb 26) = true := by decide +kernel
set_option maxRecDepth 100000 in
theorem x_o27 : x_t27.all (x_okb 27) = true := by decide +kernel
set_option maxRecDepth 100000 in
theorem x_o28 : x_t28.all (x_okb 28) = true := by decide +kernel
set_option maxRecDepth 100000 in
theorem x_o30 : x_t30.all (x_okb 30) = true := by decide +kernel
set_option maxRecDepth 100000 in
theorem x_o31 : x_t31.all (x_okb 31) = true := by decide +kernel
set_option maxRecDepth 100000 in
theorem x_o32 : x_t32.all (x_okb 32) = true := by decide +kernel
set_option maxRecDepth 100000 in
theorem x_o33 : x_t33.all (x_okb 33) = true := by decide +kernel
set_option maxRecDepth 100000 in
theorem x_o34 : x_t34.all (x_okb 34) = true := by decide +kernel
set_option maxRecDepth 100000 in
theorem x_o35 : x_t35.all (x_okb 35) = true := by decide +kernel
set_option maxRecDepth 100000 in
theorem x_o36 : x_t36.all (x_okb 36) = true := by decide +kernel
set_option maxRecDepth 100000 in
theorem x_o37 : x_t37.all (x_okb 37) = true := by decide +kernel
set_option maxRecDepth 100000 in
theorem x_o38 : x_t38.all (x_okb 38) = true := by decide +kernel
set_option maxRecDepth 100000 in
theorem x_o39 : x_t39.all (x_okb 39) = true := by decide +kernel
set_option maxRecDepth 100000 in
theorem x_o40 : x_t40.all (x_okb 40) = true := by decide +kernel
set_option maxRecDepth 100000 in
theorem x_o41 : x_t41.all (x_okb 41) = true := by decide +kernel
set_option maxRecDepth 100000 in
theorem x_o42 : x_t42.all (x_okb 42) = true := by decide +kernel
set_option maxRecDepth 100000 in
theorem x_o43 : x_t43.all (x_okb 43) = true := by decide +kernel
set_option maxRecDepth 100000 in
theorem x_o44 : x_t44.all (x_okb 44) = true := by decide +kernel
set_option maxRecDepth 100000 in
theorem x_o45 : x_t45.all (x_okb 45) = true := by decide +kernel
set_option maxRecDepth 100000 in
theorem x_o46 : x_t46.all (x_okb 46) = true := by decide +kernel
set_option maxRecDepth 100000 in
theorem x_o47 : x_t47.all (x_okb 47) = true := by decide +kernel
set_option maxRecDepth 100000 in
theorem x_o48 : x_t48.all (x_okb 48) = true := by decide +kernel
set_option maxRecDepth 100000 in
theorem x_o49 : x_t49.all (x_okb 49) = true := by decide +kernel
set_option maxRecDepth 100000 in
theorem x_o50 : x_t50.all (x_okb 50) = true := by decide +kernel
set_option maxRecDepth 100000 in
theorem x_o51 : x_t51.all (x_okb 51) = true := by decide +kernel
set_option maxRecDepth 100000 in
theorem x_o52 : x_t52.all (x_okb 52) = true := by decide +kernel
set_option maxRecDepth 100000 in
theorem x_o53 : x_t53.all (x_okb 53) = true := by decide +kernel
set_option maxRecDepth 100000 in
theorem x_o54 : x_t54.all (x_okb 54) = true := by decide +kernel
set_option maxRecDepth 100000 in
theorem x_o55 : x_t55.all (x_okb 55) = true := by decide +kernel
set_option maxRecDepth 100000 in
theorem x_o56 : x_t56.all (x_okb 56) = true := by decide +kernel
set_option maxRecDepth 100000 in
theorem x_o58 : x_t58.all (x_okb 58) = true := by decide +kernel
set_option maxRecDepth 100000 in
theorem x_o59 : x_t59.all (x_okb 59) = true := by decide +kernel
set_option maxRecDepth 100000 in
theorem x_o60 : x_t60.all (x_okb 60) = true := by decide +kernel
set_option maxRecDepth 100000 in
theorem x_o61 : x_t61.all (x_okb 61) = true := by decide +kernel
set_option maxRecDepth 100000 in
theorem x_o62 : x_t62.all (x_okb 62) = true := by decide +kernel
set_option maxRecDepth 100000 in
theorem x_o63 : x_t63.all (x_okb 63) = true := by decide +kernel
set_option maxRecDepth 100000 in
theorem x_o64 : x_t64.all (x_okb 64) = true := by decide +kernel
set_option maxRecDepth 100000 in
theorem x_o65 : x_t65.all (x_okb 65) = true := by decide +kernel
set_option maxRecDepth 100000 in
theorem x_o66 : x_t66.all (x_okb 66) = true := by decide +kernel
set_option maxRecDepth 100000 in
theorem x_o67 : x_t67.all (x_okb 67) = true := by decide +kernel
set_option maxRecDepth 100000 in
theorem x_o68 : x_t68.all (x_okb 68) = true := by decide +kernel
set_option maxRecDepth 100000 in
theorem x_o69 : x_t69.all (x_okb 69) = true := by decide +kernel
set_option maxRecDepth 100000 in
theorem x_o70 : x_t70.all (x_okb 70) = true := by decide +kernel
set_option maxRecDepth 100000 in
theorem x_o71 : x_t71.all (x_okb 71) = true := by decide +kernel
set_option maxRecDepth 100000 in
theorem x_o72 : x_t72.all (x_okb 72) = true := by decide +kernel
set_option maxRecDepth 100000 in
theorem x_o73 : x_t73.all (x_okb 73) = true := by decide +kernel
set_option maxRecDepth 100000 in
theorem x_o75 : x_t75.all (x_okb 75) = true := by decide +kernel
set_option maxRecDepth 100000 in
theorem x_o76 : x_t76.all (x_okb 76) = true := by decide +kernel
set_option maxRecDepth 100000 in
theorem x_o77 : x_t77.all (x_okb 77) = true := by decide +kernel
set_option maxRecDepth 100000 in
theorem x_o78 : x_t78.all (x_okb 78) = true := by decide +kernel
set_option maxRecDepth 100000 in
theorem x_o79 : x_t79.all (x_okb 79) = true := by decide +kernel
set_option maxRecDepth 100000 in
theorem x_o80 : x_t80.all (x_okb 80) = true := by decide +kernel
set_option maxRecDepth 100000 in
theorem x_o81 : x_t81.all (x_okb 81) = true := by decide +kernel
set_option maxRecDepth 100000 in
theorem x_o82 : x_t82.all (x_okb 82) = true := by decide +kernel
set_option maxRecDepth 100000 in
theorem x_o83 : x_t83.all (x_okb 83) = true := by decide +kernel
set_option maxRecDepth 100000 in
theorem x_o84 : x_t84.all (x_okb 84) = true := by decide +kernel
set_option maxRecDepth 100000 in
theorem x_o85 : x_t85.all (x_okb 85) = true := by decide +kernel
set_option maxRecDepth 100000 in
theorem x_o86 : x_t86.all (x_okb 86) = true := by decide +kernel
set_option maxRecDepth 100000 in
theorem x_o87 : x_t87.all (x_okb 87) = true := by decide +kernel
set_option maxRecDepth 100000 in
theorem x_o88 : x_t88.all (x_okb 88) = true := by decide +kernel
set_option maxRecDepth 100000 in
theorem x_o89 : x_t89.all (x_okb 89) = true := by decide +kernel
set_option maxRecDepth 100000 in
theorem x_o90 : x_t90.all (x_okb 90) = true := by decide +kernel
set_option maxRecDepth 100000 in
theorem x_o91 : x_t91.all (x_okb 91) = true := by decide +kernel
set_option maxRecDepth 100000 in
theorem x_o93 : x_t93.all (x_okb 93) = true := by decide +kernel
set_option maxRecDepth 100000 in
theorem x_o94 : x_t94.all (x_okb 94) = true := by decide +kernel
set_option maxRecDepth 100000 in
theorem x_o95 : x_t95.all (x_okb 95) = true := by decide +kernel
set_option maxRecDepth 100000 in
theorem x_o96 : x_t96.all (x_okb 96) = true := by decide +kernel
set_option maxRecDepth 100000 in
theorem x_o97 : x_t97.all (x_okb 97) = true := by decide +kernel
set_option maxRecDepth 100000 in
theorem x_o98 : x_t98.all (x_okb 98) = true := by decide +kernel
set_option maxRecDepth 100000 in
theorem x_o99 : x_t99.all (x_okb 99) = true := by decide +kernel
set_option maxRecDepth 100000 in
theorem x_o100 : x_t100.all (x_okb 100) = true := by decide +kernel
set_option maxRecDepth 100000 in
theorem x_o101 : x_t101.all (x_okb 101) = true := by decide +kernel
set_option maxRecDepth 100000 in
theorem x_o102 : x_t102.all (x_okb 102) = true := by decide +kernel
set_option maxRecDepth 100000 in
theorem x_o103 : x_t103.all (x_okb 103) = true := by decide +kernel
set_option maxRecDepth 100000 in
theorem x_o104 : x_t104.all (x_okb 104) = true := by decide +kernel
set_option maxRecDepth 100000 in
theorem x_o105 : x_t105.all (x_okb 105) = true := by decide +kernel
set_option maxRecDepth 100000 in
theorem x_o106 : x_t106.all (x_okb 106) = true := by decide +kernel
set_option maxRecDepth 100000 in
theorem x_o107 : x_t107.all (x_okb 107) = true := by decide +kernel
set_option maxRecDepth 100000 in
theorem x_o109 : x_t109.all (x_okb 109) = true := by decide +kernel
set_option maxRecDepth 100000 in
theorem x_o110 : x_t110.all (x_okb 110) = true := by decide +kernel
set_option maxRecDepth 100000 in
theorem x_o111 : x_t111.all (x_okb 111) = true := by decide +kernel
set_option maxRecDepth 100000 in
theorem x_o112 : x_t112.all (x_okb 112) = true := by decide +kernel
set_option maxRecDepth 100000 in
theorem x_o113 : x_t113.all (x_okb 113) = true := by decide +kernel
set_option maxRecDepth 100000 in
theorem x_o114 : x_t114.all (x_okb 114) = true := by decide +kernel
set_option maxRecDepth 100000 in
theorem x_o115 : x_t115.all (x_okb 115) = true := by decide +kernel
set_option maxRecDepth 100000 in
theorem x_o116 : x_t116.all (x_okb 116) = true := by decide +kernel
set_option maxRecDepth 100000 in
theorem x_o117 : x_t117.all (x_okb 117) = true := by decide +kernel
set_option maxRecDepth 100000 in
theorem x_o118 : x_t118.all (x_okb 118) = true := by decide +kernel
set_option maxRecDepth 100000 in
theorem x_o119 : x_t119.all (x_okb 119) = true := by decide +kernel
set_option maxRecDepth 100000 in
theorem x_o120 : x_t120.all (x_okb 120) = true := by decide +kernel
set_option maxRecDepth 100000 in
theorem x_o121 : x_t121.all (x_okb 121) = true := by decide +kernel
set_option maxRecDepth 100000 in
theorem x_o122 : x_t122.all (x_okb 122) = true := by decide +kernel
set_option maxRecDepth 100000 in
theorem x_o124 : x_t124.all (x_okb 124) = true := by decide +kernel
set_option maxRecDepth 100000 in
theorem x_o125 : x_t125.all (x_okb 125) = true := by decide +kernel
set_option maxRecDepth 100000 in
theorem x_o126 : x_t126.all (x_okb 126) = true := by decide +kernel
set_option maxRecDepth 100000 in
theorem x_o127 : x_t127.all (x_okb 127) = true := by decide +kernel
set_option maxRecDepth 100000 in
theorem x_o128 : x_t128.all (x_okb 128) = true := by decide +kernel
set_option maxRecDepth 100000 in
theorem x_o129 : x_t129.all (x_okb 129) = true := by decide +kernel
set_option maxRecDepth 100000 in
theorem x_o130 : x_t130.all (x_okb 130) = true := by decide +kernel
set_option maxRecDepth 100000 in
theorem x_o131 : x_t131.all (x_okb 131) = true := by decide +kernel
set_option maxRecDepth 100000 in
theorem x_o132 : x_t132.all (x_okb 132) = true := by decide +kernel
set_option maxRecDepth 100000 in
theorem x_o133 : x_t133.all (x_okb 133) = true := by decide +kernel
set_option maxRecDepth 100000 in
theorem x_o134 : x_t134.all (x_okb 134) = true := by decide +kernel
set_option maxRecDepth 100000 in
theorem x_o135 : x_t135.all (x_okb 135) = true := by decide +kernel
set_option maxRecDepth 100000 in
theorem x_o136 : x_t136.all (x_okb 136) = true := by decide +kernel
set_option maxRecDepth 100000 in
theorem x_o137 : x_t137.all (x_okb 137) = true := by decide +kernel
set_option maxRecDepth 100000 in
theorem x_o138 : x_t138.all (x_okb 138) = true := by decide +kernel
set_option maxRecDepth 100000 in
theorem x_o139 : x_t139.all (x_okb 139) = true := by decide +kernel
set_option maxRecDepth 100000 in
theorem x_o140 : x_t140.all (x_okb 140) = true := by decide +kernel
set_option maxRecDepth 100000 in
theorem x_o141 : x_t141.all (x_okb 141) = true := by decide +kernel
set_option maxRecDepth 100000 in
theorem x_o142 : x_t142.all (x_okb 142) = true := by decide +kernel
set_option maxRecDepth 100000 in
theorem x_o143 : x_t143.all (x_okb 143) = true := by decide +kernel
set_option maxRecDepth 100000 in
theorem x_o144 : x_t144.all (x_okb 144) = true := by decide +kernel
set_option maxRecDepth 100000 in
theorem x_o145 : x_t145.all (x_okb 145) = true := by decide +kernel
set_option maxRecDepth 100000 in
theorem x_o146 : x_t146.all (x_okb 146) = true := by decide +kernel
set_option maxRecDepth 100000 in
theorem x_o147 : x_t147.all (x_okb 147) = true := by decide +kernel
set_option maxRecDepth 100000 in
theorem x_o148 : x_t148.all (x_okb 148) = true := by decide +kernel
set_option maxRecDepth 100000 in
theorem x_o149 : x_t149.all (x_okb 149) = true := by decide +kernel
set_option maxRecDepth 100000 in
theorem x_o150 : x_t150.all (x_okb 150) = true := by decide +kernel
set_option maxRecDepth 100000 in
theorem x_o151 : x_t151.all (x_okb 151) = true := by decide +kernel
set_option maxRecDepth 100000 in
theorem x_o152 : x_t152.all (x_okb 152) = true := by decide +kernel
set_option maxRecDepth 100000 in
theorem x_o153 : x_t153.all (x_okb 153) = true := by decide +kernel
set_option maxRecDepth 100000 in
theorem x_o154 : x_t154.all (x_okb 154) = true := by decide +kernel
set_option maxRecDepth 100000 in
theorem x_o155 : x_t155.all (x_okb 155) = true := by decide +kernel
set_option maxRecDepth 100000 in
theorem x_o156 : x_t156.all (x_okb 156) = true := by decide +kernel
set_option maxRecDepth 100000 in
theorem x_o157 : x_t157.all (x_okb 157) = true := by decide +kernel
set_option maxRecDepth 100000 in
theorem x_o158 : x_t158.all (x_okb 158) = true := by decide +kernel
set_option maxRecDepth 100000 in
theorem x_o159 : x_t159.all (x_okb 159) = true := by decide +kernel
set_option maxRecDepth 100000 in
theorem x_o160 : x_t160.all (x_okb 160) = true := by decide +kernel
set_option maxRecDepth 100000 in
theorem x_o162 : x_t162.all (x_okb 162) = true := by decide +kernel
set_option maxRecDepth 100000 in
theorem x_o163 : x_t163.all (x_okb 163) = true := by decide +kernel
set_option maxRecDepth 100000 in
theorem x_o164 : x_t164.all (x_okb 164) = true := by decide +kernel
set_option maxRecDepth 100000 in
theorem x_o165 : x_t165.all (x_okb 165) = true := by decide +kernel
set_option maxRecDepth 100000 in
theorem x_o166 : x_t166.all (x_okb 166) = true := by decide +kernel
set_option maxRecDepth 100000 in
theorem x_o167 : x_t167.all (x_okb 167) = true := by decide +kernel
set_option maxRecDepth 100000 in
theorem x_o168 : x_t168.all (x_okb 168) = true := by decide +kernel
set_option maxRecDepth 100000 in
theorem x_o169 : x_t169.all (x_okb 169) = true := by decide +kernel
set_option maxRecDepth 100000 in
theorem x_o170 : x_t170.all (x_okb 170) = true := by decide +kernel
set_option maxRecDepth 100000 in
theorem x_o171 : x_t171.all (x_okb 171) = true := by decide +kernel
set_option maxRecDepth 100000 in
theorem x_o172 : x_t172.all (x_okb 172) = true := by decide +kernel
set_option maxRecDepth 100000 in
theorem x_o173 : x_t173.all (x_okb 173) = true := by decide +kernel
set_option maxRecDepth 100000 in
theorem x_o174 : x_t174.all (x_okb 174) = true := by decide +kernel
set_option maxRecDepth 100000 in
theorem x_o175 : x_t175.all (x_okb 175) = true := by decide +kernel
set_option maxRecDepth 100000 in
theorem x_o176 : x_t176.all (x_okb 176) = true := by decide +kernel
set_option maxRecDepth 100000 in
theorem x_o177 : x_t177.all (x_okb 177) = true := by decide +kernel
set_option maxRecDepth 100000 in
theorem x_o178 : x_t178.all (x_okb 178) = true := by decide +kernel
set_option maxRecDepth 100000 in
theorem x_o179 : x_t179.all (x_okb 179) = true := by decide +kernel
set_option maxRecDepth 100000 in
theorem x_o180 : x_t180.all (x_okb 180) = true := by decide +kernel
set_option maxRecDepth 100000 in
theorem x_o181 : x_t181.all (x_okb 181) = true := by decide +kernel
set_option maxRecDepth 100000 in
theorem x_o182 : x_t182.all (x_okb 182) = true := by decide +kernel
set_option maxRecDepth 100000 in
theorem x_o183 : x_t183.all (x_okb 183) = true := by decide +kernel
set_option maxRecDepth 100000 in
theorem x_o184 : x_t184.all (x_okb 184) = true := by decide +kernel
set_option maxRecDepth 100000 in
theorem x_o185 : x_t185.all (x_okb 185) = true := by decide +kernel
set_option maxRecDepth 100000 in
theorem x_o186 : x_t186.all (x_okb 186) = true := by decide +kernel
set_option maxRecDepth 100000 in
theorem x_o187 : x_t187.all (x_okb 187) = true := by decide +kernel
set_option maxRecDepth 100000 in
theorem x_o188 : x_t188.all (x_okb 188) = true := by decide +kernel
set_option maxRecDepth 100000 in
theorem x_o189 : x_t189.all (x_okb 189) = true := by decide +kernel
set_option maxRecDepth 100000 in
theorem x_o190 : x_t190.all (x_okb 190) = true := by decide +kernel
set_option maxRecDepth 100000 in
theorem x_o191 : x_t191.all (x_okb 191) = true := by decide +kernel
set_option maxRecDepth 100000 in
theorem x_o18 : x_t18.all (x_okb 18) = true := by decide +kernel
set_option maxRecDepth 100000 in
theorem x_o20 : x_t20.all (x_okb 20) = true := by decide +kernel
set_option maxRecDepth 100000 in
theorem x_o57 : x_t57.all (x_okb 57) = true := by decide +kernel
set_option maxRecDepth 100000 in
theorem x_o74 : x_t74.all (x_okb 74) = true := by decide +kernel
set_option maxRecDepth 100000 in
theorem x_o92 : x_t92.all (x_okb 92) = true := by decide +kernel
set_option maxRecDepth 100000 in
theorem x_o108 : x_t108.all (x_okb 108) = true := by decide +kernel
set_option maxRecDepth 100000 in
theorem x_o123 : x_t123.all (x_okb 123) = true := by decide +kernel
set_option maxRecDepth 100000 in
theorem x_o161 : x_t161.all (x_okb 161) = true := by decide +kernel
end
section
/-! Throws: an invocation seen as begun anew where it stands. -/
theorem x_rebase {p : Program} {l : Launch} {e : Env} {R : Room} {s : State} {m : MethodId} {args : Array Value} {below : List Frame} {meth : Method} {c : Code} {T : State} {locs : List Loc} {cells slots : Nat}
    {rc rs : Nat} (X : Stand p l e R s m args below meth c T locs cells slots) (hc : cells + rc ≤ R.cells) (hs : slots + rs ≤ R.slots) :
    Stand p l e { frames := R.frames, cells := rc, slots := rs, locals := R.locals } (T.setFrames (.invoking m args :: below)) m args below meth c T [] 0 0 := by
  obtain ⟨g0, hg0⟩ := Option.isSome_iff_exists.mp X.here.top
  obtain ⟨r, hr⟩ := State.topJava?_eq_some.mp hg0
  have hcur : T.cur < T.threads.size := State.cur_lt_of_frames hr
  have hfr : (T.setFrames (.invoking m args :: below)).frames = .invoking m args :: below := State.frames_setFrames _ hcur
  have hm' : T.vm.method? m = some meth := X.method'
  have hal := X.warmed.alike
  obtain ⟨t, ht, -⟩ := State.frames_cons hr
  have hroom := X.room
  simp only [State.hasRoom, Bool.and_eq_true, decide_eq_true_eq] at hroom
  obtain ⟨⟨⟨⟨r1, r2, r3, r4, r5, r6⟩, r7⟩, r8⟩, r9⟩ := hroom
  have hloc : (T.setFrames (.invoking m args :: below)).localsInUse = s.localsInUse := by
    rw [State.localsInUse_invoking hfr (by exact hm') X.code, State.localsInUse_invoking X.frames X.method X.code]
  refine ⟨X.admits, X.cas, X.clock, hfr, ?_, ?_, hm', X.code, X.here, X.tail, State.WarmedH.refl _, ?_, ?_, ?_⟩
  · simp only [State.hasRoom, Bool.and_eq_true, decide_eq_true_eq]
    rw [hloc, hfr, State.stackLimits_setFrames, State.stackBytes_setFrames, X.limits, X.bytes]
    rw [X.frames] at r2 r3
    have h1 : T.heap.size ≤ s.heap.size + cells := X.heapSize
    have h2 := X.used
    refine ⟨⟨⟨⟨r1, r2, r3, r4, r5, r6⟩, ?_⟩, ?_⟩, X.book⟩
    · show T.heap.size + rc ≤ _
      omega
    · show T.slotsUsed + rs ≤ _
      omega
  · have hh := X.hears
    have e1 : (T.setFrames (.invoking m args :: below)).vm.method? m = s.vm.method? m := hm'.trans X.method.symm
    have e2 : ∀ m2, (T.setFrames (.invoking m args :: below)).code? m2 = s.code? m2 := fun m2 => by
      rw [State.code?_eq, State.code?_eq]
      show (T.vm.method? m2).bind _ = _
      rw [hal.method?]
    unfold State.hears at hh ⊢
    split at hh
    · rw [e2]; exact hh
    · rfl
    · rfl
    · rw [e1]; exact hh
  · rw [State.stackLimits_setFrames]
  · rw [State.stackBytes_setFrames]
  · have h0 : T.setFrames T.frames = T := State.setFrames_self ht
    have hdr : T.heap.toList.drop T.heap.size = [] := List.drop_eq_nil_of_le (by rw [Array.length_toList]; exact Nat.le_refl _)
    refine ⟨?_, Nat.le_refl _, Nat.le_refl _, ?_, ?_, fun a c hc => ⟨c, hc, rfl, rfl, fun _ _ => rfl⟩⟩
    · show T = ({ (T.setFrames (.invoking m args :: below)).setFrames T.frames with heap := T.heap, slotsUsed := T.slotsUsed } : State)
      rw [State.setFrames_setFrames, h0]
    · show T.slotsUsed = T.slotsUsed + ((T.heap.toList.drop T.heap.size).map _).sum
      rw [hdr]; rfl
    · show ((T.heap.toList.drop T.heap.size).map _).sum ≤ 0
      rw [hdr]; exact Nat.le_refl _
/-- an end by a throw -/
def x_QT (below : List Frame) (s : State) (mc ms : Nat) (free : Nat → Prop) (QT : Addr → State → Prop) : State → Prop := fun t =>
  ∃ a, t.status = .running ∧ Ended t below (.threw a) ∧ QT a t ∧ s.WarmedH t.vm ∧ ∃ L, s.sameButNew ({ t with vm := s.vm } : State) L mc ms ∧ ∀ q ∈ L, free q.base
/-- the atoms that stay as tables warm and cells are written outside the statics -/
def x_atoms (own : String) (ic : Nat) (Xc : String) (names : List String) (w : Cond) : Prop :=
  goodWord w = true ∨ w = .castable Xc Xc ∨ w = .laysStatic Bundle.tN "UNASSIGNED_STACK" Bundle.steD ∨ w = .laysStatic Bundle.tN "SUPPRESSED_SENTINEL" Bundle.listD ∨ w = .isRef (.static Bundle.tN "UNASSIGNED_STACK" Bundle.steD) ∨ w = .isRef (.static Bundle.tN "SUPPRESSED_SENTINEL" Bundle.listD) ∨ ∃ (M : MethodName) (bytes : ByteArray) (maxL : Nat) (ret : Option FieldType), w = .declares M ∧ Cond.instanceMethod M ∈ Bundle.ownAtoms0 own ic Xc names ∧ Cond.code M bytes maxL ret ∈ Bundle.ownAtoms0 own ic Xc names
theorem x_decl {args : Array Value} {s : State} {M : MethodName} {bytes : ByteArray} {maxL : Nat} {ret : Option FieldType} (h1 : (Cond.instanceMethod M).before args s = true) (h2 : (Cond.code M bytes maxL ret).before args s = true) : (Cond.declares M).before args s = true := by
  obtain ⟨m, meth, e1, e2, e3, -⟩ := Cond.instanceMethod_spec h1
  obtain ⟨meth2, c, q1, -, -, -, -, -, -, q2⟩ := Cond.code_spec e1 h2
  rw [e2] at q1
  cases q1
  simp [Cond.before, Cond.holds, Cond.value, e1, e2, e3, q2]
section X26
variable {p : Program} {l : Launch} {e : Env} {R : Room} {s : State} {m : MethodId} {args : Array Value} {below : List Frame} {meth : Method} {c : Code} {H : Heap} {locs : List Loc} {cells slots : Nat} {A : Nat → Prop} {cc : ByteArray} {pc : Nat} {ls : Array Slot} {QT : Addr → State → Prop}
set_option maxHeartbeats 2000000 in
theorem x_thrown {own Xc : String} {names : List String} {idx ic : Nat} (hx : p.tables.exec = Jvm.exec) (hb : c.code = cc) (hml : ls.size = c.maxLocals) (hlk : meth.locks = false) (htr : ∀ e, l.admits e → e.platform.stackTraces = false) (hown : s.vm.findClass own = some m.cls)
    (hfit : Bundle.fit Xc = true) (hnames : ∀ n ∈ names, Bundle.fit n = true) (hkind : ∀ w ∈ Bundle.ownAtoms0 own ic Xc names, x_atoms own ic Xc names w)
    (hgood : ∀ w ∈ Bundle.ownAtoms0 own ic Xc names, goodWord w = true → w.before args s = true) (hcast : va_Nw (.castable Xc Xc) s) (hu : x_st Bundle.tN "UNASSIGNED_STACK" Bundle.steD A s s.heap) (hsn : x_st Bundle.tN "SUPPRESSED_SENTINEL" Bundle.listD A s s.heap)
    (hS : va_S A s.heap H locs) (hA : ∀ q, s.heap.size ≤ q → A q) (hcl : (Cond.classLink own idx Xc).before args s = true) (hin : (Cond.instantiable Xc 6).before args s = true) (hini : (Cond.initialized Xc).before args s = true)
    (hout : ∀ x ∈ c.exceptionTable.toList, covers x (pc + 4 + 3) = false)
    (d0 : decode cc pc = .ok (.new idx, 3)) (d3 : decode cc (pc + 3) = .ok (.dup, 1)) (d4 : decode cc (pc + 3 + 1) = .ok (.invokespecial ic, 3)) (d7 : decode cc (pc + 3 + 1 + 3) = .ok (.athrow, 1))
    (hcells : cells + 1 ≤ R.cells) (hslots : slots + 6 ≤ R.slots) (hfr : names.length + 3 < R.frames) (hlo : 13 * (names.length + 1) + 45 ≤ R.locals)
    (hq : ∀ (U : State) (ce : Cell), U.heap[H.size]? = some ce → (∀ q, q < H.size → U.heap[q]? = H[q]?) → ce.vm.isStatics = false → s.vm.findClass Xc = some ce.cls → s.vm.Alike U.vm → QT H.size U) :
    W p l e R s m args below meth c H locs cells slots (x_QT below s (cells + 1) (slots + 6) A QT) (F0 m pc ls []) := by
  intro T0 hT0 X0
  have Y0 := x_rebase (rc := 1) (rs := 6) X0 hcells hslots
  have hW0 : s.WarmedH T0.vm := X0.warmed
  have hal : s.vm.Alike T0.vm := hW0.alike
  generalize hs' : T0.setFrames (.invoking m args :: below) = s' at Y0
  have hvm' : s'.vm = T0.vm := by rw [← hs']; rfl
  have hhp' : s'.heap = H := by rw [← hs', ← hT0]; rfl
  have hW' : s.WarmedH s'.vm := by rw [hvm']; exact hW0
  have hal' : s.vm.Alike s'.vm := hW'.alike
  have hS' : va_S A s.heap s'.heap locs := by rw [hhp']; exact hS
  have word : ∀ w ∈ Bundle.ownAtoms0 own ic Xc names, w.before args s' = true := by
    intro w hw
    rcases hkind w hw with h | rfl | rfl | rfl | rfl | rfl | ⟨M, bytes, maxL, ret, rfl, hi, hc⟩
    · exact word_at hW' (good_of_word h) (hgood w hw h)
    · exact va_Nw.use rfl (va_Nw.warmC hW' hcast)
    · exact x_st_lays (x_st_to hu hS' hal' (fun _ _ h => h))
    · exact x_st_lays (x_st_to hsn hS' hal' (fun _ _ h => h))
    · exact x_st_ref (x_st_to hu hS' hal' (fun _ _ h => h))
    · exact x_st_ref (x_st_to hsn hS' hal' (fun _ _ h => h))
    · exact x_decl (word_at hW' (Or.inl rfl) (hgood _ hi rfl)) (word_at hW' (Or.inl rfl) (hgood _ hc rfl))
  have hown' : s'.vm.findClass own = some m.cls := by rw [hal'.findClass]; exact hown
  have hcl' : (Cond.classLink own idx Xc).before args s' = true := word_at hW' (Or.inl rfl) hcl
  have hin' : (Cond.instantiable Xc 6).before args s' = true := word_at hW' (Or.inl rfl) hin
  have hini' : (Cond.initialized Xc).before args s' = true := word_at hW' (Or.inl rfl) hini
  have K : W p l e { frames := R.frames, cells := 1, slots := 6, locals := R.locals } s' m args below meth c H [] 0 0 (fun t => t.status = .running ∧ Ended t below (.threw H.size) ∧ s'.WarmedH t.vm ∧ s'.sameButNew ({ t with vm := s'.vm } : State) [] 1 6 ∧ ∃ ce, t.heap[H.size]? = some ce ∧ ce.vm.isStatics = false ∧ s'.vm.findClass Xc = some ce.cls) (F0 m pc ls []) := by
    obtain ⟨cX, kX, hfX, hkX, -⟩ := Cond.instantiable_spec hin'
    refine W.newcK hx hb hown' hcl' hin' hini' rfl d0 (by exact Nat.le_refl _) (by exact Nat.le_refl _) hfX rfl fun H1 kC hkC e1 z1 o1 => ?_
    refine lv_dup (va := .ref H.size) hx hb d3 rfl ?_
    intro T hT X
    obtain ⟨U, st, hrun, hend, hW, hsame, ce, hce, hoc⟩ := X.ctorThrow0 hx (htr e X.admits) hown' hfit hnames word (fun x hx => by cases hx) hfX hkC (a := H.size) (by rw [hT]; exact e1) (by rw [hhp']; exact Nat.le_refl _) (g := F0 m (pc + 3 + 1) ls [.ref H.size, .ref H.size]) rfl hml rfl rfl (rest := []) rfl (by rw [hb]; exact d4) (by rw [hb]; exact d7) hout hfr (by
      show 2 * 0 + (([Value.ref H.size]).map fun v => v.category).sum + (13 * (names.length + 1) + 41) ≤ R.locals
      have : (([Value.ref H.size]).map fun v => v.category).sum = 1 := rfl
      omega) hlk
    exact ⟨U, st, hrun, hend, hW, hsame, ce, hce, by rw [hoc.vm]; rfl, hoc.cls⟩
  obtain ⟨t, st, hrun, hend, hW, hsame, ce, hce, hcv, hcc⟩ := K T0 hT0 Y0
  have hsT : T0.sameButNew (t.setVm T0.vm) [] 1 6 := by
    rw [← hs'] at hsame
    obtain ⟨q1, q2⟩ := hsame
    refine ⟨?_, q2⟩
    have e9 : (T0.setFrames (.invoking m args :: below)).setFrames t.frames = T0.setFrames t.frames := State.setFrames_setFrames _ _ _
    have q1' : ({ t with vm := T0.vm } : State) = { (T0.setFrames (.invoking m args :: below)).setFrames t.frames with heap := t.heap, slotsUsed := t.slotsUsed } := q1
    rw [e9] at q1'
    exact q1'
  have hkeep : ∀ q, q < H.size → t.heap[q]? = H[q]? := by
    intro q hq0
    obtain ⟨c9, hq1⟩ : ∃ c9, H[q]? = some c9 := ⟨_, Array.getElem?_eq_getElem hq0⟩
    obtain ⟨c', k1, k2, k3, k4⟩ := hsT.2.2.2.2.2 q c9 (by rw [hT0]; exact hq1)
    have k1 : t.heap[q]? = some c' := k1
    have e8 : c'.slots = c9.slots := Array.ext_getElem? fun i => k4 i (by simp)
    rw [k1, hq1, k2, e8]
  refine ⟨t, st, H.size, hrun, hend, hq t ce hce hkeep hcv (by rw [← hal'.findClass]; exact hcc) (hal'.trans hW.alike), State.WarmedH.trans hW' hW, locs ++ [], ?_, fun q hq1 => ?_⟩
  · exact X0.same.trans (hsT.setVm s.vm)
  · rw [List.append_nil] at hq1
    exact hS.2.2 q hq1
end X26
end
