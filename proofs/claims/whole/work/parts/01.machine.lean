/-! A small machine over worlds of numbered cells: its steps as propositions. Cell 0 stands for null in fields. -/
abbrev xW : Type := Nat × Nat × Nat × (Nat → Nat) × (Nat → Nat) × (Nat → Nat → Int32) × (Nat → Nat → Int64) × (Nat → Nat → Nat)
def x_N (w : xW) : Nat := w.1
def x_C (w : xW) : Nat := w.2.1
def x_S (w : xW) : Nat := w.2.2.1
def x_k (w : xW) : Nat → Nat := w.2.2.2.1
def x_l (w : xW) : Nat → Nat := w.2.2.2.2.1
def x_i (w : xW) : Nat → Nat → Int32 := w.2.2.2.2.2.1
def x_j (w : xW) : Nat → Nat → Int64 := w.2.2.2.2.2.2.1
def x_r (w : xW) : Nat → Nat → Nat := w.2.2.2.2.2.2.2
def x_up {α : Type} (f : Nat → Nat → α) (o k : Nat) (v : α) : Nat → Nat → α := fun i => if i = o then (fun j => if j = k then v else f o j) else f i
def x_si (w : xW) (o k : Nat) (v : Int32) : xW := (x_N w, x_C w, x_S w, x_k w, x_l w, x_up (x_i w) o k v, x_j w, x_r w)
def x_sj (w : xW) (o k : Nat) (v : Int64) : xW := (x_N w, x_C w, x_S w, x_k w, x_l w, x_i w, x_up (x_j w) o k v, x_r w)
def x_sr (w : xW) (o k : Nat) (v : Nat) : xW := (x_N w, x_C w, x_S w, x_k w, x_l w, x_i w, x_j w, x_up (x_r w) o k v)
def x_row {α : Type} (f : Nat → α) (o : Nat) (g : α) : Nat → α := fun i => if i = o then g else f i
def x_new (w : xW) (kind len n : Nat) : xW := (x_N w + 1, x_C w + 1, x_S w + n, x_row (x_k w) (x_N w) kind, x_row (x_l w) (x_N w) len, x_row (x_i w) (x_N w) (fun _ => 0), x_row (x_j w) (x_N w) (fun _ => 0), x_row (x_r w) (x_N w) (fun _ => 0))
def x_cp (w : xW) (a sp b dp n : Nat) : xW := (x_N w, x_C w, x_S w, x_k w, x_l w, x_row (x_i w) b (va_cpy (x_i w a) (x_i w b) sp dp n), x_j w, x_r w)
def x_lost (w : xW) (n : Nat) : xW := (x_N w, x_C w + 1, x_S w + n, x_k w, x_l w, x_i w, x_j w, x_r w)
/-- locals by their places -/
abbrev xL : Type := List (Option Value)
def x_at : xL → Nat → Option Value
  | [], _ => none
  | a :: _, 0 => a
  | _ :: t, n + 1 => x_at t n
def x_set : xL → Nat → Option Value → xL
  | [], _, _ => []
  | _ :: t, 0, v => v :: t
  | a :: t, n + 1, v => a :: x_set t n v
def x_two : Option Value → Bool
  | some (.long _) => true
  | some (.double _) => true
  | _ => false
def x_cl (L : xL) (i : Nat) : xL := match x_two (x_at L i) with
  | true => x_set L i none
  | false => L
def x_st1 (L : xL) (i : Nat) (v : Value) : xL := match i with
  | 0 => x_set L 0 (some v)
  | j + 1 => x_set (x_cl L j) (j + 1) (some v)
def x_st2 (L : xL) (i : Nat) (v : Value) : xL := x_set (x_st1 L i v) (i + 1) none
/-- the parts of a step -/
def x_pI (st : List Value) (f : Int32 → List Value → Prop) : Prop := match st with
  | .int x :: r => f x r
  | _ => False
def x_pL (st : List Value) (f : Int64 → List Value → Prop) : Prop := match st with
  | .long x :: r => f x r
  | _ => False
def x_pR (st : List Value) (f : Nat → List Value → Prop) : Prop := match st with
  | .ref x :: r => f x r
  | _ => False
def x_gI (L : xL) (i : Nat) (f : Int32 → Prop) : Prop := match x_at L i with
  | some (.int x) => f x
  | _ => False
def x_gL (L : xL) (i : Nat) (f : Int64 → Prop) : Prop := match x_at L i with
  | some (.long x) => f x
  | _ => False
def x_gR (L : xL) (i : Nat) (f : Nat → Prop) : Prop := match x_at L i with
  | some (.ref x) => f x
  | _ => False
def x_br (c A B : Prop) : Prop := (c → A) ∧ (¬ c → B)
def x_pop : Nat → List Value → List Value → (List Value → List Value → Prop) → Prop
  | 0, st, acc, f => f acc st
  | n + 1, v :: st, acc, f => x_pop n st (v :: acc) f
  | _ + 1, [], _, _ => False
def x_cat (v : Value) : Nat := match v with
  | .long _ => 2
  | .double _ => 2
  | _ => 1
def x_cats : List Value → Nat
  | [] => 0
  | v :: r => x_cat v + x_cats r
def x_sw (c : Nat) (A B : Prop) : Prop := match c with
  | 0 => A
  | _ + 1 => B
def x_pV (st : List Value) (f : Value → List Value → Prop) : Prop := match st with
  | .int x :: r => f (.int x) r
  | .ref x :: r => f (.ref x) r
  | _ => False
def x_nil (st : List Value) (A : Prop) : Prop := match st with
  | [] => A
  | _ :: _ => False
def x_som {α : Type} (o : Option α) (f : α → Prop) : Prop := match o with
  | some a => f a
  | none => False
/-- the classes that a link to a field may mean: 2 stands for 2 and 3, which have their fields from one class -/
def x_al (a : Nat) : List Nat := match a with
  | 2 => [2, 3]
  | a => [a]
def x_kd (a k : Nat) : Prop := match a with
  | 2 => k = 5 ∨ k = 6
  | a => k = a + 3
def x_if (b : Bool) (A : Prop) : Prop := match b with
  | true => A
  | false => False
def x_cnd (c : ClassFile.Cond) (x y : Int32) : Prop := match c with
  | .eq => x = y
  | .ne => ¬ x = y
  | .lt => x < y
  | .ge => y ≤ x
  | .gt => y < x
  | .le => x ≤ y
/-- what an end is: a return, or a throw of kind n -/
abbrev xO : Type := Option Value ⊕ Nat
/-- a row of code: pc, instruction, its length, three numbers, an int, a long -/
abbrev xR : Type := Nat × Instr × Nat × Nat × Nat × Nat × Int32 × Int64
def x_find : List xR → Nat → Option xR
  | [], _ => none
  | r :: t, pc => match Nat.beq r.1 pc with
    | true => some r
    | false => x_find t pc
/-- numbers of things that are no cells of the world: the script, the constants of the enum, the texts -/
def x_sc : Nat := 1000000
def x_en : Nat := 1000001
def x_tx : Nat := 1000010
/-- one step: K goes on, CL calls, RT returns, TH throws; rc, vt: receivers; scr: the script; tx: the texts -/
def x_step (K : Nat → xL → List Value → xW → Prop) (CL : Nat → List Value → Nat → xL → List Value → xW → Prop) (RT : Option Value → xW → Prop) (TH : Nat → xW → Prop) (rc : Nat → Nat) (vt : Nat → Nat × Nat × Nat × Nat) (scr : Nat × (Nat → Int32)) (tx : Nat → List Int32) (ins : Instr) (a b c : Nat) (v : Int32) (u : Int64) (pc : Nat) (L : xL) (st : List Value) (w : xW) : Prop :=
  match ins with
  | .iconst _ => K (pc + 1) L (.int v :: st) w
  | .bipush _ => K (pc + 2) L (.int v :: st) w
  | .sipush _ => K (pc + 3) L (.int v :: st) w
  | .ldc _ => x_sw c (K (pc + 2) L (.int v :: st) w) (K (pc + 2) L (.ref (x_tx + a) :: st) w)
  | .lconst _ => K (pc + 1) L (.long u :: st) w
  | .ldc2_w _ => K (pc + 3) L (.long u :: st) w
  | .iload i => x_gI L i fun x => K (pc + 2) L (.int x :: st) w
  | .iload_n _ => x_gI L a fun x => K (pc + 1) L (.int x :: st) w
  | .lload i => x_gL L i fun x => K (pc + 2) L (.long x :: st) w
  | .lload_n _ => x_gL L a fun x => K (pc + 1) L (.long x :: st) w
  | .aload i => x_gR L i fun x => K (pc + 2) L (.ref x :: st) w
  | .aload_n _ => x_gR L a fun x => K (pc + 1) L (.ref x :: st) w
  | .istore i => x_pI st fun x r => K (pc + 2) (x_st1 L i (.int x)) r w
  | .istore_n _ => x_pI st fun x r => K (pc + 1) (x_st1 L a (.int x)) r w
  | .lstore i => x_pL st fun x r => K (pc + 2) (x_st2 L i (.long x)) r w
  | .lstore_n _ => x_pL st fun x r => K (pc + 1) (x_st2 L a (.long x)) r w
  | .astore i => x_pR st fun x r => K (pc + 2) (x_st1 L i (.ref x)) r w
  | .astore_n _ => x_pR st fun x r => K (pc + 1) (x_st1 L a (.ref x)) r w
  | .iinc i _ => x_gI L i fun x => K (pc + 3) (x_st1 L i (.int (x + v))) st w
  | .iadd => x_pI st fun y r => x_pI r fun x r => K (pc + 1) L (.int (x + y) :: r) w
  | .isub => x_pI st fun y r => x_pI r fun x r => K (pc + 1) L (.int (x - y) :: r) w
  | .imul => x_pI st fun y r => x_pI r fun x r => K (pc + 1) L (.int (x * y) :: r) w
  | .iand => x_pI st fun y r => x_pI r fun x r => K (pc + 1) L (.int (x &&& y) :: r) w
  | .ior => x_pI st fun y r => x_pI r fun x r => K (pc + 1) L (.int (x ||| y) :: r) w
  | .ixor => x_pI st fun y r => x_pI r fun x r => K (pc + 1) L (.int (x ^^^ y) :: r) w
  | .ishl => x_pI st fun y r => x_pI r fun x r => K (pc + 1) L (.int (x <<< (y &&& 31)) :: r) w
  | .iushr => x_pI st fun y r => x_pI r fun x r => K (pc + 1) L (.int (x.toUInt32 >>> (y.toUInt32 &&& Int32.toUInt32 31)).toInt32 :: r) w
  | .idiv => x_pI st fun y r => x_pI r fun x r => (¬ y = 0) ∧ K (pc + 1) L (.int (x / y) :: r) w
  | .irem => x_pI st fun y r => x_pI r fun x r => (¬ y = 0) ∧ K (pc + 1) L (.int (x - x / y * y) :: r) w
  | .ineg => x_pI st fun x r => K (pc + 1) L (.int (-x) :: r) w
  | .land => x_pL st fun y r => x_pL r fun x r => K (pc + 1) L (.long (x &&& y) :: r) w
  | .lor => x_pL st fun y r => x_pL r fun x r => K (pc + 1) L (.long (x ||| y) :: r) w
  | .lxor => x_pL st fun y r => x_pL r fun x r => K (pc + 1) L (.long (x ^^^ y) :: r) w
  | .lshl => x_pI st fun y r => x_pL r fun x r => K (pc + 1) L (.long (x <<< (y.toInt64 &&& 63)) :: r) w
  | .lshr => x_pI st fun y r => x_pL r fun x r => K (pc + 1) L (.long (x >>> (y.toInt64 &&& 63)) :: r) w
  | .lushr => x_pI st fun y r => x_pL r fun x r => K (pc + 1) L (.long (x.toUInt64 >>> (y.toInt64.toUInt64 &&& Int64.toUInt64 63)).toInt64 :: r) w
  | .i2l => x_pI st fun x r => K (pc + 1) L (.long x.toInt64 :: r) w
  | .l2i => x_pL st fun x r => K (pc + 1) L (.int x.toInt32 :: r) w
  | .lcmp => x_pL st fun y r => x_pL r fun x r => K (pc + 1) L (.int (lg_cmp x y) :: r) w
  | .dup => x_pV st fun x r => K (pc + 1) L (x :: x :: r) w
  | .pop => x_pV st fun _ r => K (pc + 1) L r w
  | .dup2 => x_pI st fun y r => x_pR r fun x r => K (pc + 1) L (.int y :: .ref x :: .int y :: .ref x :: r) w
  | .ifCond cd _ => x_pI st fun x r => x_br (x_cnd cd x 0) (K a L r w) (K (pc + 3) L r w)
  | .if_icmp cd _ => x_pI st fun y r => x_pI r fun x r => x_br (x_cnd cd x y) (K a L r w) (K (pc + 3) L r w)
  | .if_acmp .ne _ => x_pR st fun y r => x_pR r fun x r => (x_en ≤ x ∧ x < x_en + 4 ∧ x_en ≤ y ∧ y < x_en + 4) ∧ x_br (¬ x = y) (K a L r w) (K (pc + 3) L r w)
  | .goto _ => K a L st w
  | .tableswitch d lo hi offs => x_pI st fun x r => x_br (x.toInt < lo ∨ hi < x.toInt) (K ((pc : Int) + d).toNat L r w) (x_som offs[(x.toInt - lo).toNat]? fun o => K ((pc : Int) + o).toNat L r w)
  | .getfield _ => x_pR st fun o r => (x_kd a (x_k w o)) ∧ x_sw c (K (pc + 3) L (.int (x_i w o b) :: r) w) (x_sw (c - 1) (K (pc + 3) L (.long (x_j w o b) :: r) w) ((¬ x_r w o b = 0) ∧ K (pc + 3) L (.ref (x_r w o b) :: r) w))
  | .putfield _ => x_sw c (x_pI st fun x r => x_pR r fun o r => (x_kd a (x_k w o)) ∧ K (pc + 3) L r (x_si w o b x))
    (x_sw (c - 1) (x_pL st fun x r => x_pR r fun o r => (x_kd a (x_k w o)) ∧ K (pc + 3) L r (x_sj w o b x))
    (x_sw (c - 2) (x_pR st fun x r => x_pR r fun o r => (x_kd a (x_k w o) ∧ ¬ x = 0 ∧ x < x_N w) ∧ K (pc + 3) L r (x_sr w o b x))
    (x_pI st fun x r => x_pR r fun o r => (x_kd a (x_k w o) ∧ (x = 0 ∨ x = 1)) ∧ K (pc + 3) L r (x_si w o b x))))
  | .getstatic _ => K (pc + 3) L (.ref (x_en + a) :: st) w
  | .iaload => x_pI st fun i r => x_pR r fun o r => x_sw c ((x_k w o = 0 ∧ vp_in i (x_l w o)) ∧ K (pc + 1) L (.int (x_i w o i.toNatClampNeg) :: r) w) ((o = x_sc ∧ vp_in i scr.1) ∧ K (pc + 1) L (.int (scr.2 i.toNatClampNeg) :: r) w)
  | .baload => x_pI st fun i r => x_pR r fun o r => (x_k w o = 1 ∧ vp_in i (x_l w o)) ∧ K (pc + 1) L (.int (x_i w o i.toNatClampNeg) :: r) w
  | .laload => x_pI st fun i r => x_pR r fun o r => (x_k w o = 2 ∧ vp_in i (x_l w o)) ∧ K (pc + 1) L (.long (x_j w o i.toNatClampNeg) :: r) w
  | .iastore => x_pI st fun x r => x_pI r fun i r => x_pR r fun o r => (x_k w o = 0 ∧ vp_in i (x_l w o)) ∧ K (pc + 1) L r (x_si w o i.toNatClampNeg x)
  | .bastore => x_pI st fun x r => x_pI r fun i r => x_pR r fun o r => (x_k w o = 1 ∧ vp_in i (x_l w o) ∧ (x = 0 ∨ x = 1)) ∧ K (pc + 1) L r (x_si w o i.toNatClampNeg x)
  | .lastore => x_pL st fun x r => x_pI r fun i r => x_pR r fun o r => (x_k w o = 2 ∧ vp_in i (x_l w o)) ∧ K (pc + 1) L r (x_sj w o i.toNatClampNeg x)
  | .arraylength => x_pR st fun o r => x_sw c ((x_k w o = 0) ∧ K (pc + 1) L (.int (Int32.ofNat (x_l w o)) :: r) w) ((o = x_sc) ∧ K (pc + 1) L (.int (Int32.ofNat scr.1) :: r) w)
  | .newarray _ => x_pI st fun x r => (¬ x < 0 ∧ x ≤ 20000 ∧ x_N w < 1000) ∧ K (pc + 2) L (.ref (x_N w) :: r) (x_new w a x.toNatClampNeg x.toNatClampNeg)
  | .new _ => x_sw c ((x_N w < 1000) ∧ K (pc + 3) L (.ref (x_N w) :: st) (x_new w (a + 3) b b)) (x_nil st (TH a (x_lost w 6)))
  | .invokestatic _ => x_sw c (x_pop b st [] fun as r => x_if (Nat.ble (x_cats r) 8) (CL a as (pc + 3) L r w))
    (x_pI st fun n r => x_pI r fun dp r => x_pR r fun q r => x_pI r fun sp r => x_pR r fun o r => (x_k w o = 0 ∧ x_k w q = 0 ∧ ¬ sp < 0 ∧ ¬ dp < 0 ∧ ¬ n < 0 ∧ sp.toNatClampNeg + n.toNatClampNeg ≤ x_l w o ∧ dp.toNatClampNeg + n.toNatClampNeg ≤ x_l w q) ∧ x_if (Nat.ble (x_cats r) 8) (K (pc + 3) L r (x_cp w o sp.toNatClampNeg q dp.toNatClampNeg n.toNatClampNeg)))
  | .invokespecial _ => x_sw c (x_pop b st [] fun as r => x_if (Nat.ble (x_cats r) 8) (x_pR as fun _ _ => CL a as (pc + 3) L r w))
    (x_pR st fun _ r => x_if (Nat.ble (x_cats r) 8) (K (pc + 3) L r w))
  | .invokevirtual _ => x_sw c (x_pop b st [] fun as r => x_if (Nat.ble (x_cats r) 8) (x_pR as fun o _ => (x_k w o = rc a + 3) ∧ CL a as (pc + 3) L r w))
    (x_sw (c - 1) (x_pop b st [] fun as r => x_if (Nat.ble (x_cats r) 8) (x_pR as fun o _ => x_br (x_k w o = (vt a).1 + 3) (CL (vt a).2.1 as (pc + 3) L r w) ((x_k w o = (vt a).2.2.1 + 3) ∧ CL (vt a).2.2.2 as (pc + 3) L r w)))
    (x_sw (c - 2) (x_pR st fun o r => (x_tx ≤ o ∧ o < x_tx + b) ∧ x_if (Nat.ble (x_cats r) 8) (K (pc + 3) L (.int (Int32.ofNat (tx (o - x_tx)).length) :: r) w))
    (x_pI st fun i r => x_pR r fun o r => (x_tx ≤ o ∧ o < x_tx + b ∧ vp_in i (tx (o - x_tx)).length) ∧ x_if (Nat.ble (x_cats r) 8) (K (pc + 3) L (.int ((tx (o - x_tx)).getD i.toNatClampNeg 0) :: r) w))))
  | .ireturn => x_pI st fun x r => x_nil r (x_sw c (RT (some (.int x)) w) ((x = 0 ∨ x = 1) ∧ RT (some (.int x)) w))
  | .lreturn => x_pL st fun x r => x_nil r (RT (some (.long x)) w)
  | .areturn => x_pR st fun x r => x_nil r (RT (some (.ref x)) w)
  | .return_ => x_nil st (RT none w)
  | _ => False
