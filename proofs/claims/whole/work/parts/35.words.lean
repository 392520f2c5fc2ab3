/-! The numbers of the text on the class's side: Words (cell 3) and PackedNumbers (cell 4). -/
section X36
variable {scr : Nat × (Nat → Int32)} {w : xW} {Q : xO → xW → Prop} {t : Nat → Nat} {sz a f n k i : Nat} {o1 o2 o3 o4 o5 : Option Value}
theorem c24 (h : SH w) (ht : TT w t sz) (hq : Q (.inl (some (.int (nI sz)))) w) : x_R x_prog scr 24 0 [some (.ref 1)] [] w Q := by
  refine b24_0 ?_
  rw [ht.2.2.1, sh_k h]
  exact ⟨rfl, hq⟩
/-- byteAt -/
def bAt (t : Nat → Nat) (sz i : Nat) : Int32 := if i < sz then nI (t i) else -1
theorem c26 (h : SH w) (ht : TT w t sz) (hi : i < 2 ^ 31) (hq : Q (.inl (some (.int (bAt t sz i)))) w) : x_R x_prog scr 26 0 [some (.ref 1), some (.int (nI i))] [] w Q := by
  obtain ⟨t1, t2, t3, -, t5, -⟩ := id ht
  unfold bAt at hq
  refine b26_0 ?_
  simp only [t3, t5, nI_clamp hi, nI_leI (show sz < 2 ^ 31 by omega) hi, sh_k h, sh_l h, sh_n h, kk1, sr1_0 h, kk2, ll2, true_and, and_true, false_and, and_false, and_self, not_false_eq_true, not_true_eq_false, true_implies, false_implies, implies_true, true_or, or_true, or_self, if_true, if_false, Nat.reduceEqDiff, reduceIte, eq_self]
  refine ⟨fun z => absurd z (nI_pos hi), fun _ => ⟨fun z => ?_, fun z => ?_⟩⟩
  · rw [if_neg (by omega)] at hq; exact hq
  · rw [if_pos (by omega)] at hq; exact ⟨vp_in_nI (by omega) (by omega), hq⟩
theorem bAt_in (hi : i < sz) : bAt t sz i = nI (t i) := if_pos hi
theorem c25 (h : SH w) (ht : TT w t sz) (hi : i < sz) (hq : Q (.inl (some (.int (b32 (gv (t i)))))) w) : x_R x_prog scr 25 0 [some (.ref 3), some (.int (nI i)), o2] [] w Q := by
  have t1 := ht.1
  have t2i := ht.2.1 i
  refine b25_0 ?_
  simp only [sh_k h, sh_l h, sh_n h, kk3, sr3_0 h, kk1, sr1_0 h, true_and, and_true, false_and, and_false, and_self, not_false_eq_true, not_true_eq_false, true_implies, false_implies, implies_true, true_or, or_true, or_self, if_true, if_false, Nat.reduceEqDiff, reduceIte, eq_self, show ¬ (1 = 0) by omega]
  refine c26 h ht (by omega) ?_
  rw [bAt_in hi]
  have e1 : nI (t i) = 32 ↔ t i = 32 := nI_eq (b := 32) (by omega) (by omega)
  have e2 : nI (t i) = 10 ↔ t i = 10 := nI_eq (b := 10) (by omega) (by omega)
  refine b25_8 ?_
  rw [e1, e2]
  refine ⟨fun h1 => ⟨Or.inr rfl, ?_⟩, fun h1 => ⟨fun h2 => ⟨Or.inl rfl, ?_⟩, fun h2 => ⟨Or.inr rfl, ?_⟩⟩⟩
  · have e : gv (t i) = true := by simp [gv, h1]
    rw [e] at hq; exact hq
  · have e : gv (t i) = false := by simp [gv, h1, h2]
    rw [e] at hq; exact hq
  · have e : gv (t i) = true := by simp [gv, Classical.not_not.mp h2]
    rw [e] at hq; exact hq
theorem dg_lo : ∀ x : Nat, x < 256 → (nI x - 48 < 0 ↔ x < 48) := by decide +kernel
theorem dg_hi : ∀ x : Nat, x < 256 → 48 ≤ x → (nI x - 48 ≤ 9 ↔ x ≤ 57) := by decide +kernel
theorem c28_l (h : SH w) (ht : TT w t sz) (hn : n ≤ sz) (h1 : x_i w 3 1 = nI n) : ∀ (d i acc : Nat) (o1 o2 o5 : Option Value), i + d = n →
    Q (.inl (some (.int (iI (oI (dgs t d i acc) false))))) w → x_R x_prog scr 28 39 [some (.ref 3), o1, o2, some (.int (nI acc)), some (.int (nI i)), o5] [] w Q := by
  have t1 := ht.1
  intro d
  induction d with
  | zero =>
    intro i acc o1 o2 o5 hi hq
    have hc : nI n ≤ nI i := nI_le (by omega) (by omega)
    refine b28_39 ?_
    simp only [h1, hc, sh_k h, sh_l h, sh_n h, kk3, sr3_0 h, kk1, sr1_0 h, true_and, and_true, false_and, and_false, and_self, not_false_eq_true, not_true_eq_false, true_implies, false_implies, implies_true, true_or, or_true, or_self, if_true, if_false, Nat.reduceEqDiff, reduceIte, eq_self]
    have e : iI (oI (dgs t 0 i acc) false) = nI acc := iI_n acc
    rw [e] at hq
    exact hq
  | succ d ih =>
    intro i acc o1 o2 o5 hi hq
    have hc : ¬ nI n ≤ nI i := nI_ge (by omega) (by omega)
    have t2i := ht.2.1 i
    refine b28_39 ?_
    simp only [h1, hc, sh_k h, sh_l h, sh_n h, kk3, sr3_0 h, kk1, sr1_0 h, true_and, and_true, false_and, and_false, and_self, not_false_eq_true, not_true_eq_false, true_implies, false_implies, implies_true, true_or, or_true, or_self, if_true, if_false, Nat.reduceEqDiff, reduceIte, eq_self, show ¬ (1 = 0) by omega]
    refine c26 h ht (by omega) ?_
    rw [bAt_in (by omega)]
    refine b28_57 ?_
    rw [dg_lo _ t2i]
    refine ⟨fun z => ?_, fun z => ?_⟩
    · have e : dgs t (d + 1) i acc = none := by unfold dgs; rw [if_pos (Or.inl z)]
      rw [e] at hq; exact hq
    · rw [dg_hi _ t2i (by omega)]
      refine ⟨fun y => ?_, fun y => ?_⟩
      · have e : dgs t (d + 1) i acc = dgs t d (i + 1) (acc * 10 + (t i - 48)) := by
          conv => lhs; unfold dgs
          rw [if_neg (by omega)]
        rw [e] at hq
        have e2 : nI acc * 10 + (nI (t i) - 48) = nI (acc * 10 + (t i - 48)) := by
          rw [show (10 : Int32) = nI 10 from rfl, show (48 : Int32) = nI 48 from rfl, pk_mul, nI_sub (by omega), nI_add]
        rw [e2, nI_1]
        exact ih (i + 1) _ _ _ _ (by omega) hq
      · have e : dgs t (d + 1) i acc = none := by unfold dgs; rw [if_pos (Or.inr (by omega))]
        rw [e] at hq; exact hq
theorem c28 (h : SH w) (ht : TT w t sz) (hn : n ≤ sz) (hk : k ≤ n) (h1 : x_i w 3 1 = nI n) (hq : Q (.inl (some (.int (iI (oI (szd t k n) false))))) w) : x_R x_prog scr 28 0 [some (.ref 3), some (.int (nI k)), o2, o3, o4, o5] [] w Q := by
  have t1 := ht.1
  have t2k := ht.2.1 k
  have c1 : nI (n - k) < 1 ↔ n - k < 1 := nI_ltI (b := 1) (by omega) (by omega)
  have c2 : (4 : Int32) < nI (n - k) ↔ 4 < n - k := nI_ltI (a := 4) (by omega) (by omega)
  have no : szd t k n = none → Q (.inl (some (.int 20000))) w := by
    intro e
    rw [e] at hq; exact hq
  refine b28_0 ?_
  simp only [h1, nI_sub hk, c1, c2, sh_k h, sh_l h, sh_n h, kk3, sr3_0 h, kk1, sr1_0 h, true_and, and_true, false_and, and_false, and_self, not_false_eq_true, not_true_eq_false, true_implies, false_implies, implies_true, true_or, or_true, or_self, if_true, if_false, Nat.reduceEqDiff, reduceIte, eq_self, show ¬ (1 = 0) by omega]
  refine ⟨fun z => no ?_, fun z => ⟨fun y => no ?_, fun y => c26 h ht (by omega) ?_⟩⟩
  · unfold szd; rw [if_pos (by omega)]
  · unfold szd; rw [if_pos (by omega)]
  · rw [bAt_in (by omega)]
    have e1 : nI (t k) = 48 ↔ t k = 48 := nI_eq (b := 48) (by omega) (by omega)
    refine b28_25 ?_
    rw [e1]
    refine ⟨fun x => ?_, fun x => no ?_⟩
    · have e : szd t k n = dgs t (n - k) k 0 := by unfold szd; rw [if_neg (by omega)]
      rw [e] at hq
      exact c28_l h ht hn h1 (n - k) k 0 _ _ _ (by omega) hq
    · unfold szd; rw [if_pos (Or.inr (Or.inr (Classical.not_not.mp x)))]
/-- meaning -/
theorem c27 (h : SH w) (ht : TT w t sz) (hn : n ≤ sz) (hf : f < n) (h1 : x_i w 3 1 = nI n) (hq : Q (.inl (some (.int (iI (wv t f n))))) w) : x_R x_prog scr 27 0 [some (.ref 3), some (.int (nI f)), o2, o3, o4] [] w Q := by
  have t1 := ht.1
  have t2f := ht.2.1 f
  have t2g := ht.2.1 (f + 1)
  have c1 : nI (n - f) = 1 ↔ n = f + 1 := by rw [show (1 : Int32) = nI 1 from rfl, nI_eq (by omega) (by omega)]; omega
  have c2 : nI (n - (f + 1)) = 1 ↔ n = f + 2 := by rw [show (1 : Int32) = nI 1 from rfl, nI_eq (by omega) (by omega)]; omega
  have g100 : nI (t f) = 100 ↔ t f = 100 := nI_eq (b := 100) (by omega) (by omega)
  have g45 : nI (t f) = 45 ↔ t f = 45 := nI_eq (b := 45) (by omega) (by omega)
  have g48 : nI (t f) = 48 ↔ t f = 48 := nI_eq (b := 48) (by omega) (by omega)
  have g48' : nI (t (f + 1)) = 48 ↔ t (f + 1) = 48 := nI_eq (b := 48) (by omega) (by omega)
  have z0 : (0 : Int32) = 0 := rfl
  have z1 : ¬ (1 : Int32) = 0 := by decide
  have s1 := @szd_lt t f n
  have s2 := @szd_lt t (f + 1) n
  -- behind the word d
  have rest : ¬ (n = f + 1 ∧ t f = 100) → ∀ o2 o3 o4, x_R x_prog scr 27 35 [some (.ref 3), some (.int (nI f)), o2, o3, o4] [.int (nI (t f))] w Q := by
    intro hd o2 o3 o4
    have hwv : wv t f n = if t f = 45 then (if n = f + 2 ∧ t (f + 1) = 48 then 20000 else oI (szd t (f + 1) n) true) else if n = f + 1 ∧ t f = 48 then 0 else oI (szd t f n) false := by
      unfold wv; rw [if_neg hd]
    rw [hwv] at hq
    refine b27_35 ?_
    simp only [g45, z0, z1, h1, nI_1, nI_sub (show f ≤ n by omega), nI_sub (show f + 1 ≤ n by omega), c1, c2, sh_k h, sh_l h, sh_n h, kk3, sr3_0 h, kk1, sr1_0 h, true_and, and_true, false_and, and_false, and_self, not_false_eq_true, not_true_eq_false, true_implies, false_implies, implies_true, true_or, or_true, or_self, if_true, if_false, Nat.reduceEqDiff, reduceIte, eq_self, show ¬ (1 = 0) by omega]
    refine ⟨fun h45 => ?_, fun h45 => ?_⟩
    · rw [if_neg h45] at hq
      have num : ∀ o1, (¬ (n = f + 1 ∧ t f = 48)) → x_R x_prog scr 28 0 [some (.ref 3), some (.int (nI f)), none, none, none, none] [] w (x_back x_prog 27 95 98 [some (.ref 3), o1, some (.int 0), some (.int (nI f)), none] [] (fun pc L st w => x_R x_prog scr 27 pc L st w Q)) := by
        intro o1 hno
        rw [if_neg hno] at hq
        refine c28 h ht hn (by omega) h1 (b27_98 ⟨fun _ => hq, fun z => absurd rfl z⟩)
      refine ⟨fun z => num _ (fun q => z q.1), fun z => c26 h ht (by omega) ?_⟩
      rw [bAt_in (by omega)]
      refine b27_76 ?_
      simp only [g48, sh_k h, sh_l h, sh_n h, kk3, sr3_0 h, true_and, and_true, false_and, and_false, and_self, not_false_eq_true, not_true_eq_false, true_implies, false_implies, implies_true, true_or, or_true, or_self, if_true, if_false, Nat.reduceEqDiff, reduceIte, eq_self]
      refine ⟨fun y => num _ (fun q => y q.2), fun y => ?_⟩
      rw [if_pos ⟨Classical.not_not.mp z, Classical.not_not.mp y⟩] at hq
      exact hq
    · rw [if_pos (Classical.not_not.mp h45)] at hq
      have num : ∀ o1, (¬ (n = f + 2 ∧ t (f + 1) = 48)) → x_R x_prog scr 28 0 [some (.ref 3), some (.int (nI (f + 1))), none, none, none, none] [] w (x_back x_prog 27 95 98 [some (.ref 3), o1, some (.int 1), some (.int (nI (f + 1))), none] [] (fun pc L st w => x_R x_prog scr 27 pc L st w Q)) := by
        intro o1 hno
        rw [if_neg hno] at hq
        refine c28 h ht hn (by omega) h1 (b27_98 ⟨fun z => absurd z (by decide), fun _ => ?_⟩)
        cases hs : szd t (f + 1) n with
        | none => rw [hs] at hq; exact ⟨fun _ => hq, fun z => absurd rfl z⟩
        | some s =>
          have hs2 := s2 hs
          rw [hs] at hq
          have e1 : iI (oI (some s) false) = nI s := iI_n s
          have e2 : iI (oI (some s) true) = - nI s := (iI_neg (by omega)).symm
          rw [e1]
          rw [e2] at hq
          exact ⟨fun z => absurd ((nI_eq (b := 20000) (by omega) (by omega)).mp z) (by omega), fun _ => hq⟩
      refine ⟨fun z => num _ (fun q => z q.1), fun z => c26 h ht (by omega) ?_⟩
      have z2 := Classical.not_not.mp z
      rw [bAt_in (by omega)]
      refine b27_76 ?_
      simp only [g48', sh_k h, sh_l h, sh_n h, kk3, sr3_0 h, true_and, and_true, false_and, and_false, and_self, not_false_eq_true, not_true_eq_false, true_implies, false_implies, implies_true, true_or, or_true, or_self, if_true, if_false, Nat.reduceEqDiff, reduceIte, eq_self]
      refine ⟨fun y => num _ (fun q => y q.2), fun y => ⟨fun x => absurd x (by decide), fun _ => ?_⟩⟩
      rw [if_pos ⟨z2, Classical.not_not.mp y⟩] at hq
      exact hq
  refine b27_0 ?_
  simp only [h1, nI_sub (show f ≤ n by omega), c1, sh_k h, sh_l h, sh_n h, kk3, sr3_0 h, kk1, sr1_0 h, true_and, and_true, false_and, and_false, and_self, not_false_eq_true, not_true_eq_false, true_implies, false_implies, implies_true, true_or, or_true, or_self, if_true, if_false, Nat.reduceEqDiff, reduceIte, eq_self, show ¬ (1 = 0) by omega]
  refine ⟨fun z => c26 h ht (by omega) ?_, fun z => c26 h ht (by omega) ?_⟩
  · rw [bAt_in (by omega)]
    exact rest (fun q => z q.1) _ _ _
  · rw [bAt_in (by omega)]
    refine b27_18 ?_
    simp only [g100, sh_k h, sh_l h, sh_n h, kk3, sr3_0 h, kk1, sr1_0 h, true_and, and_true, false_and, and_false, and_self, not_false_eq_true, not_true_eq_false, true_implies, false_implies, implies_true, true_or, or_true, or_self, if_true, if_false, Nat.reduceEqDiff, reduceIte, eq_self, show ¬ (1 = 0) by omega]
    refine ⟨fun y => c26 h ht (by omega) ?_, fun y => ?_⟩
    · rw [bAt_in (by omega)]
      exact rest (fun q => y q.2) _ _ _
    · have e : wv t f n = 10000 := by unfold wv; rw [if_pos ⟨Classical.not_not.mp z, Classical.not_not.mp y⟩]
      rw [e] at hq; exact hq
/-- the places of a reader of numbers; what it holds -/
def mA (o : Nat) : Nat → Nat → Prop := fun p k => p = o ∧ (k = 1 ∨ k = 2 ∨ k = 3)
def nxC (o : Nat) (s : Nat × Nat × Int) (w : xW) : Prop := x_i w o 1 = nI s.1 ∧ x_i w o 2 = nI s.2.1 ∧ x_i w o 3 = iI s.2.2
theorem c22 {o : Nat} (ho : o = 3 ∨ o = 4) (h : SH w) (hq : ∀ w', xI (mA o) w w' → x_i w' o 1 = nI 0 → Q (.inl none) w') : x_R x_prog scr 22 0 [some (.ref o)] [] w Q := by
  refine b22_0 ⟨?_, hq _ (xI_si xI_rf ⟨rfl, Or.inl rfl⟩) (by simp [y_i_si]; rfl)⟩
  rw [sh_k h]
  rcases ho with rfl | rfl
  · exact Or.inl rfl
  · exact Or.inr rfl
theorem TT_A {o : Nat} (ho : o = 3 ∨ o = 4) {w1 : xW} (q : xI (mA o) w w1) (ht : TT w t sz) : TT w1 t sz := TT_I q ht (by unfold mA; omega) (by unfold mA; omega) (by unfold mA; omega) (by unfold mA; omega)
theorem c23_f (h : SH w) (ht : TT w t sz) (hn : n ≤ sz) (hf : f ≤ n) (h1 : x_i w 3 1 = nI n) (hq : ∀ w', xI (mA 3) w w' → nxC 3 (n, f + 1, if f = n then 20001 else wv t f n) w' → Q (.inl none) w') :
    ((¬ nI f = (x_i (x_si w 3 2 (nI f + 1)) 3 1) → (x_k w 3 = 5) ∧ x_R x_prog scr 27 0 [some (.ref 3), some (.int (nI f)), none, none, none] [] (x_si w 3 2 (nI f + 1)) (x_back x_prog 23 105 108 [some (.ref 3), some (.int (nI f))] [.ref 3] (fun pc L st w => x_R x_prog scr 23 pc L st w Q))) ∧ (¬ (¬ nI f = (x_i (x_si w 3 2 (nI f + 1)) 3 1)) → x_R x_prog scr 23 108 [some (.ref 3), some (.int (nI f))] [.int 20001, .ref 3] (x_si w 3 2 (nI f + 1)) Q)) := by
  have t1 := ht.1
  have e1 : x_i (x_si w 3 2 (nI f + 1)) 3 1 = nI n := by simp [y_i_si, h1]
  have hF : xI (mA 3) w (x_si w 3 2 (nI f + 1)) := xI_si xI_rf ⟨rfl, Or.inr (Or.inl rfl)⟩
  rw [e1, nI_eq (by omega) (by omega)]
  refine ⟨fun z => ⟨by rw [sh_k h]; rfl, c27 (sh_si h) (TT_si ht (by omega) (by omega) (by omega) (by omega)) hn (by omega) e1 (b23_108 ⟨Or.inl (by rw [y_k_si, sh_k h]; rfl), hq _ (xI_si hF ⟨rfl, Or.inr (Or.inr rfl)⟩) ⟨?_, ?_, ?_⟩⟩)⟩, fun z => b23_108 ⟨Or.inl (by rw [y_k_si, sh_k h]; rfl), hq _ (xI_si hF ⟨rfl, Or.inr (Or.inr rfl)⟩) ⟨?_, ?_, ?_⟩⟩⟩
  · simp [y_i_si, h1]
  · simp [y_i_si, nI_1]
  · rw [if_neg z]; simp [y_i_si]
  · simp [y_i_si, h1]
  · simp [y_i_si, nI_1]
  · rw [if_pos (Classical.not_not.mp z)]; simp [y_i_si]; rfl
theorem c23_b (hf : f ≤ sz) : ∀ (d n : Nat) (w : xW), SH w → TT w t sz → n + d = sz → f ≤ n → x_i w 3 1 = nI n →
    (∀ w', xI (mA 3) w w' → nxC 3 (skp (fun k => !gv (t k)) d n, f + 1, if f = skp (fun k => !gv (t k)) d n then 20001 else wv t f (skp (fun k => !gv (t k)) d n)) w' → Q (.inl none) w') →
    x_R x_prog scr 23 43 [some (.ref 3), some (.int (nI f))] [] w Q := by
  intro d
  induction d with
  | zero =>
    intro n w h ht hn hfn h1 hq
    have t1 := ht.1
    refine b23_43 ?_
    simp only [h1, sh_k h, sh_l h, sh_n h, kk3, sr3_0 h, kk1, sr1_0 h, true_and, and_true, false_and, and_false, and_self, not_false_eq_true, not_true_eq_false, true_implies, false_implies, implies_true, true_or, or_true, or_self, if_true, if_false, Nat.reduceEqDiff, reduceIte, eq_self, show ¬ (1 = 0) by omega]
    refine c24 h ht (b23_54 ⟨fun _ => ?_, fun z => absurd (nI_le (by omega) (by omega)) z⟩)
    have := c23_f (scr := scr) (Q := Q) h ht (by omega) hfn h1 hq
    simp only [sh_k h, sh_l h, sh_n h, kk3, sr3_0 h, true_and, and_true, false_and, and_false, and_self, not_false_eq_true, not_true_eq_false, true_implies, false_implies, implies_true, true_or, or_true, or_self, if_true, if_false, Nat.reduceEqDiff, reduceIte, eq_self] at this ⊢
    exact this
  | succ d ih =>
    intro n w h ht hn hfn h1 hq
    have t1 := ht.1
    refine b23_43 ?_
    simp only [h1, sh_k h, sh_l h, sh_n h, kk3, sr3_0 h, kk1, sr1_0 h, true_and, and_true, false_and, and_false, and_self, not_false_eq_true, not_true_eq_false, true_implies, false_implies, implies_true, true_or, or_true, or_self, if_true, if_false, Nat.reduceEqDiff, reduceIte, eq_self, show ¬ (1 = 0) by omega]
    refine c24 h ht (b23_54 ⟨fun z => absurd z (nI_ge (by omega) (by omega)), fun _ => ?_⟩)
    simp only [h1, sh_k h, sh_l h, sh_n h, kk3, sr3_0 h, kk1, sr1_0 h, true_and, and_true, false_and, and_false, and_self, not_false_eq_true, not_true_eq_false, true_implies, false_implies, implies_true, true_or, or_true, or_self, if_true, if_false, Nat.reduceEqDiff, reduceIte, eq_self, show ¬ (1 = 0) by omega]
    refine c25 h ht (by omega) (b23_65 ?_)
    cases hg : gv (t n) with
    | true =>
      refine ⟨fun _ => ?_, fun z => absurd (by decide) z⟩
      have e : skp (fun k => !gv (t k)) (d + 1) n = n := by unfold skp; simp [hg]
      rw [e] at hq
      have := c23_f (scr := scr) (Q := Q) h ht (by omega) hfn h1 hq
      simp only [sh_k h, sh_l h, sh_n h, kk3, sr3_0 h, true_and, and_true, false_and, and_false, and_self, not_false_eq_true, not_true_eq_false, true_implies, false_implies, implies_true, true_or, or_true, or_self, if_true, if_false, Nat.reduceEqDiff, reduceIte, eq_self] at this ⊢
      exact this
    | false =>
      refine ⟨fun z => absurd rfl z, fun _ => ?_⟩
      have e : skp (fun k => !gv (t k)) (d + 1) n = skp (fun k => !gv (t k)) d (n + 1) := by conv => lhs; unfold skp; simp [hg]
      rw [e] at hq
      simp only [h1, nI_1, sh_k h, sh_l h, sh_n h, kk3, sr3_0 h, kk1, sr1_0 h, true_and, and_true, false_and, and_false, and_self, not_false_eq_true, not_true_eq_false, true_implies, false_implies, implies_true, true_or, or_true, or_self, if_true, if_false, Nat.reduceEqDiff, reduceIte, eq_self]
      have hF : xI (mA 3) w (x_si w 3 1 (nI (n + 1))) := xI_si xI_rf ⟨rfl, Or.inl rfl⟩
      exact ih (n + 1) _ (sh_si h) (TT_si ht (by omega) (by omega) (by omega) (by omega)) (by omega) (by omega) (by simp [y_i_si]) (fun w' q1 q2 => hq w' (xI_tr hF q1) q2)
/-- Words.advance -/
theorem c23 (h : SH w) (ht : TT w t sz) (ha : a ≤ sz) (h1 : x_i w 3 1 = nI a) (hq : ∀ w', xI (mA 3) w w' → nxC 3 (nxt false t sz a) w' → Q (.inl none) w') : x_R x_prog scr 23 0 [some (.ref 3), o1] [] w Q := by
  have key : ∀ (d n : Nat) (w : xW) (o1 : Option Value), SH w → TT w t sz → n + d = sz → x_i w 3 1 = nI n →
      (∀ F, F = skp (fun k => gv (t k)) d n → ∀ w', xI (mA 3) w w' → nxC 3 (skp (fun k => !gv (t k)) (sz - F) F, F + 1, if F = skp (fun k => !gv (t k)) (sz - F) F then 20001 else wv t F (skp (fun k => !gv (t k)) (sz - F) F)) w' → Q (.inl none) w') →
      x_R x_prog scr 23 0 [some (.ref 3), o1] [] w Q := by
    intro d
    induction d with
    | zero =>
      intro n w o1 h ht hn h1 hq
      have t1 := ht.1
      refine b23_0 ?_
      simp only [h1, sh_k h, sh_l h, sh_n h, kk3, sr3_0 h, kk1, sr1_0 h, true_and, and_true, false_and, and_false, and_self, not_false_eq_true, not_true_eq_false, true_implies, false_implies, implies_true, true_or, or_true, or_self, if_true, if_false, Nat.reduceEqDiff, reduceIte, eq_self, show ¬ (1 = 0) by omega]
      refine c24 h ht (b23_11 ⟨fun _ => ?_, fun z => absurd (nI_le (by omega) (by omega)) z⟩)
      simp only [h1, sh_k h, sh_l h, sh_n h, kk3, sr3_0 h, kk1, sr1_0 h, true_and, and_true, false_and, and_false, and_self, not_false_eq_true, not_true_eq_false, true_implies, false_implies, implies_true, true_or, or_true, or_self, if_true, if_false, Nat.reduceEqDiff, reduceIte, eq_self]
      exact c23_b (by omega) (sz - n) n w h ht (by omega) (Nat.le_refl _) h1 (hq n rfl)
    | succ d ih =>
      intro n w o1 h ht hn h1 hq
      have t1 := ht.1
      refine b23_0 ?_
      simp only [h1, sh_k h, sh_l h, sh_n h, kk3, sr3_0 h, kk1, sr1_0 h, true_and, and_true, false_and, and_false, and_self, not_false_eq_true, not_true_eq_false, true_implies, false_implies, implies_true, true_or, or_true, or_self, if_true, if_false, Nat.reduceEqDiff, reduceIte, eq_self, show ¬ (1 = 0) by omega]
      refine c24 h ht (b23_11 ⟨fun z => absurd z (nI_ge (by omega) (by omega)), fun _ => ?_⟩)
      simp only [h1, sh_k h, sh_l h, sh_n h, kk3, sr3_0 h, kk1, sr1_0 h, true_and, and_true, false_and, and_false, and_self, not_false_eq_true, not_true_eq_false, true_implies, false_implies, implies_true, true_or, or_true, or_self, if_true, if_false, Nat.reduceEqDiff, reduceIte, eq_self]
      refine c25 h ht (by omega) (b23_22 ?_)
      cases hg : gv (t n) with
      | false =>
        refine ⟨fun _ => ?_, fun z => absurd rfl z⟩
        simp only [h1, sh_k h, sh_l h, sh_n h, kk3, sr3_0 h, kk1, sr1_0 h, true_and, and_true, false_and, and_false, and_self, not_false_eq_true, not_true_eq_false, true_implies, false_implies, implies_true, true_or, or_true, or_self, if_true, if_false, Nat.reduceEqDiff, reduceIte, eq_self]
        exact c23_b (by omega) (sz - n) n w h ht (by omega) (Nat.le_refl _) h1 (hq n (by unfold skp; simp [hg]))
      | true =>
        refine ⟨fun z => absurd z (by decide), fun _ => ?_⟩
        simp only [h1, nI_1, sh_k h, sh_l h, sh_n h, kk3, sr3_0 h, kk1, sr1_0 h, true_and, and_true, false_and, and_false, and_self, not_false_eq_true, not_true_eq_false, true_implies, false_implies, implies_true, true_or, or_true, or_self, if_true, if_false, Nat.reduceEqDiff, reduceIte, eq_self]
        have hF : xI (mA 3) w (x_si w 3 1 (nI (n + 1))) := xI_si xI_rf ⟨rfl, Or.inl rfl⟩
        exact ih (n + 1) _ _ (sh_si h) (TT_si ht (by omega) (by omega) (by omega) (by omega)) (by omega) (by simp [y_i_si]) (fun F hFe w' q1 q2 => hq F (by rw [hFe]; conv => rhs; unfold skp; simp [hg]) w' (xI_tr hF q1) q2)
  refine key (sz - a) a w o1 h ht (by omega) h1 (fun F hFe w' q1 q2 => hq w' q1 ?_)
  subst hFe
  exact q2
/-- meaning of a packed number -/
theorem c36 {x : Nat} (hx : x < 16384) (hq : Q (.inl (some (.int (iI (pkm x))))) w) : x_R x_prog scr 36 0 [some (.int (nI x))] [] w Q := by
  have g1 : nI x = 1 ↔ x = 1 := nI_eq (b := 1) (by omega) (by omega)
  have e2 : nI x - nI x / 2 * 2 = nI (x % 2) := by
    have a2 : (2 : Int32) = nI 2 := rfl
    rw [nI_div2 (by omega), a2, pk_mul, nI_sub (by omega)]
    congr 1
    omega
  have g2 : nI (x % 2) = 0 ↔ x % 2 = 0 := by rw [← nI_0]; exact nI_eq (by omega) (by omega)
  have n2 : ¬ (2 : Int32) = 0 := by decide
  unfold pkm at hq
  refine b36_0 ?_
  rw [e2, g1, g2, nI_div2 (by omega)]
  refine ⟨fun z => ⟨n2, fun y => ⟨n2, ?_⟩, fun y => ⟨n2, ?_⟩⟩, fun z => ?_⟩
  · rw [if_neg z, if_neg y, ← iI_neg (by omega)] at hq; exact hq
  · rw [if_neg z, if_pos (Classical.not_not.mp y), iI_n] at hq; exact hq
  · rw [if_pos (Classical.not_not.mp z)] at hq; exact hq
/-- PackedNumbers.advance -/
theorem c35 (h : SH w) (ht : TT w t sz) (ha : a ≤ sz) (h1 : x_i w 4 1 = nI a) (hq : ∀ w', xI (mA 4) w w' → nxC 4 (nxt true t sz a) w' → Q (.inl none) w') : x_R x_prog scr 35 0 [some (.ref 4), o1] [] w Q := by
  have hq : ∀ w', xI (mA 4) w w' → nxC 4 (nxP t sz a) w' → Q (.inl none) w' := hq
  obtain ⟨t1, t2, t3, t4, t5, t6⟩ := id ht
  have b1 := t2 a
  have b2 := t2 (a + 1)
  have hF : xI (mA 4) w (x_si w 4 2 (nI (a + 1))) := xI_si xI_rf ⟨rfl, Or.inr (Or.inl rfl)⟩
  have ht1 : TT (x_si w 4 2 (nI (a + 1))) t sz := TT_si ht (by omega) (by omega) (by omega) (by omega)
  have u1 : x_i (x_si w 4 2 (nI (a + 1))) 4 1 = nI a := by simp [y_i_si, h1]
  have m1 : ∀ x : Nat, x < 256 → ¬ nI x = -1 := by decide +kernel
  have gg : ∀ x : Nat, x < 256 → ((128 : Int32) ≤ nI x ↔ ¬ x < 128) := by decide +kernel
  have gl : ∀ x : Nat, x < 256 → (nI x < (128 : Int32) ↔ x < 128) := by decide +kernel
  refine b35_0 ?_
  simp only [h1, sh_k h, sh_l h, sh_n h, kk4, sr4_0 h, kk1, sr1_0 h, true_and, and_true, false_and, and_false, and_self, not_false_eq_true, not_true_eq_false, true_implies, false_implies, implies_true, true_or, or_true, or_self, if_true, if_false, Nat.reduceEqDiff, reduceIte, eq_self, show ¬ (1 = 0) by omega]
  refine c26 h ht (by omega) (b35_11 ?_)
  simp only [h1, nI_1, sh_k h, sh_l h, sh_n h, kk4, sr4_0 h, kk1, sr1_0 h, true_and, and_true, false_and, and_false, and_self, not_false_eq_true, not_true_eq_false, true_implies, false_implies, implies_true, true_or, or_true, or_self, if_true, if_false, Nat.reduceEqDiff, reduceIte, eq_self]
  by_cases hl : a < sz
  · rw [bAt_in hl]
    refine ⟨fun _ => ?_, fun z => absurd (m1 _ b1) z⟩
    rw [gg _ b1]
    refine ⟨fun z => ?_, fun z => ?_⟩
    · refine b37_0 ?_
      simp only [u1, nI_1, y_k_si, y_r_si, sh_k h, sh_l h, sh_n h, kk4, sr4_0 h, kk1, sr1_0 h, true_and, and_true, false_and, and_false, and_self, not_false_eq_true, not_true_eq_false, true_implies, false_implies, implies_true, true_or, or_true, or_self, if_true, if_false, Nat.reduceEqDiff, reduceIte, eq_self, show ¬ (1 = 0) by omega]
      refine c26 (sh_si h) ht1 (by omega) (b37_13 ?_)
      by_cases hl2 : a + 1 < sz
      · rw [bAt_in hl2]
        refine ⟨fun _ => ?_, fun z => absurd (m1 _ b2) z⟩
        rw [gl _ b2]
        refine ⟨fun y => ?_, fun y => ⟨by rw [y_k_si, sh_k h]; rfl, b35_70 (hq _ (xI_si hF ⟨rfl, Or.inr (Or.inr rfl)⟩) ?_)⟩⟩
        · have e5 : nI (t a) - 128 + 128 * nI (t (a + 1)) = nI (t a - 128 + 128 * t (a + 1)) := by
            rw [show (128 : Int32) = nI 128 from rfl, nI_sub (by omega), pk_mul, nI_add]
          rw [e5]
          refine c36 (by omega) (b37_74 ?_)
          simp only [y_k_si, sh_k h, sh_l h, sh_n h, kk4, sr4_0 h, true_and, and_true, false_and, and_false, and_self, not_false_eq_true, not_true_eq_false, true_implies, false_implies, implies_true, true_or, or_true, or_self, if_true, if_false, Nat.reduceEqDiff, reduceIte, eq_self]
          refine b35_70 (hq _ (xI_si (xI_si hF ⟨rfl, Or.inr (Or.inr rfl)⟩) ⟨rfl, Or.inl rfl⟩) ?_)
          unfold nxP
          rw [if_neg (by omega), if_neg z, if_neg (by omega), if_neg (by omega)]
          have e6 : nI a + 2 = nI (a + 2) := nI_add a 2
          refine ⟨?_, ?_, ?_⟩ <;> simp [y_i_si, h1, e6]
        · unfold nxP
          rw [if_neg (by omega), if_neg z, if_neg (by omega), if_pos (by omega)]
          refine ⟨?_, ?_, ?_⟩
          · simp [y_i_si, h1]
          · simp [y_i_si]
          · simp [y_i_si]; rfl
      · have e : bAt t sz (a + 1) = -1 := if_neg hl2
        rw [e]
        refine ⟨fun z => absurd rfl z, fun _ => ?_⟩
        simp only [y_k_si, y_r_si, sh_k h, sh_l h, sh_n h, kk4, sr4_0 h, kk1, sr1_0 h, true_and, and_true, false_and, and_false, and_self, not_false_eq_true, not_true_eq_false, true_implies, false_implies, implies_true, true_or, or_true, or_self, if_true, if_false, Nat.reduceEqDiff, reduceIte, eq_self, show ¬ (1 = 0) by omega]
        refine c24 (sh_si h) ht1 (b37_27 ?_)
        simp only [y_k_si, nI_1, sh_k h, sh_l h, sh_n h, kk4, sr4_0 h, true_and, and_true, false_and, and_false, and_self, not_false_eq_true, not_true_eq_false, true_implies, false_implies, implies_true, true_or, or_true, or_self, if_true, if_false, Nat.reduceEqDiff, reduceIte, eq_self]
        refine b35_70 (hq _ (xI_si (xI_si hF ⟨rfl, Or.inr (Or.inl rfl)⟩) ⟨rfl, Or.inr (Or.inr rfl)⟩) ?_)
        unfold nxP
        rw [if_neg (by omega), if_neg z, if_pos (by omega)]
        refine ⟨?_, ?_, ?_⟩
        · simp [y_i_si, h1]
        · simp [y_i_si]
        · simp [y_i_si]; rfl
    · have z := Classical.not_not.mp z
      refine c36 (by omega) (b35_49 ?_)
      simp only [y_k_si, sh_k h, sh_l h, sh_n h, kk4, sr4_0 h, true_and, and_true, false_and, and_false, and_self, not_false_eq_true, not_true_eq_false, true_implies, false_implies, implies_true, true_or, or_true, or_self, if_true, if_false, Nat.reduceEqDiff, reduceIte, eq_self]
      refine b35_70 (hq _ (xI_si (xI_si hF ⟨rfl, Or.inr (Or.inr rfl)⟩) ⟨rfl, Or.inl rfl⟩) ?_)
      unfold nxP
      rw [if_neg (by omega), if_pos z]
      refine ⟨?_, ?_, ?_⟩ <;> simp [y_i_si, h1, nI_1]
  · have e : bAt t sz a = -1 := if_neg hl
    rw [e]
    refine ⟨fun z => absurd rfl z, fun _ => b35_70 (hq _ (xI_si hF ⟨rfl, Or.inr (Or.inr rfl)⟩) ?_)⟩
    unfold nxP
    rw [if_pos (by omega)]
    refine ⟨?_, ?_, ?_⟩
    · simp [y_i_si, h1]
    · simp [y_i_si]
    · simp [y_i_si]; rfl
/-- is the latest word this one? -/
theorem c29_l {T : Nat} {cs : List Nat} (hT : T = 0 ∨ T = 1) (hcs : x_prog.2.2.2.2.2.1 T = cs.map nI) (hb : ∀ c ∈ cs, c < 256) (h : SH w) (ht : TT w t sz) (hn : f + cs.length ≤ sz) : ∀ (d i : Nat), i + d = cs.length →
    Q (.inl (some (.int (b32 (decide (∀ j, j < cs.length → i ≤ j → t (f + j) = cs.getD j 0)))))) w → x_R x_prog scr 29 24 [some (.ref 3), some (.ref (x_tx + T)), some (.int (nI f)), some (.int (nI i))] [] w Q := by
  have t1 := ht.1
  have eT : x_tx + T - x_tx = T := Nat.add_sub_cancel_left _ _
  have hl : Int32.ofNat (cs.map nI).length = nI cs.length := by rw [List.length_map]; rfl
  intro d
  induction d with
  | zero =>
    intro i hi hq
    have hc : nI cs.length ≤ nI i := nI_le (by omega) (by omega)
    refine b29_24 ⟨⟨Nat.le_add_right _ _, Nat.add_lt_add_left (by omega) _⟩, ?_⟩
    rw [eT, hcs, hl]
    refine ⟨fun _ => ⟨Or.inr rfl, ?_⟩, fun z => absurd hc z⟩
    rw [decide_eq_true (fun j h2 h1 => by omega)] at hq; exact hq
  | succ d ih =>
    intro i hi hq
    have hc : ¬ nI cs.length ≤ nI i := nI_ge (by omega) (by omega)
    refine b29_24 ⟨⟨Nat.le_add_right _ _, Nat.add_lt_add_left (by omega) _⟩, ?_⟩
    rw [eT, hcs, hl]
    refine ⟨fun z => absurd z hc, fun _ => ?_⟩
    simp only [sh_k h, sh_l h, sh_n h, kk3, sr3_0 h, kk1, sr1_0 h, true_and, and_true, false_and, and_false, and_self, not_false_eq_true, not_true_eq_false, true_implies, false_implies, implies_true, true_or, or_true, or_self, if_true, if_false, Nat.reduceEqDiff, reduceIte, eq_self, show ¬ (1 = 0) by omega, nI_add]
    refine c26 h ht (by omega) ?_
    rw [bAt_in (by omega)]
    have hv : vp_in (nI i) (cs.map nI).length := by rw [List.length_map]; exact vp_in_nI (by omega) (by omega)
    refine b29_42 ⟨⟨Nat.le_add_right _ _, Nat.add_lt_add_left (by omega) _, ?_⟩, ?_⟩
    · rw [eT, hcs]; exact hv
    rw [eT, hcs, nI_clamp (by omega)]
    have hi2 : i < cs.length := by omega
    have eg : (cs.map nI).getD i 0 = nI (cs.getD i 0) := by
      rw [List.getD_eq_getElem?_getD, List.getD_eq_getElem?_getD, List.getElem?_map, List.getElem?_eq_getElem hi2]; rfl
    have hci : cs.getD i 0 < 256 := by
      rw [List.getD_eq_getElem?_getD, List.getElem?_eq_getElem hi2]; exact hb _ (List.getElem_mem hi2)
    have t2i := ht.2.1 (f + i)
    rw [eg, nI_eq (by omega) (by omega), nI_1]
    refine ⟨fun z => ih (i + 1) (by omega) ?_, fun z => ⟨Or.inl rfl, ?_⟩⟩
    · have e : (∀ j, j < cs.length → i ≤ j → t (f + j) = cs.getD j 0) ↔ (∀ j, j < cs.length → i + 1 ≤ j → t (f + j) = cs.getD j 0) := by
        constructor
        · intro q j h2 h1; exact q j h2 (by omega)
        · intro q j h2 h1
          by_cases e : j = i
          · subst e; exact z
          · exact q j h2 (by omega)
      rw [decide_eq_decide.mpr e] at hq
      exact hq
    · rw [decide_eq_false (fun q => z (q i hi2 (Nat.le_refl _)))] at hq; exact hq
theorem c29 {T : Nat} {cs : List Nat} (hT : T = 0 ∨ T = 1) (hcs : x_prog.2.2.2.2.2.1 T = cs.map nI) (hb : ∀ c ∈ cs, c < 256) (hl4 : cs.length ≤ 4) (h : SH w) (ht : TT w t sz) (h1 : x_i w 3 1 = nI n) (h2 : x_i w 3 2 = nI (f + 1)) (hf : f ≤ n) (hn : n ≤ sz)
    (hq : Q (.inl (some (.int (b32 (decide (n = f + cs.length ∧ ∀ j, j < cs.length → 0 ≤ j → t (f + j) = cs.getD j 0)))))) w) : x_R x_prog scr 29 0 [some (.ref 3), some (.ref (x_tx + T)), o2, o3] [] w Q := by
  have t1 := ht.1
  have eT : x_tx + T - x_tx = T := Nat.add_sub_cancel_left _ _
  have hl : Int32.ofNat (cs.map nI).length = nI cs.length := by rw [List.length_map]; rfl
  have hk : x_k w 3 = 5 := by rw [sh_k h]; rfl
  refine b29_0 ⟨Or.inl hk, Or.inl hk, ⟨Nat.le_add_right _ _, Nat.add_lt_add_left (by omega) _⟩, ?_⟩
  rw [eT, hcs, hl, h1, h2, nI_pred, nI_sub hf, nI_eq (by omega) (by omega)]
  refine ⟨fun z => c29_l hT hcs hb h ht (by omega) cs.length 0 (by omega) ?_, fun z => ⟨Or.inl rfl, ?_⟩⟩
  · have e : (n = f + cs.length ∧ ∀ j, j < cs.length → 0 ≤ j → t (f + j) = cs.getD j 0) ↔ (∀ j, j < cs.length → 0 ≤ j → t (f + j) = cs.getD j 0) := ⟨fun q => q.2, fun q => ⟨by omega, q⟩⟩
    rw [decide_eq_decide.mpr e] at hq
    exact hq
  · rw [decide_eq_false (fun q => z (by omega))] at hq; exact hq
end X36
