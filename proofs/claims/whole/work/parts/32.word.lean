/-! Worlds that were written, frames; the words of the text, on the reference's side. -/
theorem y_i_si (w : xW) (o k : Nat) (v : Int32) (a b : Nat) : x_i (x_si w o k v) a b = if a = o ∧ b = k then v else x_i w a b := x_up_at _ _ _ _ _ _
theorem y_j_si (w : xW) (o k : Nat) (v : Int32) : x_j (x_si w o k v) = x_j w := id rfl
theorem y_r_si (w : xW) (o k : Nat) (v : Int32) : x_r (x_si w o k v) = x_r w := id rfl
theorem y_k_si (w : xW) (o k : Nat) (v : Int32) : x_k (x_si w o k v) = x_k w := id rfl
theorem y_l_si (w : xW) (o k : Nat) (v : Int32) : x_l (x_si w o k v) = x_l w := id rfl
theorem y_N_si (w : xW) (o k : Nat) (v : Int32) : x_N (x_si w o k v) = x_N w := id rfl
theorem y_j_sj (w : xW) (o k : Nat) (v : Int64) (a b : Nat) : x_j (x_sj w o k v) a b = if a = o ∧ b = k then v else x_j w a b := x_up_at _ _ _ _ _ _
theorem y_i_sj (w : xW) (o k : Nat) (v : Int64) : x_i (x_sj w o k v) = x_i w := id rfl
theorem y_r_sj (w : xW) (o k : Nat) (v : Int64) : x_r (x_sj w o k v) = x_r w := id rfl
theorem y_k_sj (w : xW) (o k : Nat) (v : Int64) : x_k (x_sj w o k v) = x_k w := id rfl
theorem y_l_sj (w : xW) (o k : Nat) (v : Int64) : x_l (x_sj w o k v) = x_l w := id rfl
theorem y_N_sj (w : xW) (o k : Nat) (v : Int64) : x_N (x_sj w o k v) = x_N w := id rfl
theorem y_r_sr (w : xW) (o k : Nat) (v : Nat) (a b : Nat) : x_r (x_sr w o k v) a b = if a = o ∧ b = k then v else x_r w a b := x_up_at _ _ _ _ _ _
theorem y_i_sr (w : xW) (o k : Nat) (v : Nat) : x_i (x_sr w o k v) = x_i w := id rfl
theorem y_j_sr (w : xW) (o k : Nat) (v : Nat) : x_j (x_sr w o k v) = x_j w := id rfl
theorem y_k_sr (w : xW) (o k : Nat) (v : Nat) : x_k (x_sr w o k v) = x_k w := id rfl
theorem y_l_sr (w : xW) (o k : Nat) (v : Nat) : x_l (x_sr w o k v) = x_l w := id rfl
theorem y_N_sr (w : xW) (o k : Nat) (v : Nat) : x_N (x_sr w o k v) = x_N w := id rfl
/-- an int by its number -/
def iI (v : Int) : Int32 := Int32.ofInt v
theorem iI_toInt {v : Int} (h : -2147483648 ≤ v) (h2 : v < 2147483648) : (iI v).toInt = v := Int32.toInt_ofInt_of_le h h2
theorem iI_n (n : Nat) : iI (n : Int) = nI n := Int32.ofInt_eq_ofNat
theorem nI_sub {a b : Nat} (h : b ≤ a) : nI a - nI b = nI (a - b) := by
  have e : nI a = nI (a - b) + nI b := by rw [nI_add, Nat.sub_add_cancel h]
  rw [e, Int32.add_sub_cancel]
theorem iI_eq {a b : Int} (h1 : -2147483648 ≤ a) (h2 : a < 2147483648) (h3 : -2147483648 ≤ b) (h4 : b < 2147483648) : iI a = iI b ↔ a = b := by
  rw [← Int32.toInt_inj, iI_toInt h1 h2, iI_toInt h3 h4]
theorem b32_t : b32 true = 1 := rfl
theorem b32_f : b32 false = 0 := rfl
/-- only the places of mi (ints), mj (longs), mr (refs) are written -/
def xF (mi mj mr : Nat → Nat → Prop) (w w' : xW) : Prop := (x_N w' = x_N w ∧ x_C w' = x_C w ∧ x_S w' = x_S w ∧ x_k w' = x_k w ∧ x_l w' = x_l w) ∧ (∀ o k, ¬ mi o k → x_i w' o k = x_i w o k) ∧ (∀ o k, ¬ mj o k → x_j w' o k = x_j w o k) ∧ (∀ o k, ¬ mr o k → x_r w' o k = x_r w o k)
def x_no : Nat → Nat → Prop := fun _ _ => False
def xI (m : Nat → Nat → Prop) (w w' : xW) : Prop := xF m x_no x_no w w'
theorem xF_rf {mi mj mr : Nat → Nat → Prop} {w : xW} : xF mi mj mr w w := ⟨⟨rfl, rfl, rfl, rfl, rfl⟩, fun _ _ _ => rfl, fun _ _ _ => rfl, fun _ _ _ => rfl⟩
theorem xF_tr {mi mj mr : Nat → Nat → Prop} {w w1 w2 : xW} (h : xF mi mj mr w w1) (g : xF mi mj mr w1 w2) : xF mi mj mr w w2 :=
  ⟨⟨g.1.1.trans h.1.1, g.1.2.1.trans h.1.2.1, g.1.2.2.1.trans h.1.2.2.1, g.1.2.2.2.1.trans h.1.2.2.2.1, g.1.2.2.2.2.trans h.1.2.2.2.2⟩, fun o k q => (g.2.1 o k q).trans (h.2.1 o k q), fun o k q => (g.2.2.1 o k q).trans (h.2.2.1 o k q), fun o k q => (g.2.2.2 o k q).trans (h.2.2.2 o k q)⟩
theorem xF_w {mi mj mr ni nj nr : Nat → Nat → Prop} {w w1 : xW} (h : xF mi mj mr w w1) (hi : ∀ o k, mi o k → ni o k) (hj : ∀ o k, mj o k → nj o k) (hr : ∀ o k, mr o k → nr o k) : xF ni nj nr w w1 :=
  ⟨h.1, fun o k q => h.2.1 o k fun z => q (hi o k z), fun o k q => h.2.2.1 o k fun z => q (hj o k z), fun o k q => h.2.2.2 o k fun z => q (hr o k z)⟩
theorem xI_w {mi ni : Nat → Nat → Prop} {w w1 : xW} (h : xI mi w w1) (hi : ∀ o k, mi o k → ni o k) : xI ni w w1 := xF_w h hi (fun _ _ z => z) (fun _ _ z => z)
theorem xF_si {mi mj mr : Nat → Nat → Prop} {w w1 : xW} {o k : Nat} {v : Int32} (h : xF mi mj mr w w1) (hm : mi o k) : xF mi mj mr w (x_si w1 o k v) := by
  refine xF_tr h ⟨⟨rfl, rfl, rfl, rfl, rfl⟩, fun a b q => ?_, fun _ _ _ => rfl, fun _ _ _ => rfl⟩
  rw [y_i_si, if_neg]
  rintro ⟨rfl, rfl⟩
  exact q hm
theorem xF_sj {mi mj mr : Nat → Nat → Prop} {w w1 : xW} {o k : Nat} {v : Int64} (h : xF mi mj mr w w1) (hm : mj o k) : xF mi mj mr w (x_sj w1 o k v) := by
  refine xF_tr h ⟨⟨rfl, rfl, rfl, rfl, rfl⟩, fun _ _ _ => rfl, fun a b q => ?_, fun _ _ _ => rfl⟩
  rw [y_j_sj, if_neg]
  rintro ⟨rfl, rfl⟩
  exact q hm
theorem xF_sr {mi mj mr : Nat → Nat → Prop} {w w1 : xW} {o k : Nat} {v : Nat} (h : xF mi mj mr w w1) (hm : mr o k) : xF mi mj mr w (x_sr w1 o k v) := by
  refine xF_tr h ⟨⟨rfl, rfl, rfl, rfl, rfl⟩, fun _ _ _ => rfl, fun _ _ _ => rfl, fun a b q => ?_⟩
  rw [y_r_sr, if_neg]
  rintro ⟨rfl, rfl⟩
  exact q hm
theorem xI_rf {m : Nat → Nat → Prop} {w : xW} : xI m w w := xF_rf
theorem xI_tr {m : Nat → Nat → Prop} {w w1 w2 : xW} (h : xI m w w1) (g : xI m w1 w2) : xI m w w2 := xF_tr h g
theorem xI_si {m : Nat → Nat → Prop} {w w1 : xW} {o k : Nat} {v : Int32} (h : xI m w w1) (hm : m o k) : xI m w (x_si w1 o k v) := xF_si h hm
theorem xI_i {m : Nat → Nat → Prop} {w w1 : xW} (h : xI m w w1) (o k : Nat) (hm : ¬ m o k) : x_i w1 o k = x_i w o k := h.2.1 o k hm
theorem xI_c {m : Nat → Nat → Prop} {w w1 : xW} (h : xI m w w1) (o : Nat) (hm : ∀ k, ¬ m o k) : x_i w1 o = x_i w o := funext fun k => h.2.1 o k (hm k)
theorem xI_j {m : Nat → Nat → Prop} {w w1 : xW} (h : xI m w w1) : x_j w1 = x_j w := funext fun o => funext fun k => h.2.2.1 o k fun z => z
theorem xI_r {m : Nat → Nat → Prop} {w w1 : xW} (h : xI m w w1) : x_r w1 = x_r w := funext fun o => funext fun k => h.2.2.2 o k fun z => z
theorem sh_I {m : Nat → Nat → Prop} {w w1 : xW} (h : xI m w w1) (s : SH w) : SH w1 := by
  refine ⟨h.1.1.trans s.1, h.1.2.2.2.1.trans s.2.1, h.1.2.2.2.2.trans s.2.2.1, ?_⟩
  rw [xI_r h]
  exact s.2.2.2
theorem sh_si {w : xW} {o k : Nat} {v : Int32} (s : SH w) : SH (x_si w o k v) := s
/-- how far p goes on from a, at the most d places -/
def skp (p : Nat → Bool) : Nat → Nat → Nat
  | 0, a => a
  | d + 1, a => if p a = true then skp p d (a + 1) else a
theorem skp_ge (p : Nat → Bool) : ∀ d a, a ≤ skp p d a
  | 0, a => Nat.le_refl _
  | d + 1, a => by
    unfold skp
    split
    · exact Nat.le_trans (Nat.le_succ a) (skp_ge p d (a + 1))
    · exact Nat.le_refl _
theorem skp_le (p : Nat → Bool) : ∀ d a, skp p d a ≤ a + d
  | 0, a => Nat.le_refl _
  | d + 1, a => by
    unfold skp
    split
    · have := skp_le p d (a + 1)
      omega
    · omega
theorem skp_in (p : Nat → Bool) : ∀ d a k, a ≤ k → k < skp p d a → p k = true
  | 0, a, k, h1, h2 => absurd h2 (by unfold skp; omega)
  | d + 1, a, k, h1, h2 => by
    unfold skp at h2
    split at h2
    · rename_i h3
      by_cases e : k = a
      · subst e; exact h3
      · exact skp_in p d (a + 1) k (by omega) h2
    · omega
theorem skp_end (p : Nat → Bool) : ∀ d a, skp p d a < a + d → p (skp p d a) = false
  | 0, a, h => absurd h (by unfold skp; omega)
  | d + 1, a, h => by
    unfold skp at h ⊢
    split at h
    · rename_i h3
      rw [if_pos h3]
      exact skp_end p d (a + 1) (by omega)
    · rename_i h3
      rw [if_neg h3]
      exact Bool.eq_false_iff.mpr h3
/-- is a byte a gap? -/
def gv (x : Nat) : Bool := decide (x = 32) || decide (x = 10)
/-- where the next word begins and ends -/
def wF (t : Nat → Nat) (sz a : Nat) : Nat := skp (fun k => gv (t k)) (sz - a) a
def wN (t : Nat → Nat) (sz a : Nat) : Nat := skp (fun k => !gv (t k)) (sz - wF t sz a) (wF t sz a)
theorem wF_ge {t : Nat → Nat} {sz a : Nat} : a ≤ wF t sz a := skp_ge _ _ _
theorem wF_le {t : Nat → Nat} {sz a : Nat} (h : a ≤ sz) : wF t sz a ≤ sz := by
  have := skp_le (fun k => gv (t k)) (sz - a) a
  unfold wF
  omega
theorem wN_ge {t : Nat → Nat} {sz a : Nat} : wF t sz a ≤ wN t sz a := skp_ge _ _ _
theorem wN_le {t : Nat → Nat} {sz a : Nat} (h : a ≤ sz) : wN t sz a ≤ sz := by
  have h1 := skp_le (fun k => !gv (t k)) (sz - wF t sz a) (wF t sz a)
  have h2 := wF_le (t := t) h
  unfold wN
  omega
/-- the text, on both sides -/
def TT (w : xW) (t : Nat → Nat) (sz : Nat) : Prop := sz ≤ 900 ∧ (∀ k, t k < 256) ∧ x_i w 1 1 = nI sz ∧ x_i w 36 1 = nI sz ∧ (∀ k, x_i w 2 k = nI (t k)) ∧ (∀ k, x_i w 37 k = nI (t k))
theorem TT_F {mi mj mr : Nat → Nat → Prop} {w w1 : xW} {t : Nat → Nat} {sz : Nat} (h : xF mi mj mr w w1) (ht : TT w t sz) (h1 : ¬ mi 1 1) (h2 : ¬ mi 36 1) (h3 : ∀ k, ¬ mi 2 k) (h4 : ∀ k, ¬ mi 37 k) : TT w1 t sz :=
  ⟨ht.1, ht.2.1, (h.2.1 1 1 h1).trans ht.2.2.1, (h.2.1 36 1 h2).trans ht.2.2.2.1, fun k => (h.2.1 2 k (h3 k)).trans (ht.2.2.2.2.1 k), fun k => (h.2.1 37 k (h4 k)).trans (ht.2.2.2.2.2 k)⟩
theorem TT_I {m : Nat → Nat → Prop} {w w1 : xW} {t : Nat → Nat} {sz : Nat} (h : xI m w w1) (ht : TT w t sz) (h1 : ¬ m 1 1) (h2 : ¬ m 36 1) (h3 : ∀ k, ¬ m 2 k) (h4 : ∀ k, ¬ m 37 k) : TT w1 t sz := TT_F h ht h1 h2 h3 h4
theorem TT_si {w : xW} {t : Nat → Nat} {sz o k : Nat} {v : Int32} (ht : TT w t sz) (h1 : ¬ (o = 1 ∧ k = 1)) (h2 : ¬ (o = 36 ∧ k = 1)) (h3 : ¬ o = 2) (h4 : ¬ o = 37) : TT (x_si w o k v) t sz :=
  TT_I (m := fun a b => a = o ∧ b = k) (xI_si xI_rf ⟨rfl, rfl⟩) ht (fun z => h1 ⟨z.1.symm, z.2.symm⟩) (fun z => h2 ⟨z.1.symm, z.2.symm⟩) (fun _ z => h3 z.1.symm) (fun _ z => h4 z.1.symm)
section X33
variable {scr : Nat × (Nat → Int32)} {w : xW} {Q : xO → xW → Prop} {t : Nat → Nat} {sz a f n : Nat} {o1 o2 o3 o4 : Option Value}
theorem c45 {x : Nat} (hx : x < 256) (hq : Q (.inl (some (.int (b32 (gv x))))) w) : x_R x_prog scr 45 0 [some (.int (nI x))] [] w Q := by
  have e1 : nI x = 32 ↔ x = 32 := nI_eq (b := 32) (by omega) (by omega)
  have e2 : nI x = 10 ↔ x = 10 := nI_eq (b := 10) (by omega) (by omega)
  refine b45_0 ?_
  rw [e1, e2]
  refine ⟨fun h1 => ⟨Or.inr rfl, ?_⟩, fun h1 => ⟨fun h2 => ⟨Or.inl rfl, ?_⟩, fun h2 => ⟨Or.inr rfl, ?_⟩⟩⟩
  · have e : gv x = true := by simp [gv, h1]
    rw [e] at hq; exact hq
  · have e : gv x = false := by simp [gv, h1, h2]
    rw [e] at hq; exact hq
  · have e : gv x = true := by simp [gv, Classical.not_not.mp h2]
    rw [e] at hq; exact hq
/-- the places that word() writes -/
def mW : Nat → Nat → Prop := fun o k => o = 36 ∧ (k = 16 ∨ k = 17)
theorem c44_e (h1 : x_i w 36 16 = nI n) (h2 : x_i w 36 17 = nI f) (hn : n ≤ 900) (hf : f ≤ 900) (hq : Q (.inl (some (.int (b32 (decide (f < n)))))) w) :
    ((x_i w 36 16) ≤ (x_i w 36 17) → Q (.inl (some (.int 0))) w) ∧ (¬ ((x_i w 36 16) ≤ (x_i w 36 17)) → Q (.inl (some (.int 1))) w) := by
  rw [h1, h2, nI_leI (by omega) (by omega)]
  refine ⟨fun h => ?_, fun h => ?_⟩
  · rw [decide_eq_false (by omega : ¬ f < n)] at hq; exact hq
  · rw [decide_eq_true (by omega : f < n)] at hq; exact hq
theorem c44_b (hf : f ≤ 900) : ∀ (d n : Nat) (w : xW), SH w → TT w t sz → n + d = sz → x_i w 36 16 = nI n → x_i w 36 17 = nI f →
    (∀ w', xI mW w w' → x_i w' 36 16 = nI (skp (fun k => !gv (t k)) d n) → x_i w' 36 17 = nI f → Q (.inl (some (.int (b32 (decide (f < skp (fun k => !gv (t k)) d n)))))) w') →
    x_R x_prog scr 44 47 [some (.ref 36)] [] w Q := by
  intro d
  induction d with
  | zero =>
    intro n w h ht hn h1 h2 hq
    have t1 := ht.1
    have t4 := ht.2.2.2.1
    have hc : nI sz ≤ nI n := nI_le (by omega) (by omega)
    refine b44_47 ?_
    simp only [t4, sh_k h, sh_l h, sh_n h, kk36, sr36_2 h, sr36_8 h, sr36_9 h, sr36_12 h, sr36_13 h, sr36_14 h, sr36_15 h, sr36_21 h, sr36_22 h, sr36_23 h, sr36_25 h, sr36_27 h, sr36_28 h, sr36_29 h, sr36_30 h, sr36_31 h, sr36_35 h, sr36_36 h, sr36_37 h, sr36_38 h, sr36_40 h, sr36_41 h, sr36_42 h, sr36_44 h, sr36_45 h, sr36_46 h, sr36_47 h, sr36_48 h, sr36_49 h, sr36_51 h, sr36_52 h, sr36_53 h, sr36_54 h, sr36_55 h, kk37, ll37, true_and, and_true, false_and, and_false, and_self, not_false_eq_true, not_true_eq_false, true_implies, false_implies, implies_true, true_or, or_true, or_self, if_true, if_false, Nat.reduceEqDiff, reduceIte, eq_self]
    refine ⟨fun _ => c44_e h1 h2 (by omega) hf (hq w xI_rf h1 h2), fun z => ?_⟩
    rw [h1] at z
    exact absurd hc z
  | succ d ih =>
    intro n w h ht hn h1 h2 hq
    obtain ⟨t1, t2, -, t4, -, t6⟩ := id ht
    have hc : ¬ nI sz ≤ nI n := nI_ge (by omega) (by omega)
    refine b44_47 ?_
    simp only [t4, h1, t6, nI_clamp (show n < 2 ^ 31 by omega), hc, sh_k h, sh_l h, sh_n h, kk36, sr36_2 h, sr36_8 h, sr36_9 h, sr36_12 h, sr36_13 h, sr36_14 h, sr36_15 h, sr36_21 h, sr36_22 h, sr36_23 h, sr36_25 h, sr36_27 h, sr36_28 h, sr36_29 h, sr36_30 h, sr36_31 h, sr36_35 h, sr36_36 h, sr36_37 h, sr36_38 h, sr36_40 h, sr36_41 h, sr36_42 h, sr36_44 h, sr36_45 h, sr36_46 h, sr36_47 h, sr36_48 h, sr36_49 h, sr36_51 h, sr36_52 h, sr36_53 h, sr36_54 h, sr36_55 h, kk37, ll37, true_and, and_true, false_and, and_false, and_self, not_false_eq_true, not_true_eq_false, true_implies, false_implies, implies_true, true_or, or_true, or_self, if_true, if_false, Nat.reduceEqDiff, reduceIte, eq_self]
    refine ⟨vp_in_nI (by omega) (by omega), c45 (t2 n) ?_⟩
    refine b44_70 ?_
    cases hg : gv (t n) with
    | true =>
      refine ⟨fun _ => ?_, fun z => absurd (by decide) z⟩
      simp only [sh_k h, sh_l h, sh_n h, kk36, sr36_2 h, sr36_8 h, sr36_9 h, sr36_12 h, sr36_13 h, sr36_14 h, sr36_15 h, sr36_21 h, sr36_22 h, sr36_23 h, sr36_25 h, sr36_27 h, sr36_28 h, sr36_29 h, sr36_30 h, sr36_31 h, sr36_35 h, sr36_36 h, sr36_37 h, sr36_38 h, sr36_40 h, sr36_41 h, sr36_42 h, sr36_44 h, sr36_45 h, sr36_46 h, sr36_47 h, sr36_48 h, sr36_49 h, sr36_51 h, sr36_52 h, sr36_53 h, sr36_54 h, sr36_55 h, true_and, and_true, false_and, and_false, and_self, not_false_eq_true, not_true_eq_false, true_implies, false_implies, implies_true, true_or, or_true, or_self, if_true, if_false, Nat.reduceEqDiff, reduceIte, eq_self]
      have e : skp (fun k => !gv (t k)) (d + 1) n = n := by unfold skp; simp [hg]
      rw [e] at hq
      exact c44_e h1 h2 (by omega) hf (hq w xI_rf h1 h2)
    | false =>
      refine ⟨fun z => absurd rfl z, fun _ => ?_⟩
      simp only [h1, nI_1, sh_k h, sh_l h, sh_n h, kk36, sr36_2 h, sr36_8 h, sr36_9 h, sr36_12 h, sr36_13 h, sr36_14 h, sr36_15 h, sr36_21 h, sr36_22 h, sr36_23 h, sr36_25 h, sr36_27 h, sr36_28 h, sr36_29 h, sr36_30 h, sr36_31 h, sr36_35 h, sr36_36 h, sr36_37 h, sr36_38 h, sr36_40 h, sr36_41 h, sr36_42 h, sr36_44 h, sr36_45 h, sr36_46 h, sr36_47 h, sr36_48 h, sr36_49 h, sr36_51 h, sr36_52 h, sr36_53 h, sr36_54 h, sr36_55 h, true_and, and_true, false_and, and_false, and_self, not_false_eq_true, not_true_eq_false, true_implies, false_implies, implies_true, true_or, or_true, or_self, if_true, if_false, Nat.reduceEqDiff, reduceIte, eq_self]
      have e : skp (fun k => !gv (t k)) (d + 1) n = skp (fun k => !gv (t k)) d (n + 1) := by conv => lhs; unfold skp; simp [hg]
      rw [e] at hq
      have hF : xI mW w (x_si w 36 16 (nI (n + 1))) := xI_si xI_rf ⟨rfl, Or.inl rfl⟩
      exact ih (n + 1) _ (sh_si h) (TT_si ht (by omega) (by omega) (by omega) (by omega)) (by omega) (by simp [y_i_si]) (by simp [y_i_si, h2]) (fun w' q1 q2 q3 => hq w' (xI_tr hF q1) q2 q3)
theorem c44 (h : SH w) (ht : TT w t sz) (ha : a ≤ sz) (h1 : x_i w 36 16 = nI a)
    (hq : ∀ w', xI mW w w' → x_i w' 36 16 = nI (wN t sz a) → x_i w' 36 17 = nI (wF t sz a) → Q (.inl (some (.int (b32 (decide (wF t sz a < wN t sz a)))))) w') :
    x_R x_prog scr 44 0 [some (.ref 36)] [] w Q := by
  have key : ∀ (d n : Nat) (w : xW), SH w → TT w t sz → n + d = sz → x_i w 36 16 = nI n →
    (∀ w', xI mW w w' → x_i w' 36 16 = nI (skp (fun k => !gv (t k)) (sz - skp (fun k => gv (t k)) d n) (skp (fun k => gv (t k)) d n)) → x_i w' 36 17 = nI (skp (fun k => gv (t k)) d n) → Q (.inl (some (.int (b32 (decide (skp (fun k => gv (t k)) d n < skp (fun k => !gv (t k)) (sz - skp (fun k => gv (t k)) d n) (skp (fun k => gv (t k)) d n)))))) ) w') →
    x_R x_prog scr 44 0 [some (.ref 36)] [] w Q := by
    intro d
    induction d with
    | zero =>
      intro n w h ht hn h1 hq
      obtain ⟨t1, t2, -, t4, -, t6⟩ := id ht
      have hc : nI sz ≤ nI n := nI_le (by omega) (by omega)
      refine b44_0 ?_
      simp only [t4, h1, hc, sh_k h, sh_l h, sh_n h, kk36, sr36_2 h, sr36_8 h, sr36_9 h, sr36_12 h, sr36_13 h, sr36_14 h, sr36_15 h, sr36_21 h, sr36_22 h, sr36_23 h, sr36_25 h, sr36_27 h, sr36_28 h, sr36_29 h, sr36_30 h, sr36_31 h, sr36_35 h, sr36_36 h, sr36_37 h, sr36_38 h, sr36_40 h, sr36_41 h, sr36_42 h, sr36_44 h, sr36_45 h, sr36_46 h, sr36_47 h, sr36_48 h, sr36_49 h, sr36_51 h, sr36_52 h, sr36_53 h, sr36_54 h, sr36_55 h, kk37, ll37, true_and, and_true, false_and, and_false, and_self, not_false_eq_true, not_true_eq_false, true_implies, false_implies, implies_true, true_or, or_true, or_self, if_true, if_false, Nat.reduceEqDiff, reduceIte, eq_self]
      have e : skp (fun k => gv (t k)) 0 n = n := rfl
      rw [e] at hq
      have hF : xI mW w (x_si w 36 17 (nI n)) := xI_si xI_rf ⟨rfl, Or.inr rfl⟩
      exact c44_b (by omega) (sz - n) n _ (sh_si h) (TT_si ht (by omega) (by omega) (by omega) (by omega)) (by omega) (by simp [y_i_si, h1]) (by simp [y_i_si]) (fun w' q1 q2 q3 => hq w' (xI_tr hF q1) q2 q3)
    | succ d ih =>
      intro n w h ht hn h1 hq
      obtain ⟨t1, t2, -, t4, -, t6⟩ := id ht
      have hc : ¬ nI sz ≤ nI n := nI_ge (by omega) (by omega)
      refine b44_0 ?_
      simp only [t4, h1, t6, nI_clamp (show n < 2 ^ 31 by omega), hc, sh_k h, sh_l h, sh_n h, kk36, sr36_2 h, sr36_8 h, sr36_9 h, sr36_12 h, sr36_13 h, sr36_14 h, sr36_15 h, sr36_21 h, sr36_22 h, sr36_23 h, sr36_25 h, sr36_27 h, sr36_28 h, sr36_29 h, sr36_30 h, sr36_31 h, sr36_35 h, sr36_36 h, sr36_37 h, sr36_38 h, sr36_40 h, sr36_41 h, sr36_42 h, sr36_44 h, sr36_45 h, sr36_46 h, sr36_47 h, sr36_48 h, sr36_49 h, sr36_51 h, sr36_52 h, sr36_53 h, sr36_54 h, sr36_55 h, kk37, ll37, true_and, and_true, false_and, and_false, and_self, not_false_eq_true, not_true_eq_false, true_implies, false_implies, implies_true, true_or, or_true, or_self, if_true, if_false, Nat.reduceEqDiff, reduceIte, eq_self]
      refine ⟨vp_in_nI (by omega) (by omega), c45 (t2 n) ?_⟩
      refine b44_23 ?_
      cases hg : gv (t n) with
      | false =>
        refine ⟨fun _ => ?_, fun z => absurd rfl z⟩
        simp only [h1, sh_k h, sh_l h, sh_n h, kk36, sr36_2 h, sr36_8 h, sr36_9 h, sr36_12 h, sr36_13 h, sr36_14 h, sr36_15 h, sr36_21 h, sr36_22 h, sr36_23 h, sr36_25 h, sr36_27 h, sr36_28 h, sr36_29 h, sr36_30 h, sr36_31 h, sr36_35 h, sr36_36 h, sr36_37 h, sr36_38 h, sr36_40 h, sr36_41 h, sr36_42 h, sr36_44 h, sr36_45 h, sr36_46 h, sr36_47 h, sr36_48 h, sr36_49 h, sr36_51 h, sr36_52 h, sr36_53 h, sr36_54 h, sr36_55 h, true_and, and_true, false_and, and_false, and_self, not_false_eq_true, not_true_eq_false, true_implies, false_implies, implies_true, true_or, or_true, or_self, if_true, if_false, Nat.reduceEqDiff, reduceIte, eq_self]
        have e : skp (fun k => gv (t k)) (d + 1) n = n := by unfold skp; simp [hg]
        rw [e] at hq
        have hF : xI mW w (x_si w 36 17 (nI n)) := xI_si xI_rf ⟨rfl, Or.inr rfl⟩
        exact c44_b (by omega) (sz - n) n _ (sh_si h) (TT_si ht (by omega) (by omega) (by omega) (by omega)) (by omega) (by simp [y_i_si, h1]) (by simp [y_i_si]) (fun w' q1 q2 q3 => hq w' (xI_tr hF q1) q2 q3)
      | true =>
        refine ⟨fun z => absurd z (by decide), fun _ => ?_⟩
        simp only [h1, nI_1, sh_k h, sh_l h, sh_n h, kk36, sr36_2 h, sr36_8 h, sr36_9 h, sr36_12 h, sr36_13 h, sr36_14 h, sr36_15 h, sr36_21 h, sr36_22 h, sr36_23 h, sr36_25 h, sr36_27 h, sr36_28 h, sr36_29 h, sr36_30 h, sr36_31 h, sr36_35 h, sr36_36 h, sr36_37 h, sr36_38 h, sr36_40 h, sr36_41 h, sr36_42 h, sr36_44 h, sr36_45 h, sr36_46 h, sr36_47 h, sr36_48 h, sr36_49 h, sr36_51 h, sr36_52 h, sr36_53 h, sr36_54 h, sr36_55 h, true_and, and_true, false_and, and_false, and_self, not_false_eq_true, not_true_eq_false, true_implies, false_implies, implies_true, true_or, or_true, or_self, if_true, if_false, Nat.reduceEqDiff, reduceIte, eq_self]
        have e : skp (fun k => gv (t k)) (d + 1) n = skp (fun k => gv (t k)) d (n + 1) := by conv => lhs; unfold skp; simp [hg]
        rw [e] at hq
        have hF : xI mW w (x_si w 36 16 (nI (n + 1))) := xI_si xI_rf ⟨rfl, Or.inl rfl⟩
        exact ih (n + 1) _ (sh_si h) (TT_si ht (by omega) (by omega) (by omega) (by omega)) (by omega) (by simp [y_i_si]) (fun w' q1 q2 q3 => hq w' (xI_tr hF q1) q2 q3)
  exact key (sz - a) a w h ht (by omega) h1 hq
end X33
