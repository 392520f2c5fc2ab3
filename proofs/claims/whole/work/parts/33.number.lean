/-! What a word means; the numbers of the text, on the reference's side. -/
def dgs (t : Nat → Nat) : Nat → Nat → Nat → Option Nat
  | 0, _, acc => some acc
  | d + 1, k, acc => if t k < 48 ∨ 57 < t k then none else dgs t d (k + 1) (acc * 10 + (t k - 48))
def szd (t : Nat → Nat) (k n : Nat) : Option Nat := if n < k + 1 ∨ k + 4 < n ∨ t k = 48 then none else dgs t (n - k) k 0
def oI (o : Option Nat) (neg : Bool) : Int := match o with
  | none => 20000
  | some s => if neg = true then -(s : Int) else s
/-- the value of the word from f to n -/
def wv (t : Nat → Nat) (f n : Nat) : Int :=
  if n = f + 1 ∧ t f = 100 then 10000
  else if t f = 45 then (if n = f + 2 ∧ t (f + 1) = 48 then 20000 else oI (szd t (f + 1) n) true)
  else if n = f + 1 ∧ t f = 48 then 0 else oI (szd t f n) false
theorem dgs_lt {t : Nat → Nat} : ∀ (d k acc s : Nat), dgs t d k acc = some s → s < (acc + 1) * 10 ^ d
  | 0, k, acc, s, h => by
    have h : some acc = some s := h
    cases h
    omega
  | d + 1, k, acc, s, h => by
    unfold dgs at h
    split at h
    · cases h
    · rename_i hd
      have h1 := dgs_lt d _ _ s h
      have h2 : (acc * 10 + (t k - 48) + 1) * 10 ^ d ≤ ((acc + 1) * 10) * 10 ^ d := Nat.mul_le_mul_right _ (by omega)
      have h3 : (acc + 1) * 10 ^ (d + 1) = ((acc + 1) * 10) * 10 ^ d := by rw [Nat.pow_succ, Nat.mul_comm (10 ^ d) 10, Nat.mul_assoc]
      omega
theorem szd_lt {t : Nat → Nat} {k n s : Nat} (h : szd t k n = some s) : s < 10000 := by
  unfold szd at h
  split at h
  · cases h
  · rename_i hd
    have h1 := dgs_lt _ _ _ _ h
    have h2 : 10 ^ (n - k) ≤ 10 ^ 4 := Nat.pow_le_pow_right (by omega) (by omega)
    omega
theorem oI_rg {o : Option Nat} {b : Bool} (h : ∀ s, o = some s → s < 10000) : oI o b = 20000 ∨ (-9999 ≤ oI o b ∧ oI o b ≤ 9999) := by
  cases o with
  | none => exact Or.inl rfl
  | some s =>
    have := h s rfl
    right
    unfold oI
    simp only
    split <;> omega
theorem wv_rg {t : Nat → Nat} {f n : Nat} : wv t f n = 20000 ∨ wv t f n = 10000 ∨ (-9999 ≤ wv t f n ∧ wv t f n ≤ 9999) := by
  have h1 := oI_rg (b := true) (fun s (hs : szd t (f + 1) n = some s) => szd_lt hs)
  have h2 := oI_rg (b := false) (fun s (hs : szd t f n = some s) => szd_lt hs)
  unfold wv
  split
  · omega
  · split
    · split <;> omega
    · split <;> omega
theorem iI_neg {n : Nat} (h : n < 2 ^ 31) : - nI n = iI (-(n : Int)) := by
  apply Int32.toInt_inj.mp
  rw [iI_toInt (by omega) (by omega), Int32.toInt_neg, nI_toInt h]
  simp only [Int.bmod]
  omega
/-- a word that is no number: no good digit, or none, or too many -/
theorem wv_no {t : Nat → Nat} {f n k : Nat} (hk : k = if t f = 45 then f + 1 else f) (hfn : f < n) (h : n - k < 1 ∨ 4 < n - k ∨ dgs t (n - k) k 0 = none) : ¬ wv t f n ≤ 9999 := by
  have hs : szd t k n = none := by
    unfold szd
    split
    · rfl
    · rcases h with h | h | h
      · omega
      · omega
      · exact h
  unfold wv
  split
  · omega
  · by_cases h45 : t f = 45
    · rw [if_pos h45] at hk ⊢
      subst hk
      rw [hs]
      split <;> simp [oI]
    · rw [if_neg h45] at hk ⊢
      subst hk
      rw [hs]
      split
      · rename_i h0
        obtain ⟨rfl, h0⟩ := h0
        exfalso
        rcases h with h | h | h
        · omega
        · omega
        · rw [Nat.add_sub_cancel_left] at h
          unfold dgs at h
          rw [if_neg (by omega)] at h
          cases h
      · simp [oI]
theorem wv_48 {t : Nat → Nat} {f n k : Nat} (hk : k = if t f = 45 then f + 1 else f) (hfn : f < n) (h48 : t k = 48) (hn : ¬ n = f + 1) : ¬ wv t f n ≤ 9999 := by
  have hs : szd t k n = none := by
    unfold szd
    rw [if_pos (Or.inr (Or.inr h48))]
  unfold wv
  rw [if_neg (by omega)]
  by_cases h45 : t f = 45
  · rw [if_pos h45] at hk ⊢
    subst hk
    rw [hs]
    split <;> simp [oI]
  · rw [if_neg h45] at hk ⊢
    subst hk
    rw [hs, if_neg (by omega)]
    simp [oI]
theorem wv_0 {t : Nat → Nat} {f : Nat} (h48 : t f = 48) : wv t f (f + 1) = 0 := by
  unfold wv
  rw [if_neg (by omega), if_neg (by omega), if_pos ⟨rfl, h48⟩]
theorem wv_s {t : Nat → Nat} {f n k s : Nat} (hk : k = if t f = 45 then f + 1 else f) (hfn : f < n) (h1 : ¬ n - k < 1) (h4 : ¬ 4 < n - k) (h48 : ¬ t k = 48) (h : dgs t (n - k) k 0 = some s) : wv t f n = (if k = f then (s : Int) else -(s : Int)) ∧ s < 10000 := by
  have hs : szd t k n = some s := by
    unfold szd
    rw [if_neg (by omega)]
    exact h
  refine ⟨?_, szd_lt hs⟩
  unfold wv
  by_cases h45 : t f = 45
  · rw [if_pos h45] at hk ⊢
    subst hk
    rw [hs, if_neg (by omega), if_neg (by omega), if_neg (by omega)]
    rfl
  · rw [if_neg h45] at hk ⊢
    subst hk
    rw [hs, if_neg, if_neg (fun z => h48 z.2), if_pos rfl]
    · rfl
    · rintro ⟨rfl, z⟩
      rw [Nat.add_sub_cancel_left] at h
      unfold dgs at h
      rw [if_pos (by omega)] at h
      cases h
section X34
variable {scr : Nat × (Nat → Int32)} {w : xW} {Q : xO → xW → Prop} {t : Nat → Nat} {sz a f n k : Nat} {o1 o2 o3 o4 : Option Value}
def m18 : Nat → Nat → Prop := fun o k => o = 36 ∧ k = 18
theorem c46 {c : Nat} (hc : c < 256) (h : SH w) (ht : TT w t sz) (h1 : x_i w 36 16 = nI n) (h2 : x_i w 36 17 = nI f) (hfn : f < n) (hn : n ≤ sz) (hq : Q (.inl (some (.int (b32 (decide (n = f + 1 ∧ t f = c)))))) w) : x_R x_prog scr 46 0 [some (.ref 36), some (.int (nI c))] [] w Q := by
  obtain ⟨t1, t2, -, t4, -, t6⟩ := id ht
  have t2f := t2 f
  refine b46_0 ?_
  simp only [h1, h2, t6, nI_1, nI_clamp (show f < 2 ^ 31 by omega), nI_eq (show n < 2 ^ 31 by omega) (show f + 1 < 2 ^ 31 by omega), nI_eq (show t f < 2 ^ 31 by omega) (show c < 2 ^ 31 by omega), sh_k h, sh_l h, sh_n h, kk36, sr36_2 h, sr36_8 h, sr36_9 h, sr36_12 h, sr36_13 h, sr36_14 h, sr36_15 h, sr36_21 h, sr36_22 h, sr36_23 h, sr36_25 h, sr36_27 h, sr36_28 h, sr36_29 h, sr36_30 h, sr36_31 h, sr36_35 h, sr36_36 h, sr36_37 h, sr36_38 h, sr36_40 h, sr36_41 h, sr36_42 h, sr36_44 h, sr36_45 h, sr36_46 h, sr36_47 h, sr36_48 h, sr36_49 h, sr36_51 h, sr36_52 h, sr36_53 h, sr36_54 h, sr36_55 h, kk37, ll37, true_and, and_true, false_and, and_false, and_self, not_false_eq_true, not_true_eq_false, true_implies, false_implies, implies_true, true_or, or_true, or_self, if_true, if_false, Nat.reduceEqDiff, reduceIte, eq_self]
  refine ⟨fun z => ?_, fun z => ⟨vp_in_nI (by omega) (by omega), fun y => ?_, fun y => ?_⟩⟩
  · rw [decide_eq_false (fun q => z q.1)] at hq; exact hq
  · rw [decide_eq_false (fun q => y q.2)] at hq; exact hq
  · rw [decide_eq_true ⟨Classical.not_not.mp z, Classical.not_not.mp y⟩] at hq; exact hq
theorem c47 (h : SH w) (ht : TT w t sz) (h1 : x_i w 36 16 = nI n) (h2 : x_i w 36 17 = nI f) (hfn : f < n) (hn : n ≤ sz) (hq : Q (.inl (some (.int (b32 (decide (n = f + 3 ∧ t f = 99 ∧ t (f + 1) = 110 ∧ t (f + 2) = 102)))))) w) : x_R x_prog scr 47 0 [some (.ref 36)] [] w Q := by
  obtain ⟨t1, t2, -, t4, -, t6⟩ := id ht
  have e3 : nI f + 3 = nI (f + 3) := nI_add f 3
  have e2 : nI f + 2 = nI (f + 2) := nI_add f 2
  have g0 : nI (t f) = 99 ↔ t f = 99 := nI_eq (b := 99) (by have := t2 f; omega) (by omega)
  have g1 : nI (t (f + 1)) = 110 ↔ t (f + 1) = 110 := nI_eq (b := 110) (by have := t2 (f + 1); omega) (by omega)
  have g2 : nI (t (f + 2)) = 102 ↔ t (f + 2) = 102 := nI_eq (b := 102) (by have := t2 (f + 2); omega) (by omega)
  refine b47_0 ?_
  simp only [h1, h2, t6, nI_1, e2, e3, g0, nI_eq (show n < 2 ^ 31 by omega) (show f + 3 < 2 ^ 31 by omega), nI_clamp (show f < 2 ^ 31 by omega), nI_clamp (show f + 1 < 2 ^ 31 by omega), nI_clamp (show f + 2 < 2 ^ 31 by omega), g1, g2, sh_k h, sh_l h, sh_n h, kk36, sr36_2 h, sr36_8 h, sr36_9 h, sr36_12 h, sr36_13 h, sr36_14 h, sr36_15 h, sr36_21 h, sr36_22 h, sr36_23 h, sr36_25 h, sr36_27 h, sr36_28 h, sr36_29 h, sr36_30 h, sr36_31 h, sr36_35 h, sr36_36 h, sr36_37 h, sr36_38 h, sr36_40 h, sr36_41 h, sr36_42 h, sr36_44 h, sr36_45 h, sr36_46 h, sr36_47 h, sr36_48 h, sr36_49 h, sr36_51 h, sr36_52 h, sr36_53 h, sr36_54 h, sr36_55 h, kk37, ll37, true_and, and_true, false_and, and_false, and_self, not_false_eq_true, not_true_eq_false, true_implies, false_implies, implies_true, true_or, or_true, or_self, if_true, if_false, Nat.reduceEqDiff, reduceIte, eq_self]
  refine ⟨fun z => ?_, fun z => ⟨vp_in_nI (by omega) (by omega), fun y => ?_, fun y => ⟨vp_in_nI (by omega) (by omega), fun x => ?_, fun x => ⟨vp_in_nI (by omega) (by omega), fun u => ?_, fun u => ?_⟩⟩⟩⟩
  · rw [decide_eq_false (fun q => z q.1)] at hq; exact hq
  · rw [decide_eq_false (fun q => y q.2.1)] at hq; exact hq
  · rw [decide_eq_false (fun q => x q.2.2.1)] at hq; exact hq
  · rw [decide_eq_false (fun q => u q.2.2.2)] at hq; exact hq
  · rw [decide_eq_true ⟨Classical.not_not.mp z, Classical.not_not.mp y, Classical.not_not.mp x, Classical.not_not.mp u⟩] at hq; exact hq
theorem c50_z (h : SH w) (hq : ∀ w', xI m18 w w' → Q (.inl (some (.int 0))) w') : x_R x_prog scr 50 129 [some (.ref 36), some (.int (nI k)), o2, some (.int 0), o4] [] w Q := by
  refine b50_129 ⟨fun _ => ?_, fun z => absurd rfl z⟩
  simp only [sh_k h, sh_l h, sh_n h, kk36, sr36_2 h, sr36_8 h, sr36_9 h, sr36_12 h, sr36_13 h, sr36_14 h, sr36_15 h, sr36_21 h, sr36_22 h, sr36_23 h, sr36_25 h, sr36_27 h, sr36_28 h, sr36_29 h, sr36_30 h, sr36_31 h, sr36_35 h, sr36_36 h, sr36_37 h, sr36_38 h, sr36_40 h, sr36_41 h, sr36_42 h, sr36_44 h, sr36_45 h, sr36_46 h, sr36_47 h, sr36_48 h, sr36_49 h, sr36_51 h, sr36_52 h, sr36_53 h, sr36_54 h, sr36_55 h, true_and, and_true, false_and, and_false, and_self, not_false_eq_true, not_true_eq_false, true_implies, false_implies, implies_true, true_or, or_true, or_self, if_true, if_false, Nat.reduceEqDiff, reduceIte, eq_self]
  exact ⟨fun _ => hq _ (xI_si xI_rf ⟨rfl, rfl⟩), fun _ => hq _ (xI_si xI_rf ⟨rfl, rfl⟩)⟩
theorem c50_l (hn : n ≤ sz) (hz : sz ≤ 900) : ∀ (d i acc : Nat) (w : xW) (o2 : Option Value), SH w → TT w t sz → i + d = n → x_i w 36 16 = nI n → x_i w 36 18 = nI acc →
    (dgs t d i acc = none → ∀ w', xI m18 w w' → Q (.inl (some (.int 0))) w') →
    (∀ s, dgs t d i acc = some s → ∀ (w' : xW) (o2 o4 : Option Value), xI m18 w w' → x_i w' 36 18 = nI s → x_R x_prog scr 50 129 [some (.ref 36), some (.int (nI k)), o2, some (.int 1), o4] [] w' Q) →
    x_R x_prog scr 50 58 [some (.ref 36), some (.int (nI k)), o2, some (.int 1), some (.int (nI i))] [] w Q := by
  intro d
  induction d with
  | zero =>
    intro i acc w o2 h ht hi h1 h3 hq0 hq1
    have hc : nI n ≤ nI i := nI_le (by omega) (by omega)
    refine b50_58 ?_
    simp only [h1, hc, sh_k h, sh_l h, sh_n h, kk36, sr36_2 h, sr36_8 h, sr36_9 h, sr36_12 h, sr36_13 h, sr36_14 h, sr36_15 h, sr36_21 h, sr36_22 h, sr36_23 h, sr36_25 h, sr36_27 h, sr36_28 h, sr36_29 h, sr36_30 h, sr36_31 h, sr36_35 h, sr36_36 h, sr36_37 h, sr36_38 h, sr36_40 h, sr36_41 h, sr36_42 h, sr36_44 h, sr36_45 h, sr36_46 h, sr36_47 h, sr36_48 h, sr36_49 h, sr36_51 h, sr36_52 h, sr36_53 h, sr36_54 h, sr36_55 h, kk37, ll37, true_and, and_true, false_and, and_false, and_self, not_false_eq_true, not_true_eq_false, true_implies, false_implies, implies_true, true_or, or_true, or_self, if_true, if_false, Nat.reduceEqDiff, reduceIte, eq_self]
    exact hq1 acc rfl w _ _ xI_rf h3
  | succ d ih =>
    intro i acc w o2 h ht hi h1 h3 hq0 hq1
    obtain ⟨t1, t2, -, t4, -, t6⟩ := id ht
    have t2i := t2 i
    have hc : ¬ nI n ≤ nI i := nI_ge (by omega) (by omega)
    have g0 : nI (t i) < 48 ↔ t i < 48 := nI_ltI (b := 48) (by omega) (by omega)
    have g1 : (57 : Int32) < nI (t i) ↔ 57 < t i := nI_ltI (a := 57) (by omega) (by omega)
    have hv : vp_in (nI i) 900 := vp_in_nI (by omega) (by omega)
    have n1 : ¬ (1 : Int32) = 0 := by decide
    have bad : (t i < 48 ∨ 57 < t i) → x_R x_prog scr 50 99 [some (.ref 36), some (.int (nI k)), none, some (.int 1), some (.int (nI i))] [] w Q := by
      intro hb
      refine b50_99 ?_
      simp only [sh_k h, sh_l h, sh_n h, kk36, sr36_2 h, sr36_8 h, sr36_9 h, sr36_12 h, sr36_13 h, sr36_14 h, sr36_15 h, sr36_21 h, sr36_22 h, sr36_23 h, sr36_25 h, sr36_27 h, sr36_28 h, sr36_29 h, sr36_30 h, sr36_31 h, sr36_35 h, sr36_36 h, sr36_37 h, sr36_38 h, sr36_40 h, sr36_41 h, sr36_42 h, sr36_44 h, sr36_45 h, sr36_46 h, sr36_47 h, sr36_48 h, sr36_49 h, sr36_51 h, sr36_52 h, sr36_53 h, sr36_54 h, sr36_55 h, kk37, ll37, true_and, and_true, false_and, and_false, and_self, not_false_eq_true, not_true_eq_false, true_implies, false_implies, implies_true, true_or, or_true, or_self, if_true, if_false, Nat.reduceEqDiff, reduceIte, eq_self, hv]
      refine b50_58 ?_
      have hF : ∀ v, xI m18 w (x_si w 36 18 v) := fun v => xI_si xI_rf ⟨rfl, rfl⟩
      have h0 : dgs t (d + 1) i acc = none := by unfold dgs; rw [if_pos hb]
      simp only [y_i_si, y_j_si, y_r_si, y_k_si, y_l_si, y_N_si, y_i_sj, y_j_sj, y_r_sj, y_k_sj, y_l_sj, y_N_sj, y_i_sr, y_j_sr, y_r_sr, y_k_sr, y_l_sr, y_N_sr, sh_k h, sh_l h, sh_n h, kk36, sr36_2 h, sr36_8 h, sr36_9 h, sr36_12 h, sr36_13 h, sr36_14 h, sr36_15 h, sr36_21 h, sr36_22 h, sr36_23 h, sr36_25 h, sr36_27 h, sr36_28 h, sr36_29 h, sr36_30 h, sr36_31 h, sr36_35 h, sr36_36 h, sr36_37 h, sr36_38 h, sr36_40 h, sr36_41 h, sr36_42 h, sr36_44 h, sr36_45 h, sr36_46 h, sr36_47 h, sr36_48 h, sr36_49 h, sr36_51 h, sr36_52 h, sr36_53 h, sr36_54 h, sr36_55 h, kk37, ll37, true_and, and_true, false_and, and_false, and_self, not_false_eq_true, not_true_eq_false, true_implies, false_implies, implies_true, true_or, or_true, or_self, if_true, if_false, Nat.reduceEqDiff, reduceIte, eq_self]
      exact ⟨fun _ => c50_z h (fun w' q => hq0 h0 w' (xI_tr (hF _) q)), fun _ => c50_z h (fun w' q => hq0 h0 w' (xI_tr (hF _) q))⟩
    refine b50_58 ?_
    simp only [h1, h3, t6, nI_clamp (show i < 2 ^ 31 by omega), g0, g1, hc, hv, n1, nI_1, sh_k h, sh_l h, sh_n h, kk36, sr36_2 h, sr36_8 h, sr36_9 h, sr36_12 h, sr36_13 h, sr36_14 h, sr36_15 h, sr36_21 h, sr36_22 h, sr36_23 h, sr36_25 h, sr36_27 h, sr36_28 h, sr36_29 h, sr36_30 h, sr36_31 h, sr36_35 h, sr36_36 h, sr36_37 h, sr36_38 h, sr36_40 h, sr36_41 h, sr36_42 h, sr36_44 h, sr36_45 h, sr36_46 h, sr36_47 h, sr36_48 h, sr36_49 h, sr36_51 h, sr36_52 h, sr36_53 h, sr36_54 h, sr36_55 h, kk37, ll37, true_and, and_true, false_and, and_false, and_self, not_false_eq_true, not_true_eq_false, true_implies, false_implies, implies_true, true_or, or_true, or_self, if_true, if_false, Nat.reduceEqDiff, reduceIte, eq_self]
    refine ⟨fun z => bad (Or.inl z), fun z => ⟨fun y => bad (Or.inr y), fun y => ?_⟩⟩
    have e : dgs t (d + 1) i acc = dgs t d (i + 1) (acc * 10 + (t i - 48)) := by
      conv => lhs; unfold dgs
      rw [if_neg (by omega)]
    rw [e] at hq0 hq1
    have e2 : 10 * nI acc + nI (t i) - 48 = nI (acc * 10 + (t i - 48)) := by
      have a1 : (10 : Int32) = nI 10 := rfl
      have a2 : (48 : Int32) = nI 48 := rfl
      rw [a1, a2, pk_mul, nI_add, nI_sub (by omega)]
      congr 1
      omega
    rw [e2]
    have hF : xI m18 w (x_si w 36 18 (nI (acc * 10 + (t i - 48)))) := xI_si xI_rf ⟨rfl, rfl⟩
    exact ih (i + 1) _ _ none (sh_si h) (TT_si ht (by omega) (by omega) (by omega) (by omega)) (by omega) (by simp [y_i_si, h1]) (by simp [y_i_si]) (fun q w' q1 => hq0 q w' (xI_tr hF q1)) (fun s q w' o2 o4 q1 q2 => hq1 s q w' o2 o4 (xI_tr hF q1) q2)
/-- isNumber -/
theorem c50 (h : SH w) (ht : TT w t sz) (h1 : x_i w 36 16 = nI n) (h2 : x_i w 36 17 = nI f) (hfn : f < n) (hn : n ≤ sz)
    (hq : ∀ w', xI m18 w w' → (wv t f n ≤ 9999 → x_i w' 36 18 = iI (wv t f n)) → Q (.inl (some (.int (b32 (decide (wv t f n ≤ 9999)))))) w') :
    x_R x_prog scr 50 0 [some (.ref 36), o1, o2, o3, o4] [] w Q := by
  obtain ⟨t1, t2, -, t4, -, t6⟩ := id ht
  have t2f := t2 f
  have hv : vp_in (nI f) 900 := vp_in_nI (by omega) (by omega)
  have hF : xI m18 w (x_si w 36 18 0) := xI_si xI_rf ⟨rfl, rfl⟩
  have g0 : nI (t f) = 45 ↔ t f = 45 := nI_eq (b := 45) (by omega) (by omega)
  have qno : ¬ wv t f n ≤ 9999 → ∀ w', xI m18 w w' → Q (.inl (some (.int 0))) w' := by
    intro hw w' q
    have := hq w' q (fun z => absurd z hw)
    rw [decide_eq_false hw] at this
    exact this
  have rest : ∀ k, k = (if t f = 45 then f + 1 else f) → k ≤ n → ((n - k < 1 ∨ 4 < n - k) → x_R x_prog scr 50 58 [some (.ref 36), some (.int (nI k)), some (.int (nI (n - k))), some (.int 0), some (.int (nI k))] [] (x_si w 36 18 0) Q) ∧ (¬ (n - k < 1 ∨ 4 < n - k) → x_R x_prog scr 50 58 [some (.ref 36), some (.int (nI k)), some (.int (nI (n - k))), some (.int 1), some (.int (nI k))] [] (x_si w 36 18 0) Q) := by
    intro k hk hkn
    constructor
    · intro hb
      have hw := wv_no hk hfn (by omega)
      refine b50_58 ?_
      simp only [y_i_si, y_j_si, y_r_si, y_k_si, y_l_si, y_N_si, y_i_sj, y_j_sj, y_r_sj, y_k_sj, y_l_sj, y_N_sj, y_i_sr, y_j_sr, y_r_sr, y_k_sr, y_l_sr, y_N_sr, sh_k h, sh_l h, sh_n h, kk36, sr36_2 h, sr36_8 h, sr36_9 h, sr36_12 h, sr36_13 h, sr36_14 h, sr36_15 h, sr36_21 h, sr36_22 h, sr36_23 h, sr36_25 h, sr36_27 h, sr36_28 h, sr36_29 h, sr36_30 h, sr36_31 h, sr36_35 h, sr36_36 h, sr36_37 h, sr36_38 h, sr36_40 h, sr36_41 h, sr36_42 h, sr36_44 h, sr36_45 h, sr36_46 h, sr36_47 h, sr36_48 h, sr36_49 h, sr36_51 h, sr36_52 h, sr36_53 h, sr36_54 h, sr36_55 h, kk37, ll37, true_and, and_true, false_and, and_false, and_self, not_false_eq_true, not_true_eq_false, true_implies, false_implies, implies_true, true_or, or_true, or_self, if_true, if_false, Nat.reduceEqDiff, reduceIte, eq_self]
      exact ⟨fun _ => c50_z h (fun w' q => qno hw w' (xI_tr hF q)), fun _ => c50_z h (fun w' q => qno hw w' (xI_tr hF q))⟩
    · intro hg
      refine c50_l hn t1 (n - k) k 0 _ _ (sh_si h) (TT_si ht (by omega) (by omega) (by omega) (by omega)) (by omega) (by simp [y_i_si, h1]) (by simp [y_i_si]; rfl) (fun z w' q => qno (wv_no hk hfn (Or.inr (Or.inr z))) w' (xI_tr hF q)) (fun s z w' o2 o4 q q2 => ?_)
      have hFw := xI_tr hF q
      have h' := sh_I hFw h
      have t6' : ∀ k, x_i w' 37 k = nI (t k) := fun j => (xI_i hFw 37 j (by unfold m18; omega)).trans (t6 j)
      have h1' : x_i w' 36 16 = nI n := (xI_i hFw 36 16 (by unfold m18; omega)).trans h1
      have h2' : x_i w' 36 17 = nI f := (xI_i hFw 36 17 (by unfold m18; omega)).trans h2
      have hkf : k = f ∨ k = f + 1 := by split at hk <;> omega
      have n1 : ¬ (1 : Int32) = 0 := by decide
      have t2k := t2 k
      have g1 : nI (t k) = 48 ↔ t k = 48 := nI_eq (b := 48) (by omega) (by omega)
      have g2 : nI k ≤ nI f ↔ k ≤ f := nI_leI (by omega) (by omega)
      have g3 : nI n = nI (f + 1) ↔ n = f + 1 := nI_eq (by omega) (by omega)
      have hF2 : ∀ v, xI m18 w (x_si w' 36 18 v) := fun v => xI_si hFw ⟨rfl, rfl⟩
      refine b50_129 ?_
      simp only [n1, t6', h1', h2', q2, g1, g2, g3, nI_1, nI_clamp (show k < 2 ^ 31 by omega), vp_in_nI (show k < 900 by omega) (by omega), sh_k h', sh_l h', sh_n h', kk36, sr36_2 h', sr36_8 h', sr36_9 h', sr36_12 h', sr36_13 h', sr36_14 h', sr36_15 h', sr36_21 h', sr36_22 h', sr36_23 h', sr36_25 h', sr36_27 h', sr36_28 h', sr36_29 h', sr36_30 h', sr36_31 h', sr36_35 h', sr36_36 h', sr36_37 h', sr36_38 h', sr36_40 h', sr36_41 h', sr36_42 h', sr36_44 h', sr36_45 h', sr36_46 h', sr36_47 h', sr36_48 h', sr36_49 h', sr36_51 h', sr36_52 h', sr36_53 h', sr36_54 h', sr36_55 h', kk37, ll37, true_and, and_true, false_and, and_false, and_self, not_false_eq_true, not_true_eq_false, true_implies, false_implies, implies_true, true_or, or_true, or_self, if_true, if_false, Nat.reduceEqDiff, reduceIte, eq_self]
      refine ⟨fun h48 => ?_, fun h48 => ⟨fun hnf => ?_, fun hnf => ?_⟩⟩
      · obtain ⟨e1, e2⟩ := wv_s hk hfn (by omega) (by omega) h48 z
        refine ⟨fun hk2 => ?_, fun hk2 => ?_⟩
        · rw [if_pos (by omega)] at e1
          have := hq _ (hF2 (nI s)) (fun _ => by rw [e1, iI_n]; simp [y_i_si])
          rw [decide_eq_true (by omega)] at this
          exact this
        · rw [if_neg (by omega)] at e1
          have := hq _ (hF2 (- nI s)) (fun _ => by rw [e1, ← iI_neg (by omega)]; simp [y_i_si])
          rw [decide_eq_true (by omega)] at this
          exact this
      · have hw := wv_48 hk hfn (Classical.not_not.mp h48) hnf
        exact ⟨fun _ => qno hw _ (hF2 _), fun _ => qno hw _ (hF2 _)⟩
      · have hnf := Classical.not_not.mp hnf
        have h48 := Classical.not_not.mp h48
        subst hnf
        have hkf : k = f := by omega
        subst hkf
        have hs : s = 0 := by
          rw [Nat.add_sub_cancel_left] at z
          unfold dgs at z
          rw [if_neg (by omega)] at z
          have z : some (0 * 10 + (t k - 48)) = some s := z
          have z := Option.some.inj z
          omega
        subst hs
        refine ⟨fun _ => ?_, fun z => absurd (Nat.le_refl _) z⟩
        have := hq _ (hF2 (nI 0)) (fun _ => by rw [wv_0 h48]; simp [y_i_si]; rfl)
        rw [decide_eq_true (by rw [wv_0 h48]; omega)] at this
        exact this
  refine b50_0 ?_
  simp only [h1, h2, t6, nI_clamp (show f < 2 ^ 31 by omega), hv, g0, nI_1, nI_sub (show f ≤ n by omega), nI_sub (show f + 1 ≤ n by omega), sh_k h, sh_l h, sh_n h, kk36, sr36_2 h, sr36_8 h, sr36_9 h, sr36_12 h, sr36_13 h, sr36_14 h, sr36_15 h, sr36_21 h, sr36_22 h, sr36_23 h, sr36_25 h, sr36_27 h, sr36_28 h, sr36_29 h, sr36_30 h, sr36_31 h, sr36_35 h, sr36_36 h, sr36_37 h, sr36_38 h, sr36_40 h, sr36_41 h, sr36_42 h, sr36_44 h, sr36_45 h, sr36_46 h, sr36_47 h, sr36_48 h, sr36_49 h, sr36_51 h, sr36_52 h, sr36_53 h, sr36_54 h, sr36_55 h, kk37, ll37, true_and, and_true, false_and, and_false, and_self, not_false_eq_true, not_true_eq_false, true_implies, false_implies, implies_true, true_or, or_true, or_self, if_true, if_false, Nat.reduceEqDiff, reduceIte, eq_self]
  have c1 : ∀ d, d ≤ 900 → (nI d ≤ 0 ↔ d < 1) := fun d hd => by rw [← nI_0, nI_leI (by omega) (by omega)]; omega
  have c2 : ∀ d, d ≤ 900 → ((5 : Int32) ≤ nI d ↔ 4 < d) := fun d hd => by
    have : (5 : Int32) = nI 5 := rfl
    rw [this, nI_leI (by omega) (by omega)]; omega
  rw [c1 (n - f) (by omega), c2 (n - f) (by omega), c1 (n - (f + 1)) (by omega), c2 (n - (f + 1)) (by omega)]
  refine ⟨fun z => ?_, fun z => ?_⟩
  · obtain ⟨r0, r1⟩ := rest f (by rw [if_neg z]) (by omega)
    exact ⟨fun y => r0 (Or.inl y), fun y => ⟨fun x => r0 (Or.inr x), fun x => r1 (by omega)⟩⟩
  · obtain ⟨r0, r1⟩ := rest (f + 1) (by rw [if_pos (Classical.not_not.mp z)]) (by omega)
    exact ⟨fun y => r0 (Or.inl y), fun y => ⟨fun x => r0 (Or.inr x), fun x => r1 (by omega)⟩⟩
end X34
