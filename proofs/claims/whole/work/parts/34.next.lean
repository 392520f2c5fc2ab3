/-! The next number of the text, words or packed: what both sides take. -/
def pkm (x : Nat) : Int := if x = 1 then 20000 else if x % 2 = 0 then ((x / 2 : Nat) : Int) else -((x / 2 : Nat) : Int)
/-- position behind it, its place, its value: 20000 none, 20001 the end, 10000 the word d -/
def nxP (t : Nat → Nat) (sz a : Nat) : Nat × Nat × Int :=
  if sz ≤ a then (a, a + 1, 20001)
  else if t a < 128 then (a + 1, a + 1, pkm (t a))
  else if sz ≤ a + 1 then (a, sz + 1, 20001)
  else if 128 ≤ t (a + 1) then (a, a + 1, 20000)
  else (a + 2, a + 1, pkm (t a - 128 + 128 * t (a + 1)))
def nxW (t : Nat → Nat) (sz a : Nat) : Nat × Nat × Int := (wN t sz a, wF t sz a + 1, if wF t sz a = wN t sz a then 20001 else wv t (wF t sz a) (wN t sz a))
def nxt (pk : Bool) (t : Nat → Nat) (sz a : Nat) : Nat × Nat × Int := if pk = true then nxP t sz a else nxW t sz a
theorem pkm_rg {x : Nat} (h : x < 16384) : pkm x = 20000 ∨ (-8191 ≤ pkm x ∧ pkm x ≤ 8191) := by
  unfold pkm
  split
  · exact Or.inl rfl
  · split <;> omega
theorem nxt_rg {pk : Bool} {t : Nat → Nat} {sz a : Nat} (h2 : ∀ k, t k < 256) : -9999 ≤ (nxt pk t sz a).2.2 ∧ (nxt pk t sz a).2.2 ≤ 20001 := by
  unfold nxt
  split
  · unfold nxP
    have b1 := h2 a
    have b2 := h2 (a + 1)
    split
    · simp
    · split
      · have := pkm_rg (x := t a) (by omega)
        simp only; omega
      · split
        · simp
        · split
          · simp
          · have := pkm_rg (x := t a - 128 + 128 * t (a + 1)) (by omega)
            simp only; omega
  · unfold nxW
    have := wv_rg (t := t) (f := wF t sz a) (n := wN t sz a)
    simp only
    split <;> omega
theorem nxt_le {pk : Bool} {t : Nat → Nat} {sz a : Nat} (h : a ≤ sz) : (nxt pk t sz a).1 ≤ sz := by
  unfold nxt
  split
  · unfold nxP
    split
    · exact h
    · split
      · simp only; omega
      · split
        · exact h
        · split
          · exact h
          · simp only; omega
  · exact wN_le h
theorem nxt_pl {pk : Bool} {t : Nat → Nat} {sz a : Nat} (h : a ≤ sz) : 1 ≤ (nxt pk t sz a).2.1 ∧ (nxt pk t sz a).2.1 ≤ sz + 1 := by
  unfold nxt
  split
  · unfold nxP
    split
    · simp only; omega
    · split
      · simp only; omega
      · split
        · simp only; omega
        · split <;> simp only <;> omega
  · have := wF_le (t := t) h
    unfold nxW
    simp only; omega
theorem wE {t : Nat → Nat} {sz a : Nat} (h : a ≤ sz) (he : ¬ wF t sz a < wN t sz a) : wF t sz a = sz := by
  have h1 := wF_le (t := t) h
  by_cases h2 : wF t sz a < sz
  · exfalso
    apply he
    have h3 : gv (t (wF t sz a)) = false := skp_end (fun k => gv (t k)) (sz - a) a (by unfold wF at h2; omega)
    unfold wN
    have h4 : sz - wF t sz a = (sz - wF t sz a - 1) + 1 := by omega
    rw [h4]
    conv => rhs; unfold skp
    simp only [h3, Bool.not_false, if_true]
    have := skp_ge (fun k => !gv (t k)) (sz - wF t sz a - 1) (wF t sz a + 1)
    omega
  · omega
theorem nI_div2 {x : Nat} (h : x < 2 ^ 31) : nI x / 2 = nI (x / 2) := by
  apply Int32.toInt_inj.mp
  rw [Int32.toInt_div, nI_toInt h, nI_toInt (by omega)]
  have : (2 : Int32).toInt = 2 := by decide
  rw [this]
  have e : ((x : Int).tdiv 2) = ((x / 2 : Nat) : Int) := by
    rw [Int.tdiv_eq_ediv_of_nonneg (by omega)]
    omega
  rw [e, Int.bmod]
  omega
section X35
variable {scr : Nat × (Nat → Int32)} {w : xW} {Q : xO → xW → Prop} {t : Nat → Nat} {sz a f n k : Nat} {pk : Bool} {o1 o2 o3 o4 : Option Value}
/-- the places that next() writes -/
def mN : Nat → Nat → Prop := fun o k => o = 36 ∧ (k = 16 ∨ k = 17 ∨ k = 18)
/-- what next() of the reference says of the number s -/
def nxR (pk : Bool) (s : Nat × Nat × Int) (w : xW) (r : Int32) : Prop :=
  (s.2.2 ≤ 9999 ∧ r = 0 ∧ x_i w 36 18 = iI s.2.2 ∧ x_i w 36 16 = nI s.1 ∧ x_i w 36 17 + 1 = nI s.2.1) ∨ (9999 < s.2.2 ∧ r = nI s.2.1) ∨ (pk = true ∧ 9999 < s.2.2 ∧ r = 0 ∧ x_i w 36 18 = 9999 ∧ x_i w 36 17 + 1 = nI s.2.1)
theorem c49_w (h : SH w) (ht : TT w t sz) (ha : a ≤ sz) (h1 : x_i w 36 16 = nI a) (hp : x_i w 36 19 = 0)
    (hq : ∀ w' r, xI mN w w' → nxR pk (nxW t sz a) w' r → Q (.inl (some (.int r))) w') : x_R x_prog scr 49 0 [some (.ref 36), o1] [] w Q := by
  have t1 := ht.1
  have t4 := ht.2.2.2.1
  refine b49_0 ?_
  simp only [hp, sh_k h, sh_l h, sh_n h, kk36, sr36_2 h, sr36_8 h, sr36_9 h, sr36_12 h, sr36_13 h, sr36_14 h, sr36_15 h, sr36_21 h, sr36_22 h, sr36_23 h, sr36_25 h, sr36_27 h, sr36_28 h, sr36_29 h, sr36_30 h, sr36_31 h, sr36_35 h, sr36_36 h, sr36_37 h, sr36_38 h, sr36_40 h, sr36_41 h, sr36_42 h, sr36_44 h, sr36_45 h, sr36_46 h, sr36_47 h, sr36_48 h, sr36_49 h, sr36_51 h, sr36_52 h, sr36_53 h, sr36_54 h, sr36_55 h, true_and, and_true, false_and, and_false, and_self, not_false_eq_true, not_true_eq_false, true_implies, false_implies, implies_true, true_or, or_true, or_self, if_true, if_false, Nat.reduceEqDiff, reduceIte, eq_self]
  refine c44 h ht ha h1 (fun w1 q1 q2 q3 => ?_)
  have hs1 := sh_I q1 h
  have hwn := wN_le (t := t) ha
  have hF1 : xI mN w w1 := xI_w q1 (by unfold mW mN; omega)
  refine b49_11 ?_
  by_cases hlt : wF t sz a < wN t sz a
  · rw [decide_eq_true hlt]
    refine ⟨fun _ => ?_, fun z => absurd (by decide) z⟩
    simp only [sh_k hs1, sh_l hs1, sh_n hs1, kk36, sr36_2 hs1, sr36_8 hs1, sr36_9 hs1, sr36_12 hs1, sr36_13 hs1, sr36_14 hs1, sr36_15 hs1, sr36_21 hs1, sr36_22 hs1, sr36_23 hs1, sr36_25 hs1, sr36_27 hs1, sr36_28 hs1, sr36_29 hs1, sr36_30 hs1, sr36_31 hs1, sr36_35 hs1, sr36_36 hs1, sr36_37 hs1, sr36_38 hs1, sr36_40 hs1, sr36_41 hs1, sr36_42 hs1, sr36_44 hs1, sr36_45 hs1, sr36_46 hs1, sr36_47 hs1, sr36_48 hs1, sr36_49 hs1, sr36_51 hs1, sr36_52 hs1, sr36_53 hs1, sr36_54 hs1, sr36_55 hs1, true_and, and_true, false_and, and_false, and_self, not_false_eq_true, not_true_eq_false, true_implies, false_implies, implies_true, true_or, or_true, or_self, if_true, if_false, Nat.reduceEqDiff, reduceIte, eq_self]
    refine c50 hs1 (TT_I q1 ht (by unfold mW; omega) (by unfold mW; omega) (by unfold mW; omega) (by unfold mW; omega)) q2 q3 hlt hwn (fun w2 r1 r2 => ?_)
    have hs2 := sh_I r1 hs1
    have hF2 : xI mN w w2 := xI_tr hF1 (xI_w r1 (by unfold m18 mN; omega))
    have e17 : x_i w2 36 17 = nI (wF t sz a) := (xI_i r1 36 17 (by unfold m18; omega)).trans q3
    have e16 : x_i w2 36 16 = nI (wN t sz a) := (xI_i r1 36 16 (by unfold m18; omega)).trans q2
    have ev : (nxW t sz a).2.2 = wv t (wF t sz a) (wN t sz a) := by
      show (if wF t sz a = wN t sz a then (20001 : Int) else wv t (wF t sz a) (wN t sz a)) = _
      rw [if_neg (by omega)]
    refine b49_27 ?_
    by_cases hv : wv t (wF t sz a) (wN t sz a) ≤ 9999
    · rw [decide_eq_true hv]
      refine ⟨fun z => absurd z (by decide), fun _ => hq w2 0 hF2 (Or.inl ⟨by rw [ev]; exact hv, rfl, by rw [ev]; exact r2 hv, e16, by rw [e17, nI_1]; rfl⟩)⟩
    · rw [decide_eq_false hv]
      refine ⟨fun _ => ?_, fun z => absurd rfl z⟩
      simp only [sh_k hs2, sh_l hs2, sh_n hs2, kk36, sr36_2 hs2, sr36_8 hs2, sr36_9 hs2, sr36_12 hs2, sr36_13 hs2, sr36_14 hs2, sr36_15 hs2, sr36_21 hs2, sr36_22 hs2, sr36_23 hs2, sr36_25 hs2, sr36_27 hs2, sr36_28 hs2, sr36_29 hs2, sr36_30 hs2, sr36_31 hs2, sr36_35 hs2, sr36_36 hs2, sr36_37 hs2, sr36_38 hs2, sr36_40 hs2, sr36_41 hs2, sr36_42 hs2, sr36_44 hs2, sr36_45 hs2, sr36_46 hs2, sr36_47 hs2, sr36_48 hs2, sr36_49 hs2, sr36_51 hs2, sr36_52 hs2, sr36_53 hs2, sr36_54 hs2, sr36_55 hs2, true_and, and_true, false_and, and_false, and_self, not_false_eq_true, not_true_eq_false, true_implies, false_implies, implies_true, true_or, or_true, or_self, if_true, if_false, Nat.reduceEqDiff, reduceIte, eq_self, e17, nI_1]
      exact hq w2 _ hF2 (Or.inr (Or.inl ⟨by rw [ev]; omega, rfl⟩))
  · rw [decide_eq_false hlt]
    refine ⟨fun z => absurd rfl z, fun _ => ?_⟩
    have e1 : x_i w1 36 1 = nI sz := (xI_i q1 36 1 (by unfold mW; omega)).trans t4
    simp only [sh_k hs1, sh_l hs1, sh_n hs1, kk36, sr36_2 hs1, sr36_8 hs1, sr36_9 hs1, sr36_12 hs1, sr36_13 hs1, sr36_14 hs1, sr36_15 hs1, sr36_21 hs1, sr36_22 hs1, sr36_23 hs1, sr36_25 hs1, sr36_27 hs1, sr36_28 hs1, sr36_29 hs1, sr36_30 hs1, sr36_31 hs1, sr36_35 hs1, sr36_36 hs1, sr36_37 hs1, sr36_38 hs1, sr36_40 hs1, sr36_41 hs1, sr36_42 hs1, sr36_44 hs1, sr36_45 hs1, sr36_46 hs1, sr36_47 hs1, sr36_48 hs1, sr36_49 hs1, sr36_51 hs1, sr36_52 hs1, sr36_53 hs1, sr36_54 hs1, sr36_55 hs1, true_and, and_true, false_and, and_false, and_self, not_false_eq_true, not_true_eq_false, true_implies, false_implies, implies_true, true_or, or_true, or_self, if_true, if_false, Nat.reduceEqDiff, reduceIte, eq_self, e1, nI_1]
    have hsz := wE ha hlt
    have := wN_ge (t := t) (sz := sz) (a := a)
    refine hq w1 _ hF1 (Or.inr (Or.inl ⟨?_, ?_⟩))
    · show (9999 : Int) < (if wF t sz a = wN t sz a then 20001 else wv t (wF t sz a) (wN t sz a))
      rw [if_pos (by omega)]
      omega
    · show nI (sz + 1) = nI (wF t sz a + 1)
      rw [hsz]
theorem c49_f {w0 : xW} {x p : Nat} {s : Nat × Nat × Int} (hx : x < 16384) (hp2 : p ≤ 900) (hF : xI mN w0 w) (h17 : x_i w 36 17 = nI a) (hs : s = (p, a + 1, pkm x))
    (hq : ∀ w' r, xI mN w0 w' → nxR true s w' r → Q (.inl (some (.int r))) w') :
    ((¬ nI x = (1 : Int32) → (¬ (2 : Int32) = 0) ∧ ((¬ (nI x - nI x / 2 * 2) = (0 : Int32) → (¬ (2 : Int32) = 0) ∧ x_R x_prog scr 49 253 [some (.ref 36), some (.int (nI x))] [] (x_si (x_si w 36 16 (nI p)) 36 18 (-(nI x / 2))) Q) ∧ (¬ (¬ (nI x - nI x / 2 * 2) = (0 : Int32)) → (¬ (2 : Int32) = 0) ∧ x_R x_prog scr 49 253 [some (.ref 36), some (.int (nI x))] [] (x_si (x_si w 36 16 (nI p)) 36 18 (nI x / 2)) Q))) ∧ (¬ (¬ nI x = (1 : Int32)) → x_R x_prog scr 49 253 [some (.ref 36), some (.int (nI x))] [] (x_si (x_si w 36 16 (nI p)) 36 18 9999) Q)) := by
  have g1 : nI x = 1 ↔ x = 1 := nI_eq (b := 1) (by omega) (by omega)
  have e2 : nI x - nI x / 2 * 2 = nI (x % 2) := by
    have a2 : (2 : Int32) = nI 2 := rfl
    rw [nI_div2 (by omega), a2, pk_mul, nI_sub (by omega)]
    congr 1
    omega
  have g2 : nI (x % 2) = 0 ↔ x % 2 = 0 := by rw [← nI_0]; exact nI_eq (by omega) (by omega)
  have n2 : ¬ (2 : Int32) = 0 := by decide
  have hF2 : ∀ v, xI mN w0 (x_si (x_si w 36 16 (nI p)) 36 18 v) := fun v => xI_si (xI_si hF ⟨rfl, Or.inl rfl⟩) ⟨rfl, Or.inr (Or.inr rfl)⟩
  rw [e2, g1, g2, nI_div2 (by omega)]
  subst hs
  refine ⟨fun z => ⟨n2, fun y => ⟨n2, b49_253 (hq _ _ (hF2 _) (Or.inl ⟨?_, rfl, ?_, ?_, ?_⟩))⟩, fun y => ⟨n2, b49_253 (hq _ _ (hF2 _) (Or.inl ⟨?_, rfl, ?_, ?_, ?_⟩))⟩⟩, fun z => b49_253 (hq _ _ (hF2 _) (Or.inr (Or.inr ⟨rfl, ?_, rfl, ?_, ?_⟩)))⟩
  · show pkm x ≤ 9999
    unfold pkm
    rw [if_neg z, if_neg y]
    omega
  · show _ = iI (pkm x)
    unfold pkm
    rw [if_neg z, if_neg y, ← iI_neg (by omega)]
    simp [y_i_si]
  · simp [y_i_si]
  · simp [y_i_si, h17, nI_1]
  · show pkm x ≤ 9999
    unfold pkm
    rw [if_neg z, if_pos (Classical.not_not.mp y)]
    omega
  · show _ = iI (pkm x)
    unfold pkm
    rw [if_neg z, if_pos (Classical.not_not.mp y), iI_n]
    simp [y_i_si]
  · simp [y_i_si]
  · simp [y_i_si, h17, nI_1]
  · show 9999 < pkm x
    unfold pkm
    rw [if_pos (Classical.not_not.mp z)]
    omega
  · simp [y_i_si]
  · simp [y_i_si, h17, nI_1]
theorem c49_p (h : SH w) (ht : TT w t sz) (ha : a ≤ sz) (h1 : x_i w 36 16 = nI a) (hp : ¬ x_i w 36 19 = 0)
    (hq : ∀ w' r, xI mN w w' → nxR true (nxP t sz a) w' r → Q (.inl (some (.int r))) w') : x_R x_prog scr 49 0 [some (.ref 36), o1] [] w Q := by
  obtain ⟨t1, t2, -, t4, -, t6⟩ := id ht
  have b1 := t2 a
  have b2 := t2 (a + 1)
  have g0 : nI a = nI sz ↔ a = sz := nI_eq (by omega) (by omega)
  have g1 : nI (a + 1) = nI sz ↔ a + 1 = sz := nI_eq (by omega) (by omega)
  have g2 : nI (t a) ≤ 127 ↔ t a < 128 := by rw [show (127 : Int32) = nI 127 from rfl, nI_leI (by omega) (by omega)]; omega
  have g3 : nI (t (a + 1)) ≤ 127 ↔ t (a + 1) < 128 := by rw [show (127 : Int32) = nI 127 from rfl, nI_leI (by omega) (by omega)]; omega
  have g4 : (128 : Int32) ≤ nI (t a) ↔ ¬ t a < 128 := by rw [show (128 : Int32) = nI 128 from rfl, nI_leI (by omega) (by omega)]; omega
  have hF : xI mN w (x_si w 36 17 (nI a)) := xI_si xI_rf ⟨rfl, Or.inr (Or.inl rfl)⟩
  have u1 : x_i (x_si w 36 17 (nI a)) 36 1 = nI sz := by simp [y_i_si, t4]
  have u16 : x_i (x_si w 36 17 (nI a)) 36 16 = nI a := by simp [y_i_si, h1]
  have u17 : x_i (x_si w 36 17 (nI a)) 36 17 = nI a := by simp [y_i_si]
  have u37 : ∀ k, x_i (x_si w 36 17 (nI a)) 37 k = nI (t k) := fun k => by simp [y_i_si, t6]
  have hc := nI_clamp (show a < 2 ^ 31 by omega)
  have hc1 := nI_clamp (show a + 1 < 2 ^ 31 by omega)
  -- the end of the text
  have fin : (nxP t sz a).2.2 = 20001 → (nxP t sz a).2.1 = sz + 1 → x_R x_prog scr 49 87 [some (.ref 36), none] [] (x_si w 36 17 (nI a)) Q := by
    intro e1 e2
    refine b49_87 ?_
    simp only [y_i_si, y_j_si, y_r_si, y_k_si, y_l_si, y_N_si, y_i_sj, y_j_sj, y_r_sj, y_k_sj, y_l_sj, y_N_sj, y_i_sr, y_j_sr, y_r_sr, y_k_sr, y_l_sr, y_N_sr, sh_k h, sh_l h, sh_n h, kk36, sr36_2 h, sr36_8 h, sr36_9 h, sr36_12 h, sr36_13 h, sr36_14 h, sr36_15 h, sr36_21 h, sr36_22 h, sr36_23 h, sr36_25 h, sr36_27 h, sr36_28 h, sr36_29 h, sr36_30 h, sr36_31 h, sr36_35 h, sr36_36 h, sr36_37 h, sr36_38 h, sr36_40 h, sr36_41 h, sr36_42 h, sr36_44 h, sr36_45 h, sr36_46 h, sr36_47 h, sr36_48 h, sr36_49 h, sr36_51 h, sr36_52 h, sr36_53 h, sr36_54 h, sr36_55 h, true_and, and_true, false_and, and_false, and_self, not_false_eq_true, not_true_eq_false, true_implies, false_implies, implies_true, true_or, or_true, or_self, if_true, if_false, Nat.reduceEqDiff, reduceIte, eq_self]
    simp only [t4, nI_1, show ¬ (1 = 17) by omega, true_and, and_true, false_and, and_false, and_self, not_false_eq_true, not_true_eq_false, true_implies, false_implies, implies_true, true_or, or_true, or_self, if_true, if_false, Nat.reduceEqDiff, reduceIte, eq_self]
    exact hq _ _ hF (Or.inr (Or.inl ⟨by rw [e1]; omega, by rw [e2]⟩))
  -- the two reads
  have go : a < sz → (t a < 128 ∨ a + 1 < sz) → x_R x_prog scr 49 94 [some (.ref 36), none] [] (x_si w 36 17 (nI a)) Q := by
    intro ha1 ha2
    have hv : vp_in (nI a) 900 := vp_in_nI (by omega) (by omega)
    have s1 : x_R x_prog scr 49 131 [some (.ref 36), none] [] (x_si w 36 17 (nI a)) Q ∨ ¬ (t a < 128 ∨ t (a + 1) < 128) := by
      by_cases hg : t a < 128 ∨ t (a + 1) < 128
      · left
        refine b49_131 ?_
        simp only [u16, u37, hc, hc1, nI_1, g4, hv, y_k_si, y_l_si, y_r_si, sh_k h, sh_l h, sh_n h, kk36, sr36_2 h, sr36_8 h, sr36_9 h, sr36_12 h, sr36_13 h, sr36_14 h, sr36_15 h, sr36_21 h, sr36_22 h, sr36_23 h, sr36_25 h, sr36_27 h, sr36_28 h, sr36_29 h, sr36_30 h, sr36_31 h, sr36_35 h, sr36_36 h, sr36_37 h, sr36_38 h, sr36_40 h, sr36_41 h, sr36_42 h, sr36_44 h, sr36_45 h, sr36_46 h, sr36_47 h, sr36_48 h, sr36_49 h, sr36_51 h, sr36_52 h, sr36_53 h, sr36_54 h, sr36_55 h, kk37, ll37, true_and, and_true, false_and, and_false, and_self, not_false_eq_true, not_true_eq_false, true_implies, false_implies, implies_true, true_or, or_true, or_self, if_true, if_false, Nat.reduceEqDiff, reduceIte, eq_self]
        by_cases hl : t a < 128
        · simp only [hl, true_and, and_true, false_and, and_false, and_self, not_false_eq_true, not_true_eq_false, true_implies, false_implies, implies_true, true_or, or_true, or_self, if_true, if_false, Nat.reduceEqDiff, reduceIte, eq_self]
          refine b49_187 ?_
          simp only [u16, u37, hc, hc1, nI_1, g4, hl, hv, y_k_si, y_l_si, y_r_si, sh_k h, sh_l h, sh_n h, kk36, sr36_2 h, sr36_8 h, sr36_9 h, sr36_12 h, sr36_13 h, sr36_14 h, sr36_15 h, sr36_21 h, sr36_22 h, sr36_23 h, sr36_25 h, sr36_27 h, sr36_28 h, sr36_29 h, sr36_30 h, sr36_31 h, sr36_35 h, sr36_36 h, sr36_37 h, sr36_38 h, sr36_40 h, sr36_41 h, sr36_42 h, sr36_44 h, sr36_45 h, sr36_46 h, sr36_47 h, sr36_48 h, sr36_49 h, sr36_51 h, sr36_52 h, sr36_53 h, sr36_54 h, sr36_55 h, kk37, ll37, true_and, and_true, false_and, and_false, and_self, not_false_eq_true, not_true_eq_false, true_implies, false_implies, implies_true, true_or, or_true, or_self, if_true, if_false, Nat.reduceEqDiff, reduceIte, eq_self]
          exact c49_f (s := nxP t sz a) (p := a + 1) (by omega) (by omega) hF u17 (by unfold nxP; rw [if_neg (by omega), if_pos hl]) hq
        · have hl2 : t (a + 1) < 128 := by omega
          have hv1 : vp_in (nI (a + 1)) 900 := vp_in_nI (by omega) (by omega)
          simp only [hl, hv1, true_and, and_true, false_and, and_false, and_self, not_false_eq_true, not_true_eq_false, true_implies, false_implies, implies_true, true_or, or_true, or_self, if_true, if_false, Nat.reduceEqDiff, reduceIte, eq_self]
          have e5 : nI (t a) - 128 + 128 * nI (t (a + 1)) = nI (t a - 128 + 128 * t (a + 1)) := by
            rw [show (128 : Int32) = nI 128 from rfl, nI_sub (by omega), pk_mul, nI_add]
          rw [e5]
          refine b49_187 ?_
          have e6 : nI a + 2 = nI (a + 2) := nI_add a 2
          simp only [u16, u37, hc, hc1, nI_1, e6, g4, hl, hv, y_k_si, y_l_si, y_r_si, sh_k h, sh_l h, sh_n h, kk36, sr36_2 h, sr36_8 h, sr36_9 h, sr36_12 h, sr36_13 h, sr36_14 h, sr36_15 h, sr36_21 h, sr36_22 h, sr36_23 h, sr36_25 h, sr36_27 h, sr36_28 h, sr36_29 h, sr36_30 h, sr36_31 h, sr36_35 h, sr36_36 h, sr36_37 h, sr36_38 h, sr36_40 h, sr36_41 h, sr36_42 h, sr36_44 h, sr36_45 h, sr36_46 h, sr36_47 h, sr36_48 h, sr36_49 h, sr36_51 h, sr36_52 h, sr36_53 h, sr36_54 h, sr36_55 h, kk37, ll37, true_and, and_true, false_and, and_false, and_self, not_false_eq_true, not_true_eq_false, true_implies, false_implies, implies_true, true_or, or_true, or_self, if_true, if_false, Nat.reduceEqDiff, reduceIte, eq_self]
          exact c49_f (s := nxP t sz a) (p := a + 2) (by omega) (by omega) hF u17 (by unfold nxP; rw [if_neg (by omega), if_neg hl, if_neg (by omega), if_neg (by omega)]) hq
      · exact Or.inr hg
    refine b49_94 ?_
    simp only [u16, u37, hc, hc1, nI_1, g2, g3, hv, y_k_si, y_l_si, y_r_si, sh_k h, sh_l h, sh_n h, kk36, sr36_2 h, sr36_8 h, sr36_9 h, sr36_12 h, sr36_13 h, sr36_14 h, sr36_15 h, sr36_21 h, sr36_22 h, sr36_23 h, sr36_25 h, sr36_27 h, sr36_28 h, sr36_29 h, sr36_30 h, sr36_31 h, sr36_35 h, sr36_36 h, sr36_37 h, sr36_38 h, sr36_40 h, sr36_41 h, sr36_42 h, sr36_44 h, sr36_45 h, sr36_46 h, sr36_47 h, sr36_48 h, sr36_49 h, sr36_51 h, sr36_52 h, sr36_53 h, sr36_54 h, sr36_55 h, kk37, ll37, true_and, and_true, false_and, and_false, and_self, not_false_eq_true, not_true_eq_false, true_implies, false_implies, implies_true, true_or, or_true, or_self, if_true, if_false, Nat.reduceEqDiff, reduceIte, eq_self]
    refine ⟨fun z => s1.resolve_right (fun q => q (Or.inl z)), fun z => ⟨vp_in_nI (by omega) (by omega), fun y => s1.resolve_right (fun q => q (Or.inr y)), fun y => ?_⟩⟩
    refine hq _ _ hF (Or.inr (Or.inl ?_))
    unfold nxP
    rw [if_neg (by omega), if_neg z, if_neg (by omega), if_pos (by omega)]
    exact ⟨by simp, rfl⟩
  refine b49_0 ?_
  simp only [hp, h1, u1, u16, u37, hc, nI_1, g0, g1, g2, sh_k h, sh_l h, sh_n h, kk36, sr36_2 h, sr36_8 h, sr36_9 h, sr36_12 h, sr36_13 h, sr36_14 h, sr36_15 h, sr36_21 h, sr36_22 h, sr36_23 h, sr36_25 h, sr36_27 h, sr36_28 h, sr36_29 h, sr36_30 h, sr36_31 h, sr36_35 h, sr36_36 h, sr36_37 h, sr36_38 h, sr36_40 h, sr36_41 h, sr36_42 h, sr36_44 h, sr36_45 h, sr36_46 h, sr36_47 h, sr36_48 h, sr36_49 h, sr36_51 h, sr36_52 h, sr36_53 h, sr36_54 h, sr36_55 h, kk37, ll37, true_and, and_true, false_and, and_false, and_self, not_false_eq_true, not_true_eq_false, true_implies, false_implies, implies_true, true_or, or_true, or_self, if_true, if_false, Nat.reduceEqDiff, reduceIte, eq_self]
  refine ⟨fun z => fin ?_ ?_, fun z => ⟨vp_in_nI (by omega) (by omega), fun y => go (by omega) (Or.inl y), fun y => ⟨fun x => go (by omega) (Or.inr (by omega)), fun x => fin ?_ ?_⟩⟩⟩
  · unfold nxP; rw [if_pos (by omega)]
  · unfold nxP; rw [if_pos (by omega)]; simp only; omega
  · unfold nxP; rw [if_neg (by omega), if_neg y, if_pos (by omega)]
  · unfold nxP; rw [if_neg (by omega), if_neg y, if_pos (by omega)]
/-- next of the reference -/
theorem c49 (h : SH w) (ht : TT w t sz) (ha : a ≤ sz) (h1 : x_i w 36 16 = nI a) (hp : x_i w 36 19 = b32 pk)
    (hq : ∀ w' r, xI mN w w' → nxR pk (nxt pk t sz a) w' r → Q (.inl (some (.int r))) w') : x_R x_prog scr 49 0 [some (.ref 36), o1] [] w Q := by
  cases pk with
  | false => exact c49_w h ht ha h1 hp hq
  | true => exact c49_p h ht ha h1 (by rw [hp]; decide) hq
/-- within -/
theorem c48 {lo hi : Int} (hlo : -9999 ≤ lo ∧ lo ≤ 9999) (hhi : -9999 ≤ hi ∧ hi ≤ 9999) (h : SH w) (ht : TT w t sz) (ha : a ≤ sz) (h1 : x_i w 36 16 = nI a) (hp : x_i w 36 19 = 0)
    (hq : ∀ w' r, xI mN w w' → ((lo ≤ (nxW t sz a).2.2 ∧ (nxW t sz a).2.2 ≤ hi ∧ r = 0 ∧ x_i w' 36 18 = iI (nxW t sz a).2.2 ∧ x_i w' 36 16 = nI (nxW t sz a).1) ∨ (¬ (lo ≤ (nxW t sz a).2.2 ∧ (nxW t sz a).2.2 ≤ hi) ∧ r = nI (nxW t sz a).2.1)) → Q (.inl (some (.int r))) w') :
    x_R x_prog scr 48 0 [some (.ref 36), some (.int (iI lo)), some (.int (iI hi)), o3] [] w Q := by
  have hrg := nxt_rg (pk := false) (sz := sz) (a := a) ht.2.1
  have hpl := nxt_pl (pk := false) (t := t) ha
  have t1 := ht.1
  have hrg : -9999 ≤ (nxW t sz a).2.2 ∧ (nxW t sz a).2.2 ≤ 20001 := hrg
  have hpl : 1 ≤ (nxW t sz a).2.1 ∧ (nxW t sz a).2.1 ≤ sz + 1 := hpl
  refine b48_0 ?_
  simp only [sh_k h, sh_l h, sh_n h, kk36, sr36_2 h, sr36_8 h, sr36_9 h, sr36_12 h, sr36_13 h, sr36_14 h, sr36_15 h, sr36_21 h, sr36_22 h, sr36_23 h, sr36_25 h, sr36_27 h, sr36_28 h, sr36_29 h, sr36_30 h, sr36_31 h, sr36_35 h, sr36_36 h, sr36_37 h, sr36_38 h, sr36_40 h, sr36_41 h, sr36_42 h, sr36_44 h, sr36_45 h, sr36_46 h, sr36_47 h, sr36_48 h, sr36_49 h, sr36_51 h, sr36_52 h, sr36_53 h, sr36_54 h, sr36_55 h, true_and, and_true, false_and, and_false, and_self, not_false_eq_true, not_true_eq_false, true_implies, false_implies, implies_true, true_or, or_true, or_self, if_true, if_false, Nat.reduceEqDiff, reduceIte, eq_self]
  refine c49_w (pk := false) h ht ha h1 hp (fun w1 r q1 q2 => ?_)
  have hs1 := sh_I q1 h
  rcases q2 with ⟨q2, rfl, q3, q4, q5⟩ | ⟨q2, rfl⟩ | ⟨q2, -⟩
  · refine b48_4 ⟨fun _ => ?_, fun z => absurd (by decide) z⟩
    simp only [sh_k hs1, sh_l hs1, sh_n hs1, kk36, sr36_2 hs1, sr36_8 hs1, sr36_9 hs1, sr36_12 hs1, sr36_13 hs1, sr36_14 hs1, sr36_15 hs1, sr36_21 hs1, sr36_22 hs1, sr36_23 hs1, sr36_25 hs1, sr36_27 hs1, sr36_28 hs1, sr36_29 hs1, sr36_30 hs1, sr36_31 hs1, sr36_35 hs1, sr36_36 hs1, sr36_37 hs1, sr36_38 hs1, sr36_40 hs1, sr36_41 hs1, sr36_42 hs1, sr36_44 hs1, sr36_45 hs1, sr36_46 hs1, sr36_47 hs1, sr36_48 hs1, sr36_49 hs1, sr36_51 hs1, sr36_52 hs1, sr36_53 hs1, sr36_54 hs1, sr36_55 hs1, true_and, and_true, false_and, and_false, and_self, not_false_eq_true, not_true_eq_false, true_implies, false_implies, implies_true, true_or, or_true, or_self, if_true, if_false, Nat.reduceEqDiff, reduceIte, eq_self, q3, q5]
    have g1 : iI (nxW t sz a).2.2 < iI lo ↔ (nxW t sz a).2.2 < lo := by rw [Int32.lt_iff_toInt_lt, iI_toInt (by omega) (by omega), iI_toInt (by omega) (by omega)]
    have g2 : iI (nxW t sz a).2.2 ≤ iI hi ↔ (nxW t sz a).2.2 ≤ hi := by rw [Int32.le_iff_toInt_le, iI_toInt (by omega) (by omega), iI_toInt (by omega) (by omega)]
    rw [g1, g2]
    refine ⟨fun z => hq w1 _ q1 (Or.inr ⟨by omega, rfl⟩), fun z => ⟨fun y => hq w1 _ q1 (Or.inl ⟨by omega, y, rfl, q3, q4⟩), fun y => hq w1 _ q1 (Or.inr ⟨by omega, rfl⟩)⟩⟩
  · refine b48_4 ⟨fun z => absurd z (nI_nle (by omega) (by omega)), fun _ => hq w1 _ q1 (Or.inr ⟨by omega, rfl⟩)⟩
  · cases q2
end X35
