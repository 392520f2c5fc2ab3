/-! The stream on the class's side. -/
set_option maxRecDepth 100000 in
theorem d60_28 {scr : Nat × (Nat → Int32)} {w : xW} {Q : xO → xW → Prop} {a0 a1 : Nat} (h : (x_k w a1 = 7) ∧ (x_k w a0 = 7) ∧ (x_k w a0 = 7) ∧ (¬ x_r w a0 10 = 0) ∧ (x_k w a1 = 7) ∧ (¬ x_r w a1 10 = 0) ∧ (x_k w (x_r w a1 10) = 2 ∧ vp_in 0 (x_l w (x_r w a1 10))) ∧ (x_k w (x_r w a0 10) = 2 ∧ vp_in 0 (x_l w (x_r w a0 10))) ∧ x_R x_prog scr 60 48 [some (.ref a0), some (.ref a1)] [] (x_sj (x_si w a0 4 (x_i w a1 3)) (x_r w a0 10) (0 : Int32).toNatClampNeg (x_j w (x_r w a1 10) (0 : Int32).toNatClampNeg)) Q) : x_R x_prog scr 60 28 [some (.ref a0), some (.ref a1)] [] w Q := x_R_more (x_le_s (x_le_s x_le_nil)) (x_ex_R [48, 67, 86] 12 h)
set_option maxRecDepth 100000 in
theorem d60_48 {scr : Nat × (Nat → Int32)} {w : xW} {Q : xO → xW → Prop} {a0 a1 : Nat} (h : (x_k w a1 = 7) ∧ (¬ x_r w a1 7 = 0) ∧ (x_k w a0 = 7) ∧ (¬ x_r w a0 7 = 0) ∧ (x_k w a0 = 7) ∧ (x_k w (x_r w a1 7) = 0 ∧ x_k w (x_r w a0 7) = 0 ∧ ¬ (0 : Int32) < 0 ∧ ¬ (0 : Int32) < 0 ∧ ¬ ((x_i w a0 4) + 1) < 0 ∧ (0 : Int32).toNatClampNeg + ((x_i w a0 4) + 1).toNatClampNeg ≤ x_l w (x_r w a1 7) ∧ (0 : Int32).toNatClampNeg + ((x_i w a0 4) + 1).toNatClampNeg ≤ x_l w (x_r w a0 7)) ∧ x_R x_prog scr 60 67 [some (.ref a0), some (.ref a1)] [] (x_cp w (x_r w a1 7) (0 : Int32).toNatClampNeg (x_r w a0 7) (0 : Int32).toNatClampNeg ((x_i w a0 4) + 1).toNatClampNeg) Q) : x_R x_prog scr 60 48 [some (.ref a0), some (.ref a1)] [] w Q := x_R_more (x_le_s (x_le_s x_le_nil)) (x_ex_R [48, 67, 86] 11 h)
set_option maxRecDepth 100000 in
theorem d60_67 {scr : Nat × (Nat → Int32)} {w : xW} {Q : xO → xW → Prop} {a0 a1 : Nat} (h : (x_k w a1 = 7) ∧ (¬ x_r w a1 8 = 0) ∧ (x_k w a0 = 7) ∧ (¬ x_r w a0 8 = 0) ∧ (x_k w a0 = 7) ∧ (x_k w (x_r w a1 8) = 0 ∧ x_k w (x_r w a0 8) = 0 ∧ ¬ (0 : Int32) < 0 ∧ ¬ (0 : Int32) < 0 ∧ ¬ ((x_i w a0 4) + 1) < 0 ∧ (0 : Int32).toNatClampNeg + ((x_i w a0 4) + 1).toNatClampNeg ≤ x_l w (x_r w a1 8) ∧ (0 : Int32).toNatClampNeg + ((x_i w a0 4) + 1).toNatClampNeg ≤ x_l w (x_r w a0 8)) ∧ x_R x_prog scr 60 86 [some (.ref a0), some (.ref a1)] [] (x_cp w (x_r w a1 8) (0 : Int32).toNatClampNeg (x_r w a0 8) (0 : Int32).toNatClampNeg ((x_i w a0 4) + 1).toNatClampNeg) Q) : x_R x_prog scr 60 67 [some (.ref a0), some (.ref a1)] [] w Q := x_R_more (x_le_s (x_le_s x_le_nil)) (x_ex_R [48, 67, 86] 11 h)
set_option maxRecDepth 100000 in
theorem d60_86 {scr : Nat × (Nat → Int32)} {w : xW} {Q : xO → xW → Prop} {a0 a1 : Nat} (h : (x_k w a1 = 7) ∧ (¬ x_r w a1 6 = 0) ∧ (x_k w a0 = 7) ∧ (¬ x_r w a0 6 = 0) ∧ (x_k w a0 = 7) ∧ (x_k w (x_r w a1 6) = 0 ∧ x_k w (x_r w a0 6) = 0 ∧ ¬ (0 : Int32) < 0 ∧ ¬ (0 : Int32) < 0 ∧ ¬ (((x_i w a0 4) + 1) * 6) < 0 ∧ (0 : Int32).toNatClampNeg + (((x_i w a0 4) + 1) * 6).toNatClampNeg ≤ x_l w (x_r w a1 6) ∧ (0 : Int32).toNatClampNeg + (((x_i w a0 4) + 1) * 6).toNatClampNeg ≤ x_l w (x_r w a0 6)) ∧ Q (.inl none) (x_cp w (x_r w a1 6) (0 : Int32).toNatClampNeg (x_r w a0 6) (0 : Int32).toNatClampNeg (((x_i w a0 4) + 1) * 6).toNatClampNeg)) : x_R x_prog scr 60 86 [some (.ref a0), some (.ref a1)] [] w Q := x_R_more (x_le_s (x_le_s x_le_nil)) (x_ex_R [48, 67, 86] 14 h)
theorem y_k_cp (w : xW) (a sp b dp n : Nat) : x_k (x_cp w a sp b dp n) = x_k w := id rfl
theorem y_l_cp (w : xW) (a sp b dp n : Nat) : x_l (x_cp w a sp b dp n) = x_l w := id rfl
theorem y_r_cp (w : xW) (a sp b dp n : Nat) : x_r (x_cp w a sp b dp n) = x_r w := id rfl
theorem y_j_cp (w : xW) (a sp b dp n : Nat) : x_j (x_cp w a sp b dp n) = x_j w := id rfl
section X41
variable {scr : Nat × (Nat → Int32)} {w : xW} {Q : xO → xW → Prop} {t : Nat → Nat} {sz a D P o V g n : Nat} {pk hf hs : Bool} {ls : List Int} {cs : List (List Int)} {st : xSt} {mk sp : Nat → Bool} {o1 o2 o3 o4 : Option Value}
/-- a problem of the class -/
def PS (P : Nat) (w : xW) (hf hs : Bool) (V g : Nat) (cs : List (List Int)) (st : xSt) (mk sp : Nat → Bool) : Prop :=
  (x_i w P 0 = b32 hf ∧ x_i w P 1 = b32 hs ∧ x_i w P 2 = nI V ∧ x_i w P 3 = nI g ∧ x_i w P 4 = nI cs.length ∧ x_i w P 5 = nI st.length) ∧ PR P w cs ∧ (∀ s, s < st.length → x_i w (P + 4) (s + 1) = nI (stA st s)) ∧ (∀ s, s ≤ st.length → ∀ j, j < 64 → hc (x_j w (P + 5) s) j = alv g st s j) ∧ (∀ j, j < 64 → hc (x_j w P 11) j = mk j) ∧ (∀ j, j < 64 → hc (x_j w P 12) j = sp j)
def nob : Nat → Bool := fun _ => false
theorem PF_PS (h : PF D w V cs) : PS D w true false V cs.length cs [] nob nob := by
  obtain ⟨h0, h1, h2, h3, h4, h5, h6, h7, h8, h9, -⟩ := h
  refine ⟨⟨h0, h1, h2, h3, h4, h5⟩, h6, fun s hs => absurd hs (by simp), fun s hs j hj => ?_, fun j _ => ?_, fun j _ => ?_⟩
  · have : s = 0 := by simpa using hs
    subst this
    exact h7 j hj
  · rw [h8]; exact hc_0 j
  · rw [h9]; exact hc_0 j
/-- copyFormula -/
theorem c60 (hD : D = 5 ∨ D = 11) (hP : P = 5 ∨ P = 11) (hne : ¬ D = P) (h : SH w) (hS : PS P w hf hs V g cs st mk sp) (hg : g ≤ cs.length) (hg2 : g ≤ 63) (hco : cok cs)
    (hq : ∀ w', xF (fun p _ => D ≤ p ∧ p ≤ D + 3) (mDj D) x_no w w' → PS D w' hf false V g (cs.take g) [] nob nob → Q (.inl none) w') : x_R x_prog scr 60 0 [some (.ref D), some (.ref P)] [] w Q := by
  obtain ⟨⟨s0, s1, s2, s3, s4, s5⟩, sR, sA, sL, -, -⟩ := hS
  refine b60_0 ⟨pK h hD, c21 hD h (fun w1 p1 p2 p3 p4 p5 => b60_4 ?_)⟩
  have h1 := sh_F p1 h
  have kP := pK h1 hP
  have kD := pK h1 hD
  have eP : ∀ k, x_i w1 P k = x_i w P k := fun k => p1.2.1 P k (by omega)
  have e0 : x_i w1 P 0 = b32 hf := (eP 0).trans s0
  have e2 : ∀ v, x_i (x_si w1 D 0 v) P 2 = nI V := fun v => by rw [y_i_si, if_neg (by omega), eP, s2]
  have e3 : ∀ v u, x_i (x_si (x_si w1 D 0 v) D 2 u) P 3 = nI g := fun v u => by rw [y_i_si, if_neg (by omega), y_i_si, if_neg (by omega), eP, s3]
  rw [e0, e2, e3]
  have F3 : xF (fun p _ => D ≤ p ∧ p ≤ D + 3) (mDj D) x_no w (x_si (x_si (x_si w1 D 0 (b32 hf)) D 2 (nI V)) D 3 (nI g)) := xF_si (xF_si (xF_si (xF_w p1 (by omega) (fun _ _ z => z) (fun _ _ z => z)) (by omega)) (by omega)) (by omega)
  refine ⟨kP, ⟨kD, by cases hf; exact Or.inl rfl; exact Or.inr rfl⟩, kP, kD, kP, kD, d60_28 ?_⟩
  have h3 := sh_F F3 h
  have e4 : x_i (x_si (x_si (x_si w1 D 0 (b32 hf)) D 2 (nI V)) D 3 (nI g)) P 3 = nI g := by rw [y_i_si, if_neg (by omega)]; exact e3 _ _
  have ej : x_j (x_si (x_si (x_si w1 D 0 (b32 hf)) D 2 (nI V)) D 3 (nI g)) (P + 5) 0 = x_j w (P + 5) 0 := F3.2.2.1 (P + 5) 0 (by unfold mDj; omega)
  rw [e4, pr10 h3 hD, pr10 h3 hP, (pk5 h3 hD).1, (pk5 h3 hD).2, (pk5 h3 hP).1, (pk5 h3 hP).2, t00, ej]
  have kP3 := pK h3 hP
  have kD3 := pK h3 hD
  refine ⟨kP3, kD3, kD3, by omega, kP3, by omega, ⟨rfl, v0 (by omega) (by omega)⟩, ⟨rfl, v0 (by omega) (by omega)⟩, d60_48 ?_⟩
  generalize hw4 : x_sj (x_si (x_si (x_si (x_si w1 D 0 (b32 hf)) D 2 (nI V)) D 3 (nI g)) D 4 (nI g)) (D + 5) 0 (x_j w (P + 5) 0) = w4
  have F4 : xF (fun p _ => D ≤ p ∧ p ≤ D + 3) (mDj D) x_no w w4 := by rw [← hw4]; exact xF_sj (xF_si F3 (by omega)) (Or.inr rfl)
  have h4 := sh_F F4 h
  have f4 : x_i w4 D 4 = nI g := by rw [← hw4, y_i_sj, y_i_si, if_pos ⟨rfl, rfl⟩]
  have f3 : x_i w4 D 3 = nI g := by rw [← hw4, y_i_sj, y_i_si, if_neg (by omega), y_i_si, if_pos ⟨rfl, rfl⟩]
  have f2 : x_i w4 D 2 = nI V := by rw [← hw4, y_i_sj, y_i_si, if_neg (by omega), y_i_si, if_neg (by omega), y_i_si, if_pos ⟨rfl, rfl⟩]
  have f0 : x_i w4 D 0 = b32 hf := by rw [← hw4, y_i_sj, y_i_si, if_neg (by omega), y_i_si, if_neg (by omega), y_i_si, if_neg (by omega), y_i_si, if_pos ⟨rfl, rfl⟩]
  have f1 : x_i w4 D 1 = 0 := by rw [← hw4, y_i_sj, y_i_si, if_neg (by omega), y_i_si, if_neg (by omega), y_i_si, if_neg (by omega), y_i_si, if_neg (by omega)]; exact p2 1 (by omega)
  have f5 : x_i w4 D 5 = 0 := by rw [← hw4, y_i_sj, y_i_si, if_neg (by omega), y_i_si, if_neg (by omega), y_i_si, if_neg (by omega), y_i_si, if_neg (by omega)]; exact p2 5 (by omega)
  have fj : x_j w4 (D + 5) 0 = x_j w (P + 5) 0 := by rw [← hw4, y_j_sj, if_pos ⟨rfl, rfl⟩]
  have fj11 : x_j w4 D 11 = 0 := by rw [← hw4, y_j_sj, if_neg (by omega)]; simp only [y_j_si]; exact p4
  have fj12 : x_j w4 D 12 = 0 := by rw [← hw4, y_j_sj, if_neg (by omega)]; simp only [y_j_si]; exact p5
  clear hw4
  have c1 := nI_clamp (show g + 1 < 2 ^ 31 by omega)
  have ps : ¬ nI (g + 1) < 0 := nI_pos (by omega)
  have m0 : ¬ (0 : Int32) < 0 := by decide
  rw [f4, nI_1, pr7 h4 hD, pr7 h4 hP, (pk2 h4 hD).1, (pk2 h4 hD).2, (pk2 h4 hP).1, (pk2 h4 hP).2, t00, c1]
  refine ⟨pK h4 hP, by omega, pK h4 hD, by omega, pK h4 hD, ⟨rfl, rfl, m0, m0, ps, by omega, by omega⟩, d60_67 ?_⟩
  have F5 : xF (fun p _ => D ≤ p ∧ p ≤ D + 3) (mDj D) x_no w (x_cp w4 (P + 2) 0 (D + 2) 0 (g + 1)) := xF_cp F4 (fun k _ _ => by omega)
  have h5 := sh_F F5 h
  have g4 : x_i (x_cp w4 (P + 2) 0 (D + 2) 0 (g + 1)) D 4 = nI g := by rw [y_i_cp, if_neg (by omega), f4]
  rw [g4, nI_1, pr8 h5 hD, pr8 h5 hP, (pk3 h5 hD).1, (pk3 h5 hD).2, (pk3 h5 hP).1, (pk3 h5 hP).2, t00, c1]
  refine ⟨pK h5 hP, by omega, pK h5 hD, by omega, pK h5 hD, ⟨rfl, rfl, m0, m0, ps, by omega, by omega⟩, d60_86 ?_⟩
  have F6 : xF (fun p _ => D ≤ p ∧ p ≤ D + 3) (mDj D) x_no w (x_cp (x_cp w4 (P + 2) 0 (D + 2) 0 (g + 1)) (P + 3) 0 (D + 3) 0 (g + 1)) := xF_cp F5 (fun k _ _ => by omega)
  have h6 := sh_F F6 h
  have k4 : x_i (x_cp (x_cp w4 (P + 2) 0 (D + 2) 0 (g + 1)) (P + 3) 0 (D + 3) 0 (g + 1)) D 4 = nI g := by rw [y_i_cp, if_neg (by omega), g4]
  have e6 : nI (g + 1) * 6 = nI (6 * (g + 1)) := by rw [show (6 : Int32) = nI 6 from rfl, pk_mul, Nat.mul_comm]
  rw [k4, nI_1, e6, pr6 h6 hD, pr6 h6 hP, (pk1 h6 hD).1, (pk1 h6 hD).2, (pk1 h6 hP).1, (pk1 h6 hP).2, t00, nI_clamp (show 6 * (g + 1) < 2 ^ 31 by omega)]
  have ho : ∀ k, x_i (x_cp (x_cp (x_cp w4 (P + 2) 0 (D + 2) 0 (g + 1)) (P + 3) 0 (D + 3) 0 (g + 1)) (P + 1) 0 (D + 1) 0 (6 * (g + 1))) D k = x_i w4 D k := fun k => by
    rw [y_i_cp, if_neg (by omega), y_i_cp, if_neg (by omega), y_i_cp, if_neg (by omega)]
  have hl : (cs.take g).length = g := by rw [List.length_take]; omega
  refine ⟨pK h6 hP, by omega, pK h6 hD, by omega, pK h6 hD, ⟨rfl, rfl, m0, m0, nI_pos (by omega), by omega, by omega⟩, hq _ (xF_cp F6 (fun k _ _ => by omega)) ⟨⟨?_, ?_, ?_, ?_, ?_, ?_⟩, fun c hc => ⟨?_, ?_, fun k hk => ?_⟩, fun s hs => absurd hs (by simp), fun s hs j hj => ?_, fun j _ => ?_, fun j _ => ?_⟩⟩
  · rw [ho]; exact f0
  · rw [ho]; exact f1
  · rw [ho]; exact f2
  · rw [ho]; exact f3
  · rw [ho, hl]; exact f4
  · rw [ho]; exact f5
  · rw [hl] at hc
    have e : (cs.take g).getD c [] = cs.getD c [] := by rw [List.getD_eq_getElem?_getD, List.getD_eq_getElem?_getD, List.getElem?_take_of_lt hc]
    rw [e, y_i_cp, if_neg (by omega), y_i_cp, if_neg (by omega), y_i_cp, if_pos (by omega)]
    have e9 : 0 + (c + 1 - 0) = c + 1 := by omega
    rw [e9, F4.2.1 (P + 2) (c + 1) (by omega)]
    exact (sR c (by omega)).1
  · rw [hl] at hc
    have e : (cs.take g).getD c [] = cs.getD c [] := by rw [List.getD_eq_getElem?_getD, List.getD_eq_getElem?_getD, List.getElem?_take_of_lt hc]
    rw [e, y_i_cp, if_neg (by omega), y_i_cp, if_pos (by omega)]
    have e9 : 0 + (c + 1 - 0) = c + 1 := by omega
    rw [e9, F5.2.1 (P + 3) (c + 1) (by omega)]
    exact (sR c (by omega)).2.1
  · rw [hl] at hc
    have e : (cs.take g).getD c [] = cs.getD c [] := by rw [List.getD_eq_getElem?_getD, List.getD_eq_getElem?_getD, List.getElem?_take_of_lt hc]
    rw [e] at hk ⊢
    have := (cok_getD hco c).1
    rw [y_i_cp, if_pos (by omega)]
    have e9 : 0 + (6 * (c + 1) + k - 0) = 6 * (c + 1) + k := by omega
    rw [e9, F6.2.1 (P + 1) _ (by omega)]
    exact (sR c (by omega)).2.2 k hk
  · have : s = 0 := by simpa using hs
    subst this
    simp only [y_j_cp]
    rw [fj]
    exact sL 0 (Nat.zero_le _) j hj
  · simp only [y_j_cp]; rw [fj11]; exact hc_0 j
  · simp only [y_j_cp]; rw [fj12]; exact hc_0 j
/-- lowestAlike -/
def lbz (c : Nat) : Int64 := if c = 0 then 0 else lb c
theorem c67_l (hD : D = 5 ∨ D = 11) (h : SH w) (hn : n ≤ 63) (h4 : x_i w D 4 = nI n) {al : Int64} {m : Int32} : ∀ (d c : Nat) (o2 : Option Value), c + d = n + 1 → 1 ≤ c →
    Q (.inl (some (.long (lbz (lowA (fun c => hc al c && decide (x_i w (D + 3) c = m)) d c))))) w → x_R x_prog scr 67 3 [some (.ref D), some (.long al), o2, some (.int m), some (.int (nI c))] [] w Q := by
  intro d
  induction d with
  | zero =>
    intro c o2 hcn hc1 hq
    refine b67_3 ⟨pK h hD, fun _ => hq, fun z => absurd (by rw [h4]; exact nI_lt (by omega) (by omega)) z⟩
  | succ d ih =>
    intro c o2 hcn hc1 hq
    refine b67_3 ⟨pK h hD, fun z => absurd z (by rw [h4]; exact nI_nlt (by omega) (by omega)), fun _ => c68 (by omega) (b67_18 ?_)⟩
    rw [nI_1]
    unfold lowA at hq
    cases hb : hc al c with
    | false =>
      rw [hb] at hq
      simp only [Bool.false_and, Bool.false_eq_true, if_false] at hq
      exact ⟨fun _ => ih (c + 1) none (by omega) (by omega) hq, fun z => absurd rfl z⟩
    | true =>
      rw [hb] at hq
      simp only [Bool.true_and] at hq
      refine ⟨fun z => absurd z (by decide), fun _ => ?_⟩
      rw [pr8 h hD, (pk3 h hD).1, (pk3 h hD).2, nI_clamp (by omega)]
      refine ⟨pK h hD, by omega, ⟨rfl, vp_in_nI (by omega) (by omega)⟩, fun z => ?_, fun z => ?_⟩
      · rw [decide_eq_false z] at hq
        exact ih (c + 1) none (by omega) (by omega) hq
      · rw [decide_eq_true (Classical.not_not.mp z), if_pos rfl] at hq
        unfold lbz at hq
        rw [if_neg (by omega)] at hq
        exact hq
theorem c67 (hD : D = 5 ∨ D = 11) (h : SH w) (hn : n ≤ 63) (h4 : x_i w D 4 = nI n) {al : Int64} {m : Int32} (hq : Q (.inl (some (.long (lbz (lowA (fun c => hc al c && decide (x_i w (D + 3) c = m)) n 1))))) w) : x_R x_prog scr 67 0 [some (.ref D), some (.long al), o2, some (.int m), o4] [] w Q :=
  b67_0 (c67_l hD h hn h4 n 1 none (by omega) (by omega) hq)
end X41
