/-! isRight, forward of the reference. -/
section X62
variable {scr : Nat × (Nat → Int32)} {w : xW} {Q : xO → xW → Prop} {w1 : xW} {t : Nat → Nat} {sz P n c g V fa d s : Nat} {hf hs : Bool} {al mk sp : Nat → Bool} {tv : Nat → Int} {tak : xTk} {cs : List (List Int)} {st : xSt} {ls tk : List Int} {nv : Nat → Bool} {m : Int32} {o : Int} {o1 o2 o3 o4 o5 o6 o7 : Option Value}
/-- implied -/
theorem c116_l (hls : cl1 ls) (hc : c < 64) : ∀ (e k : Nat) (tv : Nat → Int) (w : xW), SH w → RC w c ls → VT w tv → k + e = ls.length → (∀ w' o2, xI (fun p _ => p = 51) w w' → VT w' ((ls.drop k).foldl (fun tv l => setT tv (-l)) tv) → x_R x_prog scr 103 0 [some (.ref 36), none, none] [] w' (x_back x_prog 116 39 42 [some (.ref 36), some (.int (nI c)), some (.int o2)] [] (fun pc L st w => x_R x_prog scr 116 pc L st w Q))) →
    x_R x_prog scr 116 6 [some (.ref 36), some (.int (nI c)), some (.int (nI k))] [] w Q := by
  have hl6 := hls.1
  intro e
  induction e with
  | zero =>
    intro k tv w h hR hV hk hq
    refine b116_6 ?_
    simp only [sh_k h, sh_l h, sh_n h, kk36, sr36_2 h, sr36_8 h, sr36_9 h, sr36_12 h, sr36_13 h, sr36_14 h, sr36_15 h, sr36_21 h, sr36_22 h, sr36_23 h, sr36_25 h, sr36_27 h, sr36_28 h, sr36_29 h, sr36_30 h, sr36_31 h, sr36_35 h, sr36_36 h, sr36_37 h, sr36_38 h, sr36_40 h, sr36_41 h, sr36_42 h, sr36_44 h, sr36_45 h, sr36_46 h, sr36_47 h, sr36_48 h, sr36_49 h, sr36_51 h, sr36_52 h, sr36_53 h, sr36_54 h, sr36_55 h, kk39, ll39, nI_clamp (show c < 2 ^ 31 by omega), hR.1, true_and, and_true, false_and, and_false, and_self, not_false_eq_true, not_true_eq_false, true_implies, false_implies, implies_true, true_or, or_true, or_self, if_true, if_false, Nat.reduceEqDiff, reduceIte, eq_self, vp_in_nI (show c < 64 by omega) (show 64 < 2 ^ 31 by omega)]
    rw [List.drop_eq_nil_of_le (by omega)] at hq
    exact ⟨fun _ => hq w _ xI_rf hV, fun z => absurd (nI_le (by omega) (by omega)) z⟩
  | succ e ih =>
    intro k tv w h hR hV hk hq
    have hkl : k < ls.length := by omega
    have hlk := lok_getD hls.2.1 hkl
    have hlk' := hlk
    unfold lok at hlk'
    have e6 : (6 : Int32) * nI c + nI k = nI (6 * c + k) := by rw [show (6 : Int32) = nI 6 from rfl, pk_mul, nI_add]
    have hl2 := hR.2 k hkl
    rw [drop_c ls hkl, List.foldl_cons] at hq
    generalize ls.getD k 0 = l at *
    refine b116_6 ?_
    simp only [sh_k h, sh_l h, sh_n h, kk36, sr36_2 h, sr36_8 h, sr36_9 h, sr36_12 h, sr36_13 h, sr36_14 h, sr36_15 h, sr36_21 h, sr36_22 h, sr36_23 h, sr36_25 h, sr36_27 h, sr36_28 h, sr36_29 h, sr36_30 h, sr36_31 h, sr36_35 h, sr36_36 h, sr36_37 h, sr36_38 h, sr36_40 h, sr36_41 h, sr36_42 h, sr36_44 h, sr36_45 h, sr36_46 h, sr36_47 h, sr36_48 h, sr36_49 h, sr36_51 h, sr36_52 h, sr36_53 h, sr36_54 h, sr36_55 h, kk38, ll38, kk39, ll39, nI_clamp (show c < 2 ^ 31 by omega), hR.1, true_and, and_true, false_and, and_false, and_self, not_false_eq_true, not_true_eq_false, true_implies, false_implies, implies_true, true_or, or_true, or_self, if_true, if_false, Nat.reduceEqDiff, reduceIte, eq_self, vp_in_nI (show c < 64 by omega) (show 64 < 2 ^ 31 by omega), e6, nI_clamp (show 6 * c + k < 2 ^ 31 by omega), vp_in_nI (show 6 * c + k < 384 by omega) (show 384 < 2 ^ 31 by omega), hl2, iI_ng (show -2147483648 < l by omega) (show l < 2147483648 by omega)]
    refine ⟨fun z => absurd z (nI_ge (by omega) (by omega)), fun _ => c107 (lok_neg hlk) h hV (fun w2 u1 u2 => b116_32 ?_)⟩
    rw [nI_1]
    exact ih (k + 1) (setT tv (-l)) w2 (sh_I u1 h) (RC_I u1 hR (by omega) (by omega)) u2 (by omega) (fun w' o2 v1 v2 => hq w' o2 (xI_tr u1 v1) v2)
theorem c116 (h1 : 1 ≤ c) (h2 : c ≤ cs.length) (h : SH w) (hG : RG w cs al mk)
    (hq : ∀ w', xI mPr w w' → VT w' (base cs al mk c).1 → RK w' (rtk (base cs al mk c)) → x_i w' 36 33 = nI (base cs al mk c).2.2 → tok (base cs al mk c).1 → TI cs (base cs al mk c).1 (base cs al mk c).2.1 → (base cs al mk c).2.2 ≤ cs.length → Q (.inl (some (.int (b32 (decide (¬ (base cs al mk c).2.2 = 0)))))) w') : x_R x_prog scr 116 0 [some (.ref 36), some (.int (nI c)), o2] [] w Q := by
  have hl63 := hG.2.1
  have hco := hG.2.2.1
  have hcl := cg_ok hco c
  refine b116_0 ⟨by rw [sh_k h]; rfl, c102 h (fun w1 u1 u2 u3 => b116_4 ?_)⟩
  have hs1 := sh_I u1 h
  have G1 := RG_I u1 hG (by omega) (by omega) (by omega) (by omega) (by omega)
  refine c116_l hcl (by omega) (cg cs c).length 0 tv0 w1 hs1 (RG_RC G1 h1 h2) u2 (by omega) (fun w2 o2' x1 x2 => ?_)
  have hs2 := sh_I x1 hs1
  have G2 := RG_I x1 G1 (by omega) (by omega) (by omega) (by omega) (by omega)
  have x2 : VT w2 (tvN (cg cs c)) := x2
  refine c103 (d := 17) hs2 G2 x2 (RK_I x1 u3 (by omega) (by omega) (by omega)) (tvN_ok hcl).1 TI_nil rfl (fun w3 y1 y2 y3 y4 y5 y6 y7 => b116_42 ?_)
  have y4 : x_i w3 36 33 = nI (base cs al mk c).2.2 := y4
  have y7 : (base cs al mk c).2.2 ≤ cs.length := y7
  have g33 : nI (base cs al mk c).2.2 ≤ 0 ↔ (base cs al mk c).2.2 = 0 := by rw [← nI_0, nI_leI (by omega) (by omega)]; omega
  have fin := hq w3 (xI_tr (xI_w u1 (by unfold mPr; omega)) (xI_tr (xI_w x1 (by unfold mPr; omega)) y1)) y2 y3 y4 y5 y6 y7
  rw [y4, g33]
  refine ⟨by rw [sh_k (sh_I y1 hs2)]; rfl, fun z => ⟨Or.inl rfl, ?_⟩, fun z => ⟨Or.inr rfl, ?_⟩⟩
  · rw [decide_eq_false (fun y => y z)] at fin; exact fin
  · rw [decide_eq_true z] at fin; exact fin
/-- the values that were kept -/
def VB (w : xW) (tv : Nat → Int) : Prop := ∀ v, v ≤ 16 → x_i w 52 v = iI (tv v)
theorem c117 (h : SH w) (hV : VT w tv) (hq : ∀ w', xI (fun p _ => p = 52) w w' → VB w' tv → Q (.inl none) w') : x_R x_prog scr 117 0 [some (.ref 36), o1] [] w Q := by
  have key : ∀ (d k : Nat) (w : xW), SH w → VT w tv → k + d = 17 → (∀ j, j < k → x_i w 52 j = iI (tv j)) → (∀ w', xI (fun p _ => p = 52) w w' → VB w' tv → Q (.inl none) w') → x_R x_prog scr 117 2 [some (.ref 36), some (.int (nI k))] [] w Q := by
    intro d
    induction d with
    | zero =>
      intro k w h hV hk hz hq
      exact b117_2 ⟨fun _ => hq w xI_rf (fun j hj => hz j (by omega)), fun z => absurd (nI_le (a := 17) (by omega) (by omega)) z⟩
    | succ d ih =>
      intro k w h hV hk hz hq
      refine b117_2 ⟨fun z => absurd z (nI_ge (b := 17) (by omega) (by omega)), fun _ => ?_⟩
      simp only [sh_k h, sh_l h, sh_n h, kk36, sr36_2 h, sr36_8 h, sr36_9 h, sr36_12 h, sr36_13 h, sr36_14 h, sr36_15 h, sr36_21 h, sr36_22 h, sr36_23 h, sr36_25 h, sr36_27 h, sr36_28 h, sr36_29 h, sr36_30 h, sr36_31 h, sr36_35 h, sr36_36 h, sr36_37 h, sr36_38 h, sr36_40 h, sr36_41 h, sr36_42 h, sr36_44 h, sr36_45 h, sr36_46 h, sr36_47 h, sr36_48 h, sr36_49 h, sr36_51 h, sr36_52 h, sr36_53 h, sr36_54 h, sr36_55 h, kk51, ll51, kk52, ll52, true_and, and_true, false_and, and_false, and_self, not_false_eq_true, not_true_eq_false, true_implies, false_implies, implies_true, true_or, or_true, or_self, if_true, if_false, Nat.reduceEqDiff, reduceIte, eq_self, nI_1, nI_clamp (show k < 2 ^ 31 by omega), vp_in_nI (show k < 17 by omega) (show 17 < 2 ^ 31 by omega), hV k (by omega)]
      have F : xI (fun p _ => p = 52) w (x_si w 52 k (iI (tv k))) := xI_si xI_rf rfl
      refine ih (k + 1) _ (sh_I F h) (VT_I F hV (by omega)) (by omega) (fun j hj => ?_) (fun w' q1 q2 => hq w' (xI_tr F q1) q2)
      rw [y_i_si]
      by_cases e : j = k
      · rw [if_pos ⟨rfl, e⟩, e]
      · rw [if_neg (by omega)]; exact hz j (by omega)
  exact b117_0 (key 17 0 w h hV rfl (fun j hj => by omega) hq)
theorem c122 {b : Nat} (h : SH w) (hB : VB w tv) (hq : ∀ w', xI (fun p k => (p = 36 ∧ k = 34) ∨ p = 51) w w' → VT w' tv → x_i w' 36 34 = nI b → Q (.inl none) w') : x_R x_prog scr 122 0 [some (.ref 36), some (.int (nI b)), o2] [] w Q := by
  have key : ∀ (d k : Nat) (w : xW) (o1 : Option Value), SH w → VB w tv → k + d = 17 → (∀ j, j < k → x_i w 51 j = iI (tv j)) → (∀ w', xI (fun p _ => p = 51) w w' → VT w' tv → Q (.inl none) w') → x_R x_prog scr 122 7 [some (.ref 36), o1, some (.int (nI k))] [] w Q := by
    intro d
    induction d with
    | zero =>
      intro k w o1 h hV hk hz hq
      exact b122_7 ⟨fun _ => hq w xI_rf (fun j hj => hz j (by omega)), fun z => absurd (nI_le (a := 17) (by omega) (by omega)) z⟩
    | succ d ih =>
      intro k w o1 h hV hk hz hq
      refine b122_7 ⟨fun z => absurd z (nI_ge (b := 17) (by omega) (by omega)), fun _ => ?_⟩
      simp only [sh_k h, sh_l h, sh_n h, kk36, sr36_2 h, sr36_8 h, sr36_9 h, sr36_12 h, sr36_13 h, sr36_14 h, sr36_15 h, sr36_21 h, sr36_22 h, sr36_23 h, sr36_25 h, sr36_27 h, sr36_28 h, sr36_29 h, sr36_30 h, sr36_31 h, sr36_35 h, sr36_36 h, sr36_37 h, sr36_38 h, sr36_40 h, sr36_41 h, sr36_42 h, sr36_44 h, sr36_45 h, sr36_46 h, sr36_47 h, sr36_48 h, sr36_49 h, sr36_51 h, sr36_52 h, sr36_53 h, sr36_54 h, sr36_55 h, kk51, ll51, kk52, ll52, true_and, and_true, false_and, and_false, and_self, not_false_eq_true, not_true_eq_false, true_implies, false_implies, implies_true, true_or, or_true, or_self, if_true, if_false, Nat.reduceEqDiff, reduceIte, eq_self, nI_1, nI_clamp (show k < 2 ^ 31 by omega), vp_in_nI (show k < 17 by omega) (show 17 < 2 ^ 31 by omega), hV k (by omega)]
      have F : xI (fun p _ => p = 51) w (x_si w 51 k (iI (tv k))) := xI_si xI_rf rfl
      refine ih (k + 1) _ none (sh_I F h) (fun v hv => (xI_i F 52 v (by omega)).trans (hV v hv)) (by omega) (fun j hj => ?_) (fun w' q1 q2 => hq w' (xI_tr F q1) q2)
      rw [y_i_si]
      by_cases e : j = k
      · rw [if_pos ⟨rfl, e⟩, e]
      · rw [if_neg (by omega)]; exact hz j (by omega)
  have F1 : xI (fun p k => p = 36 ∧ k = 34) w (x_si w 36 34 (nI b)) := xI_si xI_rf ⟨rfl, rfl⟩
  refine b122_0 ⟨by rw [sh_k h]; rfl, key 17 0 _ _ (sh_I F1 h) (fun v hv => (xI_i F1 52 v (by omega)).trans (hB v hv)) rfl (fun j hj => by omega) (fun w' q1 q2 => hq w' (xI_tr (xI_w F1 (by omega)) (xI_w q1 (by omega))) q2 ?_)⟩
  rw [xI_i q1 36 34 (by omega), y_i_si, if_pos ⟨rfl, rfl⟩]
theorem wst_pre : ∃ e, (wst cs al mk tv tak o d).2.1 = tak ++ e := by
  unfold wst
  split
  · exact prg_pre _ _ _
  · exact ⟨[], by simp⟩
theorem tkF_pre : ∃ e, tkF cs al mk tv tak o d = tak ++ e := by
  obtain ⟨e, he⟩ := wst_pre (cs := cs) (al := al) (mk := mk) (tv := tv) (tak := tak) (o := o) (d := d)
  unfold tkF
  split
  · exact ⟨e, he⟩
  · exact ⟨_, by rw [he, List.append_assoc]⟩
/-- back to the base: the clauses taken by then -/
theorem RK_back {e : xTk} (hK : RK w (tak ++ e)) (q : xI (fun p k => (p = 36 ∧ k = 34) ∨ p = 51) w w1) (h34 : x_i w1 36 34 = nI tak.length) : RK w1 tak := by
  refine ⟨h34, fun k hk => ?_⟩
  have := hK.2 k (by simp; omega)
  rw [tg_pre hk] at this
  exact ⟨(xI_i q 53 k (by omega)).trans this.1, (xI_i q 54 k (by omega)).trans this.2⟩
def mRi : Nat → Nat → Prop := fun p k => (p = 36 ∧ (k = 32 ∨ k = 33 ∨ k = 34)) ∨ p = 51 ∨ p = 52 ∨ p = 53 ∨ p = 54 ∨ p = 55 ∨ p = 56
theorem c115_l (ho : lok o) (ht : tok tv) (hI : TI cs tv tak) : ∀ (e k : Nat) (w : xW) (o1 : Option Value), SH w → RG w cs al mk → VT w tv → VB w tv → RK w tak → k + e = cs.length + 1 → 1 ≤ k → (∀ w', xI mRi w w' → Q (.inl (some (.int (b32 (cnd cs al mk tv tak o e k))))) w') → x_R x_prog scr 115 47 [some (.ref 36), o1, some (.int (iI o)), some (.int (nI tak.length)), some (.int 1), some (.int (nI k))] [] w Q := by
  intro e
  induction e with
  | zero =>
    intro k w o1 h hG hV hB hK hk hk1 hq
    have hl63 := hG.2.1
    refine b115_47 ?_
    simp only [sh_k h, sh_l h, sh_n h, kk36, sr36_2 h, sr36_8 h, sr36_9 h, sr36_12 h, sr36_13 h, sr36_14 h, sr36_15 h, sr36_21 h, sr36_22 h, sr36_23 h, sr36_25 h, sr36_27 h, sr36_28 h, sr36_29 h, sr36_30 h, sr36_31 h, sr36_35 h, sr36_36 h, sr36_37 h, sr36_38 h, sr36_40 h, sr36_41 h, sr36_42 h, sr36_44 h, sr36_45 h, sr36_46 h, sr36_47 h, sr36_48 h, sr36_49 h, sr36_51 h, sr36_52 h, sr36_53 h, sr36_54 h, sr36_55 h, true_and, and_true, false_and, and_false, and_self, not_false_eq_true, not_true_eq_false, true_implies, false_implies, implies_true, true_or, or_true, or_self, if_true, if_false, Nat.reduceEqDiff, reduceIte, eq_self, hG.1]
    exact ⟨fun _ => hq w xI_rf, fun z => absurd (nI_lt (by omega) (by omega)) z⟩
  | succ e ih =>
    intro k w o1 h hG hV hB hK hk hk1 hq
    have hl63 := hG.2.1
    have hco := hG.2.2.1
    have n1 : ¬ (1 : Int32) = 0 := by decide
    unfold cnd at hq
    have skip : ¬ (al k = true ∧ o ∈ cg cs k) → ∀ o1, x_R x_prog scr 115 95 [some (.ref 36), o1, some (.int (iI o)), some (.int (nI tak.length)), some (.int 1), some (.int (nI k))] [] w Q := by
      intro z o1
      rw [if_neg z] at hq
      refine b115_95 ?_
      rw [nI_1]
      exact ih (k + 1) w _ h hG hV hB hK (by omega) (by omega) hq
    refine b115_47 ?_
    simp only [sh_k h, sh_l h, sh_n h, kk36, sr36_2 h, sr36_8 h, sr36_9 h, sr36_12 h, sr36_13 h, sr36_14 h, sr36_15 h, sr36_21 h, sr36_22 h, sr36_23 h, sr36_25 h, sr36_27 h, sr36_28 h, sr36_29 h, sr36_30 h, sr36_31 h, sr36_35 h, sr36_36 h, sr36_37 h, sr36_38 h, sr36_40 h, sr36_41 h, sr36_42 h, sr36_44 h, sr36_45 h, sr36_46 h, sr36_47 h, sr36_48 h, sr36_49 h, sr36_51 h, sr36_52 h, sr36_53 h, sr36_54 h, sr36_55 h, kk49, ll49, true_and, and_true, false_and, and_false, and_self, not_false_eq_true, not_true_eq_false, true_implies, false_implies, implies_true, true_or, or_true, or_self, if_true, if_false, Nat.reduceEqDiff, reduceIte, eq_self, hG.1, n1, nI_clamp (show k < 2 ^ 31 by omega), vp_in_nI (show k < 64 by omega) (show 64 < 2 ^ 31 by omega), hG.2.2.2.2.1 k (by omega)]
    refine ⟨fun z => absurd z (nI_nlt (by omega) (by omega)), fun _ => ?_⟩
    cases hak : al k with
    | false => exact ⟨fun _ => skip (fun z => by rw [hak] at z; cases z.1) _, fun z => absurd rfl z⟩
    | true =>
      refine ⟨fun z => absurd z (by decide), fun _ => c73 ho (by omega) h (cg_ok hco k) (RG_RC hG hk1 (by omega)) (b115_78 ?_)⟩
      by_cases hm : o ∈ cg cs k
      · rw [decide_eq_true hm]
        rw [if_pos ⟨hak, hm⟩] at hq
        refine ⟨fun z => absurd z (by decide), fun _ => ⟨by rw [sh_k h]; rfl, c118 hk1 (by omega) ho ht hI h hG hV hK (fun w1 u1 u2 _ => b115_88 ?_)⟩⟩
        have h1 := sh_I u1 h
        obtain ⟨ex, hex⟩ := tkF_pre (cs := cs) (al := al) (mk := mk) (tv := tv) (tak := tak) (o := o) (d := k)
        rw [hex] at u2
        have B1 : VB w1 tv := fun v hv => (xI_i u1 52 v (by unfold mPs; omega)).trans (hB v hv)
        refine ⟨by rw [sh_k h1]; rfl, c122 (tv := tv) h1 B1 (fun w2 v1 v2 v3 => b115_95 ?_)⟩
        rw [nI_1]
        have F2 : xI mRi w w2 := xI_tr (xI_w u1 (by unfold mPs mRi; omega)) (xI_w v1 (by unfold mRi; omega))
        have h2 := sh_I F2 h
        have G2 := RG_I F2 hG (by unfold mRi; omega) (by unfold mRi; omega) (by unfold mRi; omega) (by unfold mRi; omega) (by unfold mRi; omega)
        have K2 := RK_back u2 v1 v3
        have B2 : VB w2 tv := fun v hv => (xI_i v1 52 v (by omega)).trans (B1 v hv)
        cases hb : (wst cs al mk tv tak o k).1 with
        | true =>
          rw [hb, if_pos rfl] at hq
          exact ih (k + 1) w2 _ h2 G2 v2 B2 K2 (by omega) (by omega) (fun w' y => hq w' (xI_tr F2 y))
        | false =>
          rw [hb] at hq
          refine b115_47 ?_
          simp only [sh_k h2, sh_l h2, sh_n h2, kk36, sr36_2 h2, sr36_8 h2, sr36_9 h2, sr36_12 h2, sr36_13 h2, sr36_14 h2, sr36_15 h2, sr36_21 h2, sr36_22 h2, sr36_23 h2, sr36_25 h2, sr36_27 h2, sr36_28 h2, sr36_29 h2, sr36_30 h2, sr36_31 h2, sr36_35 h2, sr36_36 h2, sr36_37 h2, sr36_38 h2, sr36_40 h2, sr36_41 h2, sr36_42 h2, sr36_44 h2, sr36_45 h2, sr36_46 h2, sr36_47 h2, sr36_48 h2, sr36_49 h2, sr36_51 h2, sr36_52 h2, sr36_53 h2, sr36_54 h2, sr36_55 h2, true_and, and_true, false_and, and_false, and_self, not_false_eq_true, not_true_eq_false, true_implies, false_implies, implies_true, true_or, or_true, or_self, if_true, if_false, Nat.reduceEqDiff, reduceIte, eq_self, G2.1]
          exact ⟨fun _ => ⟨Or.inl rfl, hq w2 F2⟩, fun _ => ⟨fun _ => ⟨Or.inl rfl, hq w2 F2⟩, fun z => absurd rfl z⟩⟩
      · rw [decide_eq_false hm]
        exact ⟨fun _ => skip (fun z => hm z.2) _, fun z => absurd rfl z⟩
/-- isRight of the reference -/
theorem c115 (h1 : 1 ≤ c) (h2 : c ≤ cs.length) (h : SH w) (hG : RG w cs al nob) (hq : ∀ w', xI mRi w w' → Q (.inl (some (.int (b32 (isRt cs al c))))) w') : x_R x_prog scr 115 0 [some (.ref 36), some (.int (nI c)), o2, o3, o4, o5] [] w Q := by
  have hl63 := hG.2.1
  have hco := hG.2.2.1
  have hcl := cg_ok hco c
  have hl6 := hcl.1
  refine b115_0 ⟨by rw [sh_k h]; rfl, c116 h1 h2 h hG (fun w1 u1 u2 u3 u4 u5 u6 u7 => b115_5 ?_)⟩
  have hs1 := sh_I u1 h
  have F1 : xI mRi w w1 := xI_w u1 (by unfold mPr mRi; omega)
  have G1 := RG_I u1 hG (by unfold mPr; omega) (by unfold mPr; omega) (by unfold mPr; omega) (by unfold mPr; omega) (by unfold mPr; omega)
  unfold isRt at hq
  by_cases z : (base cs al nob c).2.2 = 0
  · rw [decide_eq_false (fun y => y z)]
    rw [if_neg (fun y => y z)] at hq
    have ek : rtk (base cs al nob c) = (base cs al nob c).2.1 := by unfold rtk; rw [if_pos z]
    rw [ek] at u3
    have R1 := RG_RC G1 h1 h2
    have g0 : nI (cg cs c).length = 0 ↔ (cg cs c).length = 0 := by rw [← nI_0]; exact nI_eq (by omega) (by omega)
    have e6 : (6 : Int32) * nI c = nI (6 * c) := by rw [show (6 : Int32) = nI 6 from rfl, pk_mul]
    refine ⟨fun _ => ?_, fun y => absurd rfl y⟩
    simp only [sh_k hs1, sh_l hs1, sh_n hs1, kk36, sr36_2 hs1, sr36_8 hs1, sr36_9 hs1, sr36_12 hs1, sr36_13 hs1, sr36_14 hs1, sr36_15 hs1, sr36_21 hs1, sr36_22 hs1, sr36_23 hs1, sr36_25 hs1, sr36_27 hs1, sr36_28 hs1, sr36_29 hs1, sr36_30 hs1, sr36_31 hs1, sr36_35 hs1, sr36_36 hs1, sr36_37 hs1, sr36_38 hs1, sr36_40 hs1, sr36_41 hs1, sr36_42 hs1, sr36_44 hs1, sr36_45 hs1, sr36_46 hs1, sr36_47 hs1, sr36_48 hs1, sr36_49 hs1, sr36_51 hs1, sr36_52 hs1, sr36_53 hs1, sr36_54 hs1, sr36_55 hs1, kk38, ll38, kk39, ll39, true_and, and_true, false_and, and_false, and_self, not_false_eq_true, not_true_eq_false, true_implies, false_implies, implies_true, true_or, or_true, or_self, if_true, if_false, Nat.reduceEqDiff, reduceIte, eq_self, nI_clamp (show c < 2 ^ 31 by omega), R1.1, g0, vp_in_nI (show c < 64 by omega) (show 64 < 2 ^ 31 by omega), e6, nI_clamp (show 6 * c < 2 ^ 31 by omega), vp_in_nI (show 6 * c < 384 by omega) (show 384 < 2 ^ 31 by omega)]
    refine ⟨fun y => ?_, fun y => ?_⟩
    · rw [if_neg y] at hq
      have hlit : x_i w1 38 (6 * c) = iI (piv cs c) := R1.2 0 (by omega)
      have hpk : lok (piv cs c) := lok_getD hcl.2.1 (by omega)
      have hpk' := hpk
      unfold lok at hpk'
      rw [hlit, iI_ng (by omega) (by omega), u3.1]
      refine c117 hs1 u2 (fun w2 v1 v2 => b115_41 ?_)
      have hs2 := sh_I v1 hs1
      exact c115_l (lok_neg hpk) u5 u6 cs.length 1 w2 _ hs2 (RG_I v1 G1 (by omega) (by omega) (by omega) (by omega) (by omega)) (VT_I v1 u2 (by omega)) v2 (RK_I v1 u3 (by omega) (by omega) (by omega)) (by omega) (by omega) (fun w' x => hq w' (xI_tr F1 (xI_tr (xI_w v1 (by unfold mRi; omega)) x)))
    · rw [if_pos (Classical.not_not.mp y)] at hq
      exact hq w1 F1
  · rw [decide_eq_true z]
    rw [if_pos z] at hq
    exact ⟨fun y => absurd y (by decide), fun _ => ⟨Or.inr rfl, hq w1 F1⟩⟩
def mFo : Nat → Nat → Prop := fun p k => (p = 36 ∧ (k = 32 ∨ k = 33 ∨ k = 34)) ∨ (49 ≤ p ∧ p ≤ 56)
theorem RP_F {m : Nat → Nat → Prop} (q : xI m w w1) (hm : ∀ p k, m p k → (p = 36 ∧ (k = 32 ∨ k = 33 ∨ k = 34 ∨ k = 0 ∨ k = 39 ∨ k = 43 ∨ k = 26)) ∨ (48 ≤ p ∧ p ≤ 70)) (hR : RP w hf hs V g cs st) : RP w1 hf hs V g cs st := by
  have i3 : ∀ p k, (p = 36 ∧ (k = 4 ∨ k = 5 ∨ k = 6 ∨ k = 7 ∨ k = 10 ∨ k = 11)) ∨ p = 38 ∨ p = 39 ∨ p = 40 ∨ p = 41 → x_i w1 p k = x_i w p k := fun p k hpk => xI_i q p k (fun z => by have := hm p k z; omega)
  exact ⟨⟨(i3 36 4 (by omega)).trans hR.1.1, (i3 36 5 (by omega)).trans hR.1.2.1, (i3 36 6 (by omega)).trans hR.1.2.2.1, (i3 36 7 (by omega)).trans hR.1.2.2.2.1, (i3 36 10 (by omega)).trans hR.1.2.2.2.2.1, (i3 36 11 (by omega)).trans hR.1.2.2.2.2.2⟩, fun c hc => ⟨(i3 39 _ (by omega)).trans (hR.2.1 c hc).1, fun k hk => (i3 38 _ (by omega)).trans ((hR.2.1 c hc).2 k hk)⟩, fun k hk => ⟨(i3 40 _ (by omega)).trans (hR.2.2 k hk).1, (i3 41 _ (by omega)).trans (hR.2.2 k hk).2⟩⟩
theorem c114_l (hco : cok cs) (hl : cs.length ≤ 63) (hg : g ≤ 63) (h80 : st.length ≤ 80) (hab : ∀ k, k < st.length → (sg st k).2 ≤ cs.length) (hst0 : st0 st) {M : Nat} (hM : M ≤ st.length) : ∀ (d s : Nat) (w : xW) (o1 : Option Value), SH w → RP w hf hs V g cs st → s + d = M + 1 → 1 ≤ s → (∀ w', xI mFo w w' → Q (.inl (some (.int (nI (wrg (rts cs g st) (fun s => (sg st (s - 1)).1) d s))))) w') → x_R x_prog scr 114 45 [some (.ref 36), o1, some (.int (nI M)), some (.int (nI s))] [] w Q := by
  intro d
  induction d with
  | zero =>
    intro s w o1 h hR hs hs1 hq
    exact b114_45 ⟨fun _ => hq w xI_rf, fun z => absurd (nI_lt (by omega) (by omega)) z⟩
  | succ d ih =>
    intro s w o1 h hR hs hs1 hq
    have hab' := hab (s - 1) (by omega)
    obtain ⟨e40, e41⟩ := hR.2.2 (s - 1) (by omega)
    rw [Nat.sub_add_cancel hs1] at e40 e41
    have hpred : nI s - 1 = nI (s - 1) := by
      have := nI_pred (s - 1)
      rw [Nat.sub_add_cancel hs1] at this
      exact this
    unfold wrg at hq
    refine b114_45 ⟨fun z => absurd z (nI_nlt (by omega) (by omega)), fun _ => ?_⟩
    simp only [sh_k h, sh_l h, sh_n h, kk36, sr36_2 h, sr36_8 h, sr36_9 h, sr36_12 h, sr36_13 h, sr36_14 h, sr36_15 h, sr36_21 h, sr36_22 h, sr36_23 h, sr36_25 h, sr36_27 h, sr36_28 h, sr36_29 h, sr36_30 h, sr36_31 h, sr36_35 h, sr36_36 h, sr36_37 h, sr36_38 h, sr36_40 h, sr36_41 h, sr36_42 h, sr36_44 h, sr36_45 h, sr36_46 h, sr36_47 h, sr36_48 h, sr36_49 h, sr36_51 h, sr36_52 h, sr36_53 h, sr36_54 h, sr36_55 h, kk40, ll40, true_and, and_true, false_and, and_false, and_self, not_false_eq_true, not_true_eq_false, true_implies, false_implies, implies_true, true_or, or_true, or_self, if_true, if_false, Nat.reduceEqDiff, reduceIte, eq_self, nI_clamp (show s < 2 ^ 31 by omega), vp_in_nI (show s < 81 by omega) (show 81 < 2 ^ 31 by omega), e40, nI_1, hpred]
    cases hb : (sg st (s - 1)).1 with
    | false =>
      rw [if_neg (by rw [hb]; rintro ⟨y, -⟩; cases y)] at hq
      exact ⟨fun _ => ih (s + 1) w _ h hR (by omega) (by omega) hq, fun z => absurd rfl z⟩
    | true =>
      have hge := hst0 (s - 1) hb
      refine ⟨fun z => absurd z (by decide), fun _ => c101 (st := st) (g := g) (by omega) h80 hg (fun k hk => by have := hab k hk; omega) h hR.1.2.2.1 hR.2.2 (fun w1 u1 u2 u3 => b114_66 ?_)⟩
      have h1 := sh_I u1 h
      have F1 : xI mFo w w1 := xI_w u1 (by unfold mFo; omega)
      have R1 := RP_F F1 (by unfold mFo; omega) hR
      have G1 : RG w1 cs (alv g st (s - 1)) nob := ⟨R1.1.2.2.2.1, hl, hco, R1.2.1, u2, u3⟩
      have f41 : x_i w1 41 s = nI (sg st (s - 1)).2 := (xI_i u1 41 s (by omega)).trans e41
      simp only [sh_k h1, sh_l h1, sh_n h1, kk36, sr36_2 h1, sr36_8 h1, sr36_9 h1, sr36_12 h1, sr36_13 h1, sr36_14 h1, sr36_15 h1, sr36_21 h1, sr36_22 h1, sr36_23 h1, sr36_25 h1, sr36_27 h1, sr36_28 h1, sr36_29 h1, sr36_30 h1, sr36_31 h1, sr36_35 h1, sr36_36 h1, sr36_37 h1, sr36_38 h1, sr36_40 h1, sr36_41 h1, sr36_42 h1, sr36_44 h1, sr36_45 h1, sr36_46 h1, sr36_47 h1, sr36_48 h1, sr36_49 h1, sr36_51 h1, sr36_52 h1, sr36_53 h1, sr36_54 h1, sr36_55 h1, kk41, ll41, true_and, and_true, false_and, and_false, and_self, not_false_eq_true, not_true_eq_false, true_implies, false_implies, implies_true, true_or, or_true, or_self, if_true, if_false, Nat.reduceEqDiff, reduceIte, eq_self, nI_clamp (show s < 2 ^ 31 by omega), vp_in_nI (show s < 81 by omega) (show 81 < 2 ^ 31 by omega), f41]
      refine c115 hge hab' h1 G1 (fun w2 v1 => b114_76 ?_)
      have F2 : xI mFo w w2 := xI_tr F1 (xI_w v1 (by unfold mRi mFo; omega))
      have er : isRt cs (alv g st (s - 1)) (sg st (s - 1)).2 = rts cs g st s := rfl
      rw [er, nI_1]
      cases hr : rts cs g st s with
      | true =>
        rw [if_neg (by rw [hr]; rintro ⟨-, y⟩; cases y)] at hq
        exact ⟨fun _ => ih (s + 1) w2 _ (sh_I F2 h) (RP_F F2 (by unfold mFo; omega) hR) (by omega) (by omega) (fun w' y1 => hq w' (xI_tr F2 y1)), fun z => absurd (by decide) z⟩
      | false =>
        rw [if_pos ⟨hb, hr⟩] at hq
        exact ⟨fun z => absurd rfl z, fun _ => hq w2 F2⟩
/-- forward of the reference -/
theorem c114 (h : SH w) (ht : TT w t sz) (hA : AK fa hf hs V g cs st mk sp tk) (hC : CR w fa hf hs V g cs st mk sp tk)
    (hq1 : hs = true → ∀ w', xHi w w' → TT w' t sz → x_i w' 36 0 = 0 → CR w' fa hf hs V g cs st mk sp tk → Q (.inl (some (.int (nI (fwd cs g st))))) w')
    (hq2 : hs = false → ∀ w', xHi w w' → TT w' t sz → x_i w' 36 0 = 1 → CR w' fa hf hs V g cs st mk sp tk → Q (.inl (some (.int 0))) w') : x_R x_prog scr 114 0 [some (.ref 36), o1, o2, o3] [] w Q := by
  obtain ⟨hfa, hV, hg40, hgl, hl63, hst80, hco, hst0, hrs, hsf, hmk, htl, htv⟩ := hA
  have hab := prc_ab hrs
  have k0 : x_k w 36 = 12 := by rw [sh_k h]; rfl
  have e0 : ∀ v, x_i (x_si w 36 0 v) 36 0 = v := fun v => by rw [y_i_si, if_pos ⟨rfl, rfl⟩]
  have F : ∀ v, xI (fun p k => p = 36 ∧ k = 0) w (x_si w 36 0 v) := fun v => xI_si xI_rf ⟨rfl, rfl⟩
  have h10 := hC.2.1.1.2.2.2.2.1
  refine b114_0 ?_
  rw [h10, e0, e0]
  cases hs with
  | false =>
    refine ⟨k0, fun _ => ⟨k0, k0, fun z => absurd z (by decide), fun _ => ?_⟩, fun z => absurd rfl z⟩
    obtain ⟨a1, a2, a3⟩ := CR_z (F 1) (by omega) ht hC
    exact hq2 rfl _ a1 a2 (e0 1) a3
  | true =>
    obtain ⟨a1, a2, a3⟩ := CR_z (F 0) (by omega) ht hC
    refine ⟨k0, fun z => absurd z (by decide), fun _ => ⟨k0, k0, fun _ => ⟨k0, c100 hst80 (by omega) hl63 hco (fun k hk => by have := hab k hk; omega) (sh_I (F 0) h) a3.2.1 (fun w1 u1 => b114_29 ?_)⟩, fun z => absurd (by decide) z⟩⟩
    obtain ⟨b1, b2, b3⟩ := CR_z u1 (by unfold mFe; omega) a2 a3
    have h1 := sh_I u1 (sh_I (F 0) h)
    have e00 : x_i w1 36 0 = 0 := (xI_i u1 36 0 (by unfold mFe; omega)).trans (e0 0)
    have fin : ∀ w', xI mFo w1 w' → Q (.inl (some (.int (nI (fwd cs g st))))) w' := by
      intro w' q
      obtain ⟨d1, d2, d3⟩ := CR_z q (by unfold mFo; omega) b2 b3
      exact hq1 rfl w' (xHi_tr a1 (xHi_tr b1 d1)) d2 ((xI_i q 36 0 (by unfold mFo; omega)).trans e00) d3
    have hfr := fnd_rg (cf := cfl cs g st) (st.length + 1) 0
    have hfr : fen cs g st = -1 ∨ (∃ e : Nat, fen cs g st = e ∧ 0 ≤ e ∧ e < 0 + (st.length + 1) ∧ ¬ cfl cs g st e = 0) := hfr
    unfold fwd at fin
    rcases hfr with e | ⟨e, e1, -, e3, -⟩
    · rw [e] at fin ⊢
      refine ⟨fun z => absurd z (by decide), fun _ => ⟨by rw [sh_k h1]; rfl, ?_⟩⟩
      rw [b3.2.1.1.2.2.2.2.2]
      exact c114_l hco hl63 (by omega) hst80 hab hst0 (M := st.length) (Nat.le_refl _) st.length 1 w1 _ h1 b3.2.1 (by omega) (by omega) fin
    · rw [e1] at fin ⊢
      have hM : (if (e : Int) < 0 then st.length else ((e : Int)).toNat) = e := by rw [if_neg (by omega)]; omega
      rw [hM] at fin
      rw [iI_n]
      refine ⟨fun _ => ?_, fun z => absurd (nI_pos' (by omega)) z⟩
      exact c114_l hco hl63 (by omega) hst80 hab hst0 (M := e) (by omega) e 1 w1 _ h1 b3.2.1 (by omega) (by omega) fin
end X62
