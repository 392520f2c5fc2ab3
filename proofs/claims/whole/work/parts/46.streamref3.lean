/-! stream of the reference. -/
section X46
variable {scr : Nat × (Nat → Int32)} {w : xW} {Q : xO → xW → Prop} {t : Nat → Nat} {sz a V g n row c : Nat} {pk hf hs : Bool} {ls : List Int} {cs cf : List (List Int)} {st : xSt} {rs : List (Bool × List Int)} {o1 o2 o3 o4 : Option Value}
/-- the problem of the reference -/
def RP (w : xW) (hf hs : Bool) (V g : Nat) (cs : List (List Int)) (st : xSt) : Prop := (x_i w 36 4 = b32 hf ∧ x_i w 36 5 = nI V ∧ x_i w 36 6 = nI g ∧ x_i w 36 7 = nI cs.length ∧ x_i w 36 10 = b32 hs ∧ x_i w 36 11 = nI st.length) ∧ (∀ c, c < cs.length → RC w (c + 1) (cs.getD c [])) ∧ (∀ s, s < st.length → x_i w 40 (s + 1) = b32 (sg st s).1 ∧ x_i w 41 (s + 1) = nI (sg st s).2)
theorem RC_I {m : Nat → Nat → Prop} {w1 : xW} (q : xI m w w1) (hR : RC w c ls) (h1 : ¬ m 39 c) (h2 : ∀ k, k < ls.length → ¬ m 38 (6 * c + k)) : RC w1 c ls :=
  ⟨(xI_i q 39 c h1).trans hR.1, fun k hk => (xI_i q 38 _ (h2 k hk)).trans (hR.2 k hk)⟩
theorem c69_a (hg : g ≤ 63) : ∀ (d k : Nat) (w : xW) (o1 : Option Value), SH w → k + d = 64 → x_i w 36 6 = nI g → (∀ j, j < k → x_i w 49 j = b32 (decide (1 ≤ j ∧ j ≤ g))) → (∀ w', xI (fun p _ => p = 49) w w' → (∀ j, j < 64 → x_i w' 49 j = b32 (decide (1 ≤ j ∧ j ≤ g))) → x_R x_prog scr 69 127 [some (.ref 36), none, some (.int (nI 1))] [] w' Q) →
    x_R x_prog scr 69 90 [some (.ref 36), o1, some (.int (nI k))] [] w Q := by
  intro d
  induction d with
  | zero =>
    intro k w o1 h hk h6 hz hq
    exact b69_90 ⟨fun _ => hq w xI_rf (fun j hj => hz j (by omega)), fun z => absurd (nI_le (a := 64) (by omega) (by omega)) z⟩
  | succ d ih =>
    intro k w o1 h hk h6 hz hq
    have g0 : nI k ≤ 0 ↔ k = 0 := by rw [← nI_0, nI_leI (by omega) (by omega)]; omega
    have g1 : nI g < nI k ↔ g < k := nI_ltI (by omega) (by omega)
    refine b69_90 ⟨fun z => absurd z (nI_ge (b := 64) (by omega) (by omega)), fun _ => ?_⟩
    simp only [sh_k h, sh_l h, sh_n h, kk36, sr36_2 h, sr36_8 h, sr36_9 h, sr36_12 h, sr36_13 h, sr36_14 h, sr36_15 h, sr36_21 h, sr36_22 h, sr36_23 h, sr36_25 h, sr36_27 h, sr36_28 h, sr36_29 h, sr36_30 h, sr36_31 h, sr36_35 h, sr36_36 h, sr36_37 h, sr36_38 h, sr36_40 h, sr36_41 h, sr36_42 h, sr36_44 h, sr36_45 h, sr36_46 h, sr36_47 h, sr36_48 h, sr36_49 h, sr36_51 h, sr36_52 h, sr36_53 h, sr36_54 h, sr36_55 h, kk49, ll49, true_and, and_true, false_and, and_false, and_self, not_false_eq_true, not_true_eq_false, true_implies, false_implies, implies_true, true_or, or_true, or_self, if_true, if_false, Nat.reduceEqDiff, reduceIte, eq_self, h6, g0, g1, nI_1, nI_clamp (show k < 2 ^ 31 by omega), vp_in_nI (show k < 64 by omega) (show 64 < 2 ^ 31 by omega)]
    have next : ∀ v, v = b32 (decide (1 ≤ k ∧ k ≤ g)) → x_R x_prog scr 69 90 [some (.ref 36), none, some (.int (nI (k + 1)))] [] (x_si w 49 k v) Q := by
      intro v hv
      have hF : xI (fun p _ => p = 49) w (x_si w 49 k v) := xI_si xI_rf rfl
      refine ih (k + 1) _ none (sh_si h) (by omega) (by rw [y_i_si, if_neg (by omega)]; exact h6) (fun j hj => ?_) (fun w' q1 q2 => hq w' (xI_tr hF q1) q2)
      rw [y_i_si]
      by_cases e : j = k
      · rw [if_pos ⟨rfl, e⟩, hv, e]
      · rw [if_neg (by omega)]; exact hz j (by omega)
    refine ⟨fun z => next 0 (by rw [decide_eq_false (by omega)]; rfl), fun z => ⟨fun y => next 0 (by rw [decide_eq_false (by omega)]; rfl), fun y => next 1 (by rw [decide_eq_true (by omega)]; rfl)⟩⟩
def mSL : Nat → Nat → Prop := fun p k => (p = 36 ∧ k = 7) ∨ p = 38 ∨ p = 39 ∨ p = 40 ∨ p = 41 ∨ p = 49
theorem take_s (rs : List (Bool × List Int)) {i : Nat} (hi : i < rs.length) : rs.take (i + 1) = rs.take i ++ [rg rs i] := by
  unfold rg
  rw [List.take_succ, List.getElem?_eq_getElem hi, List.getD_eq_getElem?_getD, List.getElem?_eq_getElem hi]
  rfl
theorem c69_b (hcf : cf.length ≤ 63) (h80 : rs.length ≤ 80) (h63 : cf.length + nAd rs ≤ 63) (hcof : cok cf) (hrs : ∀ s, s < rs.length → cl1 (rg rs s).2) : ∀ (d i : Nat) (w : xW) (o1 : Option Value), SH w → i + d = rs.length → x_i w 36 11 = nI rs.length → RS w rs → x_i w 36 7 = nI (prc cf (rs.take i)).1.length → cok (prc cf (rs.take i)).1 → (∀ c, c < (prc cf (rs.take i)).1.length → RC w (c + 1) ((prc cf (rs.take i)).1.getD c [])) → (∀ s, s < i → x_i w 40 (s + 1) = b32 (sg (prc cf (rs.take i)).2 s).1 ∧ x_i w 41 (s + 1) = nI (sg (prc cf (rs.take i)).2 s).2) → (∀ j, j < 64 → x_i w 49 j = b32 (alv cf.length (prc cf (rs.take i)).2 i j)) →
    (∀ w', xI mSL w w' → x_i w' 36 7 = nI (prc cf rs).1.length → (∀ c, c < (prc cf rs).1.length → RC w' (c + 1) ((prc cf rs).1.getD c [])) → (∀ s, s < rs.length → x_i w' 40 (s + 1) = b32 (sg (prc cf rs).2 s).1 ∧ x_i w' 41 (s + 1) = nI (sg (prc cf rs).2 s).2) → Q (.inl (some (.int (nI rs.length)))) w') →
    x_R x_prog scr 69 127 [some (.ref 36), o1, some (.int (nI (i + 1)))] [] w Q := by
  intro d
  induction d with
  | zero =>
    intro i w o1 h hi h11 hRS h7 hco hRC hst hal hq
    have ei : i = rs.length := by omega
    subst ei
    rw [List.take_length] at h7 hRC hst
    refine b69_127 ?_
    simp only [sh_k h, sh_l h, sh_n h, kk36, sr36_2 h, sr36_8 h, sr36_9 h, sr36_12 h, sr36_13 h, sr36_14 h, sr36_15 h, sr36_21 h, sr36_22 h, sr36_23 h, sr36_25 h, sr36_27 h, sr36_28 h, sr36_29 h, sr36_30 h, sr36_31 h, sr36_35 h, sr36_36 h, sr36_37 h, sr36_38 h, sr36_40 h, sr36_41 h, sr36_42 h, sr36_44 h, sr36_45 h, sr36_46 h, sr36_47 h, sr36_48 h, sr36_49 h, sr36_51 h, sr36_52 h, sr36_53 h, sr36_54 h, sr36_55 h, true_and, and_true, false_and, and_false, and_self, not_false_eq_true, not_true_eq_false, true_implies, false_implies, implies_true, true_or, or_true, or_self, if_true, if_false, Nat.reduceEqDiff, reduceIte, eq_self, h11]
    exact ⟨fun _ => hq w xI_rf h7 hRC hst, fun z => absurd (nI_lt (by omega) (by omega)) z⟩
  | succ d ih =>
    intro i w o1 h hi h11 hRS h7 hco hRC hst hal hq
    have hi2 : i < rs.length := by omega
    have ncd : ¬ nI rs.length < nI (i + 1) := nI_nlt (by omega) (by omega)
    have ets := take_s rs hi2
    have ep := prc_app cf (rs.take i) (rg rs i)
    rw [← ets] at ep
    have l2 : (prc cf (rs.take i)).2.length = i := by rw [prc_l2, List.length_take]; omega
    have l1 : (prc cf (rs.take i)).1.length = cf.length + nAd (rs.take i) := prc_l1 _ _
    have l1' : (prc cf (rs.take (i + 1))).1.length = cf.length + nAd (rs.take (i + 1)) := prc_l1 _ _
    have hna : nAd (rs.take (i + 1)) ≤ nAd rs := by
      unfold nAd
      exact List.Sublist.countP_le (List.take_sublist _ _)
    have hna0 : nAd (rs.take (i + 1)) = nAd (rs.take i) + if (rg rs i).1 = true then 1 else 0 := by
      rw [ets]
      unfold nAd
      rw [List.countP_append]
      simp [List.countP_cons]
    obtain ⟨r1, r2, r3⟩ := hRS i hi2
    have hl6 := r3.1
    generalize hcs : (prc cf (rs.take i)).1 = cs at *
    generalize hstt : (prc cf (rs.take i)).2 = st at *
    have epp : ap1 cf.length (prc cf (rs.take i)) (rg rs i) = ap1 cf.length (cs, st) (rg rs i) := by rw [← hcs, ← hstt]
    rw [epp] at ep
    refine b69_127 ?_
    simp only [sh_k h, sh_l h, sh_n h, kk36, sr36_2 h, sr36_8 h, sr36_9 h, sr36_12 h, sr36_13 h, sr36_14 h, sr36_15 h, sr36_21 h, sr36_22 h, sr36_23 h, sr36_25 h, sr36_27 h, sr36_28 h, sr36_29 h, sr36_30 h, sr36_31 h, sr36_35 h, sr36_36 h, sr36_37 h, sr36_38 h, sr36_40 h, sr36_41 h, sr36_42 h, sr36_44 h, sr36_45 h, sr36_46 h, sr36_47 h, sr36_48 h, sr36_49 h, sr36_51 h, sr36_52 h, sr36_53 h, sr36_54 h, sr36_55 h, kk40, ll40, kk46, ll46, true_and, and_true, false_and, and_false, and_self, not_false_eq_true, not_true_eq_false, true_implies, false_implies, implies_true, true_or, or_true, or_self, if_true, if_false, Nat.reduceEqDiff, reduceIte, eq_self, h11, ncd, nI_pred, nI_clamp (show i < 2 ^ 31 by omega), nI_clamp (show i + 1 < 2 ^ 31 by omega), vp_in_nI (show i < 81 by omega) (show 81 < 2 ^ 31 by omega), vp_in_nI (show i + 1 < 81 by omega) (show 81 < 2 ^ 31 by omega), r2]
    have F1 : xI mSL w (x_si w 40 (i + 1) (b32 (rg rs i).1)) := xI_si xI_rf (Or.inr (Or.inr (Or.inr (Or.inl rfl))))
    have G1 : xI (fun p k => p = 40 ∧ k = i + 1) w (x_si w 40 (i + 1) (b32 (rg rs i).1)) := xI_si xI_rf ⟨rfl, rfl⟩
    have e40 : x_i (x_si w 40 (i + 1) (b32 (rg rs i).1)) 40 (i + 1) = b32 (rg rs i).1 := by rw [y_i_si, if_pos ⟨rfl, rfl⟩]
    rw [e40]
    have hs1 := sh_I F1 h
    generalize hw1 : x_si w 40 (i + 1) (b32 (rg rs i).1) = w1 at F1 G1 e40 hs1
    have RS1 : ∀ {m : Nat → Nat → Prop} {w2 : xW}, xI m w w2 → (∀ k, ¬ m 44 k) → (∀ k, ¬ m 45 k) → (∀ k, ¬ m 46 k) → RS w2 rs := by
      intro m w2 q m1 m2 m3 s hs
      obtain ⟨a1, a2, a3⟩ := hRS s hs
      exact ⟨LI_I q a1 (m2 s) (fun k _ => m1 _), (xI_i q 46 s (m3 s)).trans a2, a3⟩
    refine ⟨by cases (rg rs i).1; exact Or.inl rfl; exact Or.inr rfl, fun z => ?_, fun z => ?_⟩
    · -- a deletion
      have hb : (rg rs i).1 = false := by
        cases e : (rg rs i).1 with
        | false => rfl
        | true => rw [e] at z; exact absurd z (by decide)
      have ea : ap1 cf.length (cs, st) (rg rs i) = (cs, st ++ [(false, dlt cf.length cs st (rg rs i).2)]) := by unfold ap1; rw [hb]; rfl
      rw [ea] at ep
      have hdl : dlt cf.length cs st (rg rs i).2 ≤ 63 := by
        rcases lowA_le (p := fun c => alv cf.length st st.length c && smc cs (rg rs i).2 c) cs.length 1 with h1 | h1
        · unfold dlt; rw [h1]; omega
        · unfold dlt; omega
      refine c72 (cs := cs) (al := fun c => alv cf.length st i c) (by omega) hs1 (by omega) ((xI_i G1 36 7 (by omega)).trans h7) (fun c hc => RC_I G1 (hRC c hc) (by omega) (by omega)) hco (fun c hc => (xI_i G1 49 c (by omega)).trans (hal c hc)) r3 (LI_I G1 r1 (by omega) (by omega)) (b69_214 ?_)
      have edl : lowA (fun c => alv cf.length st i c && smc cs (rg rs i).2 c) cs.length 1 = dlt cf.length cs st (rg rs i).2 := by unfold dlt; rw [l2]
      rw [edl]
      have e41 : x_i (x_si w1 41 (i + 1) (nI (dlt cf.length cs st (rg rs i).2))) 41 (i + 1) = nI (dlt cf.length cs st (rg rs i).2) := by rw [y_i_si, if_pos ⟨rfl, rfl⟩]
      simp only [sh_k hs1, sh_l hs1, sh_n hs1, kk36, sr36_2 hs1, sr36_8 hs1, sr36_9 hs1, sr36_12 hs1, sr36_13 hs1, sr36_14 hs1, sr36_15 hs1, sr36_21 hs1, sr36_22 hs1, sr36_23 hs1, sr36_25 hs1, sr36_27 hs1, sr36_28 hs1, sr36_29 hs1, sr36_30 hs1, sr36_31 hs1, sr36_35 hs1, sr36_36 hs1, sr36_37 hs1, sr36_38 hs1, sr36_40 hs1, sr36_41 hs1, sr36_42 hs1, sr36_44 hs1, sr36_45 hs1, sr36_46 hs1, sr36_47 hs1, sr36_48 hs1, sr36_49 hs1, sr36_51 hs1, sr36_52 hs1, sr36_53 hs1, sr36_54 hs1, sr36_55 hs1, kk41, ll41, kk49, ll49, true_and, and_true, false_and, and_false, and_self, not_false_eq_true, not_true_eq_false, true_implies, false_implies, implies_true, true_or, or_true, or_self, if_true, if_false, Nat.reduceEqDiff, reduceIte, eq_self, nI_clamp (show i + 1 < 2 ^ 31 by omega), vp_in_nI (show i + 1 < 81 by omega) (show 81 < 2 ^ 31 by omega), e41, nI_clamp (show dlt cf.length cs st (rg rs i).2 < 2 ^ 31 by omega), vp_in_nI (show dlt cf.length cs st (rg rs i).2 < 64 by omega) (show 64 < 2 ^ 31 by omega), nI_1]
      have G2 : xI (fun p k => (p = 40 ∧ k = i + 1) ∨ (p = 41 ∧ k = i + 1) ∨ (p = 49 ∧ k = dlt cf.length cs st (rg rs i).2)) w (x_si (x_si w1 41 (i + 1) (nI (dlt cf.length cs st (rg rs i).2))) 49 (dlt cf.length cs st (rg rs i).2) 0) := xI_si (xI_si (xI_w G1 (by omega)) (by omega)) (by omega)
      have F2 : xI mSL w (x_si (x_si w1 41 (i + 1) (nI (dlt cf.length cs st (rg rs i).2))) 49 (dlt cf.length cs st (rg rs i).2) 0) := xI_w G2 (by unfold mSL; omega)
      refine ih (i + 1) _ none (sh_I F2 h) (by omega) ((xI_i G2 36 11 (by omega)).trans h11) (RS1 G2 (by omega) (by omega) (by omega)) ?_ ?_ ?_ ?_ ?_ (fun w' u1 u2 u3 u4 => hq w' (xI_tr F2 u1) u2 u3 u4)
      · rw [ep]; exact (xI_i G2 36 7 (by omega)).trans h7
      · rw [ep]; exact hco
      · rw [ep]; exact fun c hc => RC_I G2 (hRC c hc) (by omega) (by omega)
      · rw [ep]
        intro s hs
        show x_i _ 40 (s + 1) = b32 (sg (st ++ [(false, dlt cf.length cs st (rg rs i).2)]) s).1 ∧ x_i _ 41 (s + 1) = nI (sg (st ++ [(false, dlt cf.length cs st (rg rs i).2)]) s).2
        rw [sg_app, l2]
        by_cases e : s < i
        · rw [if_pos e, xI_i G2 40 (s + 1) (by omega), xI_i G2 41 (s + 1) (by omega)]
          exact hst s e
        · have e2 : s = i := by omega
          rw [if_neg e, if_pos e2, e2, y_i_si, if_neg (by omega), y_i_si, if_neg (by omega), e40, y_i_si, if_neg (by omega), e41, hb]
          exact ⟨rfl, rfl⟩
      · rw [ep]
        intro j hj
        have := alv_last (g := cf.length) (st := st) (x := (false, dlt cf.length cs st (rg rs i).2)) j
        rw [l2] at this
        show _ = b32 (alv cf.length (st ++ [(false, dlt cf.length cs st (rg rs i).2)]) (i + 1) j)
        rw [this, y_i_si]
        by_cases e : j = dlt cf.length cs st (rg rs i).2
        · rw [if_pos ⟨rfl, e⟩, if_pos e]; rfl
        · rw [if_neg (fun z => e z.2), if_neg e, y_i_si, if_neg (by omega), xI_i G1 49 j (by omega)]
          exact hal j hj
    · -- an addition
      have hb : (rg rs i).1 = true := by
        cases e : (rg rs i).1 with
        | true => rfl
        | false => rw [e] at z; exact absurd rfl z
      have ea : ap1 cf.length (cs, st) (rg rs i) = (cs ++ [(rg rs i).2], st ++ [(true, cs.length + 1)]) := by unfold ap1; rw [hb]; rfl
      rw [ea] at ep
      rw [hb, if_pos rfl] at hna0
      have e7 : x_i w1 36 7 = nI cs.length := (xI_i G1 36 7 (by omega)).trans h7
      have e7' : x_i (x_si w1 36 7 (nI (cs.length + 1))) 36 7 = nI (cs.length + 1) := by rw [y_i_si, if_pos ⟨rfl, rfl⟩]
      rw [e7, nI_1, e7']
      have G2 : xI (fun p k => (p = 40 ∧ k = i + 1) ∨ (p = 36 ∧ k = 7)) w (x_si w1 36 7 (nI (cs.length + 1))) := xI_si (xI_w G1 (by omega)) (by omega)
      refine c54 (row := i) (c := cs.length + 1) (by omega) (by omega) (sh_I G2 h) hl6 (LI_I G2 r1 (by omega) (by omega)) (fun w3 p1 p2 => b69_179 ?_)
      have hs3 := sh_I p1 (sh_I G2 h)
      have f7 : x_i w3 36 7 = nI (cs.length + 1) := (xI_i p1 36 7 (by unfold mTO; omega)).trans e7'
      have f7' : ∀ v, x_i (x_si w3 41 (i + 1) v) 36 7 = nI (cs.length + 1) := fun v => by rw [y_i_si, if_neg (by omega), f7]
      simp only [sh_k hs3, sh_l hs3, sh_n hs3, kk36, sr36_2 hs3, sr36_8 hs3, sr36_9 hs3, sr36_12 hs3, sr36_13 hs3, sr36_14 hs3, sr36_15 hs3, sr36_21 hs3, sr36_22 hs3, sr36_23 hs3, sr36_25 hs3, sr36_27 hs3, sr36_28 hs3, sr36_29 hs3, sr36_30 hs3, sr36_31 hs3, sr36_35 hs3, sr36_36 hs3, sr36_37 hs3, sr36_38 hs3, sr36_40 hs3, sr36_41 hs3, sr36_42 hs3, sr36_44 hs3, sr36_45 hs3, sr36_46 hs3, sr36_47 hs3, sr36_48 hs3, sr36_49 hs3, sr36_51 hs3, sr36_52 hs3, sr36_53 hs3, sr36_54 hs3, sr36_55 hs3, kk41, ll41, kk49, ll49, true_and, and_true, false_and, and_false, and_self, not_false_eq_true, not_true_eq_false, true_implies, false_implies, implies_true, true_or, or_true, or_self, if_true, if_false, Nat.reduceEqDiff, reduceIte, eq_self, nI_clamp (show i + 1 < 2 ^ 31 by omega), vp_in_nI (show i + 1 < 81 by omega) (show 81 < 2 ^ 31 by omega), f7, f7', nI_clamp (show cs.length + 1 < 2 ^ 31 by omega), vp_in_nI (show cs.length + 1 < 64 by omega) (show 64 < 2 ^ 31 by omega), nI_1]
      have G3 : xI (fun p k => (p = 40 ∧ k = i + 1) ∨ (p = 36 ∧ k = 7) ∨ (p = 39 ∧ k = cs.length + 1) ∨ (p = 38 ∧ 6 * (cs.length + 1) ≤ k) ∨ (p = 41 ∧ k = i + 1) ∨ (p = 49 ∧ k = cs.length + 1)) w (x_si (x_si w3 41 (i + 1) (nI (cs.length + 1))) 49 (cs.length + 1) 1) := xI_si (xI_si (xI_tr (xI_w G2 (by omega)) (xI_w p1 (by unfold mTO; omega))) (by omega)) (by omega)
      have F2 : xI mSL w (x_si (x_si w3 41 (i + 1) (nI (cs.length + 1))) 49 (cs.length + 1) 1) := xI_w G3 (by unfold mSL; omega)
      have hlc : (cs ++ [(rg rs i).2]).length = cs.length + 1 := by simp
      refine ih (i + 1) _ none (sh_I F2 h) (by omega) ((xI_i G3 36 11 (by omega)).trans h11) (RS1 G3 (by omega) (by omega) (by omega)) ?_ ?_ ?_ ?_ ?_ (fun w' u1 u2 u3 u4 => hq w' (xI_tr F2 u1) u2 u3 u4)
      · rw [ep]
        show _ = nI (cs ++ [(rg rs i).2]).length
        rw [hlc, y_i_si, if_neg (by omega), f7']
      · rw [ep]; exact cok_app hco r3
      · rw [ep]
        intro c hc
        have hc : c < (cs ++ [(rg rs i).2]).length := hc
        show RC _ (c + 1) ((cs ++ [(rg rs i).2]).getD c [])
        rw [hlc] at hc
        rw [getD_appL]
        by_cases e : c < cs.length
        · rw [if_pos e]
          have := (cok_getD hco c).1
          exact RC_I G3 (hRC c e) (by omega) (by omega)
        · have e2 : c = cs.length := by omega
          rw [if_neg e, if_pos e2, e2]
          have G4 : xI (fun p k => p = 41 ∨ p = 49) w3 (x_si (x_si w3 41 (i + 1) (nI (cs.length + 1))) 49 (cs.length + 1) 1) := xI_si (xI_si xI_rf (Or.inl rfl)) (Or.inr rfl)
          exact RC_I G4 p2 (by omega) (by omega)
      · rw [ep]
        intro s hs
        show x_i _ 40 (s + 1) = b32 (sg (st ++ [(true, cs.length + 1)]) s).1 ∧ x_i _ 41 (s + 1) = nI (sg (st ++ [(true, cs.length + 1)]) s).2
        rw [sg_app, l2]
        by_cases e : s < i
        · rw [if_pos e, xI_i G3 40 (s + 1) (by omega), xI_i G3 41 (s + 1) (by omega)]
          exact hst s e
        · have e2 : s = i := by omega
          rw [if_neg e, if_pos e2, e2, y_i_si, if_neg (by omega), y_i_si, if_neg (by omega), xI_i p1 40 _ (by unfold mTO; omega), y_i_si, if_neg (by omega), e40, hb]
          refine ⟨rfl, ?_⟩
          rw [y_i_si, if_neg (by omega), y_i_si, if_pos ⟨rfl, rfl⟩]
      · rw [ep]
        intro j hj
        have := alv_last (g := cf.length) (st := st) (x := (true, cs.length + 1)) j
        rw [l2] at this
        show _ = b32 (alv cf.length (st ++ [(true, cs.length + 1)]) (i + 1) j)
        rw [this, y_i_si]
        by_cases e : j = cs.length + 1
        · rw [if_pos ⟨rfl, e⟩, if_pos e]; rfl
        · rw [if_neg (fun z => e z.2), if_neg e, y_i_si, if_neg (by omega), xI_i p1 49 j (by unfold mTO; omega), xI_i G2 49 j (by omega)]
          exact hal j hj
end X46
