/-! Propagation on the reference's side. -/
theorem drop_c (ls : List Int) {k : Nat} (h : k < ls.length) : ls.drop k = ls.getD k 0 :: ls.drop (k + 1) := by
  rw [List.drop_eq_getElem_cons h, List.getD_eq_getElem?_getD, List.getElem?_eq_getElem h]
  rfl
section X56
variable {scr : Nat × (Nat → Int32)} {w : xW} {Q : xO → xW → Prop} {w1 : xW} {n c g : Nat} {al mk : Nat → Bool} {tv : Nat → Int} {tak : xTk} {ls : List Int} {cs : List (List Int)} {st : xSt} {l : Int} {o1 o2 o3 o4 o5 o6 o7 : Option Value}
def VT (w : xW) (tv : Nat → Int) : Prop := ∀ v, v ≤ 16 → x_i w 51 v = iI (tv v)
theorem VT_I {m : Nat → Nat → Prop} (q : xI m w w1) (h : VT w tv) (hm : ∀ k, ¬ m 51 k) : VT w1 tv := fun v hv => (xI_i q 51 v (hm v)).trans (h v hv)
theorem iI_ng {v : Int} (h1 : -2147483648 < v) (h2 : v < 2147483648) : - iI v = iI (-v) := by
  apply Int32.toInt_inj.mp
  rw [iI_toInt (by omega) (by omega), Int32.toInt_neg, iI_toInt (by omega) (by omega)]
  simp only [Int.bmod]
  omega
theorem c106 (hl : lok l) (h : SH w) (ht : tok tv) (hV : VT w tv) (hq : Q (.inl (some (.int (iI (vl tv l))))) w) : x_R x_prog scr 106 0 [some (.ref 36), some (.int (iI l))] [] w Q := by
  have hl' := hl
  unfold lok at hl'
  have hr := ht l.natAbs
  have g : iI l ≤ 0 ↔ l ≤ 0 := by rw [Int32.le_iff_toInt_le, iI_toInt (by omega) (by omega)]; rfl
  have hv := hV l.natAbs (by omega)
  unfold vl at hq
  refine b106_0 ?_
  rw [g, sr36_30 h, sh_k h, sh_l h]
  refine ⟨fun z => ?_, fun z => ?_⟩
  · have e : - iI l = nI l.natAbs := by rw [iI_ng (by omega) (by omega), ← iI_n]; congr 1; omega
    rw [e, nI_clamp (by omega), hv, iI_ng (by omega) (by omega)]
    rw [if_neg (by omega)] at hq
    exact ⟨rfl, by decide, ⟨rfl, vp_in_nI (N := 17) (by omega) (by omega)⟩, hq⟩
  · have e : iI l = nI l.natAbs := by rw [← iI_n]; congr 1; omega
    rw [e, nI_clamp (by omega), hv]
    rw [if_pos (by omega)] at hq
    exact ⟨rfl, by decide, ⟨rfl, vp_in_nI (N := 17) (by omega) (by omega)⟩, hq⟩
theorem c107 (hl : lok l) (h : SH w) (hV : VT w tv) (hq : ∀ w', xI (fun p _ => p = 51) w w' → VT w' (setT tv l) → Q (.inl none) w') : x_R x_prog scr 107 0 [some (.ref 36), some (.int (iI l))] [] w Q := by
  have hl' := hl
  unfold lok at hl'
  have g : iI l ≤ 0 ↔ l ≤ 0 := by rw [Int32.le_iff_toInt_le, iI_toInt (by omega) (by omega)]; rfl
  refine b107_0 ⟨by rw [sh_k h]; rfl, by rw [sr36_30 h]; decide, ?_⟩
  rw [sr36_30 h]
  refine c53 (by omega) (b107_8 ?_)
  rw [g, nI_clamp (by omega), sh_k h, sh_l h]
  refine ⟨fun z => ⟨⟨rfl, vp_in_nI (N := 17) (by omega) (by omega)⟩, hq _ (xI_si xI_rf rfl) (fun v hv => ?_)⟩, fun z => ⟨⟨rfl, vp_in_nI (N := 17) (by omega) (by omega)⟩, hq _ (xI_si xI_rf rfl) (fun v hv => ?_)⟩⟩
  · rw [y_i_si]
    unfold setT
    by_cases e : v = l.natAbs
    · rw [if_pos ⟨rfl, e⟩, if_pos e, if_neg (by omega)]; rfl
    · rw [if_neg (fun z => e z.2), if_neg e]; exact hV v hv
  · rw [y_i_si]
    unfold setT
    by_cases e : v = l.natAbs
    · rw [if_pos ⟨rfl, e⟩, if_pos e, if_pos (by omega)]; rfl
    · rw [if_neg (fun z => e z.2), if_neg e]; exact hV v hv
def m32 : Nat → Nat → Prop := fun p k => p = 36 ∧ k = 32
theorem c105_l (hls : cl1 ls) (hc : c < 64) (ht : tok tv) : ∀ (d k : Nat) (q : Bool × Int) (w : xW) (o4 : Option Value), SH w → RC w c ls → VT w tv → k + d = ls.length → x_i w 36 32 = iI q.2 → (q.2 = 0 ∨ lok q.2) →
    (∀ w', xI m32 w w' → x_i w' 36 32 = iI ((ls.drop k).foldl (isf tv) q).2 → Q (.inl (some (.int (b32 ((ls.drop k).foldl (isf tv) q).1)))) w') →
    x_R x_prog scr 105 9 [some (.ref 36), some (.int (nI c)), some (.int (b32 q.1)), some (.int (nI k)), o4] [] w Q := by
  have hl6 := hls.1
  intro d
  induction d with
  | zero =>
    intro k q w o4 h hR hV hk h32 hq2 hq
    have hcd : nI ls.length ≤ nI k := nI_le (by omega) (by omega)
    refine b105_9 ?_
    simp only [sh_k h, sh_l h, sh_n h, kk36, sr36_2 h, sr36_8 h, sr36_9 h, sr36_12 h, sr36_13 h, sr36_14 h, sr36_15 h, sr36_21 h, sr36_22 h, sr36_23 h, sr36_25 h, sr36_27 h, sr36_28 h, sr36_29 h, sr36_30 h, sr36_31 h, sr36_35 h, sr36_36 h, sr36_37 h, sr36_38 h, sr36_40 h, sr36_41 h, sr36_42 h, sr36_44 h, sr36_45 h, sr36_46 h, sr36_47 h, sr36_48 h, sr36_49 h, sr36_51 h, sr36_52 h, sr36_53 h, sr36_54 h, sr36_55 h, kk39, ll39, nI_clamp (show c < 2 ^ 31 by omega), hR.1, hcd, true_and, and_true, false_and, and_false, and_self, not_false_eq_true, not_true_eq_false, true_implies, false_implies, implies_true, true_or, or_true, or_self, if_true, if_false, Nat.reduceEqDiff, reduceIte, eq_self, vp_in_nI (show c < 64 by omega) (show 64 < 2 ^ 31 by omega)]
    rw [List.drop_eq_nil_of_le (by omega)] at hq
    exact ⟨by cases q.1; exact Or.inl rfl; exact Or.inr rfl, hq w xI_rf h32⟩
  | succ d ih =>
    intro k q w o4 h hR hV hk h32 hq2 hq
    have hkl : k < ls.length := by omega
    have hcd : ¬ nI ls.length ≤ nI k := nI_ge (by omega) (by omega)
    have e6 : (6 : Int32) * nI c + nI k = nI (6 * c + k) := by rw [show (6 : Int32) = nI 6 from rfl, pk_mul, nI_add]
    have hlk := lok_getD hls.2.1 hkl
    rw [drop_c ls hkl, List.foldl_cons] at hq
    generalize hl : ls.getD k 0 = l at *
    have hvr := vl_rg ht l
    have k0 : x_k w 36 = 12 := by rw [sh_k h]; rfl
    -- the end of a turn
    have tail : ∀ b : Bool, b = (isf tv q l).1 → x_R x_prog scr 106 0 [some (.ref 36), some (.int (iI l))] [] w (x_back x_prog 105 72 75 [some (.ref 36), some (.int (nI c)), some (.int (b32 b)), some (.int (nI k)), some (.int (iI l))] [.ref 36] (fun pc L st w => x_R x_prog scr 105 pc L st w Q)) := by
      intro b hb
      refine c106 hlk h ht hV (b105_75 ?_)
      have g0 : iI (vl tv l) = 0 ↔ vl tv l = 0 := iI_eq (b := 0) (by omega) (by omega) (by omega) (by omega)
      rw [g0, nI_1, h32]
      have next : ∀ v, v = iI (isf tv q l).2 → x_R x_prog scr 105 9 [some (.ref 36), some (.int (nI c)), some (.int (b32 b)), some (.int (nI (k + 1))), some (.int (iI l))] [] (x_si w 36 32 v) Q := by
        intro v hv
        have F : xI m32 w (x_si w 36 32 v) := xI_si xI_rf ⟨rfl, rfl⟩
        rw [hb]
        refine ih (k + 1) (isf tv q l) _ _ (sh_I F h) ⟨(xI_i F 39 c (by unfold m32; omega)).trans hR.1, fun j hj => (xI_i F 38 _ (by unfold m32; omega)).trans (hR.2 j hj)⟩ (VT_I F hV (by unfold m32; omega)) (by omega) (by rw [y_i_si, if_pos ⟨rfl, rfl⟩]; exact hv) ?_ (fun w' u1 u2 => hq w' (xI_tr F u1) u2)
        unfold isf
        simp only
        split
        · exact Or.inr hlk
        · exact hq2
      refine ⟨fun z => ⟨k0, k0, next _ ?_⟩, fun z => ⟨k0, next _ ?_⟩⟩
      · unfold isf; simp only; rw [if_neg z]
      · unfold isf; simp only; rw [if_pos (Classical.not_not.mp z)]
    refine b105_9 ?_
    simp only [sh_k h, sh_l h, sh_n h, kk36, sr36_2 h, sr36_8 h, sr36_9 h, sr36_12 h, sr36_13 h, sr36_14 h, sr36_15 h, sr36_21 h, sr36_22 h, sr36_23 h, sr36_25 h, sr36_27 h, sr36_28 h, sr36_29 h, sr36_30 h, sr36_31 h, sr36_35 h, sr36_36 h, sr36_37 h, sr36_38 h, sr36_40 h, sr36_41 h, sr36_42 h, sr36_44 h, sr36_45 h, sr36_46 h, sr36_47 h, sr36_48 h, sr36_49 h, sr36_51 h, sr36_52 h, sr36_53 h, sr36_54 h, sr36_55 h, kk38, ll38, kk39, ll39, nI_clamp (show c < 2 ^ 31 by omega), hR.1, hcd, true_and, and_true, false_and, and_false, and_self, not_false_eq_true, not_true_eq_false, true_implies, false_implies, implies_true, true_or, or_true, or_self, if_true, if_false, Nat.reduceEqDiff, reduceIte, eq_self, vp_in_nI (show c < 64 by omega) (show 64 < 2 ^ 31 by omega), e6, nI_clamp (show 6 * c + k < 2 ^ 31 by omega), vp_in_nI (show 6 * c + k < 384 by omega) (show 384 < 2 ^ 31 by omega), hR.2 k hkl, hl]
    cases hb1 : q.1 with
    | false =>
      refine ⟨fun _ => tail false ?_, fun z => absurd rfl z⟩
      unfold isf; rw [hb1]; rfl
    | true =>
      refine ⟨fun z => absurd z (by decide), fun _ => c106 hlk h ht hV (b105_42 ?_)⟩
      have g1 : (1 : Int32) ≤ iI (vl tv l) ↔ 1 ≤ vl tv l := by rw [Int32.le_iff_toInt_le, iI_toInt (by omega) (by omega)]; rfl
      have g2 : iI (vl tv l) < 0 ↔ vl tv l < 0 := by rw [Int32.lt_iff_toInt_lt, iI_toInt (by omega) (by omega)]; rfl
      have g3 : iI q.2 = 0 ↔ q.2 = 0 := by
        rcases hq2 with e | e
        · rw [e]; exact ⟨fun _ => rfl, fun _ => rfl⟩
        · unfold lok at e; exact iI_eq (b := 0) (by omega) (by omega) (by omega) (by omega)
      rw [g1]
      refine ⟨fun z => ⟨k0, tail false ?_⟩, fun z => ⟨k0, c106 hlk h ht hV (b105_52 ?_)⟩⟩
      · unfold isf; rw [hb1, decide_eq_false (by omega)]; rfl
      · rw [g2, h32, g3]
        have z1 : decide (vl tv l < 1) = true := decide_eq_true (by omega)
        refine ⟨fun y => ⟨k0, tail true ?_⟩, fun y => ⟨k0, fun x => ⟨k0, tail false ?_⟩, fun x => ⟨k0, tail true ?_⟩⟩⟩
        · unfold isf; rw [hb1, z1, decide_eq_true y]; rfl
        · unfold isf; rw [hb1, z1, decide_eq_false y, decide_eq_false x]; rfl
        · unfold isf; rw [hb1, z1, decide_eq_false y, decide_eq_true (Classical.not_not.mp x)]; rfl
/-- isReady -/
theorem c105 (hls : cl1 ls) (hc : c < 64) (ht : tok tv) (h : SH w) (hR : RC w c ls) (hV : VT w tv) (hq : ∀ w', xI m32 w w' → x_i w' 36 32 = iI (isr tv ls).2 → Q (.inl (some (.int (b32 (isr tv ls).1)))) w') : x_R x_prog scr 105 0 [some (.ref 36), some (.int (nI c)), o2, o3, o4] [] w Q := by
  have F : xI m32 w (x_si w 36 32 0) := xI_si xI_rf ⟨rfl, rfl⟩
  refine b105_0 ⟨by rw [sh_k h]; rfl, ?_⟩
  exact c105_l hls hc ht ls.length 0 (true, 0) _ _ (sh_I F h) ⟨(xI_i F 39 c (by unfold m32; omega)).trans hR.1, fun j hj => (xI_i F 38 _ (by unfold m32; omega)).trans (hR.2 j hj)⟩ (VT_I F hV (by unfold m32; omega)) (by omega) (by rw [y_i_si, if_pos ⟨rfl, rfl⟩]; rfl) (Or.inl rfl) (fun w' u1 u2 => hq w' (xI_tr F u1) u2)
/-- what propagation of the reference reads -/
def RG (w : xW) (cs : List (List Int)) (al mk : Nat → Bool) : Prop := x_i w 36 7 = nI cs.length ∧ cs.length ≤ 63 ∧ cok cs ∧ (∀ c, c < cs.length → RC w (c + 1) (cs.getD c [])) ∧ (∀ j, j < 64 → x_i w 49 j = b32 (al j)) ∧ (∀ j, j < 64 → x_i w 50 j = b32 (mk j))
theorem RG_I {m : Nat → Nat → Prop} (q : xI m w w1) (h : RG w cs al mk) (h1 : ¬ m 36 7) (h2 : ∀ k, ¬ m 38 k) (h3 : ∀ k, ¬ m 39 k) (h4 : ∀ k, ¬ m 49 k) (h5 : ∀ k, ¬ m 50 k) : RG w1 cs al mk :=
  ⟨(xI_i q 36 7 h1).trans h.1, h.2.1, h.2.2.1, fun c hc => RC_I q (h.2.2.2.1 c hc) (h3 _) (fun k _ => h2 _), fun j hj => (xI_i q 49 j (h4 j)).trans (h.2.2.2.2.1 j hj), fun j hj => (xI_i q 50 j (h5 j)).trans (h.2.2.2.2.2 j hj)⟩
theorem RG_RC (h : RG w cs al mk) (h1 : 1 ≤ c) (h2 : c ≤ cs.length) : RC w c (cg cs c) := by
  have := h.2.2.2.1 (c - 1) (by omega)
  rw [Nat.sub_add_cancel h1] at this
  exact this
theorem c104_l (ht : tok tv) : ∀ (d c f : Nat) (w : xW), SH w → RG w cs al mk → VT w tv → c + d = cs.length + 1 → 1 ≤ c → f ≤ 63 → (∀ w', xI m32 w w' → Q (.inl (some (.int (nI (pck (rdc cs al tv) mk d c f))))) w') → x_R x_prog scr 104 4 [some (.ref 36), some (.int (nI f)), some (.int (nI c))] [] w Q := by
  intro d
  induction d with
  | zero =>
    intro c f w h hG hV hc hc1 hf hq
    refine b104_4 ?_
    simp only [sh_k h, sh_l h, sh_n h, kk36, sr36_2 h, sr36_8 h, sr36_9 h, sr36_12 h, sr36_13 h, sr36_14 h, sr36_15 h, sr36_21 h, sr36_22 h, sr36_23 h, sr36_25 h, sr36_27 h, sr36_28 h, sr36_29 h, sr36_30 h, sr36_31 h, sr36_35 h, sr36_36 h, sr36_37 h, sr36_38 h, sr36_40 h, sr36_41 h, sr36_42 h, sr36_44 h, sr36_45 h, sr36_46 h, sr36_47 h, sr36_48 h, sr36_49 h, sr36_51 h, sr36_52 h, sr36_53 h, sr36_54 h, sr36_55 h, true_and, and_true, false_and, and_false, and_self, not_false_eq_true, not_true_eq_false, true_implies, false_implies, implies_true, true_or, or_true, or_self, if_true, if_false, Nat.reduceEqDiff, reduceIte, eq_self, hG.1]
    have := hG.2.1
    exact ⟨fun _ => hq w xI_rf, fun z => absurd (nI_lt (by omega) (by omega)) z⟩
  | succ d ih =>
    intro c f w h hG hV hc hc1 hf hq
    have hl63 := hG.2.1
    have ncd : ¬ nI cs.length < nI c := nI_nlt (by omega) (by omega)
    unfold pck at hq
    have stepn : rdc cs al tv c = false → ∀ w', xI m32 w w' → x_R x_prog scr 104 4 [some (.ref 36), some (.int (nI f)), some (.int (nI (c + 1)))] [] w' Q := by
      intro z w' F
      rw [z] at hq
      exact ih (c + 1) f w' (sh_I F h) (RG_I F hG (by unfold m32; omega) (by unfold m32; omega) (by unfold m32; omega) (by unfold m32; omega) (by unfold m32; omega)) (VT_I F hV (by unfold m32; omega)) (by omega) (by omega) hf (fun w'' u => hq w'' (xI_tr F u))
    refine b104_4 ?_
    simp only [sh_k h, sh_l h, sh_n h, kk36, sr36_2 h, sr36_8 h, sr36_9 h, sr36_12 h, sr36_13 h, sr36_14 h, sr36_15 h, sr36_21 h, sr36_22 h, sr36_23 h, sr36_25 h, sr36_27 h, sr36_28 h, sr36_29 h, sr36_30 h, sr36_31 h, sr36_35 h, sr36_36 h, sr36_37 h, sr36_38 h, sr36_40 h, sr36_41 h, sr36_42 h, sr36_44 h, sr36_45 h, sr36_46 h, sr36_47 h, sr36_48 h, sr36_49 h, sr36_51 h, sr36_52 h, sr36_53 h, sr36_54 h, sr36_55 h, kk49, ll49, true_and, and_true, false_and, and_false, and_self, not_false_eq_true, not_true_eq_false, true_implies, false_implies, implies_true, true_or, or_true, or_self, if_true, if_false, Nat.reduceEqDiff, reduceIte, eq_self, hG.1, ncd, nI_clamp (show c < 2 ^ 31 by omega), vp_in_nI (show c < 64 by omega) (show 64 < 2 ^ 31 by omega), hG.2.2.2.2.1 c (by omega), nI_1]
    cases hac : al c with
    | false =>
      refine ⟨fun _ => stepn (by unfold rdc; rw [hac]; rfl) w xI_rf, fun z => absurd rfl z⟩
    | true =>
      refine ⟨fun z => absurd z (by decide), fun _ => c105 (cg_ok hG.2.2.1 c) (by omega) ht h (RG_RC hG hc1 (by omega)) hV (fun w1 u1 u2 => b104_26 ?_)⟩
      have er : rdc cs al tv c = (isr tv (cg cs c)).1 := by unfold rdc; rw [hac, Bool.true_and]
      have h1 := sh_I u1 h
      have G1 : RG w1 cs al mk := RG_I u1 hG (by unfold m32; omega) (by unfold m32; omega) (by unfold m32; omega) (by unfold m32; omega) (by unfold m32; omega)
      have V1 : VT w1 tv := VT_I u1 hV (by unfold m32; omega)
      rw [nI_1]
      cases hb : (isr tv (cg cs c)).1 with
      | false => exact ⟨fun _ => stepn (by rw [er]; exact hb) w1 u1, fun z => absurd rfl z⟩
      | true =>
        rw [er, hb, if_pos rfl] at hq
        refine ⟨fun z => absurd z (by decide), fun _ => ?_⟩
        simp only [sh_k h1, sh_l h1, sh_n h1, kk36, sr36_2 h1, sr36_8 h1, sr36_9 h1, sr36_12 h1, sr36_13 h1, sr36_14 h1, sr36_15 h1, sr36_21 h1, sr36_22 h1, sr36_23 h1, sr36_25 h1, sr36_27 h1, sr36_28 h1, sr36_29 h1, sr36_30 h1, sr36_31 h1, sr36_35 h1, sr36_36 h1, sr36_37 h1, sr36_38 h1, sr36_40 h1, sr36_41 h1, sr36_42 h1, sr36_44 h1, sr36_45 h1, sr36_46 h1, sr36_47 h1, sr36_48 h1, sr36_49 h1, sr36_51 h1, sr36_52 h1, sr36_53 h1, sr36_54 h1, sr36_55 h1, kk50, ll50, true_and, and_true, false_and, and_false, and_self, not_false_eq_true, not_true_eq_false, true_implies, false_implies, implies_true, true_or, or_true, or_self, if_true, if_false, Nat.reduceEqDiff, reduceIte, eq_self, nI_clamp (show c < 2 ^ 31 by omega), vp_in_nI (show c < 64 by omega) (show 64 < 2 ^ 31 by omega), G1.2.2.2.2.2 c (by omega)]
        have g0 : nI f = 0 ↔ f = 0 := by rw [← nI_0]; exact nI_eq (by omega) (by omega)
        rw [g0]
        cases hmc : mk c with
        | true =>
          rw [hmc, if_pos rfl] at hq
          exact ⟨fun z => absurd z (by decide), fun _ => hq w1 u1⟩
        | false =>
          rw [hmc] at hq
          refine ⟨fun _ => ⟨fun x => ?_, fun x => ?_⟩, fun z => absurd rfl z⟩
          · rw [if_neg x] at hq
            exact ih (c + 1) f w1 h1 G1 V1 (by omega) (by omega) hf (fun w'' u => hq w'' (xI_tr u1 u))
          · rw [if_pos (Classical.not_not.mp x)] at hq
            exact ih (c + 1) c w1 h1 G1 V1 (by omega) (by omega) (by omega) (fun w'' u => hq w'' (xI_tr u1 u))
/-- pick -/
theorem c104 (ht : tok tv) (h : SH w) (hG : RG w cs al mk) (hV : VT w tv) (hq : ∀ w', xI m32 w w' → Q (.inl (some (.int (nI (pkc cs al mk tv))))) w') : x_R x_prog scr 104 0 [some (.ref 36), o1, o2] [] w Q :=
  b104_0 (c104_l ht cs.length 1 0 w h hG hV (by omega) (by omega) (by omega) hq)
/-- the clauses taken, by the reference -/
def RK (w : xW) (tak : xTk) : Prop := x_i w 36 34 = nI tak.length ∧ ∀ k, k < tak.length → x_i w 53 k = nI (tg tak k).1 ∧ x_i w 54 k = nI (tg tak k).2.natAbs
theorem RK_I {m : Nat → Nat → Prop} (q : xI m w w1) (h : RK w tak) (h1 : ¬ m 36 34) (h2 : ∀ k, ¬ m 53 k) (h3 : ∀ k, ¬ m 54 k) : RK w1 tak :=
  ⟨(xI_i q 36 34 h1).trans h.1, fun k hk => ⟨(xI_i q 53 k (h2 k)).trans (h.2 k hk).1, (xI_i q 54 k (h3 k)).trans (h.2 k hk).2⟩⟩
def rtk (r : (Nat → Int) × xTk × Nat) : xTk := if r.2.2 = 0 then r.2.1 else r.2.1 ++ [(r.2.2, 0)]
def mPr : Nat → Nat → Prop := fun p k => (p = 36 ∧ (k = 32 ∨ k = 33 ∨ k = 34)) ∨ p = 51 ∨ p = 53 ∨ p = 54
theorem RK_push {u : Int} (hl : tak.length ≤ 17) (hRK : RK w tak) : RK (x_si (x_si (x_si w 53 tak.length (nI c)) 54 tak.length (nI u.natAbs)) 36 34 (nI (tak.length + 1))) (tak ++ [(c, u)]) := by
  have hl1 : (tak ++ [(c, u)]).length = tak.length + 1 := by simp
  refine ⟨by rw [y_i_si, if_pos ⟨rfl, rfl⟩, hl1], fun k hk => ?_⟩
  rw [hl1] at hk
  rw [tg_app]
  by_cases e : k < tak.length
  · rw [if_pos e]
    refine ⟨?_, ?_⟩
    · rw [y_i_si, if_neg (by omega), y_i_si, if_neg (by omega), y_i_si, if_neg (by omega)]; exact (hRK.2 k e).1
    · rw [y_i_si, if_neg (by omega), y_i_si, if_neg (by omega), y_i_si, if_neg (by omega)]; exact (hRK.2 k e).2
  · have e2 : k = tak.length := by omega
    rw [if_neg e, if_pos e2]
    refine ⟨?_, ?_⟩
    · rw [y_i_si, if_neg (by omega), y_i_si, if_neg (by omega), y_i_si, if_pos ⟨rfl, e2⟩]
    · rw [y_i_si, if_neg (by omega), y_i_si, if_pos ⟨rfl, e2⟩]
end X56
