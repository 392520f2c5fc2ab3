/-! Writing the record, by the reference. -/
/-- the hints of a line that had room -/
def htr (l : Nat) (h : List Int) : List Int := h.take (min (l + h.length) 2400 - min l 2400)
theorem htr_len (l : Nat) (h : List Int) : (htr l h).length = min (l + h.length) 2400 - min l 2400 := by
  unfold htr
  rw [List.length_take]
  omega
theorem htr_all {l : Nat} {h : List Int} (hl : l + h.length ≤ 2400) : htr l h = h := by
  unfold htr
  rw [List.take_of_length_le (by omega)]
def plR (cs : List (List Int)) (E : Nat) (H0 : List Int) (LU : Nat → Int) : Nat → List xLn → List Int
  | _, [] => lnT E [] (htr 0 H0)
  | i, x :: r => lnT x.1 (cg cs x.1) (htr (tot H0 r) (hx x)) ++ (drs x.1 (fun d => decide (LU d = (i : Int))) 63 ++ plR cs E H0 LU (i + 1) r)
/-- the last lines that name clauses -/
def lus (i : Nat) (h : List Int) (LU : Nat → Int) : Nat → Int := fun d => if inL h d = true then (i : Int) else LU d
def luR (H0 : List Int) : Nat → List xLn → (Nat → Int) → Nat → Int
  | i, [], LU => lus i (htr 0 H0) LU
  | i, x :: r, LU => luR H0 (i + 1) r (lus i (htr (tot H0 r) (hx x)) LU)
theorem plR_ge {cs : List (List Int)} {E : Nat} {H0 : List Int} {LU : Nat → Int} : ∀ (ln : List xLn) (i : Nat), min (tot H0 ln) 2400 ≤ (plR cs E H0 LU i ln).length
  | [], i => by
    unfold plR tot
    rw [lnT_len, htr_len]
    omega
  | x :: r, i => by
    have := plR_ge (cs := cs) (E := E) (H0 := H0) (LU := LU) r (i + 1)
    unfold plR
    rw [List.length_append, List.length_append, lnT_len, htr_len]
    show min (tot H0 r + (hx x).length) 2400 ≤ _
    omega
theorem plR_le {cs : List (List Int)} {E : Nat} {H0 : List Int} {LU : Nat → Int} (hco : cok cs) : ∀ (ln : List xLn) (i : Nat), LO H0 ln → (plR cs E H0 LU i ln).length ≤ 1300 * ln.length + H0.length + 3
  | [], i, _ => by
    unfold plR
    rw [lnT_len, htr_len]
    simp
    omega
  | x :: r, i, h => by
    obtain ⟨-, h2, h3, h4⟩ := h
    have := plR_le (E := E) (LU := LU) hco r (i + 1) h4
    have l6 := (cg_ok hco x.1).1
    have l7 := drs_len (n := x.1) (f := fun d => decide (LU d = (i : Int))) (m := 63)
    unfold plR
    rw [List.length_append, List.length_append, lnT_len, htr_len, List.length_cons]
    unfold hx
    rw [List.length_append]
    omega
theorem luR_n {H0 : List Int} {d : Nat} : ∀ (ln : List xLn) (i : Nat) (LU : Nat → Int), tot H0 ln ≤ 2400 → (men H0 ln d = false → luR H0 i ln LU d = LU d) ∧ (men H0 ln d = true → (i : Int) ≤ luR H0 i ln LU d)
  | [], i, LU, h => by
    unfold tot at h
    unfold luR lus men
    rw [htr_all (by omega)]
    exact ⟨fun z => by rw [z]; rfl, fun z => by rw [if_pos z]; exact Int.le_refl _⟩
  | x :: r, i, LU, h => by
    have h : tot H0 r + (hx x).length ≤ 2400 := h
    obtain ⟨i1, i2⟩ := luR_n (H0 := H0) (d := d) r (i + 1) (lus i (htr (tot H0 r) (hx x)) LU) (by omega)
    unfold luR men
    rw [htr_all h] at i1 i2 ⊢
    cases hm : men H0 r d with
    | true =>
      have := i2 hm
      exact ⟨fun z => (by rw [Bool.or_true] at z; cases z), fun _ => by omega⟩
    | false =>
      rw [i1 hm, Bool.or_false]
      unfold lus
      exact ⟨fun z => by rw [z]; rfl, fun z => by rw [if_pos z]; exact Int.le_refl _⟩
theorem plR_eq {cs : List (List Int)} {E : Nat} {H0 : List Int} {LU : Nat → Int} (hl : cs.length ≤ 63) : ∀ (ln : List xLn) (i : Nat) (LU0 : Nat → Int), LU = luR H0 i ln LU0 → (∀ d, LU0 d < i) → tot H0 ln ≤ 2400 → LO H0 ln → (∀ d, men H0 ln d = true → d ≤ cs.length) → plR cs E H0 LU i ln = tkL cs E H0 ln
  | [], i, LU0, _, _, h, _, _ => by
    unfold tot at h
    unfold plR tkL
    rw [htr_all (by omega)]
  | x :: r, i, LU0, hLU, hlt, h, hLO, hm => by
    have h : tot H0 r + (hx x).length ≤ 2400 := h
    have hLU : LU = luR H0 (i + 1) r (lus i (htr (tot H0 r) (hx x)) LU0) := hLU
    have hmr : ∀ d, men H0 r d = true → d ≤ cs.length := fun d hd => hm d (by show (_ || men H0 r d) = true; rw [hd, Bool.or_true])
    have ih := plR_eq (cs := cs) (E := E) (H0 := H0) (LU := LU) hl r (i + 1) (lus i (htr (tot H0 r) (hx x)) LU0) hLU (fun d => by
      unfold lus
      split
      · omega
      · have := hlt d; omega) (by omega) hLO.2.2.2 hmr
    have ef : ∀ d, decide (LU d = (i : Int)) = x.2.1 d := by
      intro d
      obtain ⟨i1, i2⟩ := luR_n (H0 := H0) (d := d) r (i + 1) (lus i (htr (tot H0 r) (hx x)) LU0) (by omega)
      rw [hLO.1]
      show _ = ((inL (hx x) d || men H0 r d) && !men H0 r d)
      rw [hLU]
      cases hmd : men H0 r d with
      | true =>
        have := i2 hmd
        rw [decide_eq_false (by omega)]
        simp
      | false =>
        rw [i1 hmd]
        unfold lus
        rw [htr_all h]
        cases hi : inL (hx x) d with
        | true => simp
        | false =>
          have := hlt d
          rw [if_neg (by decide), decide_eq_false (by omega)]
          rfl
    have ed : drs x.1 (fun d => decide (LU d = (i : Int))) 63 = drs x.1 x.2.1 cs.length := by
      have : (fun d => decide (LU d = (i : Int))) = x.2.1 := funext ef
      rw [this]
      have e2 : lst x.2.1 63 1 = lst x.2.1 cs.length 1 := lst_more hl (fun j h1 h2 => by
        apply Bool.eq_false_iff.mpr
        intro z
        rw [hLO.1] at z
        simp only [Bool.and_eq_true] at z
        have := hm j z.1
        omega)
      unfold drs
      rw [e2]
    unfold plR tkL
    rw [htr_all h, ed, ih]
section X73
variable {scr : Nat × (Nat → Int32)} {w : xW} {Q : xO → xW → Prop} {w1 : xW} {n c g d V e E : Nat} {hf hs : Bool} {al mk sp : Nat → Bool} {cs : List (List Int)} {st : xSt} {H0 HT tk ls : List Int} {LU : Nat → Int} {o v : Int} {o1 o2 o3 o4 o5 o6 : Option Value}
/-- dropUnmarked -/
theorem c148 (hg : g ≤ 63) (h : SH w) (h6 : x_i w 36 6 = nI g) (hM : MA w mk) (hK : MK w tk) (htk : tk.length < 2 ^ 28) (hq : ∀ w', xI mPu w w' → MK w' (tk ++ drs g (fun d => decide (d ≤ g) && !mk d) g) → Q (.inl none) w') : x_R x_prog scr 148 0 [some (.ref 36), o1, o2] [] w Q := by
  have elst : ∀ d c, c + d = g + 1 → lst (fun d => decide (d ≤ g) && !mk d) d c = lst (fun d => !mk d) d c := fun d c hc => lst_cg _ _ (fun i h1 h2 => by rw [decide_eq_true (by omega), Bool.true_and])
  -- the second loop
  have key2 : ∀ (d c : Nat) (tk2 : List Int) (w1 : xW) (o1 : Option Value), xI mPu w w1 → MK w1 tk2 → c + d = g + 1 → tk2.length + d < 2 ^ 29 → (∀ w', xI mPu w w' → MK w' (tk2 ++ (lst (fun d => !mk d) d c ++ [0])) → Q (.inl none) w') → x_R x_prog scr 148 59 [some (.ref 36), o1, some (.int (nI c))] [] w1 Q := by
    intro d
    induction d with
    | zero =>
      intro c tk2 w1 o1 u1 u2 hc hl2 hq
      have h1 := sh_I u1 h
      have h61 : x_i w1 36 6 = nI g := (xI_i u1 36 6 (by unfold mPu; omega)).trans h6
      refine b148_59 ?_
      rw [h61, sh_k h1]
      refine ⟨rfl, fun _ => ⟨rfl, c83 (v := 0) h1 (by omega) u2 (fun w2 v1 v2 => b148_92 (hq w2 (xI_tr u1 v1) v2))⟩, fun z => absurd (nI_lt (by omega) (by omega)) z⟩
    | succ d ih =>
      intro c tk2 w1 o1 u1 u2 hc hl2 hq
      have h1 := sh_I u1 h
      have h61 : x_i w1 36 6 = nI g := (xI_i u1 36 6 (by unfold mPu; omega)).trans h6
      have e50 : x_i w1 50 c = b32 (mk c) := (xI_i u1 50 c (by unfold mPu; omega)).trans (hM c (by omega))
      unfold lst at hq
      refine b148_59 ?_
      simp only [sh_k h1, sh_l h1, sh_n h1, kk36, sr36_2 h1, sr36_8 h1, sr36_9 h1, sr36_12 h1, sr36_13 h1, sr36_14 h1, sr36_15 h1, sr36_21 h1, sr36_22 h1, sr36_23 h1, sr36_25 h1, sr36_27 h1, sr36_28 h1, sr36_29 h1, sr36_30 h1, sr36_31 h1, sr36_35 h1, sr36_36 h1, sr36_37 h1, sr36_38 h1, sr36_40 h1, sr36_41 h1, sr36_42 h1, sr36_44 h1, sr36_45 h1, sr36_46 h1, sr36_47 h1, sr36_48 h1, sr36_49 h1, sr36_51 h1, sr36_52 h1, sr36_53 h1, sr36_54 h1, sr36_55 h1, kk50, ll50, true_and, and_true, false_and, and_false, and_self, not_false_eq_true, not_true_eq_false, true_implies, false_implies, implies_true, true_or, or_true, or_self, if_true, if_false, Nat.reduceEqDiff, reduceIte, eq_self, h61, nI_clamp (show c < 2 ^ 31 by omega), vp_in_nI (show c < 64 by omega) (show 64 < 2 ^ 31 by omega), e50]
      refine ⟨fun z => absurd z (nI_nlt (by omega) (by omega)), fun _ => ?_⟩
      cases hm : mk c with
      | true =>
        rw [hm] at hq
        refine ⟨fun _ => b148_81 ?_, fun z => absurd (by decide) z⟩
        rw [nI_1]
        exact ih (c + 1) tk2 w1 _ u1 u2 (by omega) (by omega) hq
      | false =>
        rw [hm] at hq
        refine ⟨fun z => absurd rfl z, fun _ => ?_⟩
        rw [← iI_n c]
        refine c83 (v := (c : Int)) h1 (by omega) u2 (fun w2 v1 v2 => b148_81 ?_)
        rw [iI_n, nI_1]
        exact ih (c + 1) _ w2 _ (xI_tr u1 v1) v2 (by omega) (by rw [List.length_append, List.length_singleton]; omega) (fun w' y1 y2 => hq w' y1 (by rw [List.append_assoc] at y2; exact y2))
  have key1 : ∀ (d c : Nat) (b : Bool), c + d = g + 1 → 1 ≤ c → (b = true ↔ ∃ i, 1 ≤ i ∧ i < c ∧ mk i = false) → x_R x_prog scr 148 4 [some (.ref 36), some (.int (b32 b)), some (.int (nI c))] [] w Q := by
    intro d
    induction d with
    | zero =>
      intro c b hc hc1 hb
      refine b148_4 ?_
      rw [h6, sh_k h]
      refine ⟨rfl, fun _ => ?_, fun z => absurd (nI_lt (by omega) (by omega)) z⟩
      unfold drs at hq
      rw [elst g 1 (by omega)] at hq
      cases hbb : b with
      | false =>
        have en : lst (fun d => !mk d) g 1 = [] := lst_nil.mpr (fun i h1 h2 => by
          cases hm : mk i with
          | true => rfl
          | false => rw [hb.mpr ⟨i, h1, by omega, hm⟩] at hbb; cases hbb)
        rw [if_pos en] at hq
        exact ⟨fun z => absurd rfl z, fun _ => hq w xI_rf (by rw [List.append_nil]; exact hK)⟩
      | true =>
        have en : ¬ lst (fun d => !mk d) g 1 = [] := by
          intro z
          obtain ⟨i, h1, h2, h3⟩ := hb.mp hbb
          have := lst_nil.mp z i h1 (by omega)
          rw [h3] at this
          cases this
        rw [if_neg en] at hq
        refine ⟨fun _ => ⟨rfl, rfl, ?_⟩, fun z => absurd (by decide) z⟩
        rw [← iI_n g]
        refine c83 (v := (g : Int)) h (by omega) hK (fun w1 u1 u2 => b148_50 ⟨by rw [sh_k (sh_I u1 h)]; rfl, c83 (v := 10000) (sh_I u1 h) (by rw [List.length_append, List.length_singleton]; omega) u2 (fun w2 v1 v2 => b148_57 ?_)⟩)
        refine key2 g 1 _ w2 _ (xI_tr u1 v1) v2 (by omega) (by simp only [List.length_append, List.length_cons, List.length_nil]; omega) (fun w' y1 y2 => hq w' y1 ?_)
        simp only [List.append_assoc, List.cons_append, List.nil_append] at y2 ⊢
        exact y2
    | succ d ih =>
      intro c b hc hc1 hb
      refine b148_4 ?_
      simp only [sh_k h, sh_l h, sh_n h, kk36, sr36_2 h, sr36_8 h, sr36_9 h, sr36_12 h, sr36_13 h, sr36_14 h, sr36_15 h, sr36_21 h, sr36_22 h, sr36_23 h, sr36_25 h, sr36_27 h, sr36_28 h, sr36_29 h, sr36_30 h, sr36_31 h, sr36_35 h, sr36_36 h, sr36_37 h, sr36_38 h, sr36_40 h, sr36_41 h, sr36_42 h, sr36_44 h, sr36_45 h, sr36_46 h, sr36_47 h, sr36_48 h, sr36_49 h, sr36_51 h, sr36_52 h, sr36_53 h, sr36_54 h, sr36_55 h, kk50, ll50, true_and, and_true, false_and, and_false, and_self, not_false_eq_true, not_true_eq_false, true_implies, false_implies, implies_true, true_or, or_true, or_self, if_true, if_false, Nat.reduceEqDiff, reduceIte, eq_self, h6, nI_clamp (show c < 2 ^ 31 by omega), vp_in_nI (show c < 64 by omega) (show 64 < 2 ^ 31 by omega), hM c (by omega), nI_1]
      refine ⟨fun z => absurd z (nI_nlt (by omega) (by omega)), fun _ => ?_⟩
      cases hbb : b with
      | true =>
        refine ⟨fun _ => ih (c + 1) true (by omega) (by omega) ⟨fun _ => ?_, fun _ => rfl⟩, fun z => absurd (by decide) z⟩
        obtain ⟨i, h1, h2, h3⟩ := hb.mp hbb
        exact ⟨i, h1, by omega, h3⟩
      | false =>
        refine ⟨fun z => absurd rfl z, fun _ => ?_⟩
        cases hm : mk c with
        | true =>
          refine ⟨fun _ => ih (c + 1) false (by omega) (by omega) ⟨fun z => (by cases z), fun z => ?_⟩, fun z => absurd (by decide) z⟩
          obtain ⟨i, h1, h2, h3⟩ := z
          by_cases ei : i = c
          · rw [ei, hm] at h3; cases h3
          · rw [← hbb]; exact hb.mpr ⟨i, h1, by omega, h3⟩
        | false =>
          exact ⟨fun z => absurd rfl z, fun _ => ih (c + 1) true (by omega) (by omega) ⟨fun _ => ⟨c, hc1, by omega, hm⟩, fun _ => rfl⟩⟩
  exact b148_0 (key1 g 1 false (by omega) (by omega) ⟨fun z => (by cases z), fun ⟨i, h1, h2, _⟩ => by omega⟩)
def LUS (w : xW) (LU : Nat → Int) : Prop := ∀ d, d < 64 → x_i w 65 d = iI (LU d)
/-- pushLine -/
theorem c149 {i l : Nat} {hh : List Int} {last : Bool} (hi : i < 64) (hc : c ≤ 63) (hn : n ≤ 64) (hls : ls.length ≤ 6) (h : SH w) (h64 : x_i w 64 i = nI c) (hlen : c = 0 ∧ ls = [] ∨ (1 ≤ c ∧ RC w c ls)) (hH : HG w HT) (hL : HL w HT c l hh) (hHT : HT.length < 2 ^ 28) (hU : LUS w LU) (hLU : ∀ d, d < 64 → -1 ≤ LU d ∧ LU d ≤ 63) (hK : MK w tk) (htk : tk.length < 2 ^ 27)
    (hq : ∀ w', xI mPu w w' → MK w' (tk ++ (lnT n ls (htr l hh) ++ (if last = true then [] else drs n (fun d => decide (LU d = (i : Int))) 63))) → Q (.inl none) w') : x_R x_prog scr 149 0 [some (.ref 36), some (.int (nI i)), some (.int (nI n)), some (.int (b32 last)), o4, o5, o6] [] w Q := by
  obtain ⟨p, q, l1, l2, l3, l4⟩ := hL
  have hlr := htr_len l hh
  have hll : HT.length = p.length + (hh.length + q.length) := by rw [l1, List.length_append, List.length_append]
  have hA : ∀ {w1 : xW}, xI mPu w w1 → ∀ p k, (p = 36 ∧ ¬ k = 26) ∨ (37 ≤ p ∧ ¬ p = 48) → x_i w1 p k = x_i w p k := fun u p k hp => xI_i u p k (by unfold mPu; omega)
  -- the drops
  have key3 : ∀ (d k : Nat) (L : List Int) (tk2 : List Int) (w1 : xW) (o4 : Option Value), xI mPu w w1 → MK w1 (tk2 ++ (if L = [] then [] else (n : Int) :: 10000 :: L)) → last = false → k + d = 64 → 1 ≤ k → L.length ≤ k → tk2.length < 2 ^ 28 → (∀ w', xI mPu w w' → MK w' (tk2 ++ (if L ++ lst (fun d => decide (LU d = (i : Int))) d k = [] then [] else (n : Int) :: 10000 :: (L ++ lst (fun d => decide (LU d = (i : Int))) d k ++ [0]))) → Q (.inl none) w') → x_R x_prog scr 149 112 [some (.ref 36), some (.int (nI i)), some (.int (nI n)), some (.int (b32 last)), o4, some (.int (b32 (!decide (L = [])))), some (.int (nI k))] [] w1 Q := by
    intro d
    induction d with
    | zero =>
      intro k L tk2 w1 o4 u1 u2 hlast hk hk1 hLl htk2 hz3
      have h1 := sh_I u1 h
      unfold lst at hz3
      rw [List.append_nil] at hz3
      refine b149_112 ⟨fun _ => ?_, fun z => absurd (nI_le (a := 64) (by omega) (by omega)) z⟩
      by_cases eL : L = []
      · rw [decide_eq_true eL]
        rw [if_pos eL] at hz3 u2
        exact ⟨fun _ => b149_176 (hz3 w1 u1 u2), fun z => absurd rfl z⟩
      · rw [decide_eq_false eL]
        rw [if_neg eL] at hz3 u2
        refine ⟨fun z => absurd z (by decide), fun _ => ⟨by rw [sh_k h1]; rfl, c83 (v := 0) h1 (by simp only [List.length_append, List.length_cons]; omega) u2 (fun w2 v1 v2 => b149_176 (hz3 w2 (xI_tr u1 v1) ?_))⟩⟩
        simp only [List.append_assoc, List.cons_append, List.nil_append] at v2 ⊢
        exact v2
    | succ d ih =>
      intro k L tk2 w1 o4 u1 u2 hlast hk hk1 hLl htk2 hz3
      have h1 := sh_I u1 h
      have e65 : x_i w1 65 k = iI (LU k) := (hA u1 65 k (by omega)).trans (hU k (by omega))
      have hlu := hLU k (by omega)
      have ge : iI (LU k) = nI i ↔ LU k = (i : Int) := by rw [← iI_n]; exact iI_eq (by omega) (by omega) (by omega) (by omega)
      unfold lst at hz3
      refine b149_112 ⟨fun z => absurd z (nI_ge (b := 64) (by omega) (by omega)), fun _ => ?_⟩
      subst hlast
      simp only [sh_k h1, sh_l h1, sh_n h1, kk36, sr36_2 h1, sr36_8 h1, sr36_9 h1, sr36_12 h1, sr36_13 h1, sr36_14 h1, sr36_15 h1, sr36_21 h1, sr36_22 h1, sr36_23 h1, sr36_25 h1, sr36_27 h1, sr36_28 h1, sr36_29 h1, sr36_30 h1, sr36_31 h1, sr36_35 h1, sr36_36 h1, sr36_37 h1, sr36_38 h1, sr36_40 h1, sr36_41 h1, sr36_42 h1, sr36_44 h1, sr36_45 h1, sr36_46 h1, sr36_47 h1, sr36_48 h1, sr36_49 h1, sr36_51 h1, sr36_52 h1, sr36_53 h1, sr36_54 h1, sr36_55 h1, kk65, ll65, true_and, and_true, false_and, and_false, and_self, not_false_eq_true, not_true_eq_false, true_implies, false_implies, implies_true, true_or, or_true, or_self, if_true, if_false, Nat.reduceEqDiff, reduceIte, eq_self, nI_clamp (show k < 2 ^ 31 by omega), vp_in_nI (show k < 64 by omega) (show 64 < 2 ^ 31 by omega), e65, ge, b32_f]
      by_cases hd : LU k = (i : Int)
      · rw [if_pos (show decide (LU k = (i : Int)) = true from decide_eq_true hd)] at hz3
        have fin : ∀ (w2 : xW) (o4 o5 : Option Value), xI mPu w w2 → MK w2 (tk2 ++ ((n : Int) :: 10000 :: L)) → x_R x_prog scr 149 151 [some (.ref 36), some (.int (nI i)), some (.int (nI n)), some (.int 0), o4, o5, some (.int (nI k))] [] w2 Q := by
          intro w2 o4 o5 v1 v2
          have h2 := sh_I v1 h
          refine b149_151 ⟨by rw [sh_k h2]; rfl, ?_⟩
          have e1 : nI k = iI (k : Int) := (iI_n k).symm
          have := c83 (scr := scr) (v := (k : Int)) (tk := tk2 ++ ((n : Int) :: 10000 :: L)) (Q := x_back x_prog 149 157 160 [some (.ref 36), some (.int (nI i)), some (.int (nI n)), some (.int 0), none, some (.int 1), some (.int (nI k))] [] (fun pc L st w => x_R x_prog scr 149 pc L st w Q)) h2 (by simp only [List.length_append, List.length_cons]; omega) v2 (fun w3 x1 x2 => b149_160 ?_)
          · rw [iI_n] at this
            exact this
          · rw [nI_1]
            have en : ¬ L ++ [(k : Int)] = [] := by simp
            have := ih (k + 1) (L ++ [(k : Int)]) tk2 w3 none (xI_tr v1 x1) (by rw [if_neg en]; simp only [List.append_assoc, List.cons_append, List.nil_append] at x2 ⊢; exact x2) rfl (by omega) (by omega) (by simp; omega) htk2 (fun w' y1 y2 => hz3 w' y1 (by rw [List.append_assoc] at y2; exact y2))
            rw [decide_eq_false en] at this
            exact this
        refine ⟨fun z => absurd hd z, fun _ => ?_⟩
        by_cases eL : L = []
        · rw [decide_eq_true eL]
          rw [if_pos eL, List.append_nil] at u2
          refine ⟨fun z => absurd rfl z, fun _ => ?_⟩
          rw [← iI_n n]
          refine c83 (v := (n : Int)) h1 (by omega) u2 (fun w2 v1 v2 => ?_)
          rw [iI_n]
          refine b149_144 ⟨by rw [sh_k (sh_I v1 h1)]; rfl, c83 (v := 10000) (sh_I v1 h1) (by rw [List.length_append, List.length_singleton]; omega) v2 (fun w3 x1 x2 => fin w3 _ _ (xI_tr u1 (xI_tr v1 x1)) ?_)⟩
          rw [eL]
          simp only [List.append_assoc, List.cons_append, List.nil_append] at x2 ⊢
          exact x2
        · rw [decide_eq_false eL]
          rw [if_neg eL] at u2
          exact ⟨fun _ => fin w1 _ _ u1 u2, fun z => absurd (by decide) z⟩
      · rw [if_neg (show ¬ decide (LU k = (i : Int)) = true by rw [decide_eq_false hd]; decide)] at hz3
        refine ⟨fun _ => b149_160 ?_, fun z => absurd hd z⟩
        rw [nI_1]
        exact ih (k + 1) L tk2 w1 none u1 u2 rfl (by omega) (by omega) (by omega) htk2 hz3
  -- behind the hints
  have aft : ∀ (w1 : xW) (o4 o5 o6 : Option Value), xI mPu w w1 → MK w1 (tk ++ lnT n ls (htr l hh)) → x_R x_prog scr 149 106 [some (.ref 36), some (.int (nI i)), some (.int (nI n)), some (.int (b32 last)), o4, o5, o6] [] w1 Q := by
    intro w1 o4 o5 o6 u1 u2
    refine b149_106 ?_
    have htl : (tk ++ lnT n ls (htr l hh)).length < 2 ^ 28 := by rw [List.length_append, lnT_len, hlr]; omega
    cases hla : last with
    | true =>
      rw [hla] at hq
      rw [if_pos rfl, List.append_nil] at hq
      refine b149_112 ⟨fun z => absurd z (by decide), fun _ => ⟨fun _ => ⟨fun _ => b149_176 (hq w1 u1 u2), fun z => absurd rfl z⟩, fun z => absurd (by decide) z⟩⟩
    | false =>
      rw [hla] at hq key3
      rw [if_neg (by decide)] at hq
      refine key3 63 1 [] (tk ++ lnT n ls (htr l hh)) w1 none u1 (by rw [if_pos rfl, List.append_nil]; exact u2) rfl (by omega) (by omega) (by simp) htl (fun w' y1 y2 => hq w' y1 ?_)
      unfold drs
      rw [← List.append_assoc]
      exact y2
  have key2 : ∀ (d k : Nat) (w1 : xW) (o6 : Option Value), xI mPu w w1 → MK w1 (tk ++ ((n : Int) :: (ls ++ 0 :: (htr l hh).take k))) → k + d = (htr l hh).length → x_R x_prog scr 149 64 [some (.ref 36), some (.int (nI i)), some (.int (nI n)), some (.int (b32 last)), some (.int (nI c)), some (.int (nI k)), o6] [] w1 Q := by
    intro d
    induction d with
    | zero =>
      intro k w1 o6 u1 u2 hk
      have h1 := sh_I u1 h
      have e59 : x_i w1 59 c = nI (htr l hh).length := by rw [hA u1 59 c (by omega), l4, hlr]
      refine b149_64 ?_
      simp only [sh_k h1, sh_l h1, sh_n h1, kk36, sr36_2 h1, sr36_8 h1, sr36_9 h1, sr36_12 h1, sr36_13 h1, sr36_14 h1, sr36_15 h1, sr36_21 h1, sr36_22 h1, sr36_23 h1, sr36_25 h1, sr36_27 h1, sr36_28 h1, sr36_29 h1, sr36_30 h1, sr36_31 h1, sr36_35 h1, sr36_36 h1, sr36_37 h1, sr36_38 h1, sr36_40 h1, sr36_41 h1, sr36_42 h1, sr36_44 h1, sr36_45 h1, sr36_46 h1, sr36_47 h1, sr36_48 h1, sr36_49 h1, sr36_51 h1, sr36_52 h1, sr36_53 h1, sr36_54 h1, sr36_55 h1, kk59, ll59, true_and, and_true, false_and, and_false, and_self, not_false_eq_true, not_true_eq_false, true_implies, false_implies, implies_true, true_or, or_true, or_self, if_true, if_false, Nat.reduceEqDiff, reduceIte, eq_self, nI_clamp (show c < 2 ^ 31 by omega), vp_in_nI (show c < 64 by omega) (show 64 < 2 ^ 31 by omega), e59]
      refine ⟨fun _ => c83 (v := 0) h1 (by simp only [List.length_append, List.length_cons, List.length_take]; omega) u2 (fun w2 v1 v2 => aft w2 _ _ _ (xI_tr u1 v1) ?_), fun z => absurd (nI_le (by omega) (by omega)) z⟩
      rw [List.take_of_length_le (by omega)] at v2
      unfold lnT
      simp only [List.append_assoc, List.cons_append, List.nil_append] at v2 ⊢
      exact v2
    | succ d ih =>
      intro k w1 o6 u1 u2 hk
      have h1 := sh_I u1 h
      have e59 : x_i w1 59 c = nI (htr l hh).length := by rw [hA u1 59 c (by omega), l4, hlr]
      have e58 : x_i w1 58 c = nI l := by
        rw [hA u1 58 c (by omega), l3]
        congr 1
        omega
      have e57 : x_i w1 57 (l + k) = iI ((htr l hh).getD k 0) := by
        rw [hA u1 57 _ (by omega), hH.2 (l + k) (by omega) (by omega), l1, ← l2, getD_pre p hh q (by omega)]
        congr 1
        unfold htr
        rw [List.getD_eq_getElem?_getD, List.getD_eq_getElem?_getD, List.getElem?_take, if_pos (by omega)]
      refine b149_64 ?_
      simp only [sh_k h1, sh_l h1, sh_n h1, kk36, sr36_2 h1, sr36_8 h1, sr36_9 h1, sr36_12 h1, sr36_13 h1, sr36_14 h1, sr36_15 h1, sr36_21 h1, sr36_22 h1, sr36_23 h1, sr36_25 h1, sr36_27 h1, sr36_28 h1, sr36_29 h1, sr36_30 h1, sr36_31 h1, sr36_35 h1, sr36_36 h1, sr36_37 h1, sr36_38 h1, sr36_40 h1, sr36_41 h1, sr36_42 h1, sr36_44 h1, sr36_45 h1, sr36_46 h1, sr36_47 h1, sr36_48 h1, sr36_49 h1, sr36_51 h1, sr36_52 h1, sr36_53 h1, sr36_54 h1, sr36_55 h1, kk57, ll57, kk58, ll58, kk59, ll59, true_and, and_true, false_and, and_false, and_self, not_false_eq_true, not_true_eq_false, true_implies, false_implies, implies_true, true_or, or_true, or_self, if_true, if_false, Nat.reduceEqDiff, reduceIte, eq_self, nI_clamp (show c < 2 ^ 31 by omega), vp_in_nI (show c < 64 by omega) (show 64 < 2 ^ 31 by omega), e59, e58, nI_add, nI_clamp (show l + k < 2 ^ 31 by omega), vp_in_nI (show l + k < 2400 by omega) (show 2400 < 2 ^ 31 by omega), e57]
      refine ⟨fun z => absurd z (nI_ge (by omega) (by omega)), fun _ => c83 (v := (htr l hh).getD k 0) h1 (by simp only [List.length_append, List.length_cons, List.length_take]; omega) u2 (fun w2 v1 v2 => b149_95 ?_)⟩
      rw [nI_1]
      refine ih (k + 1) w2 _ (xI_tr u1 v1) ?_ (by omega)
      have et : (htr l hh).take (k + 1) = (htr l hh).take k ++ [(htr l hh).getD k 0] := by
        rw [List.take_succ, List.getD_eq_getElem?_getD, List.getElem?_eq_getElem (by omega)]
        rfl
      rw [et]
      simp only [List.append_assoc, List.cons_append, List.nil_append] at v2 ⊢
      exact v2
  -- behind the literals
  have mid : ∀ (w1 : xW) (o6 : Option Value), xI mPu w w1 → MK w1 (tk ++ ((n : Int) :: (ls ++ [0]))) → ∀ o5, x_R x_prog scr 149 61 [some (.ref 36), some (.int (nI i)), some (.int (nI n)), some (.int (b32 last)), some (.int (nI c)), o5, o6] [] w1 Q := by
    intro w1 o6 u1 u2 o5
    exact b149_61 (key2 (htr l hh).length 0 w1 _ u1 (by rw [List.take_zero]; exact u2) (by omega))
  have key1 : ∀ (d k : Nat) (w1 : xW) (o6 : Option Value), xI mPu w w1 → MK w1 (tk ++ ((n : Int) :: ls.take k)) → k + d = ls.length → x_R x_prog scr 149 16 [some (.ref 36), some (.int (nI i)), some (.int (nI n)), some (.int (b32 last)), some (.int (nI c)), some (.int (nI k)), o6] [] w1 Q := by
    intro d
    induction d with
    | zero =>
      intro k w1 o6 u1 u2 hk
      have h1 := sh_I u1 h
      rw [List.take_of_length_le (by omega)] at u2
      have go : x_R x_prog scr 83 0 [some (.ref 36), some (.int 0)] [] w1 (x_back x_prog 149 58 61 [some (.ref 36), some (.int (nI i)), some (.int (nI n)), some (.int (b32 last)), some (.int (nI c)), some (.int (nI k)), none] [] (fun pc L st w => x_R x_prog scr 149 pc L st w Q)) := by
        refine c83 (v := 0) h1 (by simp only [List.length_append, List.length_cons]; omega) u2 (fun w2 v1 v2 => mid w2 _ (xI_tr u1 v1) ?_ _)
        simp only [List.append_assoc, List.cons_append, List.nil_append] at v2 ⊢
        exact v2
      refine b149_16 ?_
      rcases hlen with ⟨c0, l0⟩ | ⟨c1, hRC⟩
      · have gc : nI c ≤ 0 := by rw [c0]; decide
        simp only [sh_k h1, sh_l h1, sh_n h1, kk36, sr36_2 h1, sr36_8 h1, sr36_9 h1, sr36_12 h1, sr36_13 h1, sr36_14 h1, sr36_15 h1, sr36_21 h1, sr36_22 h1, sr36_23 h1, sr36_25 h1, sr36_27 h1, sr36_28 h1, sr36_29 h1, sr36_30 h1, sr36_31 h1, sr36_35 h1, sr36_36 h1, sr36_37 h1, sr36_38 h1, sr36_40 h1, sr36_41 h1, sr36_42 h1, sr36_44 h1, sr36_45 h1, sr36_46 h1, sr36_47 h1, sr36_48 h1, sr36_49 h1, sr36_51 h1, sr36_52 h1, sr36_53 h1, sr36_54 h1, sr36_55 h1, kk39, ll39, true_and, and_true, false_and, and_false, and_self, not_false_eq_true, not_true_eq_false, true_implies, false_implies, implies_true, true_or, or_true, or_self, if_true, if_false, Nat.reduceEqDiff, reduceIte, eq_self, nI_clamp (show c < 2 ^ 31 by omega), vp_in_nI (show c < 64 by omega) (show 64 < 2 ^ 31 by omega)]
        exact ⟨fun _ => go, fun _ => ⟨fun _ => go, fun z => absurd gc z⟩⟩
      · have e39 : x_i w1 39 c = nI ls.length := by rw [hA u1 39 c (by omega)]; exact hRC.1
        simp only [sh_k h1, sh_l h1, sh_n h1, kk36, sr36_2 h1, sr36_8 h1, sr36_9 h1, sr36_12 h1, sr36_13 h1, sr36_14 h1, sr36_15 h1, sr36_21 h1, sr36_22 h1, sr36_23 h1, sr36_25 h1, sr36_27 h1, sr36_28 h1, sr36_29 h1, sr36_30 h1, sr36_31 h1, sr36_35 h1, sr36_36 h1, sr36_37 h1, sr36_38 h1, sr36_40 h1, sr36_41 h1, sr36_42 h1, sr36_44 h1, sr36_45 h1, sr36_46 h1, sr36_47 h1, sr36_48 h1, sr36_49 h1, sr36_51 h1, sr36_52 h1, sr36_53 h1, sr36_54 h1, sr36_55 h1, kk39, ll39, true_and, and_true, false_and, and_false, and_self, not_false_eq_true, not_true_eq_false, true_implies, false_implies, implies_true, true_or, or_true, or_self, if_true, if_false, Nat.reduceEqDiff, reduceIte, eq_self, nI_clamp (show c < 2 ^ 31 by omega), vp_in_nI (show c < 64 by omega) (show 64 < 2 ^ 31 by omega), e39]
        exact ⟨fun _ => go, fun z => absurd (nI_le (by omega) (by omega)) z⟩
    | succ d ih =>
      intro k w1 o6 u1 u2 hk
      have h1 := sh_I u1 h
      rcases hlen with ⟨c0, l0⟩ | ⟨c1, hRC⟩
      · rw [l0] at hk; simp at hk
      · have e39 : x_i w1 39 c = nI ls.length := by rw [hA u1 39 c (by omega)]; exact hRC.1
        have e38 : x_i w1 38 (6 * c + k) = iI (ls.getD k 0) := by rw [hA u1 38 _ (by omega)]; exact hRC.2 k (by omega)
        have e6 : (6 : Int32) * nI c + nI k = nI (6 * c + k) := by rw [show (6 : Int32) = nI 6 from rfl, pk_mul, nI_add]
        have gc : ¬ nI c ≤ 0 := by rw [← nI_0, nI_leI (by omega) (by omega)]; omega
        refine b149_16 ?_
        simp only [sh_k h1, sh_l h1, sh_n h1, kk36, sr36_2 h1, sr36_8 h1, sr36_9 h1, sr36_12 h1, sr36_13 h1, sr36_14 h1, sr36_15 h1, sr36_21 h1, sr36_22 h1, sr36_23 h1, sr36_25 h1, sr36_27 h1, sr36_28 h1, sr36_29 h1, sr36_30 h1, sr36_31 h1, sr36_35 h1, sr36_36 h1, sr36_37 h1, sr36_38 h1, sr36_40 h1, sr36_41 h1, sr36_42 h1, sr36_44 h1, sr36_45 h1, sr36_46 h1, sr36_47 h1, sr36_48 h1, sr36_49 h1, sr36_51 h1, sr36_52 h1, sr36_53 h1, sr36_54 h1, sr36_55 h1, kk38, ll38, kk39, ll39, true_and, and_true, false_and, and_false, and_self, not_false_eq_true, not_true_eq_false, true_implies, false_implies, implies_true, true_or, or_true, or_self, if_true, if_false, Nat.reduceEqDiff, reduceIte, eq_self, nI_clamp (show c < 2 ^ 31 by omega), vp_in_nI (show c < 64 by omega) (show 64 < 2 ^ 31 by omega), e39, e6, nI_clamp (show 6 * c + k < 2 ^ 31 by omega), vp_in_nI (show 6 * c + k < 384 by omega) (show 384 < 2 ^ 31 by omega), e38]
        refine ⟨fun z => absurd z (nI_ge (by omega) (by omega)), fun _ => ⟨fun z => absurd z gc, fun _ => c83 (v := ls.getD k 0) h1 (by simp only [List.length_append, List.length_cons, List.length_take]; omega) u2 (fun w2 v1 v2 => b149_50 ?_)⟩⟩
        rw [nI_1]
        refine ih (k + 1) w2 _ (xI_tr u1 v1) ?_ (by omega)
        have et : ls.take (k + 1) = ls.take k ++ [ls.getD k 0] := by
          rw [List.take_succ, List.getD_eq_getElem?_getD, List.getElem?_eq_getElem (by omega)]
          rfl
        rw [et]
        simp only [List.append_assoc, List.cons_append, List.nil_append] at v2 ⊢
        exact v2
  refine b149_0 ?_
  simp only [sh_k h, sh_l h, sh_n h, kk36, sr36_2 h, sr36_8 h, sr36_9 h, sr36_12 h, sr36_13 h, sr36_14 h, sr36_15 h, sr36_21 h, sr36_22 h, sr36_23 h, sr36_25 h, sr36_27 h, sr36_28 h, sr36_29 h, sr36_30 h, sr36_31 h, sr36_35 h, sr36_36 h, sr36_37 h, sr36_38 h, sr36_40 h, sr36_41 h, sr36_42 h, sr36_44 h, sr36_45 h, sr36_46 h, sr36_47 h, sr36_48 h, sr36_49 h, sr36_51 h, sr36_52 h, sr36_53 h, sr36_54 h, sr36_55 h, kk64, ll64, true_and, and_true, false_and, and_false, and_self, not_false_eq_true, not_true_eq_false, true_implies, false_implies, implies_true, true_or, or_true, or_self, if_true, if_false, Nat.reduceEqDiff, reduceIte, eq_self, nI_clamp (show i < 2 ^ 31 by omega), vp_in_nI (show i < 64 by omega) (show 64 < 2 ^ 31 by omega), h64]
  rw [← iI_n n]
  refine c83 (v := (n : Int)) h (by omega) hK (fun w1 u1 u2 => b149_13 ?_)
  rw [iI_n]
  exact key1 ls.length 0 w1 _ u1 (by rw [List.take_zero]; exact u2) (by omega)
end X73
