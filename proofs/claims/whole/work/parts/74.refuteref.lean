/-! refute of the reference. -/
section X74
variable {scr : Nat × (Nat → Int32)} {w : xW} {Q : xO → xW → Prop} {w1 : xW} {t : Nat → Nat} {sz n c g d V e E L fa : Nat} {hf hs : Bool} {al mk sp : Nat → Bool} {cs : List (List Int)} {st : xSt} {H0 HT tk ls : List Int} {LU : Nat → Int} {o v : Int} {o1 o2 o3 o4 o5 o6 : Option Value}
/-- the lines' numbers, from place i on -/
def LAs (w : xW) : Nat → List xLn → Prop
  | i, [] => x_i w 64 i = nI 0
  | i, x :: r => x_i w 64 i = nI x.1 ∧ LAs w (i + 1) r
theorem LAs_I {m : Nat → Nat → Prop} (q : xI m w w1) (hm : ∀ k, ¬ m 64 k) : ∀ (r : List xLn) (i : Nat), LAs w i r → LAs w1 i r
  | [], i, h => (xI_i q 64 i (hm i)).trans h
  | x :: r, i, h => ⟨(xI_i q 64 i (hm i)).trans h.1, LAs_I q hm r (i + 1) h.2⟩
theorem LAs_of : ∀ (r : List xLn) (i : Nat), (∀ k, k < r.length → x_i w 64 (i + k) = nI ((r.map (fun x => x.1)).getD k 0)) → x_i w 64 (i + r.length) = nI 0 → LAs w i r
  | [], i, _, h => h
  | x :: r, i, h, h0 => by
    refine ⟨?_, LAs_of r (i + 1) (fun k hk => ?_) ?_⟩
    · have := h 0 (by simp)
      simpa using this
    · have := h (k + 1) (by simp; omega)
      rw [show i + (k + 1) = i + 1 + k by omega] at this
      simpa using this
    · rw [List.length_cons, show i + (r.length + 1) = i + 1 + r.length by omega] at h0
      exact h0
/-- the numbers of all hints fit -/
def HB (h : List Int) : Prop := ∀ x ∈ h, x.natAbs ≤ 63
theorem HB_htr {l : Nat} {h : List Int} (hh : HB h) : HB (htr l h) := fun x hx => hh x (List.mem_of_mem_take hx)
theorem lus_app {i : Nat} {a : List Int} {v : Int} {LU : Nat → Int} (d : Nat) : lus i (a ++ [v]) LU d = if d = v.natAbs then (i : Int) else lus i a LU d := by
  unfold lus
  rw [inL_app]
  have e : inL [v] d = decide (v.natAbs = d) := by unfold inL; rw [List.any_cons, List.any_nil, Bool.or_false]
  rw [e]
  by_cases h : d = v.natAbs
  · rw [if_pos h, decide_eq_true h.symm, Bool.or_true, if_pos rfl]
  · rw [if_neg h, decide_eq_false (fun z => h z.symm), Bool.or_false]
/-- the hints of one line, for their last uses -/
theorem c139_h {i l : Nat} {hh : List Int} {a3 : Int32} (hi : i < 64) (hc : c ≤ 63) (hHB : HB hh) (h : SH w) (h64 : x_i w 64 i = nI c) (hH : HG w HT) (hL : HL w HT c l hh) (hHT : HT.length < 2 ^ 28) (hU : LUS w LU)
    (hq : ∀ w' (o1 o2 o6 : Option Value), xI (fun p _ => p = 65) w w' → LUS w' (lus i (htr l hh) LU) → x_R x_prog scr 139 170 [some (.ref 36), o1, o2, some (.int a3), some (.int (nI L)), some (.int (nI (i + 1))), o6] [] w' Q) : x_R x_prog scr 139 180 [some (.ref 36), o1, o2, some (.int a3), some (.int (nI L)), some (.int (nI i)), some (.int 0)] [] w Q := by
  obtain ⟨p, q, l1, l2, l3, l4⟩ := hL
  have hlr := htr_len l hh
  have hll : HT.length = p.length + (hh.length + q.length) := by rw [l1, List.length_append, List.length_append]
  have key : ∀ (d k : Nat) (w1 : xW) (o1 o2 : Option Value), xI (fun p _ => p = 65) w w1 → LUS w1 (lus i ((htr l hh).take k) LU) → k + d = (htr l hh).length → x_R x_prog scr 139 180 [some (.ref 36), o1, o2, some (.int a3), some (.int (nI L)), some (.int (nI i)), some (.int (nI k))] [] w1 Q := by
    intro d
    induction d with
    | zero =>
      intro k w1 o1 o2 u1 u2 hk
      have h1 := sh_I u1 h
      have e59 : x_i w1 59 c = nI (htr l hh).length := by rw [xI_i u1 59 c (by omega), l4, hlr]
      have e64 : x_i w1 64 i = nI c := (xI_i u1 64 i (by omega)).trans h64
      refine b139_180 ?_
      simp only [sh_k h1, sh_l h1, sh_n h1, kk36, sr36_2 h1, sr36_8 h1, sr36_9 h1, sr36_12 h1, sr36_13 h1, sr36_14 h1, sr36_15 h1, sr36_21 h1, sr36_22 h1, sr36_23 h1, sr36_25 h1, sr36_27 h1, sr36_28 h1, sr36_29 h1, sr36_30 h1, sr36_31 h1, sr36_35 h1, sr36_36 h1, sr36_37 h1, sr36_38 h1, sr36_40 h1, sr36_41 h1, sr36_42 h1, sr36_44 h1, sr36_45 h1, sr36_46 h1, sr36_47 h1, sr36_48 h1, sr36_49 h1, sr36_51 h1, sr36_52 h1, sr36_53 h1, sr36_54 h1, sr36_55 h1, kk59, ll59, kk64, ll64, true_and, and_true, false_and, and_false, and_self, not_false_eq_true, not_true_eq_false, true_implies, false_implies, implies_true, true_or, or_true, or_self, if_true, if_false, Nat.reduceEqDiff, reduceIte, eq_self, nI_clamp (show i < 2 ^ 31 by omega), vp_in_nI (show i < 64 by omega) (show 64 < 2 ^ 31 by omega), e64, nI_clamp (show c < 2 ^ 31 by omega), vp_in_nI (show c < 64 by omega) (show 64 < 2 ^ 31 by omega), e59, nI_1]
      rw [List.take_of_length_le (by omega)] at u2
      exact ⟨fun _ => hq w1 _ _ _ u1 u2, fun z => absurd (nI_le (by omega) (by omega)) z⟩
    | succ d ih =>
      intro k w1 o1 o2 u1 u2 hk
      have h1 := sh_I u1 h
      have e59 : x_i w1 59 c = nI (htr l hh).length := by rw [xI_i u1 59 c (by omega), l4, hlr]
      have e64 : x_i w1 64 i = nI c := (xI_i u1 64 i (by omega)).trans h64
      have e58 : x_i w1 58 c = nI l := by
        rw [xI_i u1 58 c (by omega), l3]
        congr 1
        omega
      have hgk : (htr l hh).getD k 0 ∈ htr l hh := by rw [List.getD_eq_getElem?_getD, List.getElem?_eq_getElem (by omega)]; exact List.getElem_mem _
      have hvb := HB_htr (l := l) hHB _ hgk
      have e57 : x_i w1 57 (l + k) = iI ((htr l hh).getD k 0) := by
        rw [xI_i u1 57 _ (by omega), hH.2 (l + k) (by omega) (by omega), l1, ← l2, getD_pre p hh q (by omega)]
        congr 1
        unfold htr
        rw [List.getD_eq_getElem?_getD, List.getD_eq_getElem?_getD, List.getElem?_take, if_pos (by omega)]
      have et : (htr l hh).take (k + 1) = (htr l hh).take k ++ [(htr l hh).getD k 0] := by
        rw [List.take_succ, List.getD_eq_getElem?_getD, List.getElem?_eq_getElem (by omega)]
        rfl
      generalize (htr l hh).getD k 0 = v at *
      refine b139_180 ?_
      simp only [sh_k h1, sh_l h1, sh_n h1, kk36, sr36_2 h1, sr36_8 h1, sr36_9 h1, sr36_12 h1, sr36_13 h1, sr36_14 h1, sr36_15 h1, sr36_21 h1, sr36_22 h1, sr36_23 h1, sr36_25 h1, sr36_27 h1, sr36_28 h1, sr36_29 h1, sr36_30 h1, sr36_31 h1, sr36_35 h1, sr36_36 h1, sr36_37 h1, sr36_38 h1, sr36_40 h1, sr36_41 h1, sr36_42 h1, sr36_44 h1, sr36_45 h1, sr36_46 h1, sr36_47 h1, sr36_48 h1, sr36_49 h1, sr36_51 h1, sr36_52 h1, sr36_53 h1, sr36_54 h1, sr36_55 h1, kk57, ll57, kk58, ll58, kk59, ll59, kk64, ll64, kk65, ll65, true_and, and_true, false_and, and_false, and_self, not_false_eq_true, not_true_eq_false, true_implies, false_implies, implies_true, true_or, or_true, or_self, if_true, if_false, Nat.reduceEqDiff, reduceIte, eq_self, nI_clamp (show i < 2 ^ 31 by omega), vp_in_nI (show i < 64 by omega) (show 64 < 2 ^ 31 by omega), e64, nI_clamp (show c < 2 ^ 31 by omega), vp_in_nI (show c < 64 by omega) (show 64 < 2 ^ 31 by omega), e59, e58, nI_add, nI_clamp (show l + k < 2 ^ 31 by omega), vp_in_nI (show l + k < 2400 by omega) (show 2400 < 2 ^ 31 by omega), e57]
      refine ⟨fun z => absurd z (nI_ge (by omega) (by omega)), fun _ => c53 (by omega) (b139_224 ?_)⟩
      rw [sh_k h1, sh_l h1, nI_clamp (show v.natAbs < 2 ^ 31 by omega), nI_1]
      refine ⟨⟨rfl, vp_in_nI (N := 64) (by omega) (by omega)⟩, ih (k + 1) _ _ _ (xI_si u1 rfl) (fun d hd => ?_) (by omega)⟩
      rw [y_i_si, et, lus_app]
      by_cases ed : d = v.natAbs
      · rw [if_pos ⟨rfl, ed⟩, if_pos ed, iI_n]
      · rw [if_neg (fun z => ed z.2), if_neg ed]; exact u2 d hd
  refine key (htr l hh).length 0 w _ _ xI_rf (fun d hd => ?_) (by omega)
  rw [List.take_zero]
  exact hU d hd
/-- last uses -/
theorem c139_u {a3 : Int32} (hHT : HT.length < 2 ^ 28) (hL63 : L ≤ 64) (hH0 : HB H0) : ∀ (r : List xLn) (i : Nat) (LU : Nat → Int) (w : xW) (o1 o2 o6 : Option Value), SH w → HG w HT → HLs w HT H0 r → LAs w i r → (∀ x ∈ r, x.1 ≤ 63 ∧ HB (hx x)) → i + r.length + 1 = L → LUS w LU →
    (∀ w' (o1 o2 o6 : Option Value), xI (fun p _ => p = 65) w w' → LUS w' (luR H0 i r LU) → x_R x_prog scr 139 170 [some (.ref 36), o1, o2, some (.int a3), some (.int (nI L)), some (.int (nI L)), o6] [] w' Q) →
    x_R x_prog scr 139 170 [some (.ref 36), o1, o2, some (.int a3), some (.int (nI L)), some (.int (nI i)), o6] [] w Q
  | [], i, LU, w, o1, o2, o6, h, hH, hL, hA, hx', hi, hU, hq => by
    have hi : i + 0 + 1 = L := hi
    refine b139_170 ⟨fun z => absurd z (nI_ge (by omega) (by omega)), fun _ => ?_⟩
    refine c139_h (c := 0) (by omega) (by omega) hH0 h hA hH hL hHT hU (fun w' o1 o2 o6 u1 u2 => ?_)
    have e : i + 1 = L := by omega
    rw [e]
    exact hq w' _ _ _ u1 u2
  | x :: r, i, LU, w, o1, o2, o6, h, hH, hL, hA, hx', hi, hU, hq => by
    rw [List.length_cons] at hi
    have hx1 := hx' x List.mem_cons_self
    refine b139_170 ⟨fun z => absurd z (nI_ge (by omega) (by omega)), fun _ => ?_⟩
    refine c139_h (c := x.1) (by omega) hx1.1 hx1.2 h hA.1 hH hL.1 hHT hU (fun w1 o1 o2 o6 u1 u2 => ?_)
    have L1 := HLs_I (e := []) u1 r hL.2 (by omega) (by omega)
    rw [List.append_nil] at L1
    exact c139_u hHT hL63 hH0 r (i + 1) _ w1 _ _ _ (sh_I u1 h) (HG_I u1 hH (by omega) (by omega)) L1 (LAs_I u1 (by omega) r _ hA.2) (fun y hy => hx' y (List.mem_cons_of_mem _ hy)) (by omega) u2 (fun w' o1 o2 o6 v1 v2 => hq w' o1 o2 o6 (xI_tr u1 v1) v2)
/-- the lines -/
theorem c139_p {M : Nat} (hHT : HT.length < 2 ^ 27) (hL63 : L ≤ 64) (hM : M ≤ 63) (hl : cs.length ≤ 63) (hco : cok cs) (hLU : ∀ d, d < 64 → -1 ≤ LU d ∧ LU d ≤ 63) : ∀ (r : List xLn) (i : Nat) (tk : List Int) (w : xW) (o1 o2 o6 : Option Value), SH w → (∀ c, c < cs.length → RC w (c + 1) (cs.getD c [])) → HG w HT → HLs w HT H0 r → LAs w i r → (∀ x ∈ r, 1 ≤ x.1 ∧ x.1 ≤ cs.length) → i + r.length + 1 = L → LUS w LU → MK w tk → (tk ++ plR cs (M + 1) H0 LU i r).length < 2 ^ 27 →
    (∀ w' (o1 o2 o6 : Option Value), xI mPu w w' → MK w' (tk ++ plR cs (M + 1) H0 LU i r) → x_R x_prog scr 139 251 [some (.ref 36), o1, o2, some (.int (nI M)), some (.int (nI L)), some (.int (nI L)), o6] [] w' Q) →
    x_R x_prog scr 139 251 [some (.ref 36), o1, o2, some (.int (nI M)), some (.int (nI L)), some (.int (nI i)), o6] [] w Q
  | [], i, tk, w, o1, o2, o6, h, hR, hH, hL, hA, hx', hi, hU, hK, hlen, hq => by
    have hi : i + 0 + 1 = L := hi
    have e1 : nI L - 1 = nI i := by
      have := nI_pred i
      rw [show i + 1 = L by omega] at this
      exact this
    have hA0 : x_i w 64 i = nI 0 := hA
    rw [List.length_append] at hlen
    refine b139_251 ⟨fun z => absurd z (nI_ge (by omega) (by omega)), fun _ => ?_⟩
    simp only [sh_k h, sh_l h, sh_n h, kk36, sr36_2 h, sr36_8 h, sr36_9 h, sr36_12 h, sr36_13 h, sr36_14 h, sr36_15 h, sr36_21 h, sr36_22 h, sr36_23 h, sr36_25 h, sr36_27 h, sr36_28 h, sr36_29 h, sr36_30 h, sr36_31 h, sr36_35 h, sr36_36 h, sr36_37 h, sr36_38 h, sr36_40 h, sr36_41 h, sr36_42 h, sr36_44 h, sr36_45 h, sr36_46 h, sr36_47 h, sr36_48 h, sr36_49 h, sr36_51 h, sr36_52 h, sr36_53 h, sr36_54 h, sr36_55 h, kk64, ll64, true_and, and_true, false_and, and_false, and_self, not_false_eq_true, not_true_eq_false, true_implies, false_implies, implies_true, true_or, or_true, or_self, if_true, if_false, Nat.reduceEqDiff, reduceIte, eq_self, nI_clamp (show i < 2 ^ 31 by omega), vp_in_nI (show i < 64 by omega) (show 64 < 2 ^ 31 by omega), hA0, e1, nI_1]
    refine ⟨fun z => absurd rfl z, fun _ => ?_⟩
    refine c149 (c := 0) (n := M + 1) (ls := []) (last := true) (by omega) (by omega) (by omega) (by simp) h hA0 (Or.inl ⟨rfl, rfl⟩) hH hL (by omega) hU hLU hK (by omega) (fun w' u1 u2 => b139_301 ?_)
    rw [if_pos rfl, List.append_nil] at u2
    rw [nI_1, show i + 1 = L by omega]
    exact hq w' _ _ _ u1 u2
  | x :: r, i, tk, w, o1, o2, o6, h, hR, hH, hL, hA, hx', hi, hU, hK, hlen, hq => by
    rw [List.length_cons] at hi
    have hx1 := hx' x List.mem_cons_self
    have e1 : ¬ nI i = nI L - 1 := by
      have := nI_pred (L - 1)
      rw [show L - 1 + 1 = L by omega] at this
      rw [this, nI_eq (by omega) (by omega)]
      omega
    have e0 : ¬ nI x.1 = 0 := nI_ne0 (by omega) (by omega)
    have hcl := cg_ok hco x.1
    have hRc : RC w x.1 (cg cs x.1) := by
      have := hR (x.1 - 1) (by omega)
      rw [Nat.sub_add_cancel hx1.1] at this
      exact this
    have hp : plR cs (M + 1) H0 LU i (x :: r) = lnT x.1 (cg cs x.1) (htr (tot H0 r) (hx x)) ++ (drs x.1 (fun d => decide (LU d = (i : Int))) 63 ++ plR cs (M + 1) H0 LU (i + 1) r) := rfl
    rw [hp] at hlen hq
    refine b139_251 ⟨fun z => absurd z (nI_ge (by omega) (by omega)), fun _ => ?_⟩
    simp only [sh_k h, sh_l h, sh_n h, kk36, sr36_2 h, sr36_8 h, sr36_9 h, sr36_12 h, sr36_13 h, sr36_14 h, sr36_15 h, sr36_21 h, sr36_22 h, sr36_23 h, sr36_25 h, sr36_27 h, sr36_28 h, sr36_29 h, sr36_30 h, sr36_31 h, sr36_35 h, sr36_36 h, sr36_37 h, sr36_38 h, sr36_40 h, sr36_41 h, sr36_42 h, sr36_44 h, sr36_45 h, sr36_46 h, sr36_47 h, sr36_48 h, sr36_49 h, sr36_51 h, sr36_52 h, sr36_53 h, sr36_54 h, sr36_55 h, kk64, ll64, true_and, and_true, false_and, and_false, and_self, not_false_eq_true, not_true_eq_false, true_implies, false_implies, implies_true, true_or, or_true, or_self, if_true, if_false, Nat.reduceEqDiff, reduceIte, eq_self, nI_clamp (show i < 2 ^ 31 by omega), vp_in_nI (show i < 64 by omega) (show 64 < 2 ^ 31 by omega), hA.1, e1, e0]
    have hlen' := hlen
    rw [List.length_append] at hlen'
    refine c149 (c := x.1) (n := x.1) (ls := cg cs x.1) (last := false) (by omega) (by omega) (by omega) hcl.1 h hA.1 (Or.inr ⟨hx1.1, hRc⟩) hH hL.1 (by omega) hU hLU hK (by omega) (fun w1 u1 u2 => b139_301 ?_)
    rw [if_neg (by decide)] at u2
    rw [nI_1]
    have L1 := HLs_I (e := []) u1 r hL.2 (by unfold mPu; omega) (by unfold mPu; omega)
    rw [List.append_nil] at L1
    have ea : tk ++ (lnT x.1 (cg cs x.1) (htr (tot H0 r) (hx x)) ++ (drs x.1 (fun d => decide (LU d = (i : Int))) 63 ++ plR cs (M + 1) H0 LU (i + 1) r)) = tk ++ (lnT x.1 (cg cs x.1) (htr (tot H0 r) (hx x)) ++ drs x.1 (fun d => decide (LU d = (i : Int))) 63) ++ plR cs (M + 1) H0 LU (i + 1) r := by simp only [List.append_assoc]
    rw [ea] at hlen hq
    exact c139_p hHT hL63 hM hl hco hLU r (i + 1) _ w1 _ _ _ (sh_I u1 h) (fun c hc => RC_I u1 (hR c hc) (by unfold mPu; omega) (by unfold mPu; omega)) (HG_I u1 hH (by unfold mPu; omega) (by unfold mPu; omega)) L1 (LAs_I u1 (by unfold mPu; omega) r _ hA.2) (fun y hy => hx' y (List.mem_cons_of_mem _ hy)) (by omega) (fun d hd => (xI_i u1 65 d (by unfold mPu; omega)).trans (hU d hd)) u2 hlen (fun w' o1 o2 o6 v1 v2 => hq w' o1 o2 o6 (xI_tr u1 v1) v2)
/-- the tokens by the reference are those of the document, or too many -/
theorem rf_tok {LU : Nat → Int} {H0 : List Int} {ln : List xLn} {M : Nat} (hl : cs.length ≤ 63) (hg : g ≤ cs.length) (hLO : LO H0 ln) (hmen : ∀ d, men H0 ln d = true → d ≤ cs.length) (hLU : LU = luR H0 0 ln (fun _ => -1)) :
    (2000 < (drs g (fun d => decide (d ≤ g) && !mk d) g ++ plR cs (M + 1) H0 LU 0 ln).length ↔ 2000 < (tkA cs g (M + 1) H0 mk ln).length) ∧ ((tkA cs g (M + 1) H0 mk ln).length ≤ 2000 → drs g (fun d => decide (d ≤ g) && !mk d) g ++ plR cs (M + 1) H0 LU 0 ln = tkA cs g (M + 1) H0 mk ln) := by
  have ed : drs g (fun d => decide (d ≤ g) && !mk d) cs.length = drs g (fun d => decide (d ≤ g) && !mk d) g := by
    have := lst_more (f := fun d => decide (d ≤ g) && !mk d) hg (fun i h1 h2 => by rw [decide_eq_false (by omega)]; rfl)
    unfold drs
    rw [this]
  unfold tkA
  rw [ed]
  have hge := plR_ge (cs := cs) (E := M + 1) (H0 := H0) (LU := LU) ln 0
  have hge2 := tkL_ge (cs := cs) (E := M + 1) (H0 := H0) ln
  by_cases ht : tot H0 ln ≤ 2400
  · rw [plR_eq hl ln 0 (fun _ => -1) hLU (fun d => by omega) ht hLO hmen]
    exact ⟨Iff.rfl, fun _ => rfl⟩
  · rw [List.length_append, List.length_append]
    exact ⟨⟨fun _ => by omega, fun _ => by omega⟩, fun z => by omega⟩
theorem luR_b {H0 : List Int} : ∀ (ln : List xLn) (i : Nat) (LU : Nat → Int) (d : Nat), (-1 ≤ LU d ∧ LU d ≤ 63) → i + ln.length ≤ 63 → -1 ≤ luR H0 i ln LU d ∧ luR H0 i ln LU d ≤ 63
  | [], i, LU, d, h, hi => by
    have hi : i + 0 ≤ 63 := hi
    unfold luR lus
    split
    · omega
    · exact h
  | x :: r, i, LU, d, h, hi => by
    rw [List.length_cons] at hi
    refine luR_b r (i + 1) _ d ?_ (by omega)
    unfold lus
    split
    · omega
    · exact h
def mRr : Nat → Nat → Prop := fun p k => (p = 36 ∧ (k = 32 ∨ k = 33 ∨ k = 34 ∨ k = 39 ∨ k = 43 ∨ k = 26)) ∨ (48 ≤ p ∧ p ≤ 65)
/-- behind the walk: the record -/
theorem c139_r (hl : cs.length ≤ 63) (hco : cok cs) (hgl : g ≤ cs.length) (hN : NB g cs st) (he : e ≤ st.length) (h80 : st.length ≤ 80) {ln : List xLn} (hB : BI g st H0 e 0 mk sp ln) (hH18 : H0.length ≤ 18) (h : SH w) (hP : RP w hf hs V g cs st) (hM : MA w mk) (hG : HG w HT) (hL : HLs w HT H0 ln) (hHT : HT.length = tot H0 ln)
    (hq : ∀ w' tk (o1 o2 o6 : Option Value), xI mRr w w' → MK w' tk → tk.length < 2 ^ 27 → ((2000 < tk.length ↔ 2000 < (tkA cs g (g + cnA st e + 1) H0 mk ln).length) ∧ ((tkA cs g (g + cnA st e + 1) H0 mk ln).length ≤ 2000 → tk = tkA cs g (g + cnA st e + 1) H0 mk ln)) → (∀ p k, p = 50 ∨ p = 63 → x_i w' p k = x_i w p k) → x_R x_prog scr 139 251 [some (.ref 36), o1, o2, some (.int (nI (g + cnA st e))), some (.int (nI (ln.length + 1))), some (.int (nI (ln.length + 1))), o6] [] w' Q) :
    x_R x_prog scr 139 57 [some (.ref 36), some (.int (nI e)), o2, some (.int (nI g)), some (.int 1), o5, o6] [] w Q := by
  obtain ⟨b1, b2, b3, b4, b5, b6, b7, b8⟩ := id hB
  have hzz : cnA st 0 = 0 := rfl
  rw [hzz] at b4 b5 b8
  have hce : cnA st e ≤ cnA st st.length := cnA_le _ _ he
  have hN1 := hN.1
  have htl := tot_le (H0 := H0) ln b7
  have hHTl : HT.length < 2 ^ 27 := by omega
  have hmen : ∀ d, men H0 ln d = true → d ≤ cs.length := fun d hd => by rw [← b1] at hd; have := b2 d hd; omega
  have hHB : ∀ l : List Int, (∀ d, inL l d = true → mk d = true) → HB l := fun l hh x hx => by have := b2 _ (hh _ (mem_inL.mpr ⟨x, hx, rfl⟩)); omega
  have hmH : ∀ (r : List xLn) d, inL H0 d = true → men H0 r d = true := by
    intro r
    induction r with
    | nil => intro d hd; exact hd
    | cons x r ih => intro d hd; show (_ || men H0 r d) = true; rw [ih d hd, Bool.or_true]
  have hmx : ∀ (r : List xLn), ∀ x ∈ r, ∀ d, inL (hx x) d = true → men H0 r d = true := by
    intro r
    induction r with
    | nil => intro x hx'; cases hx'
    | cons y r ih =>
      intro x hx' d hd
      show (inL (hx y) d || men H0 r d) = true
      rcases List.mem_cons.mp hx' with ex | ex
      · rw [← ex, hd, Bool.true_or]
      · rw [ih x ex d hd, Bool.or_true]
  have hHB0 : HB H0 := hHB H0 (fun d hd => by rw [b1]; exact hmH ln d hd)
  have hHBx : ∀ x ∈ ln, HB (hx x) := fun x hx' => hHB _ (fun d hd => by rw [b1]; exact hmx ln x hx' d hd)
  -- the record itself
  have stepE : ∀ (w3 : xW) (o1 o2 o6 : Option Value), xI mRr w w3 → (∀ p k, p = 50 ∨ p = 63 → x_i w3 p k = x_i w p k) → HG w3 HT → HLs w3 HT H0 ln → LAs w3 0 ln → LUS w3 (luR H0 0 ln (fun _ => -1)) → x_R x_prog scr 139 170 [some (.ref 36), o1, o2, some (.int (nI (g + cnA st e))), some (.int (nI (ln.length + 1))), some (.int (nI (ln.length + 1))), o6] [] w3 Q := by
    intro w3 o1 o2 o6 F3 p3 G3 L3 A3 U3
    have h3 := sh_I F3 h
    refine b139_170 ⟨fun _ => ⟨by rw [sh_k h3]; rfl, by rw [sh_k h3]; rfl, ?_⟩, fun z => absurd (nI_le (by omega) (by omega)) z⟩
    have F4 : xI (fun p k => p = 36 ∧ k = 26) w3 (x_si w3 36 26 0) := xI_si xI_rf ⟨rfl, rfl⟩
    generalize hw4 : x_si w3 36 26 0 = w4 at *
    have K4 : MK w4 [] := ⟨by rw [← hw4, y_i_si, if_pos ⟨rfl, rfl⟩]; rfl, fun k hk => absurd hk (by simp)⟩
    clear hw4
    have h4 := sh_I F4 h3
    have e6 : x_i w4 36 6 = nI g := by rw [xI_i F4 36 6 (by omega), xI_i F3 36 6 (by unfold mRr; omega)]; exact hP.1.2.2.1
    have M4 : MA w4 mk := fun j hj => by rw [xI_i F4 50 j (by omega), p3 50 j (by omega)]; exact hM j hj
    refine c148 (mk := mk) (tk := []) (by omega) h4 e6 M4 K4 (by simp) (fun w5 u1 u2 => b139_248 ?_)
    rw [List.nil_append] at u2
    have h5 := sh_I u1 h4
    have F5 : xI mRr w w5 := xI_tr F3 (xI_tr (xI_w F4 (by unfold mRr; omega)) (xI_w u1 (by unfold mPu mRr; omega)))
    have L4 := HLs_I (e := []) F4 ln L3 (by omega) (by omega)
    rw [List.append_nil] at L4
    have L5 := HLs_I (e := []) u1 ln L4 (by unfold mPu; omega) (by unfold mPu; omega)
    rw [List.append_nil] at L5
    have hple := plR_le (E := g + cnA st e + 1) (LU := luR H0 0 ln (fun _ => -1)) hco ln 0 b7
    have hdl := drs_len (n := g) (f := fun d => decide (d ≤ g) && !mk d) (m := g)
    have hlen : (drs g (fun d => decide (d ≤ g) && !mk d) g ++ plR cs (g + cnA st e + 1) H0 (luR H0 0 ln (fun _ => -1)) 0 ln).length < 2 ^ 27 := by rw [List.length_append]; omega
    refine c139_p (M := g + cnA st e) (LU := luR H0 0 ln (fun _ => -1)) hHTl (by omega) (by omega) hl hco (fun d _ => luR_b ln 0 _ d (by omega) (by omega)) ln 0 _ w5 _ _ _ h5 (fun c hc => RC_I F5 (hP.2.1 c hc) (by unfold mRr; omega) (by unfold mRr; omega)) (HG_I u1 (HG_I F4 G3 (by omega) (by omega)) (by unfold mPu; omega) (by unfold mPu; omega)) L5 (LAs_I u1 (by unfold mPu; omega) ln 0 (LAs_I F4 (by omega) ln 0 A3)) (fun x hx' => by have := b4 x hx'; omega) (by omega) (fun d hd => by rw [xI_i u1 65 d (by unfold mPu; omega), xI_i F4 65 d (by omega)]; exact U3 d hd) u2 hlen (fun w' o1 o2 o6 v1 v2 => ?_)
    refine hq w' _ o1 o2 o6 (xI_tr F5 (xI_w v1 (by unfold mPu mRr; omega))) v2 hlen (rf_tok hl hgl b7 hmen rfl) (fun p k hp => ?_)
    rw [xI_i v1 p k (by unfold mPu; omega), xI_i u1 p k (by unfold mPu; omega), xI_i F4 p k (by omega)]
    exact p3 p k hp
  -- last uses
  have stepC : ∀ (d k : Nat) (w2 : xW) (o1 o2 o6 : Option Value), xI (fun p _ => p = 64 ∨ p = 65) w w2 → LAs w2 0 ln → (∀ j, j < k → x_i w2 65 j = -1) → k + d = 64 → x_R x_prog scr 139 146 [some (.ref 36), o1, o2, some (.int (nI (g + cnA st e))), some (.int (nI (ln.length + 1))), some (.int (nI k)), o6] [] w2 Q := by
    intro d
    induction d with
    | zero =>
      intro k w2 o1 o2 o6 F2 A2 z2 hk
      have h2 := sh_I F2 h
      have L2 := HLs_I (e := []) F2 ln hL (by omega) (by omega)
      rw [List.append_nil] at L2
      refine b139_146 ⟨fun _ => ?_, fun z => absurd (nI_le (a := 64) (by omega) (by omega)) z⟩
      refine c139_u (L := ln.length + 1) (by omega) (by omega) hHB0 ln 0 (fun _ => -1) w2 _ _ _ h2 (HG_I F2 hG (by omega) (by omega)) L2 A2 (fun x hx' => ⟨by have := b4 x hx'; omega, hHBx x hx'⟩) (by omega) (fun j hj => (z2 j (by omega)).trans (show (-1 : Int32) = iI (-1) by decide)) (fun w3 o1 o2 o6 u1 u2 => ?_)
      have F3 : xI mRr w w3 := xI_tr (xI_w F2 (by unfold mRr; omega)) (xI_w u1 (by unfold mRr; omega))
      have L3 := HLs_I (e := []) u1 ln L2 (by omega) (by omega)
      rw [List.append_nil] at L3
      exact stepE w3 o1 o2 o6 F3 (fun p k hp => by rw [xI_i u1 p k (by omega), xI_i F2 p k (by omega)]) (HG_I u1 (HG_I F2 hG (by omega) (by omega)) (by omega) (by omega)) L3 (LAs_I u1 (by omega) ln 0 A2) u2
    | succ d ih =>
      intro k w2 o1 o2 o6 F2 A2 z2 hk
      have h2 := sh_I F2 h
      refine b139_146 ⟨fun z => absurd z (nI_ge (b := 64) (by omega) (by omega)), fun _ => ?_⟩
      simp only [sh_k h2, sh_l h2, sh_n h2, kk36, sr36_2 h2, sr36_8 h2, sr36_9 h2, sr36_12 h2, sr36_13 h2, sr36_14 h2, sr36_15 h2, sr36_21 h2, sr36_22 h2, sr36_23 h2, sr36_25 h2, sr36_27 h2, sr36_28 h2, sr36_29 h2, sr36_30 h2, sr36_31 h2, sr36_35 h2, sr36_36 h2, sr36_37 h2, sr36_38 h2, sr36_40 h2, sr36_41 h2, sr36_42 h2, sr36_44 h2, sr36_45 h2, sr36_46 h2, sr36_47 h2, sr36_48 h2, sr36_49 h2, sr36_51 h2, sr36_52 h2, sr36_53 h2, sr36_54 h2, sr36_55 h2, kk65, ll65, true_and, and_true, false_and, and_false, and_self, not_false_eq_true, not_true_eq_false, true_implies, false_implies, implies_true, true_or, or_true, or_self, if_true, if_false, Nat.reduceEqDiff, reduceIte, eq_self, nI_1, nI_clamp (show k < 2 ^ 31 by omega), vp_in_nI (show k < 64 by omega) (show 64 < 2 ^ 31 by omega)]
      have G : xI (fun p _ => p = 65) w2 (x_si w2 65 k (-1)) := xI_si xI_rf rfl
      refine ih (k + 1) _ _ _ _ (xI_tr F2 (xI_w G (by omega))) (LAs_I G (by omega) ln 0 A2) (fun j hj => ?_) (by omega)
      rw [y_i_si]
      by_cases ej : j = k
      · rw [if_pos ⟨rfl, ej⟩]
      · rw [if_neg (fun z => ej z.2)]; exact z2 j (by omega)
  -- the numbers of the lines
  have stepB : ∀ (d c : Nat) (dn : List Nat) (r : List xLn) (w2 : xW) (o1 o2 o6 : Option Value), xI (fun p _ => p = 64 ∨ p = 65) w w2 → dn ++ r.map (fun x => x.1) = ln.map (fun x => x.1) → (∀ k, k < dn.length → x_i w2 64 k = nI (dn.getD k 0)) → r.Pairwise (fun a b => a.1 < b.1) → (∀ x ∈ r, c ≤ x.1 ∧ x.1 ≤ g + cnA st e) → (∀ j, c ≤ j → j ≤ g + cnA st e → (mk j = true ↔ ∃ x ∈ r, x.1 = j)) → 1 ≤ c → c + d = g + cnA st e + 1 → x_R x_prog scr 139 98 [some (.ref 36), o1, o2, some (.int (nI (g + cnA st e))), some (.int (nI dn.length)), some (.int (nI c)), o6] [] w2 Q := by
    intro d
    induction d with
    | zero =>
      intro c dn r w2 o1 o2 o6 F2 hdn hz hpw hrg hiff hc1 hc
      have h2 := sh_I F2 h
      have er : r = [] := by
        cases r with
        | nil => rfl
        | cons x r => have := hrg x List.mem_cons_self; omega
      rw [er, List.map_nil, List.append_nil] at hdn
      have hdl : dn.length = ln.length := by rw [hdn, List.length_map]
      refine b139_98 ⟨fun _ => ?_, fun z => absurd (nI_lt (by omega) (by omega)) z⟩
      simp only [sh_k h2, sh_l h2, sh_n h2, kk36, sr36_2 h2, sr36_8 h2, sr36_9 h2, sr36_12 h2, sr36_13 h2, sr36_14 h2, sr36_15 h2, sr36_21 h2, sr36_22 h2, sr36_23 h2, sr36_25 h2, sr36_27 h2, sr36_28 h2, sr36_29 h2, sr36_30 h2, sr36_31 h2, sr36_35 h2, sr36_36 h2, sr36_37 h2, sr36_38 h2, sr36_40 h2, sr36_41 h2, sr36_42 h2, sr36_44 h2, sr36_45 h2, sr36_46 h2, sr36_47 h2, sr36_48 h2, sr36_49 h2, sr36_51 h2, sr36_52 h2, sr36_53 h2, sr36_54 h2, sr36_55 h2, kk64, ll64, true_and, and_true, false_and, and_false, and_self, not_false_eq_true, not_true_eq_false, true_implies, false_implies, implies_true, true_or, or_true, or_self, if_true, if_false, Nat.reduceEqDiff, reduceIte, eq_self, nI_1, nI_clamp (show dn.length < 2 ^ 31 by omega), vp_in_nI (show dn.length < 64 by omega) (show 64 < 2 ^ 31 by omega)]
      have G : xI (fun p _ => p = 64) w2 (x_si w2 64 dn.length 0) := xI_si xI_rf rfl
      have A3 : LAs (x_si w2 64 dn.length 0) 0 ln := by
        refine LAs_of ln 0 (fun k hk => ?_) ?_
        · rw [Nat.zero_add, y_i_si, if_neg (by omega), hz k (by omega), hdn]
        · rw [Nat.zero_add, y_i_si, if_pos ⟨rfl, hdl.symm⟩]; rfl
      have := stepC 64 0 (x_si w2 64 dn.length 0) none none none (xI_tr F2 (xI_w G (by omega))) A3 (fun j hj => by omega) (by omega)
      rw [hdl] at this ⊢
      exact this
    | succ d ih =>
      intro c dn r w2 o1 o2 o6 F2 hdn hz hpw hrg hiff hc1 hc
      have h2 := sh_I F2 h
      have hdl : dn.length + r.length = ln.length := by
        have := congrArg List.length hdn
        rw [List.length_append, List.length_map, List.length_map] at this
        exact this
      have e50 : x_i w2 50 c = b32 (mk c) := (xI_i F2 50 c (by omega)).trans (hM c (by omega))
      refine b139_98 ⟨fun z => absurd z (nI_nlt (by omega) (by omega)), fun _ => ?_⟩
      simp only [sh_k h2, sh_l h2, sh_n h2, kk36, sr36_2 h2, sr36_8 h2, sr36_9 h2, sr36_12 h2, sr36_13 h2, sr36_14 h2, sr36_15 h2, sr36_21 h2, sr36_22 h2, sr36_23 h2, sr36_25 h2, sr36_27 h2, sr36_28 h2, sr36_29 h2, sr36_30 h2, sr36_31 h2, sr36_35 h2, sr36_36 h2, sr36_37 h2, sr36_38 h2, sr36_40 h2, sr36_41 h2, sr36_42 h2, sr36_44 h2, sr36_45 h2, sr36_46 h2, sr36_47 h2, sr36_48 h2, sr36_49 h2, sr36_51 h2, sr36_52 h2, sr36_53 h2, sr36_54 h2, sr36_55 h2, kk50, ll50, kk64, ll64, true_and, and_true, false_and, and_false, and_self, not_false_eq_true, not_true_eq_false, true_implies, false_implies, implies_true, true_or, or_true, or_self, if_true, if_false, Nat.reduceEqDiff, reduceIte, eq_self, nI_1, nI_clamp (show c < 2 ^ 31 by omega), vp_in_nI (show c < 64 by omega) (show 64 < 2 ^ 31 by omega), e50, nI_clamp (show dn.length < 2 ^ 31 by omega), vp_in_nI (show dn.length < 64 by omega) (show 64 < 2 ^ 31 by omega)]
      cases hmc : mk c with
      | false =>
        refine ⟨fun _ => ih (c + 1) dn r w2 _ _ _ F2 hdn hz hpw (fun x hx' => ?_) (fun j h1 h2 => hiff j (by omega) h2) (by omega) (by omega), fun z => absurd rfl z⟩
        have h1 := hrg x hx'
        have : ¬ x.1 = c := by
          intro ex
          have := (hiff c (Nat.le_refl _) (by omega)).mpr ⟨x, hx', ex⟩
          rw [hmc] at this
          cases this
        omega
      | true =>
        obtain ⟨y, hy, ey⟩ := (hiff c (Nat.le_refl _) (by omega)).mp hmc
        cases r with
        | nil => cases hy
        | cons x r =>
          have hp2 := List.pairwise_cons.mp hpw
          have ex : x.1 = c := by
            rcases List.mem_cons.mp hy with e1 | e1
            · rw [← e1]; exact ey
            · have h1 := hp2.1 y e1
              have h2 := hrg x List.mem_cons_self
              omega
          refine ⟨fun z => absurd z (by decide), fun _ => ?_⟩
          have G : xI (fun p _ => p = 64) w2 (x_si w2 64 dn.length (nI c)) := xI_si xI_rf rfl
          have hl1 : (dn ++ [c]).length = dn.length + 1 := by simp
          have := ih (c + 1) (dn ++ [c]) r (x_si w2 64 dn.length (nI c)) none none none (xI_tr F2 (xI_w G (by omega))) ?_ (fun k hk => ?_) hp2.2 (fun z hz' => ?_) (fun j h1 h2 => ?_) (by omega) (by omega)
          · rw [hl1] at this
            exact this
          · rw [List.append_assoc, ← ex]; exact hdn
          · rw [hl1] at hk
            rw [y_i_si, List.getD_eq_getElem?_getD]
            by_cases ek : k < dn.length
            · rw [if_neg (by omega), List.getElem?_append_left ek, ← List.getD_eq_getElem?_getD]; exact hz k ek
            · have ek2 : k = dn.length := by omega
              rw [if_pos ⟨rfl, ek2⟩, List.getElem?_append_right (by omega), ek2]
              simp
          · have h3 := hp2.1 z hz'
            have h4 := hrg z (List.mem_cons_of_mem _ hz')
            omega
          · rw [hiff j (by omega) h2]
            constructor
            · rintro ⟨y, hy, e1⟩
              rcases List.mem_cons.mp hy with e2 | e2
              · rw [e2] at e1; omega
              · exact ⟨y, e2, e1⟩
            · rintro ⟨y, hy, e1⟩
              exact ⟨y, List.mem_cons_of_mem _ hy, e1⟩
  -- how many additions
  have stepA : ∀ (d s : Nat) (o2 o5 o6 : Option Value), s + d = e → x_R x_prog scr 139 57 [some (.ref 36), some (.int (nI e)), o2, some (.int (nI (g + cnA st s))), some (.int (nI (s + 1))), o5, o6] [] w Q := by
    intro d
    induction d with
    | zero =>
      intro s o2 o5 o6 hs
      have es : s = e := by omega
      subst es
      refine b139_57 ⟨fun _ => ⟨by rw [sh_k h]; rfl, ?_⟩, fun z => absurd (nI_lt (by omega) (by omega)) z⟩
      rw [hP.1.2.2.1, nI_1]
      exact stepB (cnA st s) (g + 1) [] ln w _ _ _ xI_rf (List.nil_append _) (fun k hk => absurd hk (by simp)) b3 (fun x hx' => by have := b4 x hx'; omega) (fun j h1 h2 => b5 j (by omega) h2) (by omega) (by omega)
    | succ d ih =>
      intro s o2 o5 o6 hs
      have e40 := (hP.2.2 s (by omega)).1
      have hcs' : cnA st (s + 1) = cnA st s + (if (sg st s).1 = true then 1 else 0) := rfl
      refine b139_57 ⟨fun z => absurd z (nI_nlt (by omega) (by omega)), fun _ => ?_⟩
      simp only [sh_k h, sh_l h, sh_n h, kk36, sr36_2 h, sr36_8 h, sr36_9 h, sr36_12 h, sr36_13 h, sr36_14 h, sr36_15 h, sr36_21 h, sr36_22 h, sr36_23 h, sr36_25 h, sr36_27 h, sr36_28 h, sr36_29 h, sr36_30 h, sr36_31 h, sr36_35 h, sr36_36 h, sr36_37 h, sr36_38 h, sr36_40 h, sr36_41 h, sr36_42 h, sr36_44 h, sr36_45 h, sr36_46 h, sr36_47 h, sr36_48 h, sr36_49 h, sr36_51 h, sr36_52 h, sr36_53 h, sr36_54 h, sr36_55 h, kk40, ll40, true_and, and_true, false_and, and_false, and_self, not_false_eq_true, not_true_eq_false, true_implies, false_implies, implies_true, true_or, or_true, or_self, if_true, if_false, Nat.reduceEqDiff, reduceIte, eq_self, nI_clamp (show s + 1 < 2 ^ 31 by omega), vp_in_nI (show s + 1 < 81 by omega) (show 81 < 2 ^ 31 by omega), e40, nI_1]
      have := ih (s + 1) none none none (by omega)
      rw [hcs'] at this
      cases ha : (sg st s).1 with
      | false =>
        rw [ha] at this
        exact ⟨fun _ => this, fun z => absurd rfl z⟩
      | true =>
        rw [ha] at this
        exact ⟨fun z => absurd z (by decide), fun _ => this⟩
  have := stepA e 0 o2 o5 o6 (by omega)
  exact this
theorem rf_bl {cs : List (List Int)} {g : Nat} {st : xSt} : ∀ (s : Nat) (mk sp : Nat → Bool) (ln : List xLn), (bck cs g st s mk sp ln).1 ≤ s := by
  intro s
  induction s with
  | zero => intro mk sp ln; exact Nat.le_refl _
  | succ s ih =>
    intro mk sp ln
    unfold bck
    split
    · split
      · exact Nat.le_refl _
      · exact Nat.le_trans (ih _ _ _) (Nat.le_succ _)
    · exact Nat.le_trans (ih _ _ _) (Nat.le_succ _)
/-- refute of the reference -/
theorem c139 (h : SH w) (ht : TT w t sz) (hA : AK fa hf hs V g cs st mk sp tk) (hC : CR w fa hf hs V g cs st mk sp tk)
    (hq1 : hs = true → ∀ w', xHi w w' → TT w' t sz → x_i w' 36 0 = 0 → CR w' fa hf hs V g cs st (rfM cs g st mk) (rfS cs g st sp) (rfX cs g st tk) → Q (.inl (some (.int (iI (rfA cs g st))))) w')
    (hq2 : hs = false → ∀ w', xHi w w' → TT w' t sz → x_i w' 36 0 = 1 → CR w' fa hf hs V g cs st mk sp tk → Q (.inl (some (.int 0))) w') : x_R x_prog scr 139 0 [some (.ref 36), o1, o2, o3, o4, o5, o6] [] w Q := by
  obtain ⟨hfa, hV, hg40, hgl, hl63, hst80, hco, hst0, hrs, hsf, hmk, htl, htv⟩ := hA
  have hab := prc_ab hrs
  have hN := prc_NB hgl hrs
  have k0 : x_k w 36 = 12 := by rw [sh_k h]; rfl
  have e0 : ∀ v, x_i (x_si w 36 0 v) 36 0 = v := fun v => by rw [y_i_si, if_pos ⟨rfl, rfl⟩]
  have F : ∀ v, xI (fun p k => p = 36 ∧ k = 0) w (x_si w 36 0 v) := fun v => xI_si xI_rf ⟨rfl, rfl⟩
  have h10 := hC.2.1.1.2.2.2.2.1
  refine b139_0 ?_
  rw [h10, e0, e0]
  cases hs with
  | false =>
    refine ⟨k0, fun _ => ⟨k0, k0, fun z => absurd z (by decide), fun _ => ?_⟩, fun z => absurd rfl z⟩
    obtain ⟨a1, a2, a3⟩ := CR_z (F 1) (by omega) ht hC
    exact hq2 rfl _ a1 a2 (e0 1) a3
  | true =>
    have hq1 := hq1 rfl
    unfold rfM rfS rfX at hq1
    obtain ⟨a1, a2, a3⟩ := CR_z (F 0) (by omega) ht hC
    refine ⟨k0, fun z => absurd z (by decide), fun _ => ⟨k0, k0, fun _ => ⟨k0, c100 hst80 (by omega) hl63 hco (fun k hk => by have := hab k hk; omega) (sh_I (F 0) h) a3.2.1 (fun w1 u1 => b139_29 ?_)⟩, fun z => absurd (by decide) z⟩⟩
    obtain ⟨b1, b2, b3⟩ := CR_z u1 (by unfold mFe; omega) a2 a3
    have h1 := sh_I u1 (sh_I (F 0) h)
    have e00 : x_i w1 36 0 = 0 := (xI_i u1 36 0 (by unfold mFe; omega)).trans (e0 0)
    have H01 := xHi_tr a1 b1
    rcases fen_rg (cs := cs) (g := g) (st := st) with e | ⟨e, e1, e2, e3⟩
    · have hk : rfK cs g st = false := decide_eq_false (fun z => z.1 (by rw [e]; decide))
      have hA : rfA cs g st = 0 := by unfold rfA; rw [if_pos (by rw [e]; decide)]
      rw [hk] at hq1
      have := hq1 w1 H01 b2 e00 b3
      rw [hA] at this
      rw [e]
      exact ⟨fun z => absurd z (by decide), fun _ => this⟩
    · have et : (fen cs g st).toNat = e := by rw [e1]; rfl
      have hnn : ¬ fen cs g st < 0 := by rw [e1]; omega
      have hfA : rfA cs g st = if ¬ (rfR cs g st e).1 = 0 then -((rfR cs g st e).1 : Int) else if 2000 < (rfT cs g st e).length then -1000 else 1 + ((rfR cs g st e).2.2.2.length : Int) := by unfold rfA; rw [if_neg hnn, et]
      have hfK : rfK cs g st = decide ((rfR cs g st e).1 = 0 ∧ (rfT cs g st e).length ≤ 2000) := by
        unfold rfK
        rw [et]
        exact decide_eq_decide.mpr ⟨fun z => z.2, fun z => ⟨hnn, z⟩⟩
      rw [et] at hq1
      rw [e1, iI_n]
      have hpos : (0 : Int32) ≤ nI e := by rw [← nI_0, nI_leI (by omega) (by omega)]; omega
      have hPA := prg_at (cs := cs) (al := alv g st e) (mk := nob) 17 tv0 [] AT_nil
      have hH18 : (rfH cs g st e).length ≤ 18 := hI_len (by have := hPA.2.1; rw [List.length_nil] at this; omega)
      have hHV : HV cs (alv g st e) (rfH cs g st e) := hI_ok hPA.1 hPA.2.2 e3
      have B0 := BI_0 (H0 := rfH cs g st e) hN e2 hHV
      have hbl : (rfR cs g st e).1 ≤ e := rf_bl e (mkS nob (rfH cs g st e)) nob []
      refine ⟨fun _ => ⟨by rw [sh_k h1]; rfl, ?_⟩, fun z => absurd hpos z⟩
      refine c140 hl63 hco (by omega) hN e2 hst80 e3 (fun k hk => by have := hab k hk; omega) h1 b3.2.1 (fun z w2 v1 => b139_41 ?_) (fun z w2 HT v1 v2 v3 v4 v5 v6 => b139_41 ?_)
      · have nz : ¬ nI (rfR cs g st e).1 ≤ 0 := by rw [← nI_0, nI_leI (by omega) (by omega)]; omega
        obtain ⟨d1, d2, d3⟩ := CR_z v1 (by unfold mGb; omega) b2 b3
        rw [hfK, decide_eq_false (fun y => z y.1)] at hq1
        have := hq1 w2 (xHi_tr H01 d1) d2 ((xI_i v1 36 0 (by unfold mGb; omega)).trans e00) d3
        rw [hfA, if_pos z, ← iI_ng (by omega) (by omega), iI_n] at this
        exact ⟨fun y => absurd y nz, fun _ => this⟩
      · have hB : BI g st (rfH cs g st e) e 0 (rfR cs g st e).2.1 (rfR cs g st e).2.2.1 (rfR cs g st e).2.2.2 := bck_BI hN e2 e _ _ _ (Nat.le_refl _) B0 z
        obtain ⟨d1, d2, d3⟩ := CR_z v1 (by unfold mGb; omega) b2 b3
        have h2 := sh_I v1 h1
        have e02 : x_i w2 36 0 = 0 := (xI_i v1 36 0 (by unfold mGb; omega)).trans e00
        refine ⟨fun _ => ⟨by rw [sh_k h2]; rfl, ?_⟩, fun y => absurd (by decide) y⟩
        rw [d3.2.1.1.2.2.1]
        have hTk : rfT cs g st e = tkA cs g (g + cnA st e + 1) (rfH cs g st e) (rfR cs g st e).2.1 (rfR cs g st e).2.2.2 := rfl
        have hce : cnA st e ≤ cnA st st.length := cnA_le _ _ e2
        have hlen63 := hB.2.2.2.2.2.2.2
        have hN1 := hN.1
        generalize hR : rfR cs g st e = R at *
        refine c139_r hl63 hco hgl hN e2 hst80 hB hH18 h2 d3.2.1 v2 v3 v4 v5 (fun w3 tk3 o1 o2 o6 x1 x2 x3 x4 x5 => b139_251 ⟨fun _ => ?_, fun y => absurd (nI_le (by omega) (by omega)) y⟩)
        rw [← hTk] at x4
        have h3 := sh_I x1 h2
        obtain ⟨f1, f2, f3⟩ := CR_z x1 (by unfold mRr; omega) d2 d3
        have e03 : x_i w3 36 0 = 0 := (xI_i x1 36 0 (by unfold mRr; omega)).trans e02
        have g2000 : nI tk3.length ≤ (2000 : Int32) ↔ tk3.length ≤ 2000 := nI_leI (b := 2000) (by omega) (by omega)
        rw [x2.1, g2000, sh_k h3]
        refine ⟨rfl, fun y => ?_, fun y => ?_⟩
        · have y2 : (rfT cs g st e).length ≤ 2000 := by
            have := x4.1
            omega
          have eT := x4.2 y2
          rw [hfK, decide_eq_true ⟨z, y2⟩, if_pos rfl, if_pos rfl, if_pos rfl] at hq1
          rw [hfA, if_neg (fun t => t z), if_neg (by omega)] at hq1
          have e9 : (1 : Int) + (R.2.2.2.length : Int) = ((R.2.2.2.length + 1 : Nat) : Int) := by omega
          rw [e9, iI_n] at hq1
          refine ⟨rfl, c85 h3 y x2 (fun w4 t1 t2 t3 => b139_325 ?_)⟩
          have h4 := sh_I t1 h3
          have M4 : MA w4 R.2.1 := fun j hj => by rw [xI_i t1 50 j (by omega), x5 50 j (by omega)]; exact v2 j hj
          have W4 : WYS w4 st e 0 R.2.1 R.2.2.1 := fun s hs => by rw [xI_i t1 63 s (by omega), x5 63 s (by omega)]; exact v6 s hs
          rw [eT] at t2 t3
          -- ways
          have keyW : ∀ (d k : Nat) (w5 : xW) (o1 o2 o3 o6 : Option Value), xI (fun p _ => p = 42 ∨ p = 43) w4 w5 → (∀ j, j < 64 → x_i w5 43 j = b32 (R.2.1 j)) → (∀ j, j < k → x_i w5 42 j = x_i w4 63 j) → k + d = 81 → x_R x_prog scr 139 358 [some (.ref 36), o1, o2, o3, some (.int (nI (R.2.2.2.length + 1))), some (.int (nI k)), o6] [] w5 Q := by
            intro d
            induction d with
            | zero =>
              intro k w5 o1 o2 o3 o6 s1 s2 s3 hk
              refine b139_358 ⟨fun _ => ?_, fun y => absurd (nI_le (a := 81) (by omega) (by omega)) y⟩
              have F5 : xI (fun p k => (p = 36 ∧ k = 24) ∨ p = 47 ∨ p = 42 ∨ p = 43) w3 w5 := xI_tr (xI_w t1 (by omega)) (xI_w s1 (by omega))
              have Hi5 : xHi w3 w5 := xHi_I F5 (by omega)
              obtain ⟨c3, ⟨⟨p4, p5, p6, p7, p10, p11⟩, pR, pS⟩, cM, cW, c24, cT⟩ := f3
              have q : ∀ p k, (p = 36 ∧ ¬ k = 24) ∨ p = 37 ∨ p = 38 ∨ p = 39 ∨ p = 40 ∨ p = 41 → x_i w5 p k = x_i w3 p k := fun p k hp => xI_i F5 p k (by omega)
              refine hq1 w5 (xHi_tr H01 (xHi_tr d1 (xHi_tr f1 Hi5))) (TT_Hi Hi5 f2 (q 36 1 (by omega)) (funext fun k => q 37 k (by omega))) ((q 36 0 (by omega)).trans e03) ⟨(q 36 3 (by omega)).trans c3, ⟨⟨(q 36 4 (by omega)).trans p4, (q 36 5 (by omega)).trans p5, (q 36 6 (by omega)).trans p6, (q 36 7 (by omega)).trans p7, (q 36 10 (by omega)).trans p10, (q 36 11 (by omega)).trans p11⟩, fun c hc => ⟨(q 39 _ (by omega)).trans (pR c hc).1, fun k hk => (q 38 _ (by omega)).trans ((pR c hc).2 k hk)⟩, fun s hs => ⟨(q 40 _ (by omega)).trans (pS s hs).1, (q 41 _ (by omega)).trans (pS s hs).2⟩⟩, s2, fun s hs => ?_, ?_, fun k hk => ?_⟩
              · rw [s3 (s + 1) (by omega), W4 (s + 1) (by omega), Nat.add_sub_cancel]
                congr 1
                by_cases hse : s + 1 ≤ e
                · rw [if_pos (by omega)]
                · rw [if_neg (by omega)]
                  unfold wy
                  split
                  · rename_i hc
                    exfalso
                    have h5 := (hN.2 s hs).1 hc.1
                    have h6 := hB.2.1 _ hc.2
                    have h7 : cnA st e ≤ cnA st s := cnA_le _ _ (by omega)
                    omega
                  · rfl
              · rw [xI_i s1 36 24 (by omega)]; exact t2
              · rw [xI_i s1 47 k (by omega)]; exact t3 k hk
            | succ d ih =>
              intro k w5 o1 o2 o3 o6 s1 s2 s3 hk
              have h5 := sh_I s1 h4
              refine b139_358 ⟨fun y => absurd y (nI_ge (b := 81) (by omega) (by omega)), fun _ => ?_⟩
              simp only [sh_k h5, sh_l h5, sh_n h5, kk36, sr36_2 h5, sr36_8 h5, sr36_9 h5, sr36_12 h5, sr36_13 h5, sr36_14 h5, sr36_15 h5, sr36_21 h5, sr36_22 h5, sr36_23 h5, sr36_25 h5, sr36_27 h5, sr36_28 h5, sr36_29 h5, sr36_30 h5, sr36_31 h5, sr36_35 h5, sr36_36 h5, sr36_37 h5, sr36_38 h5, sr36_40 h5, sr36_41 h5, sr36_42 h5, sr36_44 h5, sr36_45 h5, sr36_46 h5, sr36_47 h5, sr36_48 h5, sr36_49 h5, sr36_51 h5, sr36_52 h5, sr36_53 h5, sr36_54 h5, sr36_55 h5, kk42, ll42, kk63, ll63, true_and, and_true, false_and, and_false, and_self, not_false_eq_true, not_true_eq_false, true_implies, false_implies, implies_true, true_or, or_true, or_self, if_true, if_false, Nat.reduceEqDiff, reduceIte, eq_self, nI_1, nI_clamp (show k < 2 ^ 31 by omega), vp_in_nI (show k < 81 by omega) (show 81 < 2 ^ 31 by omega)]
              have G : xI (fun p _ => p = 42) w5 (x_si w5 42 k (x_i w5 63 k)) := xI_si xI_rf rfl
              refine ih (k + 1) _ _ _ _ _ (xI_tr s1 (xI_w G (by omega))) (fun j hj => (xI_i G 43 j (by omega)).trans (s2 j hj)) (fun j hj => ?_) (by omega)
              rw [y_i_si]
              by_cases ej : j = k
              · rw [if_pos ⟨rfl, ej⟩, ej, xI_i s1 63 k (by omega)]
              · rw [if_neg (fun y => ej y.2)]; exact s3 j (by omega)
          have keyM : ∀ (d k : Nat) (w5 : xW) (o1 o2 o3 o6 : Option Value), xI (fun p _ => p = 42 ∨ p = 43) w4 w5 → (∀ j, j < k → x_i w5 43 j = b32 (R.2.1 j)) → k + d = 64 → x_R x_prog scr 139 328 [some (.ref 36), o1, o2, o3, some (.int (nI (R.2.2.2.length + 1))), some (.int (nI k)), o6] [] w5 Q := by
            intro d
            induction d with
            | zero =>
              intro k w5 o1 o2 o3 o6 s1 s2 hk
              refine b139_328 ⟨fun _ => ?_, fun y => absurd (nI_le (a := 64) (by omega) (by omega)) y⟩
              exact keyW 81 0 w5 _ _ _ _ s1 (fun j hj => s2 j (by omega)) (fun j hj => by omega) (by omega)
            | succ d ih =>
              intro k w5 o1 o2 o3 o6 s1 s2 hk
              have h5 := sh_I s1 h4
              have e50 : x_i w5 50 k = b32 (R.2.1 k) := (xI_i s1 50 k (by omega)).trans (M4 k (by omega))
              refine b139_328 ⟨fun y => absurd y (nI_ge (b := 64) (by omega) (by omega)), fun _ => ?_⟩
              simp only [sh_k h5, sh_l h5, sh_n h5, kk36, sr36_2 h5, sr36_8 h5, sr36_9 h5, sr36_12 h5, sr36_13 h5, sr36_14 h5, sr36_15 h5, sr36_21 h5, sr36_22 h5, sr36_23 h5, sr36_25 h5, sr36_27 h5, sr36_28 h5, sr36_29 h5, sr36_30 h5, sr36_31 h5, sr36_35 h5, sr36_36 h5, sr36_37 h5, sr36_38 h5, sr36_40 h5, sr36_41 h5, sr36_42 h5, sr36_44 h5, sr36_45 h5, sr36_46 h5, sr36_47 h5, sr36_48 h5, sr36_49 h5, sr36_51 h5, sr36_52 h5, sr36_53 h5, sr36_54 h5, sr36_55 h5, kk43, ll43, kk50, ll50, true_and, and_true, false_and, and_false, and_self, not_false_eq_true, not_true_eq_false, true_implies, false_implies, implies_true, true_or, or_true, or_self, if_true, if_false, Nat.reduceEqDiff, reduceIte, eq_self, nI_1, nI_clamp (show k < 2 ^ 31 by omega), vp_in_nI (show k < 64 by omega) (show 64 < 2 ^ 31 by omega), e50]
              have G : xI (fun p _ => p = 43) w5 (x_si w5 43 k (b32 (R.2.1 k))) := xI_si xI_rf rfl
              refine ⟨by cases R.2.1 k; exact Or.inl rfl; exact Or.inr rfl, ih (k + 1) _ _ _ _ _ (xI_tr s1 (xI_w G (by omega))) (fun j hj => ?_) (by omega)⟩
              rw [y_i_si]
              by_cases ej : j = k
              · rw [if_pos ⟨rfl, ej⟩, ej]
              · rw [if_neg (fun y => ej y.2)]; exact s2 j (by omega)
          exact keyM 64 0 w4 _ _ _ _ xI_rf (fun j hj => by omega) (by omega)
        · have y2 : 2000 < (rfT cs g st e).length := x4.1.mp (by omega)
          rw [hfK, decide_eq_false (fun t => by omega)] at hq1
          have := hq1 w3 (xHi_tr H01 (xHi_tr d1 f1)) f2 e03 f3
          rw [hfA, if_neg (fun t => t z), if_pos y2] at this
          exact this
theorem drs_v {n : Nat} {f : Nat → Bool} {m : Nat} (hn : n ≤ 64) (hm : m ≤ 63) : ∀ v ∈ drs n f m, -9999 ≤ v ∧ v ≤ 10000 := by
  intro v hv
  unfold drs at hv
  split at hv
  · cases hv
  · simp only [List.mem_cons, List.mem_append, List.not_mem_nil, or_false] at hv
    rcases hv with h | h | h | h
    · omega
    · omega
    · obtain ⟨i, h1, h2, h3, h4⟩ := (mem_lst _ _).mp h
      omega
    · omega
theorem lnT_v {n : Nat} {ls hs : List Int} (hn : n ≤ 64) (h1 : ∀ l ∈ ls, lok l) (h2 : HB hs) : ∀ v ∈ lnT n ls hs, -9999 ≤ v ∧ v ≤ 10000 := by
  intro v hv
  unfold lnT at hv
  simp only [List.mem_cons, List.mem_append, List.not_mem_nil, or_false] at hv
  rcases hv with h | h | h | h | h
  · omega
  · have := h1 v h; unfold lok at this; omega
  · omega
  · have := h2 v h; omega
  · omega
/-- refute keeps what holds of a state -/
theorem AK_rf (hA : AK fa hf hs V g cs st mk sp tk) : AK fa hf hs V g cs st (rfM cs g st mk) (rfS cs g st sp) (rfX cs g st tk) := by
  obtain ⟨hfa, hV, hg40, hgl, hl63, hst80, hco, hst0, hrs, hsf, hmk, htl, htv⟩ := id hA
  unfold rfM rfS rfX
  cases hk : rfK cs g st with
  | false => exact hA
  | true =>
    have z := of_decide_eq_true hk
    have hN := prc_NB hgl hrs
    rcases fen_rg (cs := cs) (g := g) (st := st) with e | ⟨e, e1, e2, e3⟩
    · exact absurd (by rw [e]; decide) z.1
    · have et : (fen cs g st).toNat = e := by rw [e1]; rfl
      rw [et] at z
      rw [et, if_pos rfl, if_pos rfl, if_pos rfl]
      have hPA := prg_at (cs := cs) (al := alv g st e) (mk := nob) 17 tv0 [] AT_nil
      have hHV : HV cs (alv g st e) (rfH cs g st e) := hI_ok hPA.1 hPA.2.2 e3
      have B0 := BI_0 (H0 := rfH cs g st e) hN e2 hHV
      have hB : BI g st (rfH cs g st e) e 0 (rfR cs g st e).2.1 (rfR cs g st e).2.2.1 (rfR cs g st e).2.2.2 := bck_BI hN e2 e _ _ _ (Nat.le_refl _) B0 z.2.1
      obtain ⟨b1, b2, b3, b4, b5, b6, b7, b8⟩ := hB
      have hce : cnA st e ≤ cnA st st.length := cnA_le _ _ e2
      have hN1 := hN.1
      refine ⟨hfa, hV, hg40, hgl, hl63, hst80, hco, hst0, hrs, hsf, fun j hj => by have := b2 j hj; omega, z.2.2, ?_⟩
      have hHB : ∀ l : List Int, (∀ d, inL l d = true → men (rfH cs g st e) (rfR cs g st e).2.2.2 d = true) → HB l := fun l hh x hx => by have := b2 _ (by rw [b1]; exact hh _ (mem_inL.mpr ⟨x, hx, rfl⟩)); omega
      have key : ∀ (ln : List xLn), (∀ d, men (rfH cs g st e) ln d = true → men (rfH cs g st e) (rfR cs g st e).2.2.2 d = true) → (∀ x ∈ ln, x.1 ≤ 63) → ∀ v ∈ tkL cs (g + cnA st e + 1) (rfH cs g st e) ln, -9999 ≤ v ∧ v ≤ 10000 := by
        intro ln
        induction ln with
        | nil => intro h1 _; exact lnT_v (by omega) (fun l hl => by cases hl) (hHB _ h1)
        | cons x r ih =>
          intro h1 h2 v hv
          have hx1 := h2 x List.mem_cons_self
          unfold tkL at hv
          rw [List.mem_append, List.mem_append] at hv
          rcases hv with y | y | y
          · exact lnT_v (by omega) (cg_ok hco x.1).2.1 (hHB _ (fun d hd => h1 d (by show (inL (hx x) d || _) = true; rw [hd, Bool.true_or]))) v y
          · exact drs_v (by omega) hl63 v y
          · exact ih (fun d hd => h1 d (by show (_ || men _ r d) = true; rw [hd, Bool.or_true])) (fun y hy => h2 y (List.mem_cons_of_mem _ hy)) v y
      intro v hv
      have hv : v ∈ drs g (fun d => decide (d ≤ g) && !(rfR cs g st e).2.1 d) cs.length ++ tkL cs (g + cnA st e + 1) (rfH cs g st e) (rfR cs g st e).2.2.2 := hv
      rw [List.mem_append] at hv
      rcases hv with y | y
      · exact drs_v (by omega) hl63 v y
      · exact key _ (fun d hd => hd) (fun x hx' => by have := b4 x hx'; omega) v y
end X74
