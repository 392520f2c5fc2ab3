/-! The stream on the reference's side: readStream, same, stream. -/
section X45
variable {scr : Nat × (Nat → Int32)} {w : xW} {Q : xO → xW → Prop} {t : Nat → Nat} {sz a V g n row c : Nat} {pk hf hs : Bool} {ls : List Int} {cs : List (List Int)} {st : xSt} {rs : List (Bool × List Int)} {o1 o2 o3 o4 : Option Value}
def rg (rs : List (Bool × List Int)) (s : Nat) : Bool × List Int := rs.getD s (false, [])
theorem rg_app {x : Bool × List Int} (s : Nat) : rg (rs ++ [x]) s = if s < rs.length then rg rs s else if s = rs.length then x else (false, []) := by
  unfold rg
  simp only [List.getD_eq_getElem?_getD]
  by_cases h : s < rs.length
  · rw [if_pos h, List.getElem?_append_left h]
  · rw [if_neg h, List.getElem?_append_right (by omega)]
    by_cases e : s = rs.length
    · rw [if_pos e, e]; simp
    · rw [if_neg e, List.getElem?_eq_none]
      · rfl
      · simp; omega
/-- the rows that were read -/
def RS (w : xW) (rs : List (Bool × List Int)) : Prop := ∀ s, s < rs.length → LI s (rg rs s).2 w ∧ x_i w 46 s = b32 (rg rs s).1 ∧ cl1 (rg rs s).2
def mST : Nat → Nat → Prop := fun p k => (p = 36 ∧ (k = 16 ∨ k = 17 ∨ k = 18 ∨ k = 20)) ∨ p = 44 ∨ p = 45 ∨ p = 46
theorem TT_S {w1 : xW} (q : xI mST w w1) (ht : TT w t sz) : TT w1 t sz := TT_I q ht (by unfold mST; omega) (by unfold mST; omega) (by unfold mST; omega) (by unfold mST; omega)
theorem BR_I {m : Nat → Nat → Prop} {w1 : xW} {s ad : Nat} {r : Int32} (q : xI m w w1) (hm : ¬ m 36 16) (h : BR pk t sz g a s ad w r) : BR pk t sz g a s ad w1 r := by
  rcases h with h | h | ⟨h1, h2, h3, a', h4, h5, h6⟩
  · exact Or.inl h
  · exact Or.inr (Or.inl h)
  · exact Or.inr (Or.inr ⟨h1, h2, h3, a', h4, (xI_i q 36 16 hm).trans h5, h6⟩)
theorem c70_l (hV : V ≤ 16) : ∀ (d a : Nat) (rs : List (Bool × List Int)) (w : xW) (r : Int32), SH w → TT w t sz → rs.length + d = 81 → rs.length ≤ 80 → a ≤ sz → g + nAd rs ≤ 63 → BR pk t sz g a rs.length (nAd rs) w r → x_i w 36 20 = nI V → x_i w 36 19 = b32 pk → x_i w 36 6 = nI g → RS w rs →
    (∀ w', xI mST w w' → ((rds pk t sz V g d a rs).1 = 0 → RS w' (rds pk t sz V g d a rs).2 ∧ x_i w' 36 18 = nI (rds pk t sz V g d a rs).2.length ∧ (rds pk t sz V g d a rs).2.length ≤ 80 ∧ g + nAd (rds pk t sz V g d a rs).2 ≤ 63) → ((rds pk t sz V g d a rs).1 ≤ sz + 1) → Q (.inl (some (.int (nI (rds pk t sz V g d a rs).1)))) w') →
    x_R x_prog scr 70 27 [some (.ref 36), some (.int (nI rs.length)), some (.int (nI (nAd rs))), some (.int 0), some (.int r)] [] w Q := by
  intro d
  induction d with
  | zero => intro a rs w r h ht hd h80; omega
  | succ d ih =>
    intro a rs w r h ht hd h80 ha h63 hB h20 h19 h6 hR hq
    have t1 := ht.1
    have k0 : x_k w 36 = 12 := by rw [sh_k h]; rfl
    have hK3 := opK_lt (pk := pk) (t := t) (sz := sz) (a := a)
    have F18 : ∀ v, xI mST w (x_si w 36 18 v) := fun v => xI_si xI_rf (Or.inl ⟨rfl, by omega⟩)
    rcases hB with ⟨hK, rfl⟩ | ⟨hK, hf, rfl⟩ | ⟨hK, hf, rfl, a', ha', e16, eO⟩
    · refine b70_27 ⟨fun _ => ⟨k0, fun _ => ?_, fun z => absurd (by decide) z⟩, fun z => absurd (by decide) z⟩
      have ef : rds pk t sz V g (d + 1) a rs = (0, rs) := by unfold rds; rw [if_pos hK]
      rw [ef] at hq
      refine hq _ (F18 _) (fun _ => ⟨fun s hs => ?_, by rw [y_i_si, if_pos ⟨rfl, rfl⟩], h80, h63⟩) (by show 0 ≤ sz + 1; omega)
      obtain ⟨r1, r2, r3⟩ := hR s hs
      have G : xI (fun p k => p = 36 ∧ k = 18) w (x_si w 36 18 (nI rs.length)) := xI_si xI_rf ⟨rfl, rfl⟩
      exact ⟨LI_I G r1 (by omega) (by omega), (xI_i G 46 s (by omega)).trans r2, r3⟩
    · have hop := opP_in ha hK
      have hneg : - nI (opP pk t sz a) < 0 := by rw [iI_neg (by omega), Int32.lt_iff_toInt_lt, iI_toInt (by omega) (by omega)]; show _ < (0 : Int); omega
      refine b70_27 ⟨fun _ => ⟨k0, fun z => absurd (Int32.lt_of_lt_of_le hneg z) (Int32.lt_irrefl), fun _ => ?_⟩, fun z => absurd (Int32.le_of_lt hneg) z⟩
      have hbg : rs.length = 80 ∨ opK pk t sz a = 3 ∨ (opK pk t sz a = 2 ∧ g + nAd rs = 63) := hf
      have ef : rds pk t sz V g (d + 1) a rs = (opP pk t sz a, rs) := by unfold rds; rw [if_neg hK, if_pos hbg]
      rw [ef] at hq
      rw [Int32.neg_neg]
      exact hq _ (F18 _) (fun y => absurd (show opP pk t sz a = 0 from y) (by omega)) hop.2
    · have hos := opS_in ha hK
      have hbg : ¬ (rs.length = 80 ∨ opK pk t sz a = 3 ∨ (opK pk t sz a = 2 ∧ g + nAd rs = 63)) := hf
      have hri := rc_in (t := t) (pk := pk) (V := V) 6 [] (opS pk t sz a) hos.1 hos.2.1 hos.2.2
      have hcl : cl1 (rc (nxt pk t sz) V 6 [] (opS pk t sz a)).2.1 := rc_ok hV 6 [] _ rfl cl1_nil
      have hpos : ¬ nI (3 - opK pk t sz a) ≤ 0 := nI_nle (by omega) (by omega)
      have g1 : nI (3 - opK pk t sz a) = 1 ↔ opK pk t sz a = 2 := by rw [show (1 : Int32) = nI 1 from rfl, nI_eq (by omega) (by omega)]; omega
      refine b70_27 ⟨fun z => absurd z hpos, fun _ => ⟨fun z => absurd rfl z, fun _ => ?_⟩⟩
      simp only [sh_k h, sh_l h, sh_n h, kk36, sr36_2 h, sr36_8 h, sr36_9 h, sr36_12 h, sr36_13 h, sr36_14 h, sr36_15 h, sr36_21 h, sr36_22 h, sr36_23 h, sr36_25 h, sr36_27 h, sr36_28 h, sr36_29 h, sr36_30 h, sr36_31 h, sr36_35 h, sr36_36 h, sr36_37 h, sr36_38 h, sr36_40 h, sr36_41 h, sr36_42 h, sr36_44 h, sr36_45 h, sr36_46 h, sr36_47 h, sr36_48 h, sr36_49 h, sr36_51 h, sr36_52 h, sr36_53 h, sr36_54 h, sr36_55 h, kk46, ll46, true_and, and_true, false_and, and_false, and_self, not_false_eq_true, not_true_eq_false, true_implies, false_implies, implies_true, true_or, or_true, or_self, if_true, if_false, Nat.reduceEqDiff, reduceIte, eq_self, g1, nI_clamp (show rs.length < 2 ^ 31 by omega), vp_in_nI (show rs.length < 81 by omega) (show 81 < 2 ^ 31 by omega)]
      have nad : ∀ x : Bool × List Int, nAd (rs ++ [x]) = nAd rs + if x.1 = true then 1 else 0 := fun x => by
        unfold nAd
        rw [List.countP_append]
        simp [List.countP_cons]
      have rest : ∀ (w1 : xW) (o4 : Option Value), w1 = x_si w 46 rs.length (b32 (decide (opK pk t sz a = 2))) → x_R x_prog scr 51 0 [some (.ref 36), some (.int (nI rs.length)), none] [] w1 (x_back x_prog 70 69 72 [some (.ref 36), some (.int (nI rs.length)), some (.int (nI (nAd rs + if opK pk t sz a = 2 then 1 else 0))), some (.int 0), o4] [] (fun pc L st w => x_R x_prog scr 70 pc L st w Q)) := by
        intro w1 o4 hw1
        have F1 : xI mST w w1 := by rw [hw1]; exact xI_si xI_rf (Or.inr (Or.inr (Or.inr rfl)))
        have hs1 := sh_I F1 h
        have i1 : ∀ k, x_i w1 36 k = x_i w 36 k := fun k => by rw [hw1, y_i_si, if_neg (by omega)]
        refine c51 (pk := pk) (row := rs.length) (by omega) hV hs1 (TT_S F1 ht) ha' ((i1 16).trans e16) ((i1 20).trans h20) ((i1 19).trans h19) (fun w2 r' q1 q2 q3 => b70_72 ?_)
        rw [eO] at q2 q3
        have hs2 := sh_I q1 hs1
        have k2 : x_k w2 36 = 12 := by rw [sh_k hs2]; rfl
        have F2 : xI mST w w2 := xI_tr F1 (xI_w q1 (by unfold mCR mST; omega))
        cases hb : (rc (nxt pk t sz) V 6 [] (opS pk t sz a)).1 with
        | false =>
          obtain ⟨er, er0⟩ := q3 hb
          have ef : rds pk t sz V g (d + 1) a rs = ((rc (nxt pk t sz) V 6 [] (opS pk t sz a)).2.2.2.1, rs) := by unfold rds; rw [if_neg hK, if_neg hbg, hb]; rfl
          rw [ef] at hq
          rw [er]
          refine ⟨fun z => absurd z (nI_nle (by omega) (by omega)), fun _ => b70_90 (b70_27 ⟨fun _ => ⟨k2, fun _ => ?_, fun z => absurd (by decide) z⟩, fun z => absurd (by decide) z⟩)⟩
          exact hq _ (xI_si F2 (Or.inl ⟨rfl, by omega⟩)) (fun y => absurd (show (rc (nxt pk t sz) V 6 [] (opS pk t sz a)).2.2.2.1 = 0 from y) (by omega)) hri.2.2
        | true =>
          obtain ⟨rfl, eL, e16'⟩ := q2 hb
          have ef : rds pk t sz V g (d + 1) a rs = rds pk t sz V g d (rc (nxt pk t sz) V 6 [] (opS pk t sz a)).2.2.1 (rs ++ [(decide (opK pk t sz a = 2), (rc (nxt pk t sz) V 6 [] (opS pk t sz a)).2.1)]) := by
            conv => lhs; unfold rds
            rw [if_neg hK, if_neg hbg, if_pos hb]
          rw [ef] at hq
          have hl1 : (rs ++ [(decide (opK pk t sz a = 2), (rc (nxt pk t sz) V 6 [] (opS pk t sz a)).2.1)]).length = rs.length + 1 := by simp
          have hna : nAd (rs ++ [(decide (opK pk t sz a = 2), (rc (nxt pk t sz) V 6 [] (opS pk t sz a)).2.1)]) = nAd rs + if opK pk t sz a = 2 then 1 else 0 := by rw [nad]; simp
          have hna63 : g + (nAd rs + if opK pk t sz a = 2 then 1 else 0) ≤ 63 := by
            split <;> omega
          have j2 : ∀ k, ¬ (k = 16 ∨ k = 17 ∨ k = 18) → x_i w2 36 k = x_i w 36 k := fun k hk => (xI_i q1 36 k (by unfold mCR; omega)).trans (i1 k)
          refine ⟨fun _ => ⟨k2, ?_⟩, fun z => absurd (by decide) z⟩
          rw [nI_1]
          refine c71 (pk := pk) (g := g) (by omega) hs2 (TT_S F2 ht) hri.1 e16' ((j2 19 (by omega)).trans h19) ((j2 6 (by omega)).trans h6) hna63 (fun w3 r3 p1 p2 => b70_90 ?_)
          have F3 : xI mST w w3 := xI_tr F2 (xI_w p1 (by unfold mW mST; omega))
          have j3 : ∀ k, ¬ (k = 16 ∨ k = 17 ∨ k = 18) → x_i w3 36 k = x_i w 36 k := fun k hk => (xI_i p1 36 k (by unfold mW; omega)).trans (j2 k hk)
          rw [← hl1, ← hna] at p2
          rw [← hna] at hna63
          have := ih (rc (nxt pk t sz) V 6 [] (opS pk t sz a)).2.2.1 (rs ++ [(decide (opK pk t sz a = 2), (rc (nxt pk t sz) V 6 [] (opS pk t sz a)).2.1)]) w3 r3 (sh_I p1 hs2) (TT_S F3 ht) (by omega) (by omega) hri.1 hna63 p2 ((j3 20 (by omega)).trans h20) ((j3 19 (by omega)).trans h19) ((j3 6 (by omega)).trans h6) (fun s hs => ?_) (fun w' u1 u2 u3 => hq w' (xI_tr F3 u1) u2 u3)
          · rw [hl1, hna] at this
            exact this
          · rw [hl1] at hs
            rw [rg_app]
            by_cases e : s < rs.length
            · rw [if_pos e]
              obtain ⟨r1, r2, r3'⟩ := hR s e
              have hl6 := r3'.1
              have G : xI (fun p k => (p = 36 ∧ (k = 16 ∨ k = 17 ∨ k = 18)) ∨ (p = 44 ∧ 6 * rs.length ≤ k) ∨ (p = 45 ∧ k = rs.length) ∨ (p = 46 ∧ k = rs.length)) w w3 := by
                refine xI_tr (xI_tr (w1 := w1) ?_ (xI_w q1 (by unfold mCR; omega))) (xI_w p1 (by unfold mW; omega))
                rw [hw1]
                exact xI_si xI_rf (Or.inr (Or.inr (Or.inr ⟨rfl, rfl⟩)))
              exact ⟨LI_I G r1 (by omega) (by omega), (xI_i G 46 s (by omega)).trans r2, r3'⟩
            · have e2 : s = rs.length := by omega
              rw [if_neg e, if_pos e2, e2]
              refine ⟨LI_I p1 eL (by unfold mW; omega) (by unfold mW; omega), ?_, hcl⟩
              rw [xI_i p1 46 _ (by unfold mW; omega), xI_i q1 46 _ (by unfold mCR; omega), hw1, y_i_si, if_pos ⟨rfl, rfl⟩]
      refine ⟨fun z => ⟨fun _ => ?_, fun y => absurd z y⟩, fun z => ⟨fun y => absurd y z, fun _ => ?_⟩⟩
      · have := rest _ (some (.int (nI (3 - opK pk t sz a)))) rfl
        rw [decide_eq_false z, if_neg z] at this
        exact this
      · have z2 := Classical.not_not.mp z
        have := rest _ (some (.int (nI (3 - opK pk t sz a)))) rfl
        rw [decide_eq_true z2, if_pos z2] at this
        rw [nI_1]
        exact this
/-- readStream of the reference -/
theorem c70 (hV : V ≤ 16) (hg : g ≤ 63) (h : SH w) (ht : TT w t sz) (h5 : x_i w 36 5 = nI V) (h19 : x_i w 36 19 = b32 pk) (h6 : x_i w 36 6 = nI g)
    (hq : ∀ w', xI mST w w' → ((rds pk t sz V g 81 0 []).1 = 0 → RS w' (rds pk t sz V g 81 0 []).2 ∧ x_i w' 36 18 = nI (rds pk t sz V g 81 0 []).2.length ∧ (rds pk t sz V g 81 0 []).2.length ≤ 80 ∧ g + nAd (rds pk t sz V g 81 0 []).2 ≤ 63) → ((rds pk t sz V g 81 0 []).1 ≤ sz + 1) → Q (.inl (some (.int (nI (rds pk t sz V g 81 0 []).1)))) w') :
    x_R x_prog scr 70 0 [some (.ref 36), o1, o2, o3, o4] [] w Q := by
  have k0 : x_k w 36 = 12 := by rw [sh_k h]; rfl
  refine b70_0 ⟨k0, k0, k0, k0, ?_⟩
  have e5 : x_i (x_si w 36 16 0) 36 5 = nI V := by rw [y_i_si, if_neg (by omega), h5]
  rw [e5]
  have F1 : xI mST w (x_si (x_si w 36 16 0) 36 20 (nI V)) := xI_si (xI_si xI_rf (Or.inl ⟨rfl, by omega⟩)) (Or.inl ⟨rfl, by omega⟩)
  have i1 : ∀ k, ¬ (k = 16 ∨ k = 20) → x_i (x_si (x_si w 36 16 0) 36 20 (nI V)) 36 k = x_i w 36 k := fun k hk => by rw [y_i_si, if_neg (by omega), y_i_si, if_neg (by omega)]
  refine c71 (pk := pk) (g := g) (a := 0) (s := 0) (ad := 0) (by omega) (sh_I F1 h) (TT_S F1 ht) (Nat.zero_le _) ?_ ((i1 19 (by omega)).trans h19) ((i1 6 (by omega)).trans h6) (by omega) (fun w2 r p1 p2 => b70_25 ?_)
  · rw [y_i_si, if_neg (by omega), y_i_si, if_pos ⟨rfl, rfl⟩]; rfl
  · have F2 : xI mST w w2 := xI_tr F1 (xI_w p1 (by unfold mW mST; omega))
    refine c70_l hV 81 0 [] w2 r (sh_I F2 h) (TT_S F2 ht) rfl (by simp) (Nat.zero_le _) (by simpa [nAd] using hg) p2 ?_ ?_ ?_ (fun s hs => absurd hs (by simp)) (fun w' u1 u2 u3 => hq w' (xI_tr F2 u1) u2 u3)
    · rw [xI_i p1 36 20 (by unfold mW; omega), y_i_si, if_pos ⟨rfl, rfl⟩]
    · exact (xI_i p1 36 19 (by unfold mW; omega)).trans ((i1 19 (by omega)).trans h19)
    · exact (xI_i p1 36 6 (by unfold mW; omega)).trans ((i1 6 (by omega)).trans h6)
/-- hasLiteral -/
theorem c73_l {l : Int} (hl : lok l) (hc : c < 64) (h : SH w) (hls : cl1 ls) (hR : RC w c ls) : ∀ (d k : Nat) (b : Bool), k + d = ls.length → Q (.inl (some (.int (b32 (b || decide (∃ j, j < ls.length ∧ k ≤ j ∧ ls.getD j 0 = l)))))) w → x_R x_prog scr 73 5 [some (.ref 36), some (.int (nI c)), some (.int (iI l)), some (.int (b32 b)), some (.int (nI k))] [] w Q := by
  have hl6 := hls.1
  intro d
  induction d with
  | zero =>
    intro k b hk hq
    have hcd : nI ls.length ≤ nI k := nI_le (by omega) (by omega)
    refine b73_5 ?_
    simp only [sh_k h, sh_l h, sh_n h, kk36, sr36_2 h, sr36_8 h, sr36_9 h, sr36_12 h, sr36_13 h, sr36_14 h, sr36_15 h, sr36_21 h, sr36_22 h, sr36_23 h, sr36_25 h, sr36_27 h, sr36_28 h, sr36_29 h, sr36_30 h, sr36_31 h, sr36_35 h, sr36_36 h, sr36_37 h, sr36_38 h, sr36_40 h, sr36_41 h, sr36_42 h, sr36_44 h, sr36_45 h, sr36_46 h, sr36_47 h, sr36_48 h, sr36_49 h, sr36_51 h, sr36_52 h, sr36_53 h, sr36_54 h, sr36_55 h, kk39, ll39, nI_clamp (show c < 2 ^ 31 by omega), hR.1, hcd, true_and, and_true, false_and, and_false, and_self, not_false_eq_true, not_true_eq_false, true_implies, false_implies, implies_true, true_or, or_true, or_self, if_true, if_false, Nat.reduceEqDiff, reduceIte, eq_self, vp_in_nI (show c < 64 by omega) (show 64 < 2 ^ 31 by omega)]
    refine ⟨by cases b; exact Or.inl rfl; exact Or.inr rfl, ?_⟩
    rw [decide_eq_false (by rintro ⟨j, h1, h2, -⟩; omega), Bool.or_false] at hq
    exact hq
  | succ d ih =>
    intro k b hk hq
    have hcd : ¬ nI ls.length ≤ nI k := nI_ge (by omega) (by omega)
    have e6 : (6 : Int32) * nI c + nI k = nI (6 * c + k) := by rw [show (6 : Int32) = nI 6 from rfl, pk_mul, nI_add]
    have hlk := lok_getD hls.2.1 (show k < ls.length by omega)
    have hl' := hl
    unfold lok at hlk hl'
    have ge : iI (ls.getD k 0) = iI l ↔ ls.getD k 0 = l := iI_eq (by omega) (by omega) (by omega) (by omega)
    have eq1 : (∃ j, j < ls.length ∧ k ≤ j ∧ ls.getD j 0 = l) ↔ (ls.getD k 0 = l ∨ ∃ j, j < ls.length ∧ k + 1 ≤ j ∧ ls.getD j 0 = l) := by
      constructor
      · rintro ⟨j, h1, h2, h3⟩
        by_cases e : j = k
        · subst e; exact Or.inl h3
        · exact Or.inr ⟨j, h1, by omega, h3⟩
      · rintro (h3 | ⟨j, h1, h2, h3⟩)
        · exact ⟨k, by omega, Nat.le_refl _, h3⟩
        · exact ⟨j, h1, by omega, h3⟩
    refine b73_5 ?_
    simp only [sh_k h, sh_l h, sh_n h, kk36, sr36_2 h, sr36_8 h, sr36_9 h, sr36_12 h, sr36_13 h, sr36_14 h, sr36_15 h, sr36_21 h, sr36_22 h, sr36_23 h, sr36_25 h, sr36_27 h, sr36_28 h, sr36_29 h, sr36_30 h, sr36_31 h, sr36_35 h, sr36_36 h, sr36_37 h, sr36_38 h, sr36_40 h, sr36_41 h, sr36_42 h, sr36_44 h, sr36_45 h, sr36_46 h, sr36_47 h, sr36_48 h, sr36_49 h, sr36_51 h, sr36_52 h, sr36_53 h, sr36_54 h, sr36_55 h, kk38, ll38, kk39, ll39, nI_clamp (show c < 2 ^ 31 by omega), hR.1, hcd, true_and, and_true, false_and, and_false, and_self, not_false_eq_true, not_true_eq_false, true_implies, false_implies, implies_true, true_or, or_true, or_self, if_true, if_false, Nat.reduceEqDiff, reduceIte, eq_self, vp_in_nI (show c < 64 by omega) (show 64 < 2 ^ 31 by omega), e6, nI_clamp (show 6 * c + k < 2 ^ 31 by omega), vp_in_nI (show 6 * c + k < 384 by omega) (show 384 < 2 ^ 31 by omega), hR.2 k (by omega), ge, nI_1]
    cases b with
    | true =>
      refine ⟨fun _ => ih (k + 1) true (by omega) (by rw [Bool.true_or] at hq ⊢; exact hq), fun z => absurd (by decide) z⟩
    | false =>
      refine ⟨fun z => absurd rfl z, fun _ => ⟨fun z => ih (k + 1) false (by omega) ?_, fun z => ih (k + 1) true (by omega) ?_⟩⟩
      · rw [Bool.false_or] at hq ⊢
        rw [decide_eq_decide.mpr (show (∃ j, j < ls.length ∧ k ≤ j ∧ ls.getD j 0 = l) ↔ (∃ j, j < ls.length ∧ k + 1 ≤ j ∧ ls.getD j 0 = l) from eq1.trans ⟨fun y => y.resolve_left z, Or.inr⟩)] at hq
        exact hq
      · rw [Bool.false_or, decide_eq_true (eq1.mpr (Or.inl (Classical.not_not.mp z)))] at hq
        rw [Bool.true_or]
        exact hq
theorem ex_getD (ls : List Int) (l : Int) : (∃ j, j < ls.length ∧ 0 ≤ j ∧ ls.getD j 0 = l) ↔ l ∈ ls := by
  constructor
  · rintro ⟨j, h1, -, h3⟩
    rw [List.getD_eq_getElem?_getD, List.getElem?_eq_getElem h1] at h3
    rw [← h3]
    exact List.getElem_mem h1
  · intro h
    obtain ⟨j, hj, rfl⟩ := List.getElem_of_mem h
    exact ⟨j, hj, Nat.zero_le _, by rw [List.getD_eq_getElem?_getD, List.getElem?_eq_getElem hj]; rfl⟩
theorem c73 {l : Int} (hl : lok l) (hc : c < 64) (h : SH w) (hls : cl1 ls) (hR : RC w c ls) (hq : Q (.inl (some (.int (b32 (decide (l ∈ ls)))))) w) : x_R x_prog scr 73 0 [some (.ref 36), some (.int (nI c)), some (.int (iI l)), o3, o4] [] w Q := by
  refine b73_0 (c73_l hl hc h hls hR ls.length 0 false (by omega) ?_)
  rw [Bool.false_or, decide_eq_decide.mpr (ex_getD ls l)]
  exact hq
/-- same -/
theorem c72_l {c r : Nat} (hc : c < 64) (hr : r < 81) (h : SH w) {lc : List Int} (hlc : cl1 lc) (hls : cl1 ls) (hR : RC w c lc) (hL : LI r ls w)
    (hq1 : (∀ l ∈ ls, l ∈ lc) → Q (.inl (some (.int (nI c)))) w) (hq0 : (¬ ∀ l ∈ ls, l ∈ lc) → ∀ o3 o4, x_R x_prog scr 72 2 [some (.ref 36), some (.int (nI r)), some (.int (nI (c + 1))), o3, o4] [] w Q) : ∀ (d k : Nat) (b : Bool), k + d = ls.length → (b = true → ∀ j, j < k → ls.getD j 0 ∈ lc) → (b = false → ¬ ∀ l ∈ ls, l ∈ lc) →
    x_R x_prog scr 72 43 [some (.ref 36), some (.int (nI r)), some (.int (nI c)), some (.int (b32 b)), some (.int (nI k))] [] w Q := by
  have hl6 := hls.1
  intro d
  induction d with
  | zero =>
    intro k b hk hb1 hb0
    have hcd : nI ls.length ≤ nI k := nI_le (by omega) (by omega)
    refine b72_43 ?_
    simp only [sh_k h, sh_l h, sh_n h, kk36, sr36_2 h, sr36_8 h, sr36_9 h, sr36_12 h, sr36_13 h, sr36_14 h, sr36_15 h, sr36_21 h, sr36_22 h, sr36_23 h, sr36_25 h, sr36_27 h, sr36_28 h, sr36_29 h, sr36_30 h, sr36_31 h, sr36_35 h, sr36_36 h, sr36_37 h, sr36_38 h, sr36_40 h, sr36_41 h, sr36_42 h, sr36_44 h, sr36_45 h, sr36_46 h, sr36_47 h, sr36_48 h, sr36_49 h, sr36_51 h, sr36_52 h, sr36_53 h, sr36_54 h, sr36_55 h, kk45, ll45, nI_clamp (show r < 2 ^ 31 by omega), hL.1, hcd, true_and, and_true, false_and, and_false, and_self, not_false_eq_true, not_true_eq_false, true_implies, false_implies, implies_true, true_or, or_true, or_self, if_true, if_false, Nat.reduceEqDiff, reduceIte, eq_self, vp_in_nI (show r < 81 by omega) (show 81 < 2 ^ 31 by omega), nI_1]
    cases b with
    | false => exact ⟨fun _ => hq0 (hb0 rfl) _ _, fun z => absurd rfl z⟩
    | true => exact ⟨fun z => absurd z (by decide), fun _ => hq1 ((all_getD ls (fun l => l ∈ lc)).mpr (fun j hj _ => hb1 rfl j (by omega)))⟩
  | succ d ih =>
    intro k b hk hb1 hb0
    have hcd : ¬ nI ls.length ≤ nI k := nI_ge (by omega) (by omega)
    have e6 : (6 : Int32) * nI r + nI k = nI (6 * r + k) := by rw [show (6 : Int32) = nI 6 from rfl, pk_mul, nI_add]
    refine b72_43 ?_
    simp only [sh_k h, sh_l h, sh_n h, kk36, sr36_2 h, sr36_8 h, sr36_9 h, sr36_12 h, sr36_13 h, sr36_14 h, sr36_15 h, sr36_21 h, sr36_22 h, sr36_23 h, sr36_25 h, sr36_27 h, sr36_28 h, sr36_29 h, sr36_30 h, sr36_31 h, sr36_35 h, sr36_36 h, sr36_37 h, sr36_38 h, sr36_40 h, sr36_41 h, sr36_42 h, sr36_44 h, sr36_45 h, sr36_46 h, sr36_47 h, sr36_48 h, sr36_49 h, sr36_51 h, sr36_52 h, sr36_53 h, sr36_54 h, sr36_55 h, kk44, ll44, kk45, ll45, nI_clamp (show r < 2 ^ 31 by omega), hL.1, hcd, true_and, and_true, false_and, and_false, and_self, not_false_eq_true, not_true_eq_false, true_implies, false_implies, implies_true, true_or, or_true, or_self, if_true, if_false, Nat.reduceEqDiff, reduceIte, eq_self, vp_in_nI (show r < 81 by omega) (show 81 < 2 ^ 31 by omega), nI_1, e6, nI_clamp (show 6 * r + k < 2 ^ 31 by omega), vp_in_nI (show 6 * r + k < 486 by omega) (show 486 < 2 ^ 31 by omega), hL.2 k (by omega)]
    cases b with
    | false => exact ⟨fun _ => ⟨fun _ => hq0 (hb0 rfl) _ _, fun z => absurd rfl z⟩, fun z => absurd rfl z⟩
    | true =>
      refine ⟨fun z => absurd z (by decide), fun _ => c73 (lok_getD hls.2.1 (by omega)) hc h hlc hR (b72_75 ?_)⟩
      rw [nI_1]
      by_cases hm : ls.getD k 0 ∈ lc
      · rw [decide_eq_true hm]
        refine ih (k + 1) true (by omega) (fun _ j hj => ?_) (fun z => by cases z)
        by_cases e : j = k
        · subst e; exact hm
        · exact hb1 rfl j (by omega)
      · rw [decide_eq_false hm]
        exact ih (k + 1) false (by omega) (fun z => by cases z) (fun _ z => hm ((all_getD ls (fun l => l ∈ lc)).mp z k (by omega) (Nat.zero_le _)))
theorem c72 {r : Nat} {al : Nat → Bool} (hr : r < 81) (h : SH w) (hn : cs.length ≤ 63) (h7 : x_i w 36 7 = nI cs.length) (hR : ∀ c, c < cs.length → RC w (c + 1) (cs.getD c [])) (hco : cok cs) (hal : ∀ c, c < 64 → x_i w 49 c = b32 (al c)) (hls : cl1 ls) (hL : LI r ls w)
    (hq : Q (.inl (some (.int (nI (lowA (fun c => al c && smc cs ls c) cs.length 1))))) w) : x_R x_prog scr 72 0 [some (.ref 36), some (.int (nI r)), o2, o3, o4] [] w Q := by
  have hl6 := hls.1
  have key : ∀ (d c : Nat) (o3 o4 : Option Value), c + d = cs.length + 1 → 1 ≤ c → Q (.inl (some (.int (nI (lowA (fun c => al c && smc cs ls c) d c))))) w → x_R x_prog scr 72 2 [some (.ref 36), some (.int (nI r)), some (.int (nI c)), o3, o4] [] w Q := by
    intro d
    induction d with
    | zero =>
      intro c o3 o4 hc hc1 hq
      refine b72_2 ?_
      simp only [sh_k h, sh_l h, sh_n h, kk36, sr36_2 h, sr36_8 h, sr36_9 h, sr36_12 h, sr36_13 h, sr36_14 h, sr36_15 h, sr36_21 h, sr36_22 h, sr36_23 h, sr36_25 h, sr36_27 h, sr36_28 h, sr36_29 h, sr36_30 h, sr36_31 h, sr36_35 h, sr36_36 h, sr36_37 h, sr36_38 h, sr36_40 h, sr36_41 h, sr36_42 h, sr36_44 h, sr36_45 h, sr36_46 h, sr36_47 h, sr36_48 h, sr36_49 h, sr36_51 h, sr36_52 h, sr36_53 h, sr36_54 h, sr36_55 h, true_and, and_true, false_and, and_false, and_self, not_false_eq_true, not_true_eq_false, true_implies, false_implies, implies_true, true_or, or_true, or_self, if_true, if_false, Nat.reduceEqDiff, reduceIte, eq_self, h7]
      exact ⟨fun _ => hq, fun z => absurd (nI_lt (by omega) (by omega)) z⟩
    | succ d ih =>
      intro c o3 o4 hc hc1 hq
      have hR' := hR (c - 1) (by omega)
      rw [Nat.sub_add_cancel hc1] at hR'
      have hlc := cok_getD hco (c - 1)
      have hlc6 := hlc.1
      have ncd : ¬ nI cs.length < nI c := nI_nlt (by omega) (by omega)
      have ge : nI (cs.getD (c - 1) []).length = nI ls.length ↔ (cs.getD (c - 1) []).length = ls.length := nI_eq (by omega) (by omega)
      unfold lowA at hq
      refine b72_2 ?_
      simp only [sh_k h, sh_l h, sh_n h, kk36, sr36_2 h, sr36_8 h, sr36_9 h, sr36_12 h, sr36_13 h, sr36_14 h, sr36_15 h, sr36_21 h, sr36_22 h, sr36_23 h, sr36_25 h, sr36_27 h, sr36_28 h, sr36_29 h, sr36_30 h, sr36_31 h, sr36_35 h, sr36_36 h, sr36_37 h, sr36_38 h, sr36_40 h, sr36_41 h, sr36_42 h, sr36_44 h, sr36_45 h, sr36_46 h, sr36_47 h, sr36_48 h, sr36_49 h, sr36_51 h, sr36_52 h, sr36_53 h, sr36_54 h, sr36_55 h, kk39, ll39, kk45, ll45, kk49, ll49, true_and, and_true, false_and, and_false, and_self, not_false_eq_true, not_true_eq_false, true_implies, false_implies, implies_true, true_or, or_true, or_self, if_true, if_false, Nat.reduceEqDiff, reduceIte, eq_self, h7, ncd, nI_clamp (show c < 2 ^ 31 by omega), nI_clamp (show r < 2 ^ 31 by omega), vp_in_nI (show c < 64 by omega) (show 64 < 2 ^ 31 by omega), vp_in_nI (show r < 81 by omega) (show 81 < 2 ^ 31 by omega), hal c (by omega), hR'.1, hL.1, ge]
      have skip : ¬ (al c = true ∧ smc cs ls c = true) → Q (.inl (some (.int (nI (lowA (fun c => al c && smc cs ls c) d (c + 1)))))) w := by
        intro z
        rw [if_neg (by rw [Bool.and_eq_true]; exact z)] at hq
        exact hq
      have no : ¬ (al c = true ∧ smc cs ls c = true) → ∀ (o3 o4 : Option Value), x_R x_prog scr 72 2 [some (.ref 36), some (.int (nI r)), some (.int (nI (c + 1))), o3, o4] [] w Q := fun z o3 o4 => ih (c + 1) o3 o4 (by omega) (by omega) (skip z)
      have dead : ¬ (al c = true ∧ smc cs ls c = true) → ∀ k : Nat, x_R x_prog scr 72 43 [some (.ref 36), some (.int (nI r)), some (.int (nI c)), some (.int 0), some (.int (nI k))] [] w Q := by
        intro z k
        refine b72_43 ?_
        simp only [sh_k h, sh_l h, sh_n h, kk36, sr36_2 h, sr36_8 h, sr36_9 h, sr36_12 h, sr36_13 h, sr36_14 h, sr36_15 h, sr36_21 h, sr36_22 h, sr36_23 h, sr36_25 h, sr36_27 h, sr36_28 h, sr36_29 h, sr36_30 h, sr36_31 h, sr36_35 h, sr36_36 h, sr36_37 h, sr36_38 h, sr36_40 h, sr36_41 h, sr36_42 h, sr36_44 h, sr36_45 h, sr36_46 h, sr36_47 h, sr36_48 h, sr36_49 h, sr36_51 h, sr36_52 h, sr36_53 h, sr36_54 h, sr36_55 h, kk45, ll45, nI_clamp (show r < 2 ^ 31 by omega), hL.1, true_and, and_true, false_and, and_false, and_self, not_false_eq_true, not_true_eq_false, true_implies, false_implies, implies_true, true_or, or_true, or_self, if_true, if_false, Nat.reduceEqDiff, reduceIte, eq_self, vp_in_nI (show r < 81 by omega) (show 81 < 2 ^ 31 by omega), nI_1]
        exact ⟨fun _ => no z _ _, fun _ => no z _ _⟩
      cases hac : al c with
      | false =>
        refine ⟨fun _ => dead (by rw [hac]; rintro ⟨y, -⟩; cases y) 0, fun z => absurd rfl z⟩
      | true =>
        refine ⟨fun z => absurd z (by decide), fun _ => ⟨fun z => dead (fun y => z (of_decide_eq_true y.2).1) 0, fun z => ?_⟩⟩
        have z2 := Classical.not_not.mp z
        have esm : smc cs ls c = true ↔ ∀ l ∈ ls, l ∈ cs.getD (c - 1) [] := ⟨fun y => (of_decide_eq_true y).2, fun y => decide_eq_true ⟨z2, y⟩⟩
        refine c72_l (by omega) hr h hlc hls hR' hL (fun y => ?_) (fun y o3 o4 => no (fun x => y (esm.mp x.2)) o3 o4) ls.length 0 true (by omega) (fun _ j hj => by omega) (fun z => by cases z)
        rw [hac, esm.mpr y, Bool.true_and, if_pos rfl] at hq
        exact hq
  exact b72_0 (key cs.length 1 _ _ (by omega) (by omega) hq)
end X45
