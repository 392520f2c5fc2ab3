/-! The formula on the reference's side. -/
theorem isw1 {t : Nat → Nat} {sz a c : Nat} : isw t [c] (nxt false t sz a) = decide (wN t sz a = wF t sz a + 1 ∧ t (wF t sz a) = c) := by
  unfold isw
  apply decide_eq_decide.mpr
  show (wN t sz a = wF t sz a + 1 - 1 + 1 ∧ ∀ j, j < 1 → 0 ≤ j → t (wF t sz a + 1 - 1 + j) = [c].getD j 0) ↔ _
  rw [Nat.add_sub_cancel]
  constructor
  · rintro ⟨h1, h2⟩
    exact ⟨h1, h2 0 (by omega) (Nat.le_refl _)⟩
  · rintro ⟨h1, h2⟩
    refine ⟨h1, fun j hj _ => ?_⟩
    have : j = 0 := by omega
    subst this
    exact h2
theorem isw3 {t : Nat → Nat} {sz a c d e : Nat} : isw t [c, d, e] (nxt false t sz a) = decide (wN t sz a = wF t sz a + 3 ∧ t (wF t sz a) = c ∧ t (wF t sz a + 1) = d ∧ t (wF t sz a + 2) = e) := by
  unfold isw
  apply decide_eq_decide.mpr
  show (wN t sz a = wF t sz a + 1 - 1 + 3 ∧ ∀ j, j < 3 → 0 ≤ j → t (wF t sz a + 1 - 1 + j) = [c, d, e].getD j 0) ↔ _
  rw [Nat.add_sub_cancel]
  constructor
  · rintro ⟨h1, h2⟩
    exact ⟨h1, h2 0 (by omega) (Nat.le_refl _), h2 1 (by omega) (by omega), h2 2 (by omega) (by omega)⟩
  · rintro ⟨h1, h2, h3, h4⟩
    refine ⟨h1, fun j hj _ => ?_⟩
    have : j = 0 ∨ j = 1 ∨ j = 2 := by omega
    rcases this with rfl | rfl | rfl
    · exact h2
    · exact h3
    · exact h4
section X40
variable {scr : Nat × (Nat → Int32)} {w : xW} {Q : xO → xW → Prop} {t : Nat → Nat} {sz a V n : Nat} {ls : List Int} {cs : List (List Int)} {o1 o2 o3 : Option Value}
def mHd : Nat → Nat → Prop := fun p k => p = 36 ∧ (k = 16 ∨ k = 17 ∨ k = 18 ∨ k = 20)
theorem TT_H {w1 : xW} (q : xI mHd w w1) (ht : TT w t sz) : TT w1 t sz := TT_I q ht (by unfold mHd; omega) (by unfold mHd; omega) (by unfold mHd; omega) (by unfold mHd; omega)
/-- heading -/
theorem c43 (h : SH w) (ht : TT w t sz) (h16 : x_i w 36 16 = 0) (h19 : x_i w 36 19 = 0)
    (hq : ∀ w' r, xI mHd w w' → ((r = nI (fms t sz).1 ∧ ¬ (fms t sz).1 = 0 ∧ (fms t sz).1 ≤ sz + 1) ∨ (r = 0 ∧ ∃ V M a, V ≤ 16 ∧ M ≤ 40 ∧ a ≤ sz ∧ x_i w' 36 20 = nI V ∧ x_i w' 36 18 = nI M ∧ x_i w' 36 16 = nI a ∧ fms t sz = frm5 t sz V (fcl (nxt false t sz) V M a []))) → Q (.inl (some (.int r))) w') :
    x_R x_prog scr 43 0 [some (.ref 36), o1] [] w Q := by
  have t1 := ht.1
  have fail : ∀ w1 p, xI mHd w w1 → fms t sz = (p, 0, []) → 1 ≤ p → p ≤ sz + 1 → Q (.inl (some (.int (nI p)))) w1 := by
    intro w1 p q he hp hp2
    refine hq w1 _ q (Or.inl ⟨by rw [he], by rw [he]; show ¬ p = 0; omega, by rw [he]; exact hp2⟩)
  have pl1 := nxt_pl (pk := false) (t := t) (Nat.zero_le sz)
  have le1 := nxt_le (pk := false) (t := t) (Nat.zero_le sz)
  refine b43_0 ⟨by rw [sh_k h]; rfl, c44 h ht (Nat.zero_le _) h16 (fun w1 q1 q2 q3 => b43_4 ?_)⟩
  have hs1 := sh_I q1 h
  have k1 : x_k w1 36 = 12 := by rw [sh_k hs1]; rfl
  have F1 : xI mHd w w1 := xI_w q1 (by unfold mW mHd; omega)
  rw [q3, nI_1]
  have f1 : ¬ isw t [112] (nxt false t sz 0) = true → Q (.inl (some (.int (nI (wF t sz 0 + 1))))) w1 := fun z => fail w1 _ F1 (by unfold fms; rw [if_neg z]; rfl) pl1.1 pl1.2
  by_cases hlt : ¬ (wF t sz 0 < wN t sz 0)
  · rw [decide_eq_false hlt]
    refine ⟨fun _ => ⟨k1, f1 ?_⟩, fun z => absurd rfl z⟩
    rw [isw1, decide_eq_true_iff]
    omega
  replace hlt := Classical.not_not.mp hlt
  rw [decide_eq_true hlt]
  refine ⟨fun z => absurd z (by decide), fun _ => ⟨k1, c46 (c := 112) (by omega) hs1 (TT_H F1 ht) q2 q3 hlt le1 (b43_13 ?_)⟩⟩
  by_cases hw1 : ¬ (isw t [112] (nxt false t sz 0) = true)
  · have e1 := Bool.eq_false_iff.mpr hw1
    rw [isw1] at e1
    rw [e1]
    refine ⟨fun z => absurd rfl z, fun _ => ⟨k1, ?_⟩⟩
    rw [q3, nI_1]
    exact f1 hw1
  replace hw1 := Classical.not_not.mp hw1
  have e1 := hw1
  rw [isw1] at e1
  rw [e1]
  have ef1 : fms t sz = frm2 t sz (nxt false t sz (nxt false t sz 0).1) := by unfold fms; rw [if_pos hw1]
  refine ⟨fun _ => ⟨k1, ?_⟩, fun z => absurd (by decide) z⟩
  refine c44 hs1 (TT_H F1 ht) le1 q2 (fun w2 r1 r2 r3 => b43_27 ?_)
  have hs2 := sh_I r1 hs1
  have k2 : x_k w2 36 = 12 := by rw [sh_k hs2]; rfl
  have F2 : xI mHd w w2 := xI_tr F1 (xI_w r1 (by unfold mW mHd; omega))
  have pl2 := nxt_pl (pk := false) (t := t) le1
  have le2 := nxt_le (pk := false) (t := t) le1
  rw [r3, nI_1]
  have f2 : ¬ isw t [99, 110, 102] (nxt false t sz (nxt false t sz 0).1) = true → Q (.inl (some (.int (nI (wF t sz (nxt false t sz 0).1 + 1))))) w2 := fun z => fail w2 _ F2 (by rw [ef1]; unfold frm2; rw [if_neg z]; rfl) pl2.1 pl2.2
  by_cases hlt2 : ¬ (wF t sz (nxt false t sz 0).1 < wN t sz (nxt false t sz 0).1)
  · rw [decide_eq_false hlt2]
    refine ⟨fun _ => ⟨k2, f2 ?_⟩, fun z => absurd rfl z⟩
    rw [isw3, decide_eq_true_iff]
    omega
  replace hlt2 := Classical.not_not.mp hlt2
  rw [decide_eq_true hlt2]
  refine ⟨fun z => absurd z (by decide), fun _ => ⟨k2, c47 hs2 (TT_H F2 ht) r2 r3 hlt2 le2 (b43_34 ?_)⟩⟩
  by_cases hw2 : ¬ (isw t [99, 110, 102] (nxt false t sz (nxt false t sz 0).1) = true)
  · have e2 := Bool.eq_false_iff.mpr hw2
    rw [isw3] at e2
    rw [e2]
    refine ⟨fun z => absurd rfl z, fun _ => ⟨k2, ?_⟩⟩
    rw [r3, nI_1]
    exact f2 hw2
  replace hw2 := Classical.not_not.mp hw2
  have e2 := hw2
  rw [isw3] at e2
  rw [e2]
  have ef2 : fms t sz = frm3 t sz (nxt false t sz (nxt false t sz (nxt false t sz 0).1).1) := by rw [ef1]; unfold frm2; rw [if_pos hw2]
  have h19_2 : x_i w2 36 19 = 0 := (xI_i F2 36 19 (by unfold mHd; omega)).trans h19
  have pl3 := nxt_pl (pk := false) (t := t) le2
  have le3 := nxt_le (pk := false) (t := t) le2
  refine ⟨fun _ => ⟨k2, c48 (lo := 1) (hi := 16) (by omega) (by omega) hs2 (TT_H F2 ht) le2 r2 h19_2 (fun w3 r s1 s2 => b43_51 ?_)⟩, fun z => absurd (by decide) z⟩
  have hs3 := sh_I s1 hs2
  have k3 : x_k w3 36 = 12 := by rw [sh_k hs3]; rfl
  have F3 : xI mHd w w3 := xI_tr F2 (xI_w s1 (by unfold mN mHd; omega))
  have F3' : xI mHd w (x_si w3 36 20 (x_i w3 36 18)) := xI_si F3 ⟨rfl, Or.inr (Or.inr (Or.inr rfl))⟩
  refine ⟨k3, k3, ?_⟩
  generalize hS3 : nxt false t sz (nxt false t sz (nxt false t sz 0).1).1 = S3 at ef2 pl3 le3
  have s2 : ((1 ≤ S3.2.2 ∧ S3.2.2 ≤ 16 ∧ r = 0 ∧ x_i w3 36 18 = iI S3.2.2 ∧ x_i w3 36 16 = nI S3.1) ∨ (¬ (1 ≤ S3.2.2 ∧ S3.2.2 ≤ 16) ∧ r = nI S3.2.1)) := by rw [← hS3]; exact s2
  rcases s2.symm with ⟨u1, rfl⟩ | ⟨u1, u2, rfl, u4, u5⟩
  · refine ⟨fun z => absurd z (nI_nle (by omega) (by omega)), fun _ => b43_75 (fail _ _ F3' (by rw [ef2]; unfold frm3; rw [if_neg u1]) pl3.1 pl3.2)⟩
  have ef3 : fms t sz = frm4 t sz S3.2.2.toNat (nxt false t sz S3.1) := by rw [ef2]; unfold frm3; rw [if_pos ⟨u1, u2⟩]
  have eV : iI S3.2.2 = nI S3.2.2.toNat := by rw [← iI_n]; congr 1; omega
  have pl4 := nxt_pl (pk := false) (t := t) le3
  have le4 := nxt_le (pk := false) (t := t) le3
  refine ⟨fun _ => ⟨k3, ?_⟩, fun z => absurd (by decide) z⟩
  refine c48 (lo := 0) (hi := 40) (by omega) (by omega) (sh_si hs3) (TT_H F3' ht) le3 ?_ ?_ (fun w4 r v1 v2 => b43_75 ?_)
  · rw [y_i_si, if_neg (by omega)]; exact u5
  · exact (xI_i F3' 36 19 (by unfold mHd; omega)).trans h19
  have F4 : xI mHd w w4 := xI_tr F3' (xI_w v1 (by unfold mN mHd; omega))
  generalize hS4 : nxt false t sz S3.1 = S4 at ef3 pl4 le4
  have v2 : ((0 ≤ S4.2.2 ∧ S4.2.2 ≤ 40 ∧ r = 0 ∧ x_i w4 36 18 = iI S4.2.2 ∧ x_i w4 36 16 = nI S4.1) ∨ (¬ (0 ≤ S4.2.2 ∧ S4.2.2 ≤ 40) ∧ r = nI S4.2.1)) := by rw [← hS4]; exact v2
  rcases v2.symm with ⟨y1, rfl⟩ | ⟨y1, y2, rfl, y4, y5⟩
  · exact fail _ _ F4 (by rw [ef3]; unfold frm4; rw [if_neg y1]) pl4.1 pl4.2
  refine hq w4 0 F4 (Or.inr ⟨rfl, S3.2.2.toNat, S4.2.2.toNat, S4.1, by omega, by omega, le4, ?_, ?_, y5, ?_⟩)
  · rw [xI_i v1 36 20 (by unfold mN; omega), y_i_si, if_pos ⟨rfl, rfl⟩, u4, eV]
  · rw [y4, ← iI_n]; congr 1; omega
  · rw [ef3]; unfold frm4; rw [if_pos ⟨y1, y2⟩]
/-- the places of a formula that is read by the reference -/
def mRF : Nat → Nat → Prop := fun p k => (p = 36 ∧ (k = 16 ∨ k = 17 ∨ k = 18 ∨ k = 19 ∨ k = 20)) ∨ p = 44 ∨ p = 45
theorem TT_R {w1 : xW} (q : xI mRF w w1) (ht : TT w t sz) : TT w1 t sz := TT_I q ht (by unfold mRF; omega) (by unfold mRF; omega) (by unfold mRF; omega) (by unfold mRF; omega)
theorem LI_I {m : Nat → Nat → Prop} {w1 : xW} {row : Nat} (q : xI m w w1) (hL : LI row ls w) (h1 : ¬ m 45 row) (h2 : ∀ k, k < ls.length → ¬ m 44 (6 * row + k)) : LI row ls w1 :=
  ⟨(xI_i q 45 row h1).trans hL.1, fun k hk => (xI_i q 44 _ (h2 k hk)).trans (hL.2 k hk)⟩
theorem fm5_pl (ha : a ≤ sz) : (frm5 t sz V (0, a, cs)).1 ≤ sz + 1 := by
  unfold frm5
  have := nxt_pl (pk := false) (t := t) ha
  simp only [not_true_eq_false, if_false]
  split
  · simp
  · exact this.2
theorem c42_l (hV : V ≤ 16) {M : Nat} (hM : M ≤ 40) : ∀ (m a : Nat) (cs : List (List Int)) (w : xW), SH w → TT w t sz → cs.length + m = M → a ≤ sz → x_i w 36 16 = nI a → x_i w 36 19 = 0 → x_i w 36 20 = nI V → (∀ c, c < cs.length → LI (c + 1) (cs.getD c []) w) → cok cs →
    (∀ w', xI mRF w w' → ((frm5 t sz V (fcl (nxt false t sz) V m a cs)).1 = 0 → (frm5 t sz V (fcl (nxt false t sz) V m a cs)).2.1 = V ∧ (frm5 t sz V (fcl (nxt false t sz) V m a cs)).2.2.length = M ∧ x_i w' 36 18 = nI M ∧ x_i w' 36 20 = nI V ∧ cok (frm5 t sz V (fcl (nxt false t sz) V m a cs)).2.2 ∧ ∀ c, c < M → LI (c + 1) ((frm5 t sz V (fcl (nxt false t sz) V m a cs)).2.2.getD c []) w') → Q (.inl (some (.int (nI (frm5 t sz V (fcl (nxt false t sz) V m a cs)).1)))) w') →
    x_R x_prog scr 42 22 [some (.ref 36), some (.int 0), some (.int (nI M)), some (.int (nI (cs.length + 1)))] [] w Q := by
  intro m
  induction m with
  | zero =>
    intro a cs w h ht hm ha h16 h19 h20 hL hco hq
    have t1 := ht.1
    refine b42_22 ⟨fun _ => ⟨fun z => absurd rfl z, fun _ => ⟨by rw [sh_k h]; rfl, ?_⟩⟩, fun z => absurd (nI_lt (by omega) (by omega)) z⟩
    refine c44 h ht ha h16 (fun w1 q1 q2 q3 => b42_51 ?_)
    have hs1 := sh_I q1 h
    have k1 : x_k w1 36 = 12 := by rw [sh_k hs1]; rfl
    have F1 : xI mRF w w1 := xI_w q1 (by unfold mW mRF; omega)
    have hge := wN_ge (t := t) (sz := sz) (a := a)
    have hwv := wv_rg (t := t) (f := wF t sz a) (n := wN t sz a)
    by_cases hlt : wF t sz a < wN t sz a
    · rw [decide_eq_true hlt]
      refine ⟨fun z => absurd z (by decide), fun _ => ⟨k1, ?_⟩⟩
      have ef : frm5 t sz V (fcl (nxt false t sz) V 0 a cs) = (wF t sz a + 1, 0, []) := by
        unfold frm5 fcl
        rw [if_neg (fun y => y rfl), if_neg]
        · rfl
        · show ¬ (if wF t sz a = wN t sz a then (20001 : Int) else wv t (wF t sz a) (wN t sz a)) = 20001
          rw [if_neg (by omega)]
          omega
      rw [ef] at hq
      rw [q3, nI_1]
      exact hq w1 F1 (fun y => absurd (show wF t sz a + 1 = 0 from y) (by omega))
    · rw [decide_eq_false hlt]
      refine ⟨fun _ => ⟨k1, ?_⟩, fun z => absurd rfl z⟩
      have ef : frm5 t sz V (fcl (nxt false t sz) V 0 a cs) = (0, V, cs) := by
        unfold frm5 fcl
        rw [if_neg (fun y => y rfl), if_pos]
        show (if wF t sz a = wN t sz a then (20001 : Int) else wv t (wF t sz a) (wN t sz a)) = 20001
        rw [if_pos (by omega)]
      rw [ef] at hq
      have eM : cs.length = M := by omega
      have F2 : xI mRF w (x_si w1 36 18 (nI M)) := xI_si F1 (Or.inl ⟨rfl, by omega⟩)
      have F2' : xI (fun p k => p = 36 ∧ (k = 16 ∨ k = 17 ∨ k = 18)) w (x_si w1 36 18 (nI M)) := xI_si (xI_w q1 (by unfold mW; omega)) ⟨rfl, by omega⟩
      refine hq _ F2 (fun _ => ⟨rfl, eM, ?_, ?_, hco, fun c hc => LI_I F2' (hL c (by omega)) (by omega) (by omega)⟩)
      · rw [y_i_si, if_pos ⟨rfl, rfl⟩]
      · exact (xI_i F2' 36 20 (by omega)).trans h20
  | succ m ih =>
    intro a cs w h ht hm ha h16 h19 h20 hL hco hq
    have t1 := ht.1
    have hri := rc_in (t := t) (pk := false) (V := V) 6 [] (nxt false t sz a) (nxt_le ha) (nxt_pl ha).1 (nxt_pl ha).2
    refine b42_22 ⟨fun z => absurd z (nI_nlt (by omega) (by omega)), fun _ => ⟨fun z => absurd rfl z, fun _ => ⟨by rw [sh_k h]; rfl, ?_⟩⟩⟩
    refine c51 (pk := false) (row := cs.length + 1) (by omega) hV h ht ha h16 h20 h19 (fun w1 r q1 q2 q3 => b42_36 ?_)
    have hs1 := sh_I q1 h
    have F1 : xI mRF w w1 := xI_w q1 (by unfold mCR mRF; omega)
    rw [nI_1]
    cases hb : (rc (nxt false t sz) V 6 [] (nxt false t sz a)).1 with
    | false =>
      obtain ⟨er, er0⟩ := q3 hb
      have hz := rc_pl (t := t) (V := V) (pk := false) ha
      have ef : frm5 t sz V (fcl (nxt false t sz) V (m + 1) a cs) = ((rc (nxt false t sz) V 6 [] (nxt false t sz a)).2.2.2.1, 0, []) := by
        unfold frm5 fcl
        rw [hb]
        simp only [Bool.false_eq_true, if_false]
        rw [if_pos hz]
      rw [ef] at hq
      have F2 : xI mRF w (x_si w1 36 18 (nI M)) := xI_si F1 (Or.inl ⟨rfl, by omega⟩)
      have fin : Q (.inl (some (.int r))) (x_si w1 36 18 (nI M)) := by rw [er]; exact hq _ F2 (fun y => absurd y hz)
      have k1 : x_k w1 36 = 12 := by rw [sh_k hs1]; rfl
      exact b42_22 ⟨fun _ => ⟨fun _ => ⟨k1, fin⟩, fun z => absurd er0 z⟩, fun _ => ⟨fun _ => ⟨fun _ => ⟨k1, fin⟩, fun z => absurd er0 z⟩, fun z => absurd er0 z⟩⟩
    | true =>
      obtain ⟨rfl, eL, e16⟩ := q2 hb
      have ef : fcl (nxt false t sz) V (m + 1) a cs = fcl (nxt false t sz) V m (rc (nxt false t sz) V 6 [] (nxt false t sz a)).2.2.1 (cs ++ [(rc (nxt false t sz) V 6 [] (nxt false t sz a)).2.1]) := by
        conv => lhs; unfold fcl
        rw [if_pos hb]
      rw [ef] at hq
      have hl1 : (cs ++ [(rc (nxt false t sz) V 6 [] (nxt false t sz a)).2.1]).length = cs.length + 1 := by simp
      have := ih _ (cs ++ [(rc (nxt false t sz) V 6 [] (nxt false t sz a)).2.1]) w1 hs1 (TT_R F1 ht) (by omega) hri.1 e16 ((xI_i q1 36 19 (by unfold mCR; omega)).trans h19) ((xI_i q1 36 20 (by unfold mCR; omega)).trans h20) (fun c hc => ?_) (cok_app hco (rc_ok hV 6 [] _ rfl cl1_nil)) (fun w' u1 u2 => hq w' (xI_tr F1 u1) u2)
      · rw [hl1] at this
        exact this
      · rw [getD_appL]
        rw [hl1] at hc
        by_cases e : c < cs.length
        · rw [if_pos e]
          have hce := (cok_getD hco c).1
          exact LI_I q1 (hL c e) (by unfold mCR; omega) (by unfold mCR; omega)
        · have e2 : c = cs.length := by omega
          rw [if_neg e, if_pos e2, e2]
          exact eL
/-- readFormula of the reference -/
theorem c42 (h : SH w) (ht : TT w t sz)
    (hq : ∀ w', xI mRF w w' → ((fms t sz).1 = 0 → x_i w' 36 18 = nI (fms t sz).2.2.length ∧ x_i w' 36 20 = nI (fms t sz).2.1 ∧ (fms t sz).2.1 ≤ 16 ∧ (fms t sz).2.2.length ≤ 40 ∧ cok (fms t sz).2.2 ∧ ∀ c, c < (fms t sz).2.2.length → LI (c + 1) ((fms t sz).2.2.getD c []) w') → Q (.inl (some (.int (nI (fms t sz).1)))) w') :
    x_R x_prog scr 42 0 [some (.ref 36), o1, o2, o3] [] w Q := by
  have k0 : x_k w 36 = 12 := by rw [sh_k h]; rfl
  have F0 : xI mRF w (x_si (x_si w 36 16 0) 36 19 0) := xI_si (xI_si xI_rf (Or.inl ⟨rfl, by omega⟩)) (Or.inl ⟨rfl, by omega⟩)
  refine b42_0 ⟨k0, ⟨k0, Or.inl rfl⟩, k0, ?_⟩
  refine c43 (sh_I F0 h) (TT_R F0 ht) ?_ ?_ (fun w1 r q1 q2 => b42_14 ?_)
  · rw [y_i_si, if_neg (by omega), y_i_si, if_pos ⟨rfl, rfl⟩]
  · rw [y_i_si, if_pos ⟨rfl, rfl⟩]
  have F1 : xI mRF w w1 := xI_tr F0 (xI_w q1 (by unfold mHd mRF; omega))
  have hs1 := sh_I F1 h
  have k1 : x_k w1 36 = 12 := by rw [sh_k hs1]; rfl
  refine ⟨k1, ?_⟩
  rcases q2 with ⟨rfl, hz, hz2⟩ | ⟨rfl, V, M, a, hV, hM, ha, e20, e18, e16, ef⟩
  · have t1 := ht.1
    have er0 : ¬ nI (fms t sz).1 = 0 := nI_ne0 (by omega) (by omega)
    have fin : Q (.inl (some (.int (nI (fms t sz).1)))) (x_si w1 36 18 (x_i w1 36 18)) := hq _ (xI_si F1 (Or.inl ⟨rfl, by omega⟩)) (fun y => absurd y hz)
    exact b42_22 ⟨fun _ => ⟨fun _ => ⟨k1, fin⟩, fun z => absurd er0 z⟩, fun _ => ⟨fun _ => ⟨fun _ => ⟨k1, fin⟩, fun z => absurd er0 z⟩, fun z => absurd er0 z⟩⟩
  · rw [e18]
    rw [ef] at hq
    refine c42_l hV hM M a [] w1 hs1 (TT_R F1 ht) (by simp) ha e16 ?_ e20 (fun c hc => absurd hc (by simp)) (fun x hx => by cases hx) (fun w' u1 u2 => hq w' (xI_tr F1 u1) (fun y => ?_))
    · rw [xI_i q1 36 19 (by unfold mHd; omega), y_i_si, if_pos ⟨rfl, rfl⟩]
    · obtain ⟨z1, z2, z3, z4, z5, z6⟩ := u2 y
      rw [z1, z2]
      exact ⟨z3, z4, hV, hM, z5, z6⟩
/-- clause c of the reference -/
def RC (w : xW) (c : Nat) (ls : List Int) : Prop := x_i w 39 c = nI ls.length ∧ ∀ k, k < ls.length → x_i w 38 (6 * c + k) = iI (ls.getD k 0)
def mTO (c : Nat) : Nat → Nat → Prop := fun p k => (p = 39 ∧ k = c) ∨ (p = 38 ∧ 6 * c ≤ k ∧ k < 6 * c + 6)
theorem c54_l {row c : Nat} (hr : row < 81) (hc : c < 64) : ∀ (d k : Nat) (w : xW), SH w → k + d = 6 →
    (∀ w', xI (mTO c) w w' → x_i w' 39 c = x_i w 39 c → (∀ j, j < k → x_i w' 38 (6 * c + j) = x_i w 38 (6 * c + j)) → (∀ j, k ≤ j → j < 6 → x_i w' 38 (6 * c + j) = x_i w 44 (6 * row + j)) → Q (.inl none) w') →
    x_R x_prog scr 54 14 [some (.ref 36), some (.int (nI row)), some (.int (nI c)), some (.int (nI k))] [] w Q := by
  intro d
  induction d with
  | zero =>
    intro k w h hk hq
    refine b54_14 ⟨fun _ => hq w xI_rf rfl (fun _ _ => rfl) (fun j h1 h2 => by omega), fun z => absurd (nI_le (a := 6) (by omega) (by omega)) z⟩
  | succ d ih =>
    intro k w h hk hq
    have e1 : (6 : Int32) * nI row + nI k = nI (6 * row + k) := by rw [show (6 : Int32) = nI 6 from rfl, pk_mul, nI_add]
    have e2 : (6 : Int32) * nI c + nI k = nI (6 * c + k) := by rw [show (6 : Int32) = nI 6 from rfl, pk_mul, nI_add]
    refine b54_14 ⟨fun z => absurd z (nI_ge (b := 6) (by omega) (by omega)), fun _ => ?_⟩
    simp only [sh_k h, sh_l h, sh_n h, kk36, sr36_2 h, sr36_8 h, sr36_9 h, sr36_12 h, sr36_13 h, sr36_14 h, sr36_15 h, sr36_21 h, sr36_22 h, sr36_23 h, sr36_25 h, sr36_27 h, sr36_28 h, sr36_29 h, sr36_30 h, sr36_31 h, sr36_35 h, sr36_36 h, sr36_37 h, sr36_38 h, sr36_40 h, sr36_41 h, sr36_42 h, sr36_44 h, sr36_45 h, sr36_46 h, sr36_47 h, sr36_48 h, sr36_49 h, sr36_51 h, sr36_52 h, sr36_53 h, sr36_54 h, sr36_55 h, kk38, ll38, kk44, ll44, true_and, and_true, false_and, and_false, and_self, not_false_eq_true, not_true_eq_false, true_implies, false_implies, implies_true, true_or, or_true, or_self, if_true, if_false, Nat.reduceEqDiff, reduceIte, eq_self, e1, e2, nI_1, nI_clamp (show 6 * row + k < 2 ^ 31 by omega), nI_clamp (show 6 * c + k < 2 ^ 31 by omega), vp_in_nI (show 6 * row + k < 486 by omega) (show 486 < 2 ^ 31 by omega), vp_in_nI (show 6 * c + k < 384 by omega) (show 384 < 2 ^ 31 by omega)]
    have hF : xI (mTO c) w (x_si w 38 (6 * c + k) (x_i w 44 (6 * row + k))) := xI_si xI_rf (Or.inr ⟨rfl, by omega, by omega⟩)
    refine ih (k + 1) _ (sh_si h) (by omega) (fun w' q1 q2 q3 q4 => hq w' (xI_tr hF q1) (q2.trans ?_) (fun j hj => (q3 j (by omega)).trans ?_) (fun j h1 h2 => ?_))
    · rw [y_i_si, if_neg (by omega)]
    · rw [y_i_si, if_neg (by omega)]
    · by_cases e : j = k
      · subst e
        rw [q3 j (by omega), y_i_si, if_pos ⟨rfl, rfl⟩]
      · rw [q4 j (by omega) h2, y_i_si, if_neg (by omega)]
/-- takeOver -/
theorem c54 {row c : Nat} (hr : row < 81) (hc : c < 64) (h : SH w) (hl : ls.length ≤ 6) (hL : LI row ls w) (hq : ∀ w', xI (mTO c) w w' → RC w' c ls → Q (.inl none) w') : x_R x_prog scr 54 0 [some (.ref 36), some (.int (nI row)), some (.int (nI c)), o3] [] w Q := by
  refine b54_0 ?_
  simp only [sh_k h, sh_l h, sh_n h, kk36, sr36_2 h, sr36_8 h, sr36_9 h, sr36_12 h, sr36_13 h, sr36_14 h, sr36_15 h, sr36_21 h, sr36_22 h, sr36_23 h, sr36_25 h, sr36_27 h, sr36_28 h, sr36_29 h, sr36_30 h, sr36_31 h, sr36_35 h, sr36_36 h, sr36_37 h, sr36_38 h, sr36_40 h, sr36_41 h, sr36_42 h, sr36_44 h, sr36_45 h, sr36_46 h, sr36_47 h, sr36_48 h, sr36_49 h, sr36_51 h, sr36_52 h, sr36_53 h, sr36_54 h, sr36_55 h, kk39, ll39, kk45, ll45, true_and, and_true, false_and, and_false, and_self, not_false_eq_true, not_true_eq_false, true_implies, false_implies, implies_true, true_or, or_true, or_self, if_true, if_false, Nat.reduceEqDiff, reduceIte, eq_self, nI_clamp (show row < 2 ^ 31 by omega), nI_clamp (show c < 2 ^ 31 by omega), vp_in_nI (show row < 81 by omega) (show 81 < 2 ^ 31 by omega), vp_in_nI (show c < 64 by omega) (show 64 < 2 ^ 31 by omega)]
  have hF : xI (mTO c) w (x_si w 39 c (x_i w 45 row)) := xI_si xI_rf (Or.inl ⟨rfl, rfl⟩)
  refine c54_l hr hc 6 0 _ (sh_si h) rfl (fun w' q1 q2 q3 q4 => hq w' (xI_tr hF q1) ⟨?_, fun k hk => ?_⟩)
  · rw [q2, y_i_si, if_pos ⟨rfl, rfl⟩]; exact hL.1
  · rw [q4 k (Nat.zero_le _) (by omega), y_i_si, if_neg (by omega)]; exact hL.2 k hk
/-- forget -/
def mFg : Nat → Nat → Prop := fun p _ => p = 42 ∨ p = 43
theorem c55_b : ∀ (d k : Nat) (w : xW), SH w → k + d = 64 → (∀ w', xI mFg w w' → x_i w' 42 = x_i w 42 → (∀ j, j < k → x_i w' 43 j = x_i w 43 j) → (∀ j, k ≤ j → j < 64 → x_i w' 43 j = 0) → Q (.inl none) w') →
    x_R x_prog scr 55 23 [some (.ref 36), some (.int (nI k))] [] w Q := by
  intro d
  induction d with
  | zero =>
    intro k w h hk hq
    exact b55_23 ⟨fun _ => hq w xI_rf rfl (fun _ _ => rfl) (fun j h1 h2 => by omega), fun z => absurd (nI_le (a := 64) (by omega) (by omega)) z⟩
  | succ d ih =>
    intro k w h hk hq
    refine b55_23 ⟨fun z => absurd z (nI_ge (b := 64) (by omega) (by omega)), fun _ => ?_⟩
    simp only [sh_k h, sh_l h, sh_n h, kk36, sr36_2 h, sr36_8 h, sr36_9 h, sr36_12 h, sr36_13 h, sr36_14 h, sr36_15 h, sr36_21 h, sr36_22 h, sr36_23 h, sr36_25 h, sr36_27 h, sr36_28 h, sr36_29 h, sr36_30 h, sr36_31 h, sr36_35 h, sr36_36 h, sr36_37 h, sr36_38 h, sr36_40 h, sr36_41 h, sr36_42 h, sr36_44 h, sr36_45 h, sr36_46 h, sr36_47 h, sr36_48 h, sr36_49 h, sr36_51 h, sr36_52 h, sr36_53 h, sr36_54 h, sr36_55 h, kk43, ll43, true_and, and_true, false_and, and_false, and_self, not_false_eq_true, not_true_eq_false, true_implies, false_implies, implies_true, true_or, or_true, or_self, if_true, if_false, Nat.reduceEqDiff, reduceIte, eq_self, nI_1, nI_clamp (show k < 2 ^ 31 by omega), vp_in_nI (show k < 64 by omega) (show 64 < 2 ^ 31 by omega)]
    have hF : xI mFg w (x_si w 43 k 0) := xI_si xI_rf (Or.inr rfl)
    refine ih (k + 1) _ (sh_si h) (by omega) (fun w' q1 q2 q3 q4 => hq w' (xI_tr hF q1) (q2.trans ?_) (fun j hj => (q3 j (by omega)).trans ?_) (fun j h1 h2 => ?_))
    · funext j; rw [y_i_si, if_neg (by omega)]
    · rw [y_i_si, if_neg (by omega)]
    · by_cases e : j = k
      · subst e
        rw [q3 j (by omega), y_i_si, if_pos ⟨rfl, rfl⟩]
      · exact q4 j (by omega) h2
theorem c55_a : ∀ (d k : Nat) (w : xW), SH w → k + d = 81 → (∀ j, j < k → x_i w 42 j = 0) → (∀ w', xI mFg w w' → (∀ j, j < 81 → x_i w' 42 j = 0) → (∀ j, j < 64 → x_i w' 43 j = 0) → Q (.inl none) w') →
    x_R x_prog scr 55 2 [some (.ref 36), some (.int (nI k))] [] w Q := by
  intro d
  induction d with
  | zero =>
    intro k w h hk hz hq
    exact b55_2 ⟨fun _ => c55_b 64 0 w h rfl (fun w' q1 q2 _ q4 => hq w' q1 (fun j hj => by rw [q2]; exact hz j (by omega)) (fun j hj => q4 j (Nat.zero_le _) hj)), fun z => absurd (nI_le (a := 81) (by omega) (by omega)) z⟩
  | succ d ih =>
    intro k w h hk hz hq
    refine b55_2 ⟨fun z => absurd z (nI_ge (b := 81) (by omega) (by omega)), fun _ => ?_⟩
    simp only [sh_k h, sh_l h, sh_n h, kk36, sr36_2 h, sr36_8 h, sr36_9 h, sr36_12 h, sr36_13 h, sr36_14 h, sr36_15 h, sr36_21 h, sr36_22 h, sr36_23 h, sr36_25 h, sr36_27 h, sr36_28 h, sr36_29 h, sr36_30 h, sr36_31 h, sr36_35 h, sr36_36 h, sr36_37 h, sr36_38 h, sr36_40 h, sr36_41 h, sr36_42 h, sr36_44 h, sr36_45 h, sr36_46 h, sr36_47 h, sr36_48 h, sr36_49 h, sr36_51 h, sr36_52 h, sr36_53 h, sr36_54 h, sr36_55 h, kk42, ll42, true_and, and_true, false_and, and_false, and_self, not_false_eq_true, not_true_eq_false, true_implies, false_implies, implies_true, true_or, or_true, or_self, if_true, if_false, Nat.reduceEqDiff, reduceIte, eq_self, nI_1, nI_clamp (show k < 2 ^ 31 by omega), vp_in_nI (show k < 81 by omega) (show 81 < 2 ^ 31 by omega)]
    have hF : xI mFg w (x_si w 42 k 0) := xI_si xI_rf (Or.inl rfl)
    refine ih (k + 1) _ (sh_si h) (by omega) (fun j hj => ?_) (fun w' q1 q2 q3 => hq w' (xI_tr hF q1) q2 q3)
    rw [y_i_si]
    by_cases e : j = k
    · rw [if_pos ⟨rfl, e⟩]
    · rw [if_neg (by omega)]; exact hz j (by omega)
theorem c55 (h : SH w) (hq : ∀ w', xI mFg w w' → (∀ j, j < 81 → x_i w' 42 j = 0) → (∀ j, j < 64 → x_i w' 43 j = 0) → Q (.inl none) w') : x_R x_prog scr 55 0 [some (.ref 36), o1] [] w Q :=
  b55_0 (c55_a 81 0 w h rfl (fun j hj => by omega) hq)
end X40
