/-! noteImplied, noteSpared of the class. -/
section X66
variable {scr : Nat × (Nat → Int32)} {w : xW} {Q : xO → xW → Prop} {w1 : xW} {P n c g d V E : Nat} {hf hs : Bool} {al mk sp nd f mkO spO : Nat → Bool} {tak : xTk} {cs : List (List Int)} {st : xSt} {ls NT : List Int} {m : Int32} {o : Int} {o1 o2 o3 o4 o5 o6 o7 o8 o9 o10 o11 o12 : Option Value}
/-- the refuter's own state: marks, spared, notes -/
def RF (P : Nat) (w : xW) (E : Nat) (mk sp : Nat → Bool) (NT : List Int) : Prop := x_r w 21 1 = P ∧ x_i w 21 4 = nI E ∧ (∀ j, j < 64 → hc (x_j w 21 2) j = mk j) ∧ (∀ j, j < 64 → hc (x_j w 21 3) j = sp j) ∧ TG 22 w NT
/-- a line that was noted -/
def CL (w : xW) (NT : List Int) (n : Nat) (nw : Nat → Bool) (hb hg : List Int) : Prop := ∃ p q, NT = p ++ (hg ++ (hb ++ q)) ∧ x_i w 24 n = nI p.length ∧ x_i w 25 n = nI (p.length + hg.length) ∧ x_i w 26 n = nI (p.length + hg.length + hb.length) ∧ ∀ j, j < 64 → hc (x_j w 27 n) j = nw j
def mNi (n : Nat) : Nat → Nat → Prop := fun p k => mPi p k ∨ (p = 22 ∧ k = 1) ∨ p = 23 ∨ ((p = 24 ∨ p = 25 ∨ p = 26) ∧ k = n)
def mNj (n : Nat) : Nat → Nat → Prop := fun p k => (p = 28 ∧ k = 1) ∨ (p = 21 ∧ (k = 2 ∨ k = 3)) ∨ (p = 27 ∧ k = n)
theorem CL_F {nw : Nat → Bool} {hb hg e : List Int} {k : Nat} (q : xF (mNi n) (mNj n) mPrr w w1) (hk : ¬ k = n) (h : CL w NT k nw hb hg) : CL w1 (NT ++ e) k nw hb hg := by
  obtain ⟨p, r, h1, h2, h3, h4, h5⟩ := h
  refine ⟨p, r ++ e, by rw [h1]; simp only [List.append_assoc], (q.2.1 24 k (by unfold mNi mPi; omega)).trans h2, (q.2.1 25 k (by unfold mNi mPi; omega)).trans h3, (q.2.1 26 k (by unfold mNi mPi; omega)).trans h4, ?_⟩
  rw [q.2.2.1 27 k (by unfold mNj; omega)]
  exact h5
theorem PS_N (hP : P = 5 ∨ P = 11) (q : xF (mNi n) (mNj n) mPrr w w1) (hS : PS P w hf hs V g cs st mkO spO) : PS P w1 hf hs V g cs st mkO spO :=
  PS_e (fun p _ _ => funext fun k => q.2.1 p k (by unfold mNi mPi; omega)) (funext fun k => q.2.2.1 P k (by unfold mNj; omega)) (funext fun k => q.2.2.1 (P + 5) k (by unfold mNj; omega)) hS
theorem sh_N (q : xF (mNi n) (mNj n) mPrr w w1) (h : SH w) : SH w1 := sh_A (xF_w q (fun _ _ z => z) (fun _ _ z => z) (by unfold mPrr mrA; omega)) h
theorem N_P (q : xF mPi mPj mPrr w w1) : xF (mNi n) (mNj n) mPrr w w1 := xF_w q (fun _ _ z => Or.inl z) (fun _ _ z => Or.inl z) (fun _ _ z => z)
theorem N_A (q : xI (mAd 22) w w1) : xF (mNi n) (mNj n) mPrr w w1 := xF_w q (by unfold mAd mNi; omega) (fun _ _ z => z.elim) (fun _ _ z => z.elim)
theorem N_M (q : xF x_no (fun p k => p = 21 ∧ k = 2) x_no w w1) : xF (mNi n) (mNj n) mPrr w w1 := xF_w q (fun _ _ z => z.elim) (by unfold mNj; omega) (fun _ _ z => z.elim)
/-- noteImplied -/
theorem c127 (hP : P = 5 ∨ P = 11) (hco : cok cs) (hl : cs.length ≤ 63) (hE : E ≤ 64) (hn : n ≤ 64) (h : SH w) (hS : PS P w hf hs V g cs st mkO spO) (hR : RF P w E mk sp NT) (hNT : NT.length < 2 ^ 28) (hcl : cl1 ls) (hline : (n = E ∧ ls = []) ∨ (¬ n = E ∧ 1 ≤ n ∧ n ≤ cs.length ∧ ls = cg cs n)) {la : Int64} (hla : ∀ j, j < 64 → hc la j = al j)
    (hq0 : (prg cs al mk 17 (tvN ls) []).2.2 = 0 → ∀ w', xF mPi mPj mPrr w w' → SH w' → PB P w' cs al (prg cs al mk 17 (tvN ls) []).1 (prg cs al mk 17 (tvN ls) []).2.1 → tok (prg cs al mk 17 (tvN ls) []).1 → TI cs (prg cs al mk 17 (tvN ls) []).1 (prg cs al mk 17 (tvN ls) []).2.1 → Q (.inl (some (.int 0))) w')
    (hq1 : ¬ (prg cs al mk 17 (tvN ls) []).2.2 = 0 → ∀ w', xF (mNi n) (mNj n) mPrr w w' → SH w' → RF P w' E (mkS mk (hI cs (prg cs al mk 17 (tvN ls) []))) sp (NT ++ hI cs (prg cs al mk 17 (tvN ls) [])) → CL w' (NT ++ hI cs (prg cs al mk 17 (tvN ls) [])) n (fun d => mkS mk (hI cs (prg cs al mk 17 (tvN ls) [])) d && !mk d) (hI cs (prg cs al mk 17 (tvN ls) [])) [] → Q (.inl (some (.int 1))) w') :
    x_R x_prog scr 127 0 [some (.ref 21), some (.int (nI n)), some (.long la), o3, o4, o5, o6] [] w Q := by
  obtain ⟨r1, r4, rm, rs, rT⟩ := id hR
  have k21 : x_k w 21 = 10 := by rw [sh_k h]; rfl
  obtain ⟨hN1, hN2⟩ := tvN_ok hcl
  have hPA := prg_at (cs := cs) (al := al) (mk := mk) 17 (tvN ls) [] AT_nil
  have main : ∀ o2 o3 o4 o5 o6 : Option Value, x_R x_prog scr 127 41 [some (.ref 21), some (.int (nI n)), o2, o3, o4, o5, o6] [.int (opp (mask ls)), .long (x_j w 21 2), .long la, .ref P, .ref 28] w Q := by
    intro o2 o3 o4 o5 o6
    refine b127_41 ⟨by rw [sh_k h]; rfl, c95 (tv := tvN ls) (al := al) (mk := mk) hco h hN1 hP hS.1.2.2.2.2.1 hl (PS_sets hS) hla rm hN2 (fun w1 u1 u2 u3 u4 u5 u6 u7 u8 => b127_44 ?_)⟩
    have u1 : xF mPi mPj mPrr w w1 := u1
    have S1 := PS_P hP u1 hS
    have k1 : x_k w1 21 = 10 := by rw [sh_k u2]; rfl
    generalize hr : prg cs al mk 17 (tvN ls) [] = r at *
    by_cases z : r.2.2 = 0
    · rw [decide_eq_false (fun y => y z)]
      obtain ⟨g1, g2, g3, g4, g5, g6, g7, g8, g9⟩ := u3
      exact ⟨fun y => absurd rfl y, fun _ => ⟨Or.inl rfl, hq0 z w1 u1 u2 ⟨g1, g2, g3, g4, S1.2.1, g6, by rw [u6]; exact g7, u7, g9⟩ u4 u5⟩⟩
    · rw [decide_eq_true z]
      obtain ⟨v1, v2, v3, v4, v5⟩ := u8 z
      obtain ⟨p1, p2, p3⟩ := hPA
      have p2 : r.2.1.length ≤ 17 := by rw [List.length_nil] at p2; omega
      have j1 : x_j w1 21 = x_j w 21 := funext fun k => u1.2.2.1 21 k (by unfold mPj; omega)
      have hk9 := u3.2.2.2.2.2.2.2.2
      refine ⟨fun _ => ⟨k1, k1, c128 (tak := r.2.1) (nd := nds cs r.2.1 r.2.1.length (nvc cs r.2.2)) (mk := mk) (by omega) p2 (fun k hk => by have := p1 k hk; omega) u2 (fun k hk => (hk9 k hk).1) v5 (fun i hi => nds_ge _ _ hi) v1 (by rw [j1]; exact rm) (fun w2 y1 y2 => b127_59 ?_)⟩, fun y => absurd (by decide) y⟩
      have ecf : cfL r.2.2 = [(r.2.2 : Int)] := by unfold cfL; rw [if_neg z]
      rw [ecf] at y2
      have y2 : ∀ j, j < 64 → hc (x_j w2 21 2) j = mkS mk (hI cs r) j := y2
      have i2 : x_i w2 = x_i w1 := funext fun p => funext fun k => y1.2.1 p k fun z => z
      have h2 := sh_F y1 u2
      have T1 : TG 22 w1 NT := TG_F u1 rT (by unfold mPi; omega) (by unfold mPi; omega)
      have e22 : x_i w2 22 1 = nI NT.length := by rw [i2]; exact T1.1
      have e1 : ∀ v, x_i (x_si w2 24 n v) 22 1 = nI NT.length := fun v => by rw [y_i_si, if_neg (by omega)]; exact e22
      have e2 : ∀ v v', x_i (x_si (x_si w2 24 n v) 25 n v') 28 9 = x_i w1 28 9 := fun v v' => by rw [y_i_si, if_neg (by omega), y_i_si, if_neg (by omega), i2]
      rw [sr21_6 h2, sr21_5 h2, sr21_7 h2, sr21_0 h2, sh_k h2, sh_l h2, nI_clamp (show n < 2 ^ 31 by omega), e22, e1, e2]
      generalize hw3 : x_si (x_si w2 24 n (nI NT.length)) 25 n (nI NT.length) = w3
      have G3 : xI (fun p k => (p = 24 ∨ p = 25) ∧ k = n) w2 w3 := by rw [← hw3]; exact xI_si (xI_si xI_rf ⟨Or.inl rfl, rfl⟩) ⟨Or.inr rfl, rfl⟩
      have a24 : x_i w3 24 n = nI NT.length := by rw [← hw3, y_i_si, if_neg (by omega), y_i_si, if_pos ⟨rfl, rfl⟩]
      have a25 : x_i w3 25 n = nI NT.length := by rw [← hw3, y_i_si, if_pos ⟨rfl, rfl⟩]
      clear hw3
      have h3 := sh_I G3 h2
      have T3 : TG 22 w3 NT := TG_F G3 (TG_F y1 T1 (fun z => z) (fun _ z => z)) (by omega) (by omega)
      refine ⟨rfl, by decide, rfl, by decide, rfl, ⟨rfl, vp_in_nI (N := 65) (by omega) (by omega)⟩, rfl, by decide, rfl, by decide, rfl, ⟨rfl, vp_in_nI (N := 65) (by omega) (by omega)⟩, rfl, by decide, rfl, rfl, c129 (tak := r.2.1) (f := nds cs r.2.1 r.2.1.length (nvc cs r.2.2)) p2 h3 (fun k hk => by rw [xI_i G3 29 k (by omega), i2]; exact (hk9 k hk).1) v5 (fun i hi => nds_ge _ _ hi) (by omega) T3 (fun w4 x1 x2 => b127_96 ?_)⟩
      have h4 := sh_I x1 h3
      have s1 := sel_len (f := nds cs r.2.1 r.2.1.length (nvc cs r.2.2)) (tak := r.2.1) r.2.1.length 0
      refine ⟨by rw [sh_k h4]; rfl, c130 (cf := r.2.2) (by omega) h4 (by rw [xI_i x1 28 8 (by unfold mAd; omega), xI_i G3 28 8 (by omega), i2]; exact v1) (by rw [List.length_append]; omega) x2 (fun w5 t1 t2 => b127_100 ?_)⟩
      have h5 := sh_I t1 h4
      rw [ecf, List.append_assoc] at t2
      have t2 : TG 22 w5 (NT ++ hI cs r) := t2
      rw [sr21_8 h5, sr21_5 h5, sr21_9 h5, sh_k h5, sh_l h5, nI_clamp (show n < 2 ^ 31 by omega), t2.1]
      have e5 : x_i w5 24 n = nI NT.length ∧ x_i w5 25 n = nI NT.length := ⟨(xI_i t1 24 n (by unfold mAd; omega)).trans ((xI_i x1 24 n (by unfold mAd; omega)).trans a24), (xI_i t1 25 n (by unfold mAd; omega)).trans ((xI_i x1 25 n (by unfold mAd; omega)).trans a25)⟩
      have j5 : x_j w5 = x_j w2 := by rw [xI_j t1, xI_j x1, xI_j G3]
      have F5 : xF (mNi n) (mNj n) mPrr w w5 := xF_tr (N_P u1) (xF_tr (N_M y1) (xF_tr (xF_w G3 (by unfold mNi; omega) (fun _ _ z => z.elim) (fun _ _ z => z.elim)) (xF_tr (N_A x1) (N_A t1))))
      refine ⟨rfl, by decide, rfl, by decide, rfl, ⟨rfl, vp_in_nI (N := 65) (by omega) (by omega)⟩, rfl, by decide, rfl, ⟨rfl, vp_in_nI (N := 65) (by omega) (by omega)⟩, Or.inr rfl, ?_⟩
      have hll : (NT ++ hI cs r).length = NT.length + (hI cs r).length := List.length_append
      generalize hw6 : x_sj (x_si w5 26 n (nI (NT ++ hI cs r).length)) 27 n (x_j w5 21 2 &&& (x_j w1 21 2 ^^^ (-1))) = w6
      have G6 : xF (fun p k => p = 26 ∧ k = n) (fun p k => p = 27 ∧ k = n) x_no w5 w6 := by rw [← hw6]; exact xF_sj (xF_si xF_rf ⟨rfl, rfl⟩) ⟨rfl, rfl⟩
      have F6 : xF (mNi n) (mNj n) mPrr w w6 := xF_tr F5 (xF_w G6 (by unfold mNi; omega) (by unfold mNj; omega) (fun _ _ z => z.elim))
      have a26 : x_i w6 26 n = nI (NT ++ hI cs r).length := by rw [← hw6, y_i_sj, y_i_si, if_pos ⟨rfl, rfl⟩]
      have a27 : x_j w6 27 n = x_j w5 21 2 &&& (x_j w1 21 2 ^^^ (-1)) := by rw [← hw6, y_j_sj, if_pos ⟨rfl, rfl⟩]
      clear hw6
      refine hq1 z w6 F6 (sh_N F6 h) ⟨(F6.2.2.2 21 1 (by unfold mPrr; omega)).trans r1, (F6.2.1 21 4 (by unfold mNi mPi; omega)).trans r4, ?_, ?_, TG_F G6 t2 (by omega) (by omega)⟩ ⟨NT, [], by simp, (G6.2.1 24 n (by omega)).trans e5.1, (G6.2.1 25 n (by omega)).trans e5.2, ?_, fun j hj => ?_⟩
      · rw [G6.2.2.1 21 2 (by omega), j5]; exact y2
      · rw [G6.2.2.1 21 3 (by omega), j5, y1.2.2.1 21 3 (by omega), j1]; exact rs
      · rw [a26, hll]; rfl
      · rw [a27, hc_and, hc_not _ hj, j5, y2 j hj, j1, rm j hj]
  refine b127_0 ?_
  have gE : nI n = nI E ↔ n = E := nI_eq (by omega) (by omega)
  rw [r4, gE, r1, pK h hP, sr21_0 h]
  rcases hline with ⟨e1, e2⟩ | ⟨e1, e2, e3, e4⟩
  · refine ⟨k21, fun z => absurd e1 z, fun _ => ⟨k21, by decide, k21, by omega, k21, c33 ?_⟩⟩
    have := main (some (.long la)) none (some (.int 0)) none none
    rw [e2] at this
    exact this
  · have hset : x_i w (P + 3) n = mask ls := by
      have := PS_sets hS (n - 1) (by omega)
      rw [Nat.sub_add_cancel e2] at this
      rw [e4]
      exact this
    rw [pr8 h hP, (pk3 h hP).1, (pk3 h hP).2, nI_clamp (show n < 2 ^ 31 by omega), hset]
    exact ⟨k21, fun _ => ⟨k21, by omega, rfl, by omega, ⟨rfl, vp_in_nI (by omega) (by omega)⟩, k21, by decide, k21, by omega, k21, c33 (main _ _ _ _ _)⟩, fun z => absurd e1 z⟩
end X66
