/-! goOn and start of the class. -/
/-- the variables of a conflict -/
def nvc (cs : List (List Int)) (c : Nat) : Nat → Bool := fun v => (cg cs c).any (fun l => decide (l.natAbs = v))
theorem WM_c {cs : List (List Int)} {tv : Nat → Int} {c : Nat} (hco : cok cs) (hall : ∀ x ∈ cg cs c, vl tv x < 0) : WM tv (nvc cs c) (opp (mask (cg cs c))) := by
  intro l hl
  have hcl := cg_ok hco c
  rw [Bool.eq_iff_iff, mm_ino hcl.2.1 hl]
  unfold nvc
  simp only [Bool.and_eq_true, decide_eq_true_iff, List.any_eq_true]
  have h4 := vl_neg (tv := tv) hl.1
  constructor
  · intro h1
    have := hall _ h1
    exact ⟨⟨-l, h1, Int.natAbs_neg l⟩, by omega⟩
  · rintro ⟨⟨x, hx, h2⟩, h3⟩
    have := hall x hx
    have hx2 : x = l ∨ x = -l := by omega
    rcases hx2 with e | e
    · rw [e] at this; omega
    · rw [← e]; exact hx
section X55
variable {scr : Nat × (Nat → Int32)} {w : xW} {Q : xO → xW → Prop} {w1 : xW} {P n c : Nat} {al mk : Nat → Bool} {tv : Nat → Int} {tak : xTk} {cs : List (List Int)} {nv : Nat → Bool} {m : Int32} {o1 o2 o3 o4 o5 o6 o7 : Option Value}
def mGo : Nat → Nat → Prop := fun p k => (p = 28 ∧ (k = 2 ∨ k = 6 ∨ k = 8 ∨ k = 9)) ∨ p = 29 ∨ p = 30
theorem PG_I {ms : Nat → Nat → Prop} (q : xI ms w w1) (h : PG P w cs al tv tak) (h1 : ¬ ms P 4) (h2 : ∀ k, ¬ ms (P + 3) k) (h3 : ¬ ms 28 2) (h4 : ¬ ms 28 6) (h5 : ∀ k, k < tak.length → ¬ ms 29 k ∧ ¬ ms 30 k) : PG P w1 cs al tv tak := by
  obtain ⟨hP, r0, p4, hl, pS, pA, pT, p6, pK'⟩ := h
  refine ⟨hP, by rw [xI_r q]; exact r0, (xI_i q P 4 h1).trans p4, hl, fun c hc => (xI_i q _ _ (h2 _)).trans (pS c hc), by rw [xI_j q]; exact pA, by rw [xI_i q 28 2 h3]; exact pT, (xI_i q 28 6 h4).trans p6, fun k hk => ⟨(xI_i q 29 k (h5 k hk).1).trans (pK' k hk).1, (xI_i q 30 k (h5 k hk).2).trans (pK' k hk).2⟩⟩
theorem c96_l (hco : cok cs) {ma : Int64} (hma : ∀ j, j < 64 → hc ma j = mk j) : ∀ (d : Nat) (tv : Nat → Int) (tak : xTk) (w : xW) (o2 o3 o4 : Option Value), SH w → PG P w cs al tv tak → tok tv → TI cs tv tak → tak.length + d = 17 →
    (∀ w', xI mGo w w' → PG P w' cs al (prg cs al mk d tv tak).1 (prg cs al mk d tv tak).2.1 → tok (prg cs al mk d tv tak).1 → TI cs (prg cs al mk d tv tak).1 (prg cs al mk d tv tak).2.1 → (¬ (prg cs al mk d tv tak).2.2 = 0 → x_i w' 28 8 = nI (prg cs al mk d tv tak).2.2 ∧ 1 ≤ (prg cs al mk d tv tak).2.2 ∧ (prg cs al mk d tv tak).2.2 ≤ cs.length ∧ (∀ x ∈ cg cs (prg cs al mk d tv tak).2.2, vl (prg cs al mk d tv tak).1 x < 0) ∧ ∀ i, i < 32 → mm (x_i w' 28 9) i = nds cs (prg cs al mk d tv tak).2.1 (prg cs al mk d tv tak).2.1.length (nvc cs (prg cs al mk d tv tak).2.2) i) → Q (.inl (some (.int (b32 (decide (¬ (prg cs al mk d tv tak).2.2 = 0)))))) w') →
    x_R x_prog scr 96 0 [some (.ref 28), some (.long ma), o2, o3, o4] [] w Q := by
  intro d
  induction d with
  | zero =>
    intro tv tak w o2 o3 o4 h hG ht hI hd hq
    have h16 := TI_16 hI
    omega
  | succ d ih =>
    intro tv tak w o2 o3 o4 h hG ht hI hd hq
    obtain ⟨hP, r0, p4, hl, pS, pA, pT, p6, pK'⟩ := id hG
    have h16 := TI_16 hI
    have k28 : x_k w 28 = 9 := by rw [sh_k h]; rfl
    have kP := pK h hP
    refine b96_0 ?_
    rw [sr28_4 h, p6, sh_k h, sh_l h]
    have e17 : Int32.ofNat (sh_L 29) = nI 17 := rfl
    rw [e17]
    refine ⟨rfl, rfl, by decide, rfl, fun z => absurd z (nI_ge (by omega) (by omega)), fun _ => ⟨rfl, c97 h hG ht hco hma (b96_17 ?_)⟩⟩
    by_cases hp0 : pkc cs al mk tv = 0
    · have ef : prg cs al mk (d + 1) tv tak = (tv, tak, 0) := by unfold prg; rw [if_pos hp0]
      rw [ef] at hq
      rw [hp0]
      exact ⟨fun z => absurd rfl z, fun _ => ⟨Or.inl rfl, hq w xI_rf hG ht hI (fun z => absurd rfl z)⟩⟩
    · obtain ⟨q1, q2, q3, q4⟩ := pkc_in hp0
      have hset := PG_set hG q1 q2
      refine ⟨fun _ => ?_, fun z => absurd (nI_ne0 (by omega) (by omega)) z⟩
      rw [r0, kP, pr8 h hP, (pk3 h hP).1, (pk3 h hP).2, nI_clamp (show pkc cs al mk tv < 2 ^ 31 by omega), hset]
      refine ⟨k28, by omega, rfl, by omega, ⟨rfl, vp_in_nI (by omega) (by omega)⟩, k28, c33 (b96_40 ?_)⟩
      have hR := (isr_iff ht (cg_ok hco (pkc cs al mk tv)) (u := (isr tv (cg cs (pkc cs al mk tv))).2)).mp ⟨q4, rfl⟩
      have e1 : mask (cg cs (pkc cs al mk tv)) &&& (opp (x_i w 28 2) ^^^ (-1)) = if (isr tv (cg cs (pkc cs al mk tv))).2 = 0 then 0 else sb (li (isr tv (cg cs (pkc cs al mk tv))).2) := opn_rdy pT (cg_ok hco _) hR
      rw [e1]
      by_cases hu : (isr tv (cg cs (pkc cs al mk tv))).2 = 0
      · have ef : prg cs al mk (d + 1) tv tak = (tv, tak, pkc cs al mk tv) := by unfold prg; rw [if_neg hp0, if_pos hu]
        rw [ef] at hq
        rw [if_pos hu]
        refine ⟨fun z => absurd rfl z, fun _ => ?_⟩
        have hall : ∀ x ∈ cg cs (pkc cs al mk tv), vl tv x < 0 := by
          intro x hx
          rcases hR.1 x hx with h1 | h1
          · exact h1
          · exact absurd (h1.trans hu) ((cg_ok hco _).2.1 x hx).1
        have F1 : xI (fun p k => p = 28 ∧ k = 8) w (x_si w 28 8 (nI (pkc cs al mk tv))) := xI_si xI_rf ⟨rfl, rfl⟩
        have hs1 := sh_I F1 h
        have hG1 : PG P (x_si w 28 8 (nI (pkc cs al mk tv))) cs al tv tak := PG_I F1 hG (by omega) (by omega) (by omega) (by omega) (by omega)
        rw [r0, kP, pr8 h hP, (pk3 h hP).1, (pk3 h hP).2, nI_clamp (show pkc cs al mk tv < 2 ^ 31 by omega), PG_set hG1 q1 q2]
        refine ⟨k28, k28, by omega, rfl, by omega, ⟨rfl, vp_in_nI (by omega) (by omega)⟩, c33 (b96_69 ⟨by rw [sh_k hs1]; rfl, c98 hs1 hG1 hco ht hI (WM_c hco hall) (fun r hr => b96_72 ⟨by rw [sh_k hs1]; rfl, Or.inr rfl, ?_⟩)⟩)⟩
        have F2 : xI (fun p k => p = 28 ∧ (k = 8 ∨ k = 9)) w (x_si (x_si w 28 8 (nI (pkc cs al mk tv))) 28 9 r) := xI_si (xI_w F1 (by omega)) ⟨rfl, Or.inr rfl⟩
        have := hq _ (xI_w F2 (by unfold mGo; omega)) (PG_I F2 hG (by omega) (by omega) (by omega) (by omega) (by omega)) ht hI (fun _ => ⟨by rw [y_i_si, if_neg (by omega), y_i_si, if_pos ⟨rfl, rfl⟩], q1, q2, hall, fun i hi => by rw [y_i_si, if_pos ⟨rfl, rfl⟩]; exact hr i hi⟩)
        rw [decide_eq_true hp0] at this
        exact this
      · have ef : prg cs al mk (d + 1) tv tak = prg cs al mk d (setT tv (isr tv (cg cs (pkc cs al mk tv))).2) (tak ++ [(pkc cs al mk tv, (isr tv (cg cs (pkc cs al mk tv))).2)]) := by
          conv => lhs; unfold prg
          rw [if_neg hp0, if_neg hu]
        rw [ef] at hq
        obtain ⟨s1, s2, s3⟩ := TI_s hco ht hI hp0 hu
        generalize hue : (isr tv (cg cs (pkc cs al mk tv))).2 = u at *
        generalize hce : pkc cs al mk tv = c at *
        rw [if_neg hu]
        have nz : ¬ sb (li u) = 0 := by
          intro z
          have := (mm_z.mp z) (li u) (li_lt s1)
          rw [mm_sb _ (li_lt s1) _ (li_lt s1), decide_eq_true rfl] at this
          cases this
        refine ⟨fun _ => ?_, fun z => absurd nz z⟩
        rw [sr28_4 h, sr28_5 h, p6, nI_clamp (show tak.length < 2 ^ 31 by omega)]
        have e6 : x_i (x_si w 29 tak.length (nI c)) 28 6 = nI tak.length := by rw [y_i_si, if_neg (by omega), p6]
        rw [e6, nI_clamp (show tak.length < 2 ^ 31 by omega)]
        have e6' : x_i (x_si (x_si w 29 tak.length (nI c)) 30 tak.length (sb (li u))) 28 6 = nI tak.length := by rw [y_i_si, if_neg (by omega), e6]
        rw [e6', nI_1, sh_k h, sh_l h]
        have v17 : vp_in (nI tak.length) 17 := vp_in_nI (by omega) (by omega)
        refine ⟨rfl, by decide, rfl, ⟨rfl, v17⟩, rfl, by decide, rfl, ⟨rfl, v17⟩, rfl, rfl, b96_108 ?_⟩
        have e2 : x_i (x_si (x_si (x_si w 29 tak.length (nI c)) 30 tak.length (sb (li u))) 28 6 (nI (tak.length + 1))) 28 2 = x_i w 28 2 := by rw [y_i_si, if_neg (by omega), y_i_si, if_neg (by omega), y_i_si, if_neg (by omega)]
        rw [e2]
        have F : xI mGo w (x_si (x_si (x_si (x_si w 29 tak.length (nI c)) 30 tak.length (sb (li u))) 28 6 (nI (tak.length + 1))) 28 2 (x_i w 28 2 ||| sb (li u))) := xI_si (xI_si (xI_si (xI_si xI_rf (Or.inr (Or.inl rfl))) (Or.inr (Or.inr rfl))) (Or.inl ⟨rfl, by omega⟩)) (Or.inl ⟨rfl, by omega⟩)
        refine ⟨k28, k28, ih (setT tv u) (tak ++ [(c, u)]) _ _ _ _ (sh_I F h) ?_ (tok_set ht u) s3 (by simp; omega) (fun w' u1 u2 u3 u4 u5 => hq w' (xI_tr F u1) u2 u3 u4 u5)⟩
        have hl1 : (tak ++ [(c, u)]).length = tak.length + 1 := by simp
        refine ⟨hP, r0, ?_, hl, fun c' hc' => ?_, pA, ?_, ?_, fun k hk => ?_⟩
        · rw [xI_i F P 4 (by unfold mGo; omega)]; exact p4
        · rw [xI_i F (P + 3) _ (by unfold mGo; omega)]; exact pS c' hc'
        · rw [y_i_si, if_pos ⟨rfl, rfl⟩]
          exact TM_set pT s1 (by omega)
        · rw [y_i_si, if_neg (by omega), y_i_si, if_pos ⟨rfl, rfl⟩, hl1]
        · rw [hl1] at hk
          rw [tg_app]
          by_cases e : k < tak.length
          · rw [if_pos e]
            refine ⟨?_, ?_⟩
            · rw [y_i_si, if_neg (by omega), y_i_si, if_neg (by omega), y_i_si, if_neg (by omega), y_i_si, if_neg (by omega)]; exact (pK' k e).1
            · rw [y_i_si, if_neg (by omega), y_i_si, if_neg (by omega), y_i_si, if_neg (by omega), y_i_si, if_neg (by omega)]; exact (pK' k e).2
          · have e2 : k = tak.length := by omega
            rw [if_neg e, if_pos e2]
            refine ⟨?_, ?_⟩
            · rw [y_i_si, if_neg (by omega), y_i_si, if_neg (by omega), y_i_si, if_neg (by omega), y_i_si, if_pos ⟨rfl, e2⟩]
            · rw [y_i_si, if_neg (by omega), y_i_si, if_neg (by omega), y_i_si, if_pos ⟨rfl, e2⟩]
/-- start -/
theorem c95 (hco : cok cs) (h : SH w) (ht : tok tv) (hP : P = 5 ∨ P = 11) (h4 : x_i w P 4 = nI cs.length) (hl : cs.length ≤ 63) (hS : ∀ c, c < cs.length → x_i w (P + 3) (c + 1) = mask (cs.getD c [])) {la ma : Int64} (hla : ∀ j, j < 64 → hc la j = al j) (hma : ∀ j, j < 64 → hc ma j = mk j) (hT : TM tv m)
    (hq : ∀ w', xF (fun p k => (p = 28 ∧ (k = 2 ∨ k = 3 ∨ k = 6 ∨ k = 7 ∨ k = 8 ∨ k = 9)) ∨ p = 29 ∨ p = 30) (fun p k => p = 28 ∧ k = 1) (fun p k => p = 28 ∧ k = 0) w w' → SH w' → PG P w' cs al (prg cs al mk 17 tv []).1 (prg cs al mk 17 tv []).2.1 → tok (prg cs al mk 17 tv []).1 → TI cs (prg cs al mk 17 tv []).1 (prg cs al mk 17 tv []).2.1 → x_i w' 28 3 = x_i w' 28 2 → x_i w' 28 7 = nI (prg cs al mk 17 tv []).2.1.length → (¬ (prg cs al mk 17 tv []).2.2 = 0 → x_i w' 28 8 = nI (prg cs al mk 17 tv []).2.2 ∧ 1 ≤ (prg cs al mk 17 tv []).2.2 ∧ (prg cs al mk 17 tv []).2.2 ≤ cs.length ∧ (∀ x ∈ cg cs (prg cs al mk 17 tv []).2.2, vl (prg cs al mk 17 tv []).1 x < 0) ∧ ∀ i, i < 32 → mm (x_i w' 28 9) i = nds cs (prg cs al mk 17 tv []).2.1 (prg cs al mk 17 tv []).2.1.length (nvc cs (prg cs al mk 17 tv []).2.2) i) → Q (.inl (some (.int (b32 (decide (¬ (prg cs al mk 17 tv []).2.2 = 0)))))) w') :
    x_R x_prog scr 95 0 [some (.ref 28), some (.ref P), some (.long la), o3, some (.long ma), o5, some (.int m), o7] [] w Q := by
  have k28 : x_k w 28 = 9 := by rw [sh_k h]; rfl
  refine b95_0 ⟨⟨k28, by omega, by rw [sh_n h]; omega⟩, k28, k28, b95_16 ?_⟩
  generalize hw1 : x_si (x_sj (x_sr w 28 0 P) 28 1 la) 28 2 m = w1
  have F1 : xF (fun p k => p = 28 ∧ k = 2) (fun p k => p = 28 ∧ k = 1) (fun p k => p = 28 ∧ k = 0) w w1 := by rw [← hw1]; exact xF_si (xF_sj (xF_sr xF_rf ⟨rfl, rfl⟩) ⟨rfl, rfl⟩) ⟨rfl, rfl⟩
  have r1 : x_r w1 28 0 = P := by rw [← hw1, y_r_si, y_r_sj, y_r_sr, if_pos ⟨rfl, rfl⟩]
  have j1 : x_j w1 28 1 = la := by rw [← hw1, y_j_si, y_j_sj, if_pos ⟨rfl, rfl⟩]
  have i2 : x_i w1 28 2 = m := by rw [← hw1, y_i_si, if_pos ⟨rfl, rfl⟩]
  clear hw1
  have h1 : SH w1 := sh_A (xF_w F1 (fun _ _ z => z) (fun _ _ z => z) (by unfold mrA; omega)) h
  have k1 : x_k w1 28 = 9 := by rw [sh_k h1]; rfl
  have F2 : xI (fun p k => p = 28 ∧ k = 6) w1 (x_si w1 28 6 0) := xI_si xI_rf ⟨rfl, rfl⟩
  have hG : PG P (x_si w1 28 6 0) cs al tv [] := by
    refine ⟨hP, r1, ?_, hl, fun c hc => ?_, by rw [xI_j F2, j1]; exact hla, by rw [xI_i F2 28 2 (by omega), i2]; exact hT, by rw [y_i_si, if_pos ⟨rfl, rfl⟩]; rfl, fun k hk => absurd hk (by simp)⟩
    · rw [xI_i F2 P 4 (by omega), F1.2.1 P 4 (by omega)]; exact h4
    · rw [xI_i F2 (P + 3) _ (by omega), F1.2.1 (P + 3) _ (by omega)]; exact hS c hc
  refine ⟨k1, k1, c96_l hco hma 17 tv [] _ _ _ _ (sh_I F2 h1) hG ht TI_nil rfl (fun w3 u1 u2 u3 u4 u5 => b95_27 ?_)⟩
  have h3 := sh_I u1 (sh_I F2 h1)
  have k3 : x_k w3 28 = 9 := by rw [sh_k h3]; rfl
  have e6 : ∀ v, x_i (x_si w3 28 3 v) 28 6 = x_i w3 28 6 := fun v => by rw [y_i_si, if_neg (by omega)]
  rw [e6]
  have F4 : xI (fun p k => p = 28 ∧ (k = 3 ∨ k = 7)) w3 (x_si (x_si w3 28 3 (x_i w3 28 2)) 28 7 (x_i w3 28 6)) := xI_si (xI_si xI_rf ⟨rfl, Or.inl rfl⟩) ⟨rfl, Or.inr rfl⟩
  refine ⟨k3, k3, k3, k3, by cases decide (¬ (prg cs al mk 17 tv []).2.2 = 0); exact Or.inl rfl; exact Or.inr rfl, hq _ ?_ (sh_I F4 h3) (PG_I F4 u2 (by omega) (by omega) (by omega) (by omega) (by omega)) u3 u4 ?_ ?_ (fun z => ?_)⟩
  · exact xF_tr (xF_w F1 (by omega) (fun _ _ z => z) (fun _ _ z => z)) (xF_tr (xF_w F2 (by omega) (by unfold x_no; intro _ _ z; exact z.elim) (by unfold x_no; intro _ _ z; exact z.elim)) (xF_tr (xF_w u1 (by unfold mGo; omega) (by unfold x_no; intro _ _ z; exact z.elim) (by unfold x_no; intro _ _ z; exact z.elim)) (xF_w F4 (by omega) (by unfold x_no; intro _ _ z; exact z.elim) (by unfold x_no; intro _ _ z; exact z.elim))))
  · rw [xI_i F4 28 2 (by omega), y_i_si, if_neg (by omega), y_i_si, if_pos ⟨rfl, rfl⟩]
  · rw [y_i_si, if_pos ⟨rfl, rfl⟩]; exact u2.2.2.2.2.2.2.2.1
  · obtain ⟨v1, v2, v3, v4, v5⟩ := u5 z
    exact ⟨(xI_i F4 28 8 (by omega)).trans v1, v2, v3, v4, by rw [xI_i F4 28 9 (by omega)]; exact v5⟩
end X55
