/-! readStream of the class. -/
theorem opS_rg {pk : Bool} {t : Nat → Nat} {sz a : Nat} (h2 : ∀ k, t k < 256) : -9999 ≤ (opS pk t sz a).2.2 ∧ (opS pk t sz a).2.2 ≤ 20001 := by
  unfold opS
  split
  · exact nxt_rg h2
  · split
    · exact nxt_rg h2
    · exact nxt_rg h2
theorem opK_lt {pk : Bool} {t : Nat → Nat} {sz a : Nat} : opK pk t sz a ≤ 3 := by
  unfold opK
  split
  · split
    · omega
    · split
      · omega
      · split <;> omega
  · split
    · omega
    · split <;> omega
section X43
variable {scr : Nat × (Nat → Int32)} {w : xW} {Q : xO → xW → Prop} {t : Nat → Nat} {sz a D P o V g n kd : Nat} {pk hf hs : Bool} {ls : List Int} {cs : List (List Int)} {st : xSt} {mk sp : Nat → Bool} {o1 o2 o3 o4 : Option Value}
theorem PS_F {mi mj mr : Nat → Nat → Prop} {w1 : xW} (q : xF mi mj mr w w1) (hS : PS D w hf hs V g cs st mk sp) (hco : cok cs) (h0 : ∀ k, k < 6 → ¬ mi D k) (h1 : ∀ c, c < cs.length → ¬ mi (D + 2) (c + 1) ∧ ¬ mi (D + 3) (c + 1) ∧ ∀ k, k < 6 → ¬ mi (D + 1) (6 * (c + 1) + k)) (h2 : ∀ s, s < st.length → ¬ mi (D + 4) (s + 1)) (h3 : ∀ s, ¬ mj (D + 5) s) (h4 : ¬ mj D 11) (h5 : ¬ mj D 12) : PS D w1 hf hs V g cs st mk sp := by
  obtain ⟨⟨s0, s1, s2, s3, s4, s5⟩, sR, sA, sL, sM, sP⟩ := hS
  refine ⟨⟨(q.2.1 _ _ (h0 0 (by omega))).trans s0, (q.2.1 _ _ (h0 1 (by omega))).trans s1, (q.2.1 _ _ (h0 2 (by omega))).trans s2, (q.2.1 _ _ (h0 3 (by omega))).trans s3, (q.2.1 _ _ (h0 4 (by omega))).trans s4, (q.2.1 _ _ (h0 5 (by omega))).trans s5⟩, fun c hc => ?_, fun s hs => (q.2.1 _ _ (h2 s hs)).trans (sA s hs), fun s hs j hj => by rw [q.2.2.1 _ _ (h3 s)]; exact sL s hs j hj, fun j hj => by rw [q.2.2.1 _ _ h4]; exact sM j hj, fun j hj => by rw [q.2.2.1 _ _ h5]; exact sP j hj⟩
  have hl := (cok_getD hco c).1
  exact PC_F q (sR c hc) (h1 c hc).1 (h1 c hc).2.1 (fun k hk => (h1 c hc).2.2 k (by omega))
def mDo (D o : Nat) : Nat → Nat → Prop := fun p k => (D ≤ p ∧ p ≤ D + 4) ∨ (p = o ∧ (k = 1 ∨ k = 2 ∨ k = 3))
theorem TT_o {mj : Nat → Nat → Prop} {w1 : xW} (hp : D = 5 ∨ D = 11) (ho : oK o pk) (q : xF (mDo D o) mj x_no w w1) (ht : TT w t sz) : TT w1 t sz := by
  have := oK_o ho
  exact TT_F q ht (by unfold mDo; omega) (by unfold mDo; omega) (by unfold mDo; omega) (by unfold mDo; omega)
theorem cok_ap1 {q : List (List Int) × xSt} {r : Bool × List Int} (h : cok q.1) (hr : cl1 r.2) : cok (ap1 g q r).1 := by
  unfold ap1
  split
  · exact cok_app h hr
  · exact h
theorem c59_l (hD : D = 5 ∨ D = 11) (ho : oK o pk) (hV : V ≤ 16) {cf : List (List Int)} (hcf : cf.length ≤ 63) : ∀ (d a : Nat) (rs : List (Bool × List Int)) (w : xW) (o1 o4 : Option Value), SH w → TT w t sz → rs.length + d = 81 → rs.length ≤ 80 → a ≤ sz → x_i w o 1 = nI a → PS D w true false V cf.length (prc cf rs).1 (prc cf rs).2 nob nob → cok (prc cf rs).1 → st0 (prc cf rs).2 → (prc cf rs).1.length ≤ 63 →
    (∀ w', xF (mDo D o) (mDj D) x_no w w' → ((rds pk t sz V cf.length d a rs).1 = 0 → PS D w' true true V cf.length (prc cf (rds pk t sz V cf.length d a rs).2).1 (prc cf (rds pk t sz V cf.length d a rs).2).2 nob nob ∧ cok (prc cf (rds pk t sz V cf.length d a rs).2).1 ∧ st0 (prc cf (rds pk t sz V cf.length d a rs).2).2 ∧ (prc cf (rds pk t sz V cf.length d a rs).2).1.length ≤ 63 ∧ (rds pk t sz V cf.length d a rs).2.length ≤ 80) → Q (.inl (some (.int (nI (rds pk t sz V cf.length d a rs).1)))) w') →
    x_R x_prog scr 59 11 [some (.ref D), o1, some (.ref o), some (.int (nI (rs.length + 1))), o4] [] w Q := by
  have hoo := oK_o ho
  intro d
  induction d with
  | zero => intro a rs w o1 o4 h ht hd h80; omega
  | succ d ih =>
    intro a rs w o1 o4 h ht hd h80 ha h1 hS hco hst0 h63 hq
    have t1 := ht.1
    have l2 := prc_l2 cf rs
    have l1 := prc_l1 cf rs
    have hK3 := opK_lt (pk := pk) (t := t) (sz := sz) (a := a)
    refine b59_11 ⟨fun z => absurd z (nI_nlt (a := 81) (b := rs.length + 1) (by omega) (by omega)), fun _ => ?_⟩
    refine cOpen (oK_k ho h) h ht ha h1 (fun w1 q1 q2 => b59_21 ?_)
    have hs1 := sh_I q1 h
    have F1 : xF (mDo D o) (mDj D) x_no w w1 := xF_w q1 (by unfold mA mDo; omega) (by unfold x_no; intro _ _ z; exact z.elim) (fun _ _ z => z)
    have S1 : PS D w1 true false V cf.length (prc cf rs).1 (prc cf rs).2 nob nob := PS_F q1 hS hco (by unfold mA; omega) (by unfold mA; exact fun c hc => ⟨by omega, by omega, fun k hk => by omega⟩) (by unfold mA; omega) (by unfold x_no; intro _ z; exact z) (by unfold x_no; exact fun z => z) (by unfold x_no; exact fun z => z)
    have e0 : (x_en + opK pk t sz a = x_en + 0) ↔ opK pk t sz a = 0 := by omega
    refine ⟨⟨by omega, by omega, by omega, by omega⟩, ?_⟩
    rw [e0]
    refine ⟨fun z => ?_, fun z => ⟨⟨pK hs1 hD, Or.inr rfl⟩, ?_⟩⟩
    · have hop := opP_in ha z
      have hos := opS_in ha z
      have fail : (rs.length = 80 ∨ opK pk t sz a = 3 ∨ (opK pk t sz a = 2 ∧ cf.length + nAd rs = 63)) → Q (.inl (some (.int (nI (opP pk t sz a))))) w1 := by
        intro hf
        have ef : rds pk t sz V cf.length (d + 1) a rs = (opP pk t sz a, rs) := by unfold rds; rw [if_neg z, if_pos hf]
        rw [ef] at hq
        exact hq w1 F1 (fun y => absurd (show opP pk t sz a = 0 from y) (by omega))
      have g80 : (80 : Int32) < nI (rs.length + 1) ↔ 80 < rs.length + 1 := nI_ltI (a := 80) (by omega) (by omega)
      rw [q2.1, g80]
      refine ⟨fun y => ⟨oK_56 ho hs1, fail (Or.inl (by omega))⟩, fun y => ⟨pK hs1 hD, c63 (n := (prc cf rs).1.length) hD hs1 (by omega) h63 S1.1.2.2.2.2.1 (b59_46 ?_)⟩⟩
      by_cases hm : opK pk t sz a = 1 ∨ (opK pk t sz a = 2 ∧ ¬ (prc cf rs).1.length = 63)
      · rw [decide_eq_true hm]
        have hf : ¬ (rs.length = 80 ∨ opK pk t sz a = 3 ∨ (opK pk t sz a = 2 ∧ cf.length + nAd rs = 63)) := by omega
        refine ⟨fun _ => cEnter (oK_k ho hs1) hs1 (TT_o hD ho F1 ht) ha q2 (by omega) (fun w2 r1 r2 => b59_60 ?_), fun x => absurd (by decide) x⟩
        have hs2 := sh_I r1 hs1
        have F2 : xF (mDo D o) (mDj D) x_no w w2 := xF_tr F1 (xF_w r1 (by unfold mA mDo; omega) (by unfold x_no; intro _ _ z; exact z.elim) (fun _ _ z => z))
        have S2 : PS D w2 true false V cf.length (prc cf rs).1 (prc cf rs).2 nob nob := PS_F r1 S1 hco (by unfold mA; omega) (by unfold mA; exact fun c hc => ⟨by omega, by omega, fun k hk => by omega⟩) (by unfold mA; omega) (by unfold x_no; intro _ z; exact z) (by unfold x_no; exact fun z => z) (by unfold x_no; exact fun z => z)
        refine ⟨pK hs2 hD, c31 hD ho hV hs2 (TT_o hD ho F2 ht) r2 hos.1 (opS_rg ht.2.1) S2.1.2.2.1 (fun w3 p1 p2 p3 p4 p5 p6 => b59_65 ?_)⟩
        have hs3 := sh_I p1 hs2
        have F3 : xF (mDo D o) (mDj D) x_no w w3 := xF_tr F2 (xF_w p1 (by unfold mCl mDo; omega) (by unfold x_no; intro _ _ z; exact z.elim) (fun _ _ z => z))
        have S3 : PS D w3 true false V cf.length (prc cf rs).1 (prc cf rs).2 nob nob := PS_F p1 S2 hco (by unfold mCl; omega) (by unfold mCl; exact fun c hc => ⟨by omega, by omega, fun k hk => by omega⟩) (by unfold mCl; omega) (by unfold x_no; intro _ z; exact z) (by unfold x_no; exact fun z => z) (by unfold x_no; exact fun z => z)
        have hri := rc_in (t := t) (pk := pk) (V := V) 6 [] (opS pk t sz a) hos.1 hos.2.1 hos.2.2
        cases hb : (rc (nxt pk t sz) V 6 [] (opS pk t sz a)).1 with
        | false =>
          refine ⟨fun x => absurd rfl x, fun _ => ⟨oK_56 ho hs3, ?_⟩⟩
          have ef : rds pk t sz V cf.length (d + 1) a rs = ((rc (nxt pk t sz) V 6 [] (opS pk t sz a)).2.2.2.1, rs) := by unfold rds; rw [if_neg z, if_neg hf, hb]; rfl
          rw [ef] at hq
          rw [p3.2.1]
          exact hq w3 F3 (fun y => absurd (show (rc (nxt pk t sz) V 6 [] (opS pk t sz a)).2.2.2.1 = 0 from y) (by omega))
        | true =>
          refine ⟨fun _ => ⟨pK hs3 hD, ?_⟩, fun x => absurd (by decide) x⟩
          have ef : rds pk t sz V cf.length (d + 1) a rs = rds pk t sz V cf.length d (rc (nxt pk t sz) V 6 [] (opS pk t sz a)).2.2.1 (rs ++ [(decide (opK pk t sz a = 2), (rc (nxt pk t sz) V 6 [] (opS pk t sz a)).2.1)]) := by
            conv => lhs; unfold rds
            rw [if_neg z, if_neg hf, if_pos hb]
          rw [ef] at hq
          have hcl : cl1 (rc (nxt pk t sz) V 6 [] (opS pk t sz a)).2.1 := rc_ok hV 6 [] _ rfl cl1_nil
          have el : nI (rs.length + 1) = nI ((prc cf rs).2.length + 1) := by rw [l2]
          rw [el]
          refine c66 hD hs3 (by omega) S3 p2 hcl hco (by omega) hst0 h63 (by omega) (fun w4 u1 u2 => b59_80 ?_)
          have F4 : xF (mDo D o) (mDj D) x_no w w4 := xF_tr F3 (xF_w u1 (by unfold mDo; omega) (by unfold mDj; omega) (fun _ _ z => z))
          have ep := prc_app cf rs (decide (opK pk t sz a = 2), (rc (nxt pk t sz) V 6 [] (opS pk t sz a)).2.1)
          have hl1 : (rs ++ [(decide (opK pk t sz a = 2), (rc (nxt pk t sz) V 6 [] (opS pk t sz a)).2.1)]).length = rs.length + 1 := by simp
          have u2' : PS D w4 true false V cf.length (prc cf (rs ++ [(decide (opK pk t sz a = 2), (rc (nxt pk t sz) V 6 [] (opS pk t sz a)).2.1)])).1 (prc cf (rs ++ [(decide (opK pk t sz a = 2), (rc (nxt pk t sz) V 6 [] (opS pk t sz a)).2.1)])).2 nob nob := by rw [ep]; exact u2
          have := ih (rc (nxt pk t sz) V 6 [] (opS pk t sz a)).2.2.1 (rs ++ [(decide (opK pk t sz a = 2), (rc (nxt pk t sz) V 6 [] (opS pk t sz a)).2.1)]) w4 none none (sh_F F4 h) (TT_o hD ho F4 ht) (by omega) (by omega) hri.1 ((u1.2.1 o 1 (by omega)).trans p3.1) u2' (by rw [ep]; exact cok_ap1 hco hcl) (by rw [ep]; exact st0_ap1 hst0) ?_ (fun w' v1 v2 => hq w' (xF_tr F4 v1) v2)
          · rw [hl1] at this
            rw [nI_1, l2]
            exact this
          · rw [ep]
            unfold ap1
            by_cases h2 : opK pk t sz a = 2
            · rw [decide_eq_true h2]
              simp only [if_true, List.length_append, List.length_singleton]
              omega
            · rw [decide_eq_false h2]
              simp only [Bool.false_eq_true, if_false]
              exact h63
      · rw [decide_eq_false hm]
        refine ⟨fun x => absurd rfl x, fun _ => ⟨oK_56 ho hs1, ?_⟩⟩
        rw [q2.1]
        exact fail (by omega)
    · have z0 := Classical.not_not.mp z
      have ef : rds pk t sz V cf.length (d + 1) a rs = (0, rs) := by unfold rds; rw [if_pos z0]
      rw [ef] at hq
      have F2 : xF (mDo D o) (mDj D) x_no w (x_si w1 D 1 1) := xF_si F1 (Or.inl (by omega))
      refine hq _ F2 (fun _ => ⟨?_, hco, hst0, h63, h80⟩)
      obtain ⟨⟨s0, s1, s2, s3, s4, s5⟩, sR, sA, sL, sM, sP⟩ := S1
      have G : xF (fun p k => p = D ∧ k = 1) x_no x_no w1 (x_si w1 D 1 1) := xF_si xF_rf ⟨rfl, rfl⟩
      refine ⟨⟨(G.2.1 D 0 (by omega)).trans s0, ?_, (G.2.1 D 2 (by omega)).trans s2, (G.2.1 D 3 (by omega)).trans s3, (G.2.1 D 4 (by omega)).trans s4, (G.2.1 D 5 (by omega)).trans s5⟩, fun c hc => PC_F G (sR c hc) (by omega) (by omega) (by omega), fun s hs => (G.2.1 (D + 4) _ (by omega)).trans (sA s hs), sL, sM, sP⟩
      rw [y_i_si, if_pos ⟨rfl, rfl⟩]
      rfl
/-- readStream -/
theorem c59 (hD : D = 5 ∨ D = 11) (hP : P = 5 ∨ P = 11) (hne : ¬ D = P) (ho : oK o pk) (hV : V ≤ 16) (h : SH w) (ht : TT w t sz) (hS : PS P w true hs V g cs st mk sp) (hco : cok cs) (hg : g ≤ cs.length) (hg2 : g ≤ 63)
    (hq : ∀ w', xF (mDo D o) (mDj D) x_no w w' → ((rds pk t sz V g 81 0 []).1 = 0 → PS D w' true true V g (prc (cs.take g) (rds pk t sz V g 81 0 []).2).1 (prc (cs.take g) (rds pk t sz V g 81 0 []).2).2 nob nob ∧ cok (prc (cs.take g) (rds pk t sz V g 81 0 []).2).1 ∧ st0 (prc (cs.take g) (rds pk t sz V g 81 0 []).2).2 ∧ (prc (cs.take g) (rds pk t sz V g 81 0 []).2).1.length ≤ 63 ∧ (rds pk t sz V g 81 0 []).2.length ≤ 80) → Q (.inl (some (.int (nI (rds pk t sz V g 81 0 []).1)))) w') :
    x_R x_prog scr 59 0 [some (.ref D), some (.ref P), some (.ref o), o3, o4] [] w Q := by
  have hoo := oK_o ho
  have hl : (cs.take g).length = g := by rw [List.length_take]; omega
  have hcot : cok (cs.take g) := fun x hx => hco x (List.mem_of_mem_take hx)
  refine b59_0 ⟨pK h hD, c60 hD hP hne h hS hg hg2 hco (fun w1 q1 q2 => b59_5 ?_)⟩
  have hs1 := sh_F q1 h
  have F1 : xF (mDo D o) (mDj D) x_no w w1 := xF_w q1 (by unfold mDo; omega) (fun _ _ z => z) (fun _ _ z => z)
  have r22 : x_R x_prog scr 22 0 [some (.ref o)] [] w1 (x_back x_prog 59 6 9 [some (.ref D), none, some (.ref o), none, none] [] (fun pc L st w => x_R x_prog scr 59 pc L st w Q)) := by
    refine c22 hoo hs1 (fun w2 r1 r2 => b59_9 ?_)
    have F2 : xF (mDo D o) (mDj D) x_no w w2 := xF_tr F1 (xF_w r1 (by unfold mA mDo; omega) (by unfold x_no; intro _ _ z; exact z.elim) (fun _ _ z => z))
    have hs2 := sh_I r1 hs1
    have S2 : PS D w2 true false V g (cs.take g) [] nob nob := PS_F r1 q2 hcot (by unfold mA; omega) (by unfold mA; exact fun c hc => ⟨by omega, by omega, fun k hk => by omega⟩) (by unfold mA; omega) (by unfold x_no; intro _ z; exact z) (by unfold x_no; exact fun z => z) (by unfold x_no; exact fun z => z)
    have := c59_l (scr := scr) (Q := Q) (t := t) (sz := sz) (cf := cs.take g) hD ho hV (by omega) 81 0 [] w2 none none hs2 (TT_o hD ho F2 ht) rfl (by simp) (Nat.zero_le _) r2 (by rw [hl]; exact S2) hcot st0_nil (by show (cs.take g).length ≤ 63; omega)
    rw [hl] at this
    exact this (fun w' u1 u2 => hq w' (xF_tr F2 u1) u2)
  refine ⟨fun _ => r22, fun z => ?_⟩
  rcases oK_k ho hs1 with hk | hk
  · exact absurd hk.1 z
  · exact ⟨hk.1, r22⟩
end X43
