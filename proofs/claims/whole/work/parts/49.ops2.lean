/-! stream of both sides. -/
theorem rds_le {pk : Bool} {t : Nat → Nat} {sz V g : Nat} : ∀ (d a : Nat) (rs : List (Bool × List Int)), a ≤ sz → (rds pk t sz V g d a rs).1 ≤ sz + 1
  | 0, a, rs, h => by show 0 ≤ sz + 1; omega
  | d + 1, a, rs, h => by
    unfold rds
    split
    · show 0 ≤ sz + 1; omega
    · rename_i hk
      have hos := opS_in h hk
      have hri := rc_in (t := t) (pk := pk) (V := V) 6 [] (opS pk t sz a) hos.1 hos.2.1 hos.2.2
      split
      · exact (opP_in h hk).2
      · split
        · exact rds_le d _ _ hri.1
        · exact hri.2.2
theorem prc_take (cf : List (List Int)) : ∀ (rs : List (Bool × List Int)) (q : List (List Int) × xSt), q.1.take cf.length = cf → (rs.foldl (ap1 cf.length) q).1.take cf.length = cf
  | [], q, h => h
  | r :: rs, q, h => by
    rw [List.foldl_cons]
    refine prc_take cf rs _ ?_
    unfold ap1
    split
    · have hl : cf.length ≤ q.1.length := by
        have := congrArg List.length h
        rw [List.length_take] at this
        omega
      show (q.1 ++ [r.2]).take cf.length = cf
      rw [List.take_append_of_le_length hl]
      exact h
    · exact h
theorem prc_tk (cf : List (List Int)) (rs : List (Bool × List Int)) : (prc cf rs).1.take cf.length = cf := prc_take cf rs (cf, []) (List.take_length)
section X49
variable {scr : Nat × (Nat → Int32)} {w : xW} {Q : xO → xW → Prop} {w1 : xW} {t : Nat → Nat} {sz a P D T S V g n fa dc : Nat} {pk hf hs : Bool} {ls : List Int} {cs : List (List Int)} {st : xSt} {mk sp : Nat → Bool} {tk : List Int} {o1 o2 o3 o4 : Option Value}
/-- stream of the class -/
theorem c58 (h : SH w) (ht : TT w t sz) (hA : AK fa hf hs V g cs st mk sp tk) (hC : CC w fa hf hs V g cs st mk sp tk)
    (hq2 : hf = false → ∀ w', xLo 1 w w' → SH w' → TT w' t sz → CC w' fa hf hs V g cs st mk sp tk → Q (.inr 2) w')
    (hq1 : hf = true → (rds pk t sz V g 81 0 []).1 = 0 → ∀ w', xLo 0 w w' → SH w' → TT w' t sz → AK 0 true true V g (prc (cs.take g) (rds pk t sz V g 81 0 []).2).1 (prc (cs.take g) (rds pk t sz V g 81 0 []).2).2 nob nob tk → CC w' 0 true true V g (prc (cs.take g) (rds pk t sz V g 81 0 []).2).1 (prc (cs.take g) (rds pk t sz V g 81 0 []).2).2 nob nob tk → Q (.inl (some (.int (nI (rds pk t sz V g 81 0 []).2.length)))) w')
    (hq0 : hf = true → ¬ (rds pk t sz V g 81 0 []).1 = 0 → ∀ w', xLo 1 w w' → SH w' → TT w' t sz → CC w' (rds pk t sz V g 81 0 []).1 hf hs V g cs st mk sp tk → Q (.inr 1) w') : x_R x_prog scr 58 0 [some (.ref 0), some (.int (b32 pk)), o2] [] w Q := by
  obtain ⟨hfa, hV, hg40, hgl, hl63, hst80, hco, hst0, -, hsf, hmk, htl, htv⟩ := hA
  obtain ⟨P, D, T, S, hP, hT, ⟨r5, r6, r7, r8⟩, h9, hS, hK⟩ := id hC
  have hD : D = 5 ∨ D = 11 := by omega
  have hPP : P = 5 ∨ P = 11 := by omega
  have k0 : x_k w 0 = 3 := by rw [sh_k h]; rfl
  have t1 := ht.1
  have hle := rds_le (pk := pk) (t := t) (V := V) (g := g) 81 0 [] (Nat.zero_le sz)
  cases hf with
  | false =>
    refine b58_0 ?_
    rw [r5, pK h hPP, hS.1.1]
    exact ⟨k0, by omega, rfl, fun z => absurd rfl z, fun _ => hq2 rfl _ xLo_lost h ht hC⟩
  | true =>
    have rest : ∀ o : Nat, oK o pk → ∀ o2 : Option Value, x_R x_prog scr 59 0 [some (.ref D), some (.ref P), some (.ref o), none, none] [] w (x_back x_prog 58 42 45 [some (.ref 0), some (.int (b32 pk)), o2] [.ref 0] (fun pc L st w => x_R x_prog scr 58 pc L st w Q)) := by
      intro o ho o2
      have hoo := oK_o ho
      refine c59 hD hPP (by omega) ho hV h ht hS hco hgl (by omega) (fun w1 q1 q2 => b58_45 ?_)
      have h1 := sh_F q1 h
      have k1 : x_k w1 0 = 3 := by rw [sh_k h1]; rfl
      generalize hF : (rds pk t sz V g 81 0 []).1 = F at *
      have e9 : x_i (x_si w1 0 9 (nI F)) 0 9 = nI F := by rw [y_i_si, if_pos ⟨rfl, rfl⟩]
      have F2 : xF (fun p k => mDo D o p k ∨ (p = 0 ∧ k = 9)) (mDj D) x_no w (x_si w1 0 9 (nI F)) := xF_si (xF_w q1 (fun _ _ z => Or.inl z) (fun _ _ z => z) (fun _ _ z => z)) (Or.inr ⟨rfl, rfl⟩)
      have h2 := sh_F F2 h
      have eR : ∀ k, x_r (x_si w1 0 9 (nI F)) 0 k = x_r w 0 k := fun k => F2.2.2.2 0 k fun z => z
      have ht2 : TT (x_si w1 0 9 (nI F)) t sz := TT_F F2 ht (by unfold mDo; omega) (by unfold mDo; omega) (by unfold mDo; omega) (by unfold mDo; omega)
      have lo2 : xLo 0 w (x_si w1 0 9 (nI F)) := xLo_F F2 (fun p k hp => ⟨by unfold mDo; omega, by unfold mDj; omega, fun z => z⟩)
      have hS2 : PS P (x_si w1 0 9 (nI F)) true hs V g cs st mk sp := PS_e (fun p _ _ => funext fun k => F2.2.1 p k (by unfold mDo; omega)) (funext fun k => F2.2.2.1 P k (by unfold mDj; omega)) (funext fun k => F2.2.2.1 (P + 5) k (by unfold mDj; omega)) hS
      have hK2 : TK T (x_si w1 0 9 (nI F)) tk := TK_e (funext fun k => F2.2.1 T k (by unfold mDo; omega)) (funext fun k => F2.2.1 (T + 1) k (by unfold mDo; omega)) hK
      rw [e9]
      refine ⟨k1, k1, fun z => ⟨k1, ?_⟩, fun z => ?_⟩
      · have z0 : F = 0 := by
          rw [← nI_0] at z
          exact (nI_eq (by omega) (by omega)).mp z
        obtain ⟨u1, u2, u3, u4, u5⟩ := q2 z0
        generalize hcs : (prc (cs.take g) (rds pk t sz V g 81 0 []).2).1 = cs' at *
        generalize hst' : (prc (cs.take g) (rds pk t sz V g 81 0 []).2).2 = st' at *
        have hl2 : st'.length = (rds pk t sz V g 81 0 []).2.length := by rw [← hst']; exact prc_l2 _ _
        have hltk : (cs.take g).length = g := by rw [List.length_take]; omega
        have htake : cs'.take g = cs.take g := by
          have := prc_tk (cs.take g) (rds pk t sz V g 81 0 []).2
          rw [hltk, hcs] at this
          exact this
        have hglen : g ≤ cs'.length := by
          have := congrArg List.length htake
          rw [hltk, List.length_take] at this
          omega
        have hPS : PS D (x_si w1 0 9 (nI F)) true true V g cs' st' nob nob := by
          have G : xI (fun p k => p = 0 ∧ k = 9) w1 (x_si w1 0 9 (nI F)) := xI_si xI_rf ⟨rfl, rfl⟩
          exact PS_e (fun p hp1 hp2 => xI_c G p (fun k z => by omega)) (by rw [xI_j G]) (by rw [xI_j G]) u1
        refine c39 hP h2 ((eR 5).trans r5) ((eR 6).trans r6) (fun w3 v1 v2 v3 v4 v5 => b58_67 ?_)
        have h3 := sh_A v1 h2
        have k3 : x_k w3 0 = 3 := by rw [sh_k h3]; rfl
        have ui : x_i w3 = x_i (x_si w1 0 9 (nI F)) := funext fun o => funext fun k => v1.2.1 o k fun z => z
        have uj : x_j w3 = x_j (x_si w1 0 9 (nI F)) := funext fun o => funext fun k => v1.2.2.1 o k fun z => z
        have hPS3 : PS D w3 true true V g cs' st' nob nob := PS_e (fun p _ _ => congrFun ui p) (congrFun uj D) (congrFun uj (D + 5)) hPS
        rw [v2, pK h3 hD, hPS3.1.2.2.2.2.2, hl2]
        refine ⟨k3, by omega, rfl, hq1 rfl z0 w3 ?_ h3 ?_ ⟨by omega, hV, hg40, hglen, u4, by omega, u2, u3, ⟨(rds pk t sz V g 81 0 []).2, by rw [htake, ← hcs, ← hst']⟩, fun _ => rfl, fun j hj => (by cases hj), htl, htv⟩ ⟨D, P, T, S, by omega, hT, ⟨v2, v3, v4.trans ((eR 7).trans r7), v5.trans ((eR 8).trans r8)⟩, ?_, hPS3, TK_e (congrFun ui T) (congrFun ui (T + 1)) hK2⟩⟩
        · exact xLo_tr (a := 0) (b := 0) lo2 (xLo_F v1 (fun p k hp => ⟨fun z => z, fun z => z, by unfold mrA; omega⟩))
        · exact TT_F v1 ht2 (fun z => z) (fun z => z) (fun _ z => z) (fun _ z => z)
        · rw [ui, e9, z0]
      · have z0 : ¬ F = 0 := fun y => z (by rw [y]; rfl)
        exact hq0 rfl z0 _ (xLo_tr (a := 0) (b := 1) lo2 xLo_lost) h2 ht2 ⟨P, D, T, S, hP, hT, ⟨(eR 5).trans r5, (eR 6).trans r6, (eR 7).trans r7, (eR 8).trans r8⟩, e9, hS2, hK2⟩
    refine b58_0 ?_
    rw [r5, r6, sr0_1 h, sr0_2 h, pK h hPP, pK h hD, hS.1.1]
    refine ⟨k0, by omega, rfl, fun _ => ⟨k0, by decide, fun z => ⟨k0, by omega, k0, by omega, rfl, rest 3 ?_ _⟩, fun z => ⟨k0, by decide, k0, by omega, k0, by omega, rfl, rest 4 ?_ _⟩⟩, fun z => absurd (by decide) z⟩
    · cases pk with
      | false => exact Or.inl ⟨rfl, rfl⟩
      | true => exact absurd z (by decide)
    · cases pk with
      | true => exact Or.inr ⟨rfl, rfl⟩
      | false => exact absurd rfl z
/-- stream of the reference -/
theorem c69 (h : SH w) (ht : TT w t sz) (hA : AK fa hf hs V g cs st mk sp tk) (hC : CR w fa hf hs V g cs st mk sp tk)
    (hq2 : hf = false → ∀ w', xHi w w' → TT w' t sz → x_i w' 36 0 = 1 → CR w' fa hf hs V g cs st mk sp tk → Q (.inl (some (.int 0))) w')
    (hq1 : hf = true → (rds pk t sz V g 81 0 []).1 = 0 → ∀ w', xHi w w' → TT w' t sz → x_i w' 36 0 = 0 → CR w' 0 true true V g (prc (cs.take g) (rds pk t sz V g 81 0 []).2).1 (prc (cs.take g) (rds pk t sz V g 81 0 []).2).2 nob nob tk → Q (.inl (some (.int (nI (rds pk t sz V g 81 0 []).2.length)))) w')
    (hq0 : hf = true → ¬ (rds pk t sz V g 81 0 []).1 = 0 → ∀ w', xHi w w' → TT w' t sz → x_i w' 36 0 = 2 → CR w' (rds pk t sz V g 81 0 []).1 hf hs V g cs st mk sp tk → Q (.inl (some (.int 0))) w') : x_R x_prog scr 69 0 [some (.ref 36), some (.int (b32 pk)), o2] [] w Q := by
  obtain ⟨hfa, hV, hg40, hgl, hl63, hst80, hco, hst0, -, hsf, hmk, htl, htv⟩ := hA
  obtain ⟨c3, ⟨⟨p4, p5, p6, p7, p10, p11⟩, pR, pS⟩, cM, cW, c24, cT⟩ := id hC
  have k0 : x_k w 36 = 12 := by rw [sh_k h]; rfl
  have t1 := ht.1
  have hltk : (cs.take g).length = g := by rw [List.length_take]; omega
  have e0 : ∀ v, x_i (x_si w 36 0 v) 36 0 = v := fun v => by rw [y_i_si, if_pos ⟨rfl, rfl⟩]
  -- a state whose scratch alone was written
  have keep : ∀ (w' : xW) (F : Nat) (m : Nat → Nat → Prop), xI m w w' → (∀ p k, m p k → (p = 36 ∧ (k = 0 ∨ k = 3 ∨ k = 16 ∨ k = 17 ∨ k = 18 ∨ k = 19 ∨ k = 20)) ∨ p = 44 ∨ p = 45 ∨ p = 46) → x_i w' 36 3 = nI F → TT w' t sz ∧ xHi w w' ∧ CR w' F hf hs V g cs st mk sp tk := by
    intro w' F m q hm h3
    have hHi : xHi w w' := xHi_I q (fun p k hp z => by have := hm p k z; omega)
    have f : ∀ p k, ¬ (p = 36 ∧ (k = 0 ∨ k = 3 ∨ k = 16 ∨ k = 17 ∨ k = 18 ∨ k = 19 ∨ k = 20)) → ¬ p = 44 → ¬ p = 45 → ¬ p = 46 → x_i w' p k = x_i w p k := fun p k h1 h2 h3 h4 => xI_i q p k (fun z => by have := hm p k z; omega)
    refine ⟨TT_Hi hHi ht (f 36 1 (by omega) (by omega) (by omega) (by omega)) (funext fun k => f 37 k (by omega) (by omega) (by omega) (by omega)), hHi, h3, ⟨⟨(f 36 4 (by omega) (by omega) (by omega) (by omega)).trans p4, (f 36 5 (by omega) (by omega) (by omega) (by omega)).trans p5, (f 36 6 (by omega) (by omega) (by omega) (by omega)).trans p6, (f 36 7 (by omega) (by omega) (by omega) (by omega)).trans p7, (f 36 10 (by omega) (by omega) (by omega) (by omega)).trans p10, (f 36 11 (by omega) (by omega) (by omega) (by omega)).trans p11⟩, fun c hc => ⟨(f 39 _ (by omega) (by omega) (by omega) (by omega)).trans (pR c hc).1, fun k hk => (f 38 _ (by omega) (by omega) (by omega) (by omega)).trans ((pR c hc).2 k hk)⟩, fun s hs => ⟨(f 40 _ (by omega) (by omega) (by omega) (by omega)).trans (pS s hs).1, (f 41 _ (by omega) (by omega) (by omega) (by omega)).trans (pS s hs).2⟩⟩, fun j hj => (f 43 j (by omega) (by omega) (by omega) (by omega)).trans (cM j hj), fun s hs => (f 42 _ (by omega) (by omega) (by omega) (by omega)).trans (cW s hs), (f 36 24 (by omega) (by omega) (by omega) (by omega)).trans c24, fun k hk => (f 47 k (by omega) (by omega) (by omega) (by omega)).trans (cT k hk)⟩
  refine b69_0 ?_
  rw [p4, e0, e0]
  cases hf with
  | false =>
    refine ⟨k0, fun _ => ⟨k0, k0, fun z => absurd z (by decide), fun _ => ?_⟩, fun z => absurd rfl z⟩
    obtain ⟨a1, a2, a3⟩ := keep (x_si w 36 0 1) fa (fun p k => p = 36 ∧ k = 0) (xI_si xI_rf ⟨rfl, rfl⟩) (by omega) (by rw [y_i_si, if_neg (by omega)]; exact c3)
    exact hq2 rfl _ a2 a1 (e0 1) a3
  | true =>
    refine ⟨k0, fun z => absurd z (by decide), fun _ => ⟨k0, k0, fun _ => ⟨⟨k0, by cases pk; exact Or.inl rfl; exact Or.inr rfl⟩, k0, ?_⟩, fun z => absurd (by decide) z⟩⟩
    have F1 : xI (fun p k => p = 36 ∧ (k = 0 ∨ k = 19)) w (x_si (x_si w 36 0 0) 36 19 (b32 pk)) := xI_si (xI_si xI_rf ⟨rfl, Or.inl rfl⟩) ⟨rfl, Or.inr rfl⟩
    refine c70 (pk := pk) hV (by omega) (sh_I F1 h) (TT_I F1 ht (by omega) (by omega) (by omega) (by omega)) ((xI_i F1 36 5 (by omega)).trans p5) (by rw [y_i_si, if_pos ⟨rfl, rfl⟩]) ((xI_i F1 36 6 (by omega)).trans p6) (fun w2 q1 q2 hle => b69_35 ?_)
    have F2 : xI (fun p k => (p = 36 ∧ (k = 0 ∨ k = 16 ∨ k = 17 ∨ k = 18 ∨ k = 19 ∨ k = 20)) ∨ p = 44 ∨ p = 45 ∨ p = 46) w w2 := xI_tr (xI_w F1 (by omega)) (xI_w q1 (by unfold mST; omega))
    have h2 := sh_I F2 h
    have k2 : x_k w2 36 = 12 := by rw [sh_k h2]; rfl
    generalize hFF : (rds pk t sz V g 81 0 []).1 = F at *
    have e3 : x_i (x_si w2 36 3 (nI F)) 36 3 = nI F := by rw [y_i_si, if_pos ⟨rfl, rfl⟩]
    have e00 : ∀ v, x_i (x_si (x_si w2 36 3 (nI F)) 36 0 v) 36 0 = v := fun v => by rw [y_i_si, if_pos ⟨rfl, rfl⟩]
    have gz : nI F ≤ 0 ↔ F = 0 := by rw [← nI_0, nI_leI (by omega) (by omega)]; omega
    rw [e3, e00, e00, gz]
    refine ⟨k2, k2, fun z => ⟨k2, k2, fun _ => ⟨⟨k2, Or.inr rfl⟩, b69_68 ?_⟩, fun y => absurd (by decide) y⟩, fun z => ⟨k2, k2, fun y => absurd y (by decide), fun _ => ?_⟩⟩
    · obtain ⟨u1, u2, u3, u4⟩ := q2 z
      generalize hrs : (rds pk t sz V g 81 0 []).2 = rs at *
      generalize hw3 : x_si (x_si (x_si w2 36 3 (nI F)) 36 0 0) 36 10 1 = w3
      have G3 : xI (fun p k => p = 36 ∧ (k = 3 ∨ k = 0 ∨ k = 10)) w2 w3 := by rw [← hw3]; exact xI_si (xI_si (xI_si xI_rf ⟨rfl, Or.inl rfl⟩) ⟨rfl, Or.inr (Or.inl rfl)⟩) ⟨rfl, Or.inr (Or.inr rfl)⟩
      have a3 : x_i w3 36 3 = 0 := by rw [← hw3, y_i_si, if_neg (by omega), y_i_si, if_neg (by omega), e3, z]; rfl
      have a0 : x_i w3 36 0 = 0 := by rw [← hw3, y_i_si, if_neg (by omega), e00]
      have a10 : x_i w3 36 10 = 1 := by rw [← hw3, y_i_si, if_pos ⟨rfl, rfl⟩]
      clear hw3
      have h3 := sh_I G3 h2
      have k3 : x_k w3 36 = 12 := by rw [sh_k h3]; rfl
      have b18 : x_i w3 36 18 = nI rs.length := (xI_i G3 36 18 (by omega)).trans u2
      have b6 : ∀ v, x_i (x_si w3 36 11 v) 36 6 = nI g := fun v => by rw [y_i_si, if_neg (by omega), xI_i G3 36 6 (by omega), xI_i F2 36 6 (by omega)]; exact p6
      rw [b18, b6]
      generalize hw4 : x_si (x_si w3 36 11 (nI rs.length)) 36 7 (nI g) = w4
      have G4 : xI (fun p k => p = 36 ∧ (k = 11 ∨ k = 7)) w3 w4 := by rw [← hw4]; exact xI_si (xI_si xI_rf ⟨rfl, Or.inl rfl⟩) ⟨rfl, Or.inr rfl⟩
      have a11 : x_i w4 36 11 = nI rs.length := by rw [← hw4, y_i_si, if_neg (by omega), y_i_si, if_pos ⟨rfl, rfl⟩]
      have a7 : x_i w4 36 7 = nI g := by rw [← hw4, y_i_si, if_pos ⟨rfl, rfl⟩]
      clear hw4
      have h4 := sh_I G4 h3
      refine ⟨k3, k3, k3, k3, k3, c55 h4 (fun w5 y1 y2 y3 => b69_88 ?_)⟩
      have h5 := sh_I y1 h4
      have F5 : xI (fun p k => (p = 36 ∧ (k = 0 ∨ k = 3 ∨ k = 7 ∨ k = 10 ∨ k = 11 ∨ k = 16 ∨ k = 17 ∨ k = 18 ∨ k = 19 ∨ k = 20)) ∨ p = 42 ∨ p = 43 ∨ p = 44 ∨ p = 45 ∨ p = 46) w w5 := xI_tr (xI_w F2 (by omega)) (xI_tr (xI_w G3 (by omega)) (xI_tr (xI_w G4 (by omega)) (xI_w y1 (by unfold mFg; omega))))
      have i5 : ∀ k, x_i w5 36 k = x_i w4 36 k := fun k => xI_i y1 36 k (by unfold mFg; omega)
      refine c69_a (g := g) (by omega) 64 0 w5 none h5 (by omega) ((xI_i F5 36 6 (by omega)).trans p6) (fun j hj => by omega) (fun w6 v1 v2 => ?_)
      have h6 := sh_I v1 h5
      have RS6 : RS w6 rs := by
        intro s hs
        obtain ⟨b1, b2, b3⟩ := u1 s hs
        have H : xI (fun p k => p = 36 ∨ p = 42 ∨ p = 43 ∨ p = 49) w2 w6 := xI_tr (xI_w G3 (by omega)) (xI_tr (xI_w G4 (by omega)) (xI_tr (xI_w y1 (by unfold mFg; omega)) (xI_w v1 (by omega))))
        exact ⟨LI_I H b1 (by omega) (by omega), (xI_i H 46 s (by omega)).trans b2, b3⟩
      have hrs1 : ∀ s, s < rs.length → cl1 (rg rs s).2 := fun s hs => (u1 s hs).2.2
      have hcot : cok (cs.take g) := fun x hx => hco x (List.mem_of_mem_take hx)
      refine c69_b (cf := cs.take g) (rs := rs) (by omega) u3 (by omega) hcot hrs1 rs.length 0 w6 none h6 (by omega) ?_ RS6 ?_ hcot (fun c hc => ?_) (fun s hs => by omega) ?_ (fun w7 x1 x2 x3 x4 => hq1 rfl z w7 ?_ ?_ ?_ ?_)
      · rw [xI_i v1 36 11 (by omega), i5, a11]
      · show _ = nI (cs.take g).length
        rw [xI_i v1 36 7 (by omega), i5, a7, hltk]
      · have hc : c < (cs.take g).length := hc
        show RC w6 (c + 1) ((cs.take g).getD c [])
        rw [hltk] at hc
        have e : (cs.take g).getD c [] = cs.getD c [] := by rw [List.getD_eq_getElem?_getD, List.getD_eq_getElem?_getD, List.getElem?_take_of_lt hc]
        rw [e]
        exact RC_I v1 (RC_I F5 (pR c (by omega)) (by omega) (by omega)) (by omega) (by omega)
      · intro j hj
        show _ = b32 (decide (1 ≤ j ∧ j ≤ (cs.take g).length))
        rw [hltk]
        exact v2 j hj
      · exact xHi_tr (xHi_I F5 (by omega)) (xHi_tr (xHi_I v1 (by omega)) (xHi_I x1 (by unfold mSL; omega)))
      · exact TT_I x1 (TT_I v1 (TT_I F5 ht (by omega) (by omega) (by omega) (by omega)) (by omega) (by omega) (by omega) (by omega)) (by unfold mSL; omega) (by unfold mSL; omega) (by unfold mSL; omega) (by unfold mSL; omega)
      · rw [xI_i x1 36 0 (by unfold mSL; omega), xI_i v1 36 0 (by omega), i5, xI_i G4 36 0 (by omega), a0]
      · have j7 : ∀ k, ¬ k = 7 → x_i w7 36 k = x_i w4 36 k := fun k hk => (xI_i x1 36 k (by unfold mSL; omega)).trans ((xI_i v1 36 k (by omega)).trans (i5 k))
        have j5 : ∀ p k, ¬ (p = 36 ∧ (k = 0 ∨ k = 3 ∨ k = 7 ∨ k = 10 ∨ k = 11 ∨ k = 16 ∨ k = 17 ∨ k = 18 ∨ k = 19 ∨ k = 20)) → (p = 36 ∨ p = 47) → x_i w7 p k = x_i w p k := fun p k hk hp => (xI_i x1 p k (by unfold mSL; omega)).trans ((xI_i v1 p k (by omega)).trans (xI_i F5 p k (by omega)))
        refine ⟨(j7 3 (by omega)).trans ((xI_i G4 36 3 (by omega)).trans a3), ⟨⟨(j5 36 4 (by omega) (by omega)).trans p4, (j5 36 5 (by omega) (by omega)).trans p5, (j5 36 6 (by omega) (by omega)).trans p6, x2, (j7 10 (by omega)).trans ((xI_i G4 36 10 (by omega)).trans a10), ?_⟩, x3, fun s hs => x4 s (by rw [prc_l2] at hs; exact hs)⟩, fun j hj => ?_, fun s hs => ?_, (j5 36 24 (by omega) (by omega)).trans c24, fun k hk => (j5 47 k (by omega) (by omega)).trans (cT k hk)⟩
        · rw [prc_l2]; exact (j7 11 (by omega)).trans a11
        · rw [xI_i x1 43 j (by unfold mSL; omega), xI_i v1 43 j (by omega)]; exact y3 j hj
        · rw [prc_l2] at hs
          rw [xI_i x1 42 _ (by unfold mSL; omega), xI_i v1 42 _ (by omega), y2 (s + 1) (by omega)]
          unfold wy
          rw [if_neg (fun z => by cases z.2)]
          rfl
    · have G3 : xI (fun p k => p = 36 ∧ (k = 3 ∨ k = 0)) w2 (x_si (x_si w2 36 3 (nI F)) 36 0 2) := xI_si (xI_si xI_rf ⟨rfl, Or.inl rfl⟩) ⟨rfl, Or.inr rfl⟩
      obtain ⟨b1, b2, b3⟩ := keep _ F (fun p k => (p = 36 ∧ (k = 0 ∨ k = 3 ∨ k = 16 ∨ k = 17 ∨ k = 18 ∨ k = 19 ∨ k = 20)) ∨ p = 44 ∨ p = 45 ∨ p = 46) (xI_tr (xI_w F2 (by omega)) (xI_w G3 (by omega))) (fun _ _ z => z) (by rw [y_i_si, if_neg (by omega), e3])
      exact hq0 rfl z _ b2 b1 (e00 2) b3
end X49
