/-! Judging, on the class's side: names, a line, the verdict. -/
theorem ndN_le (a b : List Nat) (h : a.Nodup) (hs : ∀ x ∈ a, x ∈ b) : a.length ≤ b.length := by
  have := nd_le (a.map (fun x : Nat => (x : Int))) (b.map (fun x : Nat => (x : Int))) ?_ ?_
  · simpa using this
  · rw [List.nodup_iff_pairwise_ne, List.pairwise_map]
    exact (List.nodup_iff_pairwise_ne.mp h).imp (fun {a b} hab e => hab (Int.ofNat_inj.mp e))
  · intro x hx
    obtain ⟨y, hy, rfl⟩ := List.mem_map.mp hx
    exact List.mem_map.mpr ⟨y, hs y hy, rfl⟩
def hml (KL : List xKn) (o : Int) (n : Nat) : List Nat := (List.range n).filter (fun j => decide ((kn KL j).2.2 = true ∧ o ∈ (kn KL j).2.1))
theorem hml_len (KL : List xKn) (o : Int) : ∀ n, (hml KL o n).length = hmy KL o n
  | 0 => rfl
  | n + 1 => by
    have i := hml_len KL o n
    unfold hml at i ⊢
    unfold hmy
    rw [List.range_succ, List.filter_append, List.length_append, i]
    congr 1
    by_cases c : (kn KL n).2.2 = true ∧ o ∈ (kn KL n).2.1
    · rw [if_pos c, List.filter_cons_of_pos (by rw [decide_eq_true_iff]; exact c)]; rfl
    · rw [if_neg c, List.filter_cons_of_neg (by rw [decide_eq_true_iff]; exact c)]; rfl
theorem hmy_nm {KL : List xKn} {o : Int} {n : Nat} {nm : List Nat} (hn : nm.Nodup) (hg : ∀ c ∈ nm, c < n ∧ (kn KL c).2.2 = true ∧ o ∈ (kn KL c).2.1) : nm.length ≤ hmy KL o n ∧ (hmy KL o n = nm.length ↔ ∀ c, c < n → (kn KL c).2.2 = true → o ∈ (kn KL c).2.1 → c ∈ nm) := by
  have hm : ∀ c, c < n → (kn KL c).2.2 = true → o ∈ (kn KL c).2.1 → c ∈ hml KL o n := fun c h1 h2 h3 => List.mem_filter.mpr ⟨List.mem_range.mpr h1, decide_eq_true ⟨h2, h3⟩⟩
  have h1 : nm.length ≤ hmy KL o n := by
    rw [← hml_len]
    exact ndN_le _ _ hn (fun c hc => hm c (hg c hc).1 (hg c hc).2.1 (hg c hc).2.2)
  refine ⟨h1, fun e c c1 c2 c3 => ?_, fun ha => ?_⟩
  · apply Classical.byContradiction
    intro hc
    have := ndN_le (c :: nm) (hml KL o n) (List.nodup_cons.mpr ⟨hc, hn⟩) (fun x hx => by
      rcases List.mem_cons.mp hx with rfl | hx
      · exact hm x c1 c2 c3
      · exact hm x (hg x hx).1 (hg x hx).2.1 (hg x hx).2.2)
    rw [hml_len, List.length_cons] at this
    omega
  · have : hmy KL o n ≤ nm.length := by
      rw [← hml_len]
      refine ndN_le _ _ (List.Pairwise.filter _ List.nodup_range) (fun c hc => ?_)
      obtain ⟨c1, c2⟩ := List.mem_filter.mp hc
      have c2 := of_decide_eq_true c2
      exact ha c (List.mem_range.mp c1) c2.1 c2.2
    omega
theorem tvN_ok0 {ls : List Int} (h : cl0 ls) : tok (tvN ls) ∧ TM (tvN ls) (opp (mask ls)) := by
  obtain ⟨h1, h2⟩ := tvN_f ls tv0 h.1 h.2 tok0 (fun l _ => by unfold vl tv0; simp)
  refine ⟨h1, fun l hl => ?_⟩
  have e : vl (tvN ls) l = if l ∈ ls then -1 else if -l ∈ ls then 1 else vl tv0 l := h2 l hl
  rw [e, Bool.eq_iff_iff, mm_ino h.1 hl, decide_eq_true_iff]
  have z : vl tv0 l = 0 := by unfold vl tv0; simp
  rw [z]
  constructor
  · intro hm
    rw [if_neg (fun y => by
      have := cl0_inj h hm y (Int.natAbs_neg l)
      have := hl.1
      omega), if_pos hm]
    omega
  · intro hm
    by_cases c1 : l ∈ ls
    · rw [if_pos c1] at hm; omega
    · rw [if_neg c1] at hm
      by_cases c2 : -l ∈ ls
      · exact c2
      · rw [if_neg c2] at hm; omega
section X78
variable {scr : Nat × (Nat → Int32)} {w : xW} {Q : xO → xW → Prop} {w1 : xW} {P T n c g d V l i k last : Nat} {hf hs : Bool} {mk sp : Nat → Bool} {cs : List (List Int)} {st : xSt} {tk ls : List Int} {KL KL' : List xKn} {v hi o : Int} {tv : Nat → Int} {nm : List Nat} {o1 o2 o3 o4 o5 o6 : Option Value}
theorem NMD_n (h : NMD w KL l nm) (hlen : KL'.length = KL.length) (e : ∀ j, j < KL.length → x_i w1 35 j = x_i w 35 j) : NMD w1 KL' (l + 1) [] := by
  intro j hj
  rw [hlen] at hj
  refine ⟨fun z => (by cases z), fun _ => ?_⟩
  rw [e j hj]
  by_cases hm : j ∈ nm
  · exact ⟨l, by omega, (h j hj).1 hm⟩
  · obtain ⟨m, h1, h2⟩ := (h j hj).2 hm
    exact ⟨m, by omega, h2⟩
def mSp : Nat → Nat → Prop := fun p k => (p = 31 ∧ (k = 9 ∨ k = 10 ∨ k = 11)) ∨ p = 35
/-- isSpared -/
theorem c173 (hT : T = 17 ∨ T = 19 ∨ T = 22) (h : SH w) (hJ : JC T w KL V) (hK : KI KL hi) (hT2 : TK T w tk) (hv : TV tk) (h9 : x_i w 31 9 = nI k) (ht : tok tv) (hM : TM tv (x_i w 31 10)) (hk : k ≤ last) (hla : last < tk.length) (hl0 : tA tk last = 0) (hnz : ∀ j, k ≤ j → j < last → ¬ tA tk j = 0) (hp : ¬ 0 < tA tk k) (hvl : lok v) (hN : NMD w KL l []) (hl : 1 ≤ l ∧ l ≤ 2001) (hq : ∀ w', xI mSp w w' → NMD w' KL (l + 1) [] → Q (.inl (some (.int (b32 (nmO KL tk last (-v) tv k))))) w') : x_R x_prog scr 173 0 [some (.ref 31), some (.int (iI v)), some (.int (nI l)), o3, o4, o5, o6] [] w Q := by
  have hl2 := hv.1
  have ho : lok (-v) := lok_neg hvl
  have hvr := hvl.2
  have hv0 := hvl.1
  have k31 : x_k w 31 = 11 := by rw [sh_k h]; rfl
  have h540 := hJ.2.2.2.1
  unfold nmO at hq
  obtain ⟨m0, hm0⟩ : ∃ m, x_i w 31 10 = m := ⟨_, rfl⟩
  rw [hm0] at hM
  obtain ⟨o, hoe⟩ : ∃ o, -v = o := ⟨_, rfl⟩
  rw [hoe] at ho hq
  have key : ∀ (d k : Nat) (nm : List Nat) (w1 : xW) (o1 o6 : Option Value), xI mSp w w1 → x_i w1 31 9 = nI k → x_i w1 31 10 = m0 → NMD w1 KL l nm → nm.Nodup → (∀ c ∈ nm, c < KL.length ∧ (kn KL c).2.2 = true ∧ o ∈ (kn KL c).2.1) → k ≤ last → (∀ j, k ≤ j → j < last → ¬ tA tk j = 0) → last < k + d → ¬ 0 < tA tk k → (∀ w', xI mSp w w' → NMD w' KL (l + 1) [] → Q (.inl (some (.int (b32 ((nms KL tk last o tv d k nm).1 && aln KL o (nms KL tk last o tv d k nm).2))))) w') → x_R x_prog scr 173 25 [some (.ref 31), o1, some (.int (nI l)), some (.int (sb (li o))), some (.int (nI (hmy KL o KL.length - nm.length))), some (.int m0), o6] [] w1 Q := by
    intro d
    induction d with
    | zero => intro k nm w1 o1 o6 F e9 e10 hN hnd hgd hk hnz hd hp hq; omega
    | succ d ih =>
      intro k nm w1 o1 o6 F e9 e10 hN hnd hgd hk hnz hd hp hq
      have h1 := sh_I F h
      have e7 : x_r w1 31 7 = T := by rw [xI_r F]; exact hJ.1
      have K1 : TK T w1 tk := TK_e (funext fun k => xI_i F T k (by unfold mSp; omega)) (funext fun k => xI_i F (T + 1) k (by unfold mSp; omega)) hT2
      have J1 : JC T w1 KL V := JC_I F (by unfold mSp; omega) (by unfold mSp; omega) hJ
      have hr := tA_rg hv k
      obtain ⟨q1, q2⟩ := hmy_nm (n := KL.length) hnd hgd
      have hH := hmy_le KL o KL.length
      have g0 : (0 : Int32) ≤ iI (tA tk k) ↔ 0 ≤ tA tk k := by
        rw [Int32.le_iff_toInt_le, iI_toInt (by omega) (by omega)]
        exact Iff.rfl
      refine b173_25 ?_
      rw [e7, K1.1, e9, tK h1 hT, sh_k h1]
      refine ⟨rfl, rfl, by omega, rfl, fun z => absurd z (nI_ge (by omega) (by omega)), fun _ => ⟨rfl, by omega, rfl, rfl, c137t hT h1 K1 hl2 (by omega) (b173_50 ?_)⟩⟩
      rw [g0, e7, e9, tK h1 hT, sh_k h1]
      unfold nms at hq
      refine ⟨fun z => ?_, fun z => ⟨rfl, by omega, rfl, rfl, c137t hT h1 K1 hl2 (by omega) (b173_65 ⟨by rw [sh_k h1]; rfl, ?_⟩)⟩⟩
      · have ek : last ≤ k := by
          apply Classical.byContradiction
          intro y
          exact hnz k (Nat.le_refl _) (by omega) (by omega)
        rw [if_pos ek] at hq
        dsimp only at hq
        have gz : nI (hmy KL o KL.length - nm.length) = 0 ↔ hmy KL o KL.length = nm.length := by
          rw [← nI_0, nI_eq (by omega) (by omega)]
          omega
        rw [gz, q2]
        by_cases ha : ∀ c, c < KL.length → (kn KL c).2.2 = true → o ∈ (kn KL c).2.1 → c ∈ nm
        · rw [show aln KL o nm = true from decide_eq_true ha] at hq
          exact ⟨fun y => absurd ha y, fun _ => ⟨Or.inr rfl, hq w1 F (NMD_n hN rfl (fun j _ => rfl))⟩⟩
        · rw [show aln KL o nm = false from decide_eq_false ha] at hq
          exact ⟨fun _ => ⟨Or.inl rfl, hq w1 F (NMD_n hN rfl (fun j _ => rfl))⟩, fun y => absurd ha y⟩
      · have ek : k < last := by
          apply Classical.byContradiction
          intro y
          have : k = last := by omega
          rw [this, hl0] at z
          exact z (by decide)
        rw [if_neg (show ¬ last ≤ k by omega)] at hq
        rw [iI_ng (by omega) (by omega)]
        refine c168 h1 J1 hK (by omega) (b173_69 ?_)
        have F9 : xI mSp w (x_si w1 31 9 (nI (k + 1))) := xI_si F (Or.inl ⟨rfl, Or.inl rfl⟩)
        have N9 : NMD (x_si w1 31 9 (nI (k + 1))) KL (l + 1) [] := NMD_n hN rfl (fun j _ => by rw [y_i_si, if_neg (by omega)])
        have k31 : x_k w1 31 = 11 := by rw [sh_k h1]; rfl
        rw [e9, nI_1]
        rcases fdk_rg KL (- tA tk k) with ⟨e, -⟩ | ⟨i, e, e1, e2, e3⟩
        · rw [e, if_pos (by decide)] at hq
          rw [e]
          exact ⟨k31, k31, fun _ => ⟨Or.inl rfl, hq _ F9 N9⟩, fun y => absurd (by decide) y⟩
        · rw [e, if_neg (show ¬ (i : Int) < 0 by omega)] at hq
          have et : ((i : Int)).toNat = i := rfl
          rw [et] at hq
          rw [e, iI_n]
          have e35 : ∀ v, x_i (x_si w1 31 9 v) 35 i = x_i w1 35 i := fun v => by rw [y_i_si, if_neg (by omega)]
          have e33 : ∀ v, x_i (x_si w1 31 9 v) 33 i = mask (kn KL i).2.1 := fun v => by rw [y_i_si, if_neg (by omega)]; exact (J1.2.2.2.2 i e1).2.1
          have e33' : ∀ v u, x_i (x_si (x_si w1 31 9 v) 35 i u) 33 i = mask (kn KL i).2.1 := fun v u => by rw [y_i_si, if_neg (by omega)]; exact e33 v
          have gn : x_i w1 35 i = nI l ↔ i ∈ nm := by
            constructor
            · intro y
              apply Classical.byContradiction
              intro hn
              obtain ⟨m, hm, he⟩ := (hN i e1).2 hn
              rw [he, nI_eq (by omega) (by omega)] at y
              omega
            · exact (hN i e1).1
          have hcl := (hK.1 i e1).2.2
          have gm : mask (kn KL i).2.1 &&& sb (li o) = 0 ↔ ¬ o ∈ (kn KL i).2.1 := by
            rw [and_sb (li_lt ho), ← mm_in hcl.1 ho, Bool.not_eq_true]
          have v540 : vp_in (nI i) 540 := vp_in_nI (by omega) (by omega)
          rw [sr31_1 h1, sr31_3 h1, sh_k h1, sh_l h1, nI_clamp (show i < 2 ^ 31 by omega), e35, e33, e33', gn, gm]
          refine ⟨rfl, rfl, fun y => absurd y (nI_nm1 (by omega)), fun _ => ⟨rfl, by decide, ⟨rfl, v540⟩, fun y => ⟨Or.inl rfl, ?_⟩, fun y => ⟨rfl, by decide, ⟨rfl, v540⟩, fun x => ⟨rfl, by decide, ⟨rfl, v540⟩, rfl, by decide, ⟨rfl, v540⟩, rfl, ?_⟩, fun x => ⟨Or.inl rfl, ?_⟩⟩⟩⟩
          · rw [if_pos y] at hq
            exact hq _ F9 N9
          · have x := Classical.not_not.mp x
            rw [if_neg y, if_neg (fun u => u x)] at hq
            have F2 : xI mSp w (x_si (x_si w1 31 9 (nI (k + 1))) 35 i (nI l)) := xI_si F9 (Or.inr rfl)
            have go := c175 (scr := scr) (T := T) (V := V) (tk := tk) (last := last) (tv := tv) (o := o) (c := i) (k := k + 1) (Q := x_back x_prog 173 135 138 [some (.ref 31), none, some (.int (nI l)), some (.int (sb (li o))), some (.int (nI (hmy KL o KL.length - nm.length) + (-1))), some (.int m0), some (.int (nI i))] [] (fun pc L st w => x_R x_prog scr 173 pc L st w Q)) hT (sh_I F2 h) (JC_I F2 (by unfold mSp; omega) (by unfold mSp; omega) hJ) hK (TK_e (funext fun k => xI_i F2 T k (by unfold mSp; omega)) (funext fun k => xI_i F2 (T + 1) k (by unfold mSp; omega)) hT2) hv (by rw [y_i_si, if_neg (by omega), y_i_si, if_pos ⟨rfl, rfl⟩]) ht (by rw [y_i_si, if_neg (by omega), y_i_si, if_neg (by omega), e10]; exact hM) (by omega) hla hl0 ho e1 (fun w3 F3 G => b173_138 ?_)
            · exact go
            · have F4 : xI mSp w w3 := xI_tr F2 (xI_w F3 (by unfold mSp; omega))
              have h3 := sh_I F4 h
              have hin : ∀ j, j < KL.length → x_i w3 35 j = if j = i then nI l else x_i w1 35 j := fun j hj => by
                rw [xI_i F3 35 j (by omega), y_i_si]
                by_cases ej : j = i
                · rw [if_pos ⟨rfl, ej⟩, if_pos ej]
                · rw [if_neg (fun u => ej u.2), if_neg ej, y_i_si, if_neg (by omega)]
              have N3 : NMD w3 KL l (i :: nm) := fun j hj => by
                rw [hin j hj]
                by_cases ej : j = i
                · rw [if_pos ej]
                  exact ⟨fun _ => rfl, fun u => absurd (List.mem_cons.mpr (Or.inl ej)) u⟩
                · rw [if_neg ej]
                  exact ⟨fun u => (hN j hj).1 ((List.mem_cons.mp u).resolve_left ej), fun u => (hN j hj).2 (fun u2 => u (List.mem_cons.mpr (Or.inr u2)))⟩
              have hnd2 : (i :: nm).Nodup := List.nodup_cons.mpr ⟨y, hnd⟩
              have hgd2 : ∀ c ∈ i :: nm, c < KL.length ∧ (kn KL c).2.2 = true ∧ o ∈ (kn KL c).2.1 := fun c hc => by
                rcases List.mem_cons.mp hc with rfl | hc
                · exact ⟨e1, e3, x⟩
                · exact hgd c hc
              obtain ⟨p1, -⟩ := hmy_nm (n := KL.length) hnd2 hgd2
              rw [List.length_cons] at p1
              have em : nI (hmy KL o KL.length - nm.length) + (-1) = nI (hmy KL o KL.length - (i :: nm).length) := by
                rw [← Int32.sub_eq_add_neg, List.length_cons]
                have := nI_pred (hmy KL o KL.length - (nm.length + 1))
                rw [show hmy KL o KL.length - (nm.length + 1) + 1 = hmy KL o KL.length - nm.length by omega] at this
                exact this
              obtain ⟨g1, g2, g3⟩ := gp_rg (tk := tk) (last := last) (k := k + 1) hK ho ht e1 (by omega)
              rw [em]
              cases hb : (gp KL tk last o tv i (k + 1)).1 with
              | false =>
                rw [if_neg (show ¬ (gp KL tk last o tv i (k + 1)).1 = true by rw [hb]; decide)] at hq
                exact ⟨fun u => absurd rfl u, fun _ => ⟨Or.inl rfl, hq w3 F4 (NMD_n N3 rfl (fun j _ => rfl))⟩⟩
              | true =>
                rw [if_pos hb] at hq
                refine ⟨fun _ => ⟨by rw [sh_k h3]; rfl, ih (gp KL tk last o tv i (k + 1)).2 (i :: nm) _ _ _ (xI_si F4 (Or.inl ⟨rfl, Or.inr (Or.inl rfl)⟩)) ?_ ?_ ?_ hnd2 hgd2 g2 (fun j j1 j2 => hnz j (by omega) j2) (by omega) (g3 hb) hq⟩, fun u => absurd (by decide) u⟩
                · rw [y_i_si, if_neg (by omega)]; exact G hb
                · rw [y_i_si, if_pos ⟨rfl, rfl⟩]
                · intro j hj
                  rw [y_i_si, if_neg (by omega)]
                  exact N3 j hj
          · rw [if_neg y, if_pos (Classical.not_not.mp x)] at hq
            exact hq _ F9 N9
  have gv : iI v = 0 ↔ v = 0 := iI_eq (b := 0) (by omega) (by omega) (by omega) (by omega)
  refine b173_0 ⟨fun _ => ?_, fun y => absurd (fun u => hv0 (gv.mp u)) y⟩
  rw [iI_ng (by omega) (by omega), hoe]
  refine c34 ho (b173_11 ⟨k31, c174 h hJ hK ho (b173_17 ⟨k31, ?_⟩)⟩)
  rw [hm0]
  exact key 2001 k [] w none none xI_rf h9 hm0 hN List.nodup_nil (fun c hc => (by cases hc)) hk hnz (by omega) hp hq
/-- what a line's literals are -/
theorem rdl_ln (hV : V ≤ 16) (hi2 : i < tk.length) (hE : lnE tk i = (last : Int) + 1) (hnd : ¬ tA tk (i + 1) = 10000) : i + 2 ≤ last ∧ last < tk.length ∧ tA tk last = 0 ∧ ((rdl V tk (tk.length - (i + 1)) (i + 1) []).1 = true → i + 1 ≤ (rdl V tk (tk.length - (i + 1)) (i + 1) []).2.1 ∧ (rdl V tk (tk.length - (i + 1)) (i + 1) []).2.1 < last ∧ (∀ j, (rdl V tk (tk.length - (i + 1)) (i + 1) []).2.1 < j → j < last → ¬ tA tk j = 0) ∧ cl0 (rdl V tk (tk.length - (i + 1)) (i + 1) []).2.2 ∧ ((rdl V tk (tk.length - (i + 1)) (i + 1) []).2.2 = [] ↔ tA tk (i + 1) = 0) ∧ (¬ tA tk (i + 1) = 0 → i + 3 ≤ last ∧ lok (tA tk (i + 1)) ∧ tA tk (i + 1) ∈ (rdl V tk (tk.length - (i + 1)) (i + 1) []).2.2)) := by
  rcases lnE_rg hi2 with z | ⟨e, e1, e2, e3, e4, e5⟩
  · omega
  · have ee : e = last := by omega
    subst ee
    refine ⟨e2, e3, e4, fun hok => ?_⟩
    rcases e5 with e5 | ⟨-, z, z1, z2, z3, z4, z5⟩
    · exact absurd e5.1 hnd
    · obtain ⟨r1, r2, r3, r4, r5⟩ := rdl_ok (tk := tk) hV (tk.length - (i + 1)) (i + 1) [] cl0_nil
      obtain ⟨s1, s2, s3⟩ := r5 hok
      generalize rdl V tk (tk.length - (i + 1)) (i + 1) [] = r at *
      obtain ⟨ok, kz, ls⟩ := r
      dsimp only at *
      rw [List.length_nil] at r4
      have hz : kz = z := by
        have t1 : ¬ z < kz := fun y => s2 z z1 y z3
        have t2 : ¬ kz < z := fun y => by
          rcases s1 with s1 | s1
          · omega
          · exact z4 kz r2 y s1
        omega
      subst hz
      have hemp : ls = [] ↔ tA tk (i + 1) = 0 := by
        constructor
        · intro y
          rw [y, List.length_nil] at r4
          have : kz = i + 1 := by omega
          rw [← this]
          exact z3
        · intro y
          apply Classical.byContradiction
          intro hne
          have hlen : 0 < ls.length := List.length_pos_iff.mpr hne
          exact s2 (i + 1) (Nat.le_refl _) (by omega) y
      refine ⟨r2, z2, z5, r1, hemp, fun y => ?_⟩
      have hne : ¬ ls = [] := fun u => y (hemp.mp u)
      have hlen : 0 < ls.length := List.length_pos_iff.mpr hne
      have hm : tA tk (i + 1) ∈ ls := by
        have := s3 0 hlen
        rw [if_neg (by simp)] at this
        have e : tA tk (i + 1) = ls.getD 0 0 := this.symm
        rw [e, List.getD_eq_getElem?_getD, List.getElem?_eq_getElem hlen]
        exact List.getElem_mem hlen
      exact ⟨by omega, r1.1 _ hm, hm⟩
/-- isGood -/
theorem c169 (hT : T = 17 ∨ T = 19 ∨ T = 22) (hV : V ≤ 16) (h : SH w) (hJ : JC T w KL V) (hK : KI KL hi) (h6 : x_i w 31 6 = iI hi) (hh : 0 ≤ hi) (hT2 : TK T w tk) (hv : TV tk) (hN : NMD w KL l []) (hl : 1 ≤ l ∧ l ≤ 2000) (hlt : KL.length < 540) (hi2 : i < tk.length) (hE : lnE tk i = (last : Int) + 1) (hnd : ¬ tA tk (i + 1) = 10000) (hq : ∀ w', xI mBe w w' → ((gdl KL V hi tk i last).1 = true → JC T w' (KL ++ [(tA tk i, (gdl KL V hi tk i last).2, true)]) V ∧ x_i w' 31 6 = iI (tA tk i) ∧ NMD w' (KL ++ [(tA tk i, (gdl KL V hi tk i last).2, true)]) (l + 1) []) → Q (.inl (some (.int (b32 (gdl KL V hi tk i last).1)))) w') : x_R x_prog scr 169 0 [some (.ref 31), some (.int (nI i)), some (.int (nI l)), o3] [] w Q := by
  have hl2 := hv.1
  have k31 : x_k w 31 = 11 := by rw [sh_k h]; rfl
  obtain ⟨f1, f2, f3, f4⟩ := rdl_ln (V := V) hV hi2 hE hnd
  have hr := tA_rg hv i
  have h10 := hK.2.2
  -- learning
  have lrn : ∀ (ls : List Int) (w4 : xW), xI mBe w w4 → x_i w4 31 8 = mask ls → NMD w4 KL (l + 1) [] → JC T w4 KL V → gdl KL V hi tk i last = (true, ls) → x_R x_prog scr 165 0 [some (.ref 31), some (.int (iI (tA tk i))), some (.int (x_i (x_si w4 31 6 (iI (tA tk i))) 31 8))] [] (x_si w4 31 6 (iI (tA tk i))) (x_back x_prog 169 108 111 [some (.ref 31), none, none, some (.int (iI (tA tk i)))] [] (fun pc L st w => x_R x_prog scr 169 pc L st w Q)) := by
    intro ls w4 F4 e8 N4 J4 eg
    rw [eg] at hq
    dsimp only at hq
    have e8' : x_i (x_si w4 31 6 (iI (tA tk i))) 31 8 = mask ls := by rw [y_i_si, if_neg (by omega)]; exact e8
    rw [e8']
    have F5 : xI (fun p k => p = 31 ∧ k = 6) w4 (x_si w4 31 6 (iI (tA tk i))) := xI_si xI_rf ⟨rfl, rfl⟩
    refine c165 (sh_I F5 (sh_I F4 h)) (JC_I F5 (by omega) (by omega) J4) hlt (fun w5 F6 J5 z5 => b169_111 ⟨Or.inr rfl, hq w5 (xI_tr F4 (xI_tr (xI_w F5 (by unfold mBe; omega)) (xI_w F6 (by unfold mBe; omega)))) (fun _ => ⟨J5, ?_, ?_⟩)⟩)
    · rw [xI_i F6 31 6 (by omega), y_i_si, if_pos ⟨rfl, rfl⟩]
    · intro j hj
      rw [List.length_append, List.length_singleton] at hj
      refine ⟨fun z => (by cases z), fun _ => ?_⟩
      by_cases ej : j = KL.length
      · rw [ej, z5]
        exact ⟨0, by omega, rfl⟩
      · rw [xI_i F6 35 j (by omega), xI_i F5 35 j (by omega)]
        exact (N4 j (by omega)).2 (fun u => (by cases u))
  have F9 : xI (fun p k => p = 31 ∧ 8 ≤ k) w (x_si w 31 9 (nI (i + 1))) := xI_si xI_rf (by omega)
  have be : ∀ w', xI (fun p k => p = 31 ∧ 8 ≤ k) w w' → xI mBe w w' := fun w' q => xI_w q (by unfold mBe; omega)
  refine b169_0 ?_
  rw [hJ.1, tK h hT, sh_k h]
  refine ⟨rfl, by omega, rfl, c137t hT h hT2 hl2 (by omega) (b169_8 ?_)⟩
  have e6 : ∀ v, x_i (x_si w 31 9 v) 31 6 = iI hi := fun v => by rw [y_i_si, if_neg (by omega)]; exact h6
  have gle : iI (tA tk i) ≤ iI hi ↔ tA tk i ≤ hi := by rw [Int32.le_iff_toInt_le, iI_toInt (by omega) (by omega), iI_toInt (by omega) (by omega)]
  rw [nI_1, e6, gle, sh_k h]
  refine ⟨rfl, rfl, fun z => ⟨Or.inl rfl, ?_⟩, fun z => ⟨rfl, ?_⟩⟩
  · have eg : gdl KL V hi tk i last = (false, []) := by unfold gdl; rw [if_pos z]
    rw [eg] at hq
    exact hq _ (be _ F9) (fun y => (by cases y))
  · obtain ⟨G0, hg'⟩ : ∃ G, gdl KL V hi tk i last = G := ⟨_, rfl⟩
    have hg := hg'
    rw [hg'] at hq
    unfold gdl at hg
    rw [if_neg z] at hg
    refine c170 hT hV (sh_I F9 h) (JC_I F9 (by omega) (by omega) hJ) (TK_e (funext fun k => xI_i F9 T k (by omega)) (funext fun k => xI_i F9 (T + 1) k (by omega)) hT2) hv (k := i + 1) (by rw [y_i_si, if_pos ⟨rfl, rfl⟩]) (by omega) (fun w2 F2 G8 G9 => b169_28 ?_)
    have F2' : xI (fun p k => p = 31 ∧ 8 ≤ k) w w2 := xI_tr F9 (xI_w F2 (by omega))
    have h2 := sh_I F2' h
    have k2 : x_k w2 31 = 11 := by rw [sh_k h2]; rfl
    generalize rdl V tk (tk.length - (i + 1)) (i + 1) [] = r at hg G8 G9 f4 ⊢
    obtain ⟨ok, kz, ls⟩ := r
    dsimp only at hg G8 G9 f4 ⊢
    cases ok with
    | false =>
      rw [if_pos rfl] at hg
      rw [← hg] at hq
      exact ⟨fun y => absurd rfl y, fun _ => ⟨Or.inl rfl, hq w2 (be _ F2') (fun y => (by cases y))⟩⟩
    | true =>
      rw [if_neg (by decide)] at hg
      obtain ⟨t1, t2, t3, t4, t5, t6⟩ := f4 rfl
      obtain ⟨u1, u2⟩ := tvN_ok0 t4
      refine ⟨fun _ => ⟨k2, ?_⟩, fun y => absurd (by decide) y⟩
      rw [G8]
      have F3 : ∀ v, xI (fun p k => p = 31 ∧ 8 ≤ k) w (x_si w2 31 10 v) := fun v => xI_si F2' (by omega)
      refine c33 (b169_41 ⟨k2, k2, c171 hT (sh_I (F3 _) h) (JC_I (F3 _) (by omega) (by omega) hJ) hK (TK_e (funext fun k => xI_i (F3 _) T k (by omega)) (funext fun k => xI_i (F3 _) (T + 1) k (by omega)) hT2) hv (k := kz + 1) (tv := tvN ls) (last := last) ?_ u1 ?_ (by omega) f2 f3 (fun w3 F4 G => b169_48 ?_)⟩)
      · rw [y_i_si, if_neg (by omega)]; exact G9 rfl
      · rw [y_i_si, if_pos ⟨rfl, rfl⟩]; exact u2
      · have F5 : xI (fun p k => p = 31 ∧ 8 ≤ k) w w3 := xI_tr (F3 _) (xI_w F4 (by omega))
        have h3 := sh_I F5 h
        have k3 : x_k w3 31 = 11 := by rw [sh_k h3]; rfl
        have e7 : x_r w3 31 7 = T := by rw [xI_r F5]; exact hJ.1
        have K3 : TK T w3 tk := TK_e (funext fun k => xI_i F5 T k (by omega)) (funext fun k => xI_i F5 (T + 1) k (by omega)) hT2
        have J3 : JC T w3 KL V := JC_I F5 (by omega) (by omega) hJ
        have N3 : NMD w3 KL l [] := fun j hj => by rw [xI_i F5 35 j (by omega)]; exact hN j hj
        have e8 : x_i w3 31 8 = mask ls := by rw [xI_i F4 31 8 (by omega), y_i_si, if_neg (by omega)]; exact G8
        have hok := frw_ok hK (tk := tk) (last - (kz + 1)) (kz + 1) (tvN ls) u1
        generalize frw KL tk (last - (kz + 1)) (kz + 1) (tvN ls) = r2 at hg G hok ⊢
        obtain ⟨how, k', tv'⟩ := r2
        dsimp only at hg G hok ⊢
        obtain ⟨p1, p2, p3, p4, p5⟩ := hok
        cases hb : frt tk (how, k', tv') with
        | false =>
          have hb := of_decide_eq_false hb
          dsimp only at hb
          rw [if_neg (show ¬ how = 1 from fun y => hb (Or.inl y)), decide_eq_false (show ¬ (how = 2 ∧ k' = last) from fun y => hb (Or.inr ⟨y.1, by rw [y.2, f3]; decide⟩))] at hg
          rw [← hg] at hq
          exact ⟨fun y => absurd rfl y, fun _ => ⟨Or.inl rfl, hq w3 (be _ F5) (fun y => (by cases y))⟩⟩
        | true =>
          obtain ⟨G1, G2, G3⟩ := G hb
          have hb := of_decide_eq_true hb
          dsimp only at hb
          refine ⟨fun _ => ⟨k3, fun y => ?_, fun y => ?_⟩, fun y => absurd (by decide) y⟩
          · have hw : how = 1 := by
              rcases hb with u | u
              · exact u
              · rw [G3, decide_eq_true u.1] at y
                exact absurd y (by decide)
            rw [if_pos hw] at hg
            rw [e7, nI_1, tK h3 hT, sh_k h3]
            refine ⟨rfl, by omega, rfl, c137t hT h3 K3 hl2 (by omega) (b169_88 ⟨by rw [sh_k h3]; rfl, ?_⟩)⟩
            by_cases h0 : tA tk (i + 1) = 0
            · refine b173_0 ⟨fun x => absurd ?_ x, fun _ => ⟨Or.inl rfl, b169_92 ⟨fun x => absurd rfl x, fun _ => ⟨Or.inl rfl, ?_⟩⟩⟩⟩
              · rw [h0]; rfl
              · rw [decide_eq_false (fun x => x (t5.mpr h0)), Bool.false_and] at hg
                rw [← hg] at hq
                exact hq w3 (be _ F5) (fun y => (by cases y))
            · obtain ⟨v1, v2, v3⟩ := t6 h0
              have hp : ¬ 0 < tA tk k' := by
                rcases p5 hw with u | u
                · rw [show k' = last by omega, f3]; decide
                · exact u
              refine c173 hT h3 J3 hK K3 hv G2 p1 G1 (by omega) f2 f3 (fun j j1 j2 => t3 j (by omega) j2) hp v2 N3 (by omega) (fun w4 F6 N4 => b169_92 ?_)
              have h4 := sh_I F6 h3
              have k4 : x_k w4 31 = 11 := by rw [sh_k h4]; rfl
              have F7 : xI mBe w w4 := xI_tr (be _ F5) (xI_w F6 (by unfold mBe mSp; omega))
              rw [decide_eq_true (show ¬ ls = [] from fun x => h0 (t5.mp x)), Bool.true_and] at hg
              cases hn : nmO KL tk last (-tA tk (i + 1)) tv' k' with
              | false =>
                rw [hn] at hg
                rw [← hg] at hq
                exact ⟨fun x => absurd rfl x, fun _ => ⟨Or.inl rfl, hq w4 F7 (fun y => (by cases y))⟩⟩
              | true =>
                rw [hn] at hg
                exact ⟨fun _ => ⟨k4, k4, k4, lrn ls w4 F7 ((xI_i F6 31 8 (by unfold mSp; omega)).trans e8) N4 (JC_I F6 (by unfold mSp; omega) (by unfold mSp; omega) J3) (hg'.trans hg.symm)⟩, fun x => absurd (by decide) x⟩
          · have hw : how = 2 := by
              rcases hb with u | u
              · rw [G3, decide_eq_false (by omega)] at y
                exact absurd rfl y
              · exact u.1
            rw [if_neg (show ¬ how = 1 by omega)] at hg
            have hr2 := tA_rg hv k'
            have g0 : iI (tA tk k') = 0 ↔ tA tk k' = 0 := iI_eq (b := 0) (by omega) (by omega) (by omega) (by omega)
            have hk0 : tA tk k' = 0 ↔ k' = last := by
              constructor
              · intro x
                apply Classical.byContradiction
                intro x2
                exact t3 k' (by omega) (by omega) x
              · rintro rfl; exact f3
            rw [e7, G2, tK h3 hT, sh_k h3]
            refine ⟨rfl, by omega, rfl, rfl, c137t hT h3 K3 hl2 (by omega) (b169_71 ?_)⟩
            rw [g0, hk0]
            by_cases hkl : k' = last
            · rw [decide_eq_true ⟨hw, hkl⟩] at hg
              exact ⟨fun _ => ⟨k3, k3, k3, lrn ls w3 (be _ F5) e8 (NMD_n N3 rfl (fun _ _ => rfl)) J3 (hg'.trans hg.symm)⟩, fun x => absurd hkl x⟩
            · rw [decide_eq_false (fun x => hkl x.2)] at hg
              rw [← hg] at hq
              exact ⟨fun x => absurd x hkl, fun _ => ⟨Or.inl rfl, hq w3 (be _ F5) (fun y => (by cases y))⟩⟩
theorem gdl_ok (h : (gdl KL V hi tk i last).1 = true) : hi < tA tk i ∧ (rdl V tk (tk.length - (i + 1)) (i + 1) []).1 = true ∧ (gdl KL V hi tk i last).2 = (rdl V tk (tk.length - (i + 1)) (i + 1) []).2.2 := by
  unfold gdl at h ⊢
  by_cases z : tA tk i ≤ hi
  · rw [if_pos z] at h; cases h
  · rw [if_neg z] at h ⊢
    generalize rdl V tk (tk.length - (i + 1)) (i + 1) [] = r at h ⊢
    obtain ⟨ok, kz, ls⟩ := r
    dsimp only at h ⊢
    cases ok with
    | false => rw [if_pos rfl] at h; cases h
    | true =>
      refine ⟨by omega, rfl, ?_⟩
      rw [if_neg (by decide)]
      split <;> rfl
/-- verdict -/
theorem c163 (hP : P = 5 ∨ P = 11) (hT : T = 17 ∨ T = 19) (hg : g ≤ 40) (hgl : g ≤ cs.length) (hl : cs.length ≤ 63) (hV : V ≤ 16) (hco : cok cs) (hv : TV tk) (h : SH w) (hS : PS P w hf hs V g cs st mk sp) (hT2 : TK T w tk) (hq : ∀ w', xF mBe x_no (fun p k => p = 31 ∧ k = 7) w w' → SH w' → Q (.inl (some (.int (iI (jdg V g cs tk))))) w') : x_R x_prog scr 163 0 [some (.ref 31), some (.ref P), some (.ref T), o3, o4, o5] [] w Q := by
  have hT' : T = 17 ∨ T = 19 ∨ T = 22 := by omega
  have hl2 := hv.1
  refine b163_0 ⟨by rw [sh_k h]; rfl, c164 hP hT hg hgl hl hV h hS (fun w1 F1 h1 J1 N1 e6 => b163_6 ?_)⟩
  have K1 : TK T w1 tk := TK_e (funext fun k => F1.2.1 T k (by unfold mBe; omega)) (funext fun k => F1.2.1 (T + 1) k (by unfold mBe; omega)) hT2
  have key : ∀ (d : Nat) (KL : List xKn) (hi : Int) (l i : Nat) (w2 : xW) (o1 o5 : Option Value), xI mBe w1 w2 → JC T w2 KL V → KI KL hi → x_i w2 31 6 = iI hi → 0 ≤ hi → NMD w2 KL l [] → 1 ≤ l → l + d = 2001 → i ≤ tk.length → 4 * KL.length ≤ 4 * g + i → (∀ w', xI mBe w1 w' → Q (.inl (some (.int (iI (jdl V tk d KL hi l i))))) w') → x_R x_prog scr 163 11 [some (.ref 31), o1, some (.ref T), some (.int (nI i)), some (.int (nI l)), o5] [] w2 Q := by
    intro d
    induction d with
    | zero =>
      intro KL hi l i w2 o1 o5 F J2 hK e6 hh hN hl1 hld hi2 h4 hq
      have g2 : (2000 : Int32) < nI l ↔ 2000 < l := nI_ltI (a := 2000) (by omega) (by omega)
      refine b163_11 ?_
      rw [g2]
      exact ⟨fun _ => hq w2 F, fun z => absurd (by omega) z⟩
    | succ d ih =>
      intro KL hi l i w2 o1 o5 F J2 hK e6 hh hN hl1 hld hi2 h4 hq
      have h2 := sh_I F h1
      have k31 : x_k w2 31 = 11 := by rw [sh_k h2]; rfl
      have K2 : TK T w2 tk := TK_e (funext fun k => xI_i F T k (by unfold mBe; omega)) (funext fun k => xI_i F (T + 1) k (by unfold mBe; omega)) K1
      have g2 : (2000 : Int32) < nI l ↔ 2000 < l := nI_ltI (a := 2000) (by omega) (by omega)
      have gle : nI tk.length ≤ nI i ↔ tk.length ≤ i := nI_leI (by omega) (by omega)
      have ng : - nI l = iI (-(l : Int)) := iI_neg (by omega)
      unfold jdl at hq
      refine b163_11 ?_
      rw [g2, K2.1, tK h2 hT', gle]
      refine ⟨fun z => by omega, fun _ => ⟨rfl, fun z => ?_, fun z => ⟨rfl, c166 hT' h2 K2 hv (by omega) (b163_32 ?_)⟩⟩⟩
      · rw [if_pos z] at hq
        exact hq w2 F
      · rw [if_neg z] at hq
        rcases lnE_rg (tk := tk) (i := i) (by omega) with e | ⟨e, e1, e2, e3, e4, -⟩
        · rw [e, if_pos (by decide)] at hq
          rw [e, ng]
          exact ⟨fun y => absurd (by decide) y, fun _ => hq w2 F⟩
        · have et : ((e : Int) + 1).toNat = e + 1 := by omega
          have ec : iI ((e : Int) + 1) = nI (e + 1) := by rw [show (e : Int) + 1 = ((e + 1 : Nat) : Int) by omega, iI_n]
          rw [e1, if_neg (show ¬ (e : Int) + 1 < 0 by omega), et, Nat.add_sub_cancel] at hq
          rw [e1, ec, nI_1, tK h2 hT']
          refine ⟨fun _ => ⟨rfl, c137t hT' h2 K2 hl2 (by omega) (b163_51 ?_)⟩, fun y => absurd (nI_nm1 (by omega)) y⟩
          have hr := tA_rg hv (i + 1)
          have hri := tA_rg hv i
          have g10 : iI (tA tk (i + 1)) = 10000 ↔ tA tk (i + 1) = 10000 := iI_eq (b := 10000) (by omega) (by omega) (by omega) (by omega)
          have g0 : iI (tA tk (i + 1)) = 0 ↔ tA tk (i + 1) = 0 := iI_eq (b := 0) (by omega) (by omega) (by omega) (by omega)
          rw [g10]
          refine ⟨fun y => ⟨k31, ?_⟩, fun y => ⟨k31, ?_⟩⟩
          · rw [if_neg y] at hq
            refine c169 hT' hV h2 J2 hK e6 hh K2 hv hN (by omega) (by omega) (by omega) e1 y (fun w3 F3 G => b163_78 ?_)
            have F4 := xI_tr F F3
            have h3 := sh_I F4 h1
            have K3 : TK T w3 tk := TK_e (funext fun k => xI_i F4 T k (by unfold mBe; omega)) (funext fun k => xI_i F4 (T + 1) k (by unfold mBe; omega)) K1
            cases hb : (gdl KL V hi tk i e).1 with
            | false =>
              rw [if_pos hb] at hq
              rw [ng]
              exact ⟨fun x => absurd rfl x, fun _ => hq w3 F4⟩
            | true =>
              obtain ⟨G1, G2, G3⟩ := G hb
              obtain ⟨q1, q2, q3⟩ := gdl_ok hb
              obtain ⟨f1, f2, f3, f4⟩ := rdl_ln (V := V) hV (by omega) e1 y
              obtain ⟨t1, t2, t3, t4, t5, t6⟩ := f4 q2
              rw [← q3] at t4 t5
              rw [if_neg (show ¬ (gdl KL V hi tk i e).1 = false by rw [hb]; decide)] at hq
              rw [nI_1, tK h3 hT']
              refine ⟨fun _ => ⟨rfl, c137t hT' h3 K3 hl2 (by omega) (b163_92 ?_)⟩, fun x => absurd (by decide) x⟩
              rw [g0, ← t5]
              refine ⟨fun x => ?_, fun x => ?_⟩
              · rw [if_neg x] at hq
                obtain ⟨v1, -⟩ := t6 (fun u => x (t5.mpr u))
                rw [nI_1]
                exact ih _ (tA tk i) (l + 1) (e + 1) w3 _ _ F4 G1 (KI_app hK hh q1 (by omega) t4) G2 (by omega) G3 (by omega) (by omega) (by omega) (by rw [List.length_append, List.length_singleton]; omega) hq
              · rw [if_pos (Classical.not_not.mp x), iI_n] at hq
                exact hq w3 F4
          · rw [if_pos (Classical.not_not.mp y)] at hq
            have ea : nI i + 2 = nI (i + 2) := by rw [show (2 : Int32) = nI 2 from rfl, nI_add]
            rw [ea]
            refine c167 hT' h2 J2 hK K2 hv (k := i + 2) (by omega) (fun w3 F3 J3 I3 L3 => b163_64 ?_)
            have F4 : xI mBe w1 w3 := xI_tr F (xI_w F3 (by unfold mBe; omega))
            cases hb : (dra tk (tk.length - (i + 2)) (i + 2) KL).1 with
            | false =>
              rw [if_neg (show ¬ (dra tk (tk.length - (i + 2)) (i + 2) KL).1 = true by rw [hb]; decide)] at hq
              rw [ng]
              exact ⟨fun x => absurd rfl x, fun _ => hq w3 F4⟩
            | true =>
              rw [if_pos hb] at hq
              rw [nI_1]
              exact ⟨fun _ => ih _ hi (l + 1) (e + 1) w3 _ _ F4 J3 I3 ((xI_i F3 31 6 (by omega)).trans e6) hh (NMD_n hN L3 (fun j _ => xI_i F3 35 j (by omega))) (by omega) (by omega) (by omega) (by omega) hq, fun x => absurd (by decide) x⟩
  exact key 2000 (kn0 cs g) g 1 0 w1 _ _ xI_rf J1 (KI_0 hco hg) e6 (by omega) N1 (by omega) (by omega) (by omega) (by rw [kn0_len]; omega) (fun w2 F2 => hq w2 (xF_tr F1 (xF_w F2 (fun _ _ z => z) (fun _ _ z => z) (fun _ _ z => z.elim))) (sh_I F2 h1))
/-- judge of the class -/
theorem c162 {t : Nat → Nat} {sz fa : Nat} (h : SH w) (ht : TT w t sz) (hA : AK fa hf hs V g cs st mk sp tk) (hC : CC w fa hf hs V g cs st mk sp tk)
    (hq1 : hf = true → ∀ w', xLo 0 w w' → SH w' → TT w' t sz → CC w' fa hf hs V g cs st mk sp tk → Q (.inl (some (.int (iI (jdg V g cs tk))))) w')
    (hq2 : hf = false → ∀ w', xLo 1 w w' → SH w' → TT w' t sz → CC w' fa hf hs V g cs st mk sp tk → Q (.inr 2) w') : x_R x_prog scr 162 0 [some (.ref 0)] [] w Q := by
  obtain ⟨hfa, hV, hg40, hgl, hl63, hst80, hco, hst0, hrs, hsf, hmk, htl, htv⟩ := hA
  obtain ⟨P, D, T, S, hP, hT, ⟨r5, r6, r7, r8⟩, h9, hS, hK⟩ := id hC
  have hPP : P = 5 ∨ P = 11 := by omega
  have hTT : T = 17 ∨ T = 19 := by omega
  have k0 : x_k w 0 = 3 := by rw [sh_k h]; rfl
  refine b162_0 ?_
  rw [r5, r7, sr0_4 h, pK h hPP, hS.1.1]
  cases hf with
  | false => exact ⟨k0, by omega, rfl, fun z => absurd rfl z, fun _ => hq2 rfl _ xLo_lost h ht hC⟩
  | true =>
    refine ⟨k0, by omega, rfl, fun _ => ⟨k0, by omega, k0, by omega, k0, by omega, by rw [sh_k h]; rfl, c163 hPP hTT hg40 hgl hl63 hV hco ⟨htl, htv⟩ h hS hK (fun w1 F1 h1 => b162_33 (hq1 rfl w1 ?_ h1 ?_ ?_))⟩, fun z => absurd (by decide) z⟩
    · exact xLo_F F1 (fun p k hp => ⟨by unfold mBe; omega, fun z => z, by omega⟩)
    · exact TT_F F1 ht (by unfold mBe; omega) (by unfold mBe; omega) (by unfold mBe; omega) (by unfold mBe; omega)
    · have er : ∀ k, x_r w1 0 k = x_r w 0 k := fun k => F1.2.2.2 0 k (by omega)
      exact ⟨P, D, T, S, hP, hT, ⟨(er 5).trans r5, (er 6).trans r6, (er 7).trans r7, (er 8).trans r8⟩, (F1.2.1 0 9 (by unfold mBe; omega)).trans h9, PS_e (fun p _ _ => funext fun k => F1.2.1 p k (by unfold mBe; omega)) (funext fun k => F1.2.2.1 P k (fun z => z)) (funext fun k => F1.2.2.1 (P + 5) k (fun z => z)) hS, TK_e (funext fun k => F1.2.1 T k (by unfold mBe; omega)) (funext fun k => F1.2.1 (T + 1) k (by unfold mBe; omega)) hK⟩
end X78
