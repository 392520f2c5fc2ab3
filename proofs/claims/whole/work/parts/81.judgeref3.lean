/-! Judging, on the reference's side: names, a line, the verdict. -/
section X81
variable {scr : Nat × (Nat → Int32)} {w : xW} {Q : xO → xW → Prop} {w1 : xW} {n c g d V l i j k last to : Nat} {hf hs : Bool} {mk sp : Nat → Bool} {cs : List (List Int)} {st : xSt} {tk ls : List Int} {KL : List xKn} {v hi o : Int} {tv : Nat → Int} {nm : List Nat} {o1 o2 o3 o4 o5 o6 : Option Value}
theorem nI_pos0 {a : Nat} (h : a < 2 ^ 30) : (0 : Int32) ≤ nI a := by
  have := (nI_leI (a := 0) (b := a) (by omega) (by omega)).mpr (Nat.zero_le _)
  rw [nI_0] at this
  exact this
/-- where a good group ends -/
theorem gp_to (hK : KI KL hi) (ho : lok o) (ht : tok tv) (hc : c < KL.length) (hk : k ≤ to) (hto : to ≤ last) (hps : ∀ x, k ≤ x → x < to → 0 < tA tk x) (hnp : ¬ 0 < tA tk to) (hb : (gp KL tk last o tv c k).1 = true) : (gp KL tk last o tv c k).2 = to := by
  have stp : ∀ (d k : Nat) (tv : Nat → Int), k + d = last → k ≤ to → (∀ x, k ≤ x → x < to → 0 < tA tk x) → (frw KL tk d k tv).2.1 ≤ to := by
    intro d
    induction d with
    | zero => intro k tv h1 h2 h3; exact h2
    | succ d ih =>
      intro k tv h1 h2 h3
      unfold frw
      by_cases z : 0 < tA tk k
      · have : ¬ k = to := fun e => hnp (by rw [← e]; exact z)
        rw [if_pos z]
        split
        · exact ih (k + 1) _ (by omega) (by omega) (fun x x1 x2 => h3 x (by omega) x2)
        · show k + 1 ≤ to
          omega
      · rw [if_neg z]
        exact h2
  obtain ⟨g1, g2, g3⟩ := gp_rg (tk := tk) (last := last) (k := k) hK ho ht hc (by omega)
  have n := g3 hb
  have le : (gp KL tk last o tv c k).2 ≤ to := by
    unfold gp
    split
    · exact stp (last - k) k _ (by omega) hk hps
    · exact hk
  apply Classical.byContradiction
  intro e
  exact n (hps _ g1 (by omega))
def mNm : Nat → Nat → Prop := fun p k => (p = 36 ∧ (k = 32 ∨ k = 34)) ∨ p = 51 ∨ p = 52 ∨ p = 70
/-- who was named -/
def NMR (w : xW) (KL : List xKn) (nm : List Nat) : Prop := ∀ j, j < KL.length → x_i w 70 j = b32 (decide (j ∈ nm))
/-- names -/
theorem c188 (h : SH w) (hJ : JR w KL) (hK : KI KL hi) (hT : TR w tk) (hv : TV tk) (ho : lok o) (ht : tok tv) (hV : VT w tv) (hk : k ≤ last) (hla : last < tk.length) (hl0 : tA tk last = 0) (hnz : ∀ j, k ≤ j → j < last → ¬ tA tk j = 0) (hp : ¬ 0 < tA tk k) (hq : ∀ w', xI mNm w w' → Q (.inl (some (.int (b32 (nmO KL tk last o tv k))))) w') : x_R x_prog scr 188 0 [some (.ref 36), some (.int (nI k)), some (.int (nI last)), some (.int (iI o)), o4, o5, o6] [] w Q := by
  have hl2 := hv.1
  have h540 := hJ.2.1
  have ho' := ho
  unfold lok at ho'
  unfold nmO at hq
  -- are all named?
  have fin : ∀ (nm : List Nat) (w1 : xW), xI mNm w w1 → NMR w1 KL nm → ∀ (d j : Nat) (b : Bool) (o1 o2 o4 : Option Value), j + d = KL.length → Q (.inl (some (.int (b32 (b && decide (∀ c, c < KL.length → (j ≤ c ∧ (kn KL c).2.2 = true ∧ o ∈ (kn KL c).2.1) → c ∈ nm)))))) w1 → x_R x_prog scr 188 152 [some (.ref 36), o1, o2, some (.int (iI o)), o4, some (.int (b32 b)), some (.int (nI j))] [] w1 Q := by
    intro nm w1 F hN d
    have h1 := sh_I F h
    have J1 : JR w1 KL := JR_I F (by unfold mNm; omega) (by unfold mNm; omega) hJ
    obtain ⟨a1, a2, a3⟩ := id J1
    induction d with
    | zero =>
      intro j b o1 o2 o4 hj hq
      rw [decide_eq_true (fun c u1 u2 => by have := u2.1; omega), Bool.and_true] at hq
      refine b188_152 ?_
      rw [a1, sh_k h1]
      exact ⟨rfl, fun _ => ⟨by cases b; exact Or.inl rfl; exact Or.inr rfl, hq⟩, fun z => absurd (nI_le (by omega) (by omega)) z⟩
    | succ d ih =>
      intro j b o1 o2 o4 hj hq
      obtain ⟨b1, b2, b3⟩ := a3 j (by omega)
      have hcl := (hK.1 j (by omega)).2.2
      have vp : vp_in (nI j) 720 := vp_in_nI (by omega) (by omega)
      have gb : b32 (kn KL j).2.2 = 0 ↔ ¬ (kn KL j).2.2 = true := by
        cases (kn KL j).2.2 <;> decide
      have gn : b32 (decide (j ∈ nm)) = 0 ↔ ¬ j ∈ nm := by
        by_cases u : j ∈ nm
        · rw [decide_eq_true u]; exact ⟨fun y => absurd y (by decide), fun y => absurd u y⟩
        · rw [decide_eq_false u]; exact ⟨fun _ => u, fun _ => rfl⟩
      have nx : ((kn KL j).2.2 = true → o ∈ (kn KL j).2.1 → j ∈ nm) → decide (∀ c, c < KL.length → (j ≤ c ∧ (kn KL c).2.2 = true ∧ o ∈ (kn KL c).2.1) → c ∈ nm) = decide (∀ c, c < KL.length → (j + 1 ≤ c ∧ (kn KL c).2.2 = true ∧ o ∈ (kn KL c).2.1) → c ∈ nm) := by
        intro hh
        rw [decide_eq_decide]
        constructor
        · intro u c c1 c2; exact u c c1 ⟨by have := c2.1; omega, c2.2⟩
        · intro u c c1 c2
          by_cases e : c = j
          · rw [e] at c2 ⊢; exact hh c2.2.1 c2.2.2
          · exact u c c1 ⟨by have := c2.1; omega, c2.2⟩
      refine b188_152 ?_
      rw [a1, sr36_54 h1, sr36_55 h1, sh_k h1, sh_l h1, nI_clamp (show j < 2 ^ 31 by omega), b3, hN j (by omega), gb, gn, nI_1]
      refine ⟨rfl, fun z => absurd z (nI_ge (by omega) (by omega)), fun _ => ?_⟩
      cases b with
      | false =>
        rw [Bool.false_and] at hq
        exact ⟨fun _ => ih (j + 1) false _ _ _ (by omega) (by rw [Bool.false_and]; exact hq), fun z => absurd rfl z⟩
      | true =>
        refine ⟨fun z => absurd z (by decide), fun _ => ⟨rfl, by decide, ⟨rfl, vp⟩, fun y => ?_, fun y => ⟨rfl, by decide, ⟨rfl, vp⟩, fun x => ?_, fun x => ⟨rfl, c189 hcl (by omega) ho h1 b2 (b188_193 ?_)⟩⟩⟩⟩
        · rw [nx (fun u => absurd u y)] at hq
          exact ih (j + 1) true _ _ _ (by omega) hq
        · rw [nx (fun _ _ => Classical.not_not.mp x)] at hq
          exact ih (j + 1) true _ _ _ (by omega) hq
        · have x := Classical.not_not.mp x
          have y := Classical.not_not.mp y
          rw [nI_1]
          by_cases hm : o ∈ (kn KL j).2.1
          · rw [decide_eq_true hm]
            rw [decide_eq_false (fun u => x (u j (by omega) ⟨Nat.le_refl _, y, hm⟩)), Bool.and_false] at hq
            exact ⟨fun _ => ih (j + 1) false _ _ _ (by omega) (by rw [Bool.false_and]; exact hq), fun u => absurd (by decide) u⟩
          · rw [decide_eq_false hm]
            rw [nx (fun _ u => absurd u hm)] at hq
            exact ⟨fun u => absurd rfl u, fun _ => ih (j + 1) true _ _ _ (by omega) hq⟩
  -- one name after another
  have key : ∀ (d k : Nat) (nm : List Nat) (w1 : xW) (o1 o5 o6 : Option Value), xI mNm w w1 → VT w1 tv → VB w1 tv → NMR w1 KL nm → k ≤ last → (∀ j, k ≤ j → j < last → ¬ tA tk j = 0) → last < k + d → ¬ 0 < tA tk k → (∀ w', xI mNm w w' → Q (.inl (some (.int (b32 ((nms KL tk last o tv d k nm).1 && aln KL o (nms KL tk last o tv d k nm).2))))) w') → x_R x_prog scr 188 33 [some (.ref 36), o1, some (.int (nI last)), some (.int (iI o)), some (.int (nI k)), o5, o6] [] w1 Q := by
    intro d
    induction d with
    | zero => intro k nm w1 o1 o5 o6 F V1 B1 hN hk hnz hd hp hq; omega
    | succ d ih =>
      intro k nm w1 o1 o5 o6 F V1 B1 hN hk hnz hd hp hq
      have h1 := sh_I F h
      have k12 : x_k w1 36 = 12 := by rw [sh_k h1]; rfl
      have T1 : TR w1 tk := TR_I F (by unfold mNm; omega) (by unfold mNm; omega) hT
      have J1 : JR w1 KL := JR_I F (by unfold mNm; omega) (by unfold mNm; omega) hJ
      have hr := tA_rg hv k
      unfold nms at hq
      by_cases ek : last ≤ k
      · rw [if_pos ek] at hq
        dsimp only at hq
        refine b188_33 ⟨fun _ => ?_, fun z => absurd (nI_le (by omega) (by omega)) z⟩
        have e : aln KL o nm = decide (∀ c, c < KL.length → (0 ≤ c ∧ (kn KL c).2.2 = true ∧ o ∈ (kn KL c).2.1) → c ∈ nm) := by
          unfold aln
          rw [decide_eq_decide]
          exact ⟨fun u c h g => u c h g.2.1 g.2.2, fun u c h g1 g2 => u c h ⟨Nat.zero_le _, g1, g2⟩⟩
        rw [e] at hq
        exact fin nm w1 F hN KL.length 0 true _ _ _ (by omega) (hq w1 F)
      · rw [if_neg ek] at hq
        have hk0 := hnz k (Nat.le_refl _) (by omega)
        refine b188_33 ⟨fun z => absurd z (nI_ge (by omega) (by omega)), fun _ => ?_⟩
        rw [sr36_25 h1, sh_k h1, sh_l h1, nI_clamp (show k < 2 ^ 31 by omega), T1.2 k (by omega), iI_ng (by omega) (by omega)]
        refine ⟨rfl, by decide, ⟨rfl, vp_in_nI (N := 2000) (by omega) (by omega)⟩, rfl, c182 h1 J1 hK (by omega) (b188_51 ?_)⟩
        rcases fdk_rg KL (- tA tk k) with ⟨e, -⟩ | ⟨i, e, e1, e2, e3⟩
        · rw [e, if_pos (by decide)] at hq
          rw [e, iI_lt0 (by omega) (by omega)]
          exact ⟨fun _ => ⟨Or.inl rfl, hq w1 F⟩, fun y => absurd (by decide) y⟩
        · rw [e, if_neg (show ¬ (i : Int) < 0 by omega)] at hq
          have et : ((i : Int)).toNat = i := rfl
          rw [et] at hq
          have hcl := (hK.1 i e1).2.2
          have hRL := (J1.2.2 i e1).2.1
          have vp : vp_in (nI i) 720 := vp_in_nI (by omega) (by omega)
          have gn : b32 (decide (i ∈ nm)) = 0 ↔ ¬ i ∈ nm := by
            by_cases u : i ∈ nm
            · rw [decide_eq_true u]; exact ⟨fun y => absurd y (by decide), fun y => absurd u y⟩
            · rw [decide_eq_false u]; exact ⟨fun _ => u, fun _ => rfl⟩
          rw [e, iI_lt0 (by omega) (by omega), iI_n, sr36_55 h1, sh_k h1, sh_l h1, nI_clamp (show i < 2 ^ 31 by omega), hN i e1, gn]
          refine ⟨fun z => by omega, fun _ => ⟨rfl, by decide, ⟨rfl, vp⟩, fun y => ⟨Or.inl rfl, ?_⟩, fun y => ⟨rfl, c189 hcl (by omega) ho h1 hRL (b188_75 ?_)⟩⟩⟩
          · rw [if_pos (Classical.not_not.mp y)] at hq
            exact hq w1 F
          · have y := Classical.not_not.mp y
            rw [if_neg y] at hq
            by_cases hm : o ∈ (kn KL i).2.1
            · rw [if_neg (fun u => u hm)] at hq
              rw [decide_eq_true hm]
              refine ⟨fun _ => ?_, fun u => absurd (by decide) u⟩
              rw [sr36_55 h1, sh_k h1, sh_l h1, nI_clamp (show i < 2 ^ 31 by omega), nI_1]
              refine ⟨rfl, by decide, ⟨rfl, vp, Or.inr rfl⟩, ?_⟩
              have F2 : xI (fun p _ => p = 70) w1 (x_si w1 70 i 1) := xI_si xI_rf rfl
              have N2 : NMR (x_si w1 70 i 1) KL (i :: nm) := fun j hj => by
                rw [y_i_si]
                by_cases ej : j = i
                · rw [if_pos ⟨rfl, ej⟩, decide_eq_true (List.mem_cons.mpr (Or.inl ej))]; rfl
                · rw [if_neg (fun u => ej u.2), hN j hj]
                  have : decide (j ∈ i :: nm) = decide (j ∈ nm) := by
                    rw [decide_eq_decide, List.mem_cons]
                    exact ⟨fun u => u.resolve_left ej, Or.inr⟩
                  rw [this]
              have V2 : VT (x_si w1 70 i 1) tv := VT_I F2 V1 (by omega)
              have B2 : VB (x_si w1 70 i 1) tv := fun v hv => (xI_i F2 52 v (by omega)).trans (B1 v hv)
              have FF : xI mNm w (x_si w1 70 i 1) := xI_tr F (xI_w F2 (by unfold mNm; omega))
              generalize x_si w1 70 i 1 = w2 at N2 V2 B2 FF ⊢
              have h2 := sh_I FF h
              have T2 : TR w2 tk := TR_I FF (by unfold mNm; omega) (by unfold mNm; omega) hT
              have J2 : JR w2 KL := JR_I FF (by unfold mNm; omega) (by unfold mNm; omega) hJ
              -- the group
              have grp : ∀ to, k + 1 ≤ to → to ≤ last → (∀ x, k + 1 ≤ x → x < to → 0 < tA tk x) → ¬ 0 < tA tk to → x_R x_prog scr 190 0 [some (.ref 36), some (.int (nI i)), some (.int (iI o)), some (.int (nI (k + 1))), some (.int (nI to)), none, none] [] w2 (x_back x_prog 188 126 129 [some (.ref 36), none, some (.int (nI last)), some (.int (iI o)), some (.int (nI k)), some (.int (nI i)), some (.int (nI to))] [] (fun pc L st w => x_R x_prog scr 188 pc L st w Q)) := by
                intro to t1 t2 t3 t4
                refine c190 h2 J2 hK T2 hv e1 ho ht V2 t1 t2 hla t3 t4 (fun w3 F3 => b188_129 ?_)
                have F4 : xI mNm w w3 := xI_tr FF (xI_w F3 (by unfold mNm mFw; omega))
                have h3 := sh_I F4 h
                obtain ⟨g1, g2, g3⟩ := gp_rg (tk := tk) (last := last) (k := k + 1) hK ho ht e1 (by omega)
                cases hb : (gp KL tk last o tv i (k + 1)).1 with
                | false =>
                  rw [if_neg (show ¬ (gp KL tk last o tv i (k + 1)).1 = true by rw [hb]; decide)] at hq
                  exact ⟨fun u => absurd rfl u, fun _ => ⟨Or.inl rfl, hq w3 F4⟩⟩
                | true =>
                  rw [if_pos hb] at hq
                  have eg : (gp KL tk last o tv i (k + 1)).2 = to := gp_to hK ho ht e1 t1 t2 t3 t4 hb
                  rw [eg] at hq
                  have B3 : VB w3 tv := fun v hv => (xI_i F3 52 v (by unfold mFw; omega)).trans (B2 v hv)
                  have N3 : NMR w3 KL (i :: nm) := fun j hj => (xI_i F3 70 j (by unfold mFw; omega)).trans (N2 j hj)
                  refine ⟨fun _ => ⟨by rw [sh_k h3]; rfl, c122 (b := 0) h3 B3 (fun w4 F5 V4 _ => b188_139 ?_)⟩, fun u => absurd (by decide) u⟩
                  exact ih to (i :: nm) w4 _ _ _ (xI_tr F4 (xI_w F5 (by unfold mNm; omega))) V4 (fun v hv => (xI_i F5 52 v (by omega)).trans (B3 v hv)) (fun j hj => (xI_i F5 70 j (by omega)).trans (N3 j hj)) t2 (fun j j1 j2 => hnz j (by omega) j2) (by omega) t4 hq
              -- where it ends
              have sk : ∀ (e to : Nat) (o1 : Option Value), to + e = last → k + 1 ≤ to → (∀ x, k + 1 ≤ x → x < to → 0 < tA tk x) → x_R x_prog scr 188 94 [some (.ref 36), o1, some (.int (nI last)), some (.int (iI o)), some (.int (nI k)), some (.int (nI i)), some (.int (nI to))] [] w2 Q := by
                intro e
                induction e with
                | zero =>
                  intro to o1 t1 t2 t3
                  have et : to = last := by omega
                  refine b188_94 ?_
                  rw [nI_1]
                  exact ⟨fun _ => ⟨by rw [sh_k h2]; rfl, grp to t2 (by omega) t3 (by rw [et, hl0]; decide)⟩, fun z => absurd (nI_le (by omega) (by omega)) z⟩
                | succ e ih2 =>
                  intro to o1 t1 t2 t3
                  have hrt := tA_rg hv to
                  have g0 : iI (tA tk to) ≤ 0 ↔ ¬ 0 < tA tk to := by
                    rw [Int32.le_iff_toInt_le, iI_toInt (by omega) (by omega)]
                    show tA tk to ≤ 0 ↔ _
                    omega
                  refine b188_94 ?_
                  rw [nI_1, sr36_25 h2, sh_k h2, sh_l h2, nI_clamp (show to < 2 ^ 31 by omega), T2.2 to (by omega), g0, nI_1]
                  refine ⟨fun z => absurd z (nI_ge (by omega) (by omega)), fun _ => ⟨rfl, by decide, ⟨rfl, vp_in_nI (N := 2000) (by omega) (by omega)⟩, fun z => ⟨rfl, grp to t2 (by omega) t3 z⟩, fun z => ih2 (to + 1) _ (by omega) (by omega) (fun x x1 x2 => ?_)⟩⟩
                  by_cases ex : x = to
                  · rw [ex]; exact Classical.not_not.mp z
                  · exact t3 x x1 (by omega)
              exact sk (last - (k + 1)) (k + 1) _ (by omega) (by omega) (fun x x1 x2 => by omega)
            · rw [if_pos hm] at hq
              rw [decide_eq_false hm]
              exact ⟨fun u => absurd rfl u, fun _ => ⟨Or.inl rfl, hq w1 F⟩⟩
  -- nobody is named at first
  have clr : ∀ (d j : Nat) (w1 : xW) (o5 o6 : Option Value), xI (fun p _ => p = 70) w w1 → (∀ i, i < j → x_i w1 70 i = 0) → j + d = KL.length → x_R x_prog scr 188 3 [some (.ref 36), some (.int (nI k)), some (.int (nI last)), some (.int (iI o)), some (.int (nI j)), o5, o6] [] w1 Q := by
    intro d
    induction d with
    | zero =>
      intro j w1 o5 o6 F hz hj
      have h1 := sh_I F h
      have e50 : x_i w1 36 50 = nI KL.length := (xI_i F 36 50 (by omega)).trans hJ.1
      have V1 : VT w1 tv := VT_I F hV (by omega)
      refine b188_3 ?_
      rw [e50, sh_k h1]
      refine ⟨rfl, fun _ => ⟨rfl, c117 h1 V1 (fun w2 F2 B2 => b188_30 ?_)⟩, fun z => absurd (nI_le (by omega) (by omega)) z⟩
      exact key 2001 k [] w2 _ _ _ (xI_tr (xI_w F (by unfold mNm; omega)) (xI_w F2 (by unfold mNm; omega))) (VT_I F2 V1 (by omega)) B2 (fun j hj => by rw [xI_i F2 70 j (by omega), hz j (by omega), decide_eq_false (fun u => (by cases u))]; rfl) hk hnz (by omega) hp hq
    | succ d ih =>
      intro j w1 o5 o6 F hz hj
      have h1 := sh_I F h
      have e50 : x_i w1 36 50 = nI KL.length := (xI_i F 36 50 (by omega)).trans hJ.1
      refine b188_3 ?_
      rw [e50, sr36_55 h1, sh_k h1, sh_l h1, nI_clamp (show j < 2 ^ 31 by omega), nI_1]
      refine ⟨rfl, fun z => absurd z (nI_ge (by omega) (by omega)), fun _ => ⟨rfl, by decide, ⟨rfl, vp_in_nI (N := 720) (by omega) (by omega), Or.inl rfl⟩, ih (j + 1) _ _ _ (xI_si F rfl) (fun i hi => ?_) (by omega)⟩⟩
      rw [y_i_si]
      by_cases ej : i = j
      · rw [if_pos ⟨rfl, ej⟩]
      · rw [if_neg (fun u => ej u.2)]
        exact hz i (by omega)
  exact b188_0 (clr KL.length 0 w _ _ xI_rf (fun i hi => by omega) (by omega))
/-- isFollowed -/
theorem c185 (h : SH w) (hJ : JR w KL) (hK : KI KL hi) (hT : TR w tk) (hv : TV tk) (hls : cl0 ls) (hV : VT w (tvN ls)) (hkz : i + 1 + ls.length < last) (hla : last < tk.length) (hl0 : tA tk last = 0) (hnz : ∀ j, i + 1 + ls.length < j → j < last → ¬ tA tk j = 0) (hlit : ¬ ls = [] → lok (tA tk (i + 1))) (hq : ∀ w', xI mNm w w' → Q (.inl (some (.int (b32 (if (frw KL tk (last - (i + 1 + ls.length + 1)) (i + 1 + ls.length + 1) (tvN ls)).1 = 1 then decide (¬ ls = []) && nmO KL tk last (- tA tk (i + 1)) (frw KL tk (last - (i + 1 + ls.length + 1)) (i + 1 + ls.length + 1) (tvN ls)).2.2 (frw KL tk (last - (i + 1 + ls.length + 1)) (i + 1 + ls.length + 1) (tvN ls)).2.1 else decide ((frw KL tk (last - (i + 1 + ls.length + 1)) (i + 1 + ls.length + 1) (tvN ls)).1 = 2 ∧ (frw KL tk (last - (i + 1 + ls.length + 1)) (i + 1 + ls.length + 1) (tvN ls)).2.1 = last)))))) w') : x_R x_prog scr 185 0 [some (.ref 36), some (.int (nI i)), some (.int (nI ls.length)), some (.int (nI (last + 1))), o4, o5, o6] [] w Q := by
  have hl := hv.1
  have h16 := cl0_16 hls
  have ea : nI i + nI ls.length + 2 = nI (i + 1 + ls.length + 1) := by
    rw [nI_add, show (2 : Int32) = nI 2 from rfl, nI_add]
    congr 1
    omega
  have key : ∀ (d x : Nat) (tv : Nat → Int) (w1 : xW) (o3 : Option Value), xI mFw w w1 → VT w1 tv → tok tv → x + d = last → (∀ w' , xI mFw w w' → VT w' (frw KL tk d x tv).2.2 → x_R x_prog scr 185 57 [some (.ref 36), some (.int (nI i)), some (.int (nI ls.length)), none, some (.int (nI (frw KL tk d x tv).2.1)), some (.int (nI last)), some (.int (nI (frw KL tk d x tv).1))] [] w' Q) → x_R x_prog scr 185 15 [some (.ref 36), some (.int (nI i)), some (.int (nI ls.length)), o3, some (.int (nI x)), some (.int (nI last)), some (.int (nI 1))] [] w1 Q := by
    intro d
    induction d with
    | zero =>
      intro x tv w1 o3 F V1 ht hx nx
      have ex : x = last := by omega
      exact b185_15 ⟨fun _ => nx w1 F V1, fun z => absurd (nI_le (by omega) (by omega)) z⟩
    | succ d ih =>
      intro x tv w1 o3 F V1 ht hx nx
      have h1 := sh_I F h
      have T1 : TR w1 tk := TR_I F (by unfold mFw; omega) (by unfold mFw; omega) hT
      have J1 : JR w1 KL := JR_I F (by unfold mFw; omega) (by unfold mFw; omega) hJ
      have hr := tA_rg hv x
      have g0 : iI (tA tk x) ≤ 0 ↔ ¬ 0 < tA tk x := by
        rw [Int32.le_iff_toInt_le, iI_toInt (by omega) (by omega)]
        show tA tk x ≤ 0 ↔ _
        omega
      have vp : vp_in (nI x) 2000 := vp_in_nI (by omega) (by omega)
      unfold frw at nx
      refine b185_15 ?_
      rw [sr36_25 h1, sh_k h1, sh_l h1, nI_clamp (show x < 2 ^ 31 by omega), T1.2 x (by omega), g0]
      refine ⟨fun z => absurd z (nI_ge (by omega) (by omega)), fun _ => ⟨rfl, by decide, ⟨rfl, vp⟩, fun z => ?_, fun z => ⟨fun y => absurd rfl y, fun _ => ⟨rfl, by decide, ⟨rfl, vp⟩, rfl, c186 h1 J1 hK (by omega) ht V1 (fun w2 F2 V2 => b185_49 ?_)⟩⟩⟩⟩
      · rw [if_neg z] at nx
        exact nx w1 F V1
      · rw [if_pos (Classical.not_not.mp z)] at nx
        have hok := fw_ok hK ht (v := tA tk x)
        have FF := xI_tr F F2
        have h2 := sh_I FF h
        have T2 : TR w2 tk := TR_I FF (by unfold mFw; omega) (by unfold mFw; omega) hT
        rw [nI_1]
        generalize fw KL tv (tA tk x) = r at nx hok V2 ⊢
        obtain ⟨how, tv'⟩ := r
        dsimp only at nx hok V2 ⊢
        by_cases c1 : how = 1
        · rw [if_pos c1] at nx
          rw [c1]
          exact ih (x + 1) tv' w2 _ FF V2 hok.1 (by omega) nx
        · rw [if_neg c1] at nx
          dsimp only at nx
          have g1 : nI how = 1 ↔ how = 1 := nI_eq (b := 1) (by omega) (by omega)
          refine b185_15 ?_
          rw [sr36_25 h2, sh_k h2, sh_l h2, nI_clamp (show x + 1 < 2 ^ 31 by omega), g1]
          exact ⟨fun _ => nx w2 FF V2, fun _ => ⟨rfl, by decide, ⟨rfl, vp_in_nI (N := 2000) (by omega) (by omega)⟩, fun _ => nx w2 FF V2, fun _ => ⟨fun _ => nx w2 FF V2, fun u => absurd c1 u⟩⟩⟩
  have ht := (tvN_ok0 hls).1
  have hok := frw_ok hK (tk := tk) (last - (i + 1 + ls.length + 1)) (i + 1 + ls.length + 1) (tvN ls) ht
  refine b185_0 ?_
  rw [ea, nI_pred]
  refine key (last - (i + 1 + ls.length + 1)) (i + 1 + ls.length + 1) (tvN ls) w _ xI_rf hV ht (by omega) (fun w2 F2 V2 => ?_)
  generalize frw KL tk (last - (i + 1 + ls.length + 1)) (i + 1 + ls.length + 1) (tvN ls) = r at hq hok V2 ⊢
  obtain ⟨how, k', tv'⟩ := r
  dsimp only at hq hok V2 ⊢
  obtain ⟨p1, p2, p3, p4, p5⟩ := hok
  have h2 := sh_I F2 h
  have T2 : TR w2 tk := TR_I F2 (by unfold mFw; omega) (by unfold mFw; omega) hT
  have J2 : JR w2 KL := JR_I F2 (by unfold mFw; omega) (by unfold mFw; omega) hJ
  have FF : xI mNm w w2 := xI_w F2 (by unfold mFw mNm; omega)
  have g1 : nI how = 1 ↔ how = 1 := nI_eq (b := 1) (by omega) (by omega)
  have g2 : nI how = 2 ↔ how = 2 := nI_eq (b := 2) (by omega) (by omega)
  have g3 : nI k' = nI last ↔ k' = last := nI_eq (by omega) (by omega)
  have gl : nI ls.length ≤ 0 ↔ ls = [] := by
    have : nI ls.length ≤ nI 0 ↔ ls.length ≤ 0 := nI_leI (by omega) (by omega)
    rw [nI_0] at this
    rw [this, Nat.le_zero, List.length_eq_zero_iff]
  refine b185_57 ?_
  rw [g1, g2, g3, gl, nI_1]
  refine ⟨fun z => ?_, fun z => ?_⟩
  · rw [if_pos z] at hq
    refine ⟨fun y => ?_, fun y => ?_⟩
    · rw [decide_eq_false (fun u => u y), Bool.false_and] at hq
      exact ⟨Or.inl rfl, hq w2 FF⟩
    · have hlk := hlit y
      have hlk' := hlk
      unfold lok at hlk'
      rw [decide_eq_true y, Bool.true_and] at hq
      rw [sr36_25 h2, sh_k h2, sh_l h2, nI_clamp (show i + 1 < 2 ^ 31 by omega), T2.2 (i + 1) (by omega), iI_ng (by omega) (by omega)]
      have hp : ¬ 0 < tA tk k' := by
        rcases p5 z with u | u
        · rw [show k' = last by omega, hl0]; decide
        · exact u
      refine ⟨rfl, by decide, ⟨rfl, vp_in_nI (N := 2000) (by omega) (by omega)⟩, rfl, c188 h2 J2 hK T2 hv (lok_neg hlk) p1 V2 (by omega) hla hl0 (fun j j1 j2 => hnz j (by omega) j2) hp (fun w3 F3 => b185_103 ?_)⟩
      have F4 := xI_tr FF F3
      cases hb : nmO KL tk last (-tA tk (i + 1)) tv' k' with
      | false =>
        rw [hb] at hq
        exact ⟨fun _ => ⟨Or.inl rfl, hq w3 F4⟩, fun u => absurd rfl u⟩
      | true =>
        rw [hb] at hq
        exact ⟨fun u => absurd u (by decide), fun _ => ⟨Or.inr rfl, hq w3 F4⟩⟩
  · rw [if_neg z] at hq
    refine ⟨fun y => ⟨Or.inl rfl, ?_⟩, fun y => ⟨fun x => ⟨Or.inl rfl, ?_⟩, fun x => ⟨Or.inr rfl, ?_⟩⟩⟩
    · rw [decide_eq_false (fun u => y u.1)] at hq
      exact hq w2 FF
    · rw [decide_eq_false (fun u => x u.2)] at hq
      exact hq w2 FF
    · rw [decide_eq_true ⟨Classical.not_not.mp y, Classical.not_not.mp x⟩] at hq
      exact hq w2 FF
def mGl : Nat → Nat → Prop := fun p k => (p = 36 ∧ (k = 32 ∨ k = 34 ∨ k = 50)) ∨ p = 51 ∨ p = 52 ∨ (66 ≤ p ∧ p ≤ 70)
/-- goodLine -/
theorem c183 (hV : V ≤ 16) (h : SH w) (hJ : JR w KL) (hK : KI KL hi) (hh : 0 ≤ hi) (hT : TR w tk) (hv : TV tk) (h5 : x_i w 36 5 = nI V) (hlt : KL.length < 540) (hi2 : i < tk.length) (hE : lnE tk i = (last : Int) + 1) (hnd : ¬ tA tk (i + 1) = 10000) (hq : ∀ w', xI mGl w w' → ((gdl KL V hi tk i last).1 = true → JR w' (KL ++ [(tA tk i, (gdl KL V hi tk i last).2, true)])) → Q (.inl (some (.int (iI (if (gdl KL V hi tk i last).1 = true then ((gdl KL V hi tk i last).2.length : Int) else -1))))) w') : x_R x_prog scr 183 0 [some (.ref 36), some (.int (nI i)), some (.int (nI (last + 1))), some (.int (iI hi)), o4, o5] [] w Q := by
  have hl2 := hv.1
  obtain ⟨f1, f2, f3, f4⟩ := rdl_ln (V := V) hV hi2 hE hnd
  have hr := tA_rg hv i
  have h10 := hK.2.2
  have vp : vp_in (nI i) 2000 := vp_in_nI (by omega) (by omega)
  have gle : iI (tA tk i) ≤ iI hi ↔ tA tk i ≤ hi := by rw [Int32.le_iff_toInt_le, iI_toInt (by omega) (by omega), iI_toInt (by omega) (by omega)]
  refine b183_0 ?_
  rw [sr36_25 h, sh_k h, sh_l h, nI_clamp (show i < 2 ^ 31 by omega), hT.2 i hi2, gle, nI_1]
  refine ⟨rfl, by decide, ⟨rfl, vp⟩, fun z => ⟨fun _ => ?_, fun y => absurd (by decide) y⟩, fun z => ⟨rfl, ?_⟩⟩
  · have eg : gdl KL V hi tk i last = (false, []) := by unfold gdl; rw [if_pos z]
    rw [eg] at hq
    exact hq w xI_rf (fun y => (by cases y))
  · obtain ⟨G0, hg'⟩ : ∃ G, gdl KL V hi tk i last = G := ⟨_, rfl⟩
    have hg := hg'
    rw [hg'] at hq
    unfold gdl at hg
    rw [if_neg z] at hg
    have hro := rdl_ok (tk := tk) hV (tk.length - (i + 1)) (i + 1) [] cl0_nil
    refine c184 hV h hT hv h5 ⟨last, by omega, f2, f3⟩ (fun w1 F1 G1 => b183_17 ?_)
    have FF : xI mGl w w1 := xI_w F1 (by unfold mGl; omega)
    have h1 := sh_I FF h
    generalize rdl V tk (tk.length - (i + 1)) (i + 1) [] = r at hg G1 f4 hro ⊢
    obtain ⟨ok, kz, ls⟩ := r
    dsimp only at hg G1 f4 hro ⊢
    cases ok with
    | false =>
      rw [if_pos rfl] at hg
      rw [← hg] at hq
      rw [if_neg (by decide), iI_lt0 (by omega) (by omega)]
      exact ⟨fun _ => hq w1 FF (fun y => (by cases y)), fun y => absurd (by decide) y⟩
    | true =>
      rw [if_neg (by decide)] at hg
      obtain ⟨t1, t2, t3, t4, t5, t6⟩ := f4 rfl
      obtain ⟨r1, r2, r3, r4, r5⟩ := hro
      obtain ⟨s1, s2, s3⟩ := r5 rfl
      have V1 := G1 rfl
      have h16 := cl0_16 t4
      rw [List.length_nil] at r4
      have ekz : kz = i + 1 + ls.length := by omega
      subst ekz
      have J1 : JR w1 KL := JR_I F1 (by omega) (by omega) hJ
      have T1 : TR w1 tk := TR_I F1 (by omega) (by omega) hT
      rw [if_pos rfl, iI_lt0 (by omega) (by omega), iI_n]
      refine ⟨fun y => by omega, fun _ => ⟨by rw [sh_k h1]; rfl, c185 h1 J1 hK T1 hv t4 V1 t2 f2 f3 t3 (fun y => (t6 (fun u => y (t5.mpr u))).2.1) (fun w2 F2 => b183_36 ?_)⟩⟩
      have F3 : xI mGl w w2 := xI_tr FF (xI_w F2 (by unfold mGl mNm; omega))
      have hg2 : G0 = ((if (frw KL tk (last - (i + 1 + ls.length + 1)) (i + 1 + ls.length + 1) (tvN ls)).1 = 1 then decide (¬ ls = []) && nmO KL tk last (- tA tk (i + 1)) (frw KL tk (last - (i + 1 + ls.length + 1)) (i + 1 + ls.length + 1) (tvN ls)).2.2 (frw KL tk (last - (i + 1 + ls.length + 1)) (i + 1 + ls.length + 1) (tvN ls)).2.1 else decide ((frw KL tk (last - (i + 1 + ls.length + 1)) (i + 1 + ls.length + 1) (tvN ls)).1 = 2 ∧ (frw KL tk (last - (i + 1 + ls.length + 1)) (i + 1 + ls.length + 1) (tvN ls)).2.1 = last)), ls) := by
        rw [← hg]
        split <;> rfl
      rw [hg2] at hq
      dsimp only at hq
      generalize (if (frw KL tk (last - (i + 1 + ls.length + 1)) (i + 1 + ls.length + 1) (tvN ls)).1 = 1 then decide (¬ ls = []) && nmO KL tk last (- tA tk (i + 1)) (frw KL tk (last - (i + 1 + ls.length + 1)) (i + 1 + ls.length + 1) (tvN ls)).2.2 (frw KL tk (last - (i + 1 + ls.length + 1)) (i + 1 + ls.length + 1) (tvN ls)).2.1 else decide ((frw KL tk (last - (i + 1 + ls.length + 1)) (i + 1 + ls.length + 1) (tvN ls)).1 = 2 ∧ (frw KL tk (last - (i + 1 + ls.length + 1)) (i + 1 + ls.length + 1) (tvN ls)).2.1 = last)) = res at hq ⊢
      cases res with
      | false =>
        rw [if_neg (by decide)] at hq
        exact ⟨fun y => absurd rfl y, fun _ => hq w2 F3 (fun y => (by cases y))⟩
      | true =>
        rw [if_pos rfl, iI_n] at hq
        refine ⟨fun _ => ?_, fun y => absurd (by decide) y⟩
        have cpy : ∀ (d k : Nat) (w3 : xW) (o2 o3 : Option Value), xI (fun p k => p = 68 ∧ 16 * KL.length ≤ k) w2 w3 → k + d = ls.length → (∀ j, j < k → x_i w3 68 (16 * KL.length + j) = iI (ls.getD j 0)) → x_R x_prog scr 183 44 [some (.ref 36), some (.int (nI i)), o2, o3, some (.int (nI ls.length)), some (.int (nI k))] [] w3 Q := by
          intro d
          induction d with
          | zero =>
            intro k w3 o2 o3 F4 hk hL
            have F5 : xI mGl w w3 := xI_tr F3 (xI_w F4 (by unfold mGl; omega))
            have h3 := sh_I F5 h
            have T3 : TR w3 tk := TR_I F5 (by unfold mGl; omega) (by unfold mGl; omega) hT
            have J3 : JR w3 KL := by
              obtain ⟨a1, a2, a3⟩ := JR_I F2 (by unfold mNm; omega) (by unfold mNm; omega) J1
              refine ⟨(xI_i F4 36 50 (by omega)).trans a1, a2, fun j hj => ?_⟩
              have hlj := cl0_16 (hK.1 j hj).2.2
              exact ⟨(xI_i F4 66 j (by omega)).trans (a3 j hj).1, ⟨(xI_i F4 67 j (by omega)).trans (a3 j hj).2.1.1, fun k hk => (xI_i F4 68 _ (by omega)).trans ((a3 j hj).2.1.2 k hk)⟩, (xI_i F4 69 j (by omega)).trans (a3 j hj).2.2⟩
            refine b183_44 ⟨fun _ => ?_, fun z => absurd (nI_le (by omega) (by omega)) z⟩
            rw [sr36_25 h3, sh_k h3, sh_l h3, nI_clamp (show i < 2 ^ 31 by omega), T3.2 i hi2]
            exact ⟨rfl, by decide, ⟨rfl, vp⟩, rfl, c178 h3 J3 hlt h16 (fun j hj => hL j (by omega)) (fun w4 F6 J4 => b183_95 (hq w4 (xI_tr F5 (xI_w F6 (by unfold mGl; omega))) (fun _ => J4)))⟩
          | succ d ih =>
            intro k w3 o2 o3 F4 hk hL
            have F5 : xI mGl w w3 := xI_tr F3 (xI_w F4 (by unfold mGl; omega))
            have h3 := sh_I F5 h
            have T3 : TR w3 tk := TR_I F5 (by unfold mGl; omega) (by unfold mGl; omega) hT
            have r50 : x_i w3 36 50 = nI KL.length := by rw [xI_i F4 36 50 (by omega), xI_i F2 36 50 (by unfold mNm; omega)]; exact J1.1
            have e16 : (16 : Int32) * nI KL.length + nI k = nI (16 * KL.length + k) := by rw [show (16 : Int32) = nI 16 from rfl, pk_mul, nI_add]
            have s3k := s3 k (by omega)
            rw [if_neg (by simp), List.length_nil, Nat.sub_zero] at s3k
            refine b183_44 ⟨fun z => absurd z (nI_ge (by omega) (by omega)), fun _ => ?_⟩
            rw [sr36_53 h3, sr36_25 h3, sh_k h3, sh_l h3, r50, e16, nI_1, nI_add, nI_clamp (show i + 1 + k < 2 ^ 31 by omega), nI_clamp (show 16 * KL.length + k < 2 ^ 31 by omega), T3.2 (i + 1 + k) (by omega), nI_1]
            refine ⟨rfl, by decide, rfl, rfl, by decide, ⟨rfl, vp_in_nI (N := 2000) (by omega) (by omega)⟩, ⟨rfl, vp_in_nI (N := 11520) (by omega) (by omega)⟩, ih (k + 1) _ _ _ (xI_si F4 ⟨rfl, by omega⟩) (by omega) (fun j hj => ?_)⟩
            rw [y_i_si]
            by_cases ej : j = k
            · rw [if_pos ⟨rfl, by omega⟩, ej, s3k]
            · rw [if_neg (by omega)]
              exact hL j (by omega)
        exact cpy ls.length 0 w2 _ _ xI_rf (by omega) (fun j hj => by omega)
/-- judge of the reference -/
theorem c176 {t : Nat → Nat} {sz fa : Nat} (h : SH w) (ht : TT w t sz) (hA : AK fa hf hs V g cs st mk sp tk) (hC : CR w fa hf hs V g cs st mk sp tk)
    (hq1 : hf = true → ∀ w', xHi w w' → TT w' t sz → x_i w' 36 0 = 0 → CR w' fa hf hs V g cs st mk sp tk → Q (.inl (some (.int (iI (jdg V g cs tk))))) w')
    (hq2 : hf = false → ∀ w', xHi w w' → TT w' t sz → x_i w' 36 0 = 1 → CR w' fa hf hs V g cs st mk sp tk → Q (.inl (some (.int 0))) w') : x_R x_prog scr 176 0 [some (.ref 36), o1, o2, o3, o4, o5] [] w Q := by
  obtain ⟨hfa, hV, hg40, hgl, hl63, hst80, hco, hst0, hrs, hsf, hmk, htl, htv⟩ := hA
  have hv : TV tk := ⟨htl, htv⟩
  have k0 : x_k w 36 = 12 := by rw [sh_k h]; rfl
  have e0 : ∀ v, x_i (x_si w 36 0 v) 36 0 = v := fun v => by rw [y_i_si, if_pos ⟨rfl, rfl⟩]
  have F : ∀ v, xI (fun p k => p = 36 ∧ k = 0) w (x_si w 36 0 v) := fun v => xI_si xI_rf ⟨rfl, rfl⟩
  have h4 := hC.2.1.1.1
  refine b176_0 ?_
  rw [h4, e0, e0]
  cases hf with
  | false =>
    refine ⟨k0, fun _ => ⟨k0, k0, fun z => absurd z (by decide), fun _ => ?_⟩, fun z => absurd rfl z⟩
    obtain ⟨a1, a2, a3⟩ := CR_z (F 1) (by omega) ht hC
    exact hq2 rfl _ a1 a2 (e0 1) a3
  | true =>
    refine ⟨k0, fun z => absurd z (by decide), fun _ => ⟨k0, k0, fun _ => ⟨k0, ?_⟩, fun z => absurd (by decide) z⟩⟩
    obtain ⟨a1, a2, a3⟩ := CR_z (F 0) (by omega) ht hC
    have z0 := e0 0
    have hq3 : ∀ w', xI mGl (x_si w 36 0 0) w' → Q (.inl (some (.int (iI (jdg V g cs tk))))) w' := by
      intro w' F'
      obtain ⟨b1, b2, b3⟩ := CR_z F' (by unfold mGl; omega) a2 a3
      exact hq1 rfl w' (xHi_tr a1 b1) b2 ((xI_i F' 36 0 (by unfold mGl; omega)).trans z0) b3
    have hS := sh_I (F 0) h
    generalize x_si w 36 0 0 = w0 at a2 a3 hq3 hS ⊢
    obtain ⟨c3, ⟨⟨p4, p5, p6, p7, p10, p11⟩, pR, pS⟩, cM, cW, c24, cT⟩ := a3
    refine c177 hg40 hgl hl63 hco hS p6 pR (fun w1 F1 J1 => b176_29 ?_)
    have h1 := sh_I F1 hS
    have T1 : TR w1 tk := ⟨(xI_i F1 36 24 (by unfold mKn; omega)).trans c24, fun k hk => (xI_i F1 47 k (by unfold mKn; omega)).trans (cT k hk)⟩
    have e6 : x_i w1 36 6 = nI g := (xI_i F1 36 6 (by unfold mKn; omega)).trans p6
    have e5 : x_i w1 36 5 = nI V := (xI_i F1 36 5 (by unfold mKn; omega)).trans p5
    have FG : xI mGl w0 w1 := xI_w F1 (by unfold mKn mGl; omega)
    have key : ∀ (d : Nat) (KL : List xKn) (hi : Int) (l i : Nat) (w2 : xW) (o4 o5 : Option Value), xI mGl w1 w2 → JR w2 KL → KI KL hi → 0 ≤ hi → l + d = 2000 → l ≤ i → i ≤ tk.length → 4 * KL.length ≤ 4 * g + i → (∀ w', xI mGl w1 w' → Q (.inl (some (.int (iI (jdl V tk d KL hi (l + 1) i))))) w') → x_R x_prog scr 176 38 [some (.ref 36), some (.int (iI hi)), some (.int (nI l)), some (.int (nI i)), o4, o5] [] w2 Q := by
      intro d
      induction d with
      | zero =>
        intro KL hi l i w2 o4 o5 F2 J2 hK hh hld hli hi2 h4 hq
        have h2 := sh_I F2 h1
        have T2 : TR w2 tk := TR_I F2 (by unfold mGl; omega) (by unfold mGl; omega) T1
        refine b176_38 ?_
        rw [T2.1, sh_k h2]
        exact ⟨rfl, fun _ => hq w2 F2, fun z => absurd (nI_le (by omega) (by omega)) z⟩
      | succ d ih =>
        intro KL hi l i w2 o4 o5 F2 J2 hK hh hld hli hi2 h4 hq
        have h2 := sh_I F2 h1
        have T2 : TR w2 tk := TR_I F2 (by unfold mGl; omega) (by unfold mGl; omega) T1
        have e52 : x_i w2 36 5 = nI V := (xI_i F2 36 5 (by unfold mGl; omega)).trans e5
        have gle : nI tk.length ≤ nI i ↔ tk.length ≤ i := nI_leI (by omega) (by omega)
        have ng : - nI (l + 1) = iI (-((l + 1 : Nat) : Int)) := iI_neg (by omega)
        have k2 : x_k w2 36 = 12 := by rw [sh_k h2]; rfl
        unfold jdl at hq
        refine b176_38 ?_
        rw [T2.1, gle, nI_1, sh_k h2]
        refine ⟨rfl, fun z => ?_, fun z => ⟨rfl, c179 h2 T2 hv (by omega) (b176_54 ?_)⟩⟩
        · rw [if_pos z] at hq
          exact hq w2 F2
        · rw [if_neg z] at hq
          rcases lnE_rg (tk := tk) (i := i) (by omega) with e | ⟨e, e1, e2, e3, e4, -⟩
          · rw [e, if_pos (by decide)] at hq
            rw [e, ng, iI_0le (by omega) (by omega)]
            exact ⟨fun y => absurd y (by decide), fun _ => hq w2 F2⟩
          · have et : ((e : Int) + 1).toNat = e + 1 := by omega
            have ec : iI ((e : Int) + 1) = nI (e + 1) := by rw [show (e : Int) + 1 = ((e + 1 : Nat) : Int) by omega, iI_n]
            rw [e1, if_neg (show ¬ (e : Int) + 1 < 0 by omega), et, Nat.add_sub_cancel] at hq
            have hr := tA_rg hv (i + 1)
            have hri := tA_rg hv i
            have g10 : iI (tA tk (i + 1)) = 10000 ↔ tA tk (i + 1) = 10000 := iI_eq (b := 10000) (by omega) (by omega) (by omega) (by omega)
            rw [e1, iI_0le (by omega) (by omega), ec, nI_1, sr36_25 h2, sh_k h2, sh_l h2, nI_clamp (show i + 1 < 2 ^ 31 by omega), T2.2 (i + 1) (by omega), g10]
            refine ⟨fun _ => ⟨rfl, by decide, ⟨rfl, vp_in_nI (N := 2000) (by omega) (by omega)⟩, fun y => ⟨rfl, ?_⟩, fun y => ⟨rfl, ?_⟩⟩, fun y => absurd (by omega) y⟩
            · rw [if_neg y] at hq
              refine c183 hV h2 J2 hK hh T2 hv e52 (by omega) (by omega) e1 y (fun w3 F3 G => b176_97 ?_)
              have F4 := xI_tr F2 F3
              have h3 := sh_I F4 h1
              have T3 : TR w3 tk := TR_I F4 (by unfold mGl; omega) (by unfold mGl; omega) T1
              cases hb : (gdl KL V hi tk i e).1 with
              | false =>
                rw [if_pos hb] at hq
                rw [if_neg (by decide), ng]
                exact ⟨fun x => absurd x (by decide), fun _ => ⟨fun x => absurd x (by decide), fun _ => hq w3 F4⟩⟩
              | true =>
                have J3 := G hb
                obtain ⟨q1, q2, q3⟩ := gdl_ok hb
                obtain ⟨f1, f2, f3, f4⟩ := rdl_ln (V := V) hV (by omega) e1 y
                obtain ⟨t1, t2, t3, t4, t5, t6⟩ := f4 q2
                rw [← q3] at t4 t5
                have h16 := cl0_16 t4
                rw [if_neg (show ¬ (gdl KL V hi tk i e).1 = false by rw [hb]; decide)] at hq
                rw [if_pos rfl, iI_n]
                have g1 : (1 : Int32) ≤ nI (gdl KL V hi tk i e).2.length ↔ 1 ≤ (gdl KL V hi tk i e).2.length := nI_leI (a := 1) (by omega) (by omega)
                have g0 : (0 : Int32) ≤ nI (gdl KL V hi tk i e).2.length := nI_pos0 (by omega)
                have gl : (gdl KL V hi tk i e).2 = [] ↔ ¬ 1 ≤ (gdl KL V hi tk i e).2.length := by
                  rw [← List.length_eq_zero_iff]
                  omega
                rw [g1]
                refine ⟨fun x => ?_, fun x => ⟨fun _ => ?_, fun u => absurd g0 u⟩⟩
                · have hne : ¬ (gdl KL V hi tk i e).2 = [] := fun u => gl.mp u x
                  rw [if_neg hne] at hq
                  obtain ⟨v1, -⟩ := t6 (fun u => hne (t5.mpr u))
                  rw [sr36_25 h3, sh_k h3, sh_l h3, nI_clamp (show i < 2 ^ 31 by omega), T3.2 i (by omega)]
                  exact ⟨rfl, by decide, ⟨rfl, vp_in_nI (N := 2000) (by omega) (by omega)⟩, ih _ (tA tk i) (l + 1) (e + 1) w3 _ _ F4 J3 (KI_app hK hh q1 (by omega) t4) (by omega) (by omega) (by omega) (by omega) (by rw [List.length_append, List.length_singleton]; omega) hq⟩
                · rw [if_pos (gl.mpr x), iI_n] at hq
                  exact hq w3 F4
            · rw [if_pos (Classical.not_not.mp y)] at hq
              refine c181 h2 J2 hK T2 hv ⟨e, e2, e3, e4⟩ (fun w3 F3 J3 I3 L3 => b176_83 ?_)
              have F4 : xI mGl w1 w3 := xI_tr F2 (xI_w F3 (by unfold mGl; omega))
              cases hb : (dra tk (tk.length - (i + 2)) (i + 2) KL).1 with
              | false =>
                rw [if_neg (show ¬ (dra tk (tk.length - (i + 2)) (i + 2) KL).1 = true by rw [hb]; decide)] at hq
                rw [ng]
                exact ⟨fun x => absurd rfl x, fun _ => hq w3 F4⟩
              | true =>
                rw [if_pos hb] at hq
                exact ⟨fun _ => ih _ hi (l + 1) (e + 1) w3 _ _ F4 J3 I3 hh (by omega) (by omega) (by omega) (by omega) hq, fun x => absurd (by decide) x⟩
    refine ⟨by rw [sh_k h1]; rfl, ?_⟩
    rw [e6, ← iI_n]
    exact key 2000 (kn0 cs g) g 0 0 w1 _ _ xI_rf J1 (KI_0 hco hg40) (by omega) (by omega) (by omega) (by omega) (by rw [kn0_len]; omega) (fun w2 F2 => hq3 w2 (xI_tr FG F2))
end X81
