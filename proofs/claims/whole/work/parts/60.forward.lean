/-! isRight, forward of the class. -/
/-- the first wrong step, d of them from s on; or 0 -/
def wrg (rt : Nat → Bool) (ad : Nat → Bool) : Nat → Nat → Nat
  | 0, _ => 0
  | d + 1, s => if ad s = true ∧ rt s = false then s else wrg rt ad d (s + 1)
/-- is step s right? -/
def rts (cs : List (List Int)) (g : Nat) (st : xSt) (s : Nat) : Bool := isRt cs (alv g st (s - 1)) (sg st (s - 1)).2
def fwd (cs : List (List Int)) (g : Nat) (st : xSt) : Nat := wrg (rts cs g st) (fun s => (sg st (s - 1)).1) (if fen cs g st < 0 then st.length else (fen cs g st).toNat) 1
section X60
variable {scr : Nat × (Nat → Int32)} {w : xW} {Q : xO → xW → Prop} {w1 : xW} {t : Nat → Nat} {sz P n c g V fa d : Nat} {hf hs : Bool} {al mk sp : Nat → Bool} {tv : Nat → Int} {tak : xTk} {cs : List (List Int)} {st : xSt} {ls tk : List Int} {nv : Nat → Bool} {m : Int32} {o : Int} {o1 o2 o3 o4 o5 o6 o7 : Option Value}
theorem c111_l {p : Int} (hp : lok p) (hco : cok cs) (ht : tok tv) (hI : TI cs tv tak) {la : Int64} (hla : ∀ j, j < 64 → hc la j = al j) : ∀ (d k : Nat) (w : xW) (o2 o4 o7 : Option Value), SH w → PB P w cs al tv tak → k + d = cs.length + 1 → 1 ≤ k → (∀ w', xI mGo w w' → Q (.inl (some (.int (b32 (cnd cs al nob tv tak (-p) d k))))) w') → x_R x_prog scr 111 52 [some (.ref 21), some (.ref P), o2, some (.long la), o4, some (.int (sb (li p))), some (.int (nI k)), o7] [] w Q := by
  intro d
  induction d with
  | zero =>
    intro k w o2 o4 o7 h hB hk hk1 hq
    obtain ⟨hP, r0, p4, hl, -⟩ := id hB
    refine b111_52 ?_
    rw [pK h hP, p4]
    exact ⟨rfl, fun _ => ⟨Or.inr rfl, hq w xI_rf⟩, fun z => absurd (nI_lt (by omega) (by omega)) z⟩
  | succ d ih =>
    intro k w o2 o4 o7 h hB hk hk1 hq
    obtain ⟨hP, r0, p4, hl, pR, -⟩ := id hB
    have hcl := cg_ok hco k
    have k21 : x_k w 21 = 10 := by rw [sh_k h]; rfl
    unfold cnd at hq
    refine b111_52 ?_
    rw [pK h hP, p4]
    refine ⟨rfl, fun z => absurd z (nI_nlt (by omega) (by omega)), fun _ => c68 (by omega) (b111_67 ?_)⟩
    rw [hla k (by omega), nI_1]
    have skip : ¬ (al k = true ∧ -p ∈ cg cs k) → ∀ o2 o4 o7, x_R x_prog scr 111 52 [some (.ref 21), some (.ref P), o2, some (.long la), o4, some (.int (sb (li p))), some (.int (nI (k + 1))), o7] [] w Q := by
      intro z o2 o4 o7
      rw [if_neg z] at hq
      exact ih (k + 1) w o2 o4 o7 h hB (by omega) (by omega) hq
    cases hak : al k with
    | false =>
      exact ⟨fun _ => ⟨fun _ => skip (fun z => by rw [hak] at z; cases z.1) _ _ _, fun z => absurd rfl z⟩, fun z => absurd rfl z⟩
    | true =>
      refine ⟨fun z => absurd z (by decide), fun _ => ?_⟩
      have hC := PC_c pR hk1 (show k ≤ cs.length by omega)
      rw [pK h hP, pr8 h hP, (pk3 h hP).1, (pk3 h hP).2, nI_clamp (show k < 2 ^ 31 by omega), hC.2.1]
      refine ⟨rfl, by omega, ⟨rfl, vp_in_nI (by omega) (by omega)⟩, c33 (b111_82 ?_)⟩
      rw [opp_sb hp, and_sb (li_lt (lok_neg hp)), nI_1]
      have hin := mm_in hcl.2.1 (lok_neg hp)
      refine ⟨fun z => ⟨fun _ => skip (fun y => by rw [hin.mpr y.2] at z; cases z) _ _ _, fun y => absurd rfl y⟩, fun z => ⟨fun y => absurd y (by decide), fun _ => ?_⟩⟩
      have hm : -p ∈ cg cs k := hin.mp (by cases hb : mm (mask (cg cs k)) (li (-p)); exact absurd hb z; rfl)
      rw [if_pos ⟨hak, hm⟩] at hq
      rw [sr21_0 h, sh_k h]
      refine ⟨rfl, by decide, rfl, c112 (mk := nob) hp hco ht hI h hB hk1 (by omega) (fun j _ => hc_0 j) (fun w2 u1 u2 u3 => b111_110 ?_)⟩
      rw [nI_1]
      cases hb : (wst cs al nob tv tak (-p) k).1 with
      | false =>
        rw [hb] at hq
        exact ⟨fun y => absurd rfl y, fun _ => ⟨Or.inl rfl, hq w2 u1⟩⟩
      | true =>
        rw [hb, if_pos rfl] at hq
        exact ⟨fun _ => ih (k + 1) w2 _ _ _ (sh_I u1 h) u2 (by omega) (by omega) (fun w' y => hq w' (xI_tr u1 y)), fun y => absurd (by decide) y⟩
/-- isRight -/
theorem c111 (hP : P = 5 ∨ P = 11) (hco : cok cs) (hl : cs.length ≤ 63) (h : SH w) (hS : PS P w hf hs V g cs st mk sp) (h1 : 1 ≤ c) (h2 : c ≤ cs.length) {la : Int64} (hla : ∀ j, j < 64 → hc la j = al j)
    (hq : ∀ w', xF mPi mPj mPrr w w' → SH w' → Q (.inl (some (.int (b32 (isRt cs al c))))) w') : x_R x_prog scr 111 0 [some (.ref 21), some (.ref P), some (.int (nI c)), some (.long la), o4, o5, o6, o7] [] w Q := by
  have hcl := cg_ok hco c
  have hl6 := hcl.1
  have k21 : x_k w 21 = 10 := by rw [sh_k h]; rfl
  have hC := PC_c hS.2.1 h1 h2
  obtain ⟨hN1, hN2⟩ := tvN_ok hcl
  refine b111_0 ?_
  rw [sr21_0 h, pK h hP, pr8 h hP, (pk3 h hP).1, (pk3 h hP).2, nI_clamp (show c < 2 ^ 31 by omega), hC.2.1]
  refine ⟨k21, by decide, rfl, by omega, ⟨rfl, vp_in_nI (by omega) (by omega)⟩, c33 (b111_16 ⟨by rw [sh_k h]; rfl, ?_⟩)⟩
  refine c95 (tv := tvN (cg cs c)) (al := al) (mk := nob) hco h hN1 hP hS.1.2.2.2.2.1 hl (PS_sets hS) hla (fun j _ => hc_0 j) hN2 (fun w1 u1 u2 u3 u4 u5 u6 u7 u8 => b111_19 ?_)
  have u1 : xF mPi mPj mPrr w w1 := u1
  have S1 := PS_P hP u1 hS
  have eb : prg cs al nob 17 (tvN (cg cs c)) [] = base cs al nob c := rfl
  rw [eb] at u3 u4 u5 u7 u8 ⊢
  unfold isRt at hq
  by_cases z : (base cs al nob c).2.2 = 0
  · rw [decide_eq_false (fun y => y z)]
    rw [if_neg (fun y => y z)] at hq
    refine ⟨fun _ => ?_, fun y => absurd rfl y⟩
    have hC1 := PC_c S1.2.1 h1 h2
    have g0 : nI (cg cs c).length = 0 ↔ (cg cs c).length = 0 := by rw [← nI_0]; exact nI_eq (by omega) (by omega)
    have e6 : nI c * 6 = nI (6 * c) := by rw [show (6 : Int32) = nI 6 from rfl, pk_mul, Nat.mul_comm]
    rw [pK u2 hP, pr6 u2 hP, pr7 u2 hP, (pk1 u2 hP).1, (pk1 u2 hP).2, (pk2 u2 hP).1, (pk2 u2 hP).2, nI_clamp (show c < 2 ^ 31 by omega), hC1.1, g0, e6, nI_clamp (show 6 * c < 2 ^ 31 by omega)]
    refine ⟨rfl, by omega, ⟨rfl, vp_in_nI (by omega) (by omega)⟩, fun y => ?_, fun y => ⟨Or.inl rfl, ?_⟩⟩
    · rw [if_neg y] at hq
      have hlit : x_i w1 (P + 1) (6 * c) = iI (piv cs c) := hC1.2.2 0 (by omega)
      have hpk : lok (piv cs c) := lok_getD hcl.2.1 (by omega)
      rw [hlit]
      refine ⟨rfl, by omega, ⟨rfl, vp_in_nI (by omega) (by omega)⟩, c34 hpk (b111_47 ?_)⟩
      obtain ⟨g1, g2, g3, g4, g5, g6, g7, g8, g9⟩ := u3
      have hB : PB P w1 cs al (base cs al nob c).1 (base cs al nob c).2.1 := ⟨g1, g2, g3, g4, S1.2.1, g6, by rw [u6]; exact g7, u7, g9⟩
      exact c111_l hpk hco u4 u5 hla cs.length 1 w1 _ _ _ u2 hB (by omega) (by omega) (fun w' v1 => hq w' (xF_tr u1 (xF_w v1 (by unfold mGo mPi; omega) (by unfold x_no; intro _ _ z; exact z.elim) (by unfold x_no; intro _ _ z; exact z.elim))) (sh_I v1 u2))
    · rw [if_pos (Classical.not_not.mp y)] at hq
      exact hq w1 u1 u2
  · rw [decide_eq_true z]
    rw [if_pos z] at hq
    exact ⟨fun y => absurd y (by decide), fun _ => ⟨Or.inr rfl, hq w1 u1 u2⟩⟩
/-- findWrongStep -/
theorem c110_l (hP : P = 5 ∨ P = 11) (hco : cok cs) (hl : cs.length ≤ 63) (h80 : st.length ≤ 80) (hab : ∀ k, k < st.length → (sg st k).2 ≤ cs.length) (hst0 : st0 st) {M : Nat} (hM : M ≤ st.length) : ∀ (d s : Nat) (w : xW) (o2 o5 : Option Value), SH w → PS P w hf hs V g cs st mk sp → s + d = M + 1 → 1 ≤ s → (∀ w', xF mPi mPj mPrr w w' → SH w' → Q (.inl (some (.int (nI (wrg (rts cs g st) (fun s => (sg st (s - 1)).1) d s))))) w') → x_R x_prog scr 110 23 [some (.ref 21), some (.ref P), o2, some (.int (nI M)), some (.int (nI s)), o5] [] w Q := by
  intro d
  induction d with
  | zero =>
    intro s w o2 o5 h hS hs hs1 hq
    exact b110_23 ⟨fun _ => hq w xF_rf h, fun z => absurd (nI_lt (by omega) (by omega)) z⟩
  | succ d ih =>
    intro s w o2 o5 h hS hs hs1 hq
    have hab' := hab (s - 1) (by omega)
    have eA : x_i w (P + 4) s = nI (stA st (s - 1)) := by
      have := hS.2.2.1 (s - 1) (by omega)
      rw [Nat.sub_add_cancel hs1] at this
      exact this
    have hpred : nI s - 1 = nI (s - 1) := by
      have := nI_pred (s - 1)
      rw [Nat.sub_add_cancel hs1] at this
      exact this
    unfold wrg at hq
    refine b110_23 ⟨fun z => absurd z (nI_nlt (by omega) (by omega)), fun _ => ?_⟩
    rw [pK h hP, pr9 h hP, (pk4 h hP).1, (pk4 h hP).2, nI_clamp (show s < 2 ^ 31 by omega), eA, nI_1, pr10 h hP, (pk5 h hP).1, (pk5 h hP).2, hpred, nI_clamp (show s - 1 < 2 ^ 31 by omega)]
    refine ⟨rfl, by omega, ⟨rfl, vp_in_nI (by omega) (by omega)⟩, ?_⟩
    cases hb : (sg st (s - 1)).1 with
    | false =>
      have e0 : stA st (s - 1) = 0 := by unfold stA; rw [hb]; rfl
      rw [e0]
      rw [if_neg (by rw [hb]; rintro ⟨y, -⟩; cases y)] at hq
      exact ⟨fun _ => ih (s + 1) w _ _ h hS (by omega) (by omega) hq, fun z => absurd rfl z⟩
    | true =>
      have e0 : stA st (s - 1) = (sg st (s - 1)).2 := by unfold stA; rw [hb]; rfl
      have hge := hst0 (s - 1) hb
      rw [e0]
      refine ⟨fun z => absurd z (nI_ne0 (by omega) (by omega)), fun _ => ⟨rfl, by omega, ⟨rfl, vp_in_nI (by omega) (by omega)⟩, by rw [sh_k h]; rfl, ?_⟩⟩
      refine c111 (al := alv g st (s - 1)) hP hco hl h hS hge hab' (hS.2.2.2.1 (s - 1) (by omega)) (fun w1 u1 u2 => b110_59 ?_)
      have er : isRt cs (alv g st (s - 1)) (sg st (s - 1)).2 = rts cs g st s := rfl
      rw [er, nI_1]
      cases hr : rts cs g st s with
      | true =>
        rw [if_neg (by rw [hr]; rintro ⟨-, y⟩; cases y)] at hq
        exact ⟨fun _ => ih (s + 1) w1 _ _ u2 (PS_P hP u1 hS) (by omega) (by omega) (fun w' y1 y2 => hq w' (xF_tr u1 y1) y2), fun z => absurd (by decide) z⟩
      | false =>
        rw [if_pos ⟨hb, hr⟩] at hq
        exact ⟨fun z => absurd rfl z, fun _ => hq w1 u1 u2⟩
theorem c110 (hP : P = 5 ∨ P = 11) (hco : cok cs) (hl : cs.length ≤ 63) (h80 : st.length ≤ 80) (hab : ∀ k, k < st.length → (sg st k).2 ≤ cs.length) (hst0 : st0 st) (h : SH w) (hS : PS P w hf hs V g cs st mk sp) (hq : ∀ w', xF mPi mPj mPrr w w' → SH w' → Q (.inl (some (.int (nI (fwd cs g st))))) w') : x_R x_prog scr 110 0 [some (.ref 21), some (.ref P), o2, o3, o4, o5] [] w Q := by
  refine b110_0 ⟨by rw [sh_k h]; rfl, c94 hP h80 hl hco h hS (fun w1 u1 u2 => b110_5 ?_)⟩
  have S1 := PS_P hP u1 hS
  have hfr := fnd_rg (cf := cfl cs g st) (st.length + 1) 0
  have hfr : fen cs g st = -1 ∨ (∃ e : Nat, fen cs g st = e ∧ 0 ≤ e ∧ e < 0 + (st.length + 1) ∧ ¬ cfl cs g st e = 0) := hfr
  unfold fwd at hq
  rcases hfr with e | ⟨e, e1, -, e3, -⟩
  · rw [e] at hq ⊢
    refine ⟨fun z => absurd (by decide) z, fun _ => ⟨pK u2 hP, ?_⟩⟩
    rw [S1.1.2.2.2.2.2]
    exact c110_l hP hco hl h80 hab hst0 (M := st.length) (Nat.le_refl _) st.length 1 w1 _ _ u2 S1 (by omega) (by omega) (fun w' y1 y2 => hq w' (xF_tr u1 y1) y2)
  · rw [e1] at hq ⊢
    have hM : (if (e : Int) < 0 then st.length else ((e : Int)).toNat) = e := by rw [if_neg (by omega)]; omega
    rw [hM] at hq
    rw [iI_n]
    refine ⟨fun _ => ?_, fun z => absurd (fun y => ?_) z⟩
    · exact c110_l hP hco hl h80 hab hst0 (M := e) (by omega) e 1 w1 _ _ u2 S1 (by omega) (by omega) (fun w' y1 y2 => hq w' (xF_tr u1 y1) y2)
    · have := congrArg Int32.toInt y
      rw [nI_toInt (by omega)] at this
      have h2 : ((-1 : Int32)).toInt = -1 := by decide
      rw [h2] at this
      omega
/-- forward of the class -/
theorem c109 (h : SH w) (ht : TT w t sz) (hA : AK fa hf hs V g cs st mk sp tk) (hC : CC w fa hf hs V g cs st mk sp tk)
    (hq1 : hs = true → ∀ w', xLo 0 w w' → SH w' → TT w' t sz → CC w' fa hf hs V g cs st mk sp tk → Q (.inl (some (.int (nI (fwd cs g st))))) w')
    (hq2 : hs = false → ∀ w', xLo 1 w w' → SH w' → TT w' t sz → CC w' fa hf hs V g cs st mk sp tk → Q (.inr 2) w') : x_R x_prog scr 109 0 [some (.ref 0)] [] w Q := by
  obtain ⟨hfa, hV, hg40, hgl, hl63, hst80, hco, hst0, hrs, hsf, hmk, htl, htv⟩ := hA
  obtain ⟨P, D, T, S, hP, hT, ⟨r5, r6, r7, r8⟩, h9, hS, hK⟩ := id hC
  have hPP : P = 5 ∨ P = 11 := by omega
  have k0 : x_k w 0 = 3 := by rw [sh_k h]; rfl
  refine b109_0 ?_
  rw [r5, pK h hPP, hS.1.2.1, sr0_3 h]
  cases hs with
  | false => exact ⟨k0, by omega, rfl, fun z => absurd rfl z, fun _ => hq2 rfl _ xLo_lost h ht hC⟩
  | true => exact ⟨k0, by omega, rfl, fun _ => ⟨k0, by decide, k0, by omega, by rw [sh_k h]; rfl, c110 hPP hco hl63 hst80 (prc_ab hrs) hst0 h hS (fun w1 u1 u2 => b109_29 (hq1 rfl w1 (xLo_P u1) u2 (TT_P u1 ht) (CC_P (dc := 0) u1 hC)))⟩, fun z => absurd (by decide) z⟩
end X60
