/-! The stream on the class's side: steps. -/
theorem hc_m1 : ∀ j, j < 64 → hc (-1) j = true := by decide +kernel
theorem hc_not (a : Int64) {j : Nat} (hj : j < 64) : hc (a ^^^ (-1)) j = !hc a j := by
  have h := hc_m1 j hj
  unfold hc at h ⊢
  rw [Int64.toBitVec_xor, BitVec.getLsbD_xor, h, Bool.xor_true]
/-- additions have numbers above 0 -/
def st0 (st : xSt) : Prop := ∀ s, (sg st s).1 = true → 1 ≤ (sg st s).2
theorem alv_0 {g : Nat} {st : xSt} (h : st0 st) : ∀ s, alv g st s 0 = false
  | 0 => decide_eq_false (by omega)
  | s + 1 => by
    unfold alv
    split
    · rename_i e
      cases hb : (sg st s).1 with
      | false => rfl
      | true =>
        have := h s hb
        omega
    · exact alv_0 h s
theorem st0_app {st : xSt} {x : Bool × Nat} (h : st0 st) (hx : x.1 = true → 1 ≤ x.2) : st0 (st ++ [x]) := by
  intro s hs
  rw [sg_app] at hs ⊢
  by_cases h1 : s < st.length
  · rw [if_pos h1] at hs ⊢; exact h s hs
  · rw [if_neg h1] at hs ⊢
    by_cases h2 : s = st.length
    · rw [if_pos h2] at hs ⊢; exact hx hs
    · rw [if_neg h2] at hs; cases hs
theorem st0_nil : st0 [] := fun s hs => by cases hs
theorem st0_ap1 {g : Nat} {q : List (List Int) × xSt} {r : Bool × List Int} (h : st0 q.2) : st0 (ap1 g q r).2 := by
  unfold ap1
  split
  · exact st0_app h (fun _ => by simp)
  · exact st0_app h (fun z => by cases z)
section X42
variable {scr : Nat × (Nat → Int32)} {w : xW} {Q : xO → xW → Prop} {t : Nat → Nat} {sz a D P o V g n kd : Nat} {pk hf hs : Bool} {ls : List Int} {cs : List (List Int)} {st : xSt} {mk sp : Nat → Bool} {o1 o2 o3 o4 : Option Value}
theorem c63 (hD : D = 5 ∨ D = 11) (h : SH w) (hk : kd = 1 ∨ kd = 2 ∨ kd = 3) (hn : n ≤ 63) (h4 : x_i w D 4 = nI n) (hq : Q (.inl (some (.int (b32 (decide (kd = 1 ∨ (kd = 2 ∧ ¬ n = 63))))))) w) : x_R x_prog scr 63 0 [some (.ref D), some (.ref (x_en + kd))] [] w Q := by
  have hr : ∀ i, i < 4 → (x_en ≤ x_en + kd ∧ x_en + kd < x_en + 4 ∧ x_en ≤ x_en + i ∧ x_en + i < x_en + 4) := fun i hi => ⟨by omega, by omega, by omega, by omega⟩
  have g63 : (63 : Int32) ≤ nI n ↔ 63 ≤ n := nI_leI (a := 63) (by omega) (by omega)
  have e : ∀ i, (x_en + kd = x_en + i) ↔ kd = i := fun i => by omega
  refine b63_0 ⟨hr 2 (by omega), ?_⟩
  rw [e, e, h4, g63]
  refine ⟨fun z => ⟨hr 1 (by omega), fun y => ⟨Or.inl rfl, ?_⟩, fun y => ⟨Or.inr rfl, ?_⟩⟩, fun z => ⟨pK h hD, fun y => ⟨Or.inl rfl, ?_⟩, fun y => ⟨Or.inr rfl, ?_⟩⟩⟩
  · rw [decide_eq_false (by omega)] at hq; exact hq
  · rw [decide_eq_true (by omega)] at hq; exact hq
  · rw [decide_eq_false (by omega)] at hq; exact hq
  · rw [decide_eq_true (by omega)] at hq; exact hq
/-- what stands behind an opening -/
def OS (pk : Bool) (t : Nat → Nat) (sz a o : Nat) (w : xW) : Prop := x_i w o 2 = nI (opP pk t sz a) ∧ (pk = false → nxC o (nxt false t sz a) w) ∧ (pk = true → x_i w o 1 = nI (a + 1))
theorem cOpen {kk : Nat} (hkk : (kk = 5 ∧ o = 3 ∧ pk = false) ∨ (kk = 6 ∧ o = 4 ∧ pk = true)) (h : SH w) (ht : TT w t sz) (ha : a ≤ sz) (h1 : x_i w o 1 = nI a) (hq : ∀ w', xI (mA o) w w' → OS pk t sz a o w' → Q (.inl (some (.ref (x_en + opK pk t sz a)))) w') :
    ((kk = 5 → x_R x_prog scr 61 0 [some (.ref o)] [] w Q) ∧ (¬ kk = 5 → (kk = 6) ∧ x_R x_prog scr 62 0 [some (.ref o), none] [] w Q)) := by
  have t1 := ht.1
  rcases hkk with ⟨rfl, rfl, rfl⟩ | ⟨rfl, rfl, rfl⟩
  · refine ⟨fun _ => b61_0 ⟨by rw [sh_k h]; rfl, c23 h ht ha h1 (fun w1 q1 q2 => b61_4 ?_)⟩, fun z => absurd rfl z⟩
    have hrg := nxt_rg (pk := false) (t := t) (sz := sz) (a := a) ht.2.1
    have k5 : x_k w1 3 = 5 := by rw [sh_k (sh_I q1 h)]; rfl
    have g1 : iI (nxt false t sz a).2.2 = 20001 ↔ (nxt false t sz a).2.2 = 20001 := iI_eq (b := 20001) (by omega) (by omega) (by omega) (by omega)
    have g2 : iI (nxt false t sz a).2.2 = 10000 ↔ (nxt false t sz a).2.2 = 10000 := iI_eq (b := 10000) (by omega) (by omega) (by omega) (by omega)
    have hO : OS false t sz a 3 w1 := ⟨q2.2.1, fun _ => q2, fun z => by cases z⟩
    have hq := hq w1 q1 hO
    unfold opK at hq
    simp only [Bool.false_eq_true, if_false] at hq
    rw [q2.2.2, g1, g2]
    refine ⟨Or.inl k5, fun z => ⟨Or.inl k5, fun y => ?_, fun y => ?_⟩, fun z => ?_⟩
    · rw [if_neg z, if_neg y] at hq; exact hq
    · rw [if_neg z, if_pos (Classical.not_not.mp y)] at hq; exact hq
    · rw [if_pos (Classical.not_not.mp z)] at hq; exact hq
  · refine ⟨fun z => absurd z (by decide), fun _ => ⟨rfl, b62_0 ?_⟩⟩
    simp only [h1, sh_k h, sh_l h, sh_n h, kk4, sr4_0 h, kk1, sr1_0 h, true_and, and_true, false_and, and_false, and_self, not_false_eq_true, not_true_eq_false, true_implies, false_implies, implies_true, true_or, or_true, or_self, if_true, if_false, Nat.reduceEqDiff, reduceIte, eq_self]
    refine c26 h ht (by omega) (b62_11 ?_)
    have e1 : x_i (x_si w 4 1 (nI (a + 1))) 4 1 = nI (a + 1) := by rw [y_i_si, if_pos ⟨rfl, rfl⟩]
    simp only [h1, nI_1, e1, sh_k h, sh_l h, sh_n h, kk4, sr4_0 h, true_and, and_true, false_and, and_false, and_self, not_false_eq_true, not_true_eq_false, true_implies, false_implies, implies_true, true_or, or_true, or_self, if_true, if_false, Nat.reduceEqDiff, reduceIte, eq_self]
    have hF : xI (mA 4) w (x_si (x_si w 4 1 (nI (a + 1))) 4 2 (nI (a + 1))) := xI_si (xI_si xI_rf ⟨rfl, Or.inl rfl⟩) ⟨rfl, Or.inr (Or.inl rfl)⟩
    have hq := hq _ hF ⟨by rw [y_i_si, if_pos ⟨rfl, rfl⟩]; rfl, fun z => (by cases z), fun _ => by rw [y_i_si, if_neg (by omega), e1]⟩
    unfold opK at hq
    simp only [if_true] at hq
    have m1 : ∀ x : Nat, x < 256 → ¬ nI x = -1 := by decide +kernel
    have ta := ht.2.1 a
    by_cases hl : a < sz
    · rw [bAt_in hl]
      have g1 : nI (t a) = 100 ↔ t a = 100 := nI_eq (b := 100) (by omega) (by omega)
      have g2 : nI (t a) = 97 ↔ t a = 97 := nI_eq (b := 97) (by omega) (by omega)
      rw [g1, g2]
      rw [if_neg (by omega)] at hq
      refine ⟨fun _ => ⟨fun z => ⟨fun y => ?_, fun y => ?_⟩, fun z => ?_⟩, fun z => absurd (m1 _ ta) z⟩
      · rw [if_neg z, if_neg y] at hq; exact hq
      · rw [if_neg z, if_pos (Classical.not_not.mp y)] at hq; exact hq
      · rw [if_pos (Classical.not_not.mp z)] at hq; exact hq
    · have e : bAt t sz a = -1 := if_neg hl
      rw [e]
      rw [if_pos (by omega)] at hq
      exact ⟨fun z => absurd rfl z, fun _ => hq⟩
theorem cEnter {kk : Nat} (hkk : (kk = 5 ∧ o = 3 ∧ pk = false) ∨ (kk = 6 ∧ o = 4 ∧ pk = true)) (h : SH w) (ht : TT w t sz) (ha : a ≤ sz) (hO : OS pk t sz a o w) (hk : opK pk t sz a = 1 ∨ opK pk t sz a = 2) (hq : ∀ w', xI (mA o) w w' → nxC o (opS pk t sz a) w' → Q (.inl none) w') :
    ((kk = 5 → x_R x_prog scr 64 0 [some (.ref o), some (.ref (x_en + opK pk t sz a))] [] w Q) ∧ (¬ kk = 5 → (kk = 6) ∧ x_R x_prog scr 65 0 [some (.ref o), some (.ref (x_en + opK pk t sz a))] [] w Q)) := by
  rcases hkk with ⟨rfl, rfl, rfl⟩ | ⟨rfl, rfl, rfl⟩
  · have hrg := nxt_rg (pk := false) (t := t) (sz := sz) (a := a) ht.2.1
    have n1 := hO.2.1 rfl
    have le1 := nxt_le (pk := false) (t := t) ha
    refine ⟨fun _ => b64_0 ⟨⟨by omega, by omega, by omega, by omega⟩, fun z => b64_11 (hq w xI_rf ?_), fun z => ⟨by rw [sh_k h]; rfl, c23 h ht le1 n1.1 (fun w1 q1 q2 => b64_11 (hq w1 q1 ?_))⟩⟩, fun z => absurd rfl z⟩
    · have hz : ¬ (nxt false t sz a).2.2 = 10000 := by
        intro e
        apply z
        unfold opK
        simp only [Bool.false_eq_true, if_false]
        rw [if_neg (by omega), if_pos e]
      unfold opS
      simp only [Bool.false_eq_true, if_false]
      rw [if_neg hz]
      exact n1
    · have hz : (nxt false t sz a).2.2 = 10000 := by
        apply Classical.byContradiction
        intro e
        apply z
        unfold opK
        simp only [Bool.false_eq_true, if_false]
        rw [if_neg e]
        split <;> omega
      unfold opS
      simp only [Bool.false_eq_true, if_false]
      rw [if_pos hz]
      exact q2
  · have hl : a + 1 ≤ sz := by
      unfold opK at hk
      simp only [if_true] at hk
      by_cases h2 : sz ≤ a
      · rw [if_pos h2] at hk; omega
      · omega
    refine ⟨fun z => absurd z (by decide), fun _ => ⟨rfl, b65_0 ⟨by rw [sh_k h]; rfl, c35 h ht hl (hO.2.2 rfl) (fun w1 q1 q2 => b65_4 (hq w1 q1 q2))⟩⟩⟩
/-- keepStep -/
theorem c66 (hD : D = 5 ∨ D = 11) (h : SH w) (hk : kd = 1 ∨ kd = 2) (hS : PS D w true false V g cs st nob nob) (hC : CI D ls w) (hl : cl1 ls) (hco : cok cs) (hst : st.length < 80) (hst0 : st0 st) (hn : cs.length ≤ 63) (hn2 : kd = 2 → cs.length < 63)
    (hq : ∀ w', xF (fun p _ => D ≤ p ∧ p ≤ D + 4) (fun p _ => p = D + 5) x_no w w' → PS D w' true false V g (ap1 g (cs, st) (decide (kd = 2), ls)).1 (ap1 g (cs, st) (decide (kd = 2), ls)).2 nob nob → Q (.inl none) w') :
    x_R x_prog scr 66 0 [some (.ref D), some (.int (nI (st.length + 1))), some (.ref (x_en + kd))] [] w Q := by
  obtain ⟨⟨s0, s1, s2, s3, s4, s5⟩, sR, sA, sL, sM, sP⟩ := hS
  have kD := pK h hD
  have c1 := nI_clamp (show st.length + 1 < 2 ^ 31 by omega)
  have c0 := nI_clamp (show st.length < 2 ^ 31 by omega)
  have hv : vp_in (nI (st.length + 1)) 81 := vp_in_nI (by omega) (by omega)
  have hv0 : vp_in (nI st.length) 81 := vp_in_nI (by omega) (by omega)
  have e2 : (x_en + kd = x_en + 2) ↔ kd = 2 := by omega
  have hlen : ∀ x : Bool × Nat, (st ++ [x]).length = st.length + 1 := fun x => by simp
  refine b66_0 ⟨kD, ⟨by omega, by omega, by omega, by omega⟩, ?_⟩
  rw [e2]
  refine ⟨fun z => ?_, fun z => ⟨kD, ?_⟩⟩
  · have ea : ap1 g (cs, st) (decide (kd = 2), ls) = (cs, st ++ [(false, dlt g cs st ls)]) := by
      unfold ap1
      rw [decide_eq_false z]
      rfl
    rw [ea] at hq
    rw [nI_pred, pr8 h hD, pr9 h hD, pr10 h hD, (pk3 h hD).1, (pk3 h hD).2, (pk4 h hD).1, (pk4 h hD).2, (pk5 h hD).1, (pk5 h hD).2, c0, c1, t00]
    have em : x_i (x_si (x_si w D 5 (nI (st.length + 1))) (D + 4) (st.length + 1) 0) (D + 3) 0 = mask ls := by rw [y_i_si, if_neg (by omega), y_i_si, if_neg (by omega)]; exact hC.2.1
    rw [em]
    have hF : xF (fun p k => (p = D ∧ k = 5) ∨ (p = D + 4 ∧ k = st.length + 1)) (fun p k => p = D + 5 ∧ k = st.length + 1) x_no w (x_si (x_si w D 5 (nI (st.length + 1))) (D + 4) (st.length + 1) 0) := xF_si (xF_si xF_rf (Or.inl ⟨rfl, rfl⟩)) (Or.inr ⟨rfl, rfl⟩)
    refine ⟨kD, by omega, ⟨rfl, hv⟩, kD, by omega, kD, by omega, ⟨rfl, hv0⟩, kD, by omega, ⟨rfl, hv0⟩, kD, by omega, ⟨rfl, v0 (by omega) (by omega)⟩, kD, c67 (n := cs.length) hD (sh_F hF h) hn ((hF.2.1 D 4 (by omega)).trans s4) (b66_88 ?_)⟩
    have el : lowA (fun c => hc (x_j w (D + 5) st.length) c && decide (x_i (x_si (x_si w D 5 (nI (st.length + 1))) (D + 4) (st.length + 1) 0) (D + 3) c = mask ls)) cs.length 1 = dlt g cs st ls := by
      refine lowA_cg _ _ (fun c h1 h2 => ?_)
      rw [sL st.length (Nat.le_refl _) c (by omega), hF.2.1 (D + 3) c (by omega)]
      congr 1
      have := (sR (c - 1) (by omega)).2.1
      rw [Nat.sub_add_cancel h1] at this
      rw [this]
      unfold smc
      exact decide_eq_decide.mpr (mask_eq (cok_getD hco (c - 1)) hl)
    rw [el]
    simp only [y_k_si, y_l_si]
    rw [(pk5 h hD).1, (pk5 h hD).2, c1]
    have F2 : xF (fun p k => (p = D ∧ k = 5) ∨ (p = D + 4 ∧ k = st.length + 1)) (fun p k => p = D + 5 ∧ k = st.length + 1) x_no w (x_sj (x_si (x_si w D 5 (nI (st.length + 1))) (D + 4) (st.length + 1) 0) (D + 5) (st.length + 1) (x_j w (D + 5) st.length &&& (lbz (dlt g cs st ls) ^^^ (-1)))) := xF_sj hF ⟨rfl, rfl⟩
    refine ⟨⟨rfl, hv⟩, hq _ (xF_w F2 (by omega) (by omega) (fun _ _ z => z)) ⟨⟨?_, ?_, ?_, ?_, ?_, ?_⟩, fun c hc => ?_, fun s hs => ?_, fun s hs j hj => ?_, fun j hj => ?_, fun j hj => ?_⟩⟩
    · exact (F2.2.1 D 0 (by omega)).trans s0
    · exact (F2.2.1 D 1 (by omega)).trans s1
    · exact (F2.2.1 D 2 (by omega)).trans s2
    · exact (F2.2.1 D 3 (by omega)).trans s3
    · exact (F2.2.1 D 4 (by omega)).trans s4
    · rw [hlen, y_i_sj, y_i_si, if_neg (by omega), y_i_si, if_pos ⟨rfl, rfl⟩]
    · exact PC_F F2 (sR c hc) (by omega) (by omega) (by omega)
    · rw [hlen] at hs
      unfold stA
      rw [sg_app]
      by_cases e : s < st.length
      · rw [if_pos e, F2.2.1 (D + 4) (s + 1) (by omega)]
        exact sA s e
      · have e3 : s = st.length := by omega
        rw [if_neg e, if_pos e3, e3, y_i_sj, y_i_si, if_pos ⟨rfl, rfl⟩]
        rfl
    · rw [hlen] at hs
      by_cases e : s ≤ st.length
      · rw [alv_app s j e, F2.2.2.1 (D + 5) s (by omega)]
        exact sL s e j hj
      · have e3 : s = st.length + 1 := by omega
        rw [e3, alv_last, y_j_sj, if_pos ⟨rfl, rfl⟩, hc_and, hc_not _ hj, sL st.length (Nat.le_refl _) j hj]
        have hd := lowA_le (p := fun c => alv g st st.length c && smc cs ls c) cs.length 1
        have hd : dlt g cs st ls = 0 ∨ (1 ≤ dlt g cs st ls ∧ dlt g cs st ls < 1 + cs.length ∧ _) := hd
        unfold lbz
        by_cases ed : dlt g cs st ls = 0
        · rw [if_pos ed, hc_0, ed]
          simp only [Bool.not_false, Bool.and_true]
          by_cases ej : j = 0
          · rw [if_pos ej, ej]; exact alv_0 hst0 _
          · rw [if_neg ej]
        · rw [if_neg ed, hc_lb _ (by omega) j hj]
          by_cases ej : j = dlt g cs st ls
          · rw [if_pos ej, decide_eq_true ej.symm]; simp
          · rw [if_neg ej, decide_eq_false (fun z => ej z.symm)]; simp
    · rw [F2.2.2.1 D 11 (by omega)]; exact sM j hj
    · rw [F2.2.2.1 D 12 (by omega)]; exact sP j hj
  · have z2 := Classical.not_not.mp z
    have hn3 := hn2 z2
    have ea : ap1 g (cs, st) (decide (kd = 2), ls) = (cs ++ [ls], st ++ [(true, cs.length + 1)]) := by
      unfold ap1
      rw [decide_eq_true z2]
      rfl
    rw [ea] at hq
    have hF : xI (fun p k => p = D ∧ k = 5) w (x_si w D 5 (nI (st.length + 1))) := xI_si xI_rf ⟨rfl, rfl⟩
    refine c38 (n := cs.length) (ls := ls) hD (sh_I hF h) hn3 ((xI_i hF D 4 (by omega)).trans s4) hl.1 ⟨(xI_i hF (D + 2) 0 (by omega)).trans hC.1, (xI_i hF (D + 3) 0 (by omega)).trans hC.2.1, fun k hk => (xI_i hF (D + 1) k (by omega)).trans (hC.2.2 k hk)⟩ (fun w2 p1 p2 p3 => b66_16 ?_)
    have h2 := sh_I p1 (sh_I hF h)
    have kD2 := pK h2 hD
    have ej2 : x_j w2 = x_j w := (xI_j p1).trans (xI_j hF)
    rw [p2, nI_pred, pr9 h2 hD, pr10 h2 hD, (pk4 h2 hD).1, (pk4 h2 hD).2, (pk5 h2 hD).1, (pk5 h2 hD).2, c0, c1, ej2]
    have e5 : x_i (x_si w2 (D + 4) (st.length + 1) (nI (cs.length + 1))) D 4 = nI (cs.length + 1) := by rw [y_i_si, if_neg (by omega), p2]
    have elb : (1 : Int64) <<< ((nI (cs.length + 1)).toInt64 &&& 63) = lb (cs.length + 1) := rfl
    rw [e5, elb]
    have F2 : xF (fun p k => (p = D ∧ (k = 4 ∨ k = 5)) ∨ ((p = D + 2 ∨ p = D + 3) ∧ k = cs.length + 1) ∨ (p = D + 1 ∧ 6 * (cs.length + 1) ≤ k ∧ k < 6 * (cs.length + 1) + 6) ∨ (p = D + 4 ∧ k = st.length + 1)) (fun p k => p = D + 5 ∧ k = st.length + 1) x_no w (x_sj (x_si w2 (D + 4) (st.length + 1) (nI (cs.length + 1))) (D + 5) (st.length + 1) (x_j w (D + 5) st.length ||| lb (cs.length + 1))) :=
      xF_sj (xF_si (xF_tr (xF_w hF (by omega) (by unfold x_no; intro _ _ z; exact z.elim) (fun _ _ z => z)) (xF_w p1 (by unfold mKe; omega) (by unfold x_no; intro _ _ z; exact z.elim) (fun _ _ z => z))) (by omega)) ⟨rfl, rfl⟩
    have hlc : (cs ++ [ls]).length = cs.length + 1 := by simp
    refine ⟨kD2, by omega, kD2, ⟨rfl, hv⟩, kD2, by omega, kD2, by omega, ⟨rfl, hv0⟩, kD2, ⟨rfl, hv⟩, hq _ (xF_w F2 (by omega) (by omega) (fun _ _ z => z)) ⟨⟨?_, ?_, ?_, ?_, ?_, ?_⟩, fun c hc => ?_, fun s hs => ?_, fun s hs j hj => ?_, fun j hj => ?_, fun j hj => ?_⟩⟩
    · exact (F2.2.1 D 0 (by omega)).trans s0
    · exact (F2.2.1 D 1 (by omega)).trans s1
    · exact (F2.2.1 D 2 (by omega)).trans s2
    · exact (F2.2.1 D 3 (by omega)).trans s3
    · rw [hlc, y_i_sj, e5]
    · rw [hlen, y_i_sj, y_i_si, if_neg (by omega), xI_i p1 D 5 (by unfold mKe; omega), y_i_si, if_pos ⟨rfl, rfl⟩]
    · rw [hlc] at hc
      rw [getD_appL]
      by_cases e : c < cs.length
      · rw [if_pos e]
        have hce := (cok_getD hco c).1
        exact PC_F F2 (sR c e) (by omega) (by omega) (by omega)
      · have e3 : c = cs.length := by omega
        rw [if_neg e, if_pos e3, e3]
        have hl6 := hl.1
        exact PC_F (mi := fun p k => p = D + 4 ∧ k = st.length + 1) (mj := fun p k => p = D + 5 ∧ k = st.length + 1) (mr := x_no) (xF_sj (xF_si xF_rf ⟨rfl, rfl⟩) ⟨rfl, rfl⟩) p3 (by omega) (by omega) (by omega)
    · rw [hlen] at hs
      unfold stA
      rw [sg_app]
      by_cases e : s < st.length
      · rw [if_pos e, F2.2.1 (D + 4) (s + 1) (by omega)]
        exact sA s e
      · have e3 : s = st.length := by omega
        rw [if_neg e, if_pos e3, e3, y_i_sj, y_i_si, if_pos ⟨rfl, rfl⟩]
        rfl
    · rw [hlen] at hs
      by_cases e : s ≤ st.length
      · rw [alv_app s j e, F2.2.2.1 (D + 5) s (by omega)]
        exact sL s e j hj
      · have e3 : s = st.length + 1 := by omega
        rw [e3, alv_last, y_j_sj, if_pos ⟨rfl, rfl⟩, hc_or, hc_lb _ (by omega) j hj, sL st.length (Nat.le_refl _) j hj]
        by_cases ej : j = cs.length + 1
        · rw [if_pos ej, decide_eq_true ej.symm]; simp
        · rw [if_neg ej, decide_eq_false (fun z => ej z.symm)]; simp
    · rw [F2.2.2.1 D 11 (by omega)]; exact sM j hj
    · rw [F2.2.2.1 D 12 (by omega)]; exact sP j hj
end X42
