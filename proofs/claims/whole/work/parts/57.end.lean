/-! propagate, liveAfter, findEnd of the reference; end of both sides. -/
def tv0 : Nat → Int := fun _ => 0
theorem tok0 : tok tv0 := fun _ => by unfold tv0; omega
theorem TM0 : TM tv0 0 := by
  intro l hl
  rw [mm_0]
  unfold vl tv0
  simp
/-- the least s, of d, from s on, with a conflict; or -1 -/
def fnd (cf : Nat → Nat) : Nat → Nat → Int
  | 0, _ => -1
  | d + 1, s => if cf s = 0 then fnd cf d (s + 1) else s
/-- the conflict after s steps -/
def cfl (cs : List (List Int)) (g : Nat) (st : xSt) (s : Nat) : Nat := (prg cs (alv g st s) nob 17 tv0 []).2.2
def fen (cs : List (List Int)) (g : Nat) (st : xSt) : Int := fnd (cfl cs g st) (st.length + 1) 0
theorem fnd_rg {cf : Nat → Nat} : ∀ (d s : Nat), fnd cf d s = -1 ∨ (∃ e : Nat, fnd cf d s = e ∧ s ≤ e ∧ e < s + d ∧ ¬ cf e = 0)
  | 0, s => Or.inl rfl
  | d + 1, s => by
    unfold fnd
    split
    · rcases fnd_rg (cf := cf) d (s + 1) with h | ⟨e, h1, h2, h3, h4⟩
      · exact Or.inl h
      · exact Or.inr ⟨e, h1, by omega, by omega, h4⟩
    · rename_i h
      exact Or.inr ⟨s, rfl, Nat.le_refl _, by omega, h⟩
theorem dlt_le {g : Nat} {cs : List (List Int)} {st : xSt} {ls : List Int} : dlt g cs st ls ≤ cs.length := by
  rcases lowA_le (p := fun c => alv g st st.length c && smc cs ls c) cs.length 1 with h | h
  · unfold dlt; rw [h]; omega
  · unfold dlt; omega
theorem prc_abf {g : Nat} : ∀ (rs : List (Bool × List Int)) (q : List (List Int) × xSt), (∀ k, k < q.2.length → (sg q.2 k).2 ≤ q.1.length) → ∀ k, k < (rs.foldl (ap1 g) q).2.length → (sg (rs.foldl (ap1 g) q).2 k).2 ≤ (rs.foldl (ap1 g) q).1.length
  | [], q, h => h
  | r :: rs, q, h => by
    rw [List.foldl_cons]
    refine prc_abf rs _ ?_
    unfold ap1
    split
    · intro k hk
      have hk : k < (q.2 ++ [(true, q.1.length + 1)]).length := hk
      show (sg (q.2 ++ [(true, q.1.length + 1)]) k).2 ≤ (q.1 ++ [r.2]).length
      simp at hk ⊢
      rw [sg_app]
      by_cases e : k < q.2.length
      · rw [if_pos e]; have := h k e; omega
      · rw [if_neg e, if_pos (by omega)]; exact Nat.le_refl _
    · intro k hk
      have hk : k < (q.2 ++ [(false, dlt g q.1 q.2 r.2)]).length := hk
      show (sg (q.2 ++ [(false, dlt g q.1 q.2 r.2)]) k).2 ≤ q.1.length
      simp at hk
      rw [sg_app]
      by_cases e : k < q.2.length
      · rw [if_pos e]; exact h k e
      · rw [if_neg e, if_pos (by omega)]; exact dlt_le
theorem prc_ab {cs : List (List Int)} {st : xSt} {cf : List (List Int)} (h : ∃ rs, (cs, st) = prc cf rs) (k : Nat) (hk : k < st.length) : (sg st k).2 ≤ cs.length := by
  obtain ⟨rs, h⟩ := h
  have := prc_abf (g := cf.length) rs (cf, []) (fun k hk => absurd hk (by simp))
  have e : rs.foldl (ap1 cf.length) (cf, []) = (cs, st) := h.symm
  rw [e] at this
  exact this k hk
section X57
variable {scr : Nat × (Nat → Int32)} {w : xW} {Q : xO → xW → Prop} {w1 : xW} {t : Nat → Nat} {sz n c g P V fa s : Nat} {hf hs : Bool} {al mk sp : Nat → Bool} {tv : Nat → Int} {tak : xTk} {ls tk : List Int} {cs : List (List Int)} {st : xSt} {l : Int} {o1 o2 o3 o4 o5 o6 o7 : Option Value}
theorem c103_l : ∀ (d : Nat) (tv : Nat → Int) (tak : xTk) (w : xW) (o2 : Option Value), SH w → RG w cs al mk → VT w tv → RK w tak → tok tv → TI cs tv tak → tak.length + d = 17 → x_i w 36 33 = 0 →
    (∀ w', xI mPr w w' → VT w' (prg cs al mk d tv tak).1 → RK w' (rtk (prg cs al mk d tv tak)) → x_i w' 36 33 = nI (prg cs al mk d tv tak).2.2 → tok (prg cs al mk d tv tak).1 → TI cs (prg cs al mk d tv tak).1 (prg cs al mk d tv tak).2.1 → (prg cs al mk d tv tak).2.2 ≤ cs.length → Q (.inl none) w') →
    x_R x_prog scr 103 10 [some (.ref 36), some (.int (nI (pkc cs al mk tv))), o2] [] w Q := by
  intro d
  induction d with
  | zero =>
    intro tv tak w o2 h hG hV hK ht hI hd
    have := TI_16 hI
    omega
  | succ d ih =>
    intro tv tak w o2 h hG hV hK ht hI hd h33 hq
    have h16 := TI_16 hI
    have hl63 := hG.2.1
    have hco := hG.2.2.1
    have k0 : x_k w 36 = 12 := by rw [sh_k h]; rfl
    by_cases hp0 : pkc cs al mk tv = 0
    · have ef : prg cs al mk (d + 1) tv tak = (tv, tak, 0) := by unfold prg; rw [if_pos hp0]
      rw [ef] at hq
      rw [hp0]
      exact b103_10 ⟨fun _ => hq w xI_rf hV hK h33 ht hI (Nat.zero_le _), fun z => absurd (by decide) z⟩
    · obtain ⟨q1, q2, q3, q4⟩ := pkc_in hp0
      have hR := (isr_iff ht (cg_ok hco (pkc cs al mk tv)) (u := (isr tv (cg cs (pkc cs al mk tv))).2)).mp ⟨q4, rfl⟩
      have hul : (isr tv (cg cs (pkc cs al mk tv))).2 = 0 ∨ lok (isr tv (cg cs (pkc cs al mk tv))).2 := by
        rcases hR.2 with e | e
        · exact Or.inl e
        · exact Or.inr ((cg_ok hco _).2.1 _ e.1)
      have hur : -16 ≤ (isr tv (cg cs (pkc cs al mk tv))).2 ∧ (isr tv (cg cs (pkc cs al mk tv))).2 ≤ 16 := by
        rcases hul with e | e
        · omega
        · unfold lok at e; omega
      refine b103_10 ⟨fun z => absurd z (nI_nle (by omega) (by omega)), fun _ => ⟨k0, c105 (cg_ok hco _) (by omega) ht h (RG_RC hG q1 q2) hV (fun w1 u1 u2 => b103_19 ?_)⟩⟩
      have h1 := sh_I u1 h
      have K1 : RK w1 tak := RK_I u1 hK (by unfold m32; omega) (by unfold m32; omega) (by unfold m32; omega)
      have v60 : vp_in (nI tak.length) 60 := vp_in_nI (by omega) (by omega)
      have e32 : ∀ v, x_i (x_si w1 53 tak.length v) 36 32 = iI (isr tv (cg cs (pkc cs al mk tv))).2 := fun v => by rw [y_i_si, if_neg (by omega)]; exact u2
      have e34 : ∀ v, x_i (x_si w1 53 tak.length v) 36 34 = nI tak.length := fun v => by rw [y_i_si, if_neg (by omega)]; exact K1.1
      rw [sr36_35 h1, sr36_36 h1, K1.1, nI_clamp (show tak.length < 2 ^ 31 by omega), e32, e34, sh_k h1, sh_l h1]
      refine ⟨rfl, by decide, rfl, ⟨rfl, v60⟩, rfl, by decide, rfl, rfl, c53 (by omega) (b103_45 ?_)⟩
      have f34 : ∀ v u, x_i (x_si (x_si w1 53 tak.length v) 54 tak.length u) 36 34 = nI tak.length := fun v u => by rw [y_i_si, if_neg (by omega)]; exact e34 v
      have f32 : ∀ v u x, x_i (x_si (x_si (x_si w1 53 tak.length v) 54 tak.length u) 36 34 x) 36 32 = iI (isr tv (cg cs (pkc cs al mk tv))).2 := fun v u x => by rw [y_i_si, if_neg (by omega), y_i_si, if_neg (by omega)]; exact e32 v
      have g0 : iI (isr tv (cg cs (pkc cs al mk tv))).2 = 0 ↔ (isr tv (cg cs (pkc cs al mk tv))).2 = 0 := iI_eq (b := 0) (by omega) (by omega) (by omega) (by omega)
      rw [nI_clamp (show tak.length < 2 ^ 31 by omega), f34, nI_1, f32, g0, y_k_si, y_l_si, sh_k h1, sh_l h1]
      have KP := RK_push (c := pkc cs al mk tv) (u := (isr tv (cg cs (pkc cs al mk tv))).2) (by omega) K1
      have F3 : xI mPr w (x_si (x_si (x_si w1 53 tak.length (nI (pkc cs al mk tv))) 54 tak.length (nI (isr tv (cg cs (pkc cs al mk tv))).2.natAbs)) 36 34 (nI (tak.length + 1))) := xI_si (xI_si (xI_si (xI_w u1 (by unfold m32 mPr; omega)) (by unfold mPr; omega)) (by unfold mPr; omega)) (by unfold mPr; omega)
      have G3' : xI (fun p k => (p = 36 ∧ (k = 32 ∨ k = 34)) ∨ p = 53 ∨ p = 54) w (x_si (x_si (x_si w1 53 tak.length (nI (pkc cs al mk tv))) 54 tak.length (nI (isr tv (cg cs (pkc cs al mk tv))).2.natAbs)) 36 34 (nI (tak.length + 1))) := xI_si (xI_si (xI_si (xI_w u1 (by unfold m32; omega)) (by omega)) (by omega)) (by omega)
      generalize x_si (x_si (x_si w1 53 tak.length (nI (pkc cs al mk tv))) 54 tak.length (nI (isr tv (cg cs (pkc cs al mk tv))).2.natAbs)) 36 34 (nI (tak.length + 1)) = w3 at KP F3 G3'
      have h3 := sh_I F3 h
      have k3 : x_k w3 36 = 12 := by rw [sh_k h3]; rfl
      have V3 : VT w3 tv := VT_I G3' hV (by omega)
      refine ⟨⟨rfl, v60⟩, rfl, rfl, rfl, fun z => ⟨rfl, rfl, ?_⟩, fun z => ⟨rfl, b103_68 ?_⟩⟩
      · obtain ⟨s1, s2, s3⟩ := TI_s hco ht hI hp0 z
        have ef : prg cs al mk (d + 1) tv tak = prg cs al mk d (setT tv (isr tv (cg cs (pkc cs al mk tv))).2) (tak ++ [(pkc cs al mk tv, (isr tv (cg cs (pkc cs al mk tv))).2)]) := by
          conv => lhs; unfold prg
          rw [if_neg hp0, if_neg z]
        rw [ef] at hq
        refine c107 s1 h3 V3 (fun w4 v1 v2 => b103_77 ?_)
        have F4 : xI mPr w w4 := xI_tr F3 (xI_w v1 (by unfold mPr; omega))
        have h4 := sh_I F4 h
        have G4 : RG w4 cs al mk := RG_I F4 hG (by unfold mPr; omega) (by unfold mPr; omega) (by unfold mPr; omega) (by unfold mPr; omega) (by unfold mPr; omega)
        have K4 := RK_I v1 KP (by omega) (by omega) (by omega)
        refine ⟨by rw [sh_k h4]; rfl, c104 (tok_set ht _) h4 G4 v2 (fun w5 x1 => b103_81 ?_)⟩
        have F5 : xI mPr w w5 := xI_tr F4 (xI_w x1 (by unfold m32 mPr; omega))
        refine ih (setT tv (isr tv (cg cs (pkc cs al mk tv))).2) _ w5 none (sh_I F5 h) (RG_I F5 hG (by unfold mPr; omega) (by unfold mPr; omega) (by unfold mPr; omega) (by unfold mPr; omega) (by unfold mPr; omega)) (VT_I x1 v2 (by unfold m32; omega)) (RK_I x1 K4 (by unfold m32; omega) (by unfold m32; omega) (by unfold m32; omega)) (tok_set ht _) s3 (by simp; omega) ?_ (fun w' y1 => hq w' (xI_tr F5 y1))
        rw [xI_i x1 36 33 (by unfold m32; omega), xI_i v1 36 33 (by omega), xI_i G3' 36 33 (by omega)]
        exact h33
      · have z0 := Classical.not_not.mp z
        have ef : prg cs al mk (d + 1) tv tak = (tv, tak, pkc cs al mk tv) := by unfold prg; rw [if_neg hp0, if_pos z0]
        rw [ef] at hq
        have F4 : xI mPr w (x_si w3 36 33 (nI (pkc cs al mk tv))) := xI_si F3 (by unfold mPr; omega)
        have G4 : xI (fun p k => p = 36 ∧ k = 33) w3 (x_si w3 36 33 (nI (pkc cs al mk tv))) := xI_si xI_rf ⟨rfl, rfl⟩
        refine hq _ F4 (VT_I G4 V3 (by omega)) ?_ (by rw [y_i_si, if_pos ⟨rfl, rfl⟩]) ht hI q2
        unfold rtk
        rw [if_neg hp0]
        rw [z0] at KP
        exact RK_I G4 KP (by omega) (by omega) (by omega)
/-- propagate -/
theorem c103 {d : Nat} (h : SH w) (hG : RG w cs al mk) (hV : VT w tv) (hK : RK w tak) (ht : tok tv) (hI : TI cs tv tak) (hd : tak.length + d = 17)
    (hq : ∀ w', xI mPr w w' → VT w' (prg cs al mk d tv tak).1 → RK w' (rtk (prg cs al mk d tv tak)) → x_i w' 36 33 = nI (prg cs al mk d tv tak).2.2 → tok (prg cs al mk d tv tak).1 → TI cs (prg cs al mk d tv tak).1 (prg cs al mk d tv tak).2.1 → (prg cs al mk d tv tak).2.2 ≤ cs.length → Q (.inl none) w') : x_R x_prog scr 103 0 [some (.ref 36), o1, o2] [] w Q := by
  have k0 : x_k w 36 = 12 := by rw [sh_k h]; rfl
  have F1 : xI (fun p k => p = 36 ∧ k = 33) w (x_si w 36 33 0) := xI_si xI_rf ⟨rfl, rfl⟩
  have h1 := sh_I F1 h
  have G1 : RG (x_si w 36 33 0) cs al mk := RG_I F1 hG (by omega) (by omega) (by omega) (by omega) (by omega)
  refine b103_0 ⟨k0, k0, c104 ht h1 G1 (VT_I F1 hV (by omega)) (fun w2 u1 => b103_9 ?_)⟩
  have F2 : xI mPr w w2 := xI_tr (xI_w F1 (by unfold mPr; omega)) (xI_w u1 (by unfold m32 mPr; omega))
  refine c103_l d tv tak w2 _ (sh_I F2 h) (RG_I F2 hG (by unfold mPr; omega) (by unfold mPr; omega) (by unfold mPr; omega) (by unfold mPr; omega) (by unfold mPr; omega)) (VT_I u1 (VT_I F1 hV (by omega)) (by unfold m32; omega)) (RK_I u1 (RK_I F1 hK (by omega) (by omega) (by omega)) (by unfold m32; omega) (by unfold m32; omega) (by unfold m32; omega)) ht hI hd ?_ (fun w' y1 => hq w' (xI_tr F2 y1))
  rw [xI_i u1 36 33 (by unfold m32; omega), y_i_si, if_pos ⟨rfl, rfl⟩]
/-- beginEmpty -/
theorem c102 (h : SH w) (hq : ∀ w', xI (fun p k => (p = 36 ∧ k = 34) ∨ p = 51) w w' → VT w' tv0 → RK w' [] → Q (.inl none) w') : x_R x_prog scr 102 0 [some (.ref 36), o1] [] w Q := by
  have key : ∀ (d k : Nat) (w : xW), SH w → k + d = 17 → (∀ j, j < k → x_i w 51 j = 0) → (∀ w', xI (fun p _ => p = 51) w w' → (∀ j, j < 17 → x_i w' 51 j = 0) → Q (.inl none) w') → x_R x_prog scr 102 7 [some (.ref 36), some (.int (nI k))] [] w Q := by
    intro d
    induction d with
    | zero =>
      intro k w h hk hz hq
      exact b102_7 ⟨fun _ => hq w xI_rf (fun j hj => hz j (by omega)), fun z => absurd (nI_le (a := 17) (by omega) (by omega)) z⟩
    | succ d ih =>
      intro k w h hk hz hq
      refine b102_7 ⟨fun z => absurd z (nI_ge (b := 17) (by omega) (by omega)), fun _ => ?_⟩
      simp only [sh_k h, sh_l h, sh_n h, kk36, sr36_2 h, sr36_8 h, sr36_9 h, sr36_12 h, sr36_13 h, sr36_14 h, sr36_15 h, sr36_21 h, sr36_22 h, sr36_23 h, sr36_25 h, sr36_27 h, sr36_28 h, sr36_29 h, sr36_30 h, sr36_31 h, sr36_35 h, sr36_36 h, sr36_37 h, sr36_38 h, sr36_40 h, sr36_41 h, sr36_42 h, sr36_44 h, sr36_45 h, sr36_46 h, sr36_47 h, sr36_48 h, sr36_49 h, sr36_51 h, sr36_52 h, sr36_53 h, sr36_54 h, sr36_55 h, kk51, ll51, true_and, and_true, false_and, and_false, and_self, not_false_eq_true, not_true_eq_false, true_implies, false_implies, implies_true, true_or, or_true, or_self, if_true, if_false, Nat.reduceEqDiff, reduceIte, eq_self, nI_1, nI_clamp (show k < 2 ^ 31 by omega), vp_in_nI (show k < 17 by omega) (show 17 < 2 ^ 31 by omega)]
      have F : xI (fun p _ => p = 51) w (x_si w 51 k 0) := xI_si xI_rf rfl
      refine ih (k + 1) _ (sh_I F h) (by omega) (fun j hj => ?_) (fun w' q1 q2 => hq w' (xI_tr F q1) q2)
      rw [y_i_si]
      by_cases e : j = k
      · rw [if_pos ⟨rfl, e⟩]
      · rw [if_neg (by omega)]; exact hz j (by omega)
  have F1 : xI (fun p k => p = 36 ∧ k = 34) w (x_si w 36 34 0) := xI_si xI_rf ⟨rfl, rfl⟩
  refine b102_0 ⟨by rw [sh_k h]; rfl, key 17 0 _ (sh_I F1 h) rfl (fun j hj => by omega) (fun w' q1 q2 => hq w' (xI_tr (xI_w F1 (by omega)) (xI_w q1 (by omega))) (fun v hv => q2 v (by omega)) ⟨?_, fun k hk => absurd hk (by simp)⟩)⟩
  rw [xI_i q1 36 34 (by omega), y_i_si, if_pos ⟨rfl, rfl⟩]
  rfl
/-- liveAfter -/
theorem c101_b (hs80 : s ≤ st.length) (h80 : st.length ≤ 80) (hab : ∀ k, k < st.length → (sg st k).2 ≤ 63) : ∀ (d i : Nat) (w : xW), SH w → i + d = s → (∀ k, k < st.length → x_i w 40 (k + 1) = b32 (sg st k).1 ∧ x_i w 41 (k + 1) = nI (sg st k).2) → (∀ j, j < 64 → x_i w 49 j = b32 (alv g st i j)) → (∀ w', xI (fun p _ => p = 49) w w' → (∀ j, j < 64 → x_i w' 49 j = b32 (alv g st s j)) → Q (.inl none) w') → x_R x_prog scr 101 46 [some (.ref 36), some (.int (nI s)), some (.int (nI (i + 1)))] [] w Q := by
  intro d
  induction d with
  | zero =>
    intro i w h hi hst hal hq
    have e : i = s := by omega
    subst e
    exact b101_46 ⟨fun _ => hq w xI_rf hal, fun z => absurd (nI_lt (by omega) (by omega)) z⟩
  | succ d ih =>
    intro i w h hi hst hal hq
    obtain ⟨a1, a2⟩ := hst i (by omega)
    have hb := hab i (by omega)
    refine b101_46 ⟨fun z => absurd z (nI_nlt (by omega) (by omega)), fun _ => ?_⟩
    simp only [sh_k h, sh_l h, sh_n h, kk36, sr36_2 h, sr36_8 h, sr36_9 h, sr36_12 h, sr36_13 h, sr36_14 h, sr36_15 h, sr36_21 h, sr36_22 h, sr36_23 h, sr36_25 h, sr36_27 h, sr36_28 h, sr36_29 h, sr36_30 h, sr36_31 h, sr36_35 h, sr36_36 h, sr36_37 h, sr36_38 h, sr36_40 h, sr36_41 h, sr36_42 h, sr36_44 h, sr36_45 h, sr36_46 h, sr36_47 h, sr36_48 h, sr36_49 h, sr36_51 h, sr36_52 h, sr36_53 h, sr36_54 h, sr36_55 h, kk40, ll40, kk41, ll41, kk49, ll49, true_and, and_true, false_and, and_false, and_self, not_false_eq_true, not_true_eq_false, true_implies, false_implies, implies_true, true_or, or_true, or_self, if_true, if_false, Nat.reduceEqDiff, reduceIte, eq_self, nI_1, nI_clamp (show i + 1 < 2 ^ 31 by omega), vp_in_nI (show i + 1 < 81 by omega) (show 81 < 2 ^ 31 by omega), a1, a2, nI_clamp (show (sg st i).2 < 2 ^ 31 by omega), vp_in_nI (show (sg st i).2 < 64 by omega) (show 64 < 2 ^ 31 by omega)]
    have F : xI (fun p _ => p = 49) w (x_si w 49 (sg st i).2 (b32 (sg st i).1)) := xI_si xI_rf rfl
    refine ⟨by cases (sg st i).1; exact Or.inl rfl; exact Or.inr rfl, ih (i + 1) _ (sh_I F h) (by omega) (fun k hk => ⟨(xI_i F 40 _ (by omega)).trans (hst k hk).1, (xI_i F 41 _ (by omega)).trans (hst k hk).2⟩) (fun j hj => ?_) (fun w' q1 q2 => hq w' (xI_tr F q1) q2)⟩
    rw [y_i_si]
    conv => rhs; unfold alv
    by_cases e : j = (sg st i).2
    · rw [if_pos ⟨rfl, e⟩, if_pos e]
    · rw [if_neg (fun z => e z.2), if_neg e]; exact hal j hj
theorem c101 (hs80 : s ≤ st.length) (h80 : st.length ≤ 80) (hg : g ≤ 63) (hab : ∀ k, k < st.length → (sg st k).2 ≤ 63) (h : SH w) (h6 : x_i w 36 6 = nI g) (hst : ∀ k, k < st.length → x_i w 40 (k + 1) = b32 (sg st k).1 ∧ x_i w 41 (k + 1) = nI (sg st k).2) (hq : ∀ w', xI (fun p _ => p = 49 ∨ p = 50) w w' → (∀ j, j < 64 → x_i w' 49 j = b32 (alv g st s j)) → (∀ j, j < 64 → x_i w' 50 j = b32 (nob j)) → Q (.inl none) w') : x_R x_prog scr 101 0 [some (.ref 36), some (.int (nI s)), o2] [] w Q := by
  have key : ∀ (d k : Nat) (w : xW), SH w → k + d = 64 → x_i w 36 6 = nI g → (∀ j, j < st.length → x_i w 40 (j + 1) = b32 (sg st j).1 ∧ x_i w 41 (j + 1) = nI (sg st j).2) → (∀ j, j < k → x_i w 49 j = b32 (decide (1 ≤ j ∧ j ≤ g)) ∧ x_i w 50 j = 0) → (∀ w', xI (fun p _ => p = 49 ∨ p = 50) w w' → (∀ j, j < 64 → x_i w' 49 j = b32 (alv g st s j)) → (∀ j, j < 64 → x_i w' 50 j = b32 (nob j)) → Q (.inl none) w') → x_R x_prog scr 101 2 [some (.ref 36), some (.int (nI s)), some (.int (nI k))] [] w Q := by
    intro d
    induction d with
    | zero =>
      intro k w h hk h6 hst hz hq
      refine b101_2 ⟨fun _ => ?_, fun z => absurd (nI_le (a := 64) (by omega) (by omega)) z⟩
      exact c101_b hs80 h80 hab s 0 w h (by omega) hst (fun j hj => (hz j (by omega)).1) (fun w' q1 q2 => hq w' (xI_w q1 (by omega)) q2 (fun j hj => by rw [xI_i q1 50 j (by omega), (hz j (by omega)).2]; rfl))
    | succ d ih =>
      intro k w h hk h6 hst hz hq
      have g0 : nI k ≤ 0 ↔ k = 0 := by rw [← nI_0, nI_leI (by omega) (by omega)]; omega
      have g1 : nI g < nI k ↔ g < k := nI_ltI (by omega) (by omega)
      refine b101_2 ⟨fun z => absurd z (nI_ge (b := 64) (by omega) (by omega)), fun _ => ?_⟩
      simp only [sh_k h, sh_l h, sh_n h, kk36, sr36_2 h, sr36_8 h, sr36_9 h, sr36_12 h, sr36_13 h, sr36_14 h, sr36_15 h, sr36_21 h, sr36_22 h, sr36_23 h, sr36_25 h, sr36_27 h, sr36_28 h, sr36_29 h, sr36_30 h, sr36_31 h, sr36_35 h, sr36_36 h, sr36_37 h, sr36_38 h, sr36_40 h, sr36_41 h, sr36_42 h, sr36_44 h, sr36_45 h, sr36_46 h, sr36_47 h, sr36_48 h, sr36_49 h, sr36_51 h, sr36_52 h, sr36_53 h, sr36_54 h, sr36_55 h, kk49, ll49, kk50, ll50, true_and, and_true, false_and, and_false, and_self, not_false_eq_true, not_true_eq_false, true_implies, false_implies, implies_true, true_or, or_true, or_self, if_true, if_false, Nat.reduceEqDiff, reduceIte, eq_self, h6, g0, g1, nI_1, nI_clamp (show k < 2 ^ 31 by omega), vp_in_nI (show k < 64 by omega) (show 64 < 2 ^ 31 by omega)]
      have next : ∀ v, v = b32 (decide (1 ≤ k ∧ k ≤ g)) → x_R x_prog scr 101 2 [some (.ref 36), some (.int (nI s)), some (.int (nI (k + 1)))] [] (x_si (x_si w 49 k v) 50 k 0) Q := by
        intro v hv
        have F : xI (fun p _ => p = 49 ∨ p = 50) w (x_si (x_si w 49 k v) 50 k 0) := xI_si (xI_si xI_rf (Or.inl rfl)) (Or.inr rfl)
        refine ih (k + 1) _ (sh_I F h) (by omega) ((xI_i F 36 6 (by omega)).trans h6) (fun j hj => ⟨(xI_i F 40 _ (by omega)).trans (hst j hj).1, (xI_i F 41 _ (by omega)).trans (hst j hj).2⟩) (fun j hj => ?_) (fun w' q1 q2 q3 => hq w' (xI_tr F q1) q2 q3)
        by_cases e : j = k
        · refine ⟨?_, ?_⟩
          · rw [y_i_si, if_neg (by omega), y_i_si, if_pos ⟨rfl, e⟩, hv, e]
          · rw [y_i_si, if_pos ⟨rfl, e⟩]
        · refine ⟨?_, ?_⟩
          · rw [y_i_si, if_neg (by omega), y_i_si, if_neg (by omega)]; exact (hz j (by omega)).1
          · rw [y_i_si, if_neg (by omega), y_i_si, if_neg (by omega)]; exact (hz j (by omega)).2
      refine ⟨fun z => next 0 (by rw [decide_eq_false (by omega)]; rfl), fun z => ⟨fun y => next 0 (by rw [decide_eq_false (by omega)]; rfl), fun y => next 1 (by rw [decide_eq_true (by omega)]; rfl)⟩⟩
  exact b101_0 (key 64 0 w h rfl h6 hst (fun j hj => by omega) hq)
/-- findEnd of the reference -/
def mFe : Nat → Nat → Prop := fun p k => (p = 36 ∧ (k = 32 ∨ k = 33 ∨ k = 34)) ∨ p = 49 ∨ p = 50 ∨ p = 51 ∨ p = 53 ∨ p = 54
theorem c100 (h80 : st.length ≤ 80) (hg : g ≤ 63) (hl : cs.length ≤ 63) (hco : cok cs) (hab : ∀ k, k < st.length → (sg st k).2 ≤ 63) (h : SH w) (hR : RP w hf hs V g cs st) (hq : ∀ w', xI mFe w w' → Q (.inl (some (.int (iI (fen cs g st))))) w') : x_R x_prog scr 100 0 [some (.ref 36), o1] [] w Q := by
  have key : ∀ (d s : Nat) (w : xW), SH w → RP w hf hs V g cs st → s + d = st.length + 1 → (∀ w', xI mFe w w' → Q (.inl (some (.int (iI (fnd (cfl cs g st) d s))))) w') → x_R x_prog scr 100 2 [some (.ref 36), some (.int (nI s))] [] w Q := by
    intro d
    induction d with
    | zero =>
      intro s w h hR hs hq
      refine b100_2 ?_
      simp only [sh_k h, sh_l h, sh_n h, kk36, sr36_2 h, sr36_8 h, sr36_9 h, sr36_12 h, sr36_13 h, sr36_14 h, sr36_15 h, sr36_21 h, sr36_22 h, sr36_23 h, sr36_25 h, sr36_27 h, sr36_28 h, sr36_29 h, sr36_30 h, sr36_31 h, sr36_35 h, sr36_36 h, sr36_37 h, sr36_38 h, sr36_40 h, sr36_41 h, sr36_42 h, sr36_44 h, sr36_45 h, sr36_46 h, sr36_47 h, sr36_48 h, sr36_49 h, sr36_51 h, sr36_52 h, sr36_53 h, sr36_54 h, sr36_55 h, true_and, and_true, false_and, and_false, and_self, not_false_eq_true, not_true_eq_false, true_implies, false_implies, implies_true, true_or, or_true, or_self, if_true, if_false, Nat.reduceEqDiff, reduceIte, eq_self, hR.1.2.2.2.2.2]
      exact ⟨fun _ => hq w xI_rf, fun z => absurd (nI_lt (by omega) (by omega)) z⟩
    | succ d ih =>
      intro s w h hR hs hq
      refine b100_2 ?_
      simp only [sh_k h, sh_l h, sh_n h, kk36, sr36_2 h, sr36_8 h, sr36_9 h, sr36_12 h, sr36_13 h, sr36_14 h, sr36_15 h, sr36_21 h, sr36_22 h, sr36_23 h, sr36_25 h, sr36_27 h, sr36_28 h, sr36_29 h, sr36_30 h, sr36_31 h, sr36_35 h, sr36_36 h, sr36_37 h, sr36_38 h, sr36_40 h, sr36_41 h, sr36_42 h, sr36_44 h, sr36_45 h, sr36_46 h, sr36_47 h, sr36_48 h, sr36_49 h, sr36_51 h, sr36_52 h, sr36_53 h, sr36_54 h, sr36_55 h, true_and, and_true, false_and, and_false, and_self, not_false_eq_true, not_true_eq_false, true_implies, false_implies, implies_true, true_or, or_true, or_self, if_true, if_false, Nat.reduceEqDiff, reduceIte, eq_self, hR.1.2.2.2.2.2]
      refine ⟨fun z => absurd z (nI_nlt (by omega) (by omega)), fun _ => c101 (st := st) (g := g) (by omega) h80 hg hab h hR.1.2.2.1 hR.2.2 (fun w1 u1 u2 u3 => b100_15 ?_)⟩
      have F1 : xI mFe w w1 := xI_w u1 (by unfold mFe; omega)
      have h1 := sh_I F1 h
      refine ⟨by rw [sh_k h1]; rfl, c102 h1 (fun w2 v1 v2 v3 => b100_19 ?_)⟩
      have F2 : xI mFe w w2 := xI_tr F1 (xI_w v1 (by unfold mFe; omega))
      have h2 := sh_I F2 h
      have i2 : ∀ p k, (p = 36 ∧ ¬ (k = 32 ∨ k = 33 ∨ k = 34)) ∨ p = 38 ∨ p = 39 ∨ p = 40 ∨ p = 41 → x_i w2 p k = x_i w p k := fun p k hpk => xI_i F2 p k (by unfold mFe; omega)
      have G2 : RG w2 cs (alv g st s) nob := ⟨(i2 36 7 (by omega)).trans hR.1.2.2.2.1, hl, hco, fun c hc => ⟨(i2 39 _ (by omega)).trans (hR.2.1 c hc).1, fun k hk => (i2 38 _ (by omega)).trans ((hR.2.1 c hc).2 k hk)⟩, fun j hj => (xI_i v1 49 j (by omega)).trans (u2 j hj), fun j hj => (xI_i v1 50 j (by omega)).trans (u3 j hj)⟩
      refine ⟨by rw [sh_k h2]; rfl, c103 (d := 17) h2 G2 v2 v3 tok0 TI_nil rfl (fun w3 x1 x2 x3 x4 x5 x6 x7 => b100_23 ?_)⟩
      have F3 : xI mFe w w3 := xI_tr F2 (xI_w x1 (by unfold mPr mFe; omega))
      have h3 := sh_I F3 h
      have x7 : cfl cs g st s ≤ cs.length := x7
      have x4 : x_i w3 36 33 = nI (cfl cs g st s) := x4
      have g0 : nI (cfl cs g st s) ≤ 0 ↔ cfl cs g st s = 0 := by rw [← nI_0, nI_leI (by omega) (by omega)]; omega
      unfold fnd at hq
      rw [x4, g0, nI_1]
      refine ⟨by rw [sh_k h3]; rfl, fun z => ?_, fun z => ?_⟩
      · rw [if_pos z] at hq
        have i3 : ∀ p k, (p = 36 ∧ ¬ (k = 32 ∨ k = 33 ∨ k = 34)) ∨ p = 38 ∨ p = 39 ∨ p = 40 ∨ p = 41 → x_i w3 p k = x_i w p k := fun p k hpk => xI_i F3 p k (by unfold mFe; omega)
        refine ih (s + 1) w3 h3 ⟨⟨(i3 36 4 (by omega)).trans hR.1.1, (i3 36 5 (by omega)).trans hR.1.2.1, (i3 36 6 (by omega)).trans hR.1.2.2.1, (i3 36 7 (by omega)).trans hR.1.2.2.2.1, (i3 36 10 (by omega)).trans hR.1.2.2.2.2.1, (i3 36 11 (by omega)).trans hR.1.2.2.2.2.2⟩, fun c hc => ⟨(i3 39 _ (by omega)).trans (hR.2.1 c hc).1, fun k hk => (i3 38 _ (by omega)).trans ((hR.2.1 c hc).2 k hk)⟩, fun k hk => ⟨(i3 40 _ (by omega)).trans (hR.2.2 k hk).1, (i3 41 _ (by omega)).trans (hR.2.2 k hk).2⟩⟩ (by omega) (fun w' y1 => hq w' (xI_tr F3 y1))
      · rw [if_neg z, iI_n] at hq
        exact hq w3 F3
  exact b100_0 (key (st.length + 1) 0 w h hR (by omega) hq)
/-- findEnd of the class -/
def mPi : Nat → Nat → Prop := fun p k => (p = 28 ∧ (k = 2 ∨ k = 3 ∨ k = 6 ∨ k = 7 ∨ k = 8 ∨ k = 9)) ∨ p = 29 ∨ p = 30
def mPj : Nat → Nat → Prop := fun p k => p = 28 ∧ k = 1
def mPrr : Nat → Nat → Prop := fun p k => p = 28 ∧ k = 0
theorem PS_sets (hS : PS P w hf hs V g cs st mk sp) : ∀ c, c < cs.length → x_i w (P + 3) (c + 1) = mask (cs.getD c []) := fun c hc => (hS.2.1 c hc).2.1
theorem PS_P (hP : P = 5 ∨ P = 11) (q : xF mPi mPj mPrr w w1) (hS : PS P w hf hs V g cs st mk sp) : PS P w1 hf hs V g cs st mk sp :=
  PS_e (fun p _ _ => funext fun k => q.2.1 p k (by unfold mPi; omega)) (funext fun k => q.2.2.1 P k (by unfold mPj; omega)) (funext fun k => q.2.2.1 (P + 5) k (by unfold mPj; omega)) hS
theorem c94 (hP : P = 5 ∨ P = 11) (h80 : st.length ≤ 80) (hl : cs.length ≤ 63) (hco : cok cs) (h : SH w) (hS : PS P w hf hs V g cs st mk sp) (hq : ∀ w', xF mPi mPj mPrr w w' → SH w' → Q (.inl (some (.int (iI (fen cs g st))))) w') : x_R x_prog scr 94 0 [some (.ref 21), some (.ref P), o2] [] w Q := by
  have key : ∀ (d s : Nat) (w : xW), SH w → PS P w hf hs V g cs st mk sp → s + d = st.length + 1 → (∀ w', xF mPi mPj mPrr w w' → SH w' → Q (.inl (some (.int (iI (fnd (cfl cs g st) d s))))) w') → x_R x_prog scr 94 2 [some (.ref 21), some (.ref P), some (.int (nI s))] [] w Q := by
    intro d
    induction d with
    | zero =>
      intro s w h hS hs hq
      refine b94_2 ?_
      rw [pK h hP, hS.1.2.2.2.2.2]
      exact ⟨rfl, fun _ => hq w xF_rf h, fun z => absurd (nI_lt (by omega) (by omega)) z⟩
    | succ d ih =>
      intro s w h hS hs hq
      refine b94_2 ?_
      rw [pK h hP, hS.1.2.2.2.2.2, sr21_0 h, pr10 h hP, (pk5 h hP).1, (pk5 h hP).2, nI_clamp (show s < 2 ^ 31 by omega), sh_k h]
      refine ⟨rfl, fun z => absurd z (nI_nlt (by omega) (by omega)), fun _ => ⟨rfl, by decide, rfl, by omega, ⟨rfl, vp_in_nI (by omega) (by omega)⟩, rfl, c95 (tv := tv0) (al := alv g st s) (mk := nob) hco h tok0 hP hS.1.2.2.2.2.1 hl (PS_sets hS) (hS.2.2.2.1 s (by omega)) (fun j _ => hc_0 j) TM0 (fun w1 u1 u2 u3 u4 u5 u6 u7 u8 => b94_26 ?_)⟩⟩
      have u1 : xF mPi mPj mPrr w w1 := u1
      rw [nI_1]
      unfold fnd at hq
      by_cases z : cfl cs g st s = 0
      · have e : decide (¬ (prg cs (alv g st s) nob 17 tv0 []).2.2 = 0) = false := decide_eq_false (fun y => y z)
        rw [e]
        rw [if_pos z] at hq
        exact ⟨fun _ => ih (s + 1) w1 u2 (PS_P hP u1 hS) (by omega) (fun w' y1 y2 => hq w' (xF_tr u1 y1) y2), fun y => absurd rfl y⟩
      · have e : decide (¬ (prg cs (alv g st s) nob 17 tv0 []).2.2 = 0) = true := decide_eq_true z
        rw [e]
        rw [if_neg z, iI_n] at hq
        exact ⟨fun y => absurd y (by decide), fun _ => hq w1 u1 u2⟩
  exact b94_0 (key (st.length + 1) 0 w h hS (by omega) hq)
theorem CC_P {dc : Nat} (q : xF mPi mPj mPrr w w1) (hC : CC w fa hf hs V g cs st mk sp tk) : CC w1 fa hf hs V g cs st mk sp tk := by
  obtain ⟨P, D, T, S, hP, hT, ⟨r5, r6, r7, r8⟩, h9, hS, hK⟩ := hC
  have er : ∀ k, x_r w1 0 k = x_r w 0 k := fun k => q.2.2.2 0 k (by unfold mPrr; omega)
  exact ⟨P, D, T, S, hP, hT, ⟨(er 5).trans r5, (er 6).trans r6, (er 7).trans r7, (er 8).trans r8⟩, (q.2.1 0 9 (by unfold mPi; omega)).trans h9, PS_P (by omega) q hS, TK_e (funext fun k => q.2.1 T k (by unfold mPi; omega)) (funext fun k => q.2.1 (T + 1) k (by unfold mPi; omega)) hK⟩
theorem TT_P (q : xF mPi mPj mPrr w w1) (ht : TT w t sz) : TT w1 t sz := TT_F q ht (by unfold mPi; omega) (by unfold mPi; omega) (by unfold mPi; omega) (by unfold mPi; omega)
theorem xLo_P (q : xF mPi mPj mPrr w w1) : xLo 0 w w1 := xLo_F q (fun p k hp => ⟨by unfold mPi; omega, by unfold mPj; omega, by unfold mPrr; omega⟩)
/-- end of the class -/
theorem c93 (h : SH w) (ht : TT w t sz) (hA : AK fa hf hs V g cs st mk sp tk) (hC : CC w fa hf hs V g cs st mk sp tk)
    (hq1 : hs = true → ∀ w', xLo 0 w w' → SH w' → TT w' t sz → CC w' fa hf hs V g cs st mk sp tk → Q (.inl (some (.int (iI (fen cs g st))))) w')
    (hq2 : hs = false → ∀ w', xLo 1 w w' → SH w' → TT w' t sz → CC w' fa hf hs V g cs st mk sp tk → Q (.inr 2) w') : x_R x_prog scr 93 0 [some (.ref 0)] [] w Q := by
  obtain ⟨hfa, hV, hg40, hgl, hl63, hst80, hco, hst0, hrs, hsf, hmk, htl, htv⟩ := hA
  obtain ⟨P, D, T, S, hP, hT, ⟨r5, r6, r7, r8⟩, h9, hS, hK⟩ := id hC
  have hPP : P = 5 ∨ P = 11 := by omega
  have k0 : x_k w 0 = 3 := by rw [sh_k h]; rfl
  refine b93_0 ?_
  rw [r5, pK h hPP, hS.1.2.1, sr0_3 h]
  cases hs with
  | false => exact ⟨k0, by omega, rfl, fun z => absurd rfl z, fun _ => hq2 rfl _ xLo_lost h ht hC⟩
  | true => exact ⟨k0, by omega, rfl, fun _ => ⟨k0, by decide, k0, by omega, by rw [sh_k h]; rfl, c94 hPP hst80 hl63 hco h hS (fun w1 u1 u2 => b93_29 (hq1 rfl w1 (xLo_P u1) u2 (TT_P u1 ht) (CC_P (dc := 0) u1 hC)))⟩, fun z => absurd (by decide) z⟩
theorem CR_z {m : Nat → Nat → Prop} (q : xI m w w1) (hm : ∀ p k, m p k → (p = 36 ∧ (k = 0 ∨ k = 32 ∨ k = 33 ∨ k = 34 ∨ k = 39 ∨ k = 43 ∨ k = 26 ∨ k = 50)) ∨ (48 ≤ p ∧ p ≤ 70)) (ht : TT w t sz) (hC : CR w fa hf hs V g cs st mk sp tk) : xHi w w1 ∧ TT w1 t sz ∧ CR w1 fa hf hs V g cs st mk sp tk := by
  have hHi : xHi w w1 := xHi_I q (fun p k hp z => by have := hm p k z; omega)
  have f : ∀ p k, (p = 36 ∧ (k = 1 ∨ k = 3 ∨ k = 4 ∨ k = 5 ∨ k = 6 ∨ k = 7 ∨ k = 10 ∨ k = 11 ∨ k = 24)) ∨ (37 ≤ p ∧ p ≤ 47) → x_i w1 p k = x_i w p k := fun p k h1 => xI_i q p k (fun z => by have := hm p k z; omega)
  obtain ⟨c3, ⟨⟨p4, p5, p6, p7, p10, p11⟩, pR, pS⟩, cM, cW, c24, cT⟩ := hC
  refine ⟨hHi, TT_Hi hHi ht (f 36 1 (by omega)) (funext fun k => f 37 k (by omega)), (f 36 3 (by omega)).trans c3, ⟨⟨(f 36 4 (by omega)).trans p4, (f 36 5 (by omega)).trans p5, (f 36 6 (by omega)).trans p6, (f 36 7 (by omega)).trans p7, (f 36 10 (by omega)).trans p10, (f 36 11 (by omega)).trans p11⟩, fun c hc => ⟨(f 39 _ (by omega)).trans (pR c hc).1, fun k hk => (f 38 _ (by omega)).trans ((pR c hc).2 k hk)⟩, fun s hs => ⟨(f 40 _ (by omega)).trans (pS s hs).1, (f 41 _ (by omega)).trans (pS s hs).2⟩⟩, fun j hj => (f 43 j (by omega)).trans (cM j hj), fun s hs => (f 42 _ (by omega)).trans (cW s hs), (f 36 24 (by omega)).trans c24, fun k hk => (f 47 k (by omega)).trans (cT k hk)⟩
/-- end of the reference -/
theorem c99 (h : SH w) (ht : TT w t sz) (hA : AK fa hf hs V g cs st mk sp tk) (hC : CR w fa hf hs V g cs st mk sp tk)
    (hq1 : hs = true → ∀ w', xHi w w' → TT w' t sz → x_i w' 36 0 = 0 → CR w' fa hf hs V g cs st mk sp tk → Q (.inl (some (.int (iI (fen cs g st))))) w')
    (hq2 : hs = false → ∀ w', xHi w w' → TT w' t sz → x_i w' 36 0 = 1 → CR w' fa hf hs V g cs st mk sp tk → Q (.inl (some (.int 0))) w') : x_R x_prog scr 99 0 [some (.ref 36)] [] w Q := by
  obtain ⟨hfa, hV, hg40, hgl, hl63, hst80, hco, hst0, hrs, hsf, hmk, htl, htv⟩ := hA
  have k0 : x_k w 36 = 12 := by rw [sh_k h]; rfl
  have e0 : ∀ v, x_i (x_si w 36 0 v) 36 0 = v := fun v => by rw [y_i_si, if_pos ⟨rfl, rfl⟩]
  have F : ∀ v, xI (fun p k => p = 36 ∧ k = 0) w (x_si w 36 0 v) := fun v => xI_si xI_rf ⟨rfl, rfl⟩
  have h10 := hC.2.1.1.2.2.2.2.1
  refine b99_0 ?_
  rw [h10, e0, e0]
  cases hs with
  | false =>
    refine ⟨k0, fun _ => ⟨k0, k0, fun z => absurd z (by decide), fun _ => b99_31 ?_⟩, fun z => absurd rfl z⟩
    obtain ⟨a1, a2, a3⟩ := CR_z (F 1) (by omega) ht hC
    exact hq2 rfl _ a1 a2 (e0 1) a3
  | true =>
    obtain ⟨a1, a2, a3⟩ := CR_z (F 0) (by omega) ht hC
    refine ⟨k0, fun z => absurd z (by decide), fun _ => ⟨k0, k0, fun _ => ⟨k0, c100 hst80 (by omega) hl63 hco (fun k hk => by have := prc_ab hrs k hk; omega) (sh_I (F 0) h) a3.2.1 (fun w1 u1 => b99_31 ?_)⟩, fun z => absurd (by decide) z⟩⟩
    obtain ⟨b1, b2, b3⟩ := CR_z u1 (by unfold mFe; omega) a2 a3
    exact hq1 rfl w1 (xHi_tr a1 b1) b2 ((xI_i u1 36 0 (by unfold mFe; omega)).trans (e0 0)) b3
end X57
