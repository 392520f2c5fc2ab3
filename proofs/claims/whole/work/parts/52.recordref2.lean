/-! record of the reference. -/
section X52
variable {scr : Nat × (Nat → Int32)} {w : xW} {Q : xO → xW → Prop} {w1 : xW} {t : Nat → Nat} {sz a p V g n fa dc ln : Nat} {pk hf hs : Bool} {ls : List Int} {cs : List (List Int)} {st : xSt} {mk sp : Nat → Bool} {tk : List Int} {v : Int} {o1 o2 o3 o4 : Option Value}
theorem c85_l (hl : tk.length ≤ 2000) : ∀ (d k : Nat) (w : xW), SH w → k + d = tk.length → MK w tk → (∀ j, j < k → x_i w 47 j = iI (tk.getD j 0)) → (∀ w', xI (fun p _ => p = 47) w w' → (∀ j, j < tk.length → x_i w' 47 j = iI (tk.getD j 0)) → Q (.inl none) w') →
    x_R x_prog scr 85 10 [some (.ref 36), some (.int (nI k))] [] w Q := by
  intro d
  induction d with
  | zero =>
    intro k w h hk hM hz hq
    refine b85_10 ?_
    simp only [sh_k h, sh_l h, sh_n h, kk36, sr36_2 h, sr36_8 h, sr36_9 h, sr36_12 h, sr36_13 h, sr36_14 h, sr36_15 h, sr36_21 h, sr36_22 h, sr36_23 h, sr36_25 h, sr36_27 h, sr36_28 h, sr36_29 h, sr36_30 h, sr36_31 h, sr36_35 h, sr36_36 h, sr36_37 h, sr36_38 h, sr36_40 h, sr36_41 h, sr36_42 h, sr36_44 h, sr36_45 h, sr36_46 h, sr36_47 h, sr36_48 h, sr36_49 h, sr36_51 h, sr36_52 h, sr36_53 h, sr36_54 h, sr36_55 h, true_and, and_true, false_and, and_false, and_self, not_false_eq_true, not_true_eq_false, true_implies, false_implies, implies_true, true_or, or_true, or_self, if_true, if_false, Nat.reduceEqDiff, reduceIte, eq_self, hM.1]
    exact ⟨fun _ => hq w xI_rf (fun j hj => hz j (by omega)), fun z => absurd (nI_le (by omega) (by omega)) z⟩
  | succ d ih =>
    intro k w h hk hM hz hq
    refine b85_10 ?_
    simp only [sh_k h, sh_l h, sh_n h, kk36, sr36_2 h, sr36_8 h, sr36_9 h, sr36_12 h, sr36_13 h, sr36_14 h, sr36_15 h, sr36_21 h, sr36_22 h, sr36_23 h, sr36_25 h, sr36_27 h, sr36_28 h, sr36_29 h, sr36_30 h, sr36_31 h, sr36_35 h, sr36_36 h, sr36_37 h, sr36_38 h, sr36_40 h, sr36_41 h, sr36_42 h, sr36_44 h, sr36_45 h, sr36_46 h, sr36_47 h, sr36_48 h, sr36_49 h, sr36_51 h, sr36_52 h, sr36_53 h, sr36_54 h, sr36_55 h, kk47, ll47, kk48, ll48, true_and, and_true, false_and, and_false, and_self, not_false_eq_true, not_true_eq_false, true_implies, false_implies, implies_true, true_or, or_true, or_self, if_true, if_false, Nat.reduceEqDiff, reduceIte, eq_self, hM.1, nI_1, nI_clamp (show k < 2 ^ 31 by omega), vp_in_nI (show k < 2000 by omega) (show 2000 < 2 ^ 31 by omega)]
    refine ⟨fun z => absurd z (nI_ge (by omega) (by omega)), fun _ => ?_⟩
    rw [hM.2 k (by omega) (by omega)]
    have F : xI (fun p _ => p = 47) w (x_si w 47 k (iI (tk.getD k 0))) := xI_si xI_rf rfl
    refine ih (k + 1) _ (sh_I F h) (by omega) (MK_I F hM (by omega) (by omega)) (fun j hj => ?_) (fun w' q1 q2 => hq w' (xI_tr F q1) q2)
    rw [y_i_si]
    by_cases e : j = k
    · rw [if_pos ⟨rfl, e⟩, e]
    · rw [if_neg (by omega)]; exact hz j (by omega)
/-- keepTokens -/
theorem c85 (h : SH w) (hl : tk.length ≤ 2000) (hM : MK w tk) (hq : ∀ w', xI (fun p k => (p = 36 ∧ k = 24) ∨ p = 47) w w' → x_i w' 36 24 = nI tk.length → (∀ j, j < tk.length → x_i w' 47 j = iI (tk.getD j 0)) → Q (.inl none) w') : x_R x_prog scr 85 0 [some (.ref 36), o1] [] w Q := by
  have k0 : x_k w 36 = 12 := by rw [sh_k h]; rfl
  refine b85_0 ⟨k0, k0, ?_⟩
  rw [hM.1]
  have F : xI (fun p k => p = 36 ∧ k = 24) w (x_si w 36 24 (nI tk.length)) := xI_si xI_rf ⟨rfl, rfl⟩
  refine c85_l hl tk.length 0 _ (sh_I F h) (by omega) (MK_I F hM (by omega) (by omega)) (fun j hj => by omega) (fun w' q1 q2 => hq w' (xI_tr (xI_w F (by omega)) (xI_w q1 (by omega))) ?_ q2)
  rw [xI_i q1 36 24 (by omega), y_i_si, if_pos ⟨rfl, rfl⟩]
def mRc : Nat → Nat → Prop := fun p k => (p = 36 ∧ (k = 0 ∨ k = 3 ∨ k = 16 ∨ k = 17 ∨ k = 18 ∨ k = 19 ∨ k = 26)) ∨ p = 48
theorem c81_l : ∀ (b d a : Nat) (tk : List Int) (ln : Nat) (w : xW), d ≤ b → SH w → TT w t sz → tk.length + d = 900 → wdn t sz a tk.length → x_i w 36 19 = 0 → x_i w 36 16 = nI a → MK w tk →
    ((lr t sz d a 0 tk ln).1 = 0 → ∀ w', xI (fun p k => mRc p k ∨ (p = 36 ∧ k = 24) ∨ p = 47) w w' → x_i w' 36 0 = 0 → x_i w' 36 3 = 0 → x_i w' 36 24 = nI (lr t sz d a 0 tk ln).2.1.length → (∀ j, j < (lr t sz d a 0 tk ln).2.1.length → x_i w' 47 j = iI ((lr t sz d a 0 tk ln).2.1.getD j 0)) → Q (.inl (some (.int (nI (lr t sz d a 0 tk ln).2.2)))) w') →
    (¬ (lr t sz d a 0 tk ln).1 = 0 → ∀ w', xI mRc w w' → x_i w' 36 0 = 1 → x_i w' 36 3 = nI (lr t sz d a 0 tk ln).1 → Q (.inl (some (.int 0))) w') →
    x_R x_prog scr 81 19 [some (.ref 36), some (.int (nI ln)), some (.int 0)] [] w Q := by
  intro b
  induction b with
  | zero =>
    intro d a tk ln w hb h ht hd hw
    have t1 := ht.1
    obtain ⟨ha, hw⟩ := hw
    omega
  | succ b ih =>
    intro d a tk ln w hb h ht hd hw h19 h16 hM hq1 hq0
    have t1 := ht.1
    have ha := hw.1
    have k0 : x_k w 36 = 12 := by rw [sh_k h]; rfl
    refine b81_19 ⟨fun z => absurd rfl z, fun _ => ⟨k0, c44 h ht ha h16 (fun w1 q1 q2 q3 => b81_27 ?_)⟩⟩
    have hs1 := sh_I q1 h
    have k1 : x_k w1 36 = 12 := by rw [sh_k hs1]; rfl
    have F1 : xI mRc w w1 := xI_w q1 (by unfold mW mRc; omega)
    have M1 : MK w1 tk := MK_I q1 hM (by unfold mW; omega) (by unfold mW; omega)
    have hge := wN_ge (t := t) (sz := sz) (a := a)
    by_cases hlt : wF t sz a < wN t sz a
    · rw [decide_eq_true hlt]
      refine ⟨fun z => absurd z (by decide), fun _ => ⟨k1, ?_⟩⟩
      refine c82 (ln := ln) hs1 (TT_I F1 ht (by unfold mRc; omega) (by unfold mRc; omega) (by unfold mRc; omega) (by unfold mRc; omega)) hd hw hlt ((xI_i q1 36 19 (by unfold mW; omega)).trans h19) q2 q3 M1 (fun w2 r u1 u2 => b81_34 ?_)
      have F2 : xI mRc w w2 := xI_tr F1 (xI_w u1 (by unfold mNu mRc; omega))
      have hs2 := sh_I F2 h
      have k2 : x_k w2 36 = 12 := by rw [sh_k hs2]; rfl
      have hle := lr_le (t := t) d a 0 tk ln ha
      rw [nI_1]
      rcases u2 with ⟨u2, rfl⟩ | ⟨rfl, d', a', tk', y0, y1, y2, y3, y4, y5⟩
      · have n0 : ¬ nI (lr t sz d a 0 tk ln).1 = 0 := nI_ne0 (by omega) (by omega)
        have e0 : ∀ v, x_i (x_si (x_si w2 36 3 (nI (lr t sz d a 0 tk ln).1)) 36 0 v) 36 0 = v := fun v => by rw [y_i_si, if_pos ⟨rfl, rfl⟩]
        refine b81_19 ⟨fun _ => ⟨k2, fun z => absurd z (nI_nle (by omega) (by omega)), fun _ => ⟨k2, k2, fun z => ?_, fun _ => ?_⟩⟩, fun z => absurd n0 z⟩
        · rw [e0] at z; exact absurd z (by decide)
        · exact hq0 u2 _ (xI_si (xI_si F2 (Or.inl ⟨rfl, by omega⟩)) (Or.inl ⟨rfl, by omega⟩)) (e0 1) (by rw [y_i_si, if_neg (by omega), y_i_si, if_pos ⟨rfl, rfl⟩])
      · rw [y5] at hq1 hq0
        exact ih d' a' tk' (ln + 1) w2 (by omega) hs2 (TT_I F2 ht (by unfold mRc; omega) (by unfold mRc; omega) (by unfold mRc; omega) (by unfold mRc; omega)) y1 y2 ((xI_i u1 36 19 (by unfold mNu; omega)).trans ((xI_i q1 36 19 (by unfold mW; omega)).trans h19)) y3 y4 (fun z w' x1 => hq1 z w' (xI_tr (xI_w F2 (fun _ _ z => Or.inl z)) x1)) (fun z w' x1 => hq0 z w' (xI_tr F2 x1))
    · rw [decide_eq_false hlt]
      have ev : (nxt false t sz a).2.2 = 20001 := by
        show (if wF t sz a = wN t sz a then (20001 : Int) else wv t (wF t sz a) (wN t sz a)) = _
        rw [if_pos (by omega)]
      obtain ⟨d, rfl⟩ : ∃ d', d = d' + 1 := by
        cases d with
        | zero => obtain ⟨-, hw'⟩ := hw; omega
        | succ d => exact ⟨d, rfl⟩
      have ef : lr t sz (d + 1) a 0 tk ln = (0, tk, ln) := by
        unfold lr
        rw [if_pos ev, if_pos rfl]
      rw [ef] at hq1
      have e0 : ∀ v, x_i (x_si (x_si w1 36 3 0) 36 0 v) 36 0 = v := fun v => by rw [y_i_si, if_pos ⟨rfl, rfl⟩]
      have F2 : xI mRc w (x_si (x_si w1 36 3 0) 36 0 0) := xI_si (xI_si F1 (Or.inl ⟨rfl, by omega⟩)) (Or.inl ⟨rfl, by omega⟩)
      have G2 : xI (fun p k => p = 36 ∧ (k = 3 ∨ k = 0)) w1 (x_si (x_si w1 36 3 0) 36 0 0) := xI_si (xI_si xI_rf ⟨rfl, Or.inl rfl⟩) ⟨rfl, Or.inr rfl⟩
      refine ⟨fun _ => ⟨k1, fun _ => ⟨k1, k1, fun _ => ⟨k1, ?_⟩, fun z => ?_⟩, fun z => absurd (by decide) z⟩, fun z => absurd rfl z⟩
      · refine c85 (tk := tk) (sh_I F2 h) (by omega) (MK_I G2 M1 (by omega) (by omega)) (fun w3 u1 u2 u3 => b81_72 (hq1 rfl w3 (xI_tr (xI_w F2 (fun _ _ z => Or.inl z)) (xI_w u1 (fun _ _ z => Or.inr z))) ?_ ?_ u2 u3))
        · rw [xI_i u1 36 0 (by omega), e0]
        · rw [xI_i u1 36 3 (by omega), y_i_si, if_neg (by omega), y_i_si, if_pos ⟨rfl, rfl⟩]
      · rw [e0] at z; exact absurd (by decide) z
/-- record of the reference -/
theorem c81 (h : SH w) (ht : TT w t sz) (hC : CR w fa hf hs V g cs st mk sp tk)
    (hq1 : (lr t sz 900 0 0 [] 0).1 = 0 → ∀ w', xHi w w' → TT w' t sz → x_i w' 36 0 = 0 → CR w' 0 hf hs V g cs st mk sp (lr t sz 900 0 0 [] 0).2.1 → Q (.inl (some (.int (nI (lr t sz 900 0 0 [] 0).2.2)))) w')
    (hq0 : ¬ (lr t sz 900 0 0 [] 0).1 = 0 → ∀ w', xHi w w' → TT w' t sz → x_i w' 36 0 = 1 → CR w' (lr t sz 900 0 0 [] 0).1 hf hs V g cs st mk sp tk → Q (.inl (some (.int 0))) w') : x_R x_prog scr 81 0 [some (.ref 36), o1, o2] [] w Q := by
  obtain ⟨c3, ⟨⟨p4, p5, p6, p7, p10, p11⟩, pR, pS⟩, cM, cW, c24, cT⟩ := id hC
  have k0 : x_k w 36 = 12 := by rw [sh_k h]; rfl
  have F1 : xI mRc w (x_si (x_si (x_si w 36 16 0) 36 19 0) 36 26 0) := xI_si (xI_si (xI_si xI_rf (Or.inl ⟨rfl, by omega⟩)) (Or.inl ⟨rfl, by omega⟩)) (Or.inl ⟨rfl, by omega⟩)
  have keep : ∀ (w' : xW) (F : Nat) (tk' : List Int), xI (fun p k => mRc p k ∨ (p = 36 ∧ k = 24) ∨ p = 47) w w' → x_i w' 36 3 = nI F → x_i w' 36 24 = nI tk'.length → (∀ j, j < tk'.length → x_i w' 47 j = iI (tk'.getD j 0)) → TT w' t sz ∧ xHi w w' ∧ CR w' F hf hs V g cs st mk sp tk' := by
    intro w' F tk' q h3 h24 h47
    have hHi : xHi w w' := xHi_I q (by unfold mRc; omega)
    have f : ∀ p k, ¬ (p = 36 ∧ (k = 0 ∨ k = 3 ∨ k = 16 ∨ k = 17 ∨ k = 18 ∨ k = 19 ∨ k = 26 ∨ k = 24)) → ¬ p = 47 → ¬ p = 48 → x_i w' p k = x_i w p k := fun p k h1 h2 h3 => xI_i q p k (by unfold mRc; omega)
    refine ⟨TT_Hi hHi ht (f 36 1 (by omega) (by omega) (by omega)) (funext fun k => f 37 k (by omega) (by omega) (by omega)), hHi, h3, ⟨⟨(f 36 4 (by omega) (by omega) (by omega)).trans p4, (f 36 5 (by omega) (by omega) (by omega)).trans p5, (f 36 6 (by omega) (by omega) (by omega)).trans p6, (f 36 7 (by omega) (by omega) (by omega)).trans p7, (f 36 10 (by omega) (by omega) (by omega)).trans p10, (f 36 11 (by omega) (by omega) (by omega)).trans p11⟩, fun c hc => ⟨(f 39 _ (by omega) (by omega) (by omega)).trans (pR c hc).1, fun k hk => (f 38 _ (by omega) (by omega) (by omega)).trans ((pR c hc).2 k hk)⟩, fun s hs => ⟨(f 40 _ (by omega) (by omega) (by omega)).trans (pS s hs).1, (f 41 _ (by omega) (by omega) (by omega)).trans (pS s hs).2⟩⟩, fun j hj => (f 43 j (by omega) (by omega) (by omega)).trans (cM j hj), fun s hs => (f 42 _ (by omega) (by omega) (by omega)).trans (cW s hs), h24, h47⟩
  refine b81_0 ⟨k0, ⟨k0, Or.inl rfl⟩, k0, b81_15 ?_⟩
  refine c81_l 900 900 0 [] 0 _ (Nat.le_refl _) (sh_I F1 h) (TT_I F1 ht (by unfold mRc; omega) (by unfold mRc; omega) (by unfold mRc; omega) (by unfold mRc; omega)) rfl ⟨Nat.zero_le _, Or.inl ⟨rfl, rfl⟩⟩ ?_ ?_ ⟨?_, fun k hk => absurd hk (by simp)⟩ (fun z w' u1 u2 u3 u4 u5 => ?_) (fun z w' u1 u2 u3 => ?_)
  · rw [y_i_si, if_neg (by omega), y_i_si, if_pos ⟨rfl, rfl⟩]
  · rw [y_i_si, if_neg (by omega), y_i_si, if_neg (by omega), y_i_si, if_pos ⟨rfl, rfl⟩]; rfl
  · rw [y_i_si, if_pos ⟨rfl, rfl⟩]; rfl
  · obtain ⟨a1, a2, a3⟩ := keep w' 0 _ (xI_tr (xI_w F1 (fun _ _ z => Or.inl z)) u1) u3 u4 u5
    exact hq1 z w' a2 a1 u2 a3
  · have G : xI mRc w w' := xI_tr F1 u1
    obtain ⟨a1, a2, a3⟩ := keep w' (lr t sz 900 0 0 [] 0).1 tk (xI_w G (fun _ _ z => Or.inl z)) u3 ((xI_i G 36 24 (by unfold mRc; omega)).trans c24) (fun k hk => (xI_i G 47 k (by unfold mRc; omega)).trans (cT k hk))
    exact hq0 z w' a2 a1 u2 a3
end X52
