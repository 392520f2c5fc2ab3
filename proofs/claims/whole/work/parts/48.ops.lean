/-! formula of the reference, stream of both sides. -/
section X48
variable {scr : Nat × (Nat → Int32)} {w : xW} {Q : xO → xW → Prop} {w1 : xW} {t : Nat → Nat} {sz a P D T S V g n fa dc : Nat} {pk hf hs : Bool} {ls : List Int} {cs : List (List Int)} {st : xSt} {mk sp : Nat → Bool} {tk : List Int} {o1 o2 o3 o4 : Option Value}
theorem TT_Hi (q : xHi w w1) (ht : TT w t sz) (h1 : x_i w1 36 1 = x_i w 36 1) (h2 : x_i w1 37 = x_i w 37) : TT w1 t sz :=
  ⟨ht.1, ht.2.1, by rw [q.2.1 1 (by omega)]; exact ht.2.2.1, h1.trans ht.2.2.2.1, fun k => by rw [q.2.1 2 (by omega)]; exact ht.2.2.2.2.1 k, fun k => by rw [h2]; exact ht.2.2.2.2.2 k⟩
theorem c41_l {M : Nat} (hM : M ≤ 40) (hl : cs.length = M) (hco : cok cs) : ∀ (d k : Nat) (w : xW), SH w → k + d = M → x_i w 36 6 = nI M → (∀ c, c < M → LI (c + 1) (cs.getD c []) w) → (∀ c, c < k → RC w (c + 1) (cs.getD c [])) →
    (∀ w', xI (fun p _ => p = 38 ∨ p = 39) w w' → (∀ c, c < M → RC w' (c + 1) (cs.getD c [])) → x_R x_prog scr 41 99 [some (.ref 36), some (.int (nI (M + 1)))] [] (x_si (x_si (x_si w' 36 10 0) 36 11 0) 36 24 0) Q) →
    x_R x_prog scr 41 64 [some (.ref 36), some (.int (nI (k + 1)))] [] w Q := by
  intro d
  induction d with
  | zero =>
    intro k w h hk h6 hL hR hq
    have e : k = M := by omega
    subst e
    refine b41_64 ?_
    simp only [sh_k h, sh_l h, sh_n h, kk36, sr36_2 h, sr36_8 h, sr36_9 h, sr36_12 h, sr36_13 h, sr36_14 h, sr36_15 h, sr36_21 h, sr36_22 h, sr36_23 h, sr36_25 h, sr36_27 h, sr36_28 h, sr36_29 h, sr36_30 h, sr36_31 h, sr36_35 h, sr36_36 h, sr36_37 h, sr36_38 h, sr36_40 h, sr36_41 h, sr36_42 h, sr36_44 h, sr36_45 h, sr36_46 h, sr36_47 h, sr36_48 h, sr36_49 h, sr36_51 h, sr36_52 h, sr36_53 h, sr36_54 h, sr36_55 h, true_and, and_true, false_and, and_false, and_self, not_false_eq_true, not_true_eq_false, true_implies, false_implies, implies_true, true_or, or_true, or_self, if_true, if_false, Nat.reduceEqDiff, reduceIte, eq_self, h6]
    exact ⟨fun _ => hq w xI_rf hR, fun z => absurd (nI_lt (by omega) (by omega)) z⟩
  | succ d ih =>
    intro k w h hk h6 hL hR hq
    refine b41_64 ?_
    simp only [sh_k h, sh_l h, sh_n h, kk36, sr36_2 h, sr36_8 h, sr36_9 h, sr36_12 h, sr36_13 h, sr36_14 h, sr36_15 h, sr36_21 h, sr36_22 h, sr36_23 h, sr36_25 h, sr36_27 h, sr36_28 h, sr36_29 h, sr36_30 h, sr36_31 h, sr36_35 h, sr36_36 h, sr36_37 h, sr36_38 h, sr36_40 h, sr36_41 h, sr36_42 h, sr36_44 h, sr36_45 h, sr36_46 h, sr36_47 h, sr36_48 h, sr36_49 h, sr36_51 h, sr36_52 h, sr36_53 h, sr36_54 h, sr36_55 h, true_and, and_true, false_and, and_false, and_self, not_false_eq_true, not_true_eq_false, true_implies, false_implies, implies_true, true_or, or_true, or_self, if_true, if_false, Nat.reduceEqDiff, reduceIte, eq_self, h6]
    refine ⟨fun z => absurd z (nI_nlt (by omega) (by omega)), fun _ => c54 (row := k + 1) (c := k + 1) (by omega) (by omega) h (cok_getD hco k).1 (hL k (by omega)) (fun w1 q1 q2 => b41_78 ?_)⟩
    rw [nI_1]
    refine ih (k + 1) w1 (sh_I q1 h) (by omega) ((xI_i q1 36 6 (by unfold mTO; omega)).trans h6) (fun c hc => LI_I q1 (hL c hc) (by unfold mTO; omega) (by unfold mTO; omega)) (fun c hc => ?_) (fun w' u1 u2 => hq w' (xI_tr (xI_w q1 (by unfold mTO; omega)) u1) u2)
    by_cases e : c = k
    · subst e; exact q2
    · have := (cok_getD hco c).1
      exact RC_I q1 (hR c (by omega)) (by unfold mTO; omega) (by unfold mTO; omega)
/-- formula of the reference -/
theorem c41 (h : SH w) (ht : TT w t sz) (hC : CR w fa hf hs V g cs st mk sp tk)
    (hq1 : (fms t sz).1 = 0 → ∀ w', xHi w w' → TT w' t sz → x_i w' 36 0 = 0 → AK 0 true false (fms t sz).2.1 (fms t sz).2.2.length (fms t sz).2.2 [] nob nob [] → CR w' 0 true false (fms t sz).2.1 (fms t sz).2.2.length (fms t sz).2.2 [] nob nob [] → Q (.inl (some (.int (nI (fms t sz).2.2.length)))) w')
    (hq0 : ¬ (fms t sz).1 = 0 → ∀ w', xHi w w' → TT w' t sz → x_i w' 36 0 = 1 → CR w' (fms t sz).1 hf hs V g cs st mk sp tk → Q (.inl (some (.int 0))) w') : x_R x_prog scr 41 0 [some (.ref 36), o1] [] w Q := by
  obtain ⟨c3, ⟨⟨p4, p5, p6, p7, p10, p11⟩, pR, pS⟩, cM, cW, c24, cT⟩ := hC
  have hle := fms_le ht
  have k0 : x_k w 36 = 12 := by rw [sh_k h]; rfl
  refine b41_0 ⟨k0, c42 h ht (fun w1 q1 q2 => b41_5 ?_)⟩
  have h1 := sh_I q1 h
  have k1 : x_k w1 36 = 12 := by rw [sh_k h1]; rfl
  have e3 : x_i (x_si w1 36 3 (nI (fms t sz).1)) 36 3 = nI (fms t sz).1 := by rw [y_i_si, if_pos ⟨rfl, rfl⟩]
  have e0 : ∀ v, x_i (x_si (x_si w1 36 3 (nI (fms t sz).1)) 36 0 v) 36 0 = v := fun v => by rw [y_i_si, if_pos ⟨rfl, rfl⟩]
  have gz : nI (fms t sz).1 ≤ 0 ↔ (fms t sz).1 = 0 := by rw [← nI_0, nI_leI (by omega) (by omega)]; omega
  rw [e3, e0, e0, gz]
  refine ⟨k1, k1, fun z => ⟨k1, k1, fun _ => ⟨⟨k1, Or.inr rfl⟩, b41_38 ?_⟩, fun y => absurd (by decide) y⟩, fun z => ⟨k1, k1, fun y => absurd y (by decide), fun _ => ?_⟩⟩
  · obtain ⟨u1, u2, u3, u4, u5, u6⟩ := q2 z
    generalize hw2 : x_si (x_si (x_si w1 36 3 (nI (fms t sz).1)) 36 0 0) 36 4 1 = w2
    have G2 : xI (fun p k => p = 36 ∧ (k = 3 ∨ k = 0 ∨ k = 4)) w1 w2 := by rw [← hw2]; exact xI_si (xI_si (xI_si xI_rf ⟨rfl, Or.inl rfl⟩) ⟨rfl, Or.inr (Or.inl rfl)⟩) ⟨rfl, Or.inr (Or.inr rfl)⟩
    have a3 : x_i w2 36 3 = 0 := by rw [← hw2, y_i_si, if_neg (by omega), y_i_si, if_neg (by omega), e3, z]; rfl
    have a0 : x_i w2 36 0 = 0 := by rw [← hw2, y_i_si, if_neg (by omega), e0]
    have a4 : x_i w2 36 4 = 1 := by rw [← hw2, y_i_si, if_pos ⟨rfl, rfl⟩]
    clear hw2
    have h2 := sh_I G2 h1
    have k2 : x_k w2 36 = 12 := by rw [sh_k h2]; rfl
    have b20 : x_i w2 36 20 = nI (fms t sz).2.1 := (xI_i G2 36 20 (by omega)).trans u2
    have b18 : x_i w2 36 18 = nI (fms t sz).2.2.length := (xI_i G2 36 18 (by omega)).trans u1
    have d1 : ∀ v, x_i (x_si w2 36 5 v) 36 18 = nI (fms t sz).2.2.length := fun v => by rw [y_i_si, if_neg (by omega), b18]
    have d2 : ∀ v u, x_i (x_si (x_si w2 36 5 v) 36 6 u) 36 18 = nI (fms t sz).2.2.length := fun v u => by rw [y_i_si, if_neg (by omega), d1]
    rw [b20, d1, d2]
    refine ⟨k2, k2, k2, k2, k2, k2, b41_62 ?_⟩
    generalize hw3 : x_si (x_si (x_si w2 36 5 (nI (fms t sz).2.1)) 36 6 (nI (fms t sz).2.2.length)) 36 7 (nI (fms t sz).2.2.length) = w3
    have G3 : xI (fun p k => p = 36 ∧ (k = 5 ∨ k = 6 ∨ k = 7)) w2 w3 := by rw [← hw3]; exact xI_si (xI_si (xI_si xI_rf ⟨rfl, Or.inl rfl⟩) ⟨rfl, Or.inr (Or.inl rfl)⟩) ⟨rfl, Or.inr (Or.inr rfl)⟩
    have a5 : x_i w3 36 5 = nI (fms t sz).2.1 := by rw [← hw3, y_i_si, if_neg (by omega), y_i_si, if_neg (by omega), y_i_si, if_pos ⟨rfl, rfl⟩]
    have a6 : x_i w3 36 6 = nI (fms t sz).2.2.length := by rw [← hw3, y_i_si, if_neg (by omega), y_i_si, if_pos ⟨rfl, rfl⟩]
    have a7 : x_i w3 36 7 = nI (fms t sz).2.2.length := by rw [← hw3, y_i_si, if_pos ⟨rfl, rfl⟩]
    clear hw3
    have h3 := sh_I G3 h2
    refine c41_l (M := (fms t sz).2.2.length) u4 rfl u5 (fms t sz).2.2.length 0 w3 h3 (by omega) a6 (fun c hc => LI_I G3 (LI_I G2 (u6 c hc) (by omega) (by omega)) (by omega) (by omega)) (fun c hc => by omega) (fun w4 v1 v2 => b41_99 ?_)
    have h4 := sh_I v1 h3
    have k4 : x_k w4 36 = 12 := by rw [sh_k h4]; rfl
    generalize hw5 : x_si (x_si (x_si w4 36 10 0) 36 11 0) 36 24 0 = w5
    have G5 : xI (fun p k => p = 36 ∧ (k = 10 ∨ k = 11 ∨ k = 24)) w4 w5 := by rw [← hw5]; exact xI_si (xI_si (xI_si xI_rf ⟨rfl, Or.inl rfl⟩) ⟨rfl, Or.inr (Or.inl rfl)⟩) ⟨rfl, Or.inr (Or.inr rfl)⟩
    have a10 : x_i w5 36 10 = 0 := by rw [← hw5, y_i_si, if_neg (by omega), y_i_si, if_neg (by omega), y_i_si, if_pos ⟨rfl, rfl⟩]
    have a11 : x_i w5 36 11 = 0 := by rw [← hw5, y_i_si, if_neg (by omega), y_i_si, if_pos ⟨rfl, rfl⟩]
    have a24 : x_i w5 36 24 = 0 := by rw [← hw5, y_i_si, if_pos ⟨rfl, rfl⟩]
    clear hw5
    have h5 := sh_I G5 h4
    refine ⟨by rw [sh_k h5]; rfl, c55 h5 (fun w6 y1 y2 y3 => b41_103 ?_)⟩
    have h6 := sh_I y1 h5
    have k6 : x_k w6 36 = 12 := by rw [sh_k h6]; rfl
    -- the way back to each field
    have f6 : ∀ k, x_i w6 36 k = x_i w5 36 k := fun k => xI_i y1 36 k (by unfold mFg; omega)
    have f5 : ∀ k, ¬ (k = 10 ∨ k = 11 ∨ k = 24) → x_i w6 36 k = x_i w3 36 k := fun k hk => (f6 k).trans ((xI_i G5 36 k (by omega)).trans (xI_i v1 36 k (by omega)))
    have f3 : ∀ k, ¬ (k = 10 ∨ k = 11 ∨ k = 24) → ¬ (k = 5 ∨ k = 6 ∨ k = 7) → x_i w6 36 k = x_i w2 36 k := fun k hk hk2 => (f5 k hk).trans (xI_i G3 36 k (by omega))
    have hHi : xHi w w6 := xHi_tr (xHi_I q1 (by unfold mRF; omega)) (xHi_tr (xHi_I G2 (by omega)) (xHi_tr (xHi_I G3 (by omega)) (xHi_tr (xHi_I v1 (by omega)) (xHi_tr (xHi_I G5 (by omega)) (xHi_I y1 (by unfold mFg; omega))))))
    have f1 : x_i w6 36 1 = x_i w 36 1 := (f3 1 (by omega) (by omega)).trans ((xI_i G2 36 1 (by omega)).trans (xI_i q1 36 1 (by unfold mRF; omega)))
    have f37 : x_i w6 37 = x_i w 37 := (xI_c y1 37 (by unfold mFg; omega)).trans ((xI_c G5 37 (by omega)).trans ((xI_c v1 37 (by omega)).trans ((xI_c G3 37 (by omega)).trans ((xI_c G2 37 (by omega)).trans (xI_c q1 37 (by unfold mRF; omega))))))
    rw [(f5 6 (by omega)).trans a6]
    refine ⟨k6, hq1 z w6 hHi (TT_Hi hHi ht f1 f37) ((f3 0 (by omega) (by omega)).trans a0) ⟨by omega, u3, u4, Nat.le_refl _, by omega, by simp, u5, st0_nil, ⟨[], by rw [List.take_length]; rfl⟩, fun _ => rfl, fun j hj => (by cases hj), by simp, fun v hv => by cases hv⟩ ⟨(f3 3 (by omega) (by omega)).trans a3, ⟨⟨(f3 4 (by omega) (by omega)).trans a4, (f5 5 (by omega)).trans a5, (f5 6 (by omega)).trans a6, (f5 7 (by omega)).trans a7, (f6 10).trans a10, (f6 11).trans a11⟩, fun c hc => RC_I y1 (RC_I G5 (v2 c hc) (by omega) (by omega)) (by unfold mFg; omega) (by unfold mFg; omega), fun s hs => absurd hs (by simp)⟩, fun j hj => y3 j hj, fun s hs => absurd hs (by simp), (f6 24).trans a24, fun k hk => absurd hk (by simp)⟩⟩
  · have G2 : xI (fun p k => p = 36 ∧ (k = 3 ∨ k = 0)) w1 (x_si (x_si w1 36 3 (nI (fms t sz).1)) 36 0 1) := xI_si (xI_si xI_rf ⟨rfl, Or.inl rfl⟩) ⟨rfl, Or.inr rfl⟩
    have hHi : xHi w (x_si (x_si w1 36 3 (nI (fms t sz).1)) 36 0 1) := xHi_tr (xHi_I q1 (by unfold mRF; omega)) (xHi_I G2 (by omega))
    have f : ∀ p k, ¬ (p = 36 ∧ (k = 0 ∨ k = 3 ∨ k = 16 ∨ k = 17 ∨ k = 18 ∨ k = 19 ∨ k = 20)) → ¬ p = 44 → ¬ p = 45 → x_i (x_si (x_si w1 36 3 (nI (fms t sz).1)) 36 0 1) p k = x_i w p k := fun p k h1 h2 h3 => (xI_i G2 p k (by omega)).trans (xI_i q1 p k (by unfold mRF; omega))
    refine hq0 z _ hHi (TT_Hi hHi ht (f 36 1 (by omega) (by omega) (by omega)) (funext fun k => f 37 k (by omega) (by omega) (by omega))) (e0 1) ⟨?_, ⟨⟨(f 36 4 (by omega) (by omega) (by omega)).trans p4, (f 36 5 (by omega) (by omega) (by omega)).trans p5, (f 36 6 (by omega) (by omega) (by omega)).trans p6, (f 36 7 (by omega) (by omega) (by omega)).trans p7, (f 36 10 (by omega) (by omega) (by omega)).trans p10, (f 36 11 (by omega) (by omega) (by omega)).trans p11⟩, fun c hc => ⟨(f 39 _ (by omega) (by omega) (by omega)).trans (pR c hc).1, fun k hk => (f 38 _ (by omega) (by omega) (by omega)).trans ((pR c hc).2 k hk)⟩, fun s hs => ⟨(f 40 _ (by omega) (by omega) (by omega)).trans (pS s hs).1, (f 41 _ (by omega) (by omega) (by omega)).trans (pS s hs).2⟩⟩, fun j hj => (f 43 j (by omega) (by omega) (by omega)).trans (cM j hj), fun s hs => (f 42 _ (by omega) (by omega) (by omega)).trans (cW s hs), (f 36 24 (by omega) (by omega) (by omega)).trans c24, fun k hk => (f 47 k (by omega) (by omega) (by omega)).trans (cT k hk)⟩
    rw [y_i_si, if_neg (by omega), e3]
end X48
