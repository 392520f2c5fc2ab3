/-! The record on the reference's side. -/
theorem nxt_v {t : Nat → Nat} {sz a : Nat} : (nxt false t sz a).2.2 = 20001 ∨ (nxt false t sz a).2.2 = 20000 ∨ (nxt false t sz a).2.2 = 10000 ∨ (-9999 ≤ (nxt false t sz a).2.2 ∧ (nxt false t sz a).2.2 ≤ 9999) := by
  show (if wF t sz a = wN t sz a then (20001 : Int) else wv t (wF t sz a) (wN t sz a)) = 20001 ∨ (if wF t sz a = wN t sz a then (20001 : Int) else wv t (wF t sz a) (wN t sz a)) = 20000 ∨ (if wF t sz a = wN t sz a then (20001 : Int) else wv t (wF t sz a) (wN t sz a)) = 10000 ∨ (-9999 ≤ (if wF t sz a = wN t sz a then (20001 : Int) else wv t (wF t sz a) (wN t sz a)) ∧ (if wF t sz a = wN t sz a then (20001 : Int) else wv t (wF t sz a) (wN t sz a)) ≤ 9999)
  have := wv_rg (t := t) (f := wF t sz a) (n := wN t sz a)
  split <;> omega
section X51
variable {scr : Nat × (Nat → Int32)} {w : xW} {Q : xO → xW → Prop} {w1 : xW} {t : Nat → Nat} {sz a p V g n fa dc ln : Nat} {pk hf hs : Bool} {ls : List Int} {cs : List (List Int)} {st : xSt} {mk sp : Nat → Bool} {tk : List Int} {v : Int} {o1 o2 o3 o4 : Option Value}
/-- the tokens that are being made -/
def MK (w : xW) (tk : List Int) : Prop := x_i w 36 26 = nI tk.length ∧ ∀ k, k < tk.length → k < 2000 → x_i w 48 k = iI (tk.getD k 0)
theorem MK_I {m : Nat → Nat → Prop} (q : xI m w w1) (h : MK w tk) (h1 : ¬ m 36 26) (h2 : ∀ k, ¬ m 48 k) : MK w1 tk := ⟨(xI_i q 36 26 h1).trans h.1, fun k hk hk2 => (xI_i q 48 k (h2 k)).trans (h.2 k hk hk2)⟩
def mPu : Nat → Nat → Prop := fun p k => (p = 36 ∧ k = 26) ∨ (p = 48 ∧ k < 2000)
theorem c83 (h : SH w) (hl : tk.length < 2 ^ 30) (hG : MK w tk) (hq : ∀ w', xI mPu w w' → MK w' (tk ++ [v]) → Q (.inl none) w') : x_R x_prog scr 83 0 [some (.ref 36), some (.int (iI v))] [] w Q := by
  have k0 : x_k w 36 = 12 := by rw [sh_k h]; rfl
  have g1 : (2000 : Int32) ≤ nI tk.length ↔ 2000 ≤ tk.length := nI_leI (a := 2000) (by omega) (by omega)
  have hl1 : (tk ++ [v]).length = tk.length + 1 := by simp
  refine b83_0 ?_
  rw [hG.1, g1, nI_1]
  refine ⟨k0, fun z => ⟨k0, k0, hq _ (xI_si xI_rf (Or.inl ⟨rfl, rfl⟩)) ⟨?_, fun k hk hk2 => ?_⟩⟩, fun z => ?_⟩
  · rw [y_i_si, if_pos ⟨rfl, rfl⟩, hl1]
  · rw [hl1] at hk
    rw [y_i_si, if_neg (by omega), getD_app, if_pos (by omega)]
    exact hG.2 k (by omega) hk2
  · have e1 : x_i (x_si w 48 tk.length (iI v)) 36 26 = nI tk.length := by rw [y_i_si, if_neg (by omega)]; exact hG.1
    rw [sr36_27 h, nI_clamp (by omega), e1, nI_1, sh_k h, sh_l h]
    refine ⟨rfl, by decide, rfl, ⟨rfl, vp_in_nI (N := 2000) (by omega) (by omega)⟩, rfl, rfl, hq _ (xI_si (xI_si xI_rf (Or.inr ⟨rfl, by omega⟩)) (Or.inl ⟨rfl, rfl⟩)) ⟨?_, fun k hk hk2 => ?_⟩⟩
    · rw [y_i_si, if_pos ⟨rfl, rfl⟩, hl1]
    · rw [hl1] at hk
      rw [y_i_si, if_neg (by omega), y_i_si, getD_app]
      by_cases e : k < tk.length
      · rw [if_neg (by omega), if_pos e]; exact hG.2 k e hk2
      · have e2 : k = tk.length := by omega
        rw [if_pos ⟨rfl, e2⟩, if_neg e, if_pos e2]
def mNu : Nat → Nat → Prop := fun p k => (p = 36 ∧ (k = 16 ∨ k = 17 ∨ k = 18 ∨ k = 26)) ∨ p = 48
theorem TT_Nu (q : xI mNu w w1) (ht : TT w t sz) : TT w1 t sz := TT_I q ht (by unfold mNu; omega) (by unfold mNu; omega) (by unfold mNu; omega) (by unfold mNu; omega)
/-- what is left of a record -/
def LX (t : Nat → Nat) (sz : Nat) (w : xW) (R : Nat × List Int × Nat) (p ln : Nat) (r : Int32) (b : Nat) : Prop :=
  (¬ R.1 = 0 ∧ r = nI R.1) ∨ (r = 0 ∧ ∃ d a tk, d < b ∧ tk.length + d = 900 ∧ wdn t sz a tk.length ∧ x_i w 36 16 = nI a ∧ MK w tk ∧ R = lr t sz d a p tk ln)
theorem LX_le {R : Nat × List Int × Nat} {r : Int32} {b b' : Nat} (hb : b ≤ b') (h : LX t sz w R p ln r b) : LX t sz w R p ln r b' := by
  rcases h with h | ⟨h1, d, a, tk, h2, h3⟩
  · exact Or.inl h
  · exact Or.inr ⟨h1, d, a, tk, by omega, h3⟩
theorem c84_l : ∀ (d a p : Nat) (tk : List Int) (w : xW) (r : Int32), SH w → TT w t sz → tk.length + d = 900 → ((p = 1 ∧ ¬ (nxt false t sz a).2.2 = 10000) ∨ p = 2 ∨ p = 3) → wdn t sz a tk.length → x_i w 36 19 = 0 → nxR false (nxt false t sz a) w r → MK w tk →
    (∀ w' r', xI mNu w w' → LX t sz w' (lr t sz d a p tk ln) (if p = 3 then 0 else 3) (ln + if p = 3 then 1 else 0) r' d → Q (.inl (some (.int r'))) w') → x_R x_prog scr 84 5 [some (.ref 36), some (.int r)] [] w Q := by
  intro d
  induction d with
  | zero =>
    intro a p tk w r h ht hd hp hw
    have t1 := ht.1
    obtain ⟨ha, hw⟩ := hw
    omega
  | succ d ih =>
    intro a p tk w r h ht hd hp hw h19 hN hG hq
    have t1 := ht.1
    have ha := hw.1
    have hpl := nxt_pl (pk := false) (t := t) ha
    have hv := nxt_v (t := t) (sz := sz) (a := a)
    have k0 : x_k w 36 = 12 := by rw [sh_k h]; rfl
    have i0 : (0 : Int32) = iI 0 := by decide
    rcases hN with ⟨q1, rfl, q3, q4, q5⟩ | ⟨q1, rfl⟩ | ⟨q1, -⟩
    · have g0 : iI (nxt false t sz a).2.2 = 0 ↔ (nxt false t sz a).2.2 = 0 := iI_eq (b := 0) (by omega) (by omega) (by omega) (by omega)
      have hc : cst p (nxt false t sz a).2.2 = true := by
        unfold cst
        rw [if_neg (by omega)]
        exact decide_eq_true (by omega)
      have ef : lr t sz (d + 1) a p tk ln = lr t sz d (nxt false t sz a).1 (pbh p (nxt false t sz a).2.2) (tk ++ [(nxt false t sz a).2.2]) (ln + if pbh p (nxt false t sz a).2.2 = 0 then 1 else 0) := by
        conv => lhs; unfold lr
        rw [if_neg (by omega), if_pos hc]
      rw [ef] at hq
      have hl1 : (tk ++ [(nxt false t sz a).2.2]).length = tk.length + 1 := by simp
      have hws := wdn_s hw (show ¬ (nxt false t sz a).2.2 = 20001 by omega)
      refine b84_5 ⟨fun z => absurd rfl z, fun _ => ⟨k0, ?_⟩⟩
      rw [q3, g0]
      refine ⟨fun z => ⟨k0, ?_⟩, fun z => ⟨k0, k0, ?_⟩⟩
      · rw [i0]
        refine c83 h (by omega) hG (fun w1 r1 r2 => b84_37 (hq w1 0 (xI_w r1 (by unfold mPu mNu; omega)) (Or.inr ⟨rfl, d, (nxt false t sz a).1, tk ++ [0], by omega, by simp; omega, ?_, (xI_i r1 36 16 (by unfold mPu; omega)).trans q4, r2, ?_⟩)))
        · rw [z] at hl1
          rw [hl1]; exact hws
        · rw [z]
          have e1 : pbh p 0 = if p = 3 then 0 else 3 := by
            unfold pbh
            rw [if_neg (by omega)]
            split
            · rfl
            · rw [if_pos (Or.inl rfl)]
          rw [e1]
          congr 2
          split <;> simp
      · refine c83 h (by omega) hG (fun w1 r1 r2 => b84_24 ?_)
        have hs1 := sh_I r1 h
        have F1 : xI mNu w w1 := xI_w r1 (by unfold mPu mNu; omega)
        refine ⟨by rw [sh_k hs1]; rfl, c49_w (pk := false) hs1 (TT_Nu F1 ht) (nxt_le ha) ((xI_i r1 36 16 (by unfold mPu; omega)).trans q4) ((xI_i r1 36 19 (by unfold mPu; omega)).trans h19) (fun w2 r' u1 u2 => b84_28 ?_)⟩
        have F2 : xI mNu w w2 := xI_tr F1 (xI_w u1 (by unfold mN mNu; omega))
        have e1 : pbh p (nxt false t sz a).2.2 = if p = 3 then 3 else 2 := by
          unfold pbh
          rw [if_neg (by omega)]
          by_cases e3 : p = 3
          · rw [if_pos e3, if_neg z, if_pos e3]
          · rw [if_neg e3, if_neg (by omega), if_neg e3]
        have e2 : ln + (if pbh p (nxt false t sz a).2.2 = 0 then 1 else 0) = ln := by
          rw [e1]
          split <;> split <;> simp_all
        rw [e2, e1] at hq
        refine ih (nxt false t sz a).1 (if p = 3 then 3 else 2) (tk ++ [(nxt false t sz a).2.2]) w2 r' (sh_I F2 h) (TT_Nu F2 ht) (by omega) (by split <;> omega) (by rw [hl1]; exact hws) ((xI_i F2 36 19 (by unfold mNu; omega)).trans h19) u2 (MK_I u1 r2 (by unfold mN; omega) (by unfold mN; omega)) (fun w' r'' y1 y2 => hq w' r'' (xI_tr F2 y1) ?_)
        have e3 : (if (if p = 3 then 3 else 2) = 3 then 0 else 3) = if p = 3 then 0 else 3 := by split <;> simp
        have e4 : (if (if p = 3 then 3 else 2) = 3 then 1 else 0) = if p = 3 then 1 else 0 := by split <;> simp
        rw [e3, e4] at y2
        exact LX_le (by omega) y2
    · have ef : lr t sz (d + 1) a p tk ln = ((nxt false t sz a).2.1, tk, ln) := by
        unfold lr
        by_cases e : (nxt false t sz a).2.2 = 20001
        · rw [if_pos e, if_neg (by omega)]
        · rw [if_neg e]
          have hc : cst p (nxt false t sz a).2.2 = false := by
            unfold cst
            split
            · exact decide_eq_false (by omega)
            · exact decide_eq_false (by omega)
          rw [hc]
          rfl
      rw [ef] at hq
      refine b84_5 ⟨fun _ => ⟨k0, ?_⟩, fun z => absurd (nI_ne0 (by omega) (by omega)) z⟩
      rw [i0]
      exact c83 h (by omega) hG (fun w1 r1 r2 => b84_37 (hq w1 _ (xI_w r1 (by unfold mPu mNu; omega)) (Or.inl ⟨by show ¬ (nxt false t sz a).2.1 = 0; omega, rfl⟩)))
    · cases q1
/-- numbers -/
theorem c84 {d : Nat} (h : SH w) (ht : TT w t sz) (hd : tk.length + d = 900) (hp : (p = 1 ∧ ¬ (nxt false t sz a).2.2 = 10000) ∨ p = 2 ∨ p = 3) (hw : wdn t sz a tk.length) (h19 : x_i w 36 19 = 0) (h16 : x_i w 36 16 = nI a) (hG : MK w tk)
    (hq : ∀ w' r', xI mNu w w' → LX t sz w' (lr t sz d a p tk ln) (if p = 3 then 0 else 3) (ln + if p = 3 then 1 else 0) r' d → Q (.inl (some (.int r'))) w') : x_R x_prog scr 84 0 [some (.ref 36), o1] [] w Q := by
  have ha := hw.1
  refine b84_0 ⟨by rw [sh_k h]; rfl, c49_w (pk := false) h ht ha h16 h19 (fun w2 r' u1 u2 => b84_4 ?_)⟩
  have F2 : xI mNu w w2 := xI_w u1 (by unfold mN mNu; omega)
  exact c84_l d a p tk w2 r' (sh_I F2 h) (TT_Nu F2 ht) hd hp hw ((xI_i F2 36 19 (by unfold mNu; omega)).trans h19) u2 (MK_I u1 hG (by unfold mN; omega) (by unfold mN; omega)) (fun w' r'' y1 y2 => hq w' r'' (xI_tr F2 y1) y2)
/-- readLine: the first word of it was taken -/
theorem c82 {d : Nat} (h : SH w) (ht : TT w t sz) (hd : tk.length + d = 900) (hw : wdn t sz a tk.length) (hlt : wF t sz a < wN t sz a) (h19 : x_i w 36 19 = 0) (h16 : x_i w 36 16 = nI (wN t sz a)) (h17 : x_i w 36 17 = nI (wF t sz a)) (hG : MK w tk)
    (hq : ∀ w' r', xI mNu w w' → LX t sz w' (lr t sz d a 0 tk ln) 0 (ln + 1) r' d → Q (.inl (some (.int r'))) w') : x_R x_prog scr 82 0 [some (.ref 36), o1, o2] [] w Q := by
  have t1 := ht.1
  have ha := hw.1
  have k0 : x_k w 36 = 12 := by rw [sh_k h]; rfl
  have hnl := wN_le (t := t) ha
  have hv := nxt_v (t := t) (sz := sz) (a := a)
  have ev : (nxt false t sz a).2.2 = wv t (wF t sz a) (wN t sz a) := by
    show (if wF t sz a = wN t sz a then (20001 : Int) else wv t (wF t sz a) (wN t sz a)) = _
    rw [if_neg (by omega)]
  have hne : ¬ (nxt false t sz a).2.2 = 20001 := by
    rw [ev]
    have := wv_rg (t := t) (f := wF t sz a) (n := wN t sz a)
    omega
  obtain ⟨d, rfl⟩ : ∃ d', d = d' + 1 := by
    cases d with
    | zero =>
      obtain ⟨-, hw⟩ := hw
      omega
    | succ d => exact ⟨d, rfl⟩
  refine b82_0 ⟨k0, c50 h ht h16 h17 hlt hnl (fun w1 q1 q2 => b82_4 ?_)⟩
  have hs1 := sh_I q1 h
  have k1 : x_k w1 36 = 12 := by rw [sh_k hs1]; rfl
  have F1 : xI mNu w w1 := xI_w q1 (by unfold m18 mNu; omega)
  rw [← ev] at q2 ⊢
  by_cases hn : (nxt false t sz a).2.2 ≤ 9999
  · rw [decide_eq_true hn]
    refine ⟨fun _ => ⟨k1, k1, ?_⟩, fun z => absurd (by decide) z⟩
    rw [q2 hn]
    have hc : cst 0 (nxt false t sz a).2.2 = true := by
      unfold cst
      rw [if_neg (by omega)]
      exact decide_eq_true (by omega)
    have ef : lr t sz (d + 1) a 0 tk ln = lr t sz d (nxt false t sz a).1 1 (tk ++ [(nxt false t sz a).2.2]) ln := by
      conv => lhs; unfold lr
      rw [if_neg hne, if_pos hc]
      rfl
    rw [ef] at hq
    have hl1 : (tk ++ [(nxt false t sz a).2.2]).length = tk.length + 1 := by simp
    have hws := wdn_s hw hne
    refine c83 hs1 (by omega) (MK_I q1 hG (by unfold m18; omega) (by unfold m18; omega)) (fun w2 r1 r2 => b82_22 ?_)
    have hs2 := sh_I r1 hs1
    have k2 : x_k w2 36 = 12 := by rw [sh_k hs2]; rfl
    have F2 : xI mNu w w2 := xI_tr F1 (xI_w r1 (by unfold mPu mNu; omega))
    have e16 : x_i w2 36 16 = nI (nxt false t sz a).1 := (xI_i r1 36 16 (by unfold mPu; omega)).trans ((xI_i q1 36 16 (by unfold m18; omega)).trans h16)
    generalize ha1 : (nxt false t sz a).1 = a1 at *
    generalize htk1 : tk ++ [(nxt false t sz a).2.2] = tk1 at *
    have hle1 : a1 ≤ sz := hws.1
    rw [e16]
    refine ⟨k2, k2, c44 hs2 (TT_Nu F2 ht) hle1 e16 (fun w3 u1 u2 u3 => b82_31 ?_)⟩
    have hs3 := sh_I u1 hs2
    have k3 : x_k w3 36 = 12 := by rw [sh_k hs3]; rfl
    have F3 : xI mNu w w3 := xI_tr F2 (xI_w u1 (by unfold mW mNu; omega))
    have G3 : MK w3 tk1 := MK_I u1 r2 (by unfold mW; omega) (by unfold mW; omega)
    have f19 : x_i w3 36 19 = 0 := (xI_i F3 36 19 (by unfold mNu; omega)).trans h19
    have hge1 := wN_ge (t := t) (sz := sz) (a := a1)
    have hnl1 := wN_le (t := t) hle1
    have hwd1 := wv_d (t := t) (f := wF t sz a1) (n := wN t sz a1)
    have hwr1 := wv_rg (t := t) (f := wF t sz a1) (n := wN t sz a1)
    by_cases hlt1 : wF t sz a1 < wN t sz a1
    · rw [decide_eq_true hlt1]
      have ev1 : (nxt false t sz a1).2.2 = wv t (wF t sz a1) (wN t sz a1) := by
        show (if wF t sz a1 = wN t sz a1 then (20001 : Int) else wv t (wF t sz a1) (wN t sz a1)) = _
        rw [if_neg (by omega)]
      have hne1 : ¬ (nxt false t sz a1).2.2 = 20001 := by rw [ev1]; omega
      refine ⟨fun _ => ⟨k3, c46 (c := 100) (by omega) hs3 (TT_Nu F3 ht) u2 u3 hlt1 hnl1 (b82_47 ?_)⟩, fun z => absurd (by decide) z⟩
      by_cases hdd : wN t sz a1 = wF t sz a1 + 1 ∧ t (wF t sz a1) = 100
      · rw [decide_eq_true hdd]
        have hv1 : (nxt false t sz a1).2.2 = 10000 := by rw [ev1]; exact hwd1.mpr hdd
        refine ⟨fun z => absurd z (by decide), fun _ => ⟨k3, ?_⟩⟩
        have i1 : (10000 : Int32) = iI 10000 := by decide
        rw [i1]
        refine c83 hs3 (by omega) G3 (fun w4 v1 v2 => b82_57 ?_)
        have hs4 := sh_I v1 hs3
        have F4 : xI mNu w w4 := xI_tr F3 (xI_w v1 (by unfold mPu mNu; omega))
        obtain ⟨d, rfl⟩ : ∃ d', d = d' + 1 := by
          cases d with
          | zero => obtain ⟨-, hw'⟩ := hws; omega
          | succ d => exact ⟨d, rfl⟩
        have ef2 : lr t sz (d + 1) a1 1 tk1 ln = lr t sz d (nxt false t sz a1).1 3 (tk1 ++ [10000]) ln := by
          conv => lhs; unfold lr
          rw [if_neg hne1, hv1, if_pos (by decide)]
          rfl
        rw [ef2] at hq
        have hl2 : (tk1 ++ [(10000 : Int)]).length = tk1.length + 1 := by simp
        have hws1 := wdn_s hws hne1
        refine ⟨by rw [sh_k hs4]; rfl, c84 (p := 3) (ln := ln) (d := d) (a := (nxt false t sz a1).1) (tk := tk1 ++ [10000]) hs4 (TT_Nu F4 ht) (by omega) (Or.inr (Or.inr rfl)) (by rw [hl2, hl1]; exact hws1) ((xI_i F4 36 19 (by unfold mNu; omega)).trans h19) ((xI_i v1 36 16 (by unfold mPu; omega)).trans u2) v2 (fun w5 r5 x1 x2 => b82_61 (hq w5 r5 (xI_tr F4 x1) (LX_le (by omega) x2)))⟩
      · rw [decide_eq_false hdd]
        have hv1 : ¬ (nxt false t sz a1).2.2 = 10000 := by rw [ev1]; exact fun z => hdd (hwd1.mp z)
        refine ⟨fun _ => ⟨k3, k3, ?_⟩, fun z => absurd rfl z⟩
        have F4 : xI mNu w (x_si w3 36 16 (nI a1)) := xI_si F3 (Or.inl ⟨rfl, Or.inl rfl⟩)
        have G4 : xI (fun p k => p = 36 ∧ k = 16) w3 (x_si w3 36 16 (nI a1)) := xI_si xI_rf ⟨rfl, rfl⟩
        refine c84 (p := 1) (ln := ln) (d := d) (a := a1) (tk := tk1) (sh_I F4 h) (TT_Nu F4 ht) (by omega) (Or.inl ⟨rfl, hv1⟩) (by rw [hl1]; exact hws) ((xI_i F4 36 19 (by unfold mNu; omega)).trans h19) (by rw [y_i_si, if_pos ⟨rfl, rfl⟩]) (MK_I G4 G3 (by omega) (by omega)) (fun w5 r5 x1 x2 => b82_71 ?_)
        have F5 : xI mNu w w5 := xI_tr F4 x1
        have hs5 := sh_I F5 h
        have hlr := lr_le (t := t) d a1 1 tk1 ln hle1
        rcases x2 with ⟨x2, rfl⟩ | ⟨rfl, d', a', tk', y0, y1, y2, y3, y4, y5⟩
        · exact ⟨fun z => absurd z (nI_nle (by omega) (by omega)), fun _ => b82_84 (hq w5 _ F5 (Or.inl ⟨x2, rfl⟩))⟩
        · refine ⟨fun _ => ⟨by rw [sh_k hs5]; rfl, ?_⟩, fun z => absurd (by decide) z⟩
          have y5 : lr t sz d a1 1 tk1 ln = lr t sz d' a' 3 tk' ln := y5
          rw [y5] at hq
          exact c84 (p := 3) (ln := ln) (d := d') (a := a') (tk := tk') hs5 (TT_Nu F5 ht) y1 (Or.inr (Or.inr rfl)) y2 ((xI_i F5 36 19 (by unfold mNu; omega)).trans h19) y3 y4 (fun w6 r6 z1 z2 => b82_84 (hq w6 r6 (xI_tr F5 z1) (LX_le (by omega) z2)))
    · rw [decide_eq_false hlt1]
      refine ⟨fun z => absurd rfl z, fun _ => ⟨k3, ?_⟩⟩
      have ev1 : (nxt false t sz a1).2.2 = 20001 := by
        show (if wF t sz a1 = wN t sz a1 then (20001 : Int) else wv t (wF t sz a1) (wN t sz a1)) = _
        rw [if_pos (by omega)]
      have hE := wE hle1 hlt1
      have hpl : (nxt false t sz a1).2.1 = sz + 1 := by
        show wF t sz a1 + 1 = sz + 1
        rw [hE]
      obtain ⟨d, rfl⟩ : ∃ d', d = d' + 1 := by
        cases d with
        | zero => obtain ⟨-, hw'⟩ := hws; omega
        | succ d => exact ⟨d, rfl⟩
      have ef2 : lr t sz (d + 1) a1 1 tk1 ln = (sz + 1, tk1, ln) := by
        unfold lr
        rw [if_pos ev1, if_neg (by omega), hpl]
      rw [ef2] at hq
      have e1 : x_i w3 36 1 = nI sz := (xI_i F3 36 1 (by unfold mNu; omega)).trans ht.2.2.2.1
      rw [e1, nI_1]
      exact hq w3 _ F3 (Or.inl ⟨by show ¬ sz + 1 = 0; omega, rfl⟩)
  · rw [decide_eq_false hn]
    refine ⟨fun z => absurd rfl z, fun _ => ⟨k1, ?_⟩⟩
    have hc : cst 0 (nxt false t sz a).2.2 = false := by
      unfold cst
      split
      · exact decide_eq_false (by omega)
      · exact decide_eq_false (by omega)
    have ef : lr t sz (d + 1) a 0 tk ln = (wF t sz a + 1, tk, ln) := by
      unfold lr
      rw [if_neg hne, hc]
      rfl
    rw [ef] at hq
    rw [xI_i q1 36 17 (by unfold m18; omega), h17, nI_1]
    exact hq w1 _ F1 (Or.inl ⟨by show ¬ wF t sz a + 1 = 0; omega, rfl⟩)
end X51
