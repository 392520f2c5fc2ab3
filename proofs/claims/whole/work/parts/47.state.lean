/-! The state on both sides; formula and stream of both sides. -/
/-- only cells below 36 were written; dc exceptions were made -/
def xLo (dc : Nat) (w w' : xW) : Prop := (x_N w' = x_N w ∧ x_C w' = x_C w + dc ∧ x_S w' = x_S w + 6 * dc ∧ x_k w' = x_k w ∧ x_l w' = x_l w) ∧ ∀ p, 36 ≤ p → x_i w' p = x_i w p ∧ x_j w' p = x_j w p ∧ x_r w' p = x_r w p
/-- only ints of cells 36 to 70 were written -/
def xHi (w w' : xW) : Prop := (x_N w' = x_N w ∧ x_C w' = x_C w ∧ x_S w' = x_S w ∧ x_k w' = x_k w ∧ x_l w' = x_l w) ∧ (∀ p, (p < 36 ∨ 70 < p) → x_i w' p = x_i w p) ∧ x_j w' = x_j w ∧ x_r w' = x_r w
theorem xLo_F {mi mj mr : Nat → Nat → Prop} {w w1 : xW} (q : xF mi mj mr w w1) (h : ∀ p k, 36 ≤ p → ¬ mi p k ∧ ¬ mj p k ∧ ¬ mr p k) : xLo 0 w w1 :=
  ⟨q.1, fun p hp => ⟨funext fun k => q.2.1 p k (h p k hp).1, funext fun k => q.2.2.1 p k (h p k hp).2.1, funext fun k => q.2.2.2 p k (h p k hp).2.2⟩⟩
theorem xHi_I {m : Nat → Nat → Prop} {w w1 : xW} (q : xI m w w1) (h : ∀ p k, (p < 36 ∨ 70 < p) → ¬ m p k) : xHi w w1 :=
  ⟨q.1, fun p hp => funext fun k => q.2.1 p k (h p k hp), xI_j q, xI_r q⟩
theorem xLo_tr {a b : Nat} {w w1 w2 : xW} (h : xLo a w w1) (g : xLo b w1 w2) : xLo (a + b) w w2 := by
  obtain ⟨⟨h1, h2, h3, h4, h5⟩, h6⟩ := h
  obtain ⟨⟨g1, g2, g3, g4, g5⟩, g6⟩ := g
  exact ⟨⟨g1.trans h1, by omega, by omega, g4.trans h4, g5.trans h5⟩, fun p hp => ⟨(g6 p hp).1.trans (h6 p hp).1, (g6 p hp).2.1.trans (h6 p hp).2.1, (g6 p hp).2.2.trans (h6 p hp).2.2⟩⟩
theorem xLo_lost {w : xW} : xLo 1 w (x_lost w 6) := ⟨⟨rfl, rfl, rfl, rfl, rfl⟩, fun _ _ => ⟨rfl, rfl, rfl⟩⟩
theorem xHi_rf {w : xW} : xHi w w := ⟨⟨rfl, rfl, rfl, rfl, rfl⟩, fun _ _ => rfl, rfl, rfl⟩
theorem xHi_tr {w w1 w2 : xW} (h : xHi w w1) (g : xHi w1 w2) : xHi w w2 := by
  obtain ⟨⟨h1, h2, h3, h4, h5⟩, h6, h7, h8⟩ := h
  obtain ⟨⟨g1, g2, g3, g4, g5⟩, g6, g7, g8⟩ := g
  exact ⟨⟨g1.trans h1, g2.trans h2, g3.trans h3, g4.trans h4, g5.trans h5⟩, fun p hp => (g6 p hp).trans (h6 p hp), g7.trans h7, g8.trans h8⟩
theorem sh_Hi {w w1 : xW} (h : xHi w w1) (s : SH w) : SH w1 := by
  refine ⟨h.1.1.trans s.1, h.1.2.2.2.1.trans s.2.1, h.1.2.2.2.2.trans s.2.2.1, ?_⟩
  rw [h.2.2.2]
  exact s.2.2.2
theorem fcl_le {t : Nat → Nat} {sz V : Nat} : ∀ (m a : Nat) (cs : List (List Int)), a ≤ sz → (fcl (nxt false t sz) V m a cs).1 ≤ sz + 1 ∧ (fcl (nxt false t sz) V m a cs).2.1 ≤ sz
  | 0, a, cs, h => ⟨by show 0 ≤ sz + 1; omega, h⟩
  | m + 1, a, cs, h => by
    have hri := rc_in (t := t) (pk := false) (V := V) 6 [] (nxt false t sz a) (nxt_le h) (nxt_pl h).1 (nxt_pl h).2
    unfold fcl
    split
    · exact fcl_le m _ _ hri.1
    · exact ⟨hri.2.2, h⟩
theorem fms_le {w : xW} {t : Nat → Nat} {sz : Nat} (ht : TT w t sz) : (fms t sz).1 ≤ 901 := by
  have t1 := ht.1
  have p1 := nxt_pl (pk := false) (t := t) (Nat.zero_le sz)
  have l1 := nxt_le (pk := false) (t := t) (Nat.zero_le sz)
  have p2 := nxt_pl (pk := false) (t := t) l1
  have l2 := nxt_le (pk := false) (t := t) l1
  have p3 := nxt_pl (pk := false) (t := t) l2
  have l3 := nxt_le (pk := false) (t := t) l2
  have p4 := nxt_pl (pk := false) (t := t) l3
  have l4 := nxt_le (pk := false) (t := t) l3
  unfold fms
  split
  · unfold frm2
    split
    · unfold frm3
      split
      · unfold frm4
        split
        · have hf := fcl_le (t := t) (V := (nxt false t sz (nxt false t sz (nxt false t sz 0).1).1).2.2.toNat) (nxt false t sz (nxt false t sz (nxt false t sz (nxt false t sz 0).1).1).1).2.2.toNat (nxt false t sz (nxt false t sz (nxt false t sz (nxt false t sz 0).1).1).1).1 [] l4
          have p5 := nxt_pl (pk := false) (t := t) hf.2
          unfold frm5
          split
          · show _ ≤ 901
            simp only
            omega
          · split
            · simp
            · simp only
              omega
        · simp only; omega
      · simp only; omega
    · simp only; omega
  · simp only; omega
section X47
variable {scr : Nat × (Nat → Int32)} {w : xW} {Q : xO → xW → Prop} {w1 : xW} {t : Nat → Nat} {sz a P D T S V g n fa dc : Nat} {pk hf hs : Bool} {ls : List Int} {cs : List (List Int)} {st : xSt} {mk sp : Nat → Bool} {tk : List Int} {o1 o2 o3 o4 : Option Value}
def TK (T : Nat) (w : xW) (tk : List Int) : Prop := x_i w T 1 = nI tk.length ∧ ∀ k, k < tk.length → x_i w (T + 1) k = iI (tk.getD k 0)
/-- the class's state -/
def CC0 (P D T S : Nat) (w : xW) (fa : Nat) (hf hs : Bool) (V g : Nat) (cs : List (List Int)) (st : xSt) (mk sp : Nat → Bool) (tk : List Int) : Prop :=
  ((P = 5 ∧ D = 11) ∨ (P = 11 ∧ D = 5)) ∧ ((T = 17 ∧ S = 19) ∨ (T = 19 ∧ S = 17)) ∧ (x_r w 0 5 = P ∧ x_r w 0 6 = D ∧ x_r w 0 7 = T ∧ x_r w 0 8 = S) ∧ x_i w 0 9 = nI fa ∧ PS P w hf hs V g cs st mk sp ∧ TK T w tk
def CC (w : xW) (fa : Nat) (hf hs : Bool) (V g : Nat) (cs : List (List Int)) (st : xSt) (mk sp : Nat → Bool) (tk : List Int) : Prop := ∃ P D T S, CC0 P D T S w fa hf hs V g cs st mk sp tk
/-- how a step was needed -/
def wy (st : xSt) (mk sp : Nat → Bool) (s : Nat) : Nat := if (sg st s).1 = true ∧ mk (sg st s).2 = true then (if sp (sg st s).2 = true then 2 else 1) else 0
/-- the reference's state -/
def CR (w : xW) (fa : Nat) (hf hs : Bool) (V g : Nat) (cs : List (List Int)) (st : xSt) (mk sp : Nat → Bool) (tk : List Int) : Prop :=
  x_i w 36 3 = nI fa ∧ RP w hf hs V g cs st ∧ (∀ j, j < 64 → x_i w 43 j = b32 (mk j)) ∧ (∀ s, s < st.length → x_i w 42 (s + 1) = nI (wy st mk sp s)) ∧ x_i w 36 24 = nI tk.length ∧ ∀ k, k < tk.length → x_i w 47 k = iI (tk.getD k 0)
/-- what holds of a state itself -/
def AK (fa : Nat) (hf hs : Bool) (V g : Nat) (cs : List (List Int)) (st : xSt) (mk sp : Nat → Bool) (tk : List Int) : Prop :=
  fa ≤ 901 ∧ V ≤ 16 ∧ g ≤ 40 ∧ g ≤ cs.length ∧ cs.length ≤ 63 ∧ st.length ≤ 80 ∧ cok cs ∧ st0 st ∧ (∃ rs, (cs, st) = prc (cs.take g) rs) ∧ (hs = true → hf = true) ∧ (∀ j, mk j = true → 1 ≤ j ∧ j ≤ cs.length) ∧ tk.length ≤ 2000 ∧ ∀ v ∈ tk, -9999 ≤ v ∧ v ≤ 10000
theorem PS_e (ei : ∀ p, D ≤ p → p ≤ D + 4 → x_i w1 p = x_i w p) (ej : x_j w1 D = x_j w D) (ej5 : x_j w1 (D + 5) = x_j w (D + 5)) (h : PS D w hf hs V g cs st mk sp) : PS D w1 hf hs V g cs st mk sp := by
  unfold PS PR PC at h ⊢
  rw [ei D (by omega) (by omega), ei (D + 1) (by omega) (by omega), ei (D + 2) (by omega) (by omega), ei (D + 3) (by omega) (by omega), ei (D + 4) (by omega) (by omega), ej, ej5]
  exact h
theorem TK_e (h0 : x_i w1 T = x_i w T) (h1 : x_i w1 (T + 1) = x_i w (T + 1)) (h : TK T w tk) : TK T w1 tk := by
  unfold TK at h ⊢
  rw [h0, h1]
  exact h
theorem CC_Hi (q : xHi w w1) (h : CC w fa hf hs V g cs st mk sp tk) : CC w1 fa hf hs V g cs st mk sp tk := by
  obtain ⟨P, D, T, S, hP, hT, hr, h9, hS, hK⟩ := h
  refine ⟨P, D, T, S, hP, hT, by rw [q.2.2.2]; exact hr, ?_, PS_e (fun p _ _ => q.2.1 p (by omega)) (by rw [q.2.2.1]) (by rw [q.2.2.1]) hS, TK_e (q.2.1 T (by omega)) (q.2.1 (T + 1) (by omega)) hK⟩
  rw [q.2.1 0 (by omega)]
  exact h9
theorem CR_Lo (q : xLo dc w w1) (h : CR w fa hf hs V g cs st mk sp tk) : CR w1 fa hf hs V g cs st mk sp tk := by
  unfold CR RP RC at h ⊢
  rw [(q.2 36 (by omega)).1, (q.2 38 (by omega)).1, (q.2 39 (by omega)).1, (q.2 40 (by omega)).1, (q.2 41 (by omega)).1, (q.2 42 (by omega)).1, (q.2 43 (by omega)).1, (q.2 47 (by omega)).1]
  exact h
/-- the mutable references of the class -/
def mrA : Nat → Nat → Prop := fun p k => (p = 0 ∧ 5 ≤ k ∧ k ≤ 8) ∨ (p = 21 ∧ k = 1) ∨ (p = 28 ∧ k = 0) ∨ (p = 31 ∧ k = 7)
theorem sh_A {mi mj : Nat → Nat → Prop} (q : xF mi mj mrA w w1) (s : SH w) : SH w1 := by
  refine ⟨q.1.1.trans s.1, q.1.2.2.2.1.trans s.2.1, q.1.2.2.2.2.trans s.2.2.1, fun x hx => ?_⟩
  have hm : ∀ x ∈ sh_R, ¬ mrA x.1 x.2.1 := by unfold mrA sh_R; decide
  rw [q.2.2.2 x.1 x.2.1 (hm x hx)]
  exact s.2.2.2 x hx
theorem c39 (hP : (P = 5 ∧ D = 11) ∨ (P = 11 ∧ D = 5)) (h : SH w) (h5 : x_r w 0 5 = P) (h6 : x_r w 0 6 = D) (hq : ∀ w', xF x_no x_no mrA w w' → x_r w' 0 5 = D → x_r w' 0 6 = P → x_r w' 0 7 = x_r w 0 7 → x_r w' 0 8 = x_r w 0 8 → Q (.inl none) w') : x_R x_prog scr 39 0 [some (.ref 0), o1] [] w Q := by
  have k0 : x_k w 0 = 3 := by rw [sh_k h]; rfl
  refine b39_0 ?_
  rw [h5, h6, sh_n h]
  refine ⟨k0, by omega, k0, by omega, ⟨k0, by omega, by omega⟩, ⟨k0, by omega, by omega⟩, hq _ (xF_sr (xF_sr xF_rf (Or.inl ⟨rfl, by omega, by omega⟩)) (Or.inl ⟨rfl, by omega, by omega⟩)) ?_ ?_ ?_ ?_⟩
  · rw [y_r_sr, if_neg (by omega), y_r_sr, if_pos ⟨rfl, rfl⟩]
  · rw [y_r_sr, if_pos ⟨rfl, rfl⟩]
  · rw [y_r_sr, if_neg (by omega), y_r_sr, if_neg (by omega)]
  · rw [y_r_sr, if_neg (by omega), y_r_sr, if_neg (by omega)]
theorem c40 (hT : T = 17 ∨ T = 19 ∨ T = 22) (h : SH w) (hq : ∀ w', xI (fun p k => p = T ∧ (k = 1 ∨ k = 2)) w w' → x_i w' T 1 = 0 → x_i w' T 2 = 0 → Q (.inl none) w') : x_R x_prog scr 40 0 [some (.ref T)] [] w Q := by
  refine b40_0 ⟨tK h hT, tK h hT, hq _ (xI_si (xI_si xI_rf ⟨rfl, Or.inl rfl⟩) ⟨rfl, Or.inr rfl⟩) ?_ ?_⟩
  · rw [y_i_si, if_neg (by omega), y_i_si, if_pos ⟨rfl, rfl⟩]
  · rw [y_i_si, if_pos ⟨rfl, rfl⟩]
/-- formula of the class -/
theorem c19 (h : SH w) (ht : TT w t sz) (hC : CC w fa hf hs V g cs st mk sp tk)
    (hq1 : (fms t sz).1 = 0 → ∀ w', xLo 0 w w' → SH w' → TT w' t sz → CC w' 0 true false (fms t sz).2.1 (fms t sz).2.2.length (fms t sz).2.2 [] nob nob [] → Q (.inl (some (.int (nI (fms t sz).2.2.length)))) w')
    (hq0 : ¬ (fms t sz).1 = 0 → ∀ w', xLo 1 w w' → SH w' → TT w' t sz → CC w' (fms t sz).1 hf hs V g cs st mk sp tk → Q (.inr 1) w') : x_R x_prog scr 19 0 [some (.ref 0)] [] w Q := by
  obtain ⟨P, D, T, S, hP, hT, ⟨r5, r6, r7, r8⟩, h9, hS, hK⟩ := hC
  have hD : D = 5 ∨ D = 11 := by omega
  have k0 : x_k w 0 = 3 := by rw [sh_k h]; rfl
  have t1 := ht.1
  have hT3 : T = 17 ∨ T = 19 ∨ T = 22 := by omega
  refine b19_0 ?_
  rw [r6, sr0_1 h, pK h hD]
  refine ⟨k0, by omega, k0, by decide, rfl, c20 hD h ht (fun w1 q1 q2 => b19_12 ?_)⟩
  have h1 := sh_F q1 h
  have k1 : x_k w1 0 = 3 := by rw [sh_k h1]; rfl
  have e9 : x_i (x_si w1 0 9 (nI (fms t sz).1)) 0 9 = nI (fms t sz).1 := by rw [y_i_si, if_pos ⟨rfl, rfl⟩]
  have F2 : xF (fun p k => mDi D p k ∨ (p = 0 ∧ k = 9)) (mDj D) x_no w (x_si w1 0 9 (nI (fms t sz).1)) := xF_si (xF_w q1 (fun _ _ z => Or.inl z) (fun _ _ z => z) (fun _ _ z => z)) (Or.inr ⟨rfl, rfl⟩)
  have h2 := sh_F F2 h
  have er : x_r (x_si w1 0 9 (nI (fms t sz).1)) = x_r w := funext fun o => funext fun k => F2.2.2.2 o k fun z => z
  have eR : ∀ k, x_r (x_si w1 0 9 (nI (fms t sz).1)) 0 k = x_r w 0 k := fun k => by rw [er]
  have ht2 : TT (x_si w1 0 9 (nI (fms t sz).1)) t sz := TT_F F2 ht (by unfold mDi; omega) (by unfold mDi; omega) (by unfold mDi; omega) (by unfold mDi; omega)
  have lo2 : xLo 0 w (x_si w1 0 9 (nI (fms t sz).1)) := xLo_F F2 (fun p k hp => ⟨by unfold mDi; omega, by unfold mDj; omega, fun z => z⟩)
  have hS2 : PS P (x_si w1 0 9 (nI (fms t sz).1)) hf hs V g cs st mk sp := PS_e (fun p _ _ => funext fun k => F2.2.1 p k (by unfold mDi; omega)) (funext fun k => F2.2.2.1 P k (by unfold mDj; omega)) (funext fun k => F2.2.2.1 (P + 5) k (by unfold mDj; omega)) hS
  have hK2 : TK T (x_si w1 0 9 (nI (fms t sz).1)) tk := TK_e (funext fun k => F2.2.1 T k (by unfold mDi; omega)) (funext fun k => F2.2.1 (T + 1) k (by unfold mDi; omega)) hK
  rw [e9]
  refine ⟨k1, k1, fun z => ⟨k1, ?_⟩, fun z => ?_⟩
  · have z0 : (fms t sz).1 = 0 := by
      have hle : (fms t sz).1 ≤ 901 := fms_le ht
      rw [← nI_0] at z
      exact (nI_eq (by omega) (by omega)).mp z
    have hPF := q2 z0
    have hl40 := hPF.2.2.2.2.2.2.2.2.2.2.2.1
    have hPS : PS D (x_si w1 0 9 (nI (fms t sz).1)) true false (fms t sz).2.1 (fms t sz).2.2.length (fms t sz).2.2 [] nob nob := by
      have G : xI (fun p k => p = 0 ∧ k = 9) w1 (x_si w1 0 9 (nI (fms t sz).1)) := xI_si xI_rf ⟨rfl, rfl⟩
      exact PS_e (fun p hp1 hp2 => xI_c G p (fun k z => by omega)) (by rw [xI_j G]) (by rw [xI_j G]) (PF_PS hPF)
    refine c39 hP h2 ((eR 5).trans r5) ((eR 6).trans r6) (fun w3 u1 u2 u3 u4 u5 => b19_34 ?_)
    have h3 := sh_A u1 h2
    have k3 : x_k w3 0 = 3 := by rw [sh_k h3]; rfl
    have e7 : x_r w3 0 7 = T := u4.trans ((eR 7).trans r7)
    rw [e7, tK h3 hT3]
    refine ⟨k3, by omega, rfl, c40 hT3 h3 (fun w4 v1 v2 v3 => b19_41 ?_)⟩
    have h4 := sh_I v1 h3
    have k4 : x_k w4 0 = 3 := by rw [sh_k h4]; rfl
    have f5 : x_r w4 0 5 = D := by rw [xI_r v1]; exact u2
    have ui : x_i w3 = x_i (x_si w1 0 9 (nI (fms t sz).1)) := funext fun o => funext fun k => u1.2.1 o k fun z => z
    have uj : x_j w3 = x_j (x_si w1 0 9 (nI (fms t sz).1)) := funext fun o => funext fun k => u1.2.2.1 o k fun z => z
    have hPS4 : PS D w4 true false (fms t sz).2.1 (fms t sz).2.2.length (fms t sz).2.2 [] nob nob := PS_e (fun p hp1 hp2 => (xI_c v1 p (fun k z => by omega)).trans (congrFun ui p)) (by rw [xI_j v1, uj]) (by rw [xI_j v1, uj]) hPS
    rw [f5, pK h4 hD, hPS4.1.2.2.2.1]
    refine ⟨k4, by omega, rfl, hq1 z0 w4 ?_ h4 ?_ ⟨D, P, T, S, by omega, hT, ⟨f5, ?_, ?_, ?_⟩, ?_, hPS4, ?_⟩⟩
    · exact xLo_tr (a := 0) (b := 0) lo2 (xLo_tr (a := 0) (b := 0) (xLo_F u1 (fun p k hp => ⟨fun z => z, fun z => z, by unfold mrA; omega⟩)) (xLo_F v1 (fun p k hp => ⟨by omega, fun z => z, fun z => z⟩)))
    · exact TT_I v1 (TT_F u1 ht2 (fun z => z) (fun z => z) (fun _ z => z) (fun _ z => z)) (by omega) (by omega) (by omega) (by omega)
    · rw [xI_r v1]; exact u3
    · rw [xI_r v1]; exact e7
    · rw [xI_r v1]; exact u5.trans ((eR 8).trans r8)
    · rw [xI_i v1 0 9 (by omega), ui, e9, z0]
    · exact ⟨v2, fun k hk => absurd hk (by simp)⟩
  · have z0 : ¬ (fms t sz).1 = 0 := fun y => z (by rw [y]; rfl)
    exact hq0 z0 _ (xLo_tr (a := 0) (b := 1) lo2 xLo_lost) h2 ht2 ⟨P, D, T, S, hP, hT, ⟨(eR 5).trans r5, (eR 6).trans r6, (eR 7).trans r7, (eR 8).trans r8⟩, e9, hS2, hK2⟩
end X47
