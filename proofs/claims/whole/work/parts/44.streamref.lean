/-! The stream on the reference's side: reading. -/
theorem wF_F {t : Nat → Nat} {sz a : Nat} (ha : a ≤ sz) : wF t sz (wF t sz a) = wF t sz a := by
  have h1 := wF_le (t := t) ha
  by_cases h : wF t sz a < sz
  · have h3 : gv (t (wF t sz a)) = false := skp_end (fun k => gv (t k)) (sz - a) a (by unfold wF at h; omega)
    have h4 : sz - wF t sz a = (sz - wF t sz a - 1) + 1 := by omega
    show skp (fun k => gv (t k)) (sz - wF t sz a) (wF t sz a) = _
    rw [h4]
    unfold skp
    simp [h3]
  · have h2 : sz - wF t sz a = 0 := by omega
    show skp (fun k => gv (t k)) (sz - wF t sz a) (wF t sz a) = _
    rw [h2]
    rfl
theorem nxt_F {t : Nat → Nat} {sz a : Nat} (ha : a ≤ sz) : nxt false t sz (wF t sz a) = nxt false t sz a := by
  have h := wF_F (t := t) ha
  have h2 : wN t sz (wF t sz a) = wN t sz a := by
    unfold wN
    rw [h]
  show nxW t sz (wF t sz a) = nxW t sz a
  unfold nxW
  rw [h, h2]
theorem wv_d {t : Nat → Nat} {f n : Nat} : wv t f n = 10000 ↔ (n = f + 1 ∧ t f = 100) := by
  have h1 := oI_rg (b := true) (fun s (hs : szd t (f + 1) n = some s) => szd_lt hs)
  have h2 := oI_rg (b := false) (fun s (hs : szd t f n = some s) => szd_lt hs)
  unfold wv
  split
  · rename_i h; exact ⟨fun _ => h, fun _ => rfl⟩
  · rename_i h
    refine ⟨fun z => ?_, fun z => absurd z h⟩
    exfalso
    split at z
    · split at z <;> omega
    · split at z <;> omega
section X44
variable {scr : Nat × (Nat → Int32)} {w : xW} {Q : xO → xW → Prop} {t : Nat → Nat} {sz a V g n row : Nat} {pk : Bool} {ls : List Int} {cs : List (List Int)} {st : xSt} {o1 o2 o3 o4 : Option Value}
/-- what beginning says -/
def bgF (pk : Bool) (t : Nat → Nat) (sz g a s ad : Nat) : Prop := s = 80 ∨ opK pk t sz a = 3 ∨ (opK pk t sz a = 2 ∧ g + ad = 63)
def BR (pk : Bool) (t : Nat → Nat) (sz g a s ad : Nat) (w : xW) (r : Int32) : Prop :=
  (opK pk t sz a = 0 ∧ r = 0) ∨ (¬ opK pk t sz a = 0 ∧ bgF pk t sz g a s ad ∧ r = - nI (opP pk t sz a)) ∨ (¬ opK pk t sz a = 0 ∧ ¬ bgF pk t sz g a s ad ∧ r = nI (3 - opK pk t sz a) ∧ ∃ a', a' ≤ sz ∧ x_i w 36 16 = nI a' ∧ nxt pk t sz a' = opS pk t sz a)
theorem neg1 {f : Nat} (hf : f < 2 ^ 30) : (-1 : Int32) - nI f = - nI (f + 1) := by
  rw [← nI_1, Int32.neg_add, Int32.sub_eq_add_neg, Int32.sub_eq_add_neg, Int32.add_comm]
theorem c71_7 {s ad dl : Nat} (hs : s ≤ 80) (hd : dl = 0 ∨ dl = 1) (h : SH w) (h6 : x_i w 36 6 = nI g) (hg : g + ad ≤ 63)
    (hq1 : (s = 80 ∨ (dl = 0 ∧ g + ad = 63)) → x_R x_prog scr 71 146 [some (.ref 36), some (.int (nI s)), some (.int (nI ad)), some (.int (nI dl)), some (.int 0)] [] w Q)
    (hq2 : ¬ (s = 80 ∨ (dl = 0 ∧ g + ad = 63)) → x_R x_prog scr 71 153 [some (.ref 36), some (.int (nI s)), some (.int (nI ad)), some (.int (nI dl)), some (.int 0)] [] w Q) :
    x_R x_prog scr 71 117 [some (.ref 36), some (.int (nI s)), some (.int (nI ad)), some (.int (nI dl)), o4] [] w Q := by
  have g1 : nI s = 80 ↔ s = 80 := nI_eq (b := 80) (by omega) (by omega)
  have g2 : nI dl = 0 ↔ dl = 0 := by rw [← nI_0]; exact nI_eq (by omega) (by omega)
  have g3 : nI (g + ad) = 63 ↔ g + ad = 63 := nI_eq (b := 63) (by omega) (by omega)
  refine b71_117 ?_
  rw [h6, nI_add, g1, g2, g3]
  refine ⟨fun z => hq1 (Or.inl z), fun z => ⟨fun y => absurd rfl y, fun _ => ⟨fun y => hq2 (by omega), fun y => ⟨by rw [sh_k h]; rfl, fun x => hq2 (by omega), fun x => hq1 (Or.inr ⟨Classical.not_not.mp y, Classical.not_not.mp x⟩)⟩⟩⟩⟩
theorem c71_w {s ad : Nat} (hs : s ≤ 80) (h : SH w) (ht : TT w t sz) (ha : a ≤ sz) (h16 : x_i w 36 16 = nI a) (h19 : x_i w 36 19 = 0) (h6 : x_i w 36 6 = nI g) (hg : g + ad ≤ 63)
    (hq : ∀ w' r, xI mW w w' → BR false t sz g a s ad w' r → Q (.inl (some (.int r))) w') : x_R x_prog scr 71 0 [some (.ref 36), some (.int (nI s)), some (.int (nI ad)), o3, o4] [] w Q := by
  have t1 := ht.1
  have k0 : x_k w 36 = 12 := by rw [sh_k h]; rfl
  have hwv := wv_rg (t := t) (f := wF t sz a) (n := wN t sz a)
  have hwd := wv_d (t := t) (f := wF t sz a) (n := wN t sz a)
  have hge := wN_ge (t := t) (sz := sz) (a := a)
  have hnl := wN_le (t := t) ha
  have hv : (nxt false t sz a).2.2 = if wF t sz a = wN t sz a then (20001 : Int) else wv t (wF t sz a) (wN t sz a) := rfl
  refine b71_0 ⟨k0, fun _ => ⟨k0, c44 h ht ha h16 (fun w1 q1 q2 q3 => b71_25 ?_)⟩, fun z => absurd h19 z⟩
  have hs1 := sh_I q1 h
  have k1 : x_k w1 36 = 12 := by rw [sh_k hs1]; rfl
  have e19 : x_i w1 36 19 = 0 := (xI_i q1 36 19 (by unfold mW; omega)).trans h19
  by_cases hlt : wF t sz a < wN t sz a
  · rw [decide_eq_true hlt]
    rw [if_neg (by omega)] at hv
    refine ⟨fun _ => ⟨k1, fun _ => ⟨k1, k1, k1, ?_⟩, fun z => absurd e19 z⟩, fun z => absurd (by decide) z⟩
    rw [q3]
    have F2 : xI mW w (x_si w1 36 17 (nI (wF t sz a))) := xI_si q1 ⟨rfl, Or.inr rfl⟩
    have hs2 := sh_I F2 h
    have f19 : x_i (x_si w1 36 17 (nI (wF t sz a))) 36 19 = 0 := (xI_i F2 36 19 (by unfold mW; omega)).trans h19
    have f16 : x_i (x_si w1 36 17 (nI (wF t sz a))) 36 16 = nI (wN t sz a) := by rw [y_i_si, if_neg (by omega)]; exact q2
    have f17 : x_i (x_si w1 36 17 (nI (wF t sz a))) 36 17 = nI (wF t sz a) := by rw [y_i_si, if_pos ⟨rfl, rfl⟩]
    have k2 : x_k (x_si w1 36 17 (nI (wF t sz a))) 36 = 12 := by rw [sh_k hs2]; rfl
    refine ⟨fun _ => ⟨k1, c46 (c := 100) (by omega) hs2 (TT_I F2 ht (by unfold mW; omega) (by unfold mW; omega) (by unfold mW; omega) (by unfold mW; omega)) f16 f17 hlt hnl (b71_87 ⟨k2, fun _ => ?_, fun z => absurd f19 z⟩)⟩, fun z => absurd f19 z⟩
    generalize x_si w1 36 17 (nI (wF t sz a)) = w2 at F2 hs2 f19 f16 f17 k2
    obtain ⟨dl, hdl, edl, hd2⟩ : ∃ dl : Nat, (dl = 0 ∨ dl = 1) ∧ b32 (decide (wN t sz a = wF t sz a + 1 ∧ t (wF t sz a) = 100)) = nI dl ∧ (dl = 1 ↔ (wN t sz a = wF t sz a + 1 ∧ t (wF t sz a) = 100)) := by
      by_cases e : wN t sz a = wF t sz a + 1 ∧ t (wF t sz a) = 100
      · exact ⟨1, Or.inr rfl, by rw [decide_eq_true e]; rfl, fun _ => e, fun _ => rfl⟩
      · exact ⟨0, Or.inl rfl, by rw [decide_eq_false e]; rfl, fun z => (by cases z), fun z => absurd z e⟩
    rw [edl]
    have hK : opK false t sz a = if dl = 1 then 1 else 2 := by
      unfold opK
      simp only [Bool.false_eq_true, if_false]
      rw [hv, if_neg (by omega)]
      by_cases e : dl = 1
      · rw [if_pos (hwd.mpr (hd2.mp e)), if_pos e]
      · rw [if_neg (fun z => e (hd2.mpr (hwd.mp z))), if_neg e]
    have hK0 : ¬ opK false t sz a = 0 := by rw [hK]; split <;> omega
    have hP : opP false t sz a = wF t sz a + 1 := rfl
    have hbg : bgF false t sz g a s ad ↔ (s = 80 ∨ (dl = 0 ∧ g + ad = 63)) := by
      unfold bgF
      rw [hK]
      split <;> omega
    refine c71_7 hs hdl hs2 ((xI_i F2 36 6 (by unfold mW; omega)).trans h6) hg (fun z => b71_146 ⟨k2, ?_⟩) (fun z => b71_153 ⟨k2, fun _ => ?_, fun y => absurd f19 y⟩)
    · rw [f17, neg1 (by omega)]
      exact hq w2 _ F2 (Or.inr (Or.inl ⟨hK0, hbg.mpr z, by rw [hP]⟩))
    · have g2 : nI dl = 0 ↔ dl = 0 := by rw [← nI_0]; exact nI_eq (by omega) (by omega)
      rw [g2, f16, f17]
      refine ⟨fun y => ⟨k2, k2, fun _ => hq _ _ (xI_si F2 ⟨rfl, Or.inl rfl⟩) (Or.inr (Or.inr ⟨hK0, fun x => z (hbg.mp x), ?_, wF t sz a, wF_le ha, ?_, ?_⟩)), fun x => absurd y x⟩, fun y => ⟨k2, k2, fun x => absurd x y, fun _ => hq _ _ (xI_si F2 ⟨rfl, Or.inl rfl⟩) (Or.inr (Or.inr ⟨hK0, fun x => z (hbg.mp x), ?_, wN t sz a, hnl, ?_, ?_⟩))⟩⟩
      · rw [hK, if_neg (by omega)]; rfl
      · rw [y_i_si, if_pos ⟨rfl, rfl⟩]
      · rw [nxt_F ha]
        unfold opS
        simp only [Bool.false_eq_true, if_false]
        rw [if_neg]
        rw [hv]
        intro e
        have := hd2.mpr (hwd.mp e)
        omega
      · rw [hK, if_pos (by omega)]; rfl
      · rw [y_i_si, if_pos ⟨rfl, rfl⟩]
      · unfold opS
        simp only [Bool.false_eq_true, if_false]
        rw [if_pos]
        · rfl
        · rw [hv]; exact hwd.mpr (hd2.mp (by omega))
  · rw [decide_eq_false hlt]
    rw [if_pos (by omega)] at hv
    refine ⟨fun z => absurd rfl z, fun _ => hq w1 0 q1 (Or.inl ⟨?_, rfl⟩)⟩
    unfold opK
    simp only [Bool.false_eq_true, if_false]
    rw [if_pos hv]
theorem c71_p {s ad : Nat} (hs : s ≤ 80) (h : SH w) (ht : TT w t sz) (ha : a ≤ sz) (h16 : x_i w 36 16 = nI a) (h19 : ¬ x_i w 36 19 = 0) (h6 : x_i w 36 6 = nI g) (hg : g + ad ≤ 63)
    (hq : ∀ w' r, xI mW w w' → BR true t sz g a s ad w' r → Q (.inl (some (.int r))) w') : x_R x_prog scr 71 0 [some (.ref 36), some (.int (nI s)), some (.int (nI ad)), o3, o4] [] w Q := by
  obtain ⟨t1, t2, -, t4, -, t6⟩ := id ht
  have ta := t2 a
  have k0 : x_k w 36 = 12 := by rw [sh_k h]; rfl
  have g0 : nI a = nI sz ↔ a = sz := nI_eq (by omega) (by omega)
  refine b71_0 ⟨k0, fun z => absurd z h19, fun _ => ⟨k0, k0, ?_⟩⟩
  rw [h16, t4, g0]
  refine ⟨fun z => ⟨k0, fun y => absurd y h19, fun _ => ⟨k0, k0, k0, ?_⟩⟩, fun z => hq w 0 xI_rf (Or.inl ⟨?_, rfl⟩)⟩
  · have hlt : a < sz := by omega
    have F2 : xI mW w (x_si w 36 17 (nI a)) := xI_si xI_rf ⟨rfl, Or.inr rfl⟩
    have hs2 := sh_I F2 h
    have f19 : ¬ x_i (x_si w 36 17 (nI a)) 36 19 = 0 := by rw [xI_i F2 36 19 (by unfold mW; omega)]; exact h19
    have f16 : x_i (x_si w 36 17 (nI a)) 36 16 = nI a := by rw [y_i_si, if_neg (by omega)]; exact h16
    have f17 : x_i (x_si w 36 17 (nI a)) 36 17 = nI a := by rw [y_i_si, if_pos ⟨rfl, rfl⟩]
    have f37 : x_i (x_si w 36 17 (nI a)) 37 a = nI (t a) := by rw [y_i_si, if_neg (by omega)]; exact t6 a
    have k2 : x_k (x_si w 36 17 (nI a)) 36 = 12 := by rw [sh_k hs2]; rfl
    have gd : nI (t a) = 100 ↔ t a = 100 := nI_eq (b := 100) (by omega) (by omega)
    have ga : nI (t a) = 97 ↔ t a = 97 := nI_eq (b := 97) (by omega) (by omega)
    have hv : vp_in (nI a) 900 := vp_in_nI (by omega) (by omega)
    have hP : opP true t sz a = a + 1 := rfl
    have hK : opK true t sz a = if t a = 100 then 1 else if t a = 97 then 2 else 3 := by
      unfold opK
      simp only [if_true]
      rw [if_neg (by omega)]
    have hK0 : ¬ opK true t sz a = 0 := by
      rw [hK]
      split
      · omega
      · split <;> omega
    refine ⟨fun y => absurd y f19, fun _ => ?_⟩
    rw [f16, sr36_2 h, nI_clamp (show a < 2 ^ 31 by omega), f37, gd, sh_k h, sh_l h]
    have fail : bgF true t sz g a s ad → ∀ o1 o2 o3 o4, x_R x_prog scr 71 146 [some (.ref 36), o1, o2, o3, o4] [] (x_si w 36 17 (nI a)) Q := by
      intro hb o1 o2 o3 o4
      refine b71_146 ⟨k2, ?_⟩
      rw [f17, neg1 (by omega)]
      exact hq _ _ F2 (Or.inr (Or.inl ⟨hK0, hb, by rw [hP]⟩))
    have good : ∀ dl : Nat, (dl = 0 ∨ dl = 1) → opK true t sz a = (if dl = 1 then 1 else 2) → ∀ o4, x_R x_prog scr 71 117 [some (.ref 36), some (.int (nI s)), some (.int (nI ad)), some (.int (nI dl)), o4] [] (x_si w 36 17 (nI a)) Q := by
      intro dl hdl hKd o4
      have hbg : bgF true t sz g a s ad ↔ (s = 80 ∨ (dl = 0 ∧ g + ad = 63)) := by
        unfold bgF
        rw [hKd]
        split <;> omega
      refine c71_7 hs hdl hs2 ((xI_i F2 36 6 (by unfold mW; omega)).trans h6) hg (fun z => fail (hbg.mpr z) _ _ _ _) (fun z => b71_153 ⟨k2, fun y => absurd y f19, fun _ => ⟨k2, k2, ?_⟩⟩)
      have g2 : nI dl = 0 ↔ dl = 0 := by rw [← nI_0]; exact nI_eq (by omega) (by omega)
      rw [g2, f16, nI_1]
      have hO : nxt true t sz (a + 1) = opS true t sz a := rfl
      refine ⟨fun y => hq _ _ (xI_si F2 ⟨rfl, Or.inl rfl⟩) (Or.inr (Or.inr ⟨hK0, fun x => z (hbg.mp x), ?_, a + 1, by omega, ?_, hO⟩)), fun y => hq _ _ (xI_si F2 ⟨rfl, Or.inl rfl⟩) (Or.inr (Or.inr ⟨hK0, fun x => z (hbg.mp x), ?_, a + 1, by omega, ?_, hO⟩))⟩
      · rw [hKd, if_neg (by omega)]; rfl
      · rw [y_i_si, if_pos ⟨rfl, rfl⟩]
      · rw [hKd, if_pos (by omega)]; rfl
      · rw [y_i_si, if_pos ⟨rfl, rfl⟩]
    refine ⟨rfl, by decide, rfl, ⟨rfl, hv⟩, fun y => b71_87 ⟨k2, fun x => absurd x f19, fun _ => ⟨fun x => absurd rfl x, fun _ => ⟨k2, ?_⟩⟩⟩, fun y => b71_87 ⟨k2, fun x => absurd x f19, fun _ => ⟨fun _ => ?_, fun x => absurd (by decide) x⟩⟩⟩
    · rw [f16, y_r_si, sr36_2 h, nI_clamp (show a < 2 ^ 31 by omega), f37, ga, sh_k hs2, sh_l hs2]
      refine ⟨by decide, rfl, ⟨rfl, hv⟩, fun x => good 0 (Or.inl rfl) (by rw [hK, if_neg y, if_pos x]; rfl) _, fun x => ?_⟩
      have hb : bgF true t sz g a s ad := Or.inr (Or.inl (by rw [hK, if_neg y, if_neg x]))
      exact ⟨fun _ => fail hb _ _ _ _, fun _ => ⟨fun _ => fail hb _ _ _ _, fun v => absurd (by decide) v⟩⟩
    · exact good 1 (Or.inr rfl) (by rw [hK, if_pos (Classical.not_not.mp y)]; rfl) _
  · unfold opK
    simp only [if_true]
    rw [if_pos (by omega)]
/-- beginning -/
theorem c71 {s ad : Nat} (hs : s ≤ 80) (h : SH w) (ht : TT w t sz) (ha : a ≤ sz) (h16 : x_i w 36 16 = nI a) (h19 : x_i w 36 19 = b32 pk) (h6 : x_i w 36 6 = nI g) (hg : g + ad ≤ 63)
    (hq : ∀ w' r, xI mW w w' → BR pk t sz g a s ad w' r → Q (.inl (some (.int r))) w') : x_R x_prog scr 71 0 [some (.ref 36), some (.int (nI s)), some (.int (nI ad)), o3, o4] [] w Q := by
  cases pk with
  | false => exact c71_w hs h ht ha h16 h19 h6 hg hq
  | true => exact c71_p hs h ht ha h16 (by rw [h19]; decide) h6 hg hq
end X44
