/-! addHint, hintsOf, addGroup, candidate, takeGroup of the reference. -/
def tkx (r : Bool × xTk × Nat × (Nat → Bool)) : xTk := if r.2.2.1 = 0 then r.2.1 else r.2.1 ++ [(r.2.2.1, 0)]
def ndx (r : Bool × xTk × Nat × (Nat → Bool)) : Nat → Bool := fun k => if k = r.2.1.length then true else r.2.2.2 k
theorem tkx_len (r : Bool × xTk × Nat × (Nat → Bool)) : (tkx r).length = r.2.1.length + (cfL r.2.2.1).length := by
  unfold tkx cfL
  split <;> simp
theorem tkx_pre (r : Bool × xTk × Nat × (Nat → Bool)) {k : Nat} (h : k < r.2.1.length) : tg (tkx r) k = tg r.2.1 k := by
  unfold tkx
  split
  · rfl
  · exact tg_pre h
theorem sel_F (r : Bool × xTk × Nat × (Nat → Bool)) {b : Nat} (hb : b ≤ r.2.1.length) : sel (ndx r) (tkx r) ((tkx r).length - b) b = sel r.2.2.2 r.2.1 (r.2.1.length - b) b ++ cfL r.2.2.1 := by
  have e1 : sel (ndx r) (tkx r) (r.2.1.length - b) b = sel r.2.2.2 r.2.1 (r.2.1.length - b) b := sel_cg _ _ (fun i h1 h2 => ⟨by unfold ndx; rw [if_neg (by omega)], fun _ => by rw [tkx_pre r (by omega)]⟩)
  have hl := tkx_len r
  by_cases hc : r.2.2.1 = 0
  · have : cfL r.2.2.1 = [] := by unfold cfL; rw [if_pos hc]
    rw [this] at hl ⊢
    rw [hl, List.append_nil]
    exact e1
  · have e2 : cfL r.2.2.1 = [(r.2.2.1 : Int)] := by unfold cfL; rw [if_neg hc]
    rw [e2] at hl ⊢
    have e3 : (tkx r).length - b = (r.2.1.length - b) + 1 := by rw [hl, List.length_singleton]; omega
    rw [e3, sel_app, e1, show b + (r.2.1.length - b) = r.2.1.length by omega]
    congr 1
    have e4 : tg (tkx r) r.2.1.length = (r.2.2.1, 0) := by
      unfold tkx
      rw [if_neg hc, tg_app, if_neg (by omega), if_pos rfl]
    show (if ndx r r.2.1.length = true then ((tg (tkx r) r.2.1.length).1 : Int) :: [] else []) = _
    rw [e4]
    unfold ndx
    rw [if_pos rfl, if_pos rfl]
theorem cdt_0 {cs : List (List Int)} {al mk : Nat → Bool} {tr : List Nat} {o : Int} (hl : cs.length ≤ 63) (hnd : tr.Nodup) (hr : ∀ x ∈ tr, 1 ≤ x ∧ x ≤ 63) (hlen : tr.length = 63) : cdt cs al mk tr o = 0 := by
  apply Classical.byContradiction
  intro z
  obtain ⟨c1, c2, -, -, c5, -⟩ := cdt_in z
  have h1 : ((cdt cs al mk tr o :: tr).map (fun x : Nat => (x : Int))).Nodup := by
    rw [List.nodup_iff_pairwise_ne, List.pairwise_map]
    have := List.nodup_cons.mpr ⟨c5, hnd⟩
    rw [List.nodup_iff_pairwise_ne] at this
    exact this.imp (fun {a b} hab e => hab (Int.ofNat_inj.mp e))
  have h2 := nd_le _ ((List.range 63).map (fun x : Nat => (x : Int) + 1)) h1 (fun x hx => by
    obtain ⟨y, hy, rfl⟩ := List.mem_map.mp hx
    have : 1 ≤ y ∧ y ≤ 63 := by
      rcases List.mem_cons.mp hy with e | e
      · rw [e]; omega
      · exact hr y e
    exact List.mem_map.mpr ⟨y - 1, List.mem_range.mpr (by omega), by omega⟩)
  simp at h2
  omega
section X70
variable {scr : Nat × (Nat → Int32)} {w : xW} {Q : xO → xW → Prop} {w1 : xW} {n c g d : Nat} {al mk nd bn : Nat → Bool} {tv : Nat → Int} {tak : xTk} {cs : List (List Int)} {HT gr : List Int} {tr : List Nat} {o v : Int} {o1 o2 o3 o4 o5 : Option Value}
/-- the hints, as far as there is room -/
def HG (w : xW) (HT : List Int) : Prop := x_i w 36 39 = nI (min HT.length 2400) ∧ ∀ k, k < HT.length → k < 2400 → x_i w 57 k = iI (HT.getD k 0)
def mHi : Nat → Nat → Prop := fun p k => (p = 36 ∧ k = 39) ∨ p = 57
theorem HG_I {m : Nat → Nat → Prop} (q : xI m w w1) (h : HG w HT) (h1 : ¬ m 36 39) (h2 : ∀ k, ¬ m 57 k) : HG w1 HT := ⟨(xI_i q 36 39 h1).trans h.1, fun k hk hk2 => (xI_i q 57 k (h2 k)).trans (h.2 k hk hk2)⟩
theorem c142 (h : SH w) (hG : HG w HT) (hq : ∀ w', xI mHi w w' → HG w' (HT ++ [v]) → Q (.inl none) w') : x_R x_prog scr 142 0 [some (.ref 36), some (.int (iI v))] [] w Q := by
  have k0 : x_k w 36 = 12 := by rw [sh_k h]; rfl
  have hl1 : (HT ++ [v]).length = HT.length + 1 := by simp
  have g1 : (2400 : Int32) ≤ nI (min HT.length 2400) ↔ 2400 ≤ HT.length := by rw [show (2400 : Int32) = nI 2400 from rfl, nI_leI (by omega) (by omega)]; omega
  refine b142_0 ?_
  rw [hG.1, g1]
  refine ⟨k0, fun z => hq w xI_rf ⟨?_, fun k hk hk2 => ?_⟩, fun z => ?_⟩
  · rw [hl1, hG.1]; congr 1; omega
  · rw [getD_app, if_pos (by omega)]; exact hG.2 k (by omega) hk2
  · have em : min HT.length 2400 = HT.length := by omega
    have e1 : x_i (x_si w 57 HT.length (iI v)) 36 39 = nI HT.length := by rw [y_i_si, if_neg (by omega), hG.1, em]
    rw [em, sr36_40 h, nI_clamp (by omega), e1, nI_1, sh_k h, sh_l h]
    refine ⟨rfl, by decide, rfl, ⟨rfl, vp_in_nI (N := 2400) (by omega) (by omega)⟩, rfl, rfl, hq _ (xI_si (xI_si xI_rf (Or.inr rfl)) (Or.inl ⟨rfl, rfl⟩)) ⟨?_, fun k hk hk2 => ?_⟩⟩
    · rw [y_i_si, if_pos ⟨rfl, rfl⟩, hl1]; congr 1; omega
    · rw [hl1] at hk
      rw [y_i_si, if_neg (by omega), y_i_si, getD_app]
      by_cases e : k < HT.length
      · rw [if_neg (by omega), if_pos e]; exact hG.2 k e hk2
      · have e2 : k = HT.length := by omega
        rw [if_pos ⟨rfl, e2⟩, if_neg e, if_pos e2]
/-- the hints of a line -/
def HL (w : xW) (HT : List Int) (n : Nat) (l : Nat) (h : List Int) : Prop := ∃ p q, HT = p ++ (h ++ q) ∧ p.length = l ∧ x_i w 58 n = nI (min l 2400) ∧ x_i w 59 n = nI (min (l + h.length) 2400 - min l 2400)
theorem HL_I {m : Nat → Nat → Prop} {l : Nat} {hh e : List Int} (q : xI m w w1) (h : HL w HT n l hh) (h1 : ¬ m 58 n) (h2 : ¬ m 59 n) : HL w1 (HT ++ e) n l hh := by
  obtain ⟨p, r, a1, a2, a3, a4⟩ := h
  exact ⟨p, r ++ e, by rw [a1]; simp only [List.append_assoc], a2, (xI_i q 58 n h1).trans a3, (xI_i q 59 n h2).trans a4⟩
def MA (w : xW) (mk : Nat → Bool) : Prop := ∀ j, j < 64 → x_i w 50 j = b32 (mk j)
theorem MA_set {x : Nat} (h : MA w mk) : MA (x_si w 50 x 1) (mkS mk [(x : Int)]) := by
  intro j hj
  rw [y_i_si]
  unfold mkS inL
  rw [List.any_cons, List.any_nil, Bool.or_false, Int.natAbs_natCast]
  by_cases e : j = x
  · rw [if_pos ⟨rfl, e⟩, decide_eq_true e.symm, Bool.or_true]; rfl
  · rw [if_neg (fun z => e z.2), decide_eq_false (fun z => e z.symm), Bool.or_false]; exact h j hj
/-- hintsOf -/
theorem c141 (hn : n < 64) (htl : tak.length ≤ 60) (h63 : ∀ k, k < tak.length → (tg tak k).1 ≤ 63) (h : SH w) (hK : RK w tak) (hnd : ∀ k, k < tak.length → x_i w 56 k = b32 (nd k)) (hM : MA w mk) (hG : HG w HT)
    (hq : ∀ w', xI (fun p k => mHi p k ∨ p = 50 ∨ ((p = 58 ∨ p = 59) ∧ k = n)) w w' → MA w' (mkS mk (sel nd tak tak.length 0)) → HG w' (HT ++ sel nd tak tak.length 0) → HL w' (HT ++ sel nd tak tak.length 0) n HT.length (sel nd tak tak.length 0) → Q (.inl none) w') : x_R x_prog scr 141 0 [some (.ref 36), some (.int (nI n)), o2] [] w Q := by
  have key : ∀ (d k : Nat) (mk : Nat → Bool) (L : List Int) (w1 : xW), xI (fun p k => mHi p k ∨ p = 50 ∨ ((p = 58 ∨ p = 59) ∧ k = n)) w w1 → x_i w1 58 n = nI (min HT.length 2400) → MA w1 mk → HG w1 (HT ++ L) → k + d = tak.length → (∀ w', xI (fun p k => mHi p k ∨ p = 50 ∨ ((p = 58 ∨ p = 59) ∧ k = n)) w w' → MA w' (mkS mk (sel nd tak d k)) → HG w' (HT ++ (L ++ sel nd tak d k)) → HL w' (HT ++ (L ++ sel nd tak d k)) n HT.length (L ++ sel nd tak d k) → Q (.inl none) w') → x_R x_prog scr 141 12 [some (.ref 36), some (.int (nI n)), some (.int (nI k))] [] w1 Q := by
    intro d
    induction d with
    | zero =>
      intro k mk L w1 F e58 hM hG hk hq
      have h1 := sh_I F h
      have e34 : x_i w1 36 34 = nI tak.length := (xI_i F 36 34 (by unfold mHi; omega)).trans hK.1
      unfold sel at hq
      rw [List.append_nil, mkS_nil] at hq
      refine b141_12 ?_
      simp only [sh_k h1, sh_l h1, sh_n h1, kk36, sr36_2 h1, sr36_8 h1, sr36_9 h1, sr36_12 h1, sr36_13 h1, sr36_14 h1, sr36_15 h1, sr36_21 h1, sr36_22 h1, sr36_23 h1, sr36_25 h1, sr36_27 h1, sr36_28 h1, sr36_29 h1, sr36_30 h1, sr36_31 h1, sr36_35 h1, sr36_36 h1, sr36_37 h1, sr36_38 h1, sr36_40 h1, sr36_41 h1, sr36_42 h1, sr36_44 h1, sr36_45 h1, sr36_46 h1, sr36_47 h1, sr36_48 h1, sr36_49 h1, sr36_51 h1, sr36_52 h1, sr36_53 h1, sr36_54 h1, sr36_55 h1, kk58, ll58, kk59, ll59, true_and, and_true, false_and, and_false, and_self, not_false_eq_true, not_true_eq_false, true_implies, false_implies, implies_true, true_or, or_true, or_self, if_true, if_false, Nat.reduceEqDiff, reduceIte, eq_self, e34, nI_clamp (show n < 2 ^ 31 by omega), vp_in_nI (show n < 64 by omega) (show 64 < 2 ^ 31 by omega), e58, hG.1]
      refine ⟨fun _ => ?_, fun z => absurd (nI_le (by omega) (by omega)) z⟩
      have hll : (HT ++ L).length = HT.length + L.length := List.length_append
      rw [nI_sub (by omega)]
      have G : xI (fun p k => p = 59 ∧ k = n) w1 (x_si w1 59 n (nI (min (HT ++ L).length 2400 - min HT.length 2400))) := xI_si xI_rf ⟨rfl, rfl⟩
      refine hq _ (xI_si F (Or.inr (Or.inr ⟨Or.inr rfl, rfl⟩))) (fun j hj => (xI_i G 50 j (by omega)).trans (hM j hj)) (HG_I G hG (by omega) (by omega)) ⟨HT, [], by rw [List.append_nil], rfl, (xI_i G 58 n (by omega)).trans e58, ?_⟩
      rw [y_i_si, if_pos ⟨rfl, rfl⟩, hll]
    | succ d ih =>
      intro k mk L w1 F e58 hM hG hk hq
      have h1 := sh_I F h
      have e34 : x_i w1 36 34 = nI tak.length := (xI_i F 36 34 (by unfold mHi; omega)).trans hK.1
      have e53 : x_i w1 53 k = nI (tg tak k).1 := (xI_i F 53 k (by unfold mHi; omega)).trans (hK.2 k (by omega)).1
      have e56 : x_i w1 56 k = b32 (nd k) := (xI_i F 56 k (by unfold mHi; omega)).trans (hnd k (by omega))
      have h63' := h63 k (by omega)
      unfold sel at hq
      refine b141_12 ?_
      simp only [sh_k h1, sh_l h1, sh_n h1, kk36, sr36_2 h1, sr36_8 h1, sr36_9 h1, sr36_12 h1, sr36_13 h1, sr36_14 h1, sr36_15 h1, sr36_21 h1, sr36_22 h1, sr36_23 h1, sr36_25 h1, sr36_27 h1, sr36_28 h1, sr36_29 h1, sr36_30 h1, sr36_31 h1, sr36_35 h1, sr36_36 h1, sr36_37 h1, sr36_38 h1, sr36_40 h1, sr36_41 h1, sr36_42 h1, sr36_44 h1, sr36_45 h1, sr36_46 h1, sr36_47 h1, sr36_48 h1, sr36_49 h1, sr36_51 h1, sr36_52 h1, sr36_53 h1, sr36_54 h1, sr36_55 h1, kk53, ll53, kk56, ll56, true_and, and_true, false_and, and_false, and_self, not_false_eq_true, not_true_eq_false, true_implies, false_implies, implies_true, true_or, or_true, or_self, if_true, if_false, Nat.reduceEqDiff, reduceIte, eq_self, e34, nI_clamp (show k < 2 ^ 31 by omega), vp_in_nI (show k < 60 by omega) (show 60 < 2 ^ 31 by omega), e53, e56, nI_1]
      refine ⟨fun z => absurd z (nI_ge (by omega) (by omega)), fun _ => ?_⟩
      cases hb : nd k with
      | false =>
        rw [hb] at hq
        exact ⟨fun _ => ih (k + 1) mk L w1 F e58 hM hG (by omega) hq, fun z => absurd rfl z⟩
      | true =>
        rw [hb, if_pos rfl] at hq
        refine ⟨fun z => absurd z (by decide), fun _ => ?_⟩
        rw [← iI_n (tg tak k).1]
        refine c142 (v := ((tg tak k).1 : Int)) h1 hG (fun w2 u1 u2 => b141_39 ?_)
        have h2 := sh_I u1 h1
        have f53 : x_i w2 53 k = nI (tg tak k).1 := (xI_i u1 53 k (by unfold mHi; omega)).trans e53
        have M2 : MA w2 mk := fun j hj => (xI_i u1 50 j (by unfold mHi; omega)).trans (hM j hj)
        simp only [sh_k h2, sh_l h2, sh_n h2, kk36, sr36_2 h2, sr36_8 h2, sr36_9 h2, sr36_12 h2, sr36_13 h2, sr36_14 h2, sr36_15 h2, sr36_21 h2, sr36_22 h2, sr36_23 h2, sr36_25 h2, sr36_27 h2, sr36_28 h2, sr36_29 h2, sr36_30 h2, sr36_31 h2, sr36_35 h2, sr36_36 h2, sr36_37 h2, sr36_38 h2, sr36_40 h2, sr36_41 h2, sr36_42 h2, sr36_44 h2, sr36_45 h2, sr36_46 h2, sr36_47 h2, sr36_48 h2, sr36_49 h2, sr36_51 h2, sr36_52 h2, sr36_53 h2, sr36_54 h2, sr36_55 h2, kk50, ll50, kk53, ll53, true_and, and_true, false_and, and_false, and_self, not_false_eq_true, not_true_eq_false, true_implies, false_implies, implies_true, true_or, or_true, or_self, if_true, if_false, Nat.reduceEqDiff, reduceIte, eq_self, nI_clamp (show k < 2 ^ 31 by omega), vp_in_nI (show k < 60 by omega) (show 60 < 2 ^ 31 by omega), f53, nI_clamp (show (tg tak k).1 < 2 ^ 31 by omega), vp_in_nI (show (tg tak k).1 < 64 by omega) (show 64 < 2 ^ 31 by omega), nI_1]
        have G : xI (fun p _ => p = 50) w2 (x_si w2 50 (tg tak k).1 1) := xI_si xI_rf rfl
        have eL : HT ++ L ++ [((tg tak k).1 : Int)] = HT ++ (L ++ [((tg tak k).1 : Int)]) := List.append_assoc _ _ _
        rw [eL] at u2
        refine ih (k + 1) (mkS mk [((tg tak k).1 : Int)]) (L ++ [((tg tak k).1 : Int)]) _ (xI_tr F (xI_tr (xI_w u1 (fun _ _ z => Or.inl z)) (xI_w G (by omega)))) ((xI_i G 58 n (by omega)).trans ((xI_i u1 58 n (by unfold mHi; omega)).trans e58)) (MA_set M2) (HG_I G u2 (by omega) (by omega)) (by omega) (fun w' v1 v2 v3 v4 => hq w' v1 ?_ ?_ ?_)
        · rw [← mkS_app] at v2; exact v2
        · rw [List.append_assoc] at v3; exact v3
        · rw [List.append_assoc] at v4; exact v4
  refine b141_0 ?_
  simp only [sh_k h, sh_l h, sh_n h, kk36, sr36_2 h, sr36_8 h, sr36_9 h, sr36_12 h, sr36_13 h, sr36_14 h, sr36_15 h, sr36_21 h, sr36_22 h, sr36_23 h, sr36_25 h, sr36_27 h, sr36_28 h, sr36_29 h, sr36_30 h, sr36_31 h, sr36_35 h, sr36_36 h, sr36_37 h, sr36_38 h, sr36_40 h, sr36_41 h, sr36_42 h, sr36_44 h, sr36_45 h, sr36_46 h, sr36_47 h, sr36_48 h, sr36_49 h, sr36_51 h, sr36_52 h, sr36_53 h, sr36_54 h, sr36_55 h, kk58, ll58, true_and, and_true, false_and, and_false, and_self, not_false_eq_true, not_true_eq_false, true_implies, false_implies, implies_true, true_or, or_true, or_self, if_true, if_false, Nat.reduceEqDiff, reduceIte, eq_self, nI_clamp (show n < 2 ^ 31 by omega), vp_in_nI (show n < 64 by omega) (show 64 < 2 ^ 31 by omega), hG.1]
  have G : xI (fun p k => p = 58 ∧ k = n) w (x_si w 58 n (nI (min HT.length 2400))) := xI_si xI_rf ⟨rfl, rfl⟩
  refine key tak.length 0 mk [] _ (xI_w G (by unfold mHi; omega)) (by rw [y_i_si, if_pos ⟨rfl, rfl⟩]) (fun j hj => (xI_i G 50 j (by omega)).trans (hM j hj)) (by rw [List.append_nil]; exact HG_I G hG (by omega) (by omega)) (by omega) (fun w' v1 v2 v3 v4 => hq w' v1 v2 (by rw [List.nil_append] at v3; exact v3) (by rw [List.nil_append] at v4; exact v4))
/-- the groups -/
def GR (w : xW) (gr : List Int) : Prop := x_i w 36 43 = nI gr.length ∧ ∀ k, k < gr.length → x_i w 60 k = iI (gr.getD k 0)
def mGr : Nat → Nat → Prop := fun p k => (p = 36 ∧ k = 43) ∨ p = 60
theorem GR_I {m : Nat → Nat → Prop} (q : xI m w w1) (h : GR w gr) (h1 : ¬ m 36 43) (h2 : ∀ k, ¬ m 60 k) : GR w1 gr := ⟨(xI_i q 36 43 h1).trans h.1, fun k hk => (xI_i q 60 k (h2 k)).trans (h.2 k hk)⟩
theorem c147 (hl : gr.length < 1400) (h : SH w) (hG : GR w gr) (hq : ∀ w', xI mGr w w' → GR w' (gr ++ [v]) → Q (.inl none) w') : x_R x_prog scr 147 0 [some (.ref 36), some (.int (iI v))] [] w Q := by
  have hl1 : (gr ++ [v]).length = gr.length + 1 := by simp
  have e1 : x_i (x_si w 60 gr.length (iI v)) 36 43 = nI gr.length := by rw [y_i_si, if_neg (by omega)]; exact hG.1
  refine b147_0 ?_
  rw [sr36_44 h, hG.1, nI_clamp (by omega), e1, nI_1, sh_k h, sh_l h]
  refine ⟨rfl, by decide, rfl, ⟨rfl, vp_in_nI (N := 1400) (by omega) (by omega)⟩, rfl, rfl, hq _ (xI_si (xI_si xI_rf (Or.inr rfl)) (Or.inl ⟨rfl, rfl⟩)) ⟨?_, fun k hk => ?_⟩⟩
  · rw [y_i_si, if_pos ⟨rfl, rfl⟩, hl1]
  · rw [hl1] at hk
    rw [y_i_si, if_neg (by omega), y_i_si, getD_app]
    by_cases e : k < gr.length
    · rw [if_neg (by omega), if_pos e]; exact hG.2 k e
    · have e2 : k = gr.length := by omega
      rw [if_pos ⟨rfl, e2⟩, if_neg e, if_pos e2]
def TRD (w : xW) (tr : List Nat) : Prop := ∀ j, j < 64 → x_i w 62 j = b32 (decide (j ∈ tr))
/-- candidate -/
theorem c145 (ho : lok o) (h : SH w) (hG : RG w cs al mk) (hT : TRD w tr) (hq : Q (.inl (some (.int (nI (cdt cs al mk tr o))))) w) : x_R x_prog scr 145 0 [some (.ref 36), some (.int (iI o)), o2, o3] [] w Q := by
  have hl63 := hG.2.1
  have hco := hG.2.2.1
  have key : ∀ (k d f : Nat), k + d = cs.length → f = lowA (fun c => al c && (mk c && (!decide (c ∈ tr) && decide (o ∈ cg cs c)))) d (k + 1) → x_R x_prog scr 145 7 [some (.ref 36), some (.int (iI o)), some (.int (nI f)), some (.int (nI k))] [] w Q := by
    intro k
    induction k with
    | zero =>
      intro d f hk hf
      refine b145_7 ⟨fun _ => ?_, fun z => absurd (by decide) z⟩
      have : d = cs.length := by omega
      rw [hf, this]
      exact hq
    | succ k ih =>
      intro d f hk hf
      have nk : ¬ nI (k + 1) ≤ 0 := by rw [← nI_0, nI_leI (by omega) (by omega)]; omega
      have yes : (al (k + 1) && (mk (k + 1) && (!decide (k + 1 ∈ tr) && decide (o ∈ cg cs (k + 1))))) = true → x_R x_prog scr 145 7 [some (.ref 36), some (.int (iI o)), some (.int (nI (k + 1))), some (.int (nI k))] [] w Q := by
        intro z
        refine ih (d + 1) (k + 1) (by omega) ?_
        unfold lowA
        rw [if_pos z]
      have no : (al (k + 1) && (mk (k + 1) && (!decide (k + 1 ∈ tr) && decide (o ∈ cg cs (k + 1))))) = false → x_R x_prog scr 145 7 [some (.ref 36), some (.int (iI o)), some (.int (nI f)), some (.int (nI k))] [] w Q := by
        intro z
        refine ih (d + 1) f (by omega) ?_
        conv => rhs; unfold lowA
        rw [if_neg (by rw [z]; decide)]
        exact hf
      refine b145_7 ⟨fun z => absurd z nk, fun _ => ?_⟩
      simp only [sh_k h, sh_l h, sh_n h, kk36, sr36_2 h, sr36_8 h, sr36_9 h, sr36_12 h, sr36_13 h, sr36_14 h, sr36_15 h, sr36_21 h, sr36_22 h, sr36_23 h, sr36_25 h, sr36_27 h, sr36_28 h, sr36_29 h, sr36_30 h, sr36_31 h, sr36_35 h, sr36_36 h, sr36_37 h, sr36_38 h, sr36_40 h, sr36_41 h, sr36_42 h, sr36_44 h, sr36_45 h, sr36_46 h, sr36_47 h, sr36_48 h, sr36_49 h, sr36_51 h, sr36_52 h, sr36_53 h, sr36_54 h, sr36_55 h, kk49, ll49, kk50, ll50, kk62, ll62, true_and, and_true, false_and, and_false, and_self, not_false_eq_true, not_true_eq_false, true_implies, false_implies, implies_true, true_or, or_true, or_self, if_true, if_false, Nat.reduceEqDiff, reduceIte, eq_self, nI_clamp (show k + 1 < 2 ^ 31 by omega), vp_in_nI (show k + 1 < 64 by omega) (show 64 < 2 ^ 31 by omega), hG.2.2.2.2.1 (k + 1) (by omega), hG.2.2.2.2.2 (k + 1) (by omega), hT (k + 1) (by omega), pk_m1]
      cases ha : al (k + 1) with
      | false => exact ⟨fun _ => no (by rw [ha]; rfl), fun z => absurd rfl z⟩
      | true =>
        refine ⟨fun z => absurd z (by decide), fun _ => ?_⟩
        cases hm : mk (k + 1) with
        | false => exact ⟨fun _ => no (by rw [ha, hm]; rfl), fun z => absurd rfl z⟩
        | true =>
          refine ⟨fun z => absurd z (by decide), fun _ => ?_⟩
          by_cases ht : k + 1 ∈ tr
          · rw [decide_eq_true ht]
            exact ⟨fun _ => no (by rw [decide_eq_true ht]; simp), fun z => absurd (by decide) z⟩
          · rw [decide_eq_false ht]
            refine ⟨fun z => absurd rfl z, fun _ => c73 ho (by omega) h (cg_ok hco (k + 1)) (RG_RC hG (by omega) (by omega)) (b145_44 ?_)⟩
            rw [pk_m1]
            by_cases hin : o ∈ cg cs (k + 1)
            · rw [decide_eq_true hin]
              exact ⟨fun z => absurd z (by decide), fun _ => yes (by rw [ha, hm, decide_eq_false ht, decide_eq_true hin]; rfl)⟩
            · rw [decide_eq_false hin]
              exact ⟨fun _ => no (by rw [decide_eq_false hin]; simp), fun z => absurd rfl z⟩
  refine b145_0 ⟨by rw [sh_k h]; rfl, ?_⟩
  rw [hG.1]
  exact key cs.length 0 0 (by omega) rfl
def BN (w : xW) (bn : Nat → Bool) : Prop := ∀ k, k < 60 → x_i w 61 k = b32 (bn k)
def mTg : Nat → Nat → Prop := fun p k => (p = 36 ∧ k = 43) ∨ p = 50 ∨ p = 60 ∨ p = 61
/-- takeGroup -/
theorem c146 {b : Nat} (hb : b ≤ 60) (hc : c ≤ 63) (htl : tak.length ≤ 60) (h63 : ∀ k, k < tak.length → (tg tak k).1 ≤ 63) (h : SH w) (hK : RK w tak) (hnd : ∀ k, k < tak.length → x_i w 56 k = b32 (nd k)) (hM : MA w mk) (hB : BN w bn) (hG : GR w gr) (hgl : gr.length + 1 + tak.length < 1400) (hbt : b ≤ tak.length)
    (hq : ∀ w', xI mTg w w' → MA w' (mkS mk (sel nd tak tak.length 0)) → BN w' (fun i => bn i || ((decide (i < tak.length) && nd i) && decide (i < b))) → GR w' (gr ++ (-(c : Int) :: sel nd tak (tak.length - b) b)) → Q (.inl none) w') : x_R x_prog scr 146 0 [some (.ref 36), some (.int (nI c)), some (.int (nI b)), o3] [] w Q := by
  have key : ∀ (d k : Nat) (mk bn1 : Nat → Bool) (g1 : List Int) (w1 : xW) (o1 : Option Value), xI mTg w w1 → MA w1 mk → BN w1 bn1 → (∀ i, k ≤ i → bn1 i = bn i) → GR w1 g1 → g1.length + d < 1400 → k + d = tak.length → (∀ w', xI mTg w w' → MA w' (mkS mk (sel nd tak d k)) → BN w' (fun i => bn1 i || ((decide (k ≤ i ∧ i < k + d) && nd i) && decide (i < b))) → GR w' (g1 ++ sel (fun i => nd i && !decide (i < b)) tak d k) → Q (.inl none) w') → x_R x_prog scr 146 8 [some (.ref 36), o1, some (.int (nI b)), some (.int (nI k))] [] w1 Q := by
    intro d
    induction d with
    | zero =>
      intro k mk bn1 g1 w1 o1 F hM hB hbn hG hgl hk hq
      have h1 := sh_I F h
      have e34 : x_i w1 36 34 = nI tak.length := (xI_i F 36 34 (by unfold mTg; omega)).trans hK.1
      refine b146_8 ?_
      rw [e34, sh_k h1]
      refine ⟨rfl, fun _ => hq w1 F (by unfold sel; rw [mkS_nil]; exact hM) (fun i hi => ?_) (by unfold sel; rw [List.append_nil]; exact hG), fun z => absurd (nI_le (by omega) (by omega)) z⟩
      rw [hB i hi]
      dsimp only
      rw [decide_eq_false (show ¬ (k ≤ i ∧ i < k + 0) by omega)]
      simp
    | succ d ih =>
      intro k mk bn1 g1 w1 o1 F hM hB hbn hG hgl hk hq
      have h1 := sh_I F h
      have e34 : x_i w1 36 34 = nI tak.length := (xI_i F 36 34 (by unfold mTg; omega)).trans hK.1
      have e53 : x_i w1 53 k = nI (tg tak k).1 := (xI_i F 53 k (by unfold mTg; omega)).trans (hK.2 k (by omega)).1
      have e56 : x_i w1 56 k = b32 (nd k) := (xI_i F 56 k (by unfold mTg; omega)).trans (hnd k (by omega))
      have h63' := h63 k (by omega)
      have e61 : ∀ v, x_i (x_si w1 50 (tg tak k).1 v) 61 k = b32 (bn1 k) := fun v => by rw [y_i_si, if_neg (by omega)]; exact hB k (by omega)
      have e53' : ∀ v v', x_i (x_si (x_si w1 50 (tg tak k).1 v) 61 k v') 53 k = nI (tg tak k).1 := fun v v' => by rw [y_i_si, if_neg (by omega), y_i_si, if_neg (by omega)]; exact e53
      have glt : nI k < nI b ↔ k < b := nI_ltI (by omega) (by omega)
      unfold sel at hq
      refine b146_8 ?_
      simp only [sh_k h1, sh_l h1, sh_n h1, kk36, sr36_2 h1, sr36_8 h1, sr36_9 h1, sr36_12 h1, sr36_13 h1, sr36_14 h1, sr36_15 h1, sr36_21 h1, sr36_22 h1, sr36_23 h1, sr36_25 h1, sr36_27 h1, sr36_28 h1, sr36_29 h1, sr36_30 h1, sr36_31 h1, sr36_35 h1, sr36_36 h1, sr36_37 h1, sr36_38 h1, sr36_40 h1, sr36_41 h1, sr36_42 h1, sr36_44 h1, sr36_45 h1, sr36_46 h1, sr36_47 h1, sr36_48 h1, sr36_49 h1, sr36_51 h1, sr36_52 h1, sr36_53 h1, sr36_54 h1, sr36_55 h1, kk45, ll45, kk50, ll50, kk53, ll53, kk56, ll56, kk61, ll61, true_and, and_true, false_and, and_false, and_self, not_false_eq_true, not_true_eq_false, true_implies, false_implies, implies_true, true_or, or_true, or_self, if_true, if_false, Nat.reduceEqDiff, reduceIte, eq_self, e34, nI_clamp (show k < 2 ^ 31 by omega), vp_in_nI (show k < 60 by omega) (show 60 < 2 ^ 31 by omega), e53, e56, nI_1, nI_clamp (show (tg tak k).1 < 2 ^ 31 by omega), vp_in_nI (show (tg tak k).1 < 64 by omega) (show 64 < 2 ^ 31 by omega), e61, e53', glt]
      refine ⟨fun z => absurd z (nI_ge (by omega) (by omega)), fun _ => ?_⟩
      cases hn : nd k with
      | false =>
        rw [hn] at hq
        refine ⟨fun _ => b146_77 ?_, fun z => absurd rfl z⟩
        rw [nI_1]
        refine ih (k + 1) mk bn1 g1 w1 _ F hM hB (fun i hi => hbn i (by omega)) hG (by omega) (by omega) (fun w' v1 v2 v3 v4 => hq w' v1 v2 (fun i hi => ?_) v4)
        rw [v3 i hi]
        dsimp only
        by_cases e : i = k
        · rw [e, hn]; simp
        · have : decide (k + 1 ≤ i ∧ i < k + 1 + d) = decide (k ≤ i ∧ i < k + (d + 1)) := decide_eq_decide.mpr (by omega)
          rw [this]
      | true =>
        rw [hn, if_pos rfl] at hq
        have fin : ∀ (b' : Bool), b' = (bn1 k || decide (k < b)) → (∀ w' o1, xI mTg w w' → MA w' (mkS mk [((tg tak k).1 : Int)]) → BN w' (fun i => if i = k then b' else bn1 i) → GR w' (if k < b then g1 else g1 ++ [((tg tak k).1 : Int)]) → x_R x_prog scr 146 77 [some (.ref 36), o1, some (.int (nI b)), some (.int (nI k))] [] w' Q) := by
          intro b' hb' w' o1 F' M' B' G'
          refine b146_77 ?_
          rw [nI_1]
          have hl2 : (if k < b then g1 else g1 ++ [((tg tak k).1 : Int)]).length ≤ g1.length + 1 := by split <;> simp
          refine ih (k + 1) _ _ _ w' _ F' M' B' (fun i hi => (if_neg (by omega)).trans (hbn i (by omega))) G' (by omega) (by omega) (fun w'' v1 v2 v3 v4 => hq w'' v1 ?_ (fun i hi => ?_) ?_)
          · rw [← mkS_app] at v2; exact v2
          · rw [v3 i hi]
            dsimp only
            by_cases e : i = k
            · rw [if_pos e, e, hn, hb', decide_eq_false (show ¬ (k + 1 ≤ k ∧ k < k + 1 + d) by omega), decide_eq_true (show k ≤ k ∧ k < k + (d + 1) by omega)]
              simp
            · rw [if_neg e]
              have : decide (k + 1 ≤ i ∧ i < k + 1 + d) = decide (k ≤ i ∧ i < k + (d + 1)) := decide_eq_decide.mpr (by omega)
              rw [this]
          · by_cases e : k < b
            · rw [if_pos e] at v4
              rw [if_neg (by rw [decide_eq_true e]; decide)]
              exact v4
            · rw [if_neg e, List.append_assoc] at v4
              rw [if_pos (by rw [decide_eq_false e]; decide)]
              exact v4
        have MB : ∀ (b' : Bool), MA (x_si (x_si w1 50 (tg tak k).1 1) 61 k (b32 b')) (mkS mk [((tg tak k).1 : Int)]) ∧ BN (x_si (x_si w1 50 (tg tak k).1 1) 61 k (b32 b')) (fun i => if i = k then b' else bn1 i) ∧ GR (x_si (x_si w1 50 (tg tak k).1 1) 61 k (b32 b')) g1 ∧ xI mTg w (x_si (x_si w1 50 (tg tak k).1 1) 61 k (b32 b')) := by
          intro b'
          have G : xI (fun p _ => p = 50 ∨ p = 61) w1 (x_si (x_si w1 50 (tg tak k).1 1) 61 k (b32 b')) := xI_si (xI_si xI_rf (Or.inl rfl)) (Or.inr rfl)
          have G2 : xI (fun p _ => p = 61) (x_si w1 50 (tg tak k).1 1) (x_si (x_si w1 50 (tg tak k).1 1) 61 k (b32 b')) := xI_si xI_rf rfl
          refine ⟨fun j hj => (xI_i G2 50 j (by omega)).trans (MA_set hM j hj), fun i hi => ?_, GR_I G hG (by omega) (by omega), xI_tr F (xI_w G (by unfold mTg; omega))⟩
          rw [y_i_si]
          dsimp only
          by_cases e : i = k
          · rw [if_pos ⟨rfl, e⟩, if_pos e]
          · rw [if_neg (fun z => e z.2), if_neg e, y_i_si, if_neg (by omega)]; exact hB i hi
        have far : ∀ (b' : Bool), ¬ k < b → b' = (bn1 k || decide (k < b)) → x_R x_prog scr 147 0 [some (.ref 36), some (.int (nI (tg tak k).1))] [] (x_si (x_si w1 50 (tg tak k).1 1) 61 k (b32 b')) (x_back x_prog 146 74 77 [some (.ref 36), none, some (.int (nI b)), some (.int (nI k))] [] (fun pc L st w => x_R x_prog scr 146 pc L st w Q)) := by
          intro b' hkb hb'
          obtain ⟨m1, m2, m3, m4⟩ := MB b'
          rw [← iI_n (tg tak k).1]
          refine c147 (v := ((tg tak k).1 : Int)) (by omega) (sh_I m4 h) m3 (fun w2 u1 u2 => fin b' hb' w2 _ (xI_tr m4 (xI_w u1 (by unfold mGr mTg; omega))) (fun j hj => (xI_i u1 50 j (by unfold mGr; omega)).trans (m1 j hj)) (fun i hi => (xI_i u1 61 i (by unfold mGr; omega)).trans (m2 i hi)) (by rw [if_neg hkb]; exact u2))
        refine ⟨fun z => absurd z (by decide), fun _ => ⟨fun z => ⟨fun _ => ?_, fun y => absurd z y⟩, fun z => ?_⟩⟩
        · obtain ⟨m1, m2, m3, m4⟩ := MB true
          exact fin true (by rw [decide_eq_true z, Bool.or_true]) _ _ m4 m1 m2 (by rw [if_pos z]; exact m3)
        · cases hbk : bn1 k with
          | false =>
            refine ⟨fun _ => ⟨fun y => absurd y z, fun _ => far false z (by rw [hbk, decide_eq_false z]; rfl)⟩, fun y => absurd rfl y⟩
          | true =>
            refine ⟨fun y => absurd y (by decide), fun _ => ⟨fun y => absurd y z, fun _ => far true z (by rw [hbk]; rfl)⟩⟩
  have hng : -(nI c) = iI (-(c : Int)) := by rw [← iI_n, iI_ng (by omega) (by omega)]
  refine b146_0 ⟨by rw [sh_k h]; rfl, ?_⟩
  rw [hng]
  refine c147 (by omega) h hG (fun w1 u1 u2 => b146_6 ?_)
  refine key tak.length 0 mk bn (gr ++ [-(c : Int)]) w1 _ (xI_w u1 (by unfold mGr mTg; omega)) (fun j hj => (xI_i u1 50 j (by unfold mGr; omega)).trans (hM j hj)) (fun i hi => (xI_i u1 61 i (by unfold mGr; omega)).trans (hB i hi)) (fun _ _ => rfl) u2 (by rw [List.length_append, List.length_singleton]; omega) (by omega) (fun w' v1 v2 v3 v4 => hq w' v1 v2 (fun i hi => ?_) ?_)
  · rw [v3 i hi]
    dsimp only
    have : decide (0 ≤ i ∧ i < 0 + tak.length) = decide (i < tak.length) := decide_eq_decide.mpr (by omega)
    rw [this]
  · rw [sel_beyond hbt, List.append_assoc] at v4
    exact v4
end X70
