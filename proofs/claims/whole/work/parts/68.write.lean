/-! write of the class. -/
theorem getD_pre (p m q : List Int) {k : Nat} (hk : k < m.length) : (p ++ (m ++ q)).getD (p.length + k) 0 = m.getD k 0 := by
  rw [List.getD_eq_getElem?_getD, List.getD_eq_getElem?_getD, List.getElem?_append_right (by omega), Nat.add_sub_cancel_left, List.getElem?_append_left hk]
section X68
variable {scr : Nat × (Nat → Int32)} {w : xW} {Q : xO → xW → Prop} {w1 : xW} {P T n c g d V E : Nat} {hf hs : Bool} {al mk sp f mkO spO nw : Nat → Bool} {tak : xTk} {cs : List (List Int)} {st : xSt} {ls hb hg tk NT H0 : List Int} {o1 o2 o3 o4 o5 : Option Value}
theorem c137n {i : Nat} (h : SH w) (hT : TG 22 w NT) (hi : i < NT.length) (hl : NT.length < 2 ^ 30) (hq : ∀ v : Int, (i < 2000 → v = NT.getD i 0) → Q (.inl (some (.int (iI v)))) w) : x_R x_prog scr 137 0 [some (.ref 22), some (.int (nI i))] [] w Q := by
  refine b137_0 ⟨fun z => absurd z (nI_pos (by omega)), fun _ => ?_⟩
  have g1 : (2000 : Int32) ≤ nI i ↔ 2000 ≤ i := nI_leI (a := 2000) (by omega) (by omega)
  rw [hT.1, sr22_0 h, sh_k h, sh_l h, g1, nI_clamp (show i < 2 ^ 31 by omega)]
  refine ⟨rfl, fun z => absurd z (nI_ge (by omega) (by omega)), fun _ => ⟨fun z => hq 0 (fun y => by omega), fun z => ⟨rfl, by decide, ⟨rfl, vp_in_nI (N := 2000) (by omega) (by omega)⟩, ?_⟩⟩⟩
  have := hT.2 i hi (by omega)
  rw [this]
  exact hq _ (fun _ => rfl)
/-- a piece that is written: whole, if all notes had room -/
def WL (NT m' m : List Int) : Prop := m'.length = m.length ∧ (NT.length ≤ 2000 → m' = m)
theorem WL_app {a a' b b' : List Int} (h1 : WL NT a' a) (h2 : WL NT b' b) : WL NT (a' ++ b') (a ++ b) :=
  ⟨by rw [List.length_append, List.length_append, h1.1, h2.1], fun z => by rw [h1.2 z, h2.2 z]⟩
theorem WL_rf {a : List Int} : WL NT a a := ⟨rfl, fun _ => rfl⟩
/-- addPart -/
theorem c136 {p m q : List Int} (hT3 : T = 17 ∨ T = 19) (h : SH w) (hN : TG 22 w NT) (hNT : NT = p ++ (m ++ q)) (hl : NT.length < 2 ^ 28) (hG : TG T w tk) (htk : tk.length + m.length < 2 ^ 29)
    (hq : ∀ w' m', WL NT m' m → xI (mAd T) w w' → TG T w' (tk ++ m') → Q (.inl none) w') : x_R x_prog scr 136 0 [some (.ref T), some (.ref 22), some (.int (nI p.length)), some (.int (nI (p.length + m.length))), o4] [] w Q := by
  have hll : NT.length = p.length + (m.length + q.length) := by rw [hNT, List.length_append, List.length_append]
  have key : ∀ (d k : Nat) (tk : List Int) (w : xW) (o2 : Option Value), SH w → TG 22 w NT → TG T w tk → k + d = m.length → tk.length + d < 2 ^ 29 → (∀ w' m', m'.length = d → (NT.length ≤ 2000 → m' = m.drop k) → xI (mAd T) w w' → TG T w' (tk ++ m') → Q (.inl none) w') → x_R x_prog scr 136 3 [some (.ref T), some (.ref 22), o2, some (.int (nI (p.length + m.length))), some (.int (nI (p.length + k)))] [] w Q := by
    intro d
    induction d with
    | zero =>
      intro k tk w o2 h hN hG hk htk hq
      refine b136_3 ⟨fun _ => ?_, fun z => absurd (nI_le (by omega) (by omega)) z⟩
      exact hq w [] rfl (fun _ => (List.drop_eq_nil_of_le (by omega)).symm) xI_rf (by rw [List.append_nil]; exact hG)
    | succ d ih =>
      intro k tk w o2 h hN hG hk htk hq
      refine b136_3 ⟨fun z => absurd z (nI_ge (by omega) (by omega)), fun _ => ⟨by rw [sh_k h]; rfl, c137n h hN (by omega) (by omega) (fun v hv => b136_16 ⟨tK h (by omega), c78 (by omega) h (by omega) hG (fun w1 u1 u2 => b136_19 ?_)⟩)⟩⟩
      rw [nI_1, Nat.add_assoc]
      refine ih (k + 1) (tk ++ [v]) w1 none (sh_I u1 h) (TG_F u1 hN (by unfold mAd; omega) (by unfold mAd; omega)) u2 (by omega) (by rw [List.length_append, List.length_singleton]; omega) (fun w' m' v1 v2 v3 v4 => hq w' (v :: m') (by rw [List.length_cons, v1]) (fun z => ?_) (xI_tr u1 v3) (by rw [List.append_assoc] at v4; exact v4))
      have e := hv (by omega)
      rw [hNT, getD_pre p m q (by omega)] at e
      rw [v2 z, drop_c m (k := k) (by omega), e]
  refine b136_0 ?_
  have := key m.length 0 tk w (some (.int (nI p.length))) h hN hG (by omega) (by omega) (fun w' m' v1 v2 v3 v4 => hq w' m' ⟨v1, fun z => by rw [v2 z, List.drop_zero]⟩ v3 v4)
  rw [Nat.add_zero] at this
  exact this
theorem CL_T {p2 : List Int} (hT3 : T = 17 ∨ T = 19) (q : xI (mAd T) w w1) (h : CL w NT n nw hb hg) : CL w1 NT n nw hb hg := by
  obtain ⟨p, r, h1, h2, h3, h4, h5⟩ := h
  refine ⟨p, r, h1, (xI_i q 24 n (by unfold mAd; omega)).trans h2, (xI_i q 25 n (by unfold mAd; omega)).trans h3, (xI_i q 26 n (by unfold mAd; omega)).trans h4, ?_⟩
  rw [xI_j q]
  exact h5
/-- writeLine -/
theorem c135 (hP : P = 5 ∨ P = 11) (hT3 : T = 17 ∨ T = 19) (hn : n ≤ 64) (hls : ls.length ≤ 6) (hnl : ls = [] ∨ n ≤ 63) (h : SH w) (hr1 : x_r w 21 1 = P) (hlit : ∀ k, k < ls.length → x_i w (P + 1) (6 * n + k) = iI (ls.getD k 0)) (hN : TG 22 w NT) (hl : NT.length < 2 ^ 28) (hC : CL w NT n nw hb hg) (hG : TG T w tk) (htk : tk.length + (hb.length + hg.length) < 2 ^ 28)
    (hq : ∀ w' m', WL NT m' (lnT n ls (hb ++ hg)) → xI (mAd T) w w' → TG T w' (tk ++ m') → Q (.inl none) w') : x_R x_prog scr 135 0 [some (.ref 21), some (.ref T), some (.int (nI n)), some (.int (nI ls.length)), o4] [] w Q := by
  have hT : T = 17 ∨ T = 19 ∨ T = 22 := by omega
  -- behind the literals
  have aft : ∀ (w1 : xW) (o3 o4 : Option Value), xI (mAd T) w w1 → TG T w1 (tk ++ ((n : Int) :: (ls ++ [0]))) → x_R x_prog scr 135 44 [some (.ref 21), some (.ref T), some (.int (nI n)), o3, o4] [] w1 Q := by
    intro w1 o3 o4 u1 u2
    have h1 := sh_I u1 h
    obtain ⟨p, r, p1, p2, p3, p4, p5⟩ := CL_T (p2 := []) hT3 u1 hC
    have hll : NT.length = p.length + (hg.length + (hb.length + r.length)) := by rw [p1]; simp only [List.length_append]
    have N1 : TG 22 w1 NT := TG_F u1 hN (by unfold mAd; omega) (by unfold mAd; omega)
    refine b135_44 ?_
    rw [sr21_5 h1, sr21_7 h1, sr21_8 h1, tK h1 hT, sh_k h1, sh_l h1, nI_clamp (show n < 2 ^ 31 by omega), p3, p4]
    have e1 : p.length + hg.length = (p ++ hg).length := List.length_append.symm
    rw [e1]
    refine ⟨rfl, by decide, rfl, by decide, ⟨rfl, vp_in_nI (N := 65) (by omega) (by omega)⟩, rfl, by decide, ⟨rfl, vp_in_nI (N := 65) (by omega) (by omega)⟩, rfl, c136 (p := p ++ hg) (m := hb) (q := r) hT3 h1 N1 (by rw [p1]; simp only [List.append_assoc]) hl u2 (by simp only [List.length_append, List.length_cons, List.length_nil]; omega) (fun w2 m2 v0 v1 v2 => b135_64 ?_)⟩
    have h2 := sh_I v1 h1
    have q2 : ∀ a k, (a = 24 ∨ a = 25) → x_i w2 a k = x_i w1 a k := fun a k ha => xI_i v1 a k (by unfold mAd; omega)
    have N2 : TG 22 w2 NT := TG_F v1 N1 (by unfold mAd; omega) (by unfold mAd; omega)
    rw [sr21_5 h2, sr21_6 h2, sr21_7 h2, tK h2 hT, sh_k h2, sh_l h2, nI_clamp (show n < 2 ^ 31 by omega), q2 24 n (by omega), q2 25 n (by omega), p2, p3]
    have v0l := v0.1
    refine ⟨rfl, by decide, rfl, by decide, ⟨rfl, vp_in_nI (N := 65) (by omega) (by omega)⟩, rfl, by decide, ⟨rfl, vp_in_nI (N := 65) (by omega) (by omega)⟩, rfl, c136 (p := p) (m := hg) (q := hb ++ r) hT3 h2 N2 p1 hl v2 (by simp only [List.length_append, List.length_cons, List.length_nil]; omega) (fun w3 m3 y0 y1 y2 => b135_84 ?_)⟩
    have h3 := sh_I y1 h2
    have y0l := y0.1
    refine ⟨tK h3 hT, c78 (v := 0) hT h3 (by simp only [List.length_append, List.length_cons, List.length_nil]; omega) y2 (fun w4 x1 x2 => b135_89 (hq w4 ((n : Int) :: (ls ++ [0]) ++ (m2 ++ m3 ++ [0])) ?_ (xI_tr u1 (xI_tr v1 (xI_tr y1 x1))) ?_))⟩
    · have e : lnT n ls (hb ++ hg) = (n : Int) :: (ls ++ [0]) ++ (hb ++ hg ++ [0]) := by
        unfold lnT
        simp only [List.append_assoc, List.cons_append, List.nil_append]
      rw [e]
      exact WL_app WL_rf (WL_app (WL_app v0 y0) WL_rf)
    · simp only [List.append_assoc, List.cons_append, List.nil_append] at x2 ⊢
      exact x2
  have key : ∀ (d k : Nat) (w1 : xW), xI (mAd T) w w1 → TG T w1 (tk ++ ((n : Int) :: ls.take k)) → k + d = ls.length → x_R x_prog scr 135 8 [some (.ref 21), some (.ref T), some (.int (nI n)), some (.int (nI ls.length)), some (.int (nI k))] [] w1 Q := by
    intro d
    induction d with
    | zero =>
      intro k w1 u1 u2 hk
      have h1 := sh_I u1 h
      have ek : k = ls.length := by omega
      subst ek
      rw [List.take_length] at u2
      refine b135_8 ⟨fun _ => ⟨tK h1 hT, c78 (v := 0) hT h1 (by simp only [List.length_append, List.length_cons]; omega) u2 (fun w2 v1 v2 => aft w2 _ _ (xI_tr u1 v1) ?_)⟩, fun z => absurd (nI_le (by omega) (by omega)) z⟩
      simp only [List.append_assoc, List.cons_append, List.nil_append] at v2 ⊢
      exact v2
    | succ d ih =>
      intro k w1 u1 u2 hk
      have h1 := sh_I u1 h
      have hn63 : n ≤ 63 := by
        rcases hnl with e | e
        · rw [e] at hk; simp at hk
        · exact e
      have e6 : nI n * 6 + nI k = nI (6 * n + k) := by rw [show (6 : Int32) = nI 6 from rfl, pk_mul, nI_add, Nat.mul_comm]
      have hr1' : x_r w1 21 1 = P := by rw [xI_r u1]; exact hr1
      have hl1 : x_i w1 (P + 1) (6 * n + k) = iI (ls.getD k 0) := (xI_i u1 _ _ (by unfold mAd; omega)).trans (hlit k (by omega))
      refine b135_8 ⟨fun z => absurd z (nI_ge (by omega) (by omega)), fun _ => ?_⟩
      rw [hr1', pK h1 hP, pr6 h1 hP, (pk1 h1 hP).1, (pk1 h1 hP).2, e6, nI_clamp (show 6 * n + k < 2 ^ 31 by omega), hl1, tK h1 hT, sh_k h1]
      refine ⟨rfl, by omega, rfl, by omega, ⟨rfl, vp_in_nI (by omega) (by omega)⟩, rfl, c78 (v := ls.getD k 0) hT h1 (by simp only [List.length_append, List.length_cons, List.length_take]; omega) u2 (fun w2 v1 v2 => b135_33 ?_)⟩
      rw [nI_1]
      refine ih (k + 1) w2 (xI_tr u1 v1) ?_ (by omega)
      have et : ls.take (k + 1) = ls.take k ++ [ls.getD k 0] := by
        rw [List.take_succ, List.getD_eq_getElem?_getD, List.getElem?_eq_getElem (by omega)]
        rfl
      rw [et]
      simp only [List.append_assoc, List.cons_append, List.nil_append] at v2 ⊢
      exact v2
  refine b135_0 ⟨tK h hT, ?_⟩
  rw [← iI_n n]
  refine c78 (v := (n : Int)) hT h (by omega) hG (fun w1 u1 u2 => b135_5 ?_)
  rw [iI_n]
  exact key ls.length 0 w1 u1 (by rw [List.take_zero]; exact u2) (by omega)
/-- writeDrops -/
theorem c134 {dr : Int64} (hP : P = 5 ∨ P = 11) (hT3 : T = 17 ∨ T = 19) (hn : n ≤ 64) (hl : cs.length ≤ 63) (h : SH w) (hr1 : x_r w 21 1 = P) (h4 : x_i w P 4 = nI cs.length) (hdr : ∀ j, j < 64 → hc dr j = f j) (hf : ∀ j, f j = true → 1 ≤ j ∧ j ≤ cs.length) (hG : TG T w tk) (htk : tk.length < 2 ^ 28)
    (hq : ∀ w', xI (mAd T) w w' → TG T w' (tk ++ drs n f cs.length) → Q (.inl none) w') : x_R x_prog scr 134 0 [some (.ref 21), some (.ref T), some (.int (nI n)), some (.long dr), o4, o5] [] w Q := by
  have hT : T = 17 ∨ T = 19 ∨ T = 22 := by omega
  have e0 : lg_cmp dr 0 = 0 ↔ lst f cs.length 1 = [] := by
    rw [lg_cmp_eq, lst_nil]
    constructor
    · intro z i h1 h2
      rw [← hdr i (by omega), z, hc_0]
    · intro z
      apply hc_ext
      intro j hj
      rw [hc_0, hdr j hj]
      apply Bool.eq_false_iff.mpr
      intro y
      have := hf j y
      rw [z j (by omega) (by omega)] at y
      cases y
  have key : ∀ (d c : Nat) (tk2 : List Int) (w1 : xW) (o2 o4 : Option Value), xI (mAd T) w w1 → TG T w1 tk2 → c + d = cs.length + 1 → 1 ≤ c → tk2.length + d < 2 ^ 29 → (∀ w', xI (mAd T) w w' → TG T w' (tk2 ++ (lst f d c ++ [0])) → Q (.inl none) w') → x_R x_prog scr 134 22 [some (.ref 21), some (.ref T), o2, some (.long dr), o4, some (.int (nI c))] [] w1 Q := by
    intro d
    induction d with
    | zero =>
      intro c tk2 w1 o2 o4 u1 u2 hc hc1 hl2 hq
      have h1 := sh_I u1 h
      have hr1' : x_r w1 21 1 = P := by rw [xI_r u1]; exact hr1
      have h41 : x_i w1 P 4 = nI cs.length := (xI_i u1 P 4 (by unfold mAd; omega)).trans h4
      refine b134_22 ?_
      rw [hr1', pK h1 hP, h41, tK h1 hT, sh_k h1]
      exact ⟨rfl, by omega, rfl, fun _ => ⟨rfl, c78 (v := 0) hT h1 (by omega) u2 (fun w2 v1 v2 => b134_60 (hq w2 (xI_tr u1 v1) v2))⟩, fun z => absurd (nI_lt (by omega) (by omega)) z⟩
    | succ d ih =>
      intro c tk2 w1 o2 o4 u1 u2 hc hc1 hl2 hq
      have h1 := sh_I u1 h
      have hr1' : x_r w1 21 1 = P := by rw [xI_r u1]; exact hr1
      have h41 : x_i w1 P 4 = nI cs.length := (xI_i u1 P 4 (by unfold mAd; omega)).trans h4
      unfold lst at hq
      refine b134_22 ?_
      rw [hr1', pK h1 hP, h41, sh_k h1]
      refine ⟨rfl, by omega, rfl, fun z => absurd z (nI_nlt (by omega) (by omega)), fun _ => c68 (by omega) (b134_40 ?_)⟩
      rw [hdr c (by omega)]
      cases hfc : f c with
      | false =>
        rw [hfc] at hq
        refine ⟨fun _ => b134_49 ?_, fun z => absurd rfl z⟩
        rw [nI_1]
        exact ih (c + 1) tk2 w1 _ _ u1 u2 (by omega) (by omega) (by omega) hq
      | true =>
        rw [hfc, if_pos rfl] at hq
        refine ⟨fun z => absurd z (by decide), fun _ => ⟨tK h1 hT, ?_⟩⟩
        rw [← iI_n c]
        refine c78 (v := (c : Int)) hT h1 (by omega) u2 (fun w2 v1 v2 => b134_49 ?_)
        rw [iI_n, nI_1]
        exact ih (c + 1) _ w2 _ _ (xI_tr u1 v1) v2 (by omega) (by omega) (by rw [List.length_append, List.length_singleton]; omega) (fun w' y1 y2 => hq w' y1 (by rw [List.append_assoc] at y2; exact y2))
  unfold drs at hq
  refine b134_0 ?_
  rw [e0]
  refine ⟨fun z => ⟨tK h hT, ?_⟩, fun z => ?_⟩
  · rw [if_neg z] at hq
    rw [← iI_n n]
    refine c78 (v := (n : Int)) hT h (by omega) hG (fun w1 u1 u2 => b134_12 ⟨tK (sh_I u1 h) hT, c78 (v := 10000) hT (sh_I u1 h) (by rw [List.length_append, List.length_singleton]; omega) u2 (fun w2 v1 v2 => b134_19 ?_)⟩)
    refine key cs.length 1 _ w2 _ _ (xI_tr u1 v1) v2 (by omega) (by omega) (by simp only [List.length_append, List.length_cons, List.length_nil]; omega) (fun w' y1 y2 => hq w' y1 ?_)
    simp only [List.append_assoc, List.cons_append, List.nil_append] at y2 ⊢
    exact y2
  · rw [if_pos (Classical.not_not.mp z)] at hq
    exact hq w xI_rf (by rw [List.append_nil]; exact hG)
theorem RF_T (hT3 : T = 17 ∨ T = 19) (q : xI (mAd T) w w1) (h : RF P w E mk sp NT) : RF P w1 E mk sp NT := by
  obtain ⟨a1, a2, a3, a4, a5⟩ := h
  exact ⟨by rw [xI_r q]; exact a1, (xI_i q 21 4 (by unfold mAd; omega)).trans a2, by rw [xI_j q]; exact a3, by rw [xI_j q]; exact a4, TG_F q a5 (by unfold mAd; omega) (by unfold mAd; omega)⟩
theorem PS_T (hP : P = 5 ∨ P = 11) (hT3 : T = 17 ∨ T = 19) {m : Nat → Nat → Prop} (hm : ∀ p k, m p k → p = T ∨ p = T + 1) (q : xI m w w1) (hS : PS P w hf hs V g cs st mkO spO) : PS P w1 hf hs V g cs st mkO spO :=
  PS_e (fun p _ _ => xI_c q p (fun k z => by have := hm p k z; omega)) (by rw [xI_j q]) (by rw [xI_j q]) hS
/-- write -/
theorem c133_l (hP : P = 5 ∨ P = 11) (hT3 : T = 17 ∨ T = 19) (hco : cok cs) (hl : cs.length ≤ 63) (hE : E ≤ 64) (hEl : E ≤ cs.length + 1) (hNT : NT.length < 2 ^ 28) : ∀ (d c : Nat) (r : List xLn) (k : Nat) (tk A : List Int) (w : xW), SH w → PS P w hf hs V g cs st mkO spO → RF P w E mk sp NT → (∃ nw, CL w NT E nw H0 []) → (∀ x ∈ r, CL w NT x.1 x.2.1 x.2.2.1 x.2.2.2) → (∀ x ∈ r, ∀ j, x.2.1 j = true → 1 ≤ j ∧ j ≤ cs.length) → r.Pairwise (fun a b => a.1 < b.1) → (∀ x ∈ r, c ≤ x.1 ∧ x.1 < E) → (∀ j, c ≤ j → j < E → (mk j = true ↔ ∃ x ∈ r, x.1 = j)) → 1 ≤ c → c + d = E → TG T w tk → WL NT tk A → (A ++ tkL cs E H0 r).length < 2 ^ 27 →
    (∀ w' t', WL NT t' (A ++ tkL cs E H0 r) → xI (mAd T) w w' → TG T w' t' → Q (.inl (some (.int (nI (k + r.length))))) w') →
    x_R x_prog scr 133 46 [some (.ref 21), some (.ref T), some (.int (nI k)), some (.int (nI c))] [] w Q := by
  have hT : T = 17 ∨ T = 19 ∨ T = 22 := by omega
  intro d
  induction d with
  | zero =>
    intro c r k tk A w h hS hR hC0 hC hnw hpw hrg hiff hc1 hc hG hW hlen hq
    have er : r = [] := by
      cases r with
      | nil => rfl
      | cons x r =>
        have := hrg x List.mem_cons_self
        omega
    subst er
    obtain ⟨nw0, hC0⟩ := hC0
    have hWl := hW.1
    have hll : (A ++ tkL cs E H0 []).length = A.length + (H0.length + 3) := by
      unfold tkL
      rw [List.length_append, lnT_len]
      simp
    refine b133_46 ?_
    rw [hR.2.1, sh_k h]
    refine ⟨rfl, fun _ => ⟨rfl, rfl, ?_⟩, fun z => absurd (nI_le (by omega) (by omega)) z⟩
    refine c135 (ls := []) hP hT3 hE (by simp) (Or.inl rfl) h hR.1 (fun k hk => absurd hk (by simp)) hR.2.2.2.2 hNT hC0 hG (by simp; omega) (fun w' m' u0 u1 u2 => b133_111 ?_)
    rw [List.append_nil] at u0
    have := hq w' (tk ++ m') (WL_app hW u0) u1 u2
    exact this
  | succ d ih =>
    intro c r k tk A w h hS hR hC0 hC hnw hpw hrg hiff hc1 hc hG hW hlen hq
    have hWl := hW.1
    refine b133_46 ?_
    rw [hR.2.1, sh_k h]
    refine ⟨rfl, fun z => absurd z (nI_ge (by omega) (by omega)), fun _ => ⟨rfl, c68 (by omega) (b133_62 ?_)⟩⟩
    rw [hR.2.2.1 c (by omega), nI_1]
    cases hmc : mk c with
    | false =>
      refine ⟨fun _ => ih (c + 1) r k tk A w h hS hR hC0 hC hnw hpw (fun x hx => ?_) (fun j h1 h2 => hiff j (by omega) h2) (by omega) (by omega) hG hW hlen hq, fun z => absurd rfl z⟩
      have h1 := hrg x hx
      have : ¬ x.1 = c := by
        intro e
        have := (hiff c (Nat.le_refl _) (by omega)).mpr ⟨x, hx, e⟩
        rw [hmc] at this
        cases this
      omega
    | true =>
      obtain ⟨y, hy, ey⟩ := (hiff c (Nat.le_refl _) (by omega)).mp hmc
      cases r with
      | nil => cases hy
      | cons x r =>
        have hp2 := List.pairwise_cons.mp hpw
        have ex : x.1 = c := by
          rcases List.mem_cons.mp hy with e | e
          · rw [← e]; exact ey
          · have h1 := hp2.1 y e
            have h2 := hrg x List.mem_cons_self
            omega
        refine ⟨fun z => absurd z (by decide), fun _ => ?_⟩
        have hcl := cg_ok hco x.1
        have hl6 := hcl.1
        have hPC := PC_c hS.2.1 (c := x.1) (by omega) (by omega)
        have hll : (A ++ tkL cs E H0 (x :: r)).length = A.length + ((cg cs x.1).length + (hx x).length + 3 + ((drs x.1 x.2.1 cs.length).length + (tkL cs E H0 r).length)) := by
          show (A ++ (lnT x.1 (cg cs x.1) (hx x) ++ (drs x.1 x.2.1 cs.length ++ tkL cs E H0 r))).length = _
          rw [List.length_append, List.length_append, List.length_append, lnT_len]
        have hxl : (hx x).length = x.2.2.1.length + x.2.2.2.length := by unfold hx; rw [List.length_append]
        rw [← ex]
        rw [hR.1, pK h hP, pr7 h hP, (pk2 h hP).1, (pk2 h hP).2, nI_clamp (show x.1 < 2 ^ 31 by omega), hPC.1]
        refine ⟨by rw [sh_k h]; rfl, by omega, rfl, by omega, ⟨rfl, vp_in_nI (by omega) (by omega)⟩, by rw [sh_k h]; rfl, ?_⟩
        refine c135 (ls := cg cs x.1) hP hT3 (by omega) hl6 (Or.inr (by omega)) h hR.1 hPC.2.2 hR.2.2.2.2 hNT (hC x List.mem_cons_self) hG (by omega) (fun w1 m1 u0 u1 u2 => b133_80 ?_)
        have h1 := sh_I u1 h
        have R1 := RF_T hT3 u1 hR
        have S1 := PS_T hP hT3 (by unfold mAd; omega) u1 hS
        obtain ⟨p, q, c1, c2, c3, c4, c5⟩ := CL_T (p2 := []) hT3 u1 (hC x List.mem_cons_self)
        have u0l := u0.1
        rw [lnT_len] at u0l
        rw [List.length_append] at u0l
        rw [sr21_9 h1, sh_k h1, sh_l h1, nI_clamp (show x.1 < 2 ^ 31 by omega)]
        refine ⟨rfl, by decide, ⟨rfl, vp_in_nI (N := 65) (by omega) (by omega)⟩, rfl, c134 (f := x.2.1) hP hT3 (by omega) hl h1 R1.1 S1.1.2.2.2.2.1 c5 (hnw x List.mem_cons_self) u2 (by rw [List.length_append]; omega) (fun w2 v1 v2 => b133_92 ?_)⟩
        have F : xI (mAd T) w w2 := xI_tr u1 v1
        rw [nI_1, nI_1]
        have ea : A ++ tkL cs E H0 (x :: r) = (A ++ (lnT x.1 (cg cs x.1) (hx x) ++ drs x.1 x.2.1 cs.length)) ++ tkL cs E H0 r := by
          show A ++ (lnT x.1 (cg cs x.1) (hx x) ++ (drs x.1 x.2.1 cs.length ++ tkL cs E H0 r)) = _
          simp only [List.append_assoc]
        rw [ea] at hlen hq
        have et : tk ++ m1 ++ drs x.1 x.2.1 cs.length = tk ++ (m1 ++ drs x.1 x.2.1 cs.length) := List.append_assoc _ _ _
        rw [et] at v2
        refine ih (x.1 + 1) r (k + 1) _ (A ++ (lnT x.1 (cg cs x.1) (hx x) ++ drs x.1 x.2.1 cs.length)) w2 (sh_I F h) (PS_T hP hT3 (by unfold mAd; omega) F hS) (RF_T hT3 F hR) ?_ (fun y hy => CL_T (p2 := []) hT3 F (hC y (List.mem_cons_of_mem _ hy))) (fun y hy => hnw y (List.mem_cons_of_mem _ hy)) hp2.2 (fun y hy => ?_) (fun j h1 h2 => ?_) (by omega) (by omega) v2 (WL_app hW (WL_app u0 WL_rf)) hlen (fun w' t' y0 y1 y2 => ?_)
        · obtain ⟨nw0, hC0⟩ := hC0
          exact ⟨nw0, CL_T (p2 := []) hT3 F hC0⟩
        · have h3 := hp2.1 y hy
          have h4 := hrg y (List.mem_cons_of_mem _ hy)
          omega
        · rw [hiff j (by omega) h2]
          constructor
          · rintro ⟨y, hy, e⟩
            rcases List.mem_cons.mp hy with e2 | e2
            · rw [e2] at e; omega
            · exact ⟨y, e2, e⟩
          · rintro ⟨y, hy, e⟩
            exact ⟨y, List.mem_cons_of_mem _ hy, e⟩
        · have := hq w' t' y0 (xI_tr F y1) y2
          rw [List.length_cons] at this
          rw [show k + 1 + r.length = k + (r.length + 1) by omega]
          exact this
theorem c133 {ln : List xLn} (hP : P = 5 ∨ P = 11) (hT3 : T = 17 ∨ T = 19) (hco : cok cs) (hl : cs.length ≤ 63) (hg : g < E) (hEl : E ≤ cs.length + 1) (hNT : NT.length < 2 ^ 28) (h : SH w) (hS : PS P w hf hs V g cs st mkO spO) (hR : RF P w E mk sp NT) (hC0 : ∃ nw, CL w NT E nw H0 []) (hC : ∀ x ∈ ln, CL w NT x.1 x.2.1 x.2.2.1 x.2.2.2) (hnw : ∀ x ∈ ln, ∀ j, x.2.1 j = true → 1 ≤ j ∧ j ≤ cs.length) (hpw : ln.Pairwise (fun a b => a.1 < b.1)) (hrg : ∀ x ∈ ln, g + 1 ≤ x.1 ∧ x.1 < E) (hiff : ∀ j, g + 1 ≤ j → j < E → (mk j = true ↔ ∃ x ∈ ln, x.1 = j)) (hlen : (tkA cs g E H0 mk ln).length < 2 ^ 27)
    (hq : ∀ w' t', WL NT t' (tkA cs g E H0 mk ln) → xI (fun p k => (p = T ∧ (k = 1 ∨ k = 2)) ∨ p = T + 1) w w' → TG T w' t' → Q (.inl (some (.int (nI (1 + ln.length))))) w') : x_R x_prog scr 133 0 [some (.ref 21), some (.ref T), o2, o3] [] w Q := by
  have hT : T = 17 ∨ T = 19 ∨ T = 22 := by omega
  refine b133_0 ⟨tK h hT, c40 hT h (fun w1 u1 u2 u3 => b133_4 ?_)⟩
  have h1 := sh_I u1 h
  have R1 : RF P w1 E mk sp NT := RF_i u1 (by omega) (by omega) (by omega) hR
  have S1 := PS_T hP hT3 (by omega) u1 hS
  have T1 : TG T w1 [] := ⟨u2, fun k hk => absurd hk (by simp)⟩
  have g0 : Int32.toNatClampNeg 0 = 0 := rfl
  have CLo : ∀ {n nw hb hg}, CL w NT n nw hb hg → CL w1 NT n nw hb hg := by
    rintro n nw hb hg ⟨p, r, h1, h2, h3, h4, h5⟩
    exact ⟨p, r, h1, (xI_i u1 24 n (by omega)).trans h2, (xI_i u1 25 n (by omega)).trans h3, (xI_i u1 26 n (by omega)).trans h4, by rw [xI_j u1]; exact h5⟩
  rw [R1.1, pK h1 hP, pr10 h1 hP, (pk5 h1 hP).1, (pk5 h1 hP).2, S1.1.2.2.2.1, sh_k h1, g0]
  refine ⟨rfl, by omega, rfl, rfl, by omega, rfl, by omega, ⟨rfl, by rw [← nI_0]; exact vp_in_nI (by omega) (by omega)⟩, rfl, rfl, ?_⟩
  refine c134 (n := g) (f := fun d => (decide (1 ≤ d ∧ d ≤ g)) && !mk d) hP hT3 (by omega) hl h1 R1.1 S1.1.2.2.2.2.1 (fun j hj => ?_) (fun j hj => ?_) T1 (by simp) (fun w2 v1 v2 => b133_34 ?_)
  · have := S1.2.2.2.1 0 (by omega) j hj
    rw [hc_and, hc_not _ hj, this, R1.2.2.1 j hj]
    rfl
  · rw [Bool.and_eq_true] at hj
    have := of_decide_eq_true hj.1
    omega
  · have h2 := sh_I v1 h1
    have R2 := RF_T hT3 v1 R1
    have S2 := PS_T hP hT3 (by unfold mAd; omega) v1 S1
    have ed : drs g (fun d => decide (1 ≤ d ∧ d ≤ g) && !mk d) cs.length = drs g (fun d => decide (d ≤ g) && !mk d) cs.length := by
      unfold drs
      have := lst_cg (f := fun d => decide (1 ≤ d ∧ d ≤ g) && !mk d) (f' := fun d => decide (d ≤ g) && !mk d) cs.length 1 (fun i h1 h2 => by
        have : decide (1 ≤ i ∧ i ≤ g) = decide (i ≤ g) := decide_eq_decide.mpr ⟨fun z => z.2, fun z => ⟨h1, z⟩⟩
        rw [this])
      rw [this]
    rw [ed, List.nil_append] at v2
    rw [R2.1, pK h2 hP, S2.1.2.2.2.1, nI_1, sh_k h2]
    refine ⟨rfl, by omega, rfl, ?_⟩
    refine c133_l (A := drs g (fun d => decide (d ≤ g) && !mk d) cs.length) (k := 1) hP hT3 hco hl (by omega) hEl hNT (E - (g + 1)) (g + 1) ln _ w2 h2 S2 R2 ?_ (fun x hx => CL_T (p2 := []) hT3 v1 (CLo (hC x hx))) hnw hpw hrg hiff (by omega) (by omega) v2 WL_rf hlen (fun w' t' y0 y1 y2 => hq w' t' y0 (xI_tr (xI_w u1 (by omega)) (xI_tr (xI_w v1 (by unfold mAd; omega)) (xI_w y1 (by unfold mAd; omega)))) y2)
    obtain ⟨nw, z⟩ := hC0
    exact ⟨nw, CL_T (p2 := []) hT3 v1 (CLo z)⟩
end X68
