/-! markNeeded, noteReasons, noteConflict, pickCandidate of the class. -/
section X65
variable {scr : Nat × (Nat → Int32)} {w : xW} {Q : xO → xW → Prop} {w1 : xW} {P n c g d : Nat} {hf hs : Bool} {al mk sp nd f : Nat → Bool} {tak : xTk} {cs : List (List Int)} {st : xSt} {NT : List Int} {m : Int32} {o : Int} {o1 o2 o3 o4 : Option Value}
theorem hc_mark {a : Int64} {j : Nat} (hc64 : c < 64) (h : ∀ j, j < 64 → hc a j = mk j) (hj : j < 64) : hc (a ||| lb c) j = mkS mk [(c : Int)] j := by
  rw [hc_or, hc_lb c hc64 j hj, h j hj]
  unfold mkS inL
  rw [List.any_cons, List.any_nil, Bool.or_false, Int.natAbs_natCast]
/-- markNeeded -/
theorem c128 {cf : Nat} (hcf : cf ≤ 63) (ht : tak.length ≤ 17) (h63 : ∀ k, k < tak.length → (tg tak k).1 ≤ 63) (h : SH w) (h29 : ∀ k, k < tak.length → x_i w 29 k = nI (tg tak k).1) (h9 : ∀ i, i < 32 → mm (x_i w 28 9) i = nd i) (hnd : ∀ i, tak.length ≤ i → nd i = false) (h8 : x_i w 28 8 = nI cf) (hm : ∀ j, j < 64 → hc (x_j w 21 2) j = mk j)
    (hq : ∀ w', xF x_no (fun p k => p = 21 ∧ k = 2) x_no w w' → (∀ j, j < 64 → hc (x_j w' 21 2) j = mkS mk (sel nd tak tak.length 0 ++ cfL cf) j) → Q (.inl none) w') : x_R x_prog scr 128 0 [some (.ref 21), o1] [] w Q := by
  have key : ∀ (d k : Nat) (mk : Nat → Bool) (w : xW), SH w → (∀ k, k < tak.length → x_i w 29 k = nI (tg tak k).1) → (∀ i, i < 32 → mm (x_i w 28 9) i = nd i) → x_i w 28 8 = nI cf → k + d = 17 → (∀ j, j < 64 → hc (x_j w 21 2) j = mk j) → (∀ w', xF x_no (fun p k => p = 21 ∧ k = 2) x_no w w' → (∀ j, j < 64 → hc (x_j w' 21 2) j = mkS mk (sel nd tak d k ++ cfL cf) j) → Q (.inl none) w') → x_R x_prog scr 128 2 [some (.ref 21), some (.int (nI k))] [] w Q := by
    intro d
    induction d with
    | zero =>
      intro k mk w h h29 h9 h8 hk hm hq
      have g0 : nI cf = 0 ↔ cf = 0 := by rw [← nI_0]; exact nI_eq (by omega) (by omega)
      have e17 : Int32.ofNat (sh_L 29) = nI 17 := rfl
      refine b128_2 ?_
      rw [sr21_0 h, sr28_4 h, sh_k h, sh_l h, h8, g0, e17]
      refine ⟨rfl, by decide, rfl, by decide, rfl, fun _ => ⟨rfl, by decide, rfl, fun z => ?_, fun z => ?_⟩, fun z => absurd (nI_le (by omega) (by omega)) z⟩
      · refine hq w xF_rf (fun j hj => ?_)
        unfold cfL
        rw [if_pos z]
        show _ = mkS mk [] j
        rw [mkS_nil]
        exact hm j hj
      · refine ⟨rfl, rfl, by decide, rfl, rfl, hq _ (xF_sj xF_rf ⟨rfl, rfl⟩) (fun j hj => ?_)⟩
        rw [y_j_sj, if_pos ⟨rfl, rfl⟩]
        unfold cfL
        rw [if_neg z]
        exact hc_mark (by omega) hm hj
    | succ d ih =>
      intro k mk w h h29 h9 h8 hk hm hq
      have e17 : Int32.ofNat (sh_L 29) = nI 17 := rfl
      unfold sel at hq
      refine b128_2 ?_
      rw [sr21_0 h, sr28_4 h, sh_k h, sh_l h, e17, mm_bit (show k < 32 by omega), h9 k (by omega), nI_1, nI_clamp (show k < 2 ^ 31 by omega)]
      refine ⟨rfl, by decide, rfl, by decide, rfl, fun z => absurd z (nI_ge (by omega) (by omega)), fun _ => ⟨rfl, by decide, rfl, fun z => ?_, fun z => ?_⟩⟩
      · rw [if_neg (by rw [z]; decide)] at hq
        exact ih (k + 1) mk w h h29 h9 h8 (by omega) hm hq
      · have z2 : nd k = true := by
          cases hb : nd k with
          | true => rfl
          | false => exact absurd hb z
        have hkl : k < tak.length := by
          apply Classical.byContradiction
          intro y
          rw [hnd k (by omega)] at z2
          cases z2
        rw [if_pos z2] at hq
        rw [h29 k hkl]
        have h63' := h63 k hkl
        refine ⟨rfl, rfl, by decide, rfl, by decide, ⟨rfl, vp_in_nI (N := 17) (by omega) (by omega)⟩, rfl, ?_⟩
        have F : xF x_no (fun p k => p = 21 ∧ k = 2) x_no w (x_sj w 21 2 (x_j w 21 2 ||| lb (tg tak k).1)) := xF_sj xF_rf ⟨rfl, rfl⟩
        have i1 : x_i (x_sj w 21 2 (x_j w 21 2 ||| lb (tg tak k).1)) = x_i w := y_i_sj _ _ _ _
        refine ih (k + 1) (mkS mk [((tg tak k).1 : Int)]) (x_sj w 21 2 (x_j w 21 2 ||| lb (tg tak k).1)) (sh_F F h) (by rw [i1]; exact h29) (by rw [i1]; exact h9) (by rw [i1]; exact h8) (by omega) (fun j hj => ?_) (fun w' u1 u2 => hq w' (xF_tr F u1) (fun j hj => ?_))
        · rw [y_j_sj, if_pos ⟨rfl, rfl⟩]
          exact hc_mark (by omega) hm hj
        · rw [u2 j hj, ← mkS_app]
          rfl
  refine b128_0 (key 17 0 mk w h h29 h9 h8 rfl hm (fun w' u1 u2 => hq w' u1 (fun j hj => ?_)))
  rw [u2 j hj]
  have e : sel nd tak 17 0 = sel nd tak tak.length 0 := by
    have := sel_app (f := nd) (tak := tak) tak.length (17 - tak.length) 0
    rw [show tak.length + (17 - tak.length) = 17 by omega, sel_no (17 - tak.length) (0 + tak.length) (fun i h1 _ => hnd i (by omega)), List.append_nil] at this
    exact this
  rw [e]
/-- noteReasons -/
theorem c129 {pl : Int32} (ht : tak.length ≤ 17) (h : SH w) (h29 : ∀ k, k < tak.length → x_i w 29 k = nI (tg tak k).1) (hp : ∀ i, i < 32 → mm pl i = f i) (hf : ∀ i, tak.length ≤ i → f i = false) (hl : NT.length < 2 ^ 29) (hT : TG 22 w NT)
    (hq : ∀ w', xI (mAd 22) w w' → TG 22 w' (NT ++ sel f tak tak.length 0) → Q (.inl none) w') : x_R x_prog scr 129 0 [some (.ref 21), some (.int pl), o2] [] w Q := by
  have key : ∀ (d k : Nat) (NT : List Int) (w : xW), SH w → (∀ k, k < tak.length → x_i w 29 k = nI (tg tak k).1) → k + d = 17 → NT.length < 2 ^ 29 + k → TG 22 w NT → (∀ w', xI (mAd 22) w w' → TG 22 w' (NT ++ sel f tak d k) → Q (.inl none) w') → x_R x_prog scr 129 2 [some (.ref 21), some (.int pl), some (.int (nI k))] [] w Q := by
    intro d
    induction d with
    | zero =>
      intro k NT w h h29 hk hl hT hq
      have e17 : Int32.ofNat (sh_L 29) = nI 17 := rfl
      refine b129_2 ?_
      rw [sr21_0 h, sr28_4 h, sh_k h, sh_l h, e17]
      refine ⟨rfl, by decide, rfl, by decide, rfl, fun _ => hq w xI_rf (by unfold sel; rw [List.append_nil]; exact hT), fun z => absurd (nI_le (by omega) (by omega)) z⟩
    | succ d ih =>
      intro k NT w h h29 hk hl hT hq
      have e17 : Int32.ofNat (sh_L 29) = nI 17 := rfl
      unfold sel at hq
      refine b129_2 ?_
      rw [sr21_0 h, sr28_4 h, sr21_5 h, sh_k h, sh_l h, e17, mm_bit (show k < 32 by omega), hp k (by omega), nI_clamp (show k < 2 ^ 31 by omega)]
      refine ⟨rfl, by decide, rfl, by decide, rfl, fun z => absurd z (nI_ge (by omega) (by omega)), fun _ => ⟨fun z => b129_38 ?_, fun z => ?_⟩⟩
      · rw [if_neg (by rw [z]; decide)] at hq
        rw [nI_1]
        exact ih (k + 1) NT w h h29 (by omega) (by omega) hT hq
      · have z2 : f k = true := by
          cases hb : f k with
          | true => rfl
          | false => exact absurd hb z
        have hkl : k < tak.length := by
          apply Classical.byContradiction
          intro y
          rw [hf k (by omega)] at z2
          cases z2
        rw [if_pos z2] at hq
        rw [h29 k hkl, ← iI_n (tg tak k).1]
        refine ⟨rfl, by decide, rfl, by decide, rfl, by decide, ⟨rfl, vp_in_nI (N := 17) (by omega) (by omega)⟩, rfl, c78 (by omega) h (by omega) hT (fun w1 u1 u2 => b129_38 ?_)⟩
        rw [nI_1]
        refine ih (k + 1) _ w1 (sh_I u1 h) (fun i hi => (xI_i u1 29 i (by unfold mAd; omega)).trans (h29 i hi)) (by omega) (by rw [List.length_append, List.length_singleton]; omega) u2 (fun w' v1 v2 => hq w' (xI_tr u1 v1) (by rw [List.append_assoc] at v2; exact v2))
  refine b129_0 (key 17 0 NT w h h29 rfl (by omega) hT (fun w' u1 u2 => hq w' u1 ?_))
  have e : sel f tak 17 0 = sel f tak tak.length 0 := by
    have := sel_app (f := f) (tak := tak) tak.length (17 - tak.length) 0
    rw [show tak.length + (17 - tak.length) = 17 by omega, sel_no (17 - tak.length) (0 + tak.length) (fun i h1 _ => hf i (by omega)), List.append_nil] at this
    exact this
  rw [← e]
  exact u2
/-- noteConflict -/
theorem c130 {cf : Nat} (hcf : cf ≤ 63) (h : SH w) (h8 : x_i w 28 8 = nI cf) (hl : NT.length < 2 ^ 30) (hT : TG 22 w NT) (hq : ∀ w', xI (mAd 22) w w' → TG 22 w' (NT ++ cfL cf) → Q (.inl none) w') : x_R x_prog scr 130 0 [some (.ref 21)] [] w Q := by
  have g0 : nI cf = 0 ↔ cf = 0 := by rw [← nI_0]; exact nI_eq (by omega) (by omega)
  unfold cfL at hq
  refine b130_0 ?_
  rw [sr21_0 h, sr21_5 h, sh_k h, h8, g0]
  refine ⟨rfl, by decide, rfl, fun z => b130_24 ?_, fun z => ⟨rfl, by decide, rfl, by decide, rfl, rfl, ?_⟩⟩
  · rw [if_pos z] at hq
    exact hq w xI_rf (by rw [List.append_nil]; exact hT)
  · rw [if_neg z] at hq
    rw [← iI_n]
    exact c78 (by omega) h hl hT (fun w1 u1 u2 => b130_24 (hq w1 u1 u2))
/-- pickCandidate -/
theorem c132 {am : Int64} {wt : Int32} {p : Nat → Bool} (hP : P = 5 ∨ P = 11) (hl : cs.length ≤ 63) (hco : cok cs) (ho : lok o) (h : SH w) (h1 : x_r w 21 1 = P) (h4 : x_i w P 4 = nI cs.length) (hS : ∀ c, c < cs.length → x_i w (P + 3) (c + 1) = mask (cs.getD c [])) (ham : ∀ j, j < 64 → hc am j = p j) (hw : wt = sb (li o))
    (hq : Q (.inl (some (.int (nI (lowA (fun c => p c && decide (o ∈ cg cs c)) cs.length 1))))) w) : x_R x_prog scr 132 0 [some (.ref 21), some (.long am), o2, some (.int wt), o4] [] w Q := by
  subst hw
  have key : ∀ (d c : Nat) (o2 : Option Value), c + d = cs.length + 1 → 1 ≤ c → Q (.inl (some (.int (nI (lowA (fun c => p c && decide (o ∈ cg cs c)) d c))))) w → x_R x_prog scr 132 3 [some (.ref 21), some (.long am), o2, some (.int (sb (li o))), some (.int (nI c))] [] w Q := by
    intro d
    induction d with
    | zero =>
      intro c o2 hc hc1 hq
      refine b132_3 ?_
      rw [h1, pK h hP, h4, sh_k h]
      exact ⟨rfl, by omega, rfl, fun _ => hq, fun z => absurd (nI_lt (by omega) (by omega)) z⟩
    | succ d ih =>
      intro c o2 hc hc1 hq
      have hset : x_i w (P + 3) c = mask (cg cs c) := by
        have := hS (c - 1) (by omega)
        rw [Nat.sub_add_cancel hc1] at this
        exact this
      unfold lowA at hq
      refine b132_3 ?_
      rw [h1, pK h hP, h4, sh_k h]
      refine ⟨rfl, by omega, rfl, fun z => absurd z (nI_nlt (by omega) (by omega)), fun _ => c68 (by omega) (b132_21 ?_)⟩
      rw [ham c (by omega), nI_1]
      have skip : (p c && decide (o ∈ cg cs c)) = false → ∀ o2, x_R x_prog scr 132 3 [some (.ref 21), some (.long am), o2, some (.int (sb (li o))), some (.int (nI (c + 1)))] [] w Q := by
        intro z o2
        rw [if_neg (by rw [z]; decide)] at hq
        exact ih (c + 1) o2 (by omega) (by omega) hq
      cases hpc : p c with
      | false => exact ⟨fun _ => skip (by rw [hpc]; rfl) _, fun z => absurd rfl z⟩
      | true =>
        refine ⟨fun z => absurd z (by decide), fun _ => ?_⟩
        have hmm := mm_in (cg_ok hco c).2.1 ho
        rw [h1, pK h hP, pr8 h hP, (pk3 h hP).1, (pk3 h hP).2, nI_clamp (show c < 2 ^ 31 by omega), hset, and_sb (li_lt ho), sh_k h]
        refine ⟨rfl, by omega, rfl, by omega, ⟨rfl, vp_in_nI (by omega) (by omega)⟩, fun z => skip ?_ _, fun z => ?_⟩
        · rw [hpc, Bool.true_and]
          apply decide_eq_false
          intro y
          rw [hmm.mpr y] at z
          cases z
        · have y : o ∈ cg cs c := hmm.mp (by cases hb : mm (mask (cg cs c)) (li o); exact absurd hb z; rfl)
          rw [if_pos (by rw [hpc, decide_eq_true y]; rfl)] at hq
          exact hq
  exact b132_0 (key cs.length 1 _ (by omega) (by omega) hq)
end X65
