/-! findNeeds, passes of the reference. -/
def nd0 (nv : Nat → Bool) (u : Int) : Bool := decide (u = 0) || nv u.natAbs
/-- needs, by the reference: a conflict, which made nothing true, is needed -/
def ndr (cs : List (List Int)) (tak : xTk) : Nat → (Nat → Bool) → Nat → Bool
  | 0, _ => fun _ => false
  | k + 1, nv => fun i => if i = k then nd0 nv (tg tak k).2 else ndr cs tak k (if nd0 nv (tg tak k).2 = true then nvx nv (cg cs (tg tak k).1) (tg tak k).2 else nv) i
theorem ndr_nds {cs : List (List Int)} {tak tak' : xTk} : ∀ (k : Nat) (nv : Nat → Bool), (∀ j, j < k → tg tak' j = tg tak j ∧ ¬ (tg tak j).2 = 0) → ndr cs tak' k nv = nds cs tak k nv
  | 0, _, _ => rfl
  | k + 1, nv, h => by
    obtain ⟨h1, h2⟩ := h k (by omega)
    have e : nd0 nv (tg tak' k).2 = nv (tg tak k).2.natAbs := by
      unfold nd0
      rw [h1, decide_eq_false h2, Bool.false_or]
    funext i
    unfold ndr nds
    rw [e, h1, ndr_nds k _ (fun j hj => h j (by omega))]
theorem nvx_c (nv : Nat → Bool) (l : Int) (ls : List Int) (u : Int) : nvx nv (l :: ls) u = nvx (nvx nv [l] u) ls u := by
  funext v
  unfold nvx
  rw [List.any_cons, List.any_cons, List.any_nil, Bool.or_false, Bool.or_assoc]
theorem nvx_n (nv : Nat → Bool) (u : Int) : nvx nv [] u = nv := by
  funext v
  unfold nvx
  simp
theorem nvx_0 {cs : List (List Int)} (hco : cok cs) (c : Nat) : nvx nob (cg cs c) 0 = nvc cs c := by
  funext v
  unfold nvx nvc nob
  rw [Bool.false_or, Bool.eq_iff_iff, List.any_eq_true, List.any_eq_true]
  constructor
  · rintro ⟨l, h1, h2⟩
    rw [Bool.and_eq_true] at h2
    exact ⟨l, h1, h2.1⟩
  · rintro ⟨l, h1, h2⟩
    have hk := (cg_ok hco c).2.1 l h1
    have h3 := of_decide_eq_true h2
    refine ⟨l, h1, ?_⟩
    rw [Bool.and_eq_true]
    exact ⟨h2, decide_eq_true (by unfold lok at hk; omega)⟩
/-- a set for any values -/
theorem TM_ex (tv : Nat → Int) : ∃ m, TM tv m := by
  have hall : ∀ n : Nat, n ≤ 16 → ∃ m : Int32, ∀ l, lok l → mm m (li l) = (decide (l.natAbs ≤ n) && decide (0 < vl tv l)) := by
    intro n
    induction n with
    | zero =>
      intro _
      refine ⟨0, fun l hl => ?_⟩
      rw [mm_0, decide_eq_false (by unfold lok at hl; omega), Bool.false_and]
    | succ n ih =>
      intro hn
      obtain ⟨m, hm⟩ := ih (by omega)
      have hk1 : lok ((n : Int) + 1) := by unfold lok; omega
      have hk2 : lok (-((n : Int) + 1)) := lok_neg hk1
      refine ⟨(m ||| (if 0 < vl tv ((n : Int) + 1) then sb (li ((n : Int) + 1)) else 0)) ||| (if 0 < vl tv (-((n : Int) + 1)) then sb (li (-((n : Int) + 1))) else 0), fun l hl => ?_⟩
      rw [mm_or, mm_or, hm l hl]
      have e1 : ∀ x, lok x → mm (if 0 < vl tv x then sb (li x) else 0) (li l) = (decide (x = l) && decide (0 < vl tv x)) := by
        intro x hx
        by_cases hv : 0 < vl tv x
        · rw [if_pos hv, mm_sb _ (li_lt hx) _ (li_lt hl), decide_eq_true hv, Bool.and_true]
          exact decide_eq_decide.mpr (li_inj hx hl)
        · rw [if_neg hv, mm_0, decide_eq_false hv, Bool.and_false]
      rw [e1 _ hk1, e1 _ hk2, Bool.eq_iff_iff]
      simp only [Bool.or_eq_true, Bool.and_eq_true, decide_eq_true_iff]
      constructor
      · rintro ((⟨a1, a2⟩ | ⟨a1, a2⟩) | ⟨a1, a2⟩)
        · exact ⟨by omega, a2⟩
        · rw [a1] at a2; exact ⟨by omega, a2⟩
        · rw [a1] at a2; exact ⟨by omega, a2⟩
      · rintro ⟨a1, a2⟩
        by_cases h1 : l.natAbs ≤ n
        · exact Or.inl (Or.inl ⟨h1, a2⟩)
        · have : (n : Int) + 1 = l ∨ -((n : Int) + 1) = l := by omega
          rcases this with e | e
          · exact Or.inl (Or.inr ⟨e, by rw [e]; exact a2⟩)
          · exact Or.inr ⟨e, by rw [e]; exact a2⟩
  obtain ⟨m, hm⟩ := hall 16 (Nat.le_refl _)
  refine ⟨m, fun l hl => ?_⟩
  rw [hm l hl, decide_eq_true (by unfold lok at hl; omega), Bool.true_and]
section X61
variable {scr : Nat × (Nat → Int32)} {w : xW} {Q : xO → xW → Prop} {w1 : xW} {t : Nat → Nat} {sz P n c g V fa d : Nat} {hf hs : Bool} {al mk sp : Nat → Bool} {tv : Nat → Int} {tak : xTk} {cs : List (List Int)} {st : xSt} {ls tk : List Int} {nv : Nat → Bool} {m : Int32} {o : Int} {o1 o2 o3 o4 o5 o6 o7 : Option Value}
def NV (w : xW) (nv : Nat → Bool) : Prop := ∀ v, v ≤ 16 → x_i w 55 v = b32 (nv v)
theorem NV_I {m : Nat → Nat → Prop} (q : xI m w w1) (h : NV w nv) (hm : ∀ k, ¬ m 55 k) : NV w1 nv := fun v hv => (xI_i q 55 v (hm v)).trans (h v hv)
/-- needNothing -/
theorem c119 (h : SH w) (hq : ∀ w', xI (fun p _ => p = 55) w w' → NV w' nob → Q (.inl none) w') : x_R x_prog scr 119 0 [some (.ref 36), o1] [] w Q := by
  have key : ∀ (d k : Nat) (w : xW), SH w → k + d = 17 → (∀ j, j < k → x_i w 55 j = 0) → (∀ w', xI (fun p _ => p = 55) w w' → (∀ j, j < 17 → x_i w' 55 j = 0) → Q (.inl none) w') → x_R x_prog scr 119 2 [some (.ref 36), some (.int (nI k))] [] w Q := by
    intro d
    induction d with
    | zero =>
      intro k w h hk hz hq
      exact b119_2 ⟨fun _ => hq w xI_rf (fun j hj => hz j (by omega)), fun z => absurd (nI_le (a := 17) (by omega) (by omega)) z⟩
    | succ d ih =>
      intro k w h hk hz hq
      refine b119_2 ⟨fun z => absurd z (nI_ge (b := 17) (by omega) (by omega)), fun _ => ?_⟩
      simp only [sh_k h, sh_l h, sh_n h, kk36, sr36_2 h, sr36_8 h, sr36_9 h, sr36_12 h, sr36_13 h, sr36_14 h, sr36_15 h, sr36_21 h, sr36_22 h, sr36_23 h, sr36_25 h, sr36_27 h, sr36_28 h, sr36_29 h, sr36_30 h, sr36_31 h, sr36_35 h, sr36_36 h, sr36_37 h, sr36_38 h, sr36_40 h, sr36_41 h, sr36_42 h, sr36_44 h, sr36_45 h, sr36_46 h, sr36_47 h, sr36_48 h, sr36_49 h, sr36_51 h, sr36_52 h, sr36_53 h, sr36_54 h, sr36_55 h, kk55, ll55, true_and, and_true, false_and, and_false, and_self, not_false_eq_true, not_true_eq_false, true_implies, false_implies, implies_true, true_or, or_true, or_self, if_true, if_false, Nat.reduceEqDiff, reduceIte, eq_self, nI_1, nI_clamp (show k < 2 ^ 31 by omega), vp_in_nI (show k < 17 by omega) (show 17 < 2 ^ 31 by omega)]
      have F : xI (fun p _ => p = 55) w (x_si w 55 k 0) := xI_si xI_rf rfl
      refine ih (k + 1) _ (sh_I F h) (by omega) (fun j hj => ?_) (fun w' q1 q2 => hq w' (xI_tr F q1) q2)
      rw [y_i_si]
      by_cases e : j = k
      · rw [if_pos ⟨rfl, e⟩]
      · rw [if_neg (by omega)]; exact hz j (by omega)
  exact b119_0 (key 17 0 w h rfl (fun j hj => by omega) (fun w' q1 q2 => hq w' q1 (fun v hv => q2 v (by omega))))
/-- the literals of a clause that is needed -/
theorem c121_i {k c : Nat} {u : Int} (hk : k < 60) (hc : c < 64) (hls : cl1 ls) : ∀ (d i : Nat) (nv : Nat → Bool) (w : xW) (o4 : Option Value), SH w → RC w c ls → i + d = ls.length → x_i w 54 k = nI u.natAbs → u.natAbs ≤ 16 → x_i w 56 k = 1 → NV w nv → (∀ w' a2 a3 a4, xI (fun p _ => p = 55) w w' → NV w' (nvx nv (ls.drop i) u) → x_R x_prog scr 121 7 [some (.ref 36), some (.int (nI k + (-1))), a2, a3, a4] [] w' Q) →
    x_R x_prog scr 121 54 [some (.ref 36), some (.int (nI k)), some (.int (nI c)), some (.int (nI i)), o4] [] w Q := by
  have hl6 := hls.1
  intro d
  induction d with
  | zero =>
    intro i nv w o4 h hR hi h54 hu h56 hN hq
    refine b121_54 ?_
    simp only [sh_k h, sh_l h, sh_n h, kk36, sr36_2 h, sr36_8 h, sr36_9 h, sr36_12 h, sr36_13 h, sr36_14 h, sr36_15 h, sr36_21 h, sr36_22 h, sr36_23 h, sr36_25 h, sr36_27 h, sr36_28 h, sr36_29 h, sr36_30 h, sr36_31 h, sr36_35 h, sr36_36 h, sr36_37 h, sr36_38 h, sr36_40 h, sr36_41 h, sr36_42 h, sr36_44 h, sr36_45 h, sr36_46 h, sr36_47 h, sr36_48 h, sr36_49 h, sr36_51 h, sr36_52 h, sr36_53 h, sr36_54 h, sr36_55 h, kk39, ll39, nI_clamp (show c < 2 ^ 31 by omega), hR.1, true_and, and_true, false_and, and_false, and_self, not_false_eq_true, not_true_eq_false, true_implies, false_implies, implies_true, true_or, or_true, or_self, if_true, if_false, Nat.reduceEqDiff, reduceIte, eq_self, vp_in_nI (show c < 64 by omega) (show 64 < 2 ^ 31 by omega)]
    rw [List.drop_eq_nil_of_le (by omega), nvx_n] at hq
    exact ⟨fun _ => hq w _ _ _ xI_rf hN, fun z => absurd (nI_le (by omega) (by omega)) z⟩
  | succ d ih =>
    intro i nv w o4 h hR hi h54 hu h56 hN hq
    have hil : i < ls.length := by omega
    have hlk := lok_getD hls.2.1 hil
    have hlk' := hlk
    unfold lok at hlk'
    have e6 : (6 : Int32) * nI c + nI i = nI (6 * c + i) := by rw [show (6 : Int32) = nI 6 from rfl, pk_mul, nI_add]
    have n1 : ¬ (1 : Int32) = 0 := by decide
    rw [drop_c ls hil, nvx_c] at hq
    have hl2 := hR.2 i hil
    generalize ls.getD i 0 = l at *
    refine b121_54 ?_
    simp only [sh_k h, sh_l h, sh_n h, kk36, sr36_2 h, sr36_8 h, sr36_9 h, sr36_12 h, sr36_13 h, sr36_14 h, sr36_15 h, sr36_21 h, sr36_22 h, sr36_23 h, sr36_25 h, sr36_27 h, sr36_28 h, sr36_29 h, sr36_30 h, sr36_31 h, sr36_35 h, sr36_36 h, sr36_37 h, sr36_38 h, sr36_40 h, sr36_41 h, sr36_42 h, sr36_44 h, sr36_45 h, sr36_46 h, sr36_47 h, sr36_48 h, sr36_49 h, sr36_51 h, sr36_52 h, sr36_53 h, sr36_54 h, sr36_55 h, kk38, ll38, kk39, ll39, kk56, ll56, nI_clamp (show c < 2 ^ 31 by omega), nI_clamp (show k < 2 ^ 31 by omega), hR.1, true_and, and_true, false_and, and_false, and_self, not_false_eq_true, not_true_eq_false, true_implies, false_implies, implies_true, true_or, or_true, or_self, if_true, if_false, Nat.reduceEqDiff, reduceIte, eq_self, vp_in_nI (show c < 64 by omega) (show 64 < 2 ^ 31 by omega), vp_in_nI (show k < 60 by omega) (show 60 < 2 ^ 31 by omega), h56, n1, e6, nI_clamp (show 6 * c + i < 2 ^ 31 by omega), vp_in_nI (show 6 * c + i < 384 by omega) (show 384 < 2 ^ 31 by omega)]
    refine ⟨fun z => absurd z (nI_ge (by omega) (by omega)), fun _ => ?_⟩
    rw [hl2]
    refine c53 (by omega) (b121_87 ?_)
    have ge : nI l.natAbs = nI u.natAbs ↔ l.natAbs = u.natAbs := nI_eq (by omega) (by omega)
    simp only [sh_k h, sh_l h, sh_n h, kk36, sr36_2 h, sr36_8 h, sr36_9 h, sr36_12 h, sr36_13 h, sr36_14 h, sr36_15 h, sr36_21 h, sr36_22 h, sr36_23 h, sr36_25 h, sr36_27 h, sr36_28 h, sr36_29 h, sr36_30 h, sr36_31 h, sr36_35 h, sr36_36 h, sr36_37 h, sr36_38 h, sr36_40 h, sr36_41 h, sr36_42 h, sr36_44 h, sr36_45 h, sr36_46 h, sr36_47 h, sr36_48 h, sr36_49 h, sr36_51 h, sr36_52 h, sr36_53 h, sr36_54 h, sr36_55 h, kk54, ll54, kk55, ll55, true_and, and_true, false_and, and_false, and_self, not_false_eq_true, not_true_eq_false, true_implies, false_implies, implies_true, true_or, or_true, or_self, if_true, if_false, Nat.reduceEqDiff, reduceIte, eq_self, nI_clamp (show l.natAbs < 2 ^ 31 by omega), nI_clamp (show k < 2 ^ 31 by omega), vp_in_nI (show l.natAbs < 17 by omega) (show 17 < 2 ^ 31 by omega), vp_in_nI (show k < 60 by omega) (show 60 < 2 ^ 31 by omega), hN l.natAbs (by omega), h54, ge, nI_1]
    have next : ∀ (v : Int32) (o4 : Option Value), v = b32 (nvx nv [l] u l.natAbs) → x_R x_prog scr 121 54 [some (.ref 36), some (.int (nI k)), some (.int (nI c)), some (.int (nI (i + 1))), o4] [] (x_si w 55 l.natAbs v) Q := by
      intro v o4 hv
      have F : xI (fun p _ => p = 55) w (x_si w 55 l.natAbs v) := xI_si xI_rf rfl
      refine ih (i + 1) (nvx nv [l] u) _ _ (sh_I F h) (RC_I F hR (by omega) (by omega)) (by omega) ((xI_i F 54 k (by omega)).trans h54) hu ((xI_i F 56 k (by omega)).trans h56) (fun v' hv' => ?_) (fun w' a2 a3 a4 u1 u2 => hq w' a2 a3 a4 (xI_tr F u1) u2)
      rw [y_i_si]
      by_cases e : v' = l.natAbs
      · rw [if_pos ⟨rfl, e⟩, hv, e]
      · rw [if_neg (fun z => e z.2), hN v' hv']
        unfold nvx
        rw [List.any_cons, List.any_nil, decide_eq_false (show ¬ l.natAbs = v' from fun z => e z.symm), Bool.false_and, Bool.or_false, Bool.or_false]
    refine ⟨fun z => next _ _ ?_, fun z => ⟨fun y => next _ _ ?_, fun y => next _ _ ?_⟩⟩
    · unfold nvx
      cases hb : nv l.natAbs with
      | true => rfl
      | false => rw [hb] at z; exact absurd rfl z
    · unfold nvx
      cases hb : nv l.natAbs with
      | true => rw [hb] at z; exact absurd (by decide) z
      | false => simp [y]; rfl
    · unfold nvx
      cases hb : nv l.natAbs with
      | true => rfl
      | false => simp [y]; rfl
/-- findNeeds -/
theorem c121_l (hco : cok cs) (hl : cs.length ≤ 63) (htk : tak.length ≤ 17) (hIc : ∀ k, k < tak.length → 1 ≤ (tg tak k).1 ∧ (tg tak k).1 ≤ cs.length ∧ (tg tak k).2.natAbs ≤ 16) : ∀ (k : Nat) (nv : Nat → Bool) (w : xW) (o2 o3 o4 : Option Value), SH w → RK w tak → (∀ c, c < cs.length → RC w (c + 1) (cs.getD c [])) → k ≤ tak.length → NV w nv → (∀ w', xI (fun p _ => p = 55 ∨ p = 56) w w' → (∀ i, i < k → x_i w' 56 i = b32 (ndr cs tak k nv i)) → (∀ i, k ≤ i → x_i w' 56 i = x_i w 56 i) → Q (.inl none) w') →
    x_R x_prog scr 121 7 [some (.ref 36), some (.int (nI k + (-1))), o2, o3, o4] [] w Q := by
  intro k
  induction k with
  | zero =>
    intro nv w o2 o3 o4 h hK hR hk hN hq
    exact b121_7 ⟨fun _ => hq w xI_rf (fun i hi => by omega) (fun _ _ => rfl), fun z => absurd (by decide) z⟩
  | succ k ih =>
    intro nv w o2 o3 o4 h hK hR hk hN hq
    obtain ⟨i1, i2, i3⟩ := hIc k (by omega)
    obtain ⟨b1, b2⟩ := hK.2 k (by omega)
    have hRc : RC w (tg tak k).1 (cg cs (tg tak k).1) := by
      have := hR ((tg tak k).1 - 1) (by omega)
      rw [Nat.sub_add_cancel i1] at this
      exact this
    have hcl := cg_ok hco (tg tak k).1
    have hl6 := hcl.1
    have g0 : nI (tg tak k).2.natAbs = 0 ↔ (tg tak k).2 = 0 := by rw [← nI_0, nI_eq (by omega) (by omega)]; omega
    have e35 : ∀ v, x_i (x_si w 56 k v) 53 k = nI (tg tak k).1 := fun v => by rw [y_i_si, if_neg (by omega)]; exact b1
    have v60 : vp_in (nI k) 60 := vp_in_nI (by omega) (by omega)
    rw [pk_m1]
    refine b121_7 ⟨fun z => absurd z (nI_pos (by omega)), fun _ => ?_⟩
    simp only [sh_k h, sh_l h, sh_n h, kk36, sr36_2 h, sr36_8 h, sr36_9 h, sr36_12 h, sr36_13 h, sr36_14 h, sr36_15 h, sr36_21 h, sr36_22 h, sr36_23 h, sr36_25 h, sr36_27 h, sr36_28 h, sr36_29 h, sr36_30 h, sr36_31 h, sr36_35 h, sr36_36 h, sr36_37 h, sr36_38 h, sr36_40 h, sr36_41 h, sr36_42 h, sr36_44 h, sr36_45 h, sr36_46 h, sr36_47 h, sr36_48 h, sr36_49 h, sr36_51 h, sr36_52 h, sr36_53 h, sr36_54 h, sr36_55 h, kk53, ll53, kk54, ll54, kk55, ll55, kk56, ll56, true_and, and_true, false_and, and_false, and_self, not_false_eq_true, not_true_eq_false, true_implies, false_implies, implies_true, true_or, or_true, or_self, if_true, if_false, Nat.reduceEqDiff, reduceIte, eq_self, nI_clamp (show k < 2 ^ 31 by omega), v60, b2, g0, e35, nI_clamp (show (tg tak k).2.natAbs < 2 ^ 31 by omega), vp_in_nI (show (tg tak k).2.natAbs < 17 by omega) (show 17 < 2 ^ 31 by omega), hN (tg tak k).2.natAbs i3]
    have fin : ∀ (w' : xW) (nv' : Nat → Bool) (b : Bool), xI (fun p _ => p = 55 ∨ p = 56) w w' → b = nd0 nv (tg tak k).2 → x_i w' 56 k = b32 b → (∀ i, ¬ i = k → x_i w' 56 i = x_i w 56 i) → NV w' nv' → nv' = (if b = true then nvx nv (cg cs (tg tak k).1) (tg tak k).2 else nv) → ∀ a2 a3 a4, x_R x_prog scr 121 7 [some (.ref 36), some (.int (nI k + (-1))), a2, a3, a4] [] w' Q := by
      intro w' nv' b F hb h56 ho hN' hnv a2 a3 a4
      refine ih nv' w' a2 a3 a4 (sh_I F h) (RK_I F hK (by omega) (by omega) (by omega)) (fun c hc => RC_I F (hR c hc) (by omega) (by omega)) (by omega) hN' (fun w'' u1 u2 u3 => hq w'' (xI_tr F u1) (fun i hi => ?_) (fun i hi => (u3 i (by omega)).trans (ho i (by omega))))
      show x_i w'' 56 i = b32 (if i = k then nd0 nv (tg tak k).2 else ndr cs tak k (if nd0 nv (tg tak k).2 = true then nvx nv (cg cs (tg tak k).1) (tg tak k).2 else nv) i)
      by_cases e : i = k
      · rw [if_pos e, e, u3 k (Nat.le_refl _), h56, hb]
      · rw [if_neg e, u2 i (by omega), hnv, hb]
    have yes : nd0 nv (tg tak k).2 = true → ∀ o4, x_R x_prog scr 121 54 [some (.ref 36), some (.int (nI k)), some (.int (nI (tg tak k).1)), some (.int 0), o4] [] (x_si w 56 k 1) Q := by
      intro hb o4
      have F : xI (fun p k' => p = 56 ∧ k' = k) w (x_si w 56 k 1) := xI_si xI_rf ⟨rfl, rfl⟩
      refine c121_i (u := (tg tak k).2) (by omega) (by omega) hcl (cg cs (tg tak k).1).length 0 nv _ _ (sh_I F h) (RC_I F hRc (by omega) (by omega)) (by omega) ((xI_i F 54 k (by omega)).trans b2) i3 (by rw [y_i_si, if_pos ⟨rfl, rfl⟩]) (NV_I F hN (by omega)) (fun w' a2 a3 a4 u1 u2 => fin w' _ true (xI_tr (xI_w F (by omega)) (xI_w u1 (by omega))) hb.symm ?_ (fun i hi => ?_) u2 (by rw [if_pos rfl]; rfl) a2 a3 a4)
      · rw [xI_i u1 56 k (by omega), y_i_si, if_pos ⟨rfl, rfl⟩]; rfl
      · rw [xI_i u1 56 i (by omega), y_i_si, if_neg (by omega)]
    have no : nd0 nv (tg tak k).2 = false → ∀ o4, x_R x_prog scr 121 54 [some (.ref 36), some (.int (nI k)), some (.int (nI (tg tak k).1)), some (.int 0), o4] [] (x_si w 56 k 0) Q := by
      intro hb o4
      have F : xI (fun p k' => p = 56 ∧ k' = k) w (x_si w 56 k 0) := xI_si xI_rf ⟨rfl, rfl⟩
      have h1 := sh_I F h
      have e56 : x_i (x_si w 56 k 0) 56 k = 0 := by rw [y_i_si, if_pos ⟨rfl, rfl⟩]
      have go := fin (x_si w 56 k 0) nv false (xI_w F (by omega)) hb.symm e56 (fun i hi => by rw [y_i_si, if_neg (by omega)]) (NV_I F hN (by omega)) rfl
      refine b121_54 ?_
      simp only [sh_k h1, sh_l h1, sh_n h1, kk36, sr36_2 h1, sr36_8 h1, sr36_9 h1, sr36_12 h1, sr36_13 h1, sr36_14 h1, sr36_15 h1, sr36_21 h1, sr36_22 h1, sr36_23 h1, sr36_25 h1, sr36_27 h1, sr36_28 h1, sr36_29 h1, sr36_30 h1, sr36_31 h1, sr36_35 h1, sr36_36 h1, sr36_37 h1, sr36_38 h1, sr36_40 h1, sr36_41 h1, sr36_42 h1, sr36_44 h1, sr36_45 h1, sr36_46 h1, sr36_47 h1, sr36_48 h1, sr36_49 h1, sr36_51 h1, sr36_52 h1, sr36_53 h1, sr36_54 h1, sr36_55 h1, kk39, ll39, kk56, ll56, true_and, and_true, false_and, and_false, and_self, not_false_eq_true, not_true_eq_false, true_implies, false_implies, implies_true, true_or, or_true, or_self, if_true, if_false, Nat.reduceEqDiff, reduceIte, eq_self, nI_clamp (show (tg tak k).1 < 2 ^ 31 by omega), nI_clamp (show k < 2 ^ 31 by omega), vp_in_nI (show (tg tak k).1 < 64 by omega) (show 64 < 2 ^ 31 by omega), v60, e56]
      exact ⟨fun _ => go _ _ _, fun _ => go _ _ _⟩
    refine ⟨fun z => yes (by unfold nd0; rw [decide_eq_true z]; rfl) _, fun z => ⟨fun y => no ?_ _, fun y => yes ?_ _⟩⟩
    · unfold nd0
      rw [decide_eq_false z, Bool.false_or]
      cases hb : nv (tg tak k).2.natAbs with
      | false => rfl
      | true => rw [hb] at y; exact absurd y (by decide)
    · unfold nd0
      rw [decide_eq_false z, Bool.false_or]
      cases hb : nv (tg tak k).2.natAbs with
      | true => rfl
      | false => rw [hb] at y; exact absurd rfl y
theorem c121 (hco : cok cs) (hl : cs.length ≤ 63) (htk : tak.length ≤ 17) (hIc : ∀ k, k < tak.length → 1 ≤ (tg tak k).1 ∧ (tg tak k).1 ≤ cs.length ∧ (tg tak k).2.natAbs ≤ 16) (h : SH w) (hK : RK w tak) (hR : ∀ c, c < cs.length → RC w (c + 1) (cs.getD c [])) (hN : NV w nv) (hq : ∀ w', xI (fun p _ => p = 55 ∨ p = 56) w w' → (∀ i, i < tak.length → x_i w' 56 i = b32 (ndr cs tak tak.length nv i)) → Q (.inl none) w') : x_R x_prog scr 121 0 [some (.ref 36), o1, o2, o3, o4] [] w Q := by
  refine b121_0 ⟨by rw [sh_k h]; rfl, ?_⟩
  rw [hK.1, Int32.sub_eq_add_neg]
  exact c121_l hco hl htk hIc tak.length nv w _ _ _ h hK hR (Nat.le_refl _) hN (fun w' u1 u2 _ => hq w' u1 u2)
/-- firstTrue of the reference -/
theorem c120_l (hls : cl1 ls) (hd : d < 64) (ho : lok o) (ht : tok tv) (h : SH w) (hR : RC w d ls) (hV : VT w tv) : ∀ (e k : Nat) (o4 : Option Value), k + e = ls.length → Q (.inl (some (.int (iI (ft tv (ls.drop k) o))))) w → x_R x_prog scr 120 2 [some (.ref 36), some (.int (nI d)), some (.int (iI o)), some (.int (nI k)), o4] [] w Q := by
  have hl6 := hls.1
  intro e
  induction e with
  | zero =>
    intro k o4 hk hq
    refine b120_2 ?_
    simp only [sh_k h, sh_l h, sh_n h, kk36, sr36_2 h, sr36_8 h, sr36_9 h, sr36_12 h, sr36_13 h, sr36_14 h, sr36_15 h, sr36_21 h, sr36_22 h, sr36_23 h, sr36_25 h, sr36_27 h, sr36_28 h, sr36_29 h, sr36_30 h, sr36_31 h, sr36_35 h, sr36_36 h, sr36_37 h, sr36_38 h, sr36_40 h, sr36_41 h, sr36_42 h, sr36_44 h, sr36_45 h, sr36_46 h, sr36_47 h, sr36_48 h, sr36_49 h, sr36_51 h, sr36_52 h, sr36_53 h, sr36_54 h, sr36_55 h, kk39, ll39, nI_clamp (show d < 2 ^ 31 by omega), hR.1, true_and, and_true, false_and, and_false, and_self, not_false_eq_true, not_true_eq_false, true_implies, false_implies, implies_true, true_or, or_true, or_self, if_true, if_false, Nat.reduceEqDiff, reduceIte, eq_self, vp_in_nI (show d < 64 by omega) (show 64 < 2 ^ 31 by omega)]
    rw [List.drop_eq_nil_of_le (by omega)] at hq
    exact ⟨fun _ => hq, fun z => absurd (nI_le (by omega) (by omega)) z⟩
  | succ e ih =>
    intro k o4 hk hq
    have hkl : k < ls.length := by omega
    have hlk := lok_getD hls.2.1 hkl
    have hlk' := hlk
    have ho' := ho
    unfold lok at hlk' ho'
    have e6 : (6 : Int32) * nI d + nI k = nI (6 * d + k) := by rw [show (6 : Int32) = nI 6 from rfl, pk_mul, nI_add]
    rw [drop_c ls hkl, ft_cons] at hq
    have hl2 := hR.2 k hkl
    generalize ls.getD k 0 = l at *
    have hvr := vl_rg ht l
    have ge : iI l = iI o ↔ l = o := iI_eq (by omega) (by omega) (by omega) (by omega)
    refine b120_2 ?_
    simp only [sh_k h, sh_l h, sh_n h, kk36, sr36_2 h, sr36_8 h, sr36_9 h, sr36_12 h, sr36_13 h, sr36_14 h, sr36_15 h, sr36_21 h, sr36_22 h, sr36_23 h, sr36_25 h, sr36_27 h, sr36_28 h, sr36_29 h, sr36_30 h, sr36_31 h, sr36_35 h, sr36_36 h, sr36_37 h, sr36_38 h, sr36_40 h, sr36_41 h, sr36_42 h, sr36_44 h, sr36_45 h, sr36_46 h, sr36_47 h, sr36_48 h, sr36_49 h, sr36_51 h, sr36_52 h, sr36_53 h, sr36_54 h, sr36_55 h, kk38, ll38, kk39, ll39, nI_clamp (show d < 2 ^ 31 by omega), hR.1, true_and, and_true, false_and, and_false, and_self, not_false_eq_true, not_true_eq_false, true_implies, false_implies, implies_true, true_or, or_true, or_self, if_true, if_false, Nat.reduceEqDiff, reduceIte, eq_self, vp_in_nI (show d < 64 by omega) (show 64 < 2 ^ 31 by omega), e6, nI_clamp (show 6 * d + k < 2 ^ 31 by omega), vp_in_nI (show 6 * d + k < 384 by omega) (show 384 < 2 ^ 31 by omega), hl2, ge, nI_1]
    refine ⟨fun z => absurd z (nI_ge (by omega) (by omega)), fun _ => ⟨fun z => ?_, fun z => c106 hlk h ht hV (b120_37 ?_)⟩⟩
    · rw [if_neg (fun y => y.1 z)] at hq
      exact ih (k + 1) _ (by omega) hq
    · have g0 : iI (vl tv l) ≤ 0 ↔ ¬ 0 < vl tv l := by rw [Int32.le_iff_toInt_le, iI_toInt (by omega) (by omega)]; show _ ≤ (0 : Int) ↔ _; omega
      rw [g0, nI_1]
      refine ⟨fun y => ?_, fun y => ?_⟩
      · rw [if_neg (fun x => y x.2)] at hq
        exact ih (k + 1) _ (by omega) hq
      · rw [if_pos ⟨z, Classical.not_not.mp y⟩] at hq
        exact hq
/-- the opposites of a candidate's other literals -/
theorem c118_o (hls : cl1 ls) (hd : d < 64) (ho : lok o) : ∀ (e k : Nat) (tv : Nat → Int) (w : xW) (o3 o5 : Option Value), SH w → RC w d ls → VT w tv → tok tv → k + e = ls.length →
    (∀ w' o4, xI (fun p _ => p = 51) w w' → VT w' (tvo tv (ls.drop k) o) → x_R x_prog scr 103 0 [some (.ref 36), none, none] [] w' (x_back x_prog 118 88 91 [some (.ref 36), some (.int (nI d)), some (.int (iI o)), none, some (.int o4), none] [] (fun pc L st w => x_R x_prog scr 118 pc L st w Q))) →
    x_R x_prog scr 118 34 [some (.ref 36), some (.int (nI d)), some (.int (iI o)), o3, some (.int (nI k)), o5] [] w Q := by
  have hl6 := hls.1
  intro e
  induction e with
  | zero =>
    intro k tv w o3 o5 h hR hV ht hk hq
    refine b118_34 ?_
    simp only [sh_k h, sh_l h, sh_n h, kk36, sr36_2 h, sr36_8 h, sr36_9 h, sr36_12 h, sr36_13 h, sr36_14 h, sr36_15 h, sr36_21 h, sr36_22 h, sr36_23 h, sr36_25 h, sr36_27 h, sr36_28 h, sr36_29 h, sr36_30 h, sr36_31 h, sr36_35 h, sr36_36 h, sr36_37 h, sr36_38 h, sr36_40 h, sr36_41 h, sr36_42 h, sr36_44 h, sr36_45 h, sr36_46 h, sr36_47 h, sr36_48 h, sr36_49 h, sr36_51 h, sr36_52 h, sr36_53 h, sr36_54 h, sr36_55 h, kk39, ll39, nI_clamp (show d < 2 ^ 31 by omega), hR.1, true_and, and_true, false_and, and_false, and_self, not_false_eq_true, not_true_eq_false, true_implies, false_implies, implies_true, true_or, or_true, or_self, if_true, if_false, Nat.reduceEqDiff, reduceIte, eq_self, vp_in_nI (show d < 64 by omega) (show 64 < 2 ^ 31 by omega)]
    rw [List.drop_eq_nil_of_le (by omega)] at hq
    exact ⟨fun _ => hq w _ xI_rf hV, fun z => absurd (nI_le (by omega) (by omega)) z⟩
  | succ e ih =>
    intro k tv w o3 o5 h hR hV ht hk hq
    have hkl : k < ls.length := by omega
    have hlk := lok_getD hls.2.1 hkl
    have hlk' := hlk
    have ho' := ho
    unfold lok at hlk' ho'
    have e6 : (6 : Int32) * nI d + nI k = nI (6 * d + k) := by rw [show (6 : Int32) = nI 6 from rfl, pk_mul, nI_add]
    have ed := drop_c ls hkl
    have hl2 := hR.2 k hkl
    generalize ls.getD k 0 = l at *
    have hvr := vl_rg ht l
    have ge : iI l = iI o ↔ l = o := iI_eq (by omega) (by omega) (by omega) (by omega)
    have et : tvo tv (ls.drop k) o = tvo (if ¬ l = o ∧ vl tv l = 0 then setT tv (-l) else tv) (ls.drop (k + 1)) o := by rw [ed]; rfl
    rw [et] at hq
    have stay : ¬ (¬ l = o ∧ vl tv l = 0) → ∀ o3 o5, x_R x_prog scr 118 81 [some (.ref 36), some (.int (nI d)), some (.int (iI o)), o3, some (.int (nI k)), o5] [] w Q := by
      intro z o3 o5
      rw [if_neg z] at hq
      refine b118_81 ?_
      rw [nI_1]
      exact ih (k + 1) tv w _ _ h hR hV ht (by omega) hq
    refine b118_34 ?_
    simp only [sh_k h, sh_l h, sh_n h, kk36, sr36_2 h, sr36_8 h, sr36_9 h, sr36_12 h, sr36_13 h, sr36_14 h, sr36_15 h, sr36_21 h, sr36_22 h, sr36_23 h, sr36_25 h, sr36_27 h, sr36_28 h, sr36_29 h, sr36_30 h, sr36_31 h, sr36_35 h, sr36_36 h, sr36_37 h, sr36_38 h, sr36_40 h, sr36_41 h, sr36_42 h, sr36_44 h, sr36_45 h, sr36_46 h, sr36_47 h, sr36_48 h, sr36_49 h, sr36_51 h, sr36_52 h, sr36_53 h, sr36_54 h, sr36_55 h, kk38, ll38, kk39, ll39, nI_clamp (show d < 2 ^ 31 by omega), hR.1, true_and, and_true, false_and, and_false, and_self, not_false_eq_true, not_true_eq_false, true_implies, false_implies, implies_true, true_or, or_true, or_self, if_true, if_false, Nat.reduceEqDiff, reduceIte, eq_self, vp_in_nI (show d < 64 by omega) (show 64 < 2 ^ 31 by omega), e6, nI_clamp (show 6 * d + k < 2 ^ 31 by omega), vp_in_nI (show 6 * d + k < 384 by omega) (show 384 < 2 ^ 31 by omega), hl2, ge]
    refine ⟨fun z => absurd z (nI_ge (by omega) (by omega)), fun _ => ⟨fun z => stay (fun y => y.1 z) _ _, fun z => c106 hlk h ht hV (b118_71 ?_)⟩⟩
    have g0 : iI (vl tv l) = 0 ↔ vl tv l = 0 := iI_eq (b := 0) (by omega) (by omega) (by omega) (by omega)
    rw [g0, iI_ng (by omega) (by omega)]
    refine ⟨fun y => stay (fun x => y x.2) _ _, fun y => ⟨by rw [sh_k h]; rfl, c107 (lok_neg hlk) h hV (fun w2 u1 u2 => b118_81 ?_)⟩⟩
    rw [if_pos ⟨z, Classical.not_not.mp y⟩] at hq
    rw [nI_1]
    exact ih (k + 1) (setT tv (-l)) w2 _ _ (sh_I u1 h) (RC_I u1 hR (by omega) (by omega)) u2 (tok_set ht _) (by omega) (fun w' o4 v1 v2 => hq w' o4 (xI_tr u1 v1) v2)
def mPs : Nat → Nat → Prop := fun p k => (p = 36 ∧ (k = 32 ∨ k = 33 ∨ k = 34)) ∨ p = 51 ∨ p = 53 ∨ p = 54 ∨ p = 55 ∨ p = 56
/-- the clauses taken by the end of passes -/
def tkF (cs : List (List Int)) (al mk : Nat → Bool) (tv : Nat → Int) (tak : xTk) (o : Int) (d : Nat) : xTk := if (wst cs al mk tv tak o d).2.2.1 = 0 then (wst cs al mk tv tak o d).2.1 else (wst cs al mk tv tak o d).2.1 ++ [((wst cs al mk tv tak o d).2.2.1, 0)]
/-- passes -/
theorem c118 (hd1 : 1 ≤ d) (hd2 : d ≤ cs.length) (ho : lok o) (ht : tok tv) (hI : TI cs tv tak) (h : SH w) (hG : RG w cs al mk) (hV : VT w tv) (hK : RK w tak)
    (hq : ∀ w', xI mPs w w' → RK w' (tkF cs al mk tv tak o d) → ((wst cs al mk tv tak o d).1 = true → ∀ k, k < (tkF cs al mk tv tak o d).length → x_i w' 56 k = b32 (if k = (wst cs al mk tv tak o d).2.1.length then true else (wst cs al mk tv tak o d).2.2.2 k)) → Q (.inl (some (.int (b32 (wst cs al mk tv tak o d).1)))) w') : x_R x_prog scr 118 0 [some (.ref 36), some (.int (nI d)), some (.int (iI o)), o3, o4, o5] [] w Q := by
  have h16 := TI_16 hI
  have hl63 := hG.2.1
  have hco := hG.2.2.1
  have hcl := cg_ok hco d
  have ho' := ho
  unfold lok at ho'
  refine b118_0 ⟨by rw [sh_k h]; rfl, c119 h (fun w1 u1 u2 => b118_4 ?_)⟩
  have h1 := sh_I u1 h
  have G1 := RG_I u1 hG (by omega) (by omega) (by omega) (by omega) (by omega)
  have V1 := VT_I u1 hV (by omega)
  have K1 := RK_I u1 hK (by omega) (by omega) (by omega)
  have R1 := RG_RC G1 hd1 hd2
  refine ⟨by rw [sh_k h1]; rfl, b120_0 (c120_l hcl (by omega) ho ht h1 R1 V1 (cg cs d).length 0 _ (by omega) (b118_10 ?_))⟩
  have ed0 : (cg cs d).drop 0 = cg cs d := rfl
  rw [ed0]
  have hfr : ft tv (cg cs d) o = 0 ∨ lok (ft tv (cg cs d) o) := by
    by_cases z : ft tv (cg cs d) o = 0
    · exact Or.inl z
    · exact Or.inr (hcl.2.1 _ (ft_in z).1)
  have g0 : iI (ft tv (cg cs d) o) = 0 ↔ ft tv (cg cs d) o = 0 := by
    rcases hfr with e | e
    · rw [e]; exact ⟨fun _ => rfl, fun _ => rfl⟩
    · unfold lok at e; exact iI_eq (b := 0) (by omega) (by omega) (by omega) (by omega)
  have F1 : xI mPs w w1 := xI_w u1 (by unfold mPs; omega)
  rw [g0]
  refine ⟨fun z => ?_, fun z => ?_⟩
  · have ew : wst cs al mk tv tak o d = (decide (¬ (prg cs al mk (17 - tak.length) (tvo tv (cg cs d) o) tak).2.2 = 0), (prg cs al mk (17 - tak.length) (tvo tv (cg cs d) o) tak).2.1, (prg cs al mk (17 - tak.length) (tvo tv (cg cs d) o) tak).2.2, nds cs (prg cs al mk (17 - tak.length) (tvo tv (cg cs d) o) tak).2.1 (prg cs al mk (17 - tak.length) (tvo tv (cg cs d) o) tak).2.1.length (nvc cs (prg cs al mk (17 - tak.length) (tvo tv (cg cs d) o) tak).2.2)) := by unfold wst; rw [if_pos z]
    have ek : tkF cs al mk tv tak o d = rtk (prg cs al mk (17 - tak.length) (tvo tv (cg cs d) o) tak) := by unfold tkF rtk; rw [ew]
    rw [ek, ew] at hq
    -- a mask that stands for the values
    obtain ⟨m0, hm0⟩ : ∃ m, TM tv m := TM_ex tv
    obtain ⟨v1, -, v3⟩ := tvo_ok hcl ho ht hm0 z
    refine c118_o hcl (by omega) ho (cg cs d).length 0 tv w1 _ _ h1 R1 V1 ht (by omega) (fun w2 o4' x1 x2 => ?_)
    have h2 := sh_I x1 h1
    have G2 := RG_I x1 G1 (by omega) (by omega) (by omega) (by omega) (by omega)
    have K2 := RK_I x1 K1 (by omega) (by omega) (by omega)
    have N2 := NV_I x1 u2 (by omega)
    refine c103 (d := 17 - tak.length) h2 G2 x2 K2 v1 (TI_mono hco hI v3) (by omega) (fun w3 y1 y2 y3 y4 y5 y6 y7 => b118_91 ?_)
    have hr : (prg cs al mk (17 - tak.length) (tvo tv ((cg cs d).drop 0) o) tak) = (prg cs al mk (17 - tak.length) (tvo tv (cg cs d) o) tak) := rfl
    rw [hr] at y2 y3 y4 y5 y6 y7
    generalize hre : prg cs al mk (17 - tak.length) (tvo tv (cg cs d) o) tak = r at *
    have h3 := sh_I y1 h2
    have F3 : xI mPs w w3 := xI_tr F1 (xI_tr (xI_w x1 (by unfold mPs; omega)) (xI_w y1 (by unfold mPr mPs; omega)))
    have G3 := RG_I y1 G2 (by unfold mPr; omega) (by unfold mPr; omega) (by unfold mPr; omega) (by unfold mPr; omega) (by unfold mPr; omega)
    have N3 := NV_I y1 N2 (by unfold mPr; omega)
    have h16' := TI_16 y6
    have hlr : (rtk r).length ≤ 17 := by unfold rtk; split; omega; simp; omega
    have hIc : ∀ k, k < (rtk r).length → 1 ≤ (tg (rtk r) k).1 ∧ (tg (rtk r) k).1 ≤ cs.length ∧ (tg (rtk r) k).2.natAbs ≤ 16 := by
      intro k hk
      unfold rtk at hk ⊢
      split at hk
      · rename_i e0
        rw [if_pos e0]
        obtain ⟨a1, a2, a3, -⟩ := y6.1 k hk
        unfold lok at a3
        exact ⟨a1, a2, by omega⟩
      · rename_i e0
        rw [if_neg e0, tg_app]
        by_cases e1 : k < r.2.1.length
        · rw [if_pos e1]
          obtain ⟨a1, a2, a3, -⟩ := y6.1 k e1
          unfold lok at a3
          exact ⟨a1, a2, by omega⟩
        · have e2 : k = r.2.1.length := by simp at hk; omega
          rw [if_neg e1, if_pos e2]
          exact ⟨by show 1 ≤ r.2.2; omega, y7, by simp⟩
    refine ⟨by rw [sh_k h3]; rfl, c121 hco hl63 hlr hIc h3 y3 G3.2.2.2.1 N3 (fun w4 t1 t2 => b118_95 ?_)⟩
    have h4 := sh_I t1 h3
    have F4 : xI mPs w w4 := xI_tr F3 (xI_w t1 (by unfold mPs; omega))
    have K4 := RK_I t1 y3 (by omega) (by omega) (by omega)
    have e33 : x_i w4 36 33 = nI r.2.2 := (xI_i t1 36 33 (by omega)).trans y4
    have g33 : nI r.2.2 ≤ 0 ↔ r.2.2 = 0 := by rw [← nI_0, nI_leI (by omega) (by omega)]; omega
    rw [e33, g33]
    have fin := hq w4 F4 K4 (fun yy k hk => ?_)
    · refine ⟨by rw [sh_k h4]; rfl, fun x => ⟨Or.inl rfl, ?_⟩, fun x => ⟨Or.inr rfl, ?_⟩⟩
      · rw [decide_eq_false (fun y => y x)] at fin; exact fin
      · rw [decide_eq_true x] at fin; exact fin
    · have hc0 : ¬ r.2.2 = 0 := of_decide_eq_true yy
      have ert : rtk r = r.2.1 ++ [(r.2.2, 0)] := by unfold rtk; rw [if_neg hc0]
      rw [t2 k hk, ert]
      have hlen : (r.2.1 ++ [(r.2.2, (0 : Int))]).length = r.2.1.length + 1 := by simp
      rw [hlen]
      show b32 (if k = r.2.1.length then nd0 nob (tg (r.2.1 ++ [(r.2.2, 0)]) r.2.1.length).2 else ndr cs (r.2.1 ++ [(r.2.2, 0)]) r.2.1.length (if nd0 nob (tg (r.2.1 ++ [(r.2.2, 0)]) r.2.1.length).2 = true then nvx nob (cg cs (tg (r.2.1 ++ [(r.2.2, 0)]) r.2.1.length).1) (tg (r.2.1 ++ [(r.2.2, 0)]) r.2.1.length).2 else nob) k) = _
      have etl : tg (r.2.1 ++ [(r.2.2, (0 : Int))]) r.2.1.length = (r.2.2, 0) := by rw [tg_app, if_neg (by omega), if_pos rfl]
      rw [etl]
      have end0 : nd0 nob (r.2.2, (0 : Int)).2 = true := rfl
      rw [end0, if_pos rfl, nvx_0 hco]
      congr 1
      by_cases e : k = r.2.1.length
      · rw [if_pos e, if_pos e]
      · rw [if_neg e, if_neg e, ndr_nds (tak := r.2.1) r.2.1.length _ (fun j hj => ⟨tg_pre hj, (y6.1 j hj).2.2.1.1⟩)]
  · obtain ⟨f1, f2, f3⟩ := ft_in z
    have hlf := hcl.2.1 _ f1
    have hlf' := hlf
    unfold lok at hlf'
    have ew : wst cs al mk tv tak o d = (true, tak, 0, nds cs tak tak.length (fun v => decide (v = (ft tv (cg cs d) o).natAbs))) := by unfold wst; rw [if_neg z]
    have ek : tkF cs al mk tv tak o d = tak := by unfold tkF; rw [ew]; rfl
    rw [ek, ew] at hq
    refine ⟨by rw [sh_k h1]; rfl, by rw [sr36_37 h1]; decide, ?_⟩
    rw [sr36_37 h1]
    refine c53 (by omega) (b118_23 ?_)
    rw [nI_clamp (by omega), sh_k h1, sh_l h1]
    have F2 : xI (fun p _ => p = 55) w1 (x_si w1 55 (ft tv (cg cs d) o).natAbs 1) := xI_si xI_rf rfl
    have N2 : NV (x_si w1 55 (ft tv (cg cs d) o).natAbs 1) (fun v => decide (v = (ft tv (cg cs d) o).natAbs)) := by
      intro v hv
      show x_i (x_si w1 55 (ft tv (cg cs d) o).natAbs 1) 55 v = b32 (decide (v = (ft tv (cg cs d) o).natAbs))
      rw [y_i_si]
      by_cases e : v = (ft tv (cg cs d) o).natAbs
      · rw [if_pos ⟨rfl, e⟩, decide_eq_true e]; rfl
      · rw [if_neg (fun y => e y.2), decide_eq_false e]; exact u2 v hv
    refine ⟨⟨rfl, vp_in_nI (N := 17) (by omega) (by omega), Or.inr rfl⟩, rfl, c121 (tak := tak) hco hl63 (by omega) (fun k hk => ?_) (sh_I F2 h1) (RK_I F2 K1 (by omega) (by omega) (by omega)) (fun c hc => RC_I F2 (G1.2.2.2.1 c hc) (by omega) (by omega)) N2 (fun w4 t1 t2 => b118_29 ⟨Or.inr rfl, hq w4 (xI_tr F1 (xI_tr (xI_w F2 (by unfold mPs; omega)) (xI_w t1 (by unfold mPs; omega)))) (RK_I t1 (RK_I F2 K1 (by omega) (by omega) (by omega)) (by omega) (by omega) (by omega)) (fun _ k hk => ?_)⟩)⟩
    · obtain ⟨a1, a2, a3, -⟩ := hI.1 k hk
      unfold lok at a3
      exact ⟨a1, a2, by omega⟩
    · rw [t2 k hk, if_neg (show ¬ k = tak.length by omega), ndr_nds (tak := tak) tak.length _ (fun j hj => ⟨rfl, (hI.1 j hj).2.2.1.1⟩)]
end X61
