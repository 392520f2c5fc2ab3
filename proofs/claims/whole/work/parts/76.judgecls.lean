/-! Judging, on the class's side: lines, finding, learning, dropping. -/
theorem nI_m1lt {a b : Nat} (ha : a < 2 ^ 30) (hb : b < 2 ^ 30) : nI a - 1 < nI b ↔ a ≤ b := by
  cases a with
  | zero =>
    have e : nI 0 - 1 = (-1 : Int32) := by decide
    rw [e, Int32.lt_iff_toInt_lt, nI_toInt (by omega)]
    have : (-1 : Int32).toInt = -1 := by decide
    omega
  | succ a => rw [nI_pred, nI_ltI (by omega) (by omega)]; omega
section X76
variable {scr : Nat × (Nat → Int32)} {w : xW} {Q : xO → xW → Prop} {w1 : xW} {P T n c g d V l i : Nat} {hf hs : Bool} {mk sp mkO spO : Nat → Bool} {cs : List (List Int)} {st : xSt} {tk ls : List Int} {KL : List xKn} {v hi : Int} {nm : List Nat} {o1 o2 o3 o4 o5 : Option Value}
theorem c137t (hT : T = 17 ∨ T = 19 ∨ T = 22) (h : SH w) (hK : TK T w tk) (hl : tk.length ≤ 2000) (hi : i < 2 ^ 30) (hq : Q (.inl (some (.int (iI (tA tk i))))) w) : x_R x_prog scr 137 0 [some (.ref T), some (.int (nI i))] [] w Q := by
  have g1 : (2000 : Int32) ≤ nI i ↔ 2000 ≤ i := nI_leI (a := 2000) (by omega) (by omega)
  have g2 : nI tk.length ≤ nI i ↔ tk.length ≤ i := nI_leI (by omega) (by omega)
  refine b137_0 ⟨fun z => absurd z (nI_pos (by omega)), fun _ => ?_⟩
  rw [hK.1, g1, g2, tK h hT, tr0 h hT, (tk1 h hT).1, (tk1 h hT).2, nI_clamp (show i < 2 ^ 31 by omega)]
  refine ⟨rfl, fun z => ?_, fun z => ⟨fun y => by omega, fun y => ⟨rfl, by omega, ⟨rfl, vp_in_nI (by omega) (by omega)⟩, ?_⟩⟩⟩
  · rw [tA_ge z] at hq
    exact hq
  · rw [hK.2 i (by omega)]
    exact hq
/-- lineEnd -/
theorem c166 (hT : T = 17 ∨ T = 19 ∨ T = 22) (h : SH w) (hK : TK T w tk) (hv : TV tk) (hi : i < tk.length) (hq : Q (.inl (some (.int (iI (lnE tk i))))) w) : x_R x_prog scr 166 0 [some (.ref T), some (.int (nI i)), o2, o3] [] w Q := by
  have hl := hv.1
  -- one token
  have stp : ∀ (p k : Nat) (o1 : Option Value), p ≤ 3 → k < tk.length → (cst p (tA tk k) = false → Q (.inl (some (.int (-1)))) w) → (cst p (tA tk k) = true → pbh p (tA tk k) = 0 → Q (.inl (some (.int (nI (k + 1))))) w) → (cst p (tA tk k) = true → ¬ pbh p (tA tk k) = 0 → ∀ o1, x_R x_prog scr 166 4 [some (.ref T), o1, some (.int (nI (pbh p (tA tk k)))), some (.int (nI (k + 1)))] [] w Q) → x_R x_prog scr 166 4 [some (.ref T), o1, some (.int (nI p)), some (.int (nI k))] [] w Q := by
    intro p k o1 hp hk h1 h2 h3
    have hr := tA_rg hv k
    refine b166_4 ?_
    rw [hK.1, tK h hT]
    refine ⟨rfl, fun z => absurd z (nI_ge (by omega) (by omega)), fun _ => ⟨rfl, c137t hT h hK hl (by omega) (b166_18 (c77 hp (by omega) (b166_21 ?_)))⟩⟩
    cases hc : cst p (tA tk k) with
    | false => exact ⟨fun z => absurd rfl z, fun _ => h1 hc⟩
    | true =>
      refine ⟨fun _ => ⟨tK h hT, c137t hT h hK hl (by omega) (b166_32 (c79 hp (by omega) (b166_35 ?_)))⟩, fun z => absurd (by decide) z⟩
      have hb : pbh p (tA tk k) ≤ 3 := pbh_le
      have g0 : nI (pbh p (tA tk k)) = 0 ↔ pbh p (tA tk k) = 0 := by rw [← nI_0]; exact nI_eq (by omega) (by omega)
      rw [g0, nI_1]
      exact ⟨fun z => h3 hc z _, fun z => h2 hc (Classical.not_not.mp z)⟩
  have fin : ∀ (p k : Nat) (o1 : Option Value), tk.length ≤ k → k < 2 ^ 30 → Q (.inl (some (.int (-1)))) w → x_R x_prog scr 166 4 [some (.ref T), o1, some (.int (nI p)), some (.int (nI k))] [] w Q := by
    intro p k o1 hk hk2 h1
    refine b166_4 ?_
    rw [hK.1, tK h hT]
    exact ⟨rfl, fun _ => h1, fun z => absurd (nI_le (by omega) (by omega)) z⟩
  have key3 : ∀ (d k : Nat) (o1 : Option Value), k + d = tk.length → Q (.inl (some (.int (iI (bz tk d k))))) w → x_R x_prog scr 166 4 [some (.ref T), o1, some (.int (nI 3)), some (.int (nI k))] [] w Q := by
    intro d
    induction d with
    | zero => intro k o1 hk hq; exact fin 3 k o1 (by omega) (by omega) hq
    | succ d ih =>
      intro k o1 hk hq
      have hr := tA_rg hv k
      unfold bz at hq
      refine stp 3 k o1 (by omega) (by omega) (fun z => ?_) (fun z y => ?_) (fun z y o1 => ?_)
      · unfold cst at z
        by_cases e : tA tk k = 10000
        · rw [if_neg (by omega), if_pos e] at hq; exact hq
        · rw [if_neg e, decide_eq_true (by omega)] at z; cases z
      · by_cases e : tA tk k = 0
        · rw [if_pos e] at hq
          have e2 : ((k : Int) + 1) = ((k + 1 : Nat) : Int) := by omega
          rw [e2, iI_n] at hq
          exact hq
        · unfold pbh at y
          rw [if_neg (by omega), if_pos rfl, if_neg e] at y
          omega
      · have e : ¬ tA tk k = 0 := fun x => by unfold pbh at y; rw [if_neg (by omega), if_pos rfl, if_pos x] at y; exact y rfl
        have e2 : ¬ tA tk k = 10000 := fun x => by unfold cst at z; rw [if_pos x] at z; cases z
        have e3 : pbh 3 (tA tk k) = 3 := by unfold pbh; rw [if_neg (by omega), if_pos rfl, if_neg e]
        rw [e3]
        rw [if_neg e, if_neg e2] at hq
        exact ih (k + 1) o1 (by omega) hq
  have key2 : ∀ (d k : Nat) (o1 : Option Value), k + d = tk.length → Q (.inl (some (.int (iI (if bz tk d k < 0 then -1 else bzz tk (bz tk d k).toNat))))) w → x_R x_prog scr 166 4 [some (.ref T), o1, some (.int (nI 2)), some (.int (nI k))] [] w Q := by
    intro d
    induction d with
    | zero => intro k o1 hk hq; exact fin 2 k o1 (by omega) (by omega) hq
    | succ d ih =>
      intro k o1 hk hq
      have hr := tA_rg hv k
      unfold bz at hq
      refine stp 2 k o1 (by omega) (by omega) (fun z => ?_) (fun z y => ?_) (fun z y o1 => ?_)
      · unfold cst at z
        by_cases e : tA tk k = 10000
        · rw [if_neg (show ¬ tA tk k = 0 by omega), if_pos e, if_pos (by decide)] at hq; exact hq
        · rw [if_neg e, decide_eq_true (by omega)] at z; cases z
      · unfold pbh at y
        rw [if_neg (by omega), if_neg (by omega)] at y
        split at y <;> omega
      · have e2 : ¬ tA tk k = 10000 := fun x => by unfold cst at z; rw [if_pos x] at z; cases z
        by_cases e : tA tk k = 0
        · have e3 : pbh 2 (tA tk k) = 3 := by unfold pbh; rw [if_neg (by omega), if_neg (by omega), if_pos (Or.inl e)]
          rw [e3]
          rw [if_pos e, if_neg (show ¬ (k : Int) + 1 < 0 by omega)] at hq
          have et : ((k : Int) + 1).toNat = k + 1 := by omega
          rw [et] at hq
          exact key3 (tk.length - (k + 1)) (k + 1) o1 (by omega) hq
        · have e3 : pbh 2 (tA tk k) = 2 := by unfold pbh; rw [if_neg (by omega), if_neg (by omega), if_neg (by omega)]
          rw [e3]
          rw [if_neg e, if_neg e2] at hq
          exact ih (k + 1) o1 (by omega) hq
  have hr := tA_rg hv i
  unfold lnE at hq
  refine b166_0 (stp 0 i _ (by omega) hi (fun z => ?_) (fun z y => ?_) (fun z y o1 => ?_))
  · unfold cst at z
    by_cases e : tA tk i = 10000
    · rw [if_pos (Or.inl e)] at hq; exact hq
    · rw [if_neg e, decide_eq_true (by omega)] at z; cases z
  · unfold pbh at y; rw [if_pos rfl] at y; omega
  · have e2 : ¬ tA tk i = 10000 := fun x => by unfold cst at z; rw [if_pos x] at z; cases z
    have e3 : pbh 0 (tA tk i) = 1 := by unfold pbh; rw [if_pos rfl]
    rw [e3]
    by_cases hl1 : i + 1 = tk.length
    · rw [if_pos (Or.inr hl1)] at hq
      exact fin 1 (i + 1) o1 (by omega) (by omega) hq
    · rw [if_neg (by omega)] at hq
      have hr1 := tA_rg hv (i + 1)
      have c1 : cst 1 (tA tk (i + 1)) = true := by
        unfold cst
        split
        · rfl
        · exact decide_eq_true (by omega)
      refine stp 1 (i + 1) o1 (by omega) (by omega) (fun x => by rw [c1] at x; cases x) (fun _ y => ?_) (fun _ y o1 => ?_)
      · unfold pbh at y
        rw [if_neg (by omega), if_neg (by omega)] at y
        split at y <;> omega
      · by_cases e4 : tA tk (i + 1) = 10000
        · have e5 : pbh 1 (tA tk (i + 1)) = 3 := by unfold pbh; rw [if_neg (by omega), if_neg (by omega), if_pos (Or.inr e4)]
          rw [e5]
          rw [if_pos e4] at hq
          exact key3 (tk.length - (i + 2)) (i + 1 + 1) o1 (by omega) hq
        · rw [if_neg e4] at hq
          have eb : bzz tk (i + 1) = if tA tk (i + 1) = 0 then ((i + 1 : Nat) : Int) + 1 else bz tk (tk.length - (i + 2)) (i + 2) := by
            unfold bzz
            rw [show tk.length - (i + 1) = (tk.length - (i + 2)) + 1 by omega]
            show (if tA tk (i + 1) = 0 then ((i + 1 : Nat) : Int) + 1 else if tA tk (i + 1) = 10000 then -1 else bz tk (tk.length - (i + 2)) (i + 1 + 1)) = _
            rw [if_neg e4]
          by_cases e5 : tA tk (i + 1) = 0
          · have e6 : pbh 1 (tA tk (i + 1)) = 3 := by unfold pbh; rw [if_neg (by omega), if_neg (by omega), if_pos (Or.inl e5)]
            rw [e6]
            rw [if_pos e5] at eb
            rw [eb, if_neg (by omega)] at hq
            have et : (((i + 1 : Nat) : Int) + 1).toNat = i + 2 := by omega
            rw [et] at hq
            exact key3 (tk.length - (i + 2)) (i + 1 + 1) o1 (by omega) hq
          · have e6 : pbh 1 (tA tk (i + 1)) = 2 := by unfold pbh; rw [if_neg (by omega), if_neg (by omega), if_neg (by omega)]
            rw [e6]
            rw [if_neg e5] at eb
            rw [eb] at hq
            exact key2 (tk.length - (i + 2)) (i + 1 + 1) o1 (by omega) hq
/-- the judge's state -/
def JC (T : Nat) (w : xW) (KL : List xKn) (V : Nat) : Prop := x_r w 31 7 = T ∧ x_i w 31 5 = nI V ∧ x_i w 31 4 = nI KL.length ∧ KL.length ≤ 540 ∧ ∀ j, j < KL.length → x_i w 32 j = iI (kn KL j).1 ∧ x_i w 33 j = mask (kn KL j).2.1 ∧ x_i w 34 j = b32 (kn KL j).2.2
theorem JC_I {m : Nat → Nat → Prop} (q : xI m w w1) (h1 : ¬ m 31 5 ∧ ¬ m 31 4) (h2 : ∀ k, ¬ m 32 k ∧ ¬ m 33 k ∧ ¬ m 34 k) (h : JC T w KL V) : JC T w1 KL V := by
  obtain ⟨a1, a2, a3, a4, a5⟩ := h
  exact ⟨by rw [xI_r q]; exact a1, (xI_i q 31 5 h1.1).trans a2, (xI_i q 31 4 h1.2).trans a3, a4, fun j hj => ⟨(xI_i q 32 j (h2 j).1).trans (a5 j hj).1, (xI_i q 33 j (h2 j).2.1).trans (a5 j hj).2.1, (xI_i q 34 j (h2 j).2.2).trans (a5 j hj).2.2⟩⟩
/-- learn -/
theorem c165 (h : SH w) (hJ : JC T w KL V) (hlt : KL.length < 540) (hq : ∀ w', xI (fun p k => (p = 31 ∧ k = 4) ∨ ((p = 32 ∨ p = 33 ∨ p = 34 ∨ p = 35) ∧ k = KL.length)) w w' → JC T w' (KL ++ [(v, ls, true)]) V → x_i w' 35 KL.length = 0 → Q (.inl none) w') : x_R x_prog scr 165 0 [some (.ref 31), some (.int (iI v)), some (.int (mask ls))] [] w Q := by
  obtain ⟨a1, a2, a3, a4, a5⟩ := id hJ
  have g1 : (540 : Int32) ≤ nI KL.length ↔ 540 ≤ KL.length := nI_leI (a := 540) (by omega) (by omega)
  refine b165_0 ?_
  rw [a3, g1]
  refine ⟨by rw [sh_k h]; rfl, fun z => by omega, fun _ => ?_⟩
  have e1 : ∀ v, x_i (x_si w 32 KL.length v) 31 4 = nI KL.length := fun v => by rw [y_i_si, if_neg (by omega)]; exact a3
  have e2 : ∀ v v', x_i (x_si (x_si w 32 KL.length v) 33 KL.length v') 31 4 = nI KL.length := fun v v' => by rw [y_i_si, if_neg (by omega)]; exact e1 v
  rw [sr31_0 h, sr31_1 h, sr31_2 h, sh_k h, sh_l h, nI_clamp (show KL.length < 2 ^ 31 by omega), e1, nI_clamp (show KL.length < 2 ^ 31 by omega), e2, nI_clamp (show KL.length < 2 ^ 31 by omega)]
  have v540 : vp_in (nI KL.length) 540 := vp_in_nI (by omega) (by omega)
  refine ⟨rfl, by decide, rfl, ⟨rfl, v540⟩, rfl, by decide, rfl, ⟨rfl, v540⟩, rfl, by decide, rfl, ⟨rfl, v540, Or.inr rfl⟩, b165_40 ?_⟩
  generalize hw1 : x_si (x_si (x_si w 32 KL.length (iI v)) 33 KL.length (mask ls)) 34 KL.length 1 = w1
  have F1 : xI (fun p k => (p = 32 ∨ p = 33 ∨ p = 34) ∧ k = KL.length) w w1 := by rw [← hw1]; exact xI_si (xI_si (xI_si xI_rf ⟨by omega, rfl⟩) ⟨by omega, rfl⟩) ⟨by omega, rfl⟩
  have b1 : x_i w1 32 KL.length = iI v := by rw [← hw1, y_i_si, if_neg (by omega), y_i_si, if_neg (by omega), y_i_si, if_pos ⟨rfl, rfl⟩]
  have b2 : x_i w1 33 KL.length = mask ls := by rw [← hw1, y_i_si, if_neg (by omega), y_i_si, if_pos ⟨rfl, rfl⟩]
  have b3 : x_i w1 34 KL.length = 1 := by rw [← hw1, y_i_si, if_pos ⟨rfl, rfl⟩]
  clear hw1
  have h1 := sh_I F1 h
  have a31 : x_i w1 31 4 = nI KL.length := (xI_i F1 31 4 (by omega)).trans a3
  have e3 : ∀ v, x_i (x_si w1 35 KL.length v) 31 4 = nI KL.length := fun v => by rw [y_i_si, if_neg (by omega)]; exact a31
  rw [sr31_3 h1, sh_k h1, sh_l h1, a31, nI_clamp (show KL.length < 2 ^ 31 by omega), e3, nI_1]
  refine ⟨rfl, by decide, rfl, ⟨rfl, v540⟩, rfl, rfl, ?_⟩
  have F2 : xI (fun p k => (p = 31 ∧ k = 4) ∨ (p = 35 ∧ k = KL.length)) w1 (x_si (x_si w1 35 KL.length 0) 31 4 (nI (KL.length + 1))) := xI_si (xI_si xI_rf (Or.inr ⟨rfl, rfl⟩)) (Or.inl ⟨rfl, rfl⟩)
  have F : xI (fun p k => (p = 31 ∧ k = 4) ∨ ((p = 32 ∨ p = 33 ∨ p = 34 ∨ p = 35) ∧ k = KL.length)) w (x_si (x_si w1 35 KL.length 0) 31 4 (nI (KL.length + 1))) := xI_tr (xI_w F1 (by omega)) (xI_w F2 (by omega))
  have hl1 : (KL ++ [(v, ls, true)]).length = KL.length + 1 := by simp
  refine hq _ F ⟨by rw [xI_r F]; exact a1, (xI_i F 31 5 (by omega)).trans a2, by rw [y_i_si, if_pos ⟨rfl, rfl⟩, hl1], by omega, fun j hj => ?_⟩ (by rw [y_i_si, if_neg (by omega), y_i_si, if_pos ⟨rfl, rfl⟩])
  rw [hl1] at hj
  rw [kn_app]
  by_cases e : j < KL.length
  · rw [if_pos e, xI_i F 32 j (by omega), xI_i F 33 j (by omega), xI_i F 34 j (by omega)]
    exact a5 j e
  · have e2 : j = KL.length := by omega
    rw [if_neg e, if_pos e2, e2, xI_i F2 32 _ (by omega), xI_i F2 33 _ (by omega), xI_i F2 34 _ (by omega)]
    exact ⟨b1, b2, b3⟩
/-- find -/
theorem c168 (h : SH w) (hJ : JC T w KL V) (hK : KI KL hi) (hv : -10000 ≤ v ∧ v ≤ 10000) (hq : Q (.inl (some (.int (iI (fdk KL v))))) w) : x_R x_prog scr 168 0 [some (.ref 31), some (.int (iI v)), o2, o3, o4] [] w Q := by
  obtain ⟨a1, a2, a3, a4, a5⟩ := id hJ
  have key : ∀ (d lo up : Nat) (o4 : Option Value), up - lo ≤ d → up ≤ KL.length → lo ≤ KL.length → (∀ j, j < lo → j < KL.length → (kn KL j).1 < v) → (∀ j, up ≤ j → j < KL.length → v < (kn KL j).1) → x_R x_prog scr 168 9 [some (.ref 31), some (.int (iI v)), some (.int (nI lo)), some (.int (nI up - 1)), o4] [] w Q := by
    intro d
    induction d with
    | zero =>
      intro lo up o4 hd hup hlo h1 h2
      have e : fdk KL v = -1 := fdk_no (fun j hj z => by
        by_cases y : j < lo
        · have := h1 j y hj; omega
        · have := h2 j (by omega) hj; omega)
      rw [e] at hq
      exact b168_9 ⟨fun _ => hq, fun z => absurd ((nI_m1lt (by omega) (by omega)).mpr (by omega)) z⟩
    | succ d ih =>
      intro lo up o4 hd hup hlo h1 h2
      by_cases hul : up ≤ lo
      · exact ih lo up o4 (by omega) hup hlo h1 h2
      · have ep : nI up - 1 = nI (up - 1) := by
          have := nI_pred (up - 1)
          rw [Nat.sub_add_cancel (by omega)] at this
          exact this
        have em : (nI lo + (nI up - 1)) / 2 = nI ((lo + (up - 1)) / 2) := by rw [ep, nI_add, nI_div2 (by omega)]
        have hm1 : lo ≤ (lo + (up - 1)) / 2 := by omega
        have hm2 : (lo + (up - 1)) / 2 < up := by omega
        obtain ⟨c1, c2, c3⟩ := a5 ((lo + (up - 1)) / 2) (by omega)
        have hkn := hK.1 ((lo + (up - 1)) / 2) (by omega)
        have hh := hK.2.2
        have hinc : ∀ j, j < KL.length → (j < (lo + (up - 1)) / 2 → (kn KL j).1 < (kn KL ((lo + (up - 1)) / 2)).1) ∧ ((lo + (up - 1)) / 2 < j → (kn KL ((lo + (up - 1)) / 2)).1 < (kn KL j).1) := fun j hj => ⟨fun y => hK.2.1 j _ y (by omega), fun y => hK.2.1 _ j y hj⟩
        generalize hmid : (lo + (up - 1)) / 2 = m at *
        refine b168_9 ⟨fun z => absurd ((nI_m1lt (by omega) (by omega)).mp z) hul, fun _ => ?_⟩
        have ge : iI (kn KL m).1 = iI v ↔ (kn KL m).1 = v := iI_eq (by omega) (by omega) (by omega) (by omega)
        have gl : iI v ≤ iI (kn KL m).1 ↔ v ≤ (kn KL m).1 := by rw [Int32.le_iff_toInt_le, iI_toInt (by omega) (by omega), iI_toInt (by omega) (by omega)]
        rw [em, sr31_0 h, sr31_2 h, sh_k h, sh_l h, nI_clamp (show m < 2 ^ 31 by omega), c1, c3, ge, gl]
        have v540 : vp_in (nI m) 540 := vp_in_nI (by omega) (by omega)
        refine ⟨by decide, rfl, by decide, ⟨rfl, v540⟩, fun z => ⟨rfl, by decide, ⟨rfl, v540⟩, fun y => ?_, fun y => ?_⟩, fun z => ⟨rfl, by decide, ⟨rfl, v540⟩, fun y => ?_, fun y => ?_⟩⟩
        · refine ih lo m _ (by omega) (by omega) hlo h1 (fun j y1 y2 => ?_)
          by_cases ej : j = m
          · rw [ej]; omega
          · have := (hinc j y2).2 (by omega); omega
        · rw [nI_1]
          refine ih (m + 1) up _ (by omega) hup (by omega) (fun j y1 y2 => ?_) h2
          by_cases ej : j = m
          · rw [ej]; omega
          · have := (hinc j y2).1 (by omega); omega
        · have z := Classical.not_not.mp z
          have e : fdk KL v = -1 := fdk_no (fun j hj x => by
            rcases Nat.lt_trichotomy j m with t | t | t
            · have := (hinc j hj).1 t; omega
            · rw [t] at x
              rw [x.2] at y
              exact absurd y (by decide)
            · have := (hinc j hj).2 t; omega)
          rw [e] at hq
          exact hq
        · have z := Classical.not_not.mp z
          have hst : (kn KL m).2.2 = true := by
            cases hb : (kn KL m).2.2 with
            | true => rfl
            | false => rw [hb] at y; exact absurd rfl y
          have e : fdk KL v = (m : Int) := fdk_at hK (by omega) z hst
          rw [e, iI_n] at hq
          exact hq
  refine b168_0 ⟨by rw [sh_k h]; rfl, ?_⟩
  rw [a3]
  exact key KL.length 0 KL.length _ (by omega) (Nat.le_refl _) (Nat.zero_le _) (fun j hj => by omega) (fun j h1 h2 => by omega)
/-- which clauses line l has named -/
def NMD (w : xW) (KL : List xKn) (l : Nat) (nm : List Nat) : Prop := ∀ j, j < KL.length → (j ∈ nm → x_i w 35 j = nI l) ∧ (¬ j ∈ nm → ∃ m, m < l ∧ x_i w 35 j = nI m)
/-- dropAll -/
theorem c167 {k : Nat} (hT : T = 17 ∨ T = 19 ∨ T = 22) (h : SH w) (hJ : JC T w KL V) (hK : KI KL hi) (hT2 : TK T w tk) (hv : TV tk) (hk : k ≤ tk.length) (hq : ∀ w', xI (fun p _ => p = 34) w w' → JC T w' (dra tk (tk.length - k) k KL).2 V → KI (dra tk (tk.length - k) k KL).2 hi → (dra tk (tk.length - k) k KL).2.length = KL.length → Q (.inl (some (.int (b32 (dra tk (tk.length - k) k KL).1)))) w') : x_R x_prog scr 167 0 [some (.ref 31), some (.int (nI k)), o2, o3] [] w Q := by
  have hl := hv.1
  have key : ∀ (d k : Nat) (KL : List xKn) (w : xW) (o1 o3 : Option Value), SH w → JC T w KL V → KI KL hi → TK T w tk → k + d = tk.length → (∀ w', xI (fun p _ => p = 34) w w' → JC T w' (dra tk d k KL).2 V → KI (dra tk d k KL).2 hi → (dra tk d k KL).2.length = KL.length → Q (.inl (some (.int (b32 (dra tk d k KL).1)))) w') → x_R x_prog scr 167 2 [some (.ref 31), o1, some (.int (nI k)), o3] [] w Q := by
    intro d
    induction d with
    | zero =>
      intro k KL w o1 o3 h hJ hK hT2 hk hq
      refine b167_2 ?_
      rw [hJ.1, hT2.1, tK h hT, sh_k h]
      exact ⟨rfl, by omega, rfl, fun _ => ⟨Or.inr rfl, hq w xI_rf hJ hK rfl⟩, fun z => absurd (nI_le (by omega) (by omega)) z⟩
    | succ d ih =>
      intro k KL w o1 o3 h hJ hK hT2 hk hq
      have hr := tA_rg hv k
      have g0 : iI (tA tk k) = 0 ↔ tA tk k = 0 := iI_eq (b := 0) (by omega) (by omega) (by omega) (by omega)
      unfold dra at hq
      refine b167_2 ?_
      rw [hJ.1, hT2.1, tK h hT, sh_k h]
      refine ⟨rfl, by omega, rfl, fun z => absurd z (nI_ge (by omega) (by omega)), fun _ => ⟨rfl, by omega, rfl, c137t hT h hT2 hl (by omega) (b167_21 ?_)⟩⟩
      rw [g0]
      refine ⟨fun z => ?_, fun z => ?_⟩
      · rw [if_pos z] at hq
        exact ⟨Or.inr rfl, hq w xI_rf hJ hK rfl⟩
      · rw [if_neg z] at hq
        rw [hJ.1, tK h hT, sh_k h]
        refine ⟨rfl, by omega, rfl, c137t hT h hT2 hl (by omega) (b167_33 ⟨by rw [sh_k h]; rfl, c168 h hJ hK (by omega) (b167_36 ?_)⟩)⟩
        rcases fdk_rg KL (tA tk k) with ⟨e, -⟩ | ⟨i, e, e1, e2, e3⟩
        · rw [e]
          rw [e, if_pos (by decide)] at hq
          exact ⟨fun y => absurd (by decide) y, fun _ => ⟨Or.inl rfl, hq w xI_rf hJ hK rfl⟩⟩
        · have h540 := hJ.2.2.2.1
          rw [e, if_neg (by omega)] at hq
          have et : ((i : Int)).toNat = i := rfl
          rw [et] at hq
          rw [e, iI_n]
          have hne : ¬ nI i = (-1 : Int32) := by
            intro y
            have := congrArg Int32.toInt y
            rw [nI_toInt (by omega)] at this
            have h2 : ((-1 : Int32)).toInt = -1 := by decide
            rw [h2] at this
            omega
          refine ⟨fun _ => ?_, fun y => absurd hne y⟩
          rw [sr31_2 h, sh_k h, sh_l h, nI_clamp (show i < 2 ^ 31 by omega), nI_1]
          have F : xI (fun p _ => p = 34) w (x_si w 34 i 0) := xI_si xI_rf rfl
          refine ⟨rfl, by decide, ⟨rfl, vp_in_nI (N := 540) (by omega) (by omega), Or.inl rfl⟩, ih (k + 1) (ddr KL i) _ _ _ (sh_I F h) ?_ (KI_ddr hK e1) ?_ (by omega) (fun w' u1 u2 u3 u4 => hq w' (xI_tr F u1) u2 u3 (by rw [u4, ddr_len]))⟩
          · obtain ⟨a1, a2, a3, a4, a5⟩ := hJ
            refine ⟨by rw [xI_r F]; exact a1, (xI_i F 31 5 (by omega)).trans a2, by rw [xI_i F 31 4 (by omega), ddr_len]; exact a3, by rw [ddr_len]; exact a4, fun j hj => ?_⟩
            rw [ddr_len] at hj
            rw [kn_ddr e1, xI_i F 32 j (by omega), xI_i F 33 j (by omega), y_i_si]
            by_cases ej : j = i
            · rw [if_pos ej, if_pos ⟨rfl, ej⟩, ej]
              exact ⟨(a5 i e1).1, (a5 i e1).2.1, rfl⟩
            · rw [if_neg ej, if_neg (fun y => ej y.2)]
              exact a5 j hj
          · exact TK_e (funext fun k => xI_i F T k (by omega)) (funext fun k => xI_i F (T + 1) k (by omega)) hT2
  exact b167_0 (key (tk.length - k) k KL w _ _ h hJ hK hT2 (by omega) hq)
def mBe : Nat → Nat → Prop := fun p _ => 31 ≤ p ∧ p ≤ 35
/-- begin -/
theorem c164 (hP : P = 5 ∨ P = 11) (hT : T = 17 ∨ T = 19) (hg : g ≤ 40) (hgl : g ≤ cs.length) (hl : cs.length ≤ 63) (hV : V ≤ 16) (h : SH w) (hS : PS P w hf hs V g cs st mk sp) (hq : ∀ w', xF mBe x_no (fun p k => p = 31 ∧ k = 7) w w' → SH w' → JC T w' (kn0 cs g) V → NMD w' (kn0 cs g) 1 [] → x_i w' 31 6 = iI (g : Int) → Q (.inl none) w') : x_R x_prog scr 164 0 [some (.ref 31), some (.ref P), some (.ref T), o3] [] w Q := by
  have k31 : x_k w 31 = 11 := by rw [sh_k h]; rfl
  refine b164_0 ?_
  rw [hS.1.2.2.1, pK h hP]
  refine ⟨⟨k31, by omega, by rw [sh_n h]; omega⟩, rfl, k31, k31, b164_18 ?_⟩
  generalize hw1 : x_si (x_si (x_sr w 31 7 T) 31 5 (nI V)) 31 4 0 = w1
  have F1 : xF (fun p k => p = 31 ∧ (k = 4 ∨ k = 5)) x_no (fun p k => p = 31 ∧ k = 7) w w1 := by rw [← hw1]; exact xF_si (xF_si (xF_sr xF_rf ⟨rfl, rfl⟩) ⟨rfl, Or.inr rfl⟩) ⟨rfl, Or.inl rfl⟩
  have a7 : x_r w1 31 7 = T := by rw [← hw1, y_r_si, y_r_si, y_r_sr, if_pos ⟨rfl, rfl⟩]
  have a5 : x_i w1 31 5 = nI V := by rw [← hw1, y_i_si, if_neg (by omega), y_i_si, if_pos ⟨rfl, rfl⟩]
  have a4 : x_i w1 31 4 = 0 := by rw [← hw1, y_i_si, if_pos ⟨rfl, rfl⟩]
  clear hw1
  have h1 : SH w1 := sh_A (xF_w F1 (fun _ _ z => z) (fun _ _ z => z) (by unfold mrA; omega)) h
  have S1 : PS P w1 hf hs V g cs st mk sp := PS_e (fun p _ _ => funext fun k => F1.2.1 p k (by omega)) (funext fun k => F1.2.2.1 P k (fun z => z)) (funext fun k => F1.2.2.1 (P + 5) k (fun z => z)) hS
  have key : ∀ (d c : Nat) (w2 : xW) (o2 : Option Value), xI mBe w1 w2 → JC T w2 (kn0 cs c) V → (∀ j, j < c → x_i w2 35 j = 0) → c + d = g → x_R x_prog scr 164 20 [some (.ref 31), some (.ref P), o2, some (.int (nI (c + 1)))] [] w2 Q := by
    intro d
    induction d with
    | zero =>
      intro c w2 o2 F2 hJ hz hc
      have ec : c = g := by omega
      subst ec
      have h2 := sh_I F2 h1
      have e3 : x_i w2 P 3 = nI c := (xI_i F2 P 3 (by unfold mBe; omega)).trans S1.1.2.2.2.1
      refine b164_20 ?_
      rw [e3, pK h2 hP, sh_k h2]
      refine ⟨rfl, fun _ => ⟨rfl, rfl, ?_⟩, fun z => absurd (nI_lt (by omega) (by omega)) z⟩
      have F3 : xI (fun p k => p = 31 ∧ k = 6) w2 (x_si w2 31 6 (nI c)) := xI_si xI_rf ⟨rfl, rfl⟩
      have FF : xF mBe x_no (fun p k => p = 31 ∧ k = 7) w (x_si w2 31 6 (nI c)) := xF_tr (xF_w F1 (by unfold mBe; omega) (fun _ _ z => z) (fun _ _ z => z)) (xF_w (xI_tr F2 (xI_w F3 (by unfold mBe; omega))) (fun _ _ z => z) (fun _ _ z => z) (fun _ _ z => z.elim))
      refine hq _ FF (sh_I F3 h2) (JC_I F3 (by omega) (by omega) hJ) (fun j hj => ⟨fun z => (by cases z), fun _ => ⟨0, by omega, ?_⟩⟩) (by rw [y_i_si, if_pos ⟨rfl, rfl⟩, iI_n])
      rw [kn0_len] at hj
      rw [xI_i F3 35 j (by omega), hz j hj]; rfl
    | succ d ih =>
      intro c w2 o2 F2 hJ hz hc
      have h2 := sh_I F2 h1
      have e3 : x_i w2 P 3 = nI g := (xI_i F2 P 3 (by unfold mBe; omega)).trans S1.1.2.2.2.1
      have e8 : x_i w2 (P + 3) (c + 1) = mask (cs.getD c []) := (xI_i F2 (P + 3) (c + 1) (by unfold mBe; omega)).trans (PS_sets S1 c (by omega))
      refine b164_20 ?_
      rw [e3, pK h2 hP, pr8 h2 hP, (pk3 h2 hP).1, (pk3 h2 hP).2, nI_clamp (show c + 1 < 2 ^ 31 by omega), e8, sh_k h2]
      refine ⟨rfl, fun z => absurd z (nI_nlt (by omega) (by omega)), fun _ => ⟨rfl, by omega, ⟨rfl, vp_in_nI (by omega) (by omega)⟩, rfl, ?_⟩⟩
      have e1 : nI (c + 1) = iI ((c : Int) + 1) := by rw [show (c : Int) + 1 = ((c + 1 : Nat) : Int) by omega, iI_n]
      have go := c165 (scr := scr) (v := (c : Int) + 1) (ls := cs.getD c []) (Q := x_back x_prog 164 36 39 [some (.ref 31), some (.ref P), none, some (.int (nI (c + 1)))] [] (fun pc L st w => x_R x_prog scr 164 pc L st w Q)) h2 hJ (by rw [kn0_len]; omega) (fun w3 u1 u2 u3 => b164_39 ?_)
      · rw [e1] at go ⊢
        exact go
      · rw [kn0_len] at u1 u3
        rw [nI_1]
        refine ih (c + 1) w3 none (xI_tr F2 (xI_w u1 (by unfold mBe; omega))) u2 (fun j hj => ?_) (by omega)
        by_cases ej : j = c
        · rw [ej]; exact u3
        · rw [xI_i u1 35 j (by omega)]; exact hz j (by omega)
  exact key g 0 w1 _ xI_rf ⟨a7, a5, a4, by unfold kn0; simp, fun j hj => absurd hj (by unfold kn0; simp)⟩ (fun j hj => by omega) (by omega)
end X76
