/-! Judging, on the reference's side: lines, finding, dropping, knowing. -/
section X79
variable {scr : Nat × (Nat → Int32)} {w : xW} {Q : xO → xW → Prop} {w1 : xW} {n c g d V l i k last : Nat} {cs : List (List Int)} {tk ls : List Int} {KL : List xKn} {v hi o : Int} {tv : Nat → Int} {nm : List Nat} {o1 o2 o3 o4 o5 o6 : Option Value}
/-- the reference's tokens -/
def TR (w : xW) (tk : List Int) : Prop := x_i w 36 24 = nI tk.length ∧ ∀ k, k < tk.length → x_i w 47 k = iI (tA tk k)
theorem TR_I {m : Nat → Nat → Prop} (q : xI m w w1) (h1 : ¬ m 36 24) (h2 : ∀ k, ¬ m 47 k) (h : TR w tk) : TR w1 tk := ⟨(xI_i q 36 24 h1).trans h.1, fun k hk => (xI_i q 47 k (h2 k)).trans (h.2 k hk)⟩
/-- a known clause's literals -/
def RL (w : xW) (j : Nat) (ls : List Int) : Prop := x_i w 67 j = nI ls.length ∧ ∀ k, k < ls.length → x_i w 68 (16 * j + k) = iI (ls.getD k 0)
theorem RL_I {m : Nat → Nat → Prop} (q : xI m w w1) (h1 : ¬ m 67 c) (h2 : ∀ k, ¬ m 68 k) (h : RL w c ls) : RL w1 c ls := ⟨(xI_i q 67 c h1).trans h.1, fun k hk => (xI_i q 68 _ (h2 _)).trans (h.2 k hk)⟩
/-- what the reference knows -/
def JR (w : xW) (KL : List xKn) : Prop := x_i w 36 50 = nI KL.length ∧ KL.length ≤ 540 ∧ ∀ j, j < KL.length → x_i w 66 j = iI (kn KL j).1 ∧ RL w j (kn KL j).2.1 ∧ x_i w 69 j = b32 (kn KL j).2.2
theorem JR_I {m : Nat → Nat → Prop} (q : xI m w w1) (h1 : ¬ m 36 50) (h2 : ∀ k, ¬ m 66 k ∧ ¬ m 67 k ∧ ¬ m 68 k ∧ ¬ m 69 k) (h : JR w KL) : JR w1 KL :=
  ⟨(xI_i q 36 50 h1).trans h.1, h.2.1, fun j hj => ⟨(xI_i q 66 j (h2 j).1).trans (h.2.2 j hj).1, RL_I q (h2 j).2.1 (fun k => (h2 k).2.2.1) (h.2.2 j hj).2.1, (xI_i q 69 j (h2 j).2.2.2).trans (h.2.2 j hj).2.2⟩⟩
theorem iI_0le (h1 : -2147483648 ≤ v) (h2 : v < 2147483648) : (0 : Int32) ≤ iI v ↔ 0 ≤ v := by
  rw [Int32.le_iff_toInt_le, iI_toInt h1 h2]
  exact Iff.rfl
theorem iI_lt0 (h1 : -2147483648 ≤ v) (h2 : v < 2147483648) : iI v < (0 : Int32) ↔ v < 0 := by
  rw [Int32.lt_iff_toInt_lt, iI_toInt h1 h2]
  exact Iff.rfl
/-- behindZero -/
theorem c180 (h : SH w) (hT : TR w tk) (hv : TV tk) (hk : k ≤ tk.length) (hq : Q (.inl (some (.int (iI (bzz tk k))))) w) : x_R x_prog scr 180 0 [some (.ref 36), some (.int (nI k)), o2] [] w Q := by
  have hl := hv.1
  have key : ∀ (d k : Nat) (o1 : Option Value), k + d = tk.length → Q (.inl (some (.int (iI (bz tk d k))))) w → x_R x_prog scr 180 2 [some (.ref 36), o1, some (.int (nI k))] [] w Q := by
    intro d
    induction d with
    | zero =>
      intro k o1 hk hq
      refine b180_2 ?_
      rw [hT.1, sh_k h]
      exact ⟨rfl, fun _ => ⟨rfl, fun _ => hq, fun z => absurd (nI_le (by omega) (by omega)) z⟩, fun z => absurd (nI_le (by omega) (by omega)) z⟩
    | succ d ih =>
      intro k o1 hk hq
      have hr := tA_rg hv k
      have g0 : iI (tA tk k) = 0 ↔ tA tk k = 0 := iI_eq (b := 0) (by omega) (by omega) (by omega) (by omega)
      have g10 : iI (tA tk k) = 10000 ↔ tA tk k = 10000 := iI_eq (b := 10000) (by omega) (by omega) (by omega) (by omega)
      have vp : vp_in (nI k) 2000 := vp_in_nI (by omega) (by omega)
      have hnc : ¬ nI tk.length ≤ nI k := nI_ge (by omega) (by omega)
      unfold bz at hq
      refine b180_2 ?_
      rw [hT.1, sr36_25 h, sh_k h, sh_l h, nI_clamp (show k < 2 ^ 31 by omega), hT.2 k (by omega), g0, g10, nI_1]
      refine ⟨rfl, fun z => absurd z hnc, fun _ => ⟨rfl, by decide, ⟨rfl, vp⟩, fun z => ⟨rfl, fun y => absurd y hnc, fun _ => ⟨rfl, by decide, ⟨rfl, vp⟩, fun y => absurd z y, fun _ => ?_⟩⟩, fun z => ⟨rfl, by decide, ⟨rfl, vp⟩, fun y => ⟨rfl, fun x => absurd x hnc, fun _ => ⟨rfl, by decide, ⟨rfl, vp⟩, fun _ => ?_, fun x => absurd z x⟩⟩, fun y => ?_⟩⟩⟩
      · rw [if_pos z, show (k : Int) + 1 = ((k + 1 : Nat) : Int) by omega, iI_n] at hq
        exact hq
      · rw [if_neg z, if_pos y] at hq
        exact hq
      · rw [if_neg z, if_neg y] at hq
        exact ih (k + 1) _ (by omega) hq
  exact b180_0 (key (tk.length - k) k _ (by omega) hq)
/-- lineEnd of the reference -/
theorem c179 (h : SH w) (hT : TR w tk) (hv : TV tk) (hi : i < tk.length) (hq : Q (.inl (some (.int (iI (lnE tk i))))) w) : x_R x_prog scr 179 0 [some (.ref 36), some (.int (nI i)), o2] [] w Q := by
  have hl := hv.1
  have hr := tA_rg hv i
  have hr1 := tA_rg hv (i + 1)
  have g10 : iI (tA tk i) = 10000 ↔ tA tk i = 10000 := iI_eq (b := 10000) (by omega) (by omega) (by omega) (by omega)
  have ge : nI (i + 1) = nI tk.length ↔ i + 1 = tk.length := nI_eq (by omega) (by omega)
  have vp : vp_in (nI i) 2000 := vp_in_nI (by omega) (by omega)
  have ea : nI i + 2 = nI (i + 2) := by rw [show (2 : Int32) = nI 2 from rfl, nI_add]
  unfold lnE at hq
  refine b179_0 ?_
  rw [hT.1, sr36_25 h, sh_k h, sh_l h, nI_clamp (show i < 2 ^ 31 by omega), hT.2 i hi, g10, nI_1, ge, ea]
  refine ⟨rfl, by decide, ⟨rfl, vp⟩, fun z => ?_, fun z => ⟨rfl, fun y => ?_, fun y => ?_⟩⟩
  · rw [if_pos (Or.inl z)] at hq
    exact hq
  · rw [if_neg (fun x => x.elim z y)] at hq
    have g11 : iI (tA tk (i + 1)) = 10000 ↔ tA tk (i + 1) = 10000 := iI_eq (b := 10000) (by omega) (by omega) (by omega) (by omega)
    rw [nI_clamp (show i + 1 < 2 ^ 31 by omega), hT.2 (i + 1) (by omega), g11]
    refine ⟨rfl, by decide, ⟨rfl, vp_in_nI (N := 2000) (by omega) (by omega)⟩, fun x => ⟨rfl, c180 h hT hv (by omega) (b179_53 ?_)⟩, fun x => ⟨rfl, ?_⟩⟩
    · rw [if_neg x] at hq
      rcases bz_rg (tk := tk) (tk.length - (i + 1)) (i + 1) with e | ⟨e, e1, e2, e3, e4, e5⟩
      · have e : bzz tk (i + 1) = -1 := e
        rw [e, if_pos (by decide)] at hq
        rw [e, iI_0le (by omega) (by omega)]
        exact ⟨fun u => absurd u (by decide), fun _ => b179_67 hq⟩
      · have e1 : bzz tk (i + 1) = (e : Int) + 1 := e1
        have et : ((e : Int) + 1).toNat = e + 1 := by omega
        rw [e1, if_neg (by omega), et] at hq
        rw [e1, iI_0le (by omega) (by omega), show (e : Int) + 1 = ((e + 1 : Nat) : Int) by omega, iI_n]
        exact ⟨fun _ => ⟨by rw [sh_k h]; rfl, c180 h hT hv (by omega) (b179_67 hq)⟩, fun u => absurd (by omega) u⟩
    · rw [if_pos (Classical.not_not.mp x)] at hq
      exact c180 h hT hv (by omega) (b179_45 hq)
  · rw [if_pos (Or.inr (Classical.not_not.mp y))] at hq
    exact hq
/-- find of the reference -/
theorem c182 (h : SH w) (hJ : JR w KL) (hK : KI KL hi) (hv : -10000 ≤ v ∧ v ≤ 10000) (hq : Q (.inl (some (.int (iI (fdk KL v))))) w) : x_R x_prog scr 182 0 [some (.ref 36), some (.int (iI v)), o2, o3] [] w Q := by
  obtain ⟨a1, a2, a3⟩ := hJ
  have key : ∀ (d j : Nat) (f : Int), j + d = KL.length → ((f = -1 ∧ ∀ i, i < j → ¬ ((kn KL i).1 = v ∧ (kn KL i).2.2 = true)) ∨ ∃ i : Nat, f = (i : Int) ∧ i < j ∧ (kn KL i).1 = v ∧ (kn KL i).2.2 = true) → x_R x_prog scr 182 4 [some (.ref 36), some (.int (iI v)), some (.int (iI f)), some (.int (nI j))] [] w Q := by
    intro d
    induction d with
    | zero =>
      intro j f hj hf
      have e : fdk KL v = f := by
        rcases hf with ⟨f1, f2⟩ | ⟨i, f1, f2, f3, f4⟩
        · rw [f1]; exact fdk_no (fun i hi => f2 i (by omega))
        · rw [f1]; exact fdk_at hK (by omega) f3 f4
      rw [e] at hq
      refine b182_4 ?_
      rw [a1, sh_k h]
      exact ⟨rfl, fun _ => hq, fun z => absurd (nI_le (by omega) (by omega)) z⟩
    | succ d ih =>
      intro j f hj hf
      obtain ⟨b1, b2, b3⟩ := a3 j (by omega)
      have hkn := hK.1 j (by omega)
      have hh := hK.2.2
      have ge : iI (kn KL j).1 = iI v ↔ (kn KL j).1 = v := iI_eq (by omega) (by omega) (by omega) (by omega)
      have gb : b32 (kn KL j).2.2 = 0 ↔ ¬ (kn KL j).2.2 = true := by
        cases (kn KL j).2.2 <;> decide
      have vp : vp_in (nI j) 720 := vp_in_nI (by omega) (by omega)
      have skip : ¬ ((kn KL j).1 = v ∧ (kn KL j).2.2 = true) → x_R x_prog scr 182 4 [some (.ref 36), some (.int (iI v)), some (.int (iI f)), some (.int (nI (j + 1)))] [] w Q := by
        intro hn
        refine ih (j + 1) f (by omega) ?_
        rcases hf with ⟨f1, f2⟩ | ⟨i, f1, f2, f3⟩
        · refine Or.inl ⟨f1, fun i hi => ?_⟩
          by_cases e : i = j
          · rw [e]; exact hn
          · exact f2 i (by omega)
        · exact Or.inr ⟨i, f1, by omega, f3⟩
      refine b182_4 ?_
      rw [a1, sr36_54 h, sr36_51 h, sh_k h, sh_l h, nI_clamp (show j < 2 ^ 31 by omega), b1, b3, ge, gb, nI_1]
      refine ⟨rfl, fun z => absurd z (nI_ge (by omega) (by omega)), fun _ => ⟨rfl, by decide, ⟨rfl, vp⟩, fun z => skip (fun y => z y.2), fun z => ⟨rfl, by decide, ⟨rfl, vp⟩, fun y => skip (fun x => y x.1), fun y => ?_⟩⟩⟩
      have go := ih (j + 1) (j : Int) (by omega) (Or.inr ⟨j, rfl, by omega, Classical.not_not.mp y, Classical.not_not.mp z⟩)
      rw [iI_n] at go
      exact go
  exact b182_0 (key KL.length 0 (-1) (by omega) (Or.inl ⟨rfl, fun i hi => by omega⟩))
/-- drops of the reference -/
theorem c181 (h : SH w) (hJ : JR w KL) (hK : KI KL hi) (hT : TR w tk) (hv : TV tk) (hz : ∃ e, i + 2 ≤ e ∧ e < tk.length ∧ tA tk e = 0) (hq : ∀ w', xI (fun p _ => p = 69) w w' → JR w' (dra tk (tk.length - (i + 2)) (i + 2) KL).2 → KI (dra tk (tk.length - (i + 2)) (i + 2) KL).2 hi → (dra tk (tk.length - (i + 2)) (i + 2) KL).2.length = KL.length → Q (.inl (some (.int (b32 (dra tk (tk.length - (i + 2)) (i + 2) KL).1)))) w') : x_R x_prog scr 181 0 [some (.ref 36), some (.int (nI i)), o2, o3] [] w Q := by
  have hl := hv.1
  obtain ⟨ez, z1, z2, z3⟩ := hz
  have key : ∀ (d k : Nat) (KL : List xKn) (w : xW) (o1 o3 : Option Value), SH w → JR w KL → KI KL hi → TR w tk → k + d = tk.length → k ≤ ez → (∀ w', xI (fun p _ => p = 69) w w' → JR w' (dra tk d k KL).2 → KI (dra tk d k KL).2 hi → (dra tk d k KL).2.length = KL.length → Q (.inl (some (.int (b32 (dra tk d k KL).1)))) w') → x_R x_prog scr 181 4 [some (.ref 36), o1, some (.int (nI k)), o3] [] w Q := by
    intro d
    induction d with
    | zero => intro k KL w o1 o3 h hJ hK hT hk he hq; omega
    | succ d ih =>
      intro k KL w o1 o3 h hJ hK hT hk he hq
      have hr := tA_rg hv k
      have g0 : iI (tA tk k) = 0 ↔ tA tk k = 0 := iI_eq (b := 0) (by omega) (by omega) (by omega) (by omega)
      have vp : vp_in (nI k) 2000 := vp_in_nI (by omega) (by omega)
      unfold dra at hq
      refine b181_4 ?_
      rw [sr36_25 h, sh_k h, sh_l h, nI_clamp (show k < 2 ^ 31 by omega), hT.2 k (by omega), g0]
      refine ⟨rfl, by decide, ⟨rfl, vp⟩, fun z => ?_, fun z => ⟨rfl, by decide, ⟨rfl, vp⟩, rfl, c182 h hJ hK (by omega) (b181_23 ?_)⟩⟩
      · rw [if_pos z] at hq
        exact ⟨Or.inr rfl, hq w xI_rf hJ hK rfl⟩
      · rw [if_neg z] at hq
        rcases fdk_rg KL (tA tk k) with ⟨e, -⟩ | ⟨j, e, e1, e2, e3⟩
        · rw [e, if_pos (by decide)] at hq
          rw [e, iI_0le (by omega) (by omega)]
          exact ⟨fun y => absurd y (by decide), fun _ => ⟨Or.inl rfl, hq w xI_rf hJ hK rfl⟩⟩
        · have h540 := hJ.2.1
          rw [e, if_neg (show ¬ (j : Int) < 0 by omega)] at hq
          have et : ((j : Int)).toNat = j := rfl
          rw [et] at hq
          rw [e, iI_0le (by omega) (by omega), iI_n, sr36_54 h, sh_k h, sh_l h, nI_clamp (show j < 2 ^ 31 by omega), nI_1]
          refine ⟨fun _ => ?_, fun y => absurd (by omega) y⟩
          have F : xI (fun p _ => p = 69) w (x_si w 69 j 0) := xI_si xI_rf rfl
          refine ⟨rfl, by decide, ⟨rfl, vp_in_nI (N := 720) (by omega) (by omega), Or.inl rfl⟩, ih (k + 1) (ddr KL j) _ _ _ (sh_I F h) ?_ (KI_ddr hK e1) (TR_I F (by omega) (by omega) hT) (by omega) ?_ (fun w' u1 u2 u3 u4 => hq w' (xI_tr F u1) u2 u3 (by rw [u4, ddr_len]))⟩
          · obtain ⟨a1, a2, a3⟩ := hJ
            refine ⟨by rw [xI_i F 36 50 (by omega), ddr_len]; exact a1, by rw [ddr_len]; exact a2, fun i hi => ?_⟩
            rw [ddr_len] at hi
            rw [kn_ddr e1, xI_i F 66 i (by omega), y_i_si]
            by_cases ej : i = j
            · rw [if_pos ej, if_pos ⟨rfl, ej⟩, ej]
              exact ⟨(a3 j e1).1, RL_I F (by omega) (by omega) (a3 j e1).2.1, rfl⟩
            · rw [if_neg ej, if_neg (fun y => ej y.2)]
              exact ⟨(a3 i hi).1, RL_I F (by omega) (by omega) (a3 i hi).2.1, (a3 i hi).2.2⟩
          · apply Classical.byContradiction
            intro y
            have : k = ez := by omega
            exact z (by rw [this]; exact z3)
  have ea : nI i + 2 = nI (i + 2) := by rw [show (2 : Int32) = nI 2 from rfl, nI_add]
  refine b181_0 ?_
  rw [ea]
  exact key (tk.length - (i + 2)) (i + 2) KL w _ _ h hJ hK hT (by omega) z1 hq
/-- know -/
theorem c178 (h : SH w) (hJ : JR w KL) (hlt : KL.length < 540) (hls : ls.length ≤ 16) (hL : ∀ k, k < ls.length → x_i w 68 (16 * KL.length + k) = iI (ls.getD k 0)) (hq : ∀ w', xI (fun p k => (p = 36 ∧ k = 50) ∨ ((p = 66 ∨ p = 67 ∨ p = 69) ∧ k = KL.length)) w w' → JR w' (KL ++ [(v, ls, true)]) → Q (.inl none) w') : x_R x_prog scr 178 0 [some (.ref 36), some (.int (iI v)), some (.int (nI ls.length))] [] w Q := by
  obtain ⟨a1, a2, a3⟩ := id hJ
  have e1 : ∀ v, x_i (x_si w 66 KL.length v) 36 50 = nI KL.length := fun v => by rw [y_i_si, if_neg (by omega)]; exact a1
  have e2 : ∀ v v', x_i (x_si (x_si w 66 KL.length v) 67 KL.length v') 36 50 = nI KL.length := fun v v' => by rw [y_i_si, if_neg (by omega)]; exact e1 v
  have vp : vp_in (nI KL.length) 720 := vp_in_nI (by omega) (by omega)
  refine b178_0 ?_
  rw [sr36_51 h, sr36_52 h, sr36_54 h, sh_k h, sh_l h, a1, nI_clamp (show KL.length < 2 ^ 31 by omega), e1, nI_clamp (show KL.length < 2 ^ 31 by omega), e2, nI_clamp (show KL.length < 2 ^ 31 by omega)]
  refine ⟨rfl, by decide, rfl, ⟨rfl, vp⟩, rfl, by decide, rfl, ⟨rfl, vp⟩, rfl, by decide, rfl, ⟨rfl, vp, Or.inr rfl⟩, b178_30 ?_⟩
  generalize hw1 : x_si (x_si (x_si w 66 KL.length (iI v)) 67 KL.length (nI ls.length)) 69 KL.length 1 = w1
  have F1 : xI (fun p k => (p = 66 ∨ p = 67 ∨ p = 69) ∧ k = KL.length) w w1 := by rw [← hw1]; exact xI_si (xI_si (xI_si xI_rf ⟨by omega, rfl⟩) ⟨by omega, rfl⟩) ⟨by omega, rfl⟩
  have b1 : x_i w1 66 KL.length = iI v := by rw [← hw1, y_i_si, if_neg (by omega), y_i_si, if_neg (by omega), y_i_si, if_pos ⟨rfl, rfl⟩]
  have b2 : x_i w1 67 KL.length = nI ls.length := by rw [← hw1, y_i_si, if_neg (by omega), y_i_si, if_pos ⟨rfl, rfl⟩]
  have b3 : x_i w1 69 KL.length = 1 := by rw [← hw1, y_i_si, if_pos ⟨rfl, rfl⟩]
  clear hw1
  have h1 := sh_I F1 h
  have a50 : x_i w1 36 50 = nI KL.length := (xI_i F1 36 50 (by omega)).trans a1
  rw [a50, sh_k h1, nI_1]
  refine ⟨rfl, rfl, ?_⟩
  have F2 : xI (fun p k => p = 36 ∧ k = 50) w1 (x_si w1 36 50 (nI (KL.length + 1))) := xI_si xI_rf ⟨rfl, rfl⟩
  have F : xI (fun p k => (p = 36 ∧ k = 50) ∨ ((p = 66 ∨ p = 67 ∨ p = 69) ∧ k = KL.length)) w (x_si w1 36 50 (nI (KL.length + 1))) := xI_tr (xI_w F1 (by omega)) (xI_w F2 (by omega))
  have hl1 : (KL ++ [(v, ls, true)]).length = KL.length + 1 := by simp
  refine hq _ F ⟨by rw [y_i_si, if_pos ⟨rfl, rfl⟩, hl1], by omega, fun j hj => ?_⟩
  rw [hl1] at hj
  rw [kn_app]
  by_cases e : j < KL.length
  · rw [if_pos e, xI_i F 66 j (by omega), xI_i F 69 j (by omega)]
    exact ⟨(a3 j e).1, RL_I F (by omega) (by omega) (a3 j e).2.1, (a3 j e).2.2⟩
  · have e2 : j = KL.length := by omega
    rw [if_neg e, if_pos e2, e2, xI_i F2 66 _ (by omega), xI_i F2 69 _ (by omega)]
    exact ⟨b1, ⟨(xI_i F2 67 _ (by omega)).trans b2, fun k hk => (xI_i F 68 _ (by omega)).trans (hL k hk)⟩, b3⟩
def mKn : Nat → Nat → Prop := fun p k => (p = 36 ∧ k = 50) ∨ (66 ≤ p ∧ p ≤ 69)
/-- knowFormula -/
theorem c177 (hg : g ≤ 40) (hgl : g ≤ cs.length) (hl : cs.length ≤ 63) (hco : cok cs) (h : SH w) (h6 : x_i w 36 6 = nI g) (hR : ∀ c, c < cs.length → RC w (c + 1) (cs.getD c [])) (hq : ∀ w', xI mKn w w' → JR w' (kn0 cs g) → Q (.inl none) w') : x_R x_prog scr 177 0 [some (.ref 36), o1, o2] [] w Q := by
  -- copying the literals of one clause
  have cpy : ∀ (c : Nat) (w2 : xW), c < g → xI mKn w w2 → JR w2 (kn0 cs c) → (∀ w', xI mKn w w' → JR w' (kn0 cs (c + 1)) → x_R x_prog scr 177 7 [some (.ref 36), some (.int (nI (c + 2))), none] [] w' Q) → ∀ (d k : Nat) (w3 : xW), xI (fun p k => p = 68 ∧ 16 * c ≤ k) w2 w3 → k + d = (cs.getD c []).length → (∀ j, j < k → x_i w3 68 (16 * c + j) = iI ((cs.getD c []).getD j 0)) → x_R x_prog scr 177 17 [some (.ref 36), some (.int (nI (c + 1))), some (.int (nI k))] [] w3 Q := by
    intro c w2 hc F2 hJ nx d
    have hcl := cok_getD hco c
    have hl6 := hcl.1
    have hRC := hR c (by omega)
    induction d with
    | zero =>
      intro k w3 F3 hk hL
      have F23 : xI mKn w w3 := xI_tr F2 (xI_w F3 (by unfold mKn; omega))
      have h3 := sh_I F23 h
      have r39 : x_i w3 39 (c + 1) = nI (cs.getD c []).length := (xI_i F23 39 (c + 1) (by unfold mKn; omega)).trans hRC.1
      have J3 : JR w3 (kn0 cs c) := by
        obtain ⟨a1, a2, a3⟩ := hJ
        refine ⟨(xI_i F3 36 50 (by omega)).trans a1, a2, fun j hj => ?_⟩
        obtain ⟨b1, b2, b3⟩ := a3 j hj
        rw [kn0_len] at hj
        rw [kn_kn0 cs c j hj] at b2 ⊢
        have hl6j := (cok_getD hco j).1
        refine ⟨(xI_i F3 66 j (by omega)).trans (by rw [b1, kn_kn0 cs c j hj]), ⟨(xI_i F3 67 j (by omega)).trans b2.1, fun k hk => (xI_i F3 68 _ (by dsimp only at hk; omega)).trans (b2.2 k hk)⟩, (xI_i F3 69 j (by omega)).trans (by rw [b3, kn_kn0 cs c j hj])⟩
      refine b177_17 ?_
      rw [sr36_9 h3, sh_k h3, sh_l h3, nI_clamp (show c + 1 < 2 ^ 31 by omega), r39]
      have vp : vp_in (nI (c + 1)) 64 := vp_in_nI (by omega) (by omega)
      have e1 : nI (c + 1) = iI ((c : Int) + 1) := by rw [show (c : Int) + 1 = ((c + 1 : Nat) : Int) by omega, iI_n]
      refine ⟨rfl, by decide, ⟨rfl, vp⟩, fun _ => ⟨rfl, by decide, ⟨rfl, vp⟩, rfl, ?_⟩, fun z => absurd (nI_le (by omega) (by omega)) z⟩
      have go := c178 (scr := scr) (v := (c : Int) + 1) (ls := cs.getD c []) (Q := x_back x_prog 177 66 69 [some (.ref 36), some (.int (nI (c + 1))), some (.int (nI k))] [] (fun pc L st w => x_R x_prog scr 177 pc L st w Q)) h3 J3 (by rw [kn0_len]; omega) (by omega) (by rw [kn0_len]; intro j hj; exact hL j (by omega)) (fun w4 u1 u2 => b177_69 ?_)
      · rw [← e1] at go
        exact go
      · rw [nI_1]
        exact nx w4 (xI_tr F23 (xI_w u1 (by unfold mKn; omega))) u2
    | succ d ih =>
      intro k w3 F3 hk hL
      have F23 : xI mKn w w3 := xI_tr F2 (xI_w F3 (by unfold mKn; omega))
      have h3 := sh_I F23 h
      have r39 : x_i w3 39 (c + 1) = nI (cs.getD c []).length := (xI_i F23 39 (c + 1) (by unfold mKn; omega)).trans hRC.1
      have r38 : x_i w3 38 (6 * (c + 1) + k) = iI ((cs.getD c []).getD k 0) := (xI_i F23 38 _ (by unfold mKn; omega)).trans (hRC.2 k (by omega))
      have r50 : x_i w3 36 50 = nI c := by rw [xI_i F3 36 50 (by omega), hJ.1, kn0_len]
      have e6 : (6 : Int32) * nI (c + 1) + nI k = nI (6 * (c + 1) + k) := by rw [show (6 : Int32) = nI 6 from rfl, pk_mul, nI_add]
      have e16 : (16 : Int32) * nI c + nI k = nI (16 * c + k) := by rw [show (16 : Int32) = nI 16 from rfl, pk_mul, nI_add]
      refine b177_17 ?_
      rw [sr36_9 h3, sr36_53 h3, sr36_8 h3, sh_k h3, sh_l h3, nI_clamp (show c + 1 < 2 ^ 31 by omega), r39, r50, e6, e16, nI_clamp (show 6 * (c + 1) + k < 2 ^ 31 by omega), nI_clamp (show 16 * c + k < 2 ^ 31 by omega), r38, nI_1]
      have vp : vp_in (nI (c + 1)) 64 := vp_in_nI (by omega) (by omega)
      refine ⟨rfl, by decide, ⟨rfl, vp⟩, fun z => absurd z (nI_ge (by omega) (by omega)), fun _ => ⟨rfl, by decide, rfl, rfl, by decide, ⟨rfl, vp_in_nI (N := 384) (by omega) (by omega)⟩, ⟨rfl, vp_in_nI (N := 11520) (by omega) (by omega)⟩, ih (k + 1) _ (xI_si F3 ⟨rfl, by omega⟩) (by omega) (fun j hj => ?_)⟩⟩
      rw [y_i_si]
      by_cases ej : j = k
      · rw [if_pos ⟨rfl, by omega⟩, ej]
      · rw [if_neg (by omega)]
        exact hL j (by omega)
  have key : ∀ (d c : Nat) (w2 : xW) (o2 : Option Value), xI mKn w w2 → JR w2 (kn0 cs c) → c + d = g → x_R x_prog scr 177 7 [some (.ref 36), some (.int (nI (c + 1))), o2] [] w2 Q := by
    intro d
    induction d with
    | zero =>
      intro c w2 o2 F2 hJ hc
      have ec : c = g := by omega
      have h2 := sh_I F2 h
      have e6 : x_i w2 36 6 = nI g := (xI_i F2 36 6 (by unfold mKn; omega)).trans h6
      refine b177_7 ?_
      rw [e6, sh_k h2]
      exact ⟨rfl, fun _ => hq w2 F2 (by rw [← ec]; exact hJ), fun z => absurd (nI_lt (by omega) (by omega)) z⟩
    | succ d ih =>
      intro c w2 o2 F2 hJ hc
      have h2 := sh_I F2 h
      have e6 : x_i w2 36 6 = nI g := (xI_i F2 36 6 (by unfold mKn; omega)).trans h6
      refine b177_7 ?_
      rw [e6, sh_k h2]
      exact ⟨rfl, fun z => absurd z (nI_nlt (by omega) (by omega)), fun _ => cpy c w2 (by omega) F2 hJ (fun w' u1 u2 => ih (c + 1) w' none u1 u2 (by omega)) (cs.getD c []).length 0 w2 xI_rf (by omega) (fun j hj => by omega)⟩
  exact b177_0 ⟨by rw [sh_k h]; rfl, key g 0 _ none (xI_si xI_rf (Or.inl ⟨rfl, rfl⟩)) ⟨by rw [y_i_si, if_pos ⟨rfl, rfl⟩]; rfl, by unfold kn0; simp, fun j hj => absurd hj (by unfold kn0; simp)⟩ (by omega)⟩
end X79
