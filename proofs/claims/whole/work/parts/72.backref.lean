/-! goBack of the reference. -/
theorem sel_hI {cs : List (List Int)} {tv : Nat → Int} {r : (Nat → Int) × xTk × Nat} (hco : cok cs) (hT : TI cs tv r.2.1) (z : ¬ r.2.2 = 0) : sel (ndr cs (rtk r) (rtk r).length nob) (rtk r) (rtk r).length 0 = hI cs r := by
  have ek : rtk r = r.2.1 ++ [(r.2.2, 0)] := by unfold rtk; rw [if_neg z]
  have hlk : (rtk r).length = r.2.1.length + 1 := by rw [ek]; simp
  have hlast : tg (rtk r) r.2.1.length = (r.2.2, 0) := by rw [ek, tg_app, if_neg (by omega), if_pos rfl]
  have hnd : ∀ i, ndr cs (rtk r) (r.2.1.length + 1) nob i = if i = r.2.1.length then true else nds cs r.2.1 r.2.1.length (nvc cs r.2.2) i := by
    intro i
    show (if i = r.2.1.length then nd0 nob (tg (rtk r) r.2.1.length).2 else ndr cs (rtk r) r.2.1.length (if nd0 nob (tg (rtk r) r.2.1.length).2 = true then nvx nob (cg cs (tg (rtk r) r.2.1.length).1) (tg (rtk r) r.2.1.length).2 else nob) i) = _
    rw [hlast]
    have e0 : nd0 nob (0 : Int) = true := rfl
    show (if i = r.2.1.length then nd0 nob 0 else ndr cs (rtk r) r.2.1.length (if nd0 nob 0 = true then nvx nob (cg cs r.2.2) 0 else nob) i) = _
    rw [e0, if_pos rfl, nvx_0 hco, ndr_nds (tak := r.2.1) r.2.1.length _ (fun j hj => ⟨by rw [ek]; exact tg_pre hj, (hT.1 j hj).2.2.1.1⟩)]
  rw [hlk, sel_app]
  unfold hI
  have e1 : sel (ndr cs (rtk r) (r.2.1.length + 1) nob) (rtk r) r.2.1.length 0 = sel (nds cs r.2.1 r.2.1.length (nvc cs r.2.2)) r.2.1 r.2.1.length 0 := sel_cg _ _ (fun i i1 i2 => ⟨by rw [hnd i, if_neg (by omega)], fun _ => by rw [ek, tg_pre (by omega)]⟩)
  rw [e1, Nat.zero_add]
  congr 1
  show (if ndr cs (rtk r) (r.2.1.length + 1) nob r.2.1.length = true then ((tg (rtk r) r.2.1.length).1 : Int) :: [] else []) = _
  rw [hnd, if_pos rfl, if_pos rfl, hlast]
section X72
variable {scr : Nat × (Nat → Int32)} {w : xW} {Q : xO → xW → Prop} {w1 : xW} {n c g d V e : Nat} {hf hs : Bool} {al mk sp nd bn : Nat → Bool} {tv : Nat → Int} {tak : xTk} {cs : List (List Int)} {st : xSt} {H0 HT gr : List Int} {tr : List Nat} {o v : Int} {o1 o2 o3 o4 o5 : Option Value}
/-- the hints of all lines -/
def HLs (w : xW) (HT H0 : List Int) : List xLn → Prop
  | [] => HL w HT 0 0 H0
  | x :: r => HL w HT x.1 (tot H0 r) (hx x) ∧ HLs w HT H0 r
theorem HLs_I {m : Nat → Nat → Prop} {e : List Int} (q : xI m w w1) : ∀ ln : List xLn, HLs w HT H0 ln → (¬ m 58 0 ∧ ¬ m 59 0) → (∀ x ∈ ln, ¬ m 58 x.1 ∧ ¬ m 59 x.1) → HLs w1 (HT ++ e) H0 ln
  | [], h, h0, _ => HL_I q h h0.1 h0.2
  | x :: r, h, h0, hx => ⟨HL_I q h.1 (hx x List.mem_cons_self).1 (hx x List.mem_cons_self).2, HLs_I q r h.2 h0 (fun y hy => hx y (List.mem_cons_of_mem _ hy))⟩
/-- the ways that were found, steps s to e having been gone through -/
def WYS (w : xW) (st : xSt) (e s : Nat) (mk sp : Nat → Bool) : Prop := ∀ t, t < 81 → x_i w 63 t = nI (if s < t ∧ t ≤ e then wy st mk sp (t - 1) else 0)
def mGb : Nat → Nat → Prop := fun p k => (p = 36 ∧ (k = 32 ∨ k = 33 ∨ k = 34 ∨ k = 39 ∨ k = 43)) ∨ (49 ≤ p ∧ p ≤ 63)
theorem c140_l (hl : cs.length ≤ 63) (hN : NB g cs st) (he : e ≤ st.length) (h80 : st.length ≤ 80) :
    ∀ (s : Nat) (mk sp : Nat → Bool) (ln : List xLn) (HT : List Int) (w : xW) (o1 o3 : Option Value), s ≤ e → SH w → RP w hf hs V g cs st → RG w cs (alv g st s) mk → HG w HT → HLs w HT H0 ln → HT.length = tot H0 ln → BI g st H0 e s mk sp ln → WYS w st e s mk sp →
    (¬ (bck cs g st s mk sp ln).1 = 0 → ∀ w', xI mGb w w' → Q (.inl (some (.int (nI (bck cs g st s mk sp ln).1)))) w') →
    ((bck cs g st s mk sp ln).1 = 0 → ∀ w' HT', xI mGb w w' → MA w' (bck cs g st s mk sp ln).2.1 → HG w' HT' → HLs w' HT' H0 (bck cs g st s mk sp ln).2.2.2 → HT'.length = tot H0 (bck cs g st s mk sp ln).2.2.2 → WYS w' st e 0 (bck cs g st s mk sp ln).2.1 (bck cs g st s mk sp ln).2.2.1 → Q (.inl (some (.int 0))) w') →
    x_R x_prog scr 140 54 [some (.ref 36), o1, some (.int (nI s)), o3] [] w Q := by
  have hce : cnA st e ≤ cnA st st.length := cnA_le _ _ he
  have hN1 := hN.1
  intro s
  induction s with
  | zero =>
    intro mk sp ln HT w o1 o3 hse h hP hG hH hL hHl hB hW hqF hqO
    exact b140_54 ⟨fun _ => hqO rfl w HT xI_rf hG.2.2.2.2.2 hH hL hHl hW, fun z => absurd (by decide) z⟩
  | succ s ih =>
    intro mk sp ln HT w o1 o3 hse h hP hG hH hL hHl hB hW hqF hqO
    obtain ⟨b1, b2, b3, b4, b5, b6, b7, b8⟩ := id hB
    have hco := hG.2.2.1
    have hNs := hN.2 s (by omega)
    have hcs : cnA st (s + 1) ≤ cnA st e := cnA_le _ _ hse
    have hcs' : cnA st (s + 1) = cnA st s + (if (sg st s).1 = true then 1 else 0) := rfl
    obtain ⟨e40, e41⟩ := hP.2.2 s (by omega)
    have ns : ¬ nI (s + 1) ≤ 0 := by rw [← nI_0, nI_leI (by omega) (by omega)]; omega
    have hab : (sg st s).2 ≤ 63 := by
      cases ha : (sg st s).1 with
      | true =>
        have := hNs.1 ha
        rw [if_pos ha] at hcs'
        omega
      | false =>
        rcases hNs.2 ha with z | z
        · omega
        · have := alv_le hN s (by omega) z
          have : cnA st s ≤ cnA st (s + 1) := cnA_le _ _ (by omega)
          omega
    have e40' : ∀ v, x_i (x_si w 49 (sg st s).2 v) 40 (s + 1) = b32 (sg st s).1 := fun v => by rw [y_i_si, if_neg (by omega)]; exact e40
    have e50' : ∀ v, x_i (x_si w 49 (sg st s).2 v) 50 (sg st s).2 = b32 (mk (sg st s).2) := fun v => by rw [y_i_si, if_neg (by omega)]; exact hG.2.2.2.2.2 _ (by omega)
    -- the world with the step undone
    have und : ∀ v : Int32, v = b32 (!(sg st s).1 && decide (0 < (sg st s).2)) → RG (x_si w 49 (sg st s).2 v) cs (alv g st s) mk := by
      intro v hv
      have F : xI (fun p _ => p = 49) w (x_si w 49 (sg st s).2 v) := xI_si xI_rf rfl
      refine ⟨(xI_i F 36 7 (by omega)).trans hG.1, hG.2.1, hco, fun c hc => RC_I F (hG.2.2.2.1 c hc) (by omega) (by omega), fun j hj => ?_, fun j hj => (xI_i F 50 j (by omega)).trans (hG.2.2.2.2.2 j hj)⟩
      rw [y_i_si, alv_back hN (by omega) j]
      by_cases ej : j = (sg st s).2
      · rw [if_pos ⟨rfl, ej⟩, if_pos ej, hv]
      · rw [if_neg (fun z => ej z.2), if_neg ej]; exact hG.2.2.2.2.1 j hj
    have Fv : ∀ v, xI (fun p _ => p = 49) w (x_si w 49 (sg st s).2 v) := fun v => xI_si xI_rf rfl
    unfold bck at hqF hqO
    -- nothing to show for this step
    have skip : ¬ ((sg st s).1 = true ∧ mk (sg st s).2 = true) → ∀ (v : Int32) (o1 o3 : Option Value), v = b32 (!(sg st s).1 && decide (0 < (sg st s).2)) → x_R x_prog scr 140 54 [some (.ref 36), o1, some (.int (nI s)), o3] [] (x_si w 49 (sg st s).2 v) Q := by
      intro hc v o1 o3 hv
      rw [if_neg hc] at hqF hqO
      have F := Fv v
      have hL' := HLs_I (e := []) F ln hL (by omega) (by omega)
      rw [List.append_nil] at hL'
      refine ih mk sp ln HT _ o1 o3 (by omega) (sh_I F h) (RP_F F (by omega) hP) (und v hv) (HG_I F hH (by omega) (by omega)) hL' hHl (BI_n hN he (by omega) hB hc) (fun t ht => ?_) (fun z w' q1 => hqF z w' (xI_tr (xI_w F (by unfold mGb; omega)) q1)) (fun z w' HT' q1 => hqO z w' HT' (xI_tr (xI_w F (by unfold mGb; omega)) q1))
      rw [xI_i F 63 t (by omega), hW t ht]
      congr 1
      by_cases et : t = s + 1
      · have e0 : wy st mk sp s = 0 := by unfold wy; rw [if_neg hc]
        rw [if_neg (by omega), if_pos (by omega), et, Nat.add_sub_cancel, e0]
      · by_cases h1 : s + 1 < t ∧ t ≤ e
        · rw [if_pos h1, if_pos (by omega)]
        · rw [if_neg h1, if_neg (by omega)]
    refine b140_54 ⟨fun z => absurd z ns, fun _ => ?_⟩
    simp only [sh_k h, sh_l h, sh_n h, kk36, sr36_2 h, sr36_8 h, sr36_9 h, sr36_12 h, sr36_13 h, sr36_14 h, sr36_15 h, sr36_21 h, sr36_22 h, sr36_23 h, sr36_25 h, sr36_27 h, sr36_28 h, sr36_29 h, sr36_30 h, sr36_31 h, sr36_35 h, sr36_36 h, sr36_37 h, sr36_38 h, sr36_40 h, sr36_41 h, sr36_42 h, sr36_44 h, sr36_45 h, sr36_46 h, sr36_47 h, sr36_48 h, sr36_49 h, sr36_51 h, sr36_52 h, sr36_53 h, sr36_54 h, sr36_55 h, kk40, ll40, kk41, ll41, kk49, ll49, kk50, ll50, kk63, ll63, true_and, and_true, false_and, and_false, and_self, not_false_eq_true, not_true_eq_false, true_implies, false_implies, implies_true, true_or, or_true, or_self, if_true, if_false, Nat.reduceEqDiff, reduceIte, eq_self, nI_clamp (show s + 1 < 2 ^ 31 by omega), vp_in_nI (show s + 1 < 81 by omega) (show 81 < 2 ^ 31 by omega), e40, e41, nI_clamp (show (sg st s).2 < 2 ^ 31 by omega), vp_in_nI (show (sg st s).2 < 64 by omega) (show 64 < 2 ^ 31 by omega), e40', e50', pk_m1]
    cases ha : (sg st s).1 with
    | false =>
      refine ⟨fun z => absurd rfl z, fun _ => ⟨fun z => ⟨fun _ => skip (by rw [ha]; rintro ⟨y, -⟩; cases y) 0 _ _ ?_, fun y => absurd rfl y⟩, fun z => ⟨fun _ => skip (by rw [ha]; rintro ⟨y, -⟩; cases y) 1 _ _ ?_, fun y => absurd rfl y⟩⟩⟩
      · rw [← nI_0, nI_leI (by omega) (by omega)] at z
        rw [decide_eq_false (by omega), Bool.and_false]; rfl
      · rw [← nI_0, nI_leI (by omega) (by omega)] at z
        rw [ha, decide_eq_true (by omega)]; rfl
    | true =>
      have hcA := hNs.1 ha
      rw [if_pos ha] at hcs'
      refine ⟨fun _ => ⟨fun z => absurd z (by decide), fun _ => ?_⟩, fun z => absurd (by decide) z⟩
      cases hm : mk (sg st s).2 with
      | false =>
        exact ⟨fun _ => skip (by rw [hm]; rintro ⟨-, y⟩; cases y) 0 _ _ (by rw [ha]; rfl), fun z => absurd rfl z⟩
      | true =>
        refine ⟨fun z => absurd z (by decide), fun _ => ?_⟩
        rw [if_pos ⟨ha, hm⟩] at hqF hqO
        have F := Fv 0
        have G1 := und 0 (by rw [ha]; rfl)
        have h1 := sh_I F h
        have H1 := HG_I F hH (by omega) (by omega)
        have hlt : ∀ x ∈ ln, ¬ x.1 = (sg st s).2 := by
          intro x hx
          have := b4 x hx
          omega
        have e63 : ∀ (w2 : xW) v, x_i (x_si w2 63 (s + 1) v) 63 (s + 1) = v := fun w2 v => by rw [y_i_si, if_pos ⟨rfl, rfl⟩]
        refine c143 (n := (sg st s).2) (HT := HT) (by omega) (by omega) h1 G1 H1 (fun z w2 u1 => b140_117 ?_) (fun z w2 u1 u2 u3 u4 => b140_117 ?_)
        · have h2 := sh_I u1 h1
          rw [if_pos z] at hqF
          simp only [sh_k h2, sh_l h2, sh_n h2, kk36, sr36_2 h2, sr36_8 h2, sr36_9 h2, sr36_12 h2, sr36_13 h2, sr36_14 h2, sr36_15 h2, sr36_21 h2, sr36_22 h2, sr36_23 h2, sr36_25 h2, sr36_27 h2, sr36_28 h2, sr36_29 h2, sr36_30 h2, sr36_31 h2, sr36_35 h2, sr36_36 h2, sr36_37 h2, sr36_38 h2, sr36_40 h2, sr36_41 h2, sr36_42 h2, sr36_44 h2, sr36_45 h2, sr36_46 h2, sr36_47 h2, sr36_48 h2, sr36_49 h2, sr36_51 h2, sr36_52 h2, sr36_53 h2, sr36_54 h2, sr36_55 h2, kk63, ll63, true_and, and_true, false_and, and_false, and_self, not_false_eq_true, not_true_eq_false, true_implies, false_implies, implies_true, true_or, or_true, or_self, if_true, if_false, Nat.reduceEqDiff, reduceIte, eq_self, nI_clamp (show s + 1 < 2 ^ 31 by omega), vp_in_nI (show s + 1 < 81 by omega) (show 81 < 2 ^ 31 by omega), e63]
          refine hqF (by simp) _ (xI_si (xI_tr (xI_w F (by unfold mGb; omega)) (xI_w u1 (by unfold mSr mSl mGb; omega))) (by unfold mGb; omega))
        · have h2 := sh_I u1 h1
          rw [if_neg z] at hqF hqO
          obtain ⟨hB', hw1, hw2⟩ := BI_s hN he (by omega) hB ha hm z
          have hway := (lnR_ok z).2.2.2.2
          have hwn : ¬ nI (lnR cs (alv g st s) mk (sg st s).2).1 = 0 := by
            rcases hway with y | y
            · rw [y]; decide
            · rw [y]; decide
          generalize hR : lnR cs (alv g st s) mk (sg st s).2 = R at *
          simp only [sh_k h2, sh_l h2, sh_n h2, kk36, sr36_2 h2, sr36_8 h2, sr36_9 h2, sr36_12 h2, sr36_13 h2, sr36_14 h2, sr36_15 h2, sr36_21 h2, sr36_22 h2, sr36_23 h2, sr36_25 h2, sr36_27 h2, sr36_28 h2, sr36_29 h2, sr36_30 h2, sr36_31 h2, sr36_35 h2, sr36_36 h2, sr36_37 h2, sr36_38 h2, sr36_40 h2, sr36_41 h2, sr36_42 h2, sr36_44 h2, sr36_45 h2, sr36_46 h2, sr36_47 h2, sr36_48 h2, sr36_49 h2, sr36_51 h2, sr36_52 h2, sr36_53 h2, sr36_54 h2, sr36_55 h2, kk63, ll63, true_and, and_true, false_and, and_false, and_self, not_false_eq_true, not_true_eq_false, true_implies, false_implies, implies_true, true_or, or_true, or_self, if_true, if_false, Nat.reduceEqDiff, reduceIte, eq_self, nI_clamp (show s + 1 < 2 ^ 31 by omega), vp_in_nI (show s + 1 < 81 by omega) (show 81 < 2 ^ 31 by omega), e63, pk_m1]
          refine ⟨fun _ => ?_, fun y => absurd hwn y⟩
          have F2 : xI (fun p k => mSr (sg st s).2 p k ∨ p = 49) w w2 := xI_tr (xI_w F (fun _ _ z => Or.inr z)) (xI_w u1 (fun _ _ z => Or.inl z))
          have F3 : xI (fun p k => p = 63) w2 (x_si w2 63 (s + 1) (nI R.1)) := xI_si xI_rf rfl
          have F23 : xI mGb w (x_si w2 63 (s + 1) (nI R.1)) := xI_tr (xI_w F2 (by unfold mSr mSl mGb; omega)) (xI_w F3 (by unfold mGb; omega))
          have L2 : HLs w2 (HT ++ (R.2.2.1 ++ R.2.2.2)) H0 ln := HLs_I F2 ln hL (by unfold mSr mSl; omega) (fun x hx => by have := hlt x hx; unfold mSr mSl; omega)
          have L3 := HLs_I (e := []) F3 ln L2 (by omega) (by omega)
          rw [List.append_nil] at L3
          have U4 := HL_I (e := []) F3 u4 (by omega) (by omega)
          rw [List.append_nil, hHl] at U4
          have hRP : RP w2 hf hs V g cs st := by
            have i3 : ∀ p k, (p = 36 ∧ (k = 4 ∨ k = 5 ∨ k = 6 ∨ k = 7 ∨ k = 10 ∨ k = 11)) ∨ p = 38 ∨ p = 39 ∨ p = 40 ∨ p = 41 → x_i w2 p k = x_i w p k := fun p k hpk => xI_i F2 p k (by unfold mSr mSl; omega)
            exact ⟨⟨(i3 36 4 (by omega)).trans hP.1.1, (i3 36 5 (by omega)).trans hP.1.2.1, (i3 36 6 (by omega)).trans hP.1.2.2.1, (i3 36 7 (by omega)).trans hP.1.2.2.2.1, (i3 36 10 (by omega)).trans hP.1.2.2.2.2.1, (i3 36 11 (by omega)).trans hP.1.2.2.2.2.2⟩, fun c hc => ⟨(i3 39 _ (by omega)).trans (hP.2.1 c hc).1, fun k hk => (i3 38 _ (by omega)).trans ((hP.2.1 c hc).2 k hk)⟩, fun k hk => ⟨(i3 40 _ (by omega)).trans (hP.2.2 k hk).1, (i3 41 _ (by omega)).trans (hP.2.2 k hk).2⟩⟩
          refine ih _ _ (((sg st s).2, (fun d => R.2.1 d && !mk d), R.2.2.1, R.2.2.2) :: ln) (HT ++ (R.2.2.1 ++ R.2.2.2)) _ _ _ (by omega) (sh_I F3 h2) (RP_F F3 (by omega) hRP) (RG_I F3 u2 (by omega) (by omega) (by omega) (by omega) (by omega)) (HG_I F3 u3 (by omega) (by omega)) ⟨U4, L3⟩ ?_ hB' (fun t ht => ?_) (fun y w' q1 => hqF y w' (xI_tr F23 q1)) (fun y w' HT' q1 => hqO y w' HT' (xI_tr F23 q1))
          · rw [List.length_append, hHl]; rfl
          · rw [y_i_si]
            by_cases et : t = s + 1
            · rw [if_pos ⟨rfl, et⟩, if_pos (by omega), et, Nat.add_sub_cancel, hw2]
            · rw [if_neg (fun y => et y.2), xI_i F2 63 t (by unfold mSr mSl; omega), hW t ht]
              congr 1
              by_cases h1 : s + 1 < t ∧ t ≤ e
              · rw [if_pos h1, if_pos (by omega), hw1 (t - 1) (by omega) (by omega)]
              · rw [if_neg h1, if_neg (by omega)]
/-- goBack -/
theorem c140 (hl : cs.length ≤ 63) (hco : cok cs) (hg : g ≤ 63) (hN : NB g cs st) (he : e ≤ st.length) (h80 : st.length ≤ 80) (hcf : ¬ cfl cs g st e = 0) (hab : ∀ k, k < st.length → (sg st k).2 ≤ 63) (h : SH w) (hP : RP w hf hs V g cs st)
    (hqF : ¬ (rfR cs g st e).1 = 0 → ∀ w', xI mGb w w' → Q (.inl (some (.int (nI (rfR cs g st e).1)))) w')
    (hqO : (rfR cs g st e).1 = 0 → ∀ w' HT', xI mGb w w' → MA w' (rfR cs g st e).2.1 → HG w' HT' → HLs w' HT' (rfH cs g st e) (rfR cs g st e).2.2.2 → HT'.length = tot (rfH cs g st e) (rfR cs g st e).2.2.2 → WYS w' st e 0 (rfR cs g st e).2.1 (rfR cs g st e).2.2.1 → Q (.inl (some (.int 0))) w') : x_R x_prog scr 140 0 [some (.ref 36), some (.int (nI e)), o2, o3] [] w Q := by
  have hH0 : hI cs (prg cs (alv g st e) nob 17 tv0 []) = rfH cs g st e := rfl
  have hPA := prg_at (cs := cs) (al := alv g st e) (mk := nob) 17 tv0 [] AT_nil
  have hHV : HV cs (alv g st e) (rfH cs g st e) := hI_ok hPA.1 hPA.2.2 hcf
  have B0 := BI_0 (H0 := rfH cs g st e) hN he hHV
  refine b140_0 ⟨by rw [sh_k h]; rfl, by rw [sh_k h]; rfl, ?_⟩
  generalize hw1 : x_si w 36 39 0 = w1
  have F1 : xI (fun p k => p = 36 ∧ k = 39) w w1 := by rw [← hw1]; exact xI_si xI_rf ⟨rfl, rfl⟩
  have e39 : x_i w1 36 39 = 0 := by rw [← hw1, y_i_si, if_pos ⟨rfl, rfl⟩]
  clear hw1
  have h1 := sh_I F1 h
  have P1 := RP_F F1 (by omega) hP
  have H1 : HG w1 [] := ⟨e39, fun k hk => absurd hk (by simp)⟩
  refine c101 (st := st) (g := g) he h80 hg hab h1 P1.1.2.2.1 P1.2.2 (fun w2 u1 u2 u3 => b140_10 ?_)
  have h2 := sh_I u1 h1
  refine ⟨by rw [sh_k h2]; rfl, c102 h2 (fun w3 v1 v2 v3 => b140_14 ?_)⟩
  have h3 := sh_I v1 h2
  have P3 := RP_F v1 (by omega) (RP_F u1 (by omega) P1)
  have H3 := HG_I v1 (HG_I u1 H1 (by omega) (by omega)) (by omega) (by omega)
  have G3 : RG w3 cs (alv g st e) nob := ⟨P3.1.2.2.2.1, hl, hco, P3.2.1, fun j hj => (xI_i v1 49 j (by omega)).trans (u2 j hj), fun j hj => (xI_i v1 50 j (by omega)).trans (u3 j hj)⟩
  refine ⟨by rw [sh_k h3]; rfl, c103 (d := 17) h3 G3 v2 v3 tok0 TI_nil rfl (fun w4 x1 x2 x3 x4 x5 x6 x7 => b140_18 ?_)⟩
  have h4 := sh_I x1 h3
  have P4 := RP_F x1 (by unfold mPr; omega) P3
  have H4 := HG_I x1 H3 (by unfold mPr; omega) (by unfold mPr; omega)
  have G4 := RG_I x1 G3 (by unfold mPr; omega) (by unfold mPr; omega) (by unfold mPr; omega) (by unfold mPr; omega) (by unfold mPr; omega)
  refine ⟨by rw [sh_k h4]; rfl, c119 h4 (fun w5 y1 y2 => b140_22 ?_)⟩
  have h5 := sh_I y1 h4
  have P5 := RP_F y1 (by omega) P4
  have H5 := HG_I y1 H4 (by omega) (by omega)
  have G5 := RG_I y1 G4 (by omega) (by omega) (by omega) (by omega) (by omega)
  have z : ¬ (prg cs (alv g st e) nob 17 tv0 []).2.2 = 0 := hcf
  have hsel := sel_hI hco x6 z
  rw [hH0] at hsel
  generalize prg cs (alv g st e) nob 17 tv0 [] = r at *
  have ek : rtk r = r.2.1 ++ [(r.2.2, 0)] := by unfold rtk; rw [if_neg z]
  have hlk : (rtk r).length = r.2.1.length + 1 := by rw [ek]; simp
  have K5 := RK_I y1 x3 (by omega) (by omega) (by omega)
  have h16 := TI_16 x6
  have hIc : ∀ k, k < (rtk r).length → 1 ≤ (tg (rtk r) k).1 ∧ (tg (rtk r) k).1 ≤ cs.length ∧ (tg (rtk r) k).2.natAbs ≤ 16 := by
    intro k hk
    rw [hlk] at hk
    rw [ek, tg_app]
    by_cases e : k < r.2.1.length
    · rw [if_pos e]
      obtain ⟨i1, i2, i3, -⟩ := x6.1 k e
      unfold lok at i3
      exact ⟨i1, i2, by omega⟩
    · rw [if_neg e, if_pos (by omega)]
      exact ⟨by show 1 ≤ r.2.2; omega, x7, by show (0 : Int).natAbs ≤ 16; decide⟩
  refine ⟨by rw [sh_k h5]; rfl, c121 (nv := nob) hco hl (by omega) hIc h5 K5 G5.2.2.2.1 y2 (fun w6 t1 t2 => b140_26 ?_)⟩
  have h6 := sh_I t1 h5
  have P6 := RP_F t1 (by omega) P5
  have H6 := HG_I t1 H5 (by omega) (by omega)
  have G6 := RG_I t1 G5 (by omega) (by omega) (by omega) (by omega) (by omega)
  have K6 := RK_I t1 K5 (by omega) (by omega) (by omega)
  refine ⟨by rw [sh_k h6]; rfl, ?_⟩
  rw [← nI_0]
  refine c141 (n := 0) (tak := rtk r) (nd := ndr cs (rtk r) (rtk r).length nob) (by omega) (by omega) (fun k hk => by have := hIc k hk; omega) h6 K6 t2 G6.2.2.2.2.2 H6 (fun w7 s1 s2 s3 s4 => b140_31 ?_)
  rw [hsel, List.nil_append] at s3 s4
  rw [hsel] at s2
  have h7 := sh_I s1 h6
  have P7 := RP_F s1 (by unfold mHi; omega) P6
  have G7 : RG w7 cs (alv g st e) (mkS nob (rfH cs g st e)) := RG_M s1 G6 s2 (by unfold mHi; omega) (by unfold mHi; omega) (by unfold mHi; omega) (by unfold mHi; omega)
  have F7 : xI mGb w w7 := xI_tr (xI_w F1 (by unfold mGb; omega)) (xI_tr (xI_w u1 (by unfold mGb; omega)) (xI_tr (xI_w v1 (by unfold mGb; omega)) (xI_tr (xI_w x1 (by unfold mPr mGb; omega)) (xI_tr (xI_w y1 (by unfold mGb; omega)) (xI_tr (xI_w t1 (by unfold mGb; omega)) (xI_w s1 (by unfold mHi mGb; omega)))))))
  have key : ∀ (d k : Nat) (w8 : xW), xI (fun p _ => p = 63) w7 w8 → (∀ j, j < k → x_i w8 63 j = 0) → k + d = 81 → x_R x_prog scr 140 33 [some (.ref 36), some (.int (nI e)), some (.int (nI k)), none] [] w8 Q := by
    intro d
    induction d with
    | zero =>
      intro k w8 q1 q2 hk
      have h8 := sh_I q1 h7
      refine b140_33 ⟨fun _ => ?_, fun z => absurd (nI_le (a := 81) (by omega) (by omega)) z⟩
      refine c140_l (H0 := rfH cs g st e) hl hN he h80 e (mkS nob (rfH cs g st e)) nob [] (rfH cs g st e) w8 _ _ (Nat.le_refl _) h8 (RP_F q1 (by omega) P7) (RG_I q1 G7 (by omega) (by omega) (by omega) (by omega) (by omega)) (HG_I q1 s3 (by omega) (by omega)) ?_ rfl B0 (fun t ht => ?_) (fun z w' p1 => hqF z w' (xI_tr F7 (xI_tr (xI_w q1 (by unfold mGb; omega)) p1))) (fun z w' HT' p1 => hqO z w' HT' (xI_tr F7 (xI_tr (xI_w q1 (by unfold mGb; omega)) p1)))
      · have := HL_I (e := []) q1 s4 (by omega) (by omega)
        rw [List.append_nil] at this
        exact this
      · rw [q2 t (by omega), if_neg (by omega)]; rfl
    | succ d ih =>
      intro k w8 q1 q2 hk
      have h8 := sh_I q1 h7
      refine b140_33 ⟨fun z => absurd z (nI_ge (b := 81) (by omega) (by omega)), fun _ => ?_⟩
      simp only [sh_k h8, sh_l h8, sh_n h8, kk36, sr36_2 h8, sr36_8 h8, sr36_9 h8, sr36_12 h8, sr36_13 h8, sr36_14 h8, sr36_15 h8, sr36_21 h8, sr36_22 h8, sr36_23 h8, sr36_25 h8, sr36_27 h8, sr36_28 h8, sr36_29 h8, sr36_30 h8, sr36_31 h8, sr36_35 h8, sr36_36 h8, sr36_37 h8, sr36_38 h8, sr36_40 h8, sr36_41 h8, sr36_42 h8, sr36_44 h8, sr36_45 h8, sr36_46 h8, sr36_47 h8, sr36_48 h8, sr36_49 h8, sr36_51 h8, sr36_52 h8, sr36_53 h8, sr36_54 h8, sr36_55 h8, kk63, ll63, true_and, and_true, false_and, and_false, and_self, not_false_eq_true, not_true_eq_false, true_implies, false_implies, implies_true, true_or, or_true, or_self, if_true, if_false, Nat.reduceEqDiff, reduceIte, eq_self, nI_1, nI_clamp (show k < 2 ^ 31 by omega), vp_in_nI (show k < 81 by omega) (show 81 < 2 ^ 31 by omega)]
      refine ih (k + 1) _ (xI_si q1 rfl) (fun j hj => ?_) (by omega)
      rw [y_i_si]
      by_cases ej : j = k
      · rw [if_pos ⟨rfl, ej⟩]
      · rw [if_neg (fun z => ej z.2)]; exact q2 j (by omega)
  exact key 81 0 w7 xI_rf (fun j hj => by omega) (by omega)
end X72
