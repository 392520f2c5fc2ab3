/-! goBackwards, refute of the class. -/
def rfH (cs : List (List Int)) (g : Nat) (st : xSt) (e : Nat) : List Int := hI cs (prg cs (alv g st e) nob 17 tv0 [])
def rfR (cs : List (List Int)) (g : Nat) (st : xSt) (e : Nat) : Nat × (Nat → Bool) × (Nat → Bool) × List xLn := bck cs g st e (mkS nob (rfH cs g st e)) nob []
def rfT (cs : List (List Int)) (g : Nat) (st : xSt) (e : Nat) : List Int := tkA cs g (g + cnA st e + 1) (rfH cs g st e) (rfR cs g st e).2.1 (rfR cs g st e).2.2.2
/-- does refute succeed? -/
def rfK (cs : List (List Int)) (g : Nat) (st : xSt) : Bool := decide (¬ fen cs g st < 0 ∧ (rfR cs g st (fen cs g st).toNat).1 = 0 ∧ (rfT cs g st (fen cs g st).toNat).length ≤ 2000)
def rfA (cs : List (List Int)) (g : Nat) (st : xSt) : Int := if fen cs g st < 0 then 0 else if ¬ (rfR cs g st (fen cs g st).toNat).1 = 0 then -((rfR cs g st (fen cs g st).toNat).1 : Int) else if 2000 < (rfT cs g st (fen cs g st).toNat).length then -1000 else 1 + ((rfR cs g st (fen cs g st).toNat).2.2.2.length : Int)
theorem tvN_nil : tvN [] = tv0 := rfl
/-- what is known at the end of the walk -/
theorem bck_BI {cs : List (List Int)} {g : Nat} {st : xSt} {H0 : List Int} {e : Nat} (hN : NB g cs st) (he : e ≤ st.length) : ∀ (s : Nat) (mk sp : Nat → Bool) (ln : List xLn), s ≤ e → BI g st H0 e s mk sp ln → (bck cs g st s mk sp ln).1 = 0 → BI g st H0 e 0 (bck cs g st s mk sp ln).2.1 (bck cs g st s mk sp ln).2.2.1 (bck cs g st s mk sp ln).2.2.2
  | 0, ma, sp, ln, _, h, _ => h
  | s + 1, ma, sp, ln, hs, h, hz => by
    unfold bck at hz ⊢
    split
    · rename_i hc
      rw [if_pos hc] at hz
      split
      · rename_i hw
        rw [if_pos hw] at hz
        simp at hz
      · rename_i hw
        rw [if_neg hw] at hz
        exact bck_BI hN he s _ _ _ (by omega) (BI_s hN he (by omega) h hc.1 hc.2 hw).1 hz
    · rename_i hc
      rw [if_neg hc] at hz
      exact bck_BI hN he s _ _ _ (by omega) (BI_n hN he (by omega) h hc) hz
section X69
variable {scr : Nat × (Nat → Int32)} {w : xW} {Q : xO → xW → Prop} {w1 : xW} {t : Nat → Nat} {sz P T S D n c g d V E e fa : Nat} {hf hs : Bool} {al mk sp f mkO spO nw : Nat → Bool} {tak : xTk} {cs : List (List Int)} {st : xSt} {ls hb hg tk NT H0 : List Int} {o1 o2 o3 o4 o5 o6 o7 : Option Value}
def mQi (T : Nat) : Nat → Nat → Prop := fun p _ => (21 ≤ p ∧ p ≤ 30) ∨ p = T ∨ p = T + 1
def mQj : Nat → Nat → Prop := fun p _ => 21 ≤ p ∧ p ≤ 30
def mQr : Nat → Nat → Prop := fun p k => (p = 21 ∧ k = 1) ∨ (p = 28 ∧ k = 0)
theorem Q_N (q : xF (mNi n) (mNj n) mPrr w w1) : xF (mQi T) mQj mQr w w1 := xF_w q (by unfold mNi mPi mQi; omega) (by unfold mNj mQj; omega) (by unfold mPrr mQr; omega)
theorem Q_P (q : xF mPi mPj mPrr w w1) : xF (mQi T) mQj mQr w w1 := xF_w q (by unfold mPi mQi; omega) (by unfold mPj mQj; omega) (by unfold mPrr mQr; omega)
theorem PS_Q (hP : P = 5 ∨ P = 11) (hT3 : T = 17 ∨ T = 19) (q : xF (mQi T) mQj mQr w w1) (hS : PS P w hf hs V g cs st mkO spO) : PS P w1 hf hs V g cs st mkO spO :=
  PS_e (fun p _ _ => funext fun k => q.2.1 p k (by unfold mQi; omega)) (funext fun k => q.2.2.1 P k (by unfold mQj; omega)) (funext fun k => q.2.2.1 (P + 5) k (by unfold mQj; omega)) hS
theorem sh_Q (q : xF (mQi T) mQj mQr w w1) (h : SH w) : SH w1 := sh_A (xF_w q (fun _ _ z => z) (fun _ _ z => z) (by unfold mQr mrA; omega)) h
/-- begin -/
theorem c126 (hP : P = 5 ∨ P = 11) (hT3 : T = 17 ∨ T = 19) (hco : cok cs) (hl : cs.length ≤ 63) (h80 : st.length ≤ 80) (hN : NB g cs st) (hst0 : st0 st) (he : e ≤ st.length) (hcf : ¬ cfl cs g st e = 0) (h : SH w) (hS : PS P w hf hs V g cs st mkO spO)
    (hq : ∀ w', xF (mQi T) mQj mQr w w' → SH w' → RF P w' (g + cnA st e + 1) (mkS nob (rfH cs g st e)) nob (rfH cs g st e) → (∃ nw, CL w' (rfH cs g st e) (g + cnA st e + 1) nw (rfH cs g st e) []) → Q (.inl none) w') : x_R x_prog scr 126 0 [some (.ref 21), some (.ref P), some (.int (nI e)), o3] [] w Q := by
  have hce : cnA st e ≤ cnA st st.length := cnA_le _ _ he
  have hN1 := hN.1
  have hE : g + cnA st e + 1 ≤ 64 := by omega
  have k21 : x_k w 21 = 10 := by rw [sh_k h]; rfl
  refine b126_0 ⟨⟨k21, by omega, by rw [sh_n h]; omega⟩, k21, k21, b126_15 ?_⟩
  generalize hw1 : x_sj (x_sj (x_sr w 21 1 P) 21 2 0) 21 3 0 = w1
  have F1 : xF x_no (fun p k => p = 21 ∧ (k = 2 ∨ k = 3)) (fun p k => p = 21 ∧ k = 1) w w1 := by rw [← hw1]; exact xF_sj (xF_sj (xF_sr xF_rf ⟨rfl, rfl⟩) ⟨rfl, Or.inl rfl⟩) ⟨rfl, Or.inr rfl⟩
  have a1 : x_r w1 21 1 = P := by rw [← hw1, y_r_sj, y_r_sj, y_r_sr, if_pos ⟨rfl, rfl⟩]
  have a2 : x_j w1 21 2 = 0 := by rw [← hw1, y_j_sj, if_neg (by omega), y_j_sj, if_pos ⟨rfl, rfl⟩]
  have a3 : x_j w1 21 3 = 0 := by rw [← hw1, y_j_sj, if_pos ⟨rfl, rfl⟩]
  clear hw1
  have Q1 : xF (mQi T) mQj mQr w w1 := xF_w F1 (fun _ _ z => z.elim) (by unfold mQj; omega) (by unfold mQr; omega)
  have h1 := sh_Q Q1 h
  rw [sr21_5 h1, sh_k h1]
  refine ⟨rfl, by decide, rfl, c40 (T := 22) (by omega) h1 (fun w2 u1 u2 u3 => b126_22 ?_)⟩
  have h2 := sh_I u1 h1
  have Q2 : xF (mQi T) mQj mQr w w2 := xF_tr Q1 (xF_w u1 (by unfold mQi; omega) (fun _ _ z => z.elim) (fun _ _ z => z.elim))
  have S2 := PS_Q hP hT3 Q2 hS
  rw [pK h2 hP, S2.1.2.2.2.1, nI_1, sh_k h2]
  -- the loop that counts
  have key : ∀ (d s : Nat) (w3 : xW), xI (fun p k => p = 21 ∧ k = 4) w2 w3 → x_i w3 21 4 = nI (g + 1 + cnA st s) → s + d = e → x_R x_prog scr 126 34 [some (.ref 21), some (.ref P), some (.int (nI e)), some (.int (nI (s + 1)))] [] w3 Q := by
    intro d
    induction d with
    | zero =>
      intro s w3 v1 v2 hs
      have es : s = e := by omega
      subst es
      have h3 := sh_I v1 h2
      have Q3 : xF (mQi T) mQj mQr w w3 := xF_tr Q2 (xF_w v1 (by unfold mQi; omega) (fun _ _ z => z.elim) (fun _ _ z => z.elim))
      have S3 := PS_Q hP hT3 Q3 hS
      have R3 : RF P w3 (g + cnA st s + 1) nob nob [] := by
        refine ⟨by rw [xI_r v1, xI_r u1]; exact a1, by rw [v2]; congr 1; omega, fun j _ => by rw [xI_j v1, xI_j u1, a2]; exact hc_0 j, fun j _ => by rw [xI_j v1, xI_j u1, a3]; exact hc_0 j, (xI_i v1 22 1 (by omega)).trans u2, fun k hk => absurd hk (by simp)⟩
      have e4 : x_i w3 21 4 = nI (g + cnA st s + 1) := R3.2.1
      refine b126_34 ⟨fun _ => ?_, fun z => absurd (nI_lt (by omega) (by omega)) z⟩
      rw [pK h3 hP, pr10 h3 hP, (pk5 h3 hP).1, (pk5 h3 hP).2, e4, nI_clamp (show s < 2 ^ 31 by omega), sh_k h3]
      have hz : ¬ (prg cs (alv g st s) nob 17 (tvN []) []).2.2 = 0 := hcf
      refine ⟨rfl, rfl, by omega, ⟨rfl, vp_in_nI (by omega) (by omega)⟩, rfl, c127 (ls := []) (al := alv g st s) (mk := nob) (sp := nob) (NT := []) hP hco hl hE hE h3 S3 R3 (by simp) ⟨by simp, fun l hh => (by cases hh), List.Pairwise.nil⟩ (Or.inl ⟨rfl, rfl⟩) (S3.2.2.2.1 s (by omega)) (fun z => absurd z hz) (fun _ w4 y1 y2 y3 y4 => b126_82 ?_)⟩
      rw [List.nil_append] at y3 y4
      exact hq w4 (xF_tr Q3 (Q_N y1)) y2 y3 ⟨_, y4⟩
    | succ d ih =>
      intro s w3 v1 v2 hs
      have h3 := sh_I v1 h2
      have Q3 : xF (mQi T) mQj mQr w w3 := xF_tr Q2 (xF_w v1 (by unfold mQi; omega) (fun _ _ z => z.elim) (fun _ _ z => z.elim))
      have S3 := PS_Q hP hT3 Q3 hS
      have eA := S3.2.2.1 s (by omega)
      have hab : stA st s ≤ 63 := by
        unfold stA
        split
        · rename_i ha
          have := (hN.2 s (by omega)).1 ha
          have := cnA_le (st := st) st.length (s + 1) (by omega)
          have e1 : cnA st (s + 1) = cnA st s + 1 := by show cnA st s + (if (sg st s).1 = true then 1 else 0) = _; rw [if_pos ha]
          omega
        · omega
      have g0 : nI (stA st s) = 0 ↔ stA st s = 0 := by rw [← nI_0]; exact nI_eq (by omega) (by omega)
      have step : ∀ b : Nat, b = (if (sg st s).1 = true then 1 else 0) → x_R x_prog scr 126 34 [some (.ref 21), some (.ref P), some (.int (nI e)), some (.int (nI (s + 1 + 1)))] [] (x_si w3 21 4 (nI (g + 1 + cnA st s) + nI b)) Q := by
        intro b hb
        refine ih (s + 1) _ (xI_si v1 ⟨rfl, rfl⟩) ?_ (by omega)
        rw [y_i_si, if_pos ⟨rfl, rfl⟩, nI_add, hb, Nat.add_assoc]
        rfl
      refine b126_34 ⟨fun z => absurd z (nI_nlt (by omega) (by omega)), fun _ => ?_⟩
      rw [pK h3 hP, pr9 h3 hP, (pk4 h3 hP).1, (pk4 h3 hP).2, nI_clamp (show s + 1 < 2 ^ 31 by omega), eA, g0, v2, nI_1, sh_k h3]
      refine ⟨rfl, rfl, by omega, ⟨rfl, vp_in_nI (by omega) (by omega)⟩, fun z => ⟨rfl, step 1 ?_⟩, fun z => ⟨rfl, step 0 ?_⟩⟩
      · unfold stA at z
        split at z
        · rename_i ha; rw [if_pos ha]
        · exact absurd rfl z
      · unfold stA at z
        split at z
        · rename_i ha
          have := hst0 s ha
          omega
        · rename_i ha; rw [if_neg ha]
  refine ⟨rfl, rfl, ?_⟩
  exact key e 0 _ (xI_si xI_rf ⟨rfl, rfl⟩) (by rw [y_i_si, if_pos ⟨rfl, rfl⟩]; rfl) (by omega)
theorem c138 (hT : T = 17 ∨ T = 19 ∨ T = 22) (h : SH w) (hl : tk.length < 2 ^ 30) (hG : TG T w tk) (hq : Q (.inl (some (.int (b32 (decide (2000 < tk.length)))))) w) : x_R x_prog scr 138 0 [some (.ref T)] [] w Q := by
  have g1 : nI tk.length ≤ (2000 : Int32) ↔ tk.length ≤ 2000 := nI_leI (b := 2000) (by omega) (by omega)
  refine b138_0 ?_
  rw [hG.1, g1, tK h hT]
  refine ⟨rfl, fun z => ⟨Or.inl rfl, ?_⟩, fun z => ⟨Or.inr rfl, ?_⟩⟩
  · rw [decide_eq_false (by omega)] at hq; exact hq
  · rw [decide_eq_true (by omega)] at hq; exact hq
/-- the walk -/
theorem c125_l (hP : P = 5 ∨ P = 11) (hT3 : T = 17 ∨ T = 19) (hco : cok cs) (hl : cs.length ≤ 63) (h80 : st.length ≤ 80) (hN : NB g cs st) (hst0 : st0 st) (he : e ≤ st.length) (hH0 : H0.length ≤ 18) :
    ∀ (s : Nat) (mk sp : Nat → Bool) (ln : List xLn) (NT : List Int) (w : xW) (o3 o5 o6 o7 : Option Value), s ≤ e → SH w → PS P w hf hs V g cs st mkO spO → RF P w (g + cnA st e + 1) mk sp NT → BI g st H0 e s mk sp ln → (∃ nw, CL w NT (g + cnA st e + 1) nw H0 []) → (∀ x ∈ ln, CL w NT x.1 x.2.1 x.2.2.1 x.2.2.2) → NT.length = tot H0 ln →
    (¬ (bck cs g st s mk sp ln).1 = 0 → ∀ w', xF (mQi T) mQj mQr w w' → SH w' → Q (.inl (some (.int (-(nI (bck cs g st s mk sp ln).1))))) w') →
    ((bck cs g st s mk sp ln).1 = 0 → 2000 < (tkA cs g (g + cnA st e + 1) H0 (bck cs g st s mk sp ln).2.1 (bck cs g st s mk sp ln).2.2.2).length → ∀ w', xF (mQi T) mQj mQr w w' → SH w' → Q (.inl (some (.int (-1000)))) w') →
    ((bck cs g st s mk sp ln).1 = 0 → (tkA cs g (g + cnA st e + 1) H0 (bck cs g st s mk sp ln).2.1 (bck cs g st s mk sp ln).2.2.2).length ≤ 2000 → ∀ w' w'', xF (mQi T) mQj mQr w w'' → SH w'' → xF x_no (fun p k => p = P ∧ (k = 11 ∨ k = 12)) x_no w'' w' → TG T w' (tkA cs g (g + cnA st e + 1) H0 (bck cs g st s mk sp ln).2.1 (bck cs g st s mk sp ln).2.2.2) → PS P w' hf hs V g cs st (bck cs g st s mk sp ln).2.1 (bck cs g st s mk sp ln).2.2.1 → Q (.inl (some (.int (nI (1 + (bck cs g st s mk sp ln).2.2.2.length))))) w') →
    x_R x_prog scr 125 22 [some (.ref 21), some (.ref P), some (.ref T), o3, some (.int (nI s)), o5, o6, o7] [] w Q := by
  have hce : cnA st e ≤ cnA st st.length := cnA_le _ _ he
  have hN1 := hN.1
  have hT : T = 17 ∨ T = 19 ∨ T = 22 := by omega
  intro s
  induction s with
  | zero =>
    intro mk sp ln NT w o3 o5 o6 o7 hse h hS hR hB hC0 hC hNT hqF hqL hqO
    obtain ⟨b1, b2, b3, b4, b5, b6, b7, b8⟩ := id hB
    have hzz : cnA st 0 = 0 := rfl
    rw [hzz] at b4 b5 b8
    have htl := tot_le (H0 := H0) ln b7
    have hge := tkL_ge (cs := cs) (E := g + cnA st e + 1) (H0 := H0) ln
    have hle := tkL_le (E := g + cnA st e + 1) (H0 := H0) hco hl ln b7
    have hdl := drs_len (n := g) (f := fun d => decide (d ≤ g) && !mk d) (m := cs.length)
    have hll : (tkA cs g (g + cnA st e + 1) H0 mk ln).length = (drs g (fun d => decide (d ≤ g) && !mk d) cs.length).length + (tkL cs (g + cnA st e + 1) H0 ln).length := by unfold tkA; rw [List.length_append]
    have hqL : 2000 < (tkA cs g (g + cnA st e + 1) H0 mk ln).length → ∀ w', xF (mQi T) mQj mQr w w' → SH w' → Q (.inl (some (.int (-1000)))) w' := fun z => hqL rfl z
    have hqO : (tkA cs g (g + cnA st e + 1) H0 mk ln).length ≤ 2000 → ∀ w' w'', xF (mQi T) mQj mQr w w'' → SH w'' → xF x_no (fun p k => p = P ∧ (k = 11 ∨ k = 12)) x_no w'' w' → TG T w' (tkA cs g (g + cnA st e + 1) H0 mk ln) → PS P w' hf hs V g cs st mk sp → Q (.inl (some (.int (nI (1 + ln.length))))) w' := fun z => hqO rfl z
    have hmen : ∀ x ∈ ln, ∀ j, x.2.1 j = true → 1 ≤ j ∧ j ≤ cs.length := by
      intro x hx j hj
      have key : ∀ l : List xLn, LO H0 l → (∀ j, men H0 l j = true → mk j = true) → ∀ x ∈ l, x.2.1 j = true → mk j = true := by
        intro l
        induction l with
        | nil => intro _ _ x hx; cases hx
        | cons y r ih =>
          intro hLO hm x hx hj
          rcases List.mem_cons.mp hx with e1 | e1
          · rw [e1, hLO.1] at hj
            simp only [Bool.and_eq_true] at hj
            exact hm j hj.1
          · exact ih hLO.2.2.2 (fun i hi => hm i (by show (_ || men H0 r i) = true; rw [hi, Bool.or_true])) x e1 hj
      have := b2 j (key ln b7 (fun i hi => by rw [b1]; exact hi) x hx hj)
      omega
    refine b125_22 ⟨fun _ => ⟨by rw [sh_k h]; rfl, ?_⟩, fun z => absurd (by decide) z⟩
    refine c133 (ln := ln) (H0 := H0) hP hT3 hco hl (by omega) (by omega) (by omega) h hS hR hC0 hC hmen b3 (fun x hx => by have := b4 x hx; omega) (fun j h1 h2 => b5 j (by omega) (by omega)) (by omega) (fun w1 t' u0 u1 u2 => b125_97 ?_)
    have h1 := sh_I u1 h
    have Q1 : xF (mQi T) mQj mQr w w1 := xF_w u1 (by unfold mQi; omega) (fun _ _ z => z.elim) (fun _ _ z => z.elim)
    have u0l := u0.1
    refine ⟨tK h1 hT, c138 hT h1 (by omega) u2 (b125_103 ?_)⟩
    have R1 : RF P w1 (g + cnA st e + 1) mk sp NT := RF_i u1 (by omega) (by omega) (by omega) hR
    by_cases z : 2000 < t'.length
    · rw [decide_eq_true z]
      exact ⟨fun y => absurd y (by decide), fun _ => hqL (by omega) w1 Q1 h1⟩
    · rw [decide_eq_false z]
      have et := u0.2 (by omega)
      rw [et] at u2
      refine ⟨fun _ => ?_, fun y => absurd rfl y⟩
      have e3 : ∀ v, x_j (x_sj w1 P 11 v) 21 3 = x_j w1 21 3 := fun v => by rw [y_j_sj, if_neg (by omega)]
      rw [e3, pK h1 hP, sh_k h1]
      generalize hw2 : x_sj (x_sj w1 P 11 (x_j w1 21 2)) P 12 (x_j w1 21 3) = w2
      have F2 : xF x_no (fun p k => p = P ∧ (k = 11 ∨ k = 12)) x_no w1 w2 := by rw [← hw2]; exact xF_sj (xF_sj xF_rf ⟨rfl, Or.inl rfl⟩) ⟨rfl, Or.inr rfl⟩
      have a11 : x_j w2 P 11 = x_j w1 21 2 := by rw [← hw2, y_j_sj, if_neg (by omega), y_j_sj, if_pos ⟨rfl, rfl⟩]
      have a12 : x_j w2 P 12 = x_j w1 21 3 := by rw [← hw2, y_j_sj, if_pos ⟨rfl, rfl⟩]
      clear hw2
      have S1 := PS_Q hP hT3 Q1 hS
      obtain ⟨s1, s2, s3, s4, s5, s6⟩ := S1
      have i2 : x_i w2 = x_i w1 := funext fun p => funext fun k => F2.2.1 p k fun z => z
      refine ⟨rfl, rfl, rfl, rfl, hqO (by omega) w2 w1 Q1 h1 F2 (TG_F F2 u2 (fun z => z) (fun _ z => z)) ⟨by rw [i2]; exact s1, fun c hc => ?_, by rw [i2]; exact s3, fun s hs j hj => ?_, fun j hj => ?_, fun j hj => ?_⟩⟩
      · exact PC_F F2 (s2 c hc) (fun z => z) (fun z => z) (fun _ _ z => z)
      · rw [F2.2.2.1 (P + 5) s (by omega)]; exact s4 s hs j hj
      · rw [a11]; exact R1.2.2.1 j hj
      · rw [a12]; exact R1.2.2.2.1 j hj
  | succ s ih =>
    intro mk sp ln NT w o3 o5 o6 o7 hse h hS hR hB hC0 hC hNT hqF hqL hqO
    obtain ⟨b1, b2, b3, b4, b5, b6, b7, b8⟩ := id hB
    have htl := tot_le (H0 := H0) ln b7
    have hNTl : NT.length < 2 ^ 27 := by omega
    have k21 : x_k w 21 = 10 := by rw [sh_k h]; rfl
    have eA := hS.2.2.1 s (by omega)
    have eL := hS.2.2.2.1 s (by omega)
    have hNs := hN.2 s (by omega)
    have hcs : cnA st (s + 1) ≤ cnA st e := cnA_le _ _ hse
    have hcs' : cnA st (s + 1) = cnA st s + (if (sg st s).1 = true then 1 else 0) := rfl
    have hab : stA st s ≤ 63 := by
      unfold stA
      split
      · rename_i ha
        have := hNs.1 ha
        rw [if_pos ha] at hcs'
        omega
      · omega
    have hpred : nI (s + 1) - 1 = nI s := nI_pred s
    unfold bck at hqF hqL hqO
    refine b125_22 ⟨fun z => absurd z (nI_nlt (b := 1) (by omega) (by omega)), fun _ => ?_⟩
    rw [pK h hP, pr9 h hP, (pk4 h hP).1, (pk4 h hP).2, nI_clamp (show s + 1 < 2 ^ 31 by omega), eA, pr10 h hP, (pk5 h hP).1, (pk5 h hP).2, hpred, nI_clamp (show s < 2 ^ 31 by omega)]
    refine ⟨rfl, by omega, ⟨rfl, vp_in_nI (by omega) (by omega)⟩, rfl, by omega, ⟨rfl, vp_in_nI (by omega) (by omega)⟩, k21, c68 (by omega) (b125_57 ?_)⟩
    rw [hR.2.2.1 _ (by omega), pk_m1]
    by_cases hc : (sg st s).1 = true ∧ mk (sg st s).2 = true
    · rw [if_pos hc] at hqF hqL hqO
      obtain ⟨ha, hm⟩ := hc
      have ea : stA st s = (sg st s).2 := by unfold stA; rw [if_pos ha]
      have hcA := hNs.1 ha
      rw [if_pos ha] at hcs'
      rw [ea, hm]
      have hc1 : 1 ≤ (sg st s).2 := by omega
      have hc2 : (sg st s).2 ≤ cs.length := by omega
      have hlt : ∀ x ∈ ln, ¬ x.1 = (sg st s).2 := by
        intro x hx
        have := b4 x hx
        omega
      -- on to the next step
      have next : ∀ (way : Nat) (w1 : xW) (NT1 : List Int) (o3 o5 o6 o7 : Option Value), (lnR cs (alv g st s) mk (sg st s).2).1 = way → ¬ way = 0 → xF (mNi (sg st s).2) (mNj (sg st s).2) mPrr w w1 → SH w1 → RF P w1 (g + cnA st e + 1) (lnR cs (alv g st s) mk (sg st s).2).2.1 (fun j => sp j || (decide (way = 2) && decide (j = (sg st s).2))) (NT ++ NT1) → NT1.length = (hx ((sg st s).2, (fun d => (lnR cs (alv g st s) mk (sg st s).2).2.1 d && !mk d), (lnR cs (alv g st s) mk (sg st s).2).2.2.1, (lnR cs (alv g st s) mk (sg st s).2).2.2.2)).length → CL w1 (NT ++ NT1) (sg st s).2 (fun d => (lnR cs (alv g st s) mk (sg st s).2).2.1 d && !mk d) (lnR cs (alv g st s) mk (sg st s).2).2.2.1 (lnR cs (alv g st s) mk (sg st s).2).2.2.2 → x_R x_prog scr 125 22 [some (.ref 21), some (.ref P), some (.ref T), o3, some (.int (nI s)), o5, o6, o7] [] w1 Q := by
        intro way w1 NT1 o3 o5 o6 o7 e1 e2 u1 u2 u3 u4 u5
        subst e1
        rw [if_neg e2] at hqF hqL hqO
        have hBs := (BI_s hN he (by omega) hB ha hm e2).1
        refine ih _ _ _ (NT ++ NT1) w1 o3 o5 o6 o7 (by omega) u2 (PS_N hP u1 hS) u3 hBs ?_ (fun x hx => ?_) ?_ (fun z w' q1 q2 => hqF z w' (xF_tr (Q_N u1) q1) q2) (fun z y w' q1 q2 => hqL z y w' (xF_tr (Q_N u1) q1) q2) (fun z y w' w'' q1 q2 => hqO z y w' w'' (xF_tr (Q_N u1) q1) q2)
        · obtain ⟨nw, z⟩ := hC0
          exact ⟨nw, CL_F u1 (by omega) z⟩
        · rcases List.mem_cons.mp hx with e3 | e3
          · rw [e3]; exact u5
          · exact CL_F u1 (hlt x e3) (hC x e3)
        · rw [List.length_append, hNT, u4]
          rfl
      refine ⟨fun z => absurd z (by decide), fun _ => ⟨k21, ?_⟩⟩
      refine c127 (n := (sg st s).2) (ls := cg cs (sg st s).2) (al := alv g st s) (mk := mk) hP hco hl (by omega) (by omega) h hS hR (by omega) (cg_ok hco _) (Or.inr ⟨by omega, hc1, hc2, rfl⟩) eL (fun z w1 u1 u2 u3 u4 u5 => b125_68 ?_) (fun z w1 u1 u2 u3 u4 => b125_68 ⟨fun _ => ?_, fun y => absurd (by decide) y⟩)
      · refine ⟨fun y => absurd rfl y, fun _ => ⟨by rw [sh_k u2]; rfl, ?_⟩⟩
        have R1 : RF P w1 (g + cnA st e + 1) mk sp NT := ⟨(u1.2.2.2 21 1 (by unfold mPrr; omega)).trans hR.1, (u1.2.1 21 4 (by unfold mPi; omega)).trans hR.2.1, by rw [u1.2.2.1 21 2 (by unfold mPj; omega)]; exact hR.2.2.1, by rw [u1.2.2.1 21 3 (by unfold mPj; omega)]; exact hR.2.2.2.1, TG_F u1 hR.2.2.2.2 (by unfold mPi; omega) (by unfold mPi; omega)⟩
        refine c131 (al := alv g st s) (mk := mk) hP hco hl hc1 hc2 u2 (PS_P hP u1 hS) R1 hNTl eL z u3 u4 u5 (fun y w2 v1 v2 => b125_79 ⟨fun x => absurd rfl x, fun _ => ?_⟩) (fun y w2 v1 v2 v3 v4 => b125_79 ⟨fun _ => ?_, fun x => absurd (by decide) x⟩)
        · rw [if_pos y] at hqF
          have := hqF (by simp) w2 (xF_tr (Q_P u1) (Q_N v1)) v2
          exact this
        · have ed : (fun j => sp j || decide (j = (sg st s).2)) = (fun j => sp j || (decide (2 = 2) && decide (j = (sg st s).2))) := by funext j; rfl
          rw [ed] at v3
          rw [pk_m1]
          refine next 2 w2 _ _ _ _ _ y (by omega) (xF_tr (N_P u1) v1) v2 v3 ?_ v4
          unfold hx
          rw [List.length_append, List.length_append, Nat.add_comm]
      · have er : lnR cs (alv g st s) mk (sg st s).2 = (1, mkS mk (hI cs (base cs (alv g st s) mk (sg st s).2)), hI cs (base cs (alv g st s) mk (sg st s).2), []) := by
          have z' : ¬ (base cs (alv g st s) mk (sg st s).2).2.2 = 0 := z
          unfold lnR
          rw [if_pos z']
        rw [pk_m1]
        refine next 1 w1 (hI cs (base cs (alv g st s) mk (sg st s).2)) _ _ _ _ (by rw [er]) (by omega) u1 u2 ?_ ?_ ?_
        · rw [er]
          have ed : (fun j => sp j || (decide (1 = 2) && decide (j = (sg st s).2))) = sp := by funext j; simp
          rw [ed]
          exact u3
        · rw [er]; unfold hx; simp
        · rw [er]; exact u4
    · rw [if_neg hc] at hqF hqL hqO
      have hm0 : mk (stA st s) = false := by
        unfold stA
        split
        · rename_i ha
          cases hb : mk (sg st s).2 with
          | false => rfl
          | true => exact absurd ⟨ha, hb⟩ hc
        · cases hb : mk 0 with
          | false => rfl
          | true => have := b2 0 hb; omega
      rw [hm0]
      refine ⟨fun _ => ih mk sp ln NT w _ _ _ _ (by omega) h hS hR (BI_n hN he (by omega) hB hc) hC0 hC hNT hqF hqL hqO, fun z => absurd rfl z⟩
theorem fen_rg : fen cs g st = -1 ∨ (∃ e : Nat, fen cs g st = e ∧ e ≤ st.length ∧ ¬ cfl cs g st e = 0) := by
  have hfr := fnd_rg (cf := cfl cs g st) (st.length + 1) 0
  have hfr : fen cs g st = -1 ∨ (∃ e : Nat, fen cs g st = e ∧ 0 ≤ e ∧ e < 0 + (st.length + 1) ∧ ¬ cfl cs g st e = 0) := hfr
  rcases hfr with h | ⟨e, h1, -, h3, h4⟩
  · exact Or.inl h
  · exact Or.inr ⟨e, h1, by omega, h4⟩
/-- goBackwards -/
theorem c125 (hP : P = 5 ∨ P = 11) (hT3 : T = 17 ∨ T = 19) (hco : cok cs) (hl : cs.length ≤ 63) (h80 : st.length ≤ 80) (hN : NB g cs st) (hst0 : st0 st) (h : SH w) (hS : PS P w hf hs V g cs st mkO spO)
    (hq0 : rfK cs g st = false → ∀ w', xF (mQi T) mQj mQr w w' → SH w' → rfA cs g st ≤ 0 → Q (.inl (some (.int (iI (rfA cs g st))))) w')
    (hq1 : rfK cs g st = true → 0 < rfA cs g st → ∀ w' w'', xF (mQi T) mQj mQr w w'' → SH w'' → xF x_no (fun p k => p = P ∧ (k = 11 ∨ k = 12)) x_no w'' w' → TG T w' (rfT cs g st (fen cs g st).toNat) → PS P w' hf hs V g cs st (rfR cs g st (fen cs g st).toNat).2.1 (rfR cs g st (fen cs g st).toNat).2.2.1 → Q (.inl (some (.int (iI (rfA cs g st))))) w') :
    x_R x_prog scr 125 0 [some (.ref 21), some (.ref P), some (.ref T), o3, o4, o5, o6, o7] [] w Q := by
  refine b125_0 ⟨by rw [sh_k h]; rfl, c94 hP h80 hl hco h hS (fun w1 u1 u2 => b125_5 ?_)⟩
  have S1 := PS_P hP u1 hS
  rcases fen_rg (cs := cs) (g := g) (st := st) with e | ⟨e, e1, e2, e3⟩
  · have hk : rfK cs g st = false := decide_eq_false (fun z => z.1 (by rw [e]; decide))
    have hA : rfA cs g st = 0 := by unfold rfA; rw [if_pos (by rw [e]; decide)]
    have := hq0 hk w1 (Q_P u1) u2 (by rw [hA]; exact Int.le_refl _)
    rw [hA] at this
    rw [e]
    exact ⟨fun z => absurd (by decide) z, fun _ => this⟩
  · have et : (fen cs g st).toNat = e := by rw [e1]; rfl
    have hnn : ¬ fen cs g st < 0 := by rw [e1]; omega
    have hfA : rfA cs g st = if ¬ (rfR cs g st e).1 = 0 then -((rfR cs g st e).1 : Int) else if 2000 < (rfT cs g st e).length then -1000 else 1 + ((rfR cs g st e).2.2.2.length : Int) := by unfold rfA; rw [if_neg hnn, et]
    have hfK : rfK cs g st = decide ((rfR cs g st e).1 = 0 ∧ (rfT cs g st e).length ≤ 2000) := by
      unfold rfK
      rw [et]
      exact decide_eq_decide.mpr ⟨fun z => z.2, fun z => ⟨hnn, z⟩⟩
    rw [et] at hq1
    rw [e1, iI_n]
    have hne : ¬ nI e = (-1 : Int32) := by
      intro y
      have := congrArg Int32.toInt y
      rw [nI_toInt (by omega)] at this
      have h2 : ((-1 : Int32)).toInt = -1 := by decide
      rw [h2] at this
      omega
    refine ⟨fun _ => ⟨by rw [sh_k u2]; rfl, c126 (T := T) hP hT3 hco hl h80 hN hst0 e2 e3 u2 S1 (fun w2 v1 v2 v3 v4 => b125_19 ?_)⟩, fun z => absurd hne z⟩
    have hPA := prg_at (cs := cs) (al := alv g st e) (mk := nob) 17 tv0 [] AT_nil
    have hH18 : (rfH cs g st e).length ≤ 18 := hI_len (by have := hPA.2.1; rw [List.length_nil] at this; omega)
    have hHV : HV cs (alv g st e) (rfH cs g st e) := hI_ok hPA.1 hPA.2.2 e3
    have B0 := BI_0 (H0 := rfH cs g st e) hN e2 hHV
    have hbl : (rfR cs g st e).1 ≤ 80 := by
      have : ∀ (s : Nat) (mk sp : Nat → Bool) (ln : List xLn), (bck cs g st s mk sp ln).1 ≤ s := by
        intro s
        induction s with
        | zero => intro mk sp ln; exact Nat.le_refl _
        | succ s ih =>
          intro mk sp ln
          unfold bck
          split
          · split
            · exact Nat.le_refl _
            · exact Nat.le_trans (ih _ _ _) (Nat.le_succ _)
          · exact Nat.le_trans (ih _ _ _) (Nat.le_succ _)
      have := this e (mkS nob (rfH cs g st e)) nob []
      show (bck cs g st e (mkS nob (rfH cs g st e)) nob []).1 ≤ 80
      omega
    refine c125_l (H0 := rfH cs g st e) hP hT3 hco hl h80 hN hst0 e2 hH18 e (mkS nob (rfH cs g st e)) nob [] (rfH cs g st e) w2 _ _ _ _ (Nat.le_refl _) v2 (PS_Q hP hT3 v1 S1) v3 B0 v4 (fun x hx => (by cases hx)) rfl (fun z w' q1 q2 => ?_) (fun z y w' q1 q2 => ?_) (fun z y w' w'' q1 q2 q3 q4 q5 => ?_)
    · have z : ¬ (rfR cs g st e).1 = 0 := z
      have hA : rfA cs g st = -((rfR cs g st e).1 : Int) := by rw [hfA, if_pos z]
      have := hq0 (by rw [hfK]; exact decide_eq_false (fun y => z y.1)) w' (xF_tr (Q_P u1) (xF_tr v1 q1)) q2 (by rw [hA]; omega)
      rw [hA, ← iI_ng (by omega) (by omega), iI_n] at this
      exact this
    · have z : (rfR cs g st e).1 = 0 := z
      have y : 2000 < (rfT cs g st e).length := y
      have hA : rfA cs g st = -1000 := by rw [hfA, if_neg (fun x => x z), if_pos y]
      have := hq0 (by rw [hfK]; exact decide_eq_false (fun x => by omega)) w' (xF_tr (Q_P u1) (xF_tr v1 q1)) q2 (by rw [hA]; omega)
      rw [hA] at this
      exact this
    · have z : (rfR cs g st e).1 = 0 := z
      have y : (rfT cs g st e).length ≤ 2000 := y
      have hA : rfA cs g st = 1 + ((rfR cs g st e).2.2.2.length : Int) := by rw [hfA, if_neg (fun x => x z), if_neg (by omega)]
      have := hq1 (by rw [hfK]; exact decide_eq_true ⟨z, y⟩) (by rw [hA]; omega) w' w'' (xF_tr (Q_P u1) (xF_tr v1 q1)) q2 q3 q4 q5
      rw [hA] at this
      have e9 : (1 : Int) + ((rfR cs g st e).2.2.2.length : Int) = ((1 + (rfR cs g st e).2.2.2.length : Nat) : Int) := by omega
      rw [e9, iI_n] at this
      exact this
/-- the state behind refute -/
def rfM (cs : List (List Int)) (g : Nat) (st : xSt) (mk : Nat → Bool) : Nat → Bool := if rfK cs g st = true then (rfR cs g st (fen cs g st).toNat).2.1 else mk
def rfS (cs : List (List Int)) (g : Nat) (st : xSt) (sp : Nat → Bool) : Nat → Bool := if rfK cs g st = true then (rfR cs g st (fen cs g st).toNat).2.2.1 else sp
def rfX (cs : List (List Int)) (g : Nat) (st : xSt) (tk : List Int) : List Int := if rfK cs g st = true then rfT cs g st (fen cs g st).toNat else tk
/-- refute of the class -/
theorem c124 (h : SH w) (ht : TT w t sz) (hA : AK fa hf hs V g cs st mk sp tk) (hC : CC w fa hf hs V g cs st mk sp tk)
    (hq1 : hs = true → ∀ w', xLo 0 w w' → SH w' → TT w' t sz → CC w' fa hf hs V g cs st (rfM cs g st mk) (rfS cs g st sp) (rfX cs g st tk) → Q (.inl (some (.int (iI (rfA cs g st))))) w')
    (hq2 : hs = false → ∀ w', xLo 1 w w' → SH w' → TT w' t sz → CC w' fa hf hs V g cs st mk sp tk → Q (.inr 2) w') : x_R x_prog scr 124 0 [some (.ref 0), o1] [] w Q := by
  obtain ⟨hfa, hV, hg40, hgl, hl63, hst80, hco, hst0, hrs, hsf, hmk, htl, htv⟩ := hA
  obtain ⟨P, D, T, S, hP, hT, ⟨r5, r6, r7, r8⟩, h9, hS, hK⟩ := id hC
  have hPP : P = 5 ∨ P = 11 := by omega
  have hTT : T = 17 ∨ T = 19 := by omega
  have hSS : S = 17 ∨ S = 19 := by omega
  have k0 : x_k w 0 = 3 := by rw [sh_k h]; rfl
  refine b124_0 ?_
  rw [r5, pK h hPP, hS.1.2.1, sr0_3 h, r8]
  cases hs with
  | false => exact ⟨k0, by omega, rfl, fun z => absurd rfl z, fun _ => hq2 rfl _ xLo_lost h ht hC⟩
  | true =>
    refine ⟨k0, by omega, rfl, fun _ => ⟨k0, by decide, k0, by omega, k0, by omega, by rw [sh_k h]; rfl, ?_⟩, fun z => absurd (by decide) z⟩
    unfold rfM rfS rfX at hq1
    refine c125 hPP hSS hco hl63 hst80 (prc_NB hgl hrs) hst0 h hS (fun z w1 u1 u2 u3 => b124_33 ?_) (fun z z2 w1 w2 u1 u2 u3 u4 u5 => b124_33 ?_)
    · rw [z] at hq1
      have hlt : -2147483648 ≤ rfA cs g st := by
        unfold rfA at u3 ⊢
        rcases fen_rg (cs := cs) (g := g) (st := st) with e | ⟨e, e1, e2, e3⟩
        · rw [if_pos (by rw [e]; decide)]; decide
        · rw [if_neg (by rw [e1]; omega)]
          split
          · have : ∀ (s : Nat) (mk sp : Nat → Bool) (ln : List xLn), (bck cs g st s mk sp ln).1 ≤ s := by
              intro s
              induction s with
              | zero => intro mk sp ln; exact Nat.le_refl _
              | succ s ih =>
                intro mk sp ln
                unfold bck
                split
                · split
                  · exact Nat.le_refl _
                  · exact Nat.le_trans (ih _ _ _) (Nat.le_succ _)
                · exact Nat.le_trans (ih _ _ _) (Nat.le_succ _)
            have h8 := this (fen cs g st).toNat (mkS nob (rfH cs g st (fen cs g st).toNat)) nob []
            have h8 : (rfR cs g st (fen cs g st).toNat).1 ≤ (fen cs g st).toNat := h8
            rw [e1] at h8 ⊢
            have : ((e : Int)).toNat = e := rfl
            omega
          · split <;> omega
      have gle : iI (rfA cs g st) ≤ 0 ↔ rfA cs g st ≤ 0 := by rw [Int32.le_iff_toInt_le, iI_toInt (by omega) (by omega)]; rfl
      refine ⟨fun _ => b124_42 (hq1 rfl w1 (xLo_F u1 (fun p k hp => ⟨by unfold mQi; omega, by unfold mQj; omega, by unfold mQr; omega⟩)) u2 (TT_F u1 ht (by unfold mQi; omega) (by unfold mQi; omega) (by unfold mQi; omega) (by unfold mQi; omega)) ⟨P, D, T, S, hP, hT, ⟨?_, ?_, ?_, ?_⟩, (u1.2.1 0 9 (by unfold mQi; omega)).trans h9, PS_Q hPP hSS u1 hS, ?_⟩), fun y => absurd (gle.mpr u3) y⟩
      · exact (u1.2.2.2 0 5 (by unfold mQr; omega)).trans r5
      · exact (u1.2.2.2 0 6 (by unfold mQr; omega)).trans r6
      · exact (u1.2.2.2 0 7 (by unfold mQr; omega)).trans r7
      · exact (u1.2.2.2 0 8 (by unfold mQr; omega)).trans r8
      · exact TK_e (funext fun k => u1.2.1 T k (by unfold mQi; omega)) (funext fun k => u1.2.1 (T + 1) k (by unfold mQi; omega)) hK
    · rw [z] at hq1
      have z3 := of_decide_eq_true z
      have ub : rfA cs g st < 2147483648 := by
        unfold rfA at z2 ⊢
        rw [if_neg z3.1, if_neg (fun y => y z3.2.1), if_neg (by omega)] at z2 ⊢
        have h5 := u5
        have hgeT := tkL_ge (cs := cs) (E := g + cnA st (fen cs g st).toNat + 1) (H0 := rfH cs g st (fen cs g st).toNat) (rfR cs g st (fen cs g st).toNat).2.2.2
        have : ∀ ln : List xLn, ln.length ≤ (tkL cs (g + cnA st (fen cs g st).toNat + 1) (rfH cs g st (fen cs g st).toNat) ln).length := by
          intro ln
          induction ln with
          | nil => simp
          | cons x r ih =>
            unfold tkL
            rw [List.length_append, List.length_append, lnT_len, List.length_cons]
            omega
        have h6 := this (rfR cs g st (fen cs g st).toNat).2.2.2
        have h7 := z3.2.2
        unfold rfT tkA at h7
        rw [List.length_append] at h7
        omega
      have ngle : ¬ iI (rfA cs g st) ≤ 0 := by rw [Int32.le_iff_toInt_le, iI_toInt (by omega) (by omega)]; show ¬ rfA cs g st ≤ 0; omega
      have F : xF (mQi S) (fun p k => mQj p k ∨ (p = P ∧ (k = 11 ∨ k = 12))) mQr w w1 := xF_tr (xF_w u1 (fun _ _ z => z) (fun _ _ z => Or.inl z) (fun _ _ z => z)) (xF_w u3 (fun _ _ z => z.elim) (fun _ _ z => Or.inr z) (fun _ _ z => z.elim))
      have h1 : SH w1 := sh_A (xF_w F (fun _ _ z => z) (fun _ _ z => z) (by unfold mQr mrA; omega)) h
      have er : ∀ k, x_r w1 0 k = x_r w 0 k := fun k => F.2.2.2 0 k (by unfold mQr; omega)
      have ht1 : TT w1 t sz := TT_F F ht (by unfold mQi; omega) (by unfold mQi; omega) (by unfold mQi; omega) (by unfold mQi; omega)
      refine ⟨fun y => absurd y ngle, fun _ => ⟨by rw [sh_k h1]; rfl, c80 hT h1 ((er 7).trans r7) ((er 8).trans r8) (fun w3 v1 v2 v3 v4 v5 => b124_42 ?_)⟩⟩
      have i3 : x_i w3 = x_i w1 := funext fun o => funext fun k => v1.2.1 o k fun z => z
      have j3 : x_j w3 = x_j w1 := funext fun o => funext fun k => v1.2.2.1 o k fun z => z
      refine hq1 rfl w3 (xLo_tr (a := 0) (b := 0) (xLo_F F (fun p k hp => ⟨by unfold mQi; omega, by unfold mQj; omega, by unfold mQr; omega⟩)) (xLo_F v1 (fun p k hp => ⟨fun z => z, fun z => z, by unfold mrA; omega⟩))) (sh_A v1 h1) (TT_F v1 ht1 (fun z => z) (fun z => z) (fun _ z => z) (fun _ z => z)) ⟨P, D, S, T, hP, by omega, ⟨v4.trans ((er 5).trans r5), v5.trans ((er 6).trans r6), v2, v3⟩, ?_, PS_e (fun p _ _ => by rw [i3]) (by rw [j3]) (by rw [j3]) u5, ?_⟩
      · rw [i3, F.2.1 0 9 (by unfold mQi; omega)]; exact h9
      · exact TK_e (by rw [i3]) (by rw [i3]) (TG_TK u4 z3.2.2)
end X69
