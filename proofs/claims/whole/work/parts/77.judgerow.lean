/-! Judging, on the class's side: literals, following. -/
section X77
variable {scr : Nat × (Nat → Int32)} {w : xW} {Q : xO → xW → Prop} {w1 : xW} {P T n c g d V l i k last : Nat} {cs : List (List Int)} {tk ls : List Int} {KL : List xKn} {v hi o : Int} {tv : Nat → Int} {nm : List Nat} {o1 o2 o3 o4 o5 : Option Value}
theorem JC_7 (hJ : JC T w KL V) : x_r w 31 7 = T := hJ.1
/-- readClause -/
theorem c170 (hT : T = 17 ∨ T = 19 ∨ T = 22) (hV : V ≤ 16) (h : SH w) (hJ : JC T w KL V) (hT2 : TK T w tk) (hv : TV tk) (h9 : x_i w 31 9 = nI k) (hk : k ≤ tk.length) (hq : ∀ w', xI (fun p k => p = 31 ∧ (k = 8 ∨ k = 9)) w w' → x_i w' 31 8 = mask (rdl V tk (tk.length - k) k []).2.2 → ((rdl V tk (tk.length - k) k []).1 = true → x_i w' 31 9 = nI ((rdl V tk (tk.length - k) k []).2.1 + 1)) → Q (.inl (some (.int (b32 (rdl V tk (tk.length - k) k []).1)))) w') : x_R x_prog scr 170 0 [some (.ref 31)] [] w Q := by
  have hl := hv.1
  have key : ∀ (d k : Nat) (ls : List Int) (w1 : xW), xI (fun p k => p = 31 ∧ (k = 8 ∨ k = 9)) w w1 → x_i w1 31 8 = mask ls → x_i w1 31 9 = nI k → cl0 ls → k + d = tk.length → (∀ w', xI (fun p k => p = 31 ∧ (k = 8 ∨ k = 9)) w w' → x_i w' 31 8 = mask (rdl V tk d k ls).2.2 → ((rdl V tk d k ls).1 = true → x_i w' 31 9 = nI ((rdl V tk d k ls).2.1 + 1)) → Q (.inl (some (.int (b32 (rdl V tk d k ls).1)))) w') → x_R x_prog scr 170 5 [some (.ref 31)] [] w1 Q := by
    intro d
    induction d with
    | zero =>
      intro k ls w1 F e8 e9 hc hk hq
      have h1 := sh_I F h
      have e7 : x_r w1 31 7 = T := by rw [xI_r F]; exact hJ.1
      have K1 : TK T w1 tk := TK_e (funext fun k => xI_i F T k (by omega)) (funext fun k => xI_i F (T + 1) k (by omega)) hT2
      refine b170_5 ?_
      rw [e7, K1.1, e9, tK h1 hT, sh_k h1, nI_1]
      refine ⟨rfl, rfl, by omega, rfl, fun _ => ⟨rfl, rfl, Or.inr rfl, hq _ (xI_si F ⟨rfl, Or.inr rfl⟩) ?_ (fun _ => ?_)⟩, fun z => absurd (nI_le (by omega) (by omega)) z⟩
      · rw [y_i_si, if_neg (by omega)]; exact e8
      · rw [y_i_si, if_pos ⟨rfl, rfl⟩]; rfl
    | succ d ih =>
      intro k ls w1 F e8 e9 hc hk hq
      have h1 := sh_I F h
      have e7 : x_r w1 31 7 = T := by rw [xI_r F]; exact hJ.1
      have e5 : x_i w1 31 5 = nI V := (xI_i F 31 5 (by omega)).trans hJ.2.1
      have K1 : TK T w1 tk := TK_e (funext fun k => xI_i F T k (by omega)) (funext fun k => xI_i F (T + 1) k (by omega)) hT2
      have hr := tA_rg hv k
      have g0 : iI (tA tk k) = 0 ↔ tA tk k = 0 := iI_eq (b := 0) (by omega) (by omega) (by omega) (by omega)
      unfold rdl at hq
      refine b170_5 ?_
      rw [e7, K1.1, e9, tK h1 hT, sh_k h1]
      refine ⟨rfl, rfl, by omega, rfl, fun z => absurd z (nI_ge (by omega) (by omega)), fun _ => ⟨rfl, by omega, rfl, rfl, c137t hT h1 K1 hl (by omega) (b170_30 ?_)⟩⟩
      rw [g0, e7, e9, tK h1 hT, sh_k h1, nI_1]
      refine ⟨fun z => ⟨rfl, rfl, Or.inr rfl, ?_⟩, fun z => ⟨rfl, by omega, rfl, rfl, c137t hT h1 K1 hl (by omega) (b170_44 ?_)⟩⟩
      · rw [if_pos z] at hq
        refine hq _ (xI_si F ⟨rfl, Or.inr rfl⟩) ?_ (fun _ => ?_)
        · rw [y_i_si, if_neg (by omega)]; exact e8
        · rw [y_i_si, if_pos ⟨rfl, rfl⟩]
      · rw [if_neg z] at hq
        rw [e8, e5, sh_k h1]
        refine ⟨rfl, rfl, c32 hV hc.1 (by omega) (b170_55 ?_)⟩
        cases hj : jn V ls (tA tk k) with
        | false =>
          rw [if_neg (show ¬ jn V ls (tA tk k) = true by rw [hj]; decide)] at hq
          exact ⟨fun y => absurd rfl y, fun _ => ⟨Or.inl rfl, hq w1 F e8 (fun y => (by cases y))⟩⟩
        | true =>
          rw [if_pos hj] at hq
          refine ⟨fun _ => ?_, fun y => absurd (by decide) y⟩
          rw [e7, e9, e8, tK h1 hT, sh_k h1]
          refine ⟨rfl, rfl, by omega, rfl, rfl, c137t hT h1 K1 hl (by omega) (b170_76 (c34 (jn_lok hV hj) (b170_79 ?_)))⟩
          have e9' : ∀ v, x_i (x_si w1 31 8 v) 31 9 = nI k := fun v => by rw [y_i_si, if_neg (by omega)]; exact e9
          rw [e9', ← mask_app, nI_1, sh_k h1]
          refine ⟨rfl, rfl, rfl, ih (k + 1) (ls ++ [tA tk k]) _ (xI_si (xI_si F ⟨rfl, Or.inl rfl⟩) ⟨rfl, Or.inr rfl⟩) ?_ ?_ (cl0_app hV hc hj) (by omega) hq⟩
          · rw [y_i_si, if_neg (by omega), y_i_si, if_pos ⟨rfl, rfl⟩]
          · rw [y_i_si, if_pos ⟨rfl, rfl⟩]
  refine b170_0 ⟨by rw [sh_k h]; rfl, key (tk.length - k) k [] _ (xI_si xI_rf ⟨rfl, Or.inl rfl⟩) ?_ ?_ cl0_nil (by omega) hq⟩
  · rw [y_i_si, if_pos ⟨rfl, rfl⟩]; rfl
  · rw [y_i_si, if_neg (by omega)]; exact h9
theorem nI_nm1 {a : Nat} (ha : a < 2 ^ 30) : ¬ nI a = (-1 : Int32) := by
  intro y
  have := congrArg Int32.toInt y
  rw [nI_toInt (by omega)] at this
  have h2 : ((-1 : Int32)).toInt = -1 := by decide
  rw [h2] at this
  omega
/-- follow -/
theorem c172 (h : SH w) (hJ : JC T w KL V) (hK : KI KL hi) (ht : tok tv) (hM : TM tv (x_i w 31 10)) (hq : ∀ w', xI (fun p k => p = 31 ∧ (k = 10 ∨ k = 11)) w w' → (¬ (fw KL tv v).1 = 0 → TM (fw KL tv v).2 (x_i w' 31 10) ∧ x_i w' 31 11 = b32 (decide ((fw KL tv v).1 = 2))) → Q (.inl (some (.int (b32 (decide (¬ (fw KL tv v).1 = 0)))))) w') : x_R x_prog scr 172 0 [some (.ref 31), some (.int (iI (fdk KL v))), o2] [] w Q := by
  obtain ⟨a1, a2, a3, a4, a5⟩ := id hJ
  have k31 : x_k w 31 = 11 := by rw [sh_k h]; rfl
  rcases fdk_rg KL v with ⟨e, -⟩ | ⟨i, e, e1, e2, e3⟩
  · have ef : fw KL tv v = (0, tv) := by unfold fw; rw [e, if_pos (by decide)]
    rw [ef] at hq
    rw [e]
    exact b172_0 ⟨fun z => absurd (by decide) z, fun _ => ⟨Or.inl rfl, hq w xI_rf (fun z => absurd rfl z)⟩⟩
  · have ef : fw KL tv v = if (isr tv (kn KL i).2.1).1 = false then (0, tv) else if (isr tv (kn KL i).2.1).2 = 0 then (2, tv) else (1, setT tv (isr tv (kn KL i).2.1).2) := by unfold fw; rw [e, if_neg (by omega)]; rfl
    have hcl := (hK.1 i e1).2.2
    have c2 := (a5 i e1).2.1
    generalize (kn KL i).2.1 = ls at ef hcl c2
    rw [e, iI_n]
    refine b172_0 ⟨fun _ => ?_, fun y => absurd (nI_nm1 (by omega)) y⟩
    rw [sr31_1 h, sh_k h, sh_l h, nI_clamp (show i < 2 ^ 31 by omega), c2]
    refine ⟨rfl, by decide, ⟨rfl, vp_in_nI (N := 540) (by omega) (by omega)⟩, rfl, c33 (b172_20 ?_)⟩
    have hO := opn_iff0 ht hM hcl
    have hrd : ∀ u, RDY tv ls u → opn1 ls (x_i w 31 10) = if u = 0 then 0 else sb (li u) := fun u hu => opn_rdy0 hM hcl hu
    unfold opn1 at hO hrd
    generalize x_i w 31 10 = m at hM hO hrd ⊢
    generalize mask ls &&& (opp m ^^^ (-1)) = O at hO hrd ⊢
    cases hb : (isr tv ls).1 with
    | false =>
      rw [if_pos hb] at ef
      rw [ef] at hq
      have hno : ¬ ((O &&& (O - 1)) = 0 ∧ (O &&& m) = 0) := fun z => by
        have := hO.mp z
        rw [hb] at this
        cases this
      exact ⟨fun _ => ⟨Or.inl rfl, hq w xI_rf (fun z => absurd rfl z)⟩, fun z => ⟨k31, fun y => absurd ⟨Classical.not_not.mp z, y⟩ hno, fun _ => ⟨Or.inl rfl, hq w xI_rf (fun z => absurd rfl z)⟩⟩⟩
    | true =>
      rw [if_neg (show ¬ (isr tv ls).1 = false by rw [hb]; decide)] at ef
      obtain ⟨d1, d2⟩ := hO.mpr hb
      have hR := (isr_iff0 ht hcl (u := (isr tv ls).2)).mp ⟨hb, rfl⟩
      have hop := hrd _ hR
      generalize (isr tv ls).2 = u at ef hR hop
      refine ⟨fun z => absurd d1 z, fun _ => ⟨k31, fun _ => ⟨k31, k31, fun z => ?_, fun z => ?_⟩, fun z => absurd d2 z⟩⟩
      · have hu : ¬ u = 0 := fun y => by rw [if_pos y] at hop; exact z hop
        rw [if_neg hu] at ef hop
        obtain ⟨m1, m2⟩ := hR.2.resolve_left hu
        rw [ef] at hq
        refine ⟨⟨k31, Or.inl rfl⟩, Or.inr rfl, hq _ (xI_si (xI_si xI_rf ⟨rfl, Or.inl rfl⟩) ⟨rfl, Or.inr rfl⟩) (fun _ => ⟨?_, ?_⟩)⟩
        · rw [y_i_si, if_neg (by omega), y_i_si, if_pos ⟨rfl, rfl⟩, hop]
          exact TM_set hM (hcl.1 u m1) (by omega)
        · rw [y_i_si, if_pos ⟨rfl, rfl⟩]; rfl
      · have z := Classical.not_not.mp z
        have hu : u = 0 := by
          apply Classical.byContradiction
          intro hu
          rw [if_neg hu] at hop
          obtain ⟨m1, m2⟩ := hR.2.resolve_left hu
          have hk := hcl.1 u m1
          have q := mm_sb (li u) (li_lt hk) (li u) (li_lt hk)
          rw [← hop, z, mm_0, decide_eq_true rfl] at q
          cases q
        rw [if_pos hu] at ef
        rw [ef] at hq
        refine ⟨⟨k31, Or.inr rfl⟩, Or.inr rfl, hq _ (xI_si (xI_si xI_rf ⟨rfl, Or.inl rfl⟩) ⟨rfl, Or.inr rfl⟩) (fun _ => ⟨?_, ?_⟩)⟩
        · have em : m ||| O = m := by
            rw [z]
            exact mm_ext fun i hi => by rw [mm_or, mm_0, Bool.or_false]
          rw [y_i_si, if_neg (by omega), y_i_si, if_pos ⟨rfl, rfl⟩, em]
          exact hM
        · rw [y_i_si, if_pos ⟨rfl, rfl⟩]; rfl
/-- what followRow answers -/
def frt (tk : List Int) (r : Nat × Nat × (Nat → Int)) : Bool := decide (r.1 = 1 ∨ (r.1 = 2 ∧ ¬ 0 < tA tk r.2.1))
/-- followRow -/
theorem c171 (hT : T = 17 ∨ T = 19 ∨ T = 22) (h : SH w) (hJ : JC T w KL V) (hK : KI KL hi) (hT2 : TK T w tk) (hv : TV tk) (h9 : x_i w 31 9 = nI k) (ht : tok tv) (hM : TM tv (x_i w 31 10)) (hk : k ≤ last) (hla : last < tk.length) (hl0 : tA tk last = 0) (hq : ∀ w', xI (fun p k => p = 31 ∧ (k = 9 ∨ k = 10 ∨ k = 11)) w w' → (frt tk (frw KL tk (last - k) k tv) = true → TM (frw KL tk (last - k) k tv).2.2 (x_i w' 31 10) ∧ x_i w' 31 9 = nI (frw KL tk (last - k) k tv).2.1 ∧ x_i w' 31 11 = b32 (decide ((frw KL tk (last - k) k tv).1 = 2))) → Q (.inl (some (.int (b32 (frt tk (frw KL tk (last - k) k tv)))))) w') : x_R x_prog scr 171 0 [some (.ref 31)] [] w Q := by
  have hl := hv.1
  -- one look at the head
  have hd : ∀ (k : Nat) (w1 : xW), xI (fun p k => p = 31 ∧ (k = 9 ∨ k = 10 ∨ k = 11)) w w1 → x_i w1 31 9 = nI k → k ≤ last → (¬ 0 < tA tk k → Q (.inl (some (.int 1))) w1) → (0 < tA tk k → ¬ x_i w1 31 11 = 0 → Q (.inl (some (.int 0))) w1) → (0 < tA tk k → x_i w1 31 11 = 0 → x_R x_prog scr 171 53 [some (.ref 31)] [.int (iI (tA tk k)), .ref 31, .ref 31] w1 Q) → x_R x_prog scr 171 5 [some (.ref 31)] [] w1 Q := by
    intro k w1 F e9 hk q1 q2 q3
    have h1 := sh_I F h
    have e7 : x_r w1 31 7 = T := by rw [xI_r F]; exact hJ.1
    have K1 : TK T w1 tk := TK_e (funext fun k => xI_i F T k (by omega)) (funext fun k => xI_i F (T + 1) k (by omega)) hT2
    have hr := tA_rg hv k
    have g0 : iI (tA tk k) ≤ 0 ↔ ¬ 0 < tA tk k := by
      rw [Int32.le_iff_toInt_le, iI_toInt (by omega) (by omega)]
      show tA tk k ≤ 0 ↔ _
      omega
    refine b171_5 ?_
    rw [e7, K1.1, e9, tK h1 hT, sh_k h1]
    refine ⟨rfl, rfl, by omega, rfl, fun z => absurd z (nI_ge (by omega) (by omega)), fun _ => ⟨rfl, by omega, rfl, rfl, c137t hT h1 K1 hl (by omega) (b171_30 ?_)⟩⟩
    rw [g0, e7, e9, tK h1 hT, sh_k h1]
    refine ⟨fun z => ⟨Or.inr rfl, q1 z⟩, fun z => ⟨rfl, fun y => ⟨Or.inl rfl, q2 (Classical.not_not.mp z) y⟩, fun y => ⟨rfl, by omega, rfl, rfl, c137t hT h1 K1 hl (by omega) (q3 (Classical.not_not.mp z) (Classical.not_not.mp y))⟩⟩⟩
  have key : ∀ (d k : Nat) (tv : Nat → Int) (w1 : xW), xI (fun p k => p = 31 ∧ (k = 9 ∨ k = 10 ∨ k = 11)) w w1 → x_i w1 31 9 = nI k → tok tv → TM tv (x_i w1 31 10) → x_i w1 31 11 = 0 → k + d = last → (∀ w', xI (fun p k => p = 31 ∧ (k = 9 ∨ k = 10 ∨ k = 11)) w w' → (frt tk (frw KL tk d k tv) = true → TM (frw KL tk d k tv).2.2 (x_i w' 31 10) ∧ x_i w' 31 9 = nI (frw KL tk d k tv).2.1 ∧ x_i w' 31 11 = b32 (decide ((frw KL tk d k tv).1 = 2))) → Q (.inl (some (.int (b32 (frt tk (frw KL tk d k tv)))))) w') → x_R x_prog scr 171 5 [some (.ref 31)] [] w1 Q := by
    intro d
    induction d with
    | zero =>
      intro k tv w1 F e9 ht hM e11 hk hq
      have ek : k = last := by omega
      have e : frt tk (frw KL tk 0 k tv) = true := decide_eq_true (Or.inl rfl)
      rw [e] at hq
      exact hd k w1 F e9 (by omega) (fun _ => hq w1 F (fun _ => ⟨hM, e9, e11⟩)) (fun z => absurd z (by rw [ek, hl0]; decide)) (fun z => absurd z (by rw [ek, hl0]; decide))
    | succ d ih =>
      intro k tv w1 F e9 ht hM e11 hk hq
      have h1 := sh_I F h
      have J1 : JC T w1 KL V := JC_I F (by omega) (by omega) hJ
      have hr := tA_rg hv k
      unfold frw at hq
      refine hd k w1 F e9 (by omega) (fun z => ?_) (fun z y => absurd e11 y) (fun z _ => ?_)
      · rw [if_neg z] at hq
        have e : frt tk (1, k, tv) = true := decide_eq_true (Or.inl rfl)
        rw [e] at hq
        exact hq w1 F (fun _ => ⟨hM, e9, e11⟩)
      · rw [if_pos z] at hq
        refine b171_53 ⟨by rw [sh_k h1]; rfl, c168 h1 J1 hK (by omega) (b171_56 ⟨by rw [sh_k h1]; rfl, c172 h1 J1 hK ht hM (fun w2 F2 G => b171_59 ?_)⟩)⟩
        have hok := fw_ok hK ht (v := tA tk k)
        have h2 := sh_I F2 h1
        have k31 : x_k w2 31 = 11 := by rw [sh_k h2]; rfl
        have FF : xI (fun p k => p = 31 ∧ (k = 9 ∨ k = 10 ∨ k = 11)) w w2 := xI_tr F (xI_w F2 (by omega))
        have e92 : x_i w2 31 9 = nI k := (xI_i F2 31 9 (by omega)).trans e9
        have F3 : xI (fun p k => p = 31 ∧ (k = 9 ∨ k = 10 ∨ k = 11)) w (x_si w2 31 9 (nI (k + 1))) := xI_si FF ⟨rfl, Or.inl rfl⟩
        have f9 : x_i (x_si w2 31 9 (nI (k + 1))) 31 9 = nI (k + 1) := by rw [y_i_si, if_pos ⟨rfl, rfl⟩]
        have f10 : x_i (x_si w2 31 9 (nI (k + 1))) 31 10 = x_i w2 31 10 := by rw [y_i_si, if_neg (by omega)]
        have f11 : x_i (x_si w2 31 9 (nI (k + 1))) 31 11 = x_i w2 31 11 := by rw [y_i_si, if_neg (by omega)]
        rw [e92, nI_1]
        generalize fw KL tv (tA tk k) = r at hq G hok ⊢
        obtain ⟨how, tv'⟩ := r
        dsimp only at hq G hok ⊢
        by_cases c0 : how = 0
        · have e : frt tk (how, k + 1, tv') = false := decide_eq_false (by dsimp only; omega)
          rw [if_neg (show ¬ how = 1 by omega), e] at hq
          rw [decide_eq_false (fun y => y c0)]
          exact ⟨fun y => absurd rfl y, fun _ => ⟨Or.inl rfl, hq w2 FF (fun y => (by cases y))⟩⟩
        · rw [decide_eq_true c0]
          obtain ⟨G1, G2⟩ := G c0
          refine ⟨fun _ => ⟨k31, k31, ?_⟩, fun y => absurd (by decide) y⟩
          by_cases c1 : how = 1
          · rw [if_pos c1] at hq
            rw [decide_eq_false (by omega)] at G2
            exact ih (k + 1) tv' _ F3 f9 hok.1 (by rw [f10]; exact G1) (by rw [f11]; exact G2) (by omega) hq
          · have c2 : how = 2 := by omega
            rw [if_neg c1] at hq
            have G3 : x_i w2 31 11 = 1 := by rw [G2, decide_eq_true c2]; rfl
            refine hd (k + 1) _ F3 f9 (by omega) (fun y => ?_) (fun y x => ?_) (fun y x => ?_)
            · have e : frt tk (how, k + 1, tv') = true := decide_eq_true (Or.inr ⟨c2, y⟩)
              rw [e] at hq
              exact hq _ F3 (fun _ => ⟨by rw [f10]; exact G1, f9, by rw [f11]; exact G2⟩)
            · have e : frt tk (how, k + 1, tv') = false := decide_eq_false (fun u => by
                rcases u with u | u
                · exact c1 u
                · exact u.2 y)
              rw [e] at hq
              exact hq _ F3 (fun u => (by cases u))
            · rw [f11, G3] at x
              exact absurd x (by decide)
  refine b171_0 ⟨⟨by rw [sh_k h]; rfl, Or.inl rfl⟩, key (last - k) k tv _ (xI_si xI_rf ⟨rfl, Or.inr (Or.inr rfl)⟩) ?_ ht ?_ ?_ (by omega) hq⟩
  · rw [y_i_si, if_neg (by omega)]; exact h9
  · rw [y_i_si, if_neg (by omega)]; exact hM
  · rw [y_i_si, if_pos ⟨rfl, rfl⟩]
/-- withstands -/
theorem c175 (hT : T = 17 ∨ T = 19 ∨ T = 22) (h : SH w) (hJ : JC T w KL V) (hK : KI KL hi) (hT2 : TK T w tk) (hv : TV tk) (h9 : x_i w 31 9 = nI k) (ht : tok tv) (hM : TM tv (x_i w 31 10)) (hk : k ≤ last) (hla : last < tk.length) (hl0 : tA tk last = 0) (ho : lok o) (hc : c < KL.length) (hq : ∀ w', xI (fun p k => p = 31 ∧ (k = 9 ∨ k = 10 ∨ k = 11)) w w' → ((gp KL tk last o tv c k).1 = true → x_i w' 31 9 = nI (gp KL tk last o tv c k).2) → Q (.inl (some (.int (b32 (gp KL tk last o tv c k).1)))) w') : x_R x_prog scr 175 0 [some (.ref 31), some (.int (oth (kn KL c).2.1 o))] [] w Q := by
  have hl := hv.1
  have k31 : x_k w 31 = 11 := by rw [sh_k h]; rfl
  have hcl := (hK.1 c hc).2.2
  have g1 := oth_00 hcl ho hM
  unfold gp at hq
  refine b175_0 ⟨k31, fun z => ⟨k31, c33 (b175_38 ⟨k31, k31, ?_⟩)⟩, fun z => ?_⟩
  · have z := g1.mp z
    obtain ⟨t1, t2, -⟩ := tvo_ok0 hcl ho ht hM z
    rw [if_pos z] at hq
    dsimp only at hq
    have F : ∀ v, xI (fun p k => p = 31 ∧ (k = 9 ∨ k = 10 ∨ k = 11)) w (x_si w 31 10 v) := fun v => xI_si xI_rf ⟨rfl, Or.inr (Or.inl rfl)⟩
    refine c171 hT (sh_I (F _) h) (JC_I (F _) (by omega) (by omega) hJ) hK (TK_e (funext fun k => xI_i (F _) T k (by omega)) (funext fun k => xI_i (F _) (T + 1) k (by omega)) hT2) hv (k := k) (tv := tvo tv (kn KL c).2.1 o) (last := last) ?_ t1 ?_ hk hla hl0 (fun w2 F2 G => b175_46 ?_)
    · rw [y_i_si, if_neg (by omega)]; exact h9
    · rw [y_i_si, if_pos ⟨rfl, rfl⟩]; exact t2
    · have hok := frw_ok hK (tk := tk) (last - k) k _ t1
      have FF := xI_tr (F _) F2
      have h2 := sh_I FF h
      generalize frw KL tk (last - k) k (tvo tv (kn KL c).2.1 o) = r at hq G hok ⊢
      obtain ⟨how, k', tv'⟩ := r
      dsimp only at hq G hok ⊢
      cases hb : frt tk (how, k', tv') with
      | false =>
        have hb := of_decide_eq_false hb
        dsimp only at hb
        have e : decide (how = 2 ∧ ¬ 0 < tA tk k') = false := decide_eq_false (fun y => hb (Or.inr y))
        rw [e] at hq
        exact ⟨fun _ => ⟨Or.inl rfl, hq w2 FF (fun y => (by cases y))⟩, fun y => absurd rfl y⟩
      | true =>
        obtain ⟨G1, G2, G3⟩ := G hb
        have hb := of_decide_eq_true hb
        dsimp only at hb
        refine ⟨fun y => absurd y (by decide), fun _ => ⟨by rw [sh_k h2]; rfl, fun y => ⟨Or.inl rfl, ?_⟩, fun y => ⟨Or.inr rfl, ?_⟩⟩⟩
        · have e : decide (how = 2 ∧ ¬ 0 < tA tk k') = false := decide_eq_false (fun u => by
            rw [G3, decide_eq_true u.1] at y
            exact absurd y (by decide))
          rw [e] at hq
          exact hq w2 FF (fun u => (by cases u))
        · have e : decide (how = 2 ∧ ¬ 0 < tA tk k') = true := decide_eq_true (by
            rcases hb with u | u
            · rw [G3, decide_eq_false (by omega)] at y
              exact absurd rfl y
            · exact u)
          rw [e] at hq
          exact hq w2 FF (fun _ => G2)
  · have z2 : ¬ ft tv (kn KL c).2.1 o = 0 := fun y => z (g1.mpr y)
    have hr := tA_rg hv k
    have g0 : (0 : Int32) < iI (tA tk k) ↔ 0 < tA tk k := by
      rw [Int32.lt_iff_toInt_lt, iI_toInt (by omega) (by omega)]
      show 0 < tA tk k ↔ _
      omega
    rw [if_neg z2] at hq
    dsimp only at hq
    rw [hJ.1, h9, tK h hT, sh_k h]
    refine ⟨rfl, by omega, rfl, rfl, c137t hT h hT2 hl (by omega) (b175_20 ?_)⟩
    rw [g0]
    refine ⟨fun y => ⟨Or.inl rfl, ?_⟩, fun y => ⟨Or.inr rfl, ?_⟩⟩
    · rw [decide_eq_false (fun u => u y)] at hq
      exact hq w xI_rf (fun u => (by cases u))
    · rw [decide_eq_true y] at hq
      exact hq w xI_rf (fun _ => h9)
theorem gp_rg (hK : KI KL hi) (ho : lok o) (ht : tok tv) (hc : c < KL.length) (hk : k ≤ last) : k ≤ (gp KL tk last o tv c k).2 ∧ (gp KL tk last o tv c k).2 ≤ last ∧ ((gp KL tk last o tv c k).1 = true → ¬ 0 < tA tk (gp KL tk last o tv c k).2) := by
  obtain ⟨m, hM⟩ := TM_ex tv
  have hcl := (hK.1 c hc).2.2
  unfold gp
  split
  · rename_i z
    obtain ⟨t1, t2, -⟩ := tvo_ok0 hcl ho ht hM z
    obtain ⟨-, i2, i3, -⟩ := frw_ok hK (tk := tk) (last - k) k _ t1
    dsimp only
    exact ⟨i2, by omega, fun y => (of_decide_eq_true y).2⟩
  · dsimp only
    exact ⟨Nat.le_refl _, hk, fun y => of_decide_eq_true y⟩
/-- how many have o -/
def hmy (KL : List xKn) (o : Int) : Nat → Nat
  | 0 => 0
  | j + 1 => hmy KL o j + if (kn KL j).2.2 = true ∧ o ∈ (kn KL j).2.1 then 1 else 0
theorem hmy_le (KL : List xKn) (o : Int) : ∀ j, hmy KL o j ≤ j
  | 0 => Nat.le_refl _
  | j + 1 => by
    have := hmy_le KL o j
    unfold hmy
    split <;> omega
/-- howManyHave -/
theorem c174 (h : SH w) (hJ : JC T w KL V) (hK : KI KL hi) (ho : lok o) (hq : Q (.inl (some (.int (nI (hmy KL o KL.length))))) w) : x_R x_prog scr 174 0 [some (.ref 31), some (.int (sb (li o))), o2, o3] [] w Q := by
  obtain ⟨a1, a2, a3, a4, a5⟩ := id hJ
  have key : ∀ (d j : Nat), j + d = KL.length → x_R x_prog scr 174 4 [some (.ref 31), some (.int (sb (li o))), some (.int (nI (hmy KL o j))), some (.int (nI j))] [] w Q := by
    intro d
    induction d with
    | zero =>
      intro j hj
      have ej : j = KL.length := by omega
      rw [ej]
      refine b174_4 ?_
      rw [a3, sh_k h]
      exact ⟨rfl, fun _ => hq, fun z => absurd (nI_le (by omega) (by omega)) z⟩
    | succ d ih =>
      intro j hj
      obtain ⟨c1, c2, c3⟩ := a5 j (by omega)
      have hcl := (hK.1 j (by omega)).2.2
      have gm : mask (kn KL j).2.1 &&& sb (li o) = 0 ↔ ¬ o ∈ (kn KL j).2.1 := by
        rw [and_sb (li_lt ho), ← mm_in hcl.1 ho, Bool.not_eq_true]
      have gb : b32 (kn KL j).2.2 = 0 ↔ ¬ (kn KL j).2.2 = true := by
        cases (kn KL j).2.2 <;> decide
      have go := ih (j + 1) (by omega)
      unfold hmy at go
      refine b174_4 ?_
      rw [a3, sr31_1 h, sr31_2 h, sh_k h, sh_l h, nI_clamp (show j < 2 ^ 31 by omega), c2, c3, gm, gb, nI_1, nI_1]
      have v540 : vp_in (nI j) 540 := vp_in_nI (by omega) (by omega)
      have z0 : nI (hmy KL o j) + 0 = nI (hmy KL o j) := Int32.add_zero _
      rw [z0]
      refine ⟨rfl, fun z => absurd z (nI_ge (by omega) (by omega)), fun _ => ⟨rfl, by decide, ⟨rfl, v540⟩, fun z => ?_, fun z => ⟨rfl, by decide, ⟨rfl, v540⟩, fun y => ?_, fun y => ?_⟩⟩⟩
      · rw [if_neg (fun u => z u.1)] at go
        exact go
      · rw [if_neg (fun u => y u.2)] at go
        exact go
      · rw [if_pos ⟨Classical.not_not.mp z, Classical.not_not.mp y⟩] at go
        exact go
  exact b174_0 (key KL.length 0 (by omega))
end X77
