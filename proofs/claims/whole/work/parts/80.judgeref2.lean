/-! Judging, on the reference's side: literals, readiness, following, groups. -/
theorem tvN_app (ls : List Int) (l : Int) : tvN (ls ++ [l]) = setT (tvN ls) (-l) := by
  unfold tvN
  rw [List.foldl_append]
  rfl
theorem tvN_z {ls : List Int} {v : Int} (h : cl0 ls) (hv : lok v) : tvN ls v.natAbs = 0 ↔ ∀ l ∈ ls, ¬ l.natAbs = v.natAbs := by
  obtain ⟨h1, h2⟩ := tvN_f ls tv0 h.1 h.2 tok0 (fun l _ => by unfold vl tv0; simp)
  have e : vl (tvN ls) v = if v ∈ ls then -1 else if -v ∈ ls then 1 else vl tv0 v := h2 v hv
  have z : vl tv0 v = 0 := by unfold vl tv0; simp
  rw [z] at e
  have e2 : tvN ls v.natAbs = 0 ↔ vl (tvN ls) v = 0 := by
    unfold vl
    split <;> omega
  rw [e2, e]
  constructor
  · intro y l hl hn
    by_cases c1 : v ∈ ls
    · rw [if_pos c1] at y; omega
    · rw [if_neg c1] at y
      by_cases c2 : -v ∈ ls
      · rw [if_pos c2] at y; omega
      · have : l = v ∨ l = -v := by omega
        rcases this with rfl | rfl
        · exact c1 hl
        · exact c2 hl
  · intro y
    rw [if_neg (fun u => y v u rfl), if_neg (fun u => y (-v) u (Int.natAbs_neg v))]
/-- the opposites of all others -/
def tvs (tv : Nat → Int) (ls : List Int) (o : Int) : Nat → Int := ls.foldl (fun t l => if l = o then t else setT t (-l)) tv
theorem setT_id {tv : Nat → Int} {l : Int} (hl : ¬ l = 0) (ht : tok tv) (h : vl tv l < 0) : setT tv (-l) = tv := by
  funext v
  unfold setT
  by_cases e : v = (-l).natAbs
  · rw [if_pos e, e]
    have hr := ht (-l).natAbs
    rw [Int.natAbs_neg] at hr ⊢
    unfold vl at h
    split at h <;> split <;> omega
  · rw [if_neg e]
theorem tvs_o {o : Int} : ∀ (ls : List Int) (tv : Nat → Int), cl0 ls → tok tv → (∀ l ∈ ls, ¬ l = o → ¬ 0 < vl tv l) → tvs tv ls o = tvo tv ls o
  | [], tv, _, _, _ => rfl
  | l :: ls, tv, hc, ht, hz => by
    have hc2 : cl0 ls := ⟨fun m hm => hc.1 m (List.mem_cons.mpr (Or.inr hm)), (List.pairwise_cons.mp hc.2).2⟩
    have hd := (List.pairwise_cons.mp hc.2).1
    have hl := (hc.1 l (List.mem_cons.mpr (Or.inl rfl))).1
    have e1 : tvs tv (l :: ls) o = tvs (if l = o then tv else setT tv (-l)) ls o := rfl
    have e2 : tvo tv (l :: ls) o = tvo (if ¬ l = o ∧ vl tv l = 0 then setT tv (-l) else tv) ls o := rfl
    rw [e1, e2]
    by_cases c1 : l = o
    · rw [if_pos c1, if_neg (fun u => u.1 c1)]
      exact tvs_o ls tv hc2 ht (fun m hm => hz m (List.mem_cons.mpr (Or.inr hm)))
    · rw [if_neg c1]
      have h0 := hz l (List.mem_cons.mpr (Or.inl rfl)) c1
      by_cases c2 : vl tv l = 0
      · rw [if_pos ⟨c1, c2⟩]
        refine tvs_o ls (setT tv (-l)) hc2 (tok_set ht _) (fun m hm hmo => ?_)
        have hm0 := (hc2.1 m hm).1
        have hmd := hd m hm
        rw [vl_set (by omega) hm0, if_neg (by omega), if_neg (by omega)]
        exact hz m (List.mem_cons.mpr (Or.inr hm)) hmo
      · rw [if_neg (fun u => c2 u.2), setT_id hl ht (by omega)]
        exact tvs_o ls tv hc2 ht (fun m hm => hz m (List.mem_cons.mpr (Or.inr hm)))
section X80
variable {scr : Nat × (Nat → Int32)} {w : xW} {Q : xO → xW → Prop} {w1 : xW} {n c g d V l i j k last to : Nat} {cs : List (List Int)} {tk ls : List Int} {KL : List xKn} {v hi o : Int} {tv : Nat → Int} {nm : List Nat} {o1 o2 o3 o4 o5 o6 : Option Value}
/-- beginLine -/
theorem c184 (hV : V ≤ 16) (h : SH w) (hT : TR w tk) (hv : TV tk) (h5 : x_i w 36 5 = nI V) (hz : ∃ e, k ≤ e ∧ e < tk.length ∧ tA tk e = 0) (hq : ∀ w', xI (fun p k => (p = 36 ∧ k = 34) ∨ p = 51) w w' → ((rdl V tk (tk.length - k) k []).1 = true → VT w' (tvN (rdl V tk (tk.length - k) k []).2.2)) → Q (.inl (some (.int (iI (if (rdl V tk (tk.length - k) k []).1 = true then ((rdl V tk (tk.length - k) k []).2.2.length : Int) else -1))))) w') : x_R x_prog scr 184 0 [some (.ref 36), some (.int (nI k)), o2, o3] [] w Q := by
  have hl := hv.1
  obtain ⟨e, z1, z2, z3⟩ := hz
  have key : ∀ (d k : Nat) (ls : List Int) (w1 : xW) (o1 : Option Value), xI (fun p k => (p = 36 ∧ k = 34) ∨ p = 51) w w1 → VT w1 (tvN ls) → cl0 ls → k + d = tk.length → k ≤ e → (∀ w', xI (fun p k => (p = 36 ∧ k = 34) ∨ p = 51) w w' → ((rdl V tk d k ls).1 = true → VT w' (tvN (rdl V tk d k ls).2.2)) → Q (.inl (some (.int (iI (if (rdl V tk d k ls).1 = true then ((rdl V tk d k ls).2.2.length : Int) else -1))))) w') → x_R x_prog scr 184 8 [some (.ref 36), o1, some (.int (nI ls.length)), some (.int (nI k))] [] w1 Q := by
    intro d
    induction d with
    | zero => intro k ls w1 o1 F hV1 hc hk he hq; omega
    | succ d ih =>
      intro k ls w1 o1 F hV1 hc hk he hq
      have h1 := sh_I F h
      have T1 : TR w1 tk := TR_I F (by omega) (by omega) hT
      have e5 : x_i w1 36 5 = nI V := (xI_i F 36 5 (by omega)).trans h5
      have hr := tA_rg hv k
      have g0 : iI (tA tk k) = 0 ↔ tA tk k = 0 := iI_eq (b := 0) (by omega) (by omega) (by omega) (by omega)
      have vp : vp_in (nI k) 2000 := vp_in_nI (by omega) (by omega)
      have k12 : x_k w1 36 = 12 := by rw [sh_k h1]; rfl
      unfold rdl at hq
      refine b184_8 ?_
      rw [sr36_25 h1, sh_k h1, sh_l h1, nI_clamp (show k < 2 ^ 31 by omega), T1.2 k (by omega), g0]
      refine ⟨rfl, by decide, ⟨rfl, vp⟩, fun z => ?_, fun z => ⟨rfl, by decide, ⟨rfl, vp⟩, c53 (by omega) (b184_26 ?_)⟩⟩
      · rw [if_pos z] at hq
        dsimp only at hq
        rw [if_pos rfl, iI_n] at hq
        exact hq w1 F (fun _ => hV1)
      · rw [if_neg z] at hq
        have gV : nI V < nI (tA tk k).natAbs ↔ V < (tA tk k).natAbs := nI_ltI (by omega) (by omega)
        rw [e5, gV, sr36_30 h1, sr36_25 h1, sh_k h1, sh_l h1, nI_clamp (show k < 2 ^ 31 by omega), T1.2 k (by omega)]
        refine ⟨rfl, fun y => ?_, fun y => ⟨rfl, by decide, rfl, by decide, ⟨rfl, vp⟩, c53 (by omega) (b184_46 ?_)⟩⟩
        · have hj : ¬ jn V ls (tA tk k) = true := fun u => by
            have := (of_decide_eq_true u).2.1
            omega
          rw [if_neg hj] at hq
          dsimp only at hq
          rw [if_neg (by decide)] at hq
          exact hq w1 F (fun u => (by cases u))
        · have hlv : lok (tA tk k) := ⟨z, by omega, by omega⟩
          have htk := (tvN_ok0 hc).1 (tA tk k).natAbs
          have gz : iI (tvN ls (tA tk k).natAbs) = 0 ↔ tvN ls (tA tk k).natAbs = 0 := iI_eq (b := 0) (by omega) (by omega) (by omega) (by omega)
          rw [sr36_25 h1, sh_k h1, sh_l h1, nI_clamp (show k < 2 ^ 31 by omega), T1.2 k (by omega), nI_clamp (show (tA tk k).natAbs < 2 ^ 31 by omega), hV1 _ (by omega), gz, tvN_z hc hlv, iI_ng (by omega) (by omega)]
          refine ⟨⟨rfl, vp_in_nI (N := 17) (by omega) (by omega)⟩, fun u => ⟨rfl, by decide, ⟨rfl, vp⟩, rfl, c107 (lok_neg hlv) h1 hV1 (fun w2 F2 V2 => b184_63 ?_)⟩, fun u => ?_⟩
          · have hj : jn V ls (tA tk k) = true := decide_eq_true ⟨z, by omega, u⟩
            rw [if_pos hj] at hq
            have hlen : (ls ++ [tA tk k]).length = ls.length + 1 := by simp
            have go := ih (k + 1) (ls ++ [tA tk k]) w2 none (xI_tr F (xI_w F2 (by omega))) (by rw [tvN_app]; exact V2) (cl0_app hV hc hj) (by omega) ?_ hq
            · rw [hlen] at go
              rw [nI_1, nI_1]
              exact go
            · apply Classical.byContradiction
              intro x
              have : k = e := by omega
              exact z (by rw [this]; exact z3)
          · have hj : ¬ jn V ls (tA tk k) = true := fun x => u (of_decide_eq_true x).2.2
            rw [if_neg hj] at hq
            dsimp only at hq
            rw [if_neg (by decide)] at hq
            exact hq w1 F (fun u => (by cases u))
  exact b184_0 ⟨by rw [sh_k h]; rfl, c102 h (fun w1 F1 V1 _ => b184_4 (key (tk.length - k) k [] w1 _ F1 V1 cl0_nil (by omega) z1 hq))⟩
theorem c187_l (hls : cl0 ls) (hc : c < 540) (ht : tok tv) : ∀ (d k : Nat) (q : Bool × Int) (w : xW) (o4 : Option Value), SH w → RL w c ls → VT w tv → k + d = ls.length → x_i w 36 32 = iI q.2 → (q.2 = 0 ∨ lok q.2) →
    (∀ w', xI m32 w w' → x_i w' 36 32 = iI ((ls.drop k).foldl (isf tv) q).2 → Q (.inl (some (.int (b32 ((ls.drop k).foldl (isf tv) q).1)))) w') →
    x_R x_prog scr 187 9 [some (.ref 36), some (.int (nI c)), some (.int (b32 q.1)), some (.int (nI k)), o4] [] w Q := by
  have hl6 := cl0_16 hls
  intro d
  induction d with
  | zero =>
    intro k q w o4 h hR hV hk h32 hq2 hq
    refine b187_9 ?_
    rw [sr36_52 h, sh_k h, sh_l h, nI_clamp (show c < 2 ^ 31 by omega), hR.1]
    rw [List.drop_eq_nil_of_le (by omega)] at hq
    exact ⟨rfl, by decide, ⟨rfl, vp_in_nI (N := 720) (by omega) (by omega)⟩, fun _ => ⟨by cases q.1; exact Or.inl rfl; exact Or.inr rfl, hq w xI_rf h32⟩, fun z => absurd (nI_le (by omega) (by omega)) z⟩
  | succ d ih =>
    intro k q w o4 h hR hV hk h32 hq2 hq
    have hkl : k < ls.length := by omega
    have e16 : (16 : Int32) * nI c + nI k = nI (16 * c + k) := by rw [show (16 : Int32) = nI 16 from rfl, pk_mul, nI_add]
    have hlk := lok_getD hls.1 hkl
    have hR2 := hR.2 k hkl
    rw [drop_c ls hkl, List.foldl_cons] at hq
    generalize hl : ls.getD k 0 = l at *
    have hvr := vl_rg ht l
    have k0 : x_k w 36 = 12 := by rw [sh_k h]; rfl
    -- the end of a turn
    have tail : ∀ b : Bool, b = (isf tv q l).1 → x_R x_prog scr 106 0 [some (.ref 36), some (.int (iI l))] [] w (x_back x_prog 187 72 75 [some (.ref 36), some (.int (nI c)), some (.int (b32 b)), some (.int (nI k)), some (.int (iI l))] [.ref 36] (fun pc L st w => x_R x_prog scr 187 pc L st w Q)) := by
      intro b hb
      refine c106 hlk h ht hV (b187_75 ?_)
      have g0 : iI (vl tv l) = 0 ↔ vl tv l = 0 := iI_eq (b := 0) (by omega) (by omega) (by omega) (by omega)
      rw [g0, nI_1, h32]
      have next : ∀ v, v = iI (isf tv q l).2 → x_R x_prog scr 187 9 [some (.ref 36), some (.int (nI c)), some (.int (b32 b)), some (.int (nI (k + 1))), some (.int (iI l))] [] (x_si w 36 32 v) Q := by
        intro v hv
        have F : xI m32 w (x_si w 36 32 v) := xI_si xI_rf ⟨rfl, rfl⟩
        rw [hb]
        refine ih (k + 1) (isf tv q l) _ _ (sh_I F h) (RL_I F (by unfold m32; omega) (by unfold m32; omega) hR) (VT_I F hV (by unfold m32; omega)) (by omega) (by rw [y_i_si, if_pos ⟨rfl, rfl⟩]; exact hv) ?_ (fun w' u1 u2 => hq w' (xI_tr F u1) u2)
        unfold isf
        simp only
        split
        · exact Or.inr hlk
        · exact hq2
      refine ⟨fun z => ⟨k0, k0, next _ ?_⟩, fun z => ⟨k0, next _ ?_⟩⟩
      · unfold isf; simp only; rw [if_neg z]
      · unfold isf; simp only; rw [if_pos (Classical.not_not.mp z)]
    refine b187_9 ?_
    rw [sr36_52 h, sr36_53 h, sh_k h, sh_l h, nI_clamp (show c < 2 ^ 31 by omega), hR.1, e16, nI_clamp (show 16 * c + k < 2 ^ 31 by omega), hR2]
    refine ⟨rfl, by decide, ⟨rfl, vp_in_nI (N := 720) (by omega) (by omega)⟩, fun z => absurd z (nI_ge (by omega) (by omega)), fun _ => ⟨rfl, by decide, ⟨rfl, vp_in_nI (N := 11520) (by omega) (by omega)⟩, ?_⟩⟩
    cases hb1 : q.1 with
    | false =>
      refine ⟨fun _ => ⟨rfl, tail false ?_⟩, fun z => absurd rfl z⟩
      unfold isf; rw [hb1]; rfl
    | true =>
      refine ⟨fun z => absurd z (by decide), fun _ => ⟨rfl, c106 hlk h ht hV (b187_42 ?_)⟩⟩
      have g1 : (1 : Int32) ≤ iI (vl tv l) ↔ 1 ≤ vl tv l := by rw [Int32.le_iff_toInt_le, iI_toInt (by omega) (by omega)]; rfl
      have g2 : iI (vl tv l) < 0 ↔ vl tv l < 0 := by rw [Int32.lt_iff_toInt_lt, iI_toInt (by omega) (by omega)]; rfl
      have g3 : iI q.2 = 0 ↔ q.2 = 0 := by
        rcases hq2 with e | e
        · rw [e]; exact ⟨fun _ => rfl, fun _ => rfl⟩
        · unfold lok at e; exact iI_eq (b := 0) (by omega) (by omega) (by omega) (by omega)
      rw [g1]
      refine ⟨fun z => ⟨k0, tail false ?_⟩, fun z => ⟨k0, c106 hlk h ht hV (b187_52 ?_)⟩⟩
      · unfold isf; rw [hb1, decide_eq_false (by omega)]; rfl
      · rw [g2, h32, g3]
        have z1 : decide (vl tv l < 1) = true := decide_eq_true (by omega)
        refine ⟨fun y => ⟨k0, tail true ?_⟩, fun y => ⟨k0, fun x => ⟨k0, tail false ?_⟩, fun x => ⟨k0, tail true ?_⟩⟩⟩
        · unfold isf; rw [hb1, z1, decide_eq_true y]; rfl
        · unfold isf; rw [hb1, z1, decide_eq_false y, decide_eq_false x]; rfl
        · unfold isf; rw [hb1, z1, decide_eq_false y, decide_eq_true (Classical.not_not.mp x)]; rfl
/-- isKnownReady -/
theorem c187 (hls : cl0 ls) (hc : c < 540) (ht : tok tv) (h : SH w) (hR : RL w c ls) (hV : VT w tv) (hq : ∀ w', xI m32 w w' → x_i w' 36 32 = iI (isr tv ls).2 → Q (.inl (some (.int (b32 (isr tv ls).1)))) w') : x_R x_prog scr 187 0 [some (.ref 36), some (.int (nI c)), o2, o3, o4] [] w Q := by
  have F : xI m32 w (x_si w 36 32 0) := xI_si xI_rf ⟨rfl, rfl⟩
  refine b187_0 ⟨by rw [sh_k h]; rfl, ?_⟩
  exact c187_l hls hc ht ls.length 0 (true, 0) _ _ (sh_I F h) (RL_I F (by unfold m32; omega) (by unfold m32; omega) hR) (VT_I F hV (by unfold m32; omega)) (by omega) (by rw [y_i_si, if_pos ⟨rfl, rfl⟩]; rfl) (Or.inl rfl) (fun w' u1 u2 => hq w' (xI_tr F u1) u2)
def mFw : Nat → Nat → Prop := fun p k => (p = 36 ∧ k = 32) ∨ p = 51
/-- follow of the reference -/
theorem c186 (h : SH w) (hJ : JR w KL) (hK : KI KL hi) (hv : -10000 ≤ v ∧ v ≤ 10000) (ht : tok tv) (hV : VT w tv) (hq : ∀ w', xI mFw w w' → VT w' (fw KL tv v).2 → Q (.inl (some (.int (nI (fw KL tv v).1)))) w') : x_R x_prog scr 186 0 [some (.ref 36), some (.int (iI v)), o2] [] w Q := by
  have k12 : x_k w 36 = 12 := by rw [sh_k h]; rfl
  refine b186_0 ⟨k12, c182 h hJ hK hv (b186_5 ?_)⟩
  rcases fdk_rg KL v with ⟨e, -⟩ | ⟨i, e, e1, e2, e3⟩
  · have ef : fw KL tv v = (0, tv) := by unfold fw; rw [e, if_pos (by decide)]
    rw [ef] at hq
    rw [e, iI_lt0 (by omega) (by omega)]
    exact ⟨fun _ => hq w xI_rf hV, fun z => absurd (by decide) z⟩
  · have ef : fw KL tv v = if (isr tv (kn KL i).2.1).1 = false then (0, tv) else if (isr tv (kn KL i).2.1).2 = 0 then (2, tv) else (1, setT tv (isr tv (kn KL i).2.1).2) := by unfold fw; rw [e, if_neg (by omega)]; rfl
    have hcl := (hK.1 i e1).2.2
    have hRL := (hJ.2.2 i e1).2.1
    have h540 := hJ.2.1
    generalize (kn KL i).2.1 = ls at ef hcl hRL
    rw [e, iI_lt0 (by omega) (by omega), iI_n]
    refine ⟨fun z => by omega, fun _ => ⟨k12, c187 hcl (by omega) ht h hRL hV (fun w1 F1 e32 => b186_15 ?_)⟩⟩
    have h1 := sh_I F1 h
    have k1 : x_k w1 36 = 12 := by rw [sh_k h1]; rfl
    have V1 : VT w1 tv := VT_I F1 hV (by unfold m32; omega)
    have FF : xI mFw w w1 := xI_w F1 (by unfold m32 mFw; omega)
    cases hb : (isr tv ls).1 with
    | false =>
      rw [if_pos hb] at ef
      rw [ef] at hq
      exact ⟨fun z => absurd rfl z, fun _ => hq w1 FF V1⟩
    | true =>
      rw [if_neg (show ¬ (isr tv ls).1 = false by rw [hb]; decide)] at ef
      have hR := (isr_iff0 ht hcl (u := (isr tv ls).2)).mp ⟨hb, rfl⟩
      rw [e32]
      generalize (isr tv ls).2 = u at ef hR ⊢
      have hru : -16 ≤ u ∧ u ≤ 16 := by
        rcases hR.2 with y | y
        · omega
        · exact (hcl.1 u y.1).2
      have gu : iI u = 0 ↔ u = 0 := iI_eq (b := 0) (by omega) (by omega) (by omega) (by omega)
      rw [gu]
      refine ⟨fun _ => ⟨k1, fun y => ⟨k1, k1, ?_⟩, fun y => ?_⟩, fun z => absurd (by decide) z⟩
      · rw [if_neg y] at ef
        rw [ef] at hq
        exact c107 (hcl.1 u (hR.2.resolve_left y).1) h1 V1 (fun w2 F2 V2 => b186_37 (hq w2 (xI_tr FF (xI_w F2 (by unfold mFw; omega))) V2))
      · rw [if_pos (Classical.not_not.mp y)] at ef
        rw [ef] at hq
        exact hq w1 FF V1
/-- knownHas -/
theorem c189 (hls : cl0 ls) (hc : c < 540) (ho : lok o) (h : SH w) (hR : RL w c ls) (hq : Q (.inl (some (.int (b32 (decide (o ∈ ls)))))) w) : x_R x_prog scr 189 0 [some (.ref 36), some (.int (nI c)), some (.int (iI o)), o3, o4] [] w Q := by
  have hl6 := cl0_16 hls
  have ho' := ho
  unfold lok at ho'
  have key : ∀ (d k : Nat) (b : Bool), k + d = ls.length → Q (.inl (some (.int (b32 (b || decide (o ∈ ls.drop k)))))) w → x_R x_prog scr 189 5 [some (.ref 36), some (.int (nI c)), some (.int (iI o)), some (.int (b32 b)), some (.int (nI k))] [] w Q := by
    intro d
    induction d with
    | zero =>
      intro k b hk hq
      rw [List.drop_eq_nil_of_le (by omega), decide_eq_false (fun u => (by cases u)), Bool.or_false] at hq
      refine b189_5 ?_
      rw [sr36_52 h, sh_k h, sh_l h, nI_clamp (show c < 2 ^ 31 by omega), hR.1]
      exact ⟨rfl, by decide, ⟨rfl, vp_in_nI (N := 720) (by omega) (by omega)⟩, fun _ => ⟨by cases b; exact Or.inl rfl; exact Or.inr rfl, hq⟩, fun z => absurd (nI_le (by omega) (by omega)) z⟩
    | succ d ih =>
      intro k b hk hq
      have hkl : k < ls.length := by omega
      have e16 : (16 : Int32) * nI c + nI k = nI (16 * c + k) := by rw [show (16 : Int32) = nI 16 from rfl, pk_mul, nI_add]
      have hlk := lok_getD hls.1 hkl
      have hR2 := hR.2 k hkl
      rw [drop_c ls hkl] at hq
      generalize ls.getD k 0 = l at *
      have hlk' := hlk
      unfold lok at hlk'
      have ge : iI l = iI o ↔ l = o := iI_eq (by omega) (by omega) (by omega) (by omega)
      refine b189_5 ?_
      rw [sr36_52 h, sr36_53 h, sh_k h, sh_l h, nI_clamp (show c < 2 ^ 31 by omega), hR.1, e16, nI_clamp (show 16 * c + k < 2 ^ 31 by omega), hR2, ge, nI_1]
      refine ⟨rfl, by decide, ⟨rfl, vp_in_nI (N := 720) (by omega) (by omega)⟩, fun z => absurd z (nI_ge (by omega) (by omega)), fun _ => ?_⟩
      cases b with
      | true =>
        rw [Bool.true_or] at hq
        exact ⟨fun _ => ih (k + 1) true (by omega) (by rw [Bool.true_or]; exact hq), fun z => absurd (by decide) z⟩
      | false =>
        rw [Bool.false_or] at hq
        refine ⟨fun z => absurd rfl z, fun _ => ⟨rfl, by decide, ⟨rfl, vp_in_nI (N := 11520) (by omega) (by omega)⟩, fun y => ih (k + 1) false (by omega) ?_, fun y => ih (k + 1) true (by omega) ?_⟩⟩
        · have e : decide (o ∈ l :: ls.drop (k + 1)) = decide (o ∈ ls.drop (k + 1)) := by
            rw [decide_eq_decide, List.mem_cons]
            exact ⟨fun u => u.resolve_left (fun x => y x.symm), Or.inr⟩
          rw [e] at hq
          rw [Bool.false_or]
          exact hq
        · rw [decide_eq_true (List.mem_cons.mpr (Or.inl (Classical.not_not.mp y).symm))] at hq
          rw [Bool.true_or]
          exact hq
  exact b189_0 (key ls.length 0 false (by omega) (by rw [Bool.false_or]; exact hq))
/-- isMet -/
theorem c191 (hls : cl0 ls) (hc : c < 540) (ho : lok o) (ht : tok tv) (h : SH w) (hR : RL w c ls) (hV : VT w tv) (hq : ∀ w', xI (fun p _ => p = 51) w w' → (ft tv ls o = 0 → VT w' (tvs tv ls o)) → Q (.inl (some (.int (b32 (decide (¬ ft tv ls o = 0)))))) w') : x_R x_prog scr 191 0 [some (.ref 36), some (.int (nI c)), some (.int (iI o)), o3, o4, o5] [] w Q := by
  have hl6 := cl0_16 hls
  have ho' := ho
  unfold lok at ho'
  have vp7 : vp_in (nI c) 720 := vp_in_nI (by omega) (by omega)
  have key1 : ∀ (d k : Nat) (b : Bool) (o5 : Option Value), k + d = ls.length → x_R x_prog scr 191 64 [some (.ref 36), some (.int (nI c)), some (.int (iI o)), some (.int (b32 (b || decide (¬ ft tv (ls.drop k) o = 0)))), some (.int 0), none] [] w Q → x_R x_prog scr 191 5 [some (.ref 36), some (.int (nI c)), some (.int (iI o)), some (.int (b32 b)), some (.int (nI k)), o5] [] w Q := by
    intro d
    induction d with
    | zero =>
      intro k b o5 hk hq
      have e : ft tv ([] : List Int) o = 0 := rfl
      rw [List.drop_eq_nil_of_le (by omega), e, decide_eq_false (fun u => u rfl), Bool.or_false] at hq
      refine b191_5 ?_
      rw [sr36_52 h, sh_k h, sh_l h, nI_clamp (show c < 2 ^ 31 by omega), hR.1]
      exact ⟨rfl, by decide, ⟨rfl, vp7⟩, fun _ => hq, fun z => absurd (nI_le (by omega) (by omega)) z⟩
    | succ d ih =>
      intro k b o5 hk hq
      have hkl : k < ls.length := by omega
      have e16 : (16 : Int32) * nI c + nI k = nI (16 * c + k) := by rw [show (16 : Int32) = nI 16 from rfl, pk_mul, nI_add]
      have hlk := lok_getD hls.1 hkl
      have hR2 := hR.2 k hkl
      rw [drop_c ls hkl, ft_cons] at hq
      generalize ls.getD k 0 = l at *
      have hlk' := hlk
      unfold lok at hlk'
      have hvr := vl_rg ht l
      have ge : iI l = iI o ↔ l = o := iI_eq (by omega) (by omega) (by omega) (by omega)
      refine b191_5 ?_
      rw [sr36_52 h, sr36_53 h, sh_k h, sh_l h, nI_clamp (show c < 2 ^ 31 by omega), hR.1, e16, nI_clamp (show 16 * c + k < 2 ^ 31 by omega), hR2, ge, nI_1]
      refine ⟨rfl, by decide, ⟨rfl, vp7⟩, fun z => absurd z (nI_ge (by omega) (by omega)), fun _ => ⟨rfl, by decide, ⟨rfl, vp_in_nI (N := 11520) (by omega) (by omega)⟩, ?_⟩⟩
      cases b with
      | true =>
        rw [Bool.true_or] at hq
        exact ⟨fun _ => ih (k + 1) true _ (by omega) (by rw [Bool.true_or]; exact hq), fun z => absurd (by decide) z⟩
      | false =>
        rw [Bool.false_or] at hq
        refine ⟨fun z => absurd rfl z, fun _ => ⟨fun y => ih (k + 1) false _ (by omega) ?_, fun y => ⟨rfl, c106 hlk h ht hV (b191_46 ?_)⟩⟩⟩
        · rw [if_neg (fun u => u.1 y)] at hq
          rw [Bool.false_or]
          exact hq
        · have g0 : iI (vl tv l) ≤ 0 ↔ ¬ 0 < vl tv l := by rw [Int32.le_iff_toInt_le, iI_toInt (by omega) (by omega)]; show _ ≤ (0 : Int) ↔ _; omega
          rw [g0, nI_1]
          refine ⟨fun x => ih (k + 1) false _ (by omega) ?_, fun x => ih (k + 1) true _ (by omega) ?_⟩
          · rw [if_neg (fun u => x u.2)] at hq
            rw [Bool.false_or]
            exact hq
          · rw [if_pos ⟨y, Classical.not_not.mp x⟩, decide_eq_true hlk.1] at hq
            rw [Bool.true_or]
            exact hq
  have key2 : ∀ (d k : Nat) (tv2 : Nat → Int) (w1 : xW) (o5 : Option Value), xI (fun p _ => p = 51) w w1 → VT w1 tv2 → k + d = ls.length → (∀ w', xI (fun p _ => p = 51) w w' → VT w' (tvs tv2 (ls.drop k) o) → Q (.inl (some (.int 0))) w') → x_R x_prog scr 191 64 [some (.ref 36), some (.int (nI c)), some (.int (iI o)), some (.int 0), some (.int (nI k)), o5] [] w1 Q := by
    intro d
    induction d with
    | zero =>
      intro k tv2 w1 o5 F V1 hk hq
      have h1 := sh_I F h
      have R1 : RL w1 c ls := RL_I F (by omega) (by omega) hR
      rw [List.drop_eq_nil_of_le (by omega)] at hq
      refine b191_64 ?_
      rw [sr36_52 h1, sh_k h1, sh_l h1, nI_clamp (show c < 2 ^ 31 by omega), R1.1]
      exact ⟨rfl, by decide, ⟨rfl, vp7⟩, fun _ => ⟨Or.inl rfl, hq w1 F V1⟩, fun z => absurd (nI_le (by omega) (by omega)) z⟩
    | succ d ih =>
      intro k tv2 w1 o5 F V1 hk hq
      have h1 := sh_I F h
      have R1 : RL w1 c ls := RL_I F (by omega) (by omega) hR
      have hkl : k < ls.length := by omega
      have e16 : (16 : Int32) * nI c + nI k = nI (16 * c + k) := by rw [show (16 : Int32) = nI 16 from rfl, pk_mul, nI_add]
      have hlk := lok_getD hls.1 hkl
      have hR2 := R1.2 k hkl
      have hR1 := R1.1
      rw [drop_c ls hkl] at hq
      generalize ls.getD k 0 = l at *
      have hlk' := hlk
      unfold lok at hlk'
      have ge : iI l = iI o ↔ l = o := iI_eq (by omega) (by omega) (by omega) (by omega)
      have es : tvs tv2 (l :: ls.drop (k + 1)) o = tvs (if l = o then tv2 else setT tv2 (-l)) (ls.drop (k + 1)) o := rfl
      rw [es] at hq
      refine b191_64 ?_
      rw [sr36_52 h1, sr36_53 h1, sh_k h1, sh_l h1, nI_clamp (show c < 2 ^ 31 by omega), hR1, e16, nI_clamp (show 16 * c + k < 2 ^ 31 by omega), hR2, ge, iI_ng (by omega) (by omega)]
      refine ⟨rfl, by decide, ⟨rfl, vp7⟩, fun z => absurd z (nI_ge (by omega) (by omega)), fun _ => ⟨fun z => absurd rfl z, fun _ => ⟨rfl, by decide, ⟨rfl, vp_in_nI (N := 11520) (by omega) (by omega)⟩, fun y => b191_106 ?_, fun y => ⟨rfl, c107 (lok_neg hlk) h1 V1 (fun w2 F2 V2 => b191_106 ?_)⟩⟩⟩⟩
      · rw [if_pos y] at hq
        rw [nI_1]
        exact ih (k + 1) tv2 w1 none F V1 (by omega) hq
      · rw [if_neg y] at hq
        rw [nI_1]
        exact ih (k + 1) (setT tv2 (-l)) w2 none (xI_tr F F2) V2 (by omega) hq
  refine b191_0 (key1 ls.length 0 false none (by omega) ?_)
  rw [Bool.false_or, List.drop_zero]
  by_cases hf : ft tv ls o = 0
  · rw [decide_eq_false (fun u => u hf)] at hq ⊢
    exact key2 ls.length 0 tv w none xI_rf hV (by omega) (fun w' F' V' => hq w' F' (fun _ => V'))
  · rw [decide_eq_true hf] at hq ⊢
    refine b191_64 ?_
    rw [sr36_52 h, sh_k h, sh_l h, nI_clamp (show c < 2 ^ 31 by omega), hR.1]
    exact ⟨rfl, by decide, ⟨rfl, vp7⟩, fun _ => ⟨Or.inr rfl, hq w xI_rf (fun u => absurd u hf)⟩, fun _ => ⟨fun _ => ⟨Or.inr rfl, hq w xI_rf (fun u => absurd u hf)⟩, fun z => absurd (by decide) z⟩⟩
/-- followGroup -/
theorem c190 (h : SH w) (hJ : JR w KL) (hK : KI KL hi) (hT : TR w tk) (hv : TV tk) (hc : c < KL.length) (ho : lok o) (ht : tok tv) (hV : VT w tv) (hk : k ≤ to) (hto : to ≤ last) (hla : last < tk.length) (hps : ∀ x, k ≤ x → x < to → 0 < tA tk x) (hnp : ¬ 0 < tA tk to) (hq : ∀ w', xI mFw w w' → Q (.inl (some (.int (b32 (gp KL tk last o tv c k).1)))) w') : x_R x_prog scr 190 0 [some (.ref 36), some (.int (nI c)), some (.int (iI o)), some (.int (nI k)), some (.int (nI to)), o5, o6] [] w Q := by
  have hl := hv.1
  have h540 := hJ.2.1
  have hcl := (hK.1 c hc).2.2
  have hRL := (hJ.2.2 c hc).2.1
  -- the end
  have fin : ∀ (x how : Nat) (w : xW) (o1 o2 o3 : Option Value), ¬ how = 1 → how ≤ 2 → x ≤ to → Q (.inl (some (.int (b32 (decide (how = 2 ∧ x = to)))))) w → x_R x_prog scr 190 27 [some (.ref 36), o1, o2, o3, some (.int (nI to)), some (.int (nI x)), some (.int (nI how))] [] w Q := by
    intro x how w o1 o2 o3 h1 h2 hx hq
    have g1 : nI how = 1 ↔ how = 1 := nI_eq (b := 1) (by omega) (by omega)
    have g2 : nI how = 2 ↔ how = 2 := nI_eq (b := 2) (by omega) (by omega)
    have g3 : nI x = nI to ↔ x = to := nI_eq (by omega) (by omega)
    have e1 : ¬ how = 2 → Q (.inl (some (.int 0))) w := fun u => by rw [decide_eq_false (fun y => u y.1)] at hq; exact hq
    have e2 : ¬ x = to → Q (.inl (some (.int 0))) w := fun u => by rw [decide_eq_false (fun y => u y.2)] at hq; exact hq
    have e3 : how = 2 → x = to → Q (.inl (some (.int 1))) w := fun u u2 => by rw [decide_eq_true ⟨u, u2⟩] at hq; exact hq
    refine b190_27 ?_
    rw [g1, g2, g3]
    exact ⟨fun _ => ⟨fun u => ⟨Or.inl rfl, e1 u⟩, fun u => ⟨fun y => ⟨Or.inl rfl, e2 y⟩, fun y => ⟨Or.inr rfl, e3 (Classical.not_not.mp u) (Classical.not_not.mp y)⟩⟩⟩, fun _ => ⟨fun _ => ⟨fun u => ⟨Or.inl rfl, e1 u⟩, fun u => ⟨fun y => ⟨Or.inl rfl, e2 y⟩, fun y => ⟨Or.inr rfl, e3 (Classical.not_not.mp u) (Classical.not_not.mp y)⟩⟩⟩, fun u => absurd h1 u⟩⟩
  have key : ∀ (d x : Nat) (tv : Nat → Int) (w1 : xW) (o1 o2 o3 : Option Value), xI mFw w w1 → VT w1 tv → tok tv → x + d = last → k ≤ x → x ≤ to → (∀ w', xI mFw w w' → Q (.inl (some (.int (b32 (decide ((frw KL tk d x tv).1 = 2 ∧ ¬ 0 < tA tk (frw KL tk d x tv).2.1)))))) w') → x_R x_prog scr 190 27 [some (.ref 36), o1, o2, o3, some (.int (nI to)), some (.int (nI x)), some (.int (nI 1))] [] w1 Q := by
    intro d
    induction d with
    | zero =>
      intro x tv w1 o1 o2 o3 F V1 ht hx hk2 hxt hq
      have e : decide ((frw KL tk 0 x tv).1 = 2 ∧ ¬ 0 < tA tk (frw KL tk 0 x tv).2.1) = false := decide_eq_false (fun u => absurd u.1 (by show ¬ 1 = 2; omega))
      rw [e] at hq
      refine b190_27 ⟨fun _ => ⟨fun _ => ⟨Or.inl rfl, hq w1 F⟩, fun u => absurd (by decide) u⟩, fun z => absurd (nI_le (by omega) (by omega)) z⟩
    | succ d ih =>
      intro x tv w1 o1 o2 o3 F V1 ht hx hk2 hxt hq
      unfold frw at hq
      by_cases ex : x = to
      · rw [if_neg (show ¬ 0 < tA tk x by rw [ex]; exact hnp)] at hq
        have e : decide (((1, x, tv) : Nat × Nat × (Nat → Int)).1 = 2 ∧ ¬ 0 < tA tk ((1, x, tv) : Nat × Nat × (Nat → Int)).2.1) = false := decide_eq_false (fun u => absurd u.1 (by show ¬ 1 = 2; omega))
        rw [e] at hq
        refine b190_27 ⟨fun _ => ⟨fun _ => ⟨Or.inl rfl, hq w1 F⟩, fun u => absurd (by decide) u⟩, fun z => absurd (nI_le (by omega) (by omega)) z⟩
      · have hpx := hps x hk2 (by omega)
        rw [if_pos hpx] at hq
        have h1 := sh_I F h
        have T1 : TR w1 tk := TR_I F (by unfold mFw; omega) (by unfold mFw; omega) hT
        have J1 : JR w1 KL := JR_I F (by unfold mFw; omega) (by unfold mFw; omega) hJ
        have hr := tA_rg hv x
        refine b190_27 ⟨fun z => absurd z (nI_ge (by omega) (by omega)), fun _ => ⟨fun z => absurd rfl z, fun _ => ?_⟩⟩
        rw [sr36_25 h1, sh_k h1, sh_l h1, nI_clamp (show x < 2 ^ 31 by omega), T1.2 x (by omega)]
        refine ⟨rfl, by decide, ⟨rfl, vp_in_nI (N := 2000) (by omega) (by omega)⟩, rfl, c186 h1 J1 hK (by omega) ht V1 (fun w2 F2 V2 => b190_51 ?_)⟩
        have hok := fw_ok hK ht (v := tA tk x)
        have FF := xI_tr F F2
        rw [nI_1]
        generalize fw KL tv (tA tk x) = r at hq hok V2 ⊢
        obtain ⟨how, tv'⟩ := r
        dsimp only at hq hok V2 ⊢
        by_cases c1 : how = 1
        · rw [if_pos c1] at hq
          rw [c1]
          exact ih (x + 1) tv' w2 _ _ _ FF V2 hok.1 (by omega) (by omega) (by omega) hq
        · rw [if_neg c1] at hq
          dsimp only at hq
          refine fin (x + 1) how w2 _ _ _ c1 hok.2 (by omega) ?_
          have e : decide (how = 2 ∧ x + 1 = to) = decide (how = 2 ∧ ¬ 0 < tA tk (x + 1)) := by
            rw [decide_eq_decide]
            constructor
            · rintro ⟨u1, u2⟩
              exact ⟨u1, by rw [u2]; exact hnp⟩
            · rintro ⟨u1, u2⟩
              refine ⟨u1, ?_⟩
              apply Classical.byContradiction
              intro u3
              exact u2 (hps (x + 1) (by omega) (by omega))
          rw [e]
          exact hq w2 FF
  refine b190_0 ⟨by rw [sh_k h]; rfl, c191 hcl (by omega) ho ht h hRL hV (fun w1 F1 G1 => b190_6 ?_)⟩
  have FF : xI mFw w w1 := xI_w F1 (by unfold mFw; omega)
  unfold gp at hq
  by_cases hf : ft tv (kn KL c).2.1 o = 0
  · obtain ⟨m, hM⟩ := TM_ex tv
    obtain ⟨t1, t2, -⟩ := tvo_ok0 hcl ho ht hM hf
    have hz : ∀ l ∈ (kn KL c).2.1, ¬ l = o → ¬ 0 < vl tv l := by
      intro l hl hlo hvl
      have h0 := (mm_z.mp ((oth_00 hcl ho hM).mpr hf)) (li l) (li_lt (hcl.1 l hl))
      rw [mm_and, (mm_oth0 hcl ho (hcl.1 l hl)).mpr ⟨hl, hlo⟩, hM l (hcl.1 l hl), decide_eq_true hvl] at h0
      cases h0
    rw [if_pos hf] at hq
    have V1 := G1 hf
    rw [tvs_o _ tv hcl ht hz] at V1
    rw [decide_eq_false (fun u => u hf)]
    exact ⟨fun _ => key (last - k) k _ w1 _ _ _ FF V1 t1 (by omega) (by omega) hk hq, fun u => absurd rfl u⟩
  · rw [if_neg hf] at hq
    dsimp only at hq
    rw [decide_eq_true hf]
    have g3 : nI k = nI to ↔ k = to := nI_eq (by omega) (by omega)
    rw [g3]
    refine ⟨fun u => absurd u (by decide), fun _ => ⟨fun y => ⟨Or.inl rfl, ?_⟩, fun y => ⟨Or.inr rfl, ?_⟩⟩⟩
    · rw [decide_eq_false (fun u => u (hps k (by omega) (by omega)))] at hq
      exact hq w1 FF
    · rw [Classical.not_not.mp y, decide_eq_true hnp] at hq
      exact hq w1 FF
end X80
