/-! spared, wayOf of the reference. -/
section X71
variable {scr : Nat × (Nat → Int32)} {w : xW} {Q : xO → xW → Prop} {w1 : xW} {n c g d : Nat} {al mk nd bn : Nat → Bool} {tv : Nat → Int} {tak : xTk} {cs : List (List Int)} {HT gr : List Int} {tr : List Nat} {o v : Int} {o1 o2 o3 o4 o5 : Option Value}
theorem MA_I {m : Nat → Nat → Prop} (q : xI m w w1) (h : MA w mk) (h1 : ∀ k, ¬ m 50 k) : MA w1 mk := fun j hj => (xI_i q 50 j (h1 j)).trans (h j hj)
theorem BN_I {m : Nat → Nat → Prop} (q : xI m w w1) (h : BN w bn) (h1 : ∀ k, ¬ m 61 k) : BN w1 bn := fun j hj => (xI_i q 61 j (h1 j)).trans (h j hj)
theorem RG_M {m : Nat → Nat → Prop} {mk' : Nat → Bool} (q : xI m w w1) (h : RG w cs al mk) (hM : MA w1 mk') (h1 : ¬ m 36 7) (h2 : ∀ k, ¬ m 38 k) (h3 : ∀ k, ¬ m 39 k) (h4 : ∀ k, ¬ m 49 k) : RG w1 cs al mk' :=
  ⟨(xI_i q 36 7 h1).trans h.1, h.2.1, h.2.2.1, fun c hc => RC_I q (h.2.2.2.1 c hc) (h3 _) (fun k _ => h2 _), fun j hj => (xI_i q 49 j (h4 j)).trans (h.2.2.2.2.1 j hj), hM⟩
def mSl : Nat → Nat → Prop := fun p k => (p = 36 ∧ (k = 32 ∨ k = 33 ∨ k = 34 ∨ k = 43)) ∨ (p ≤ 56 ∧ 50 ≤ p) ∨ p = 60 ∨ p = 61 ∨ p = 62
/-- the candidates in turn -/
theorem c144_l (ho : lok o) (ht : tok tv) (hI : TI cs tv tak) (hAT : AT cs al tak) : ∀ (d : Nat) (mk : Nat → Bool) (tr : List Nat) (bn : Nat → Bool) (gr : List Int) (w : xW) (o5 : Option Value), SH w → RG w cs al mk → VT w tv → VB w tv → RK w tak → TRD w tr → BN w bn → (∀ i, bn i = true → i < tak.length) → GR w gr → tr.Nodup → (∀ x ∈ tr, 1 ≤ x ∧ x ≤ 63) → tr.length + d = 63 → gr.length ≤ 19 * tr.length →
    ((spr cs al tv tak o d mk tr bn gr).1 = false → ∀ w', xI mSl w w' → Q (.inl (some (.int 0))) w') →
    ((spr cs al tv tak o d mk tr bn gr).1 = true → ∀ w' o5, xI mSl w w' → RG w' cs al (spr cs al tv tak o d mk tr bn gr).2.1 → RK w' tak → BN w' (spr cs al tv tak o d mk tr bn gr).2.2.1 → GR w' (spr cs al tv tak o d mk tr bn gr).2.2.2 → x_R x_prog scr 144 80 [some (.ref 36), some (.int (nI n)), some (.int (iI o)), some (.int (nI tak.length)), some (.int (nI 0)), o5] [] w' Q) →
    x_R x_prog scr 144 80 [some (.ref 36), some (.int (nI n)), some (.int (iI o)), some (.int (nI tak.length)), some (.int (nI (cdt cs al mk tr o))), o5] [] w Q := by
  have h16 := TI_16 hI
  intro d
  induction d with
  | zero =>
    intro mk tr bn gr w o5 h hG hV hB hK hT hN hbn hR hnd htr hlen hgl hq0 hq1
    rw [cdt_0 hG.2.1 hnd htr (by omega)]
    exact hq1 rfl w _ xI_rf hG hK hN hR
  | succ d ih =>
    intro mk tr bn gr w o5 h hG hV hB hK hT hN hbn hR hnd htr hlen hgl hq0 hq1
    have hl63 := hG.2.1
    have hco := hG.2.2.1
    unfold spr at hq0 hq1
    by_cases hz : cdt cs al mk tr o = 0
    · rw [if_pos hz] at hq0 hq1
      rw [hz]
      exact hq1 rfl w _ xI_rf hG hK hN hR
    · rw [if_neg hz] at hq0 hq1
      obtain ⟨k1, k2, k3, k4, k5, k6⟩ := cdt_in hz
      obtain ⟨a1, a2, a3, a4', a5, a6⟩ := wst_at (mk := mk) (tv := tv) (o := o) (d := cdt cs al mk tr o) hAT (by omega)
      generalize hc : cdt cs al mk tr o = c at *
      have nc : ¬ nI c ≤ 0 := by rw [← nI_0, nI_leI (by omega) (by omega)]; omega
      refine b144_80 ⟨fun z => absurd z nc, fun _ => ?_⟩
      simp only [sh_k h, sh_l h, sh_n h, kk36, sr36_2 h, sr36_8 h, sr36_9 h, sr36_12 h, sr36_13 h, sr36_14 h, sr36_15 h, sr36_21 h, sr36_22 h, sr36_23 h, sr36_25 h, sr36_27 h, sr36_28 h, sr36_29 h, sr36_30 h, sr36_31 h, sr36_35 h, sr36_36 h, sr36_37 h, sr36_38 h, sr36_40 h, sr36_41 h, sr36_42 h, sr36_44 h, sr36_45 h, sr36_46 h, sr36_47 h, sr36_48 h, sr36_49 h, sr36_51 h, sr36_52 h, sr36_53 h, sr36_54 h, sr36_55 h, kk62, ll62, true_and, and_true, false_and, and_false, and_self, not_false_eq_true, not_true_eq_false, true_implies, false_implies, implies_true, true_or, or_true, or_self, if_true, if_false, Nat.reduceEqDiff, reduceIte, eq_self, nI_clamp (show c < 2 ^ 31 by omega), vp_in_nI (show c < 64 by omega) (show 64 < 2 ^ 31 by omega)]
      generalize hw1 : x_si w 62 c 1 = w1
      have F1 : xI (fun p k => p = 62) w w1 := by rw [← hw1]; exact xI_si xI_rf rfl
      have T1 : TRD w1 (c :: tr) := by
        intro j hj
        rw [← hw1, y_i_si]
        by_cases e : j = c
        · rw [if_pos ⟨rfl, e⟩, decide_eq_true (by rw [e]; exact List.mem_cons_self)]; rfl
        · rw [if_neg (fun z => e z.2), hT j hj]
          congr 1
          exact decide_eq_decide.mpr ⟨fun z => List.mem_cons_of_mem _ z, fun z => (List.mem_cons.mp z).resolve_left e⟩
      clear hw1
      have h1 := sh_I F1 h
      have G1 := RG_I F1 hG (by omega) (by omega) (by omega) (by omega) (by omega)
      have V1 := VT_I F1 hV (by omega)
      have K1 := RK_I F1 hK (by omega) (by omega) (by omega)
      have B1 : VB w1 tv := fun v hv => (xI_i F1 52 v (by omega)).trans (hB v hv)
      refine c118 k1 k2 ho ht hI h1 G1 V1 K1 (fun w2 u1 u2 u3 => b144_100 ?_)
      have F2 : xI mSl w w2 := xI_tr (xI_w F1 (by unfold mSl; omega)) (xI_w u1 (by unfold mPs mSl; omega))
      have h2 := sh_I F2 h
      have ek : tkF cs al mk tv tak o c = tkx (wst cs al mk tv tak o c) := rfl
      rw [ek] at u2 u3
      generalize hr : wst cs al mk tv tak o c = r at *
      cases hb : r.1 with
      | false =>
        rw [hb] at hq0
        exact ⟨fun z => absurd rfl z, fun _ => ⟨Or.inl rfl, hq0 rfl w2 F2⟩⟩
      | true =>
        rw [hb, if_pos rfl] at hq0 hq1
        have u3 := u3 hb
        have hcf : r.2.2.1 ≤ 63 := by rcases a4' with z | z; omega; omega
        have hlx := tkx_len r
        have l2 := cfL_len r.2.2.1
        have M2 : MA w2 mk := MA_I u1 (MA_I F1 hG.2.2.2.2.2 (by omega)) (by unfold mPs; omega)
        have N2 : BN w2 bn := BN_I u1 (BN_I F1 hN (by omega)) (by unfold mPs; omega)
        have R2 : GR w2 gr := GR_I u1 (GR_I F1 hR (by omega) (by omega)) (by unfold mPs; omega) (by unfold mPs; omega)
        refine ⟨fun _ => ⟨by rw [sh_k h2]; rfl, ?_⟩, fun z => absurd (by decide) z⟩
        refine c146 (tak := tkx r) (nd := ndx r) (mk := mk) (bn := bn) (gr := gr) (by omega) (by omega) (by omega) (fun k hk => ?_) h2 u2 (fun k hk => u3 k hk) M2 N2 R2 (by omega) (by omega) (fun w3 v1 v2 v3 v4 => b144_112 ?_)
        · by_cases e : k < r.2.1.length
          · rw [tkx_pre r e]
            have := a1 k e
            omega
          · unfold tkx at hk ⊢
            split
            · rename_i y
              rw [if_pos y] at hk
              omega
            · rename_i y
              rw [if_neg y, List.length_append, List.length_singleton] at hk
              rw [tg_app, if_neg e, if_pos (by omega)]
              exact hcf
        · have h3 := sh_I v1 h2
          have B3 : VB w3 tv := fun v hv => (xI_i v1 52 v (by unfold mTg; omega)).trans ((xI_i u1 52 v (by unfold mPs; omega)).trans (B1 v hv))
          refine ⟨by rw [sh_k h3]; rfl, c122 (tv := tv) h3 B3 (fun w4 x1 x2 x3 => b144_117 ?_)⟩
          have F4 : xI mSl w w4 := xI_tr F2 (xI_tr (xI_w v1 (by unfold mTg mSl; omega)) (xI_w x1 (by unfold mSl; omega)))
          have h4 := sh_I F4 h
          have sF := sel_F r (b := 0) (Nat.zero_le _)
          rw [Nat.sub_zero, Nat.sub_zero] at sF
          rw [sF] at v2
          have M4 : MA w4 (mkS mk (gN r)) := MA_I x1 v2 (by omega)
          have sB := sel_F r (b := tak.length) a3
          rw [sB] at v4
          have R4 : GR w4 (gr ++ (-(c : Int) :: gB tak.length r)) := GR_I x1 v4 (by omega) (by omega)
          have G4 : RG w4 cs al (mkS mk (gN r)) := RG_M F4 hG M4 (by unfold mSl; omega) (by unfold mSl; omega) (by unfold mSl; omega) (by unfold mSl; omega)
          obtain ⟨ex, hex⟩ : ∃ e, tkx r = tak ++ e := by
            obtain ⟨e, he⟩ := tkF_pre (cs := cs) (al := al) (mk := mk) (tv := tv) (tak := tak) (o := o) (d := c)
            rw [ek] at he
            exact ⟨e, he⟩
          have K3 : RK w3 (tak ++ ex) := by rw [← hex]; exact RK_I v1 u2 (by unfold mTg; omega) (by unfold mTg; omega) (by unfold mTg; omega)
          have K4 := RK_back K3 x1 x3
          have T4 : TRD w4 (c :: tr) := fun j hj => by rw [xI_i x1 62 j (by omega), xI_i v1 62 j (by unfold mTg; omega), xI_i u1 62 j (by unfold mPs; omega)]; exact T1 j hj
          have B4 : VB w4 tv := fun v hv => (xI_i x1 52 v (by omega)).trans (B3 v hv)
          have N4 : BN w4 (fun i => bn i || (r.2.2.2 i && decide (i < tak.length))) := by
            intro i hi
            have := v3 i hi
            rw [xI_i x1 61 i (by omega), this]
            congr 1
            dsimp only
            congr 1
            by_cases hit : i < tak.length
            · have e5 : ndx r i = r.2.2.2 i := by unfold ndx; rw [if_neg (by omega)]
              rw [e5, decide_eq_true hit, decide_eq_true (show i < (tkx r).length by omega), Bool.true_and]
            · rw [decide_eq_false hit, Bool.and_false, Bool.and_false]
          refine ⟨by rw [sh_k h4]; rfl, c145 ho h4 G4 T4 (b144_122 ?_)⟩
          have l1 := sel_len (f := r.2.2.2) (tak := r.2.1) (r.2.1.length - tak.length) tak.length
          refine ih (mkS mk (gN r)) (c :: tr) _ _ w4 _ h4 G4 x2 B4 K4 T4 N4 (fun i hi => ?_) R4 (List.nodup_cons.mpr ⟨k5, hnd⟩) (fun x hx => ?_) (by rw [List.length_cons]; omega) ?_ (fun z w' q1 => hq0 z w' (xI_tr F4 q1)) (fun z w' o5 q1 => hq1 z w' o5 (xI_tr F4 q1))
          · rw [Bool.or_eq_true, Bool.and_eq_true] at hi
            rcases hi with z | z
            · exact hbn i z
            · exact of_decide_eq_true z.2
          · rcases List.mem_cons.mp hx with e | e
            · rw [e]; omega
            · exact htr x e
          · unfold gB
            rw [List.length_append, List.length_cons, List.length_append, List.length_cons]
            omega
def mSr (n : Nat) : Nat → Nat → Prop := fun p k => mSl p k ∨ (p = 36 ∧ k = 39) ∨ p = 57 ∨ ((p = 58 ∨ p = 59) ∧ k = n)
/-- the hints of a spared clause -/
theorem c144_e {a2 : Int32} (hn : n < 64) (htl : tak.length ≤ 17) (hgl : gr.length ≤ 1399) (h63 : ∀ k, k < tak.length → (tg tak k).1 ≤ 63) (h : SH w) (hK : RK w tak) (hN : BN w bn) (hR : GR w gr) (hG : HG w HT)
    (hq : ∀ w', xI (fun p k => mHi p k ∨ ((p = 58 ∨ p = 59) ∧ k = n)) w w' → HG w' (HT ++ (sel bn tak tak.length 0 ++ gr)) → HL w' (HT ++ (sel bn tak tak.length 0 ++ gr)) n HT.length (sel bn tak tak.length 0 ++ gr) → Q (.inl (some (.int 1))) w') : x_R x_prog scr 144 80 [some (.ref 36), some (.int (nI n)), some (.int a2), some (.int (nI tak.length)), some (.int (nI 0)), o5] [] w Q := by
  have key2 : ∀ (d k : Nat) (L : List Int) (w1 : xW) (o2 o3 o4 : Option Value), xI (fun p k => mHi p k ∨ ((p = 58 ∨ p = 59) ∧ k = n)) w w1 → x_i w1 58 n = nI (min HT.length 2400) → HG w1 (HT ++ L) → k + d = gr.length → L ++ gr.drop k = sel bn tak tak.length 0 ++ gr → x_R x_prog scr 144 176 [some (.ref 36), some (.int (nI n)), o2, o3, o4, some (.int (nI k))] [] w1 Q := by
    intro d
    induction d with
    | zero =>
      intro k L w1 o2 o3 o4 F e58 hG hk hL
      have h1 := sh_I F h
      have e43 : x_i w1 36 43 = nI gr.length := (xI_i F 36 43 (by unfold mHi; omega)).trans hR.1
      rw [List.drop_eq_nil_of_le (by omega), List.append_nil] at hL
      rw [← hL] at hq
      refine b144_176 ?_
      simp only [sh_k h1, sh_l h1, sh_n h1, kk36, sr36_2 h1, sr36_8 h1, sr36_9 h1, sr36_12 h1, sr36_13 h1, sr36_14 h1, sr36_15 h1, sr36_21 h1, sr36_22 h1, sr36_23 h1, sr36_25 h1, sr36_27 h1, sr36_28 h1, sr36_29 h1, sr36_30 h1, sr36_31 h1, sr36_35 h1, sr36_36 h1, sr36_37 h1, sr36_38 h1, sr36_40 h1, sr36_41 h1, sr36_42 h1, sr36_44 h1, sr36_45 h1, sr36_46 h1, sr36_47 h1, sr36_48 h1, sr36_49 h1, sr36_51 h1, sr36_52 h1, sr36_53 h1, sr36_54 h1, sr36_55 h1, kk58, ll58, kk59, ll59, true_and, and_true, false_and, and_false, and_self, not_false_eq_true, not_true_eq_false, true_implies, false_implies, implies_true, true_or, or_true, or_self, if_true, if_false, Nat.reduceEqDiff, reduceIte, eq_self, e43, nI_clamp (show n < 2 ^ 31 by omega), vp_in_nI (show n < 64 by omega) (show 64 < 2 ^ 31 by omega), e58, hG.1]
      refine ⟨fun _ => ?_, fun z => absurd (nI_le (by omega) (by omega)) z⟩
      have hll : (HT ++ L).length = HT.length + L.length := List.length_append
      rw [nI_sub (by omega)]
      have G : xI (fun p k => p = 59 ∧ k = n) w1 (x_si w1 59 n (nI (min (HT ++ L).length 2400 - min HT.length 2400))) := xI_si xI_rf ⟨rfl, rfl⟩
      refine hq _ (xI_si F (Or.inr ⟨Or.inr rfl, rfl⟩)) (HG_I G hG (by omega) (by omega)) ⟨HT, [], by rw [List.append_nil], rfl, (xI_i G 58 n (by omega)).trans e58, ?_⟩
      rw [y_i_si, if_pos ⟨rfl, rfl⟩, hll]
    | succ d ih =>
      intro k L w1 o2 o3 o4 F e58 hG hk hL
      have h1 := sh_I F h
      have e43 : x_i w1 36 43 = nI gr.length := (xI_i F 36 43 (by unfold mHi; omega)).trans hR.1
      have e60 : x_i w1 60 k = iI (gr.getD k 0) := (xI_i F 60 k (by unfold mHi; omega)).trans (hR.2 k (by omega))
      refine b144_176 ?_
      simp only [sh_k h1, sh_l h1, sh_n h1, kk36, sr36_2 h1, sr36_8 h1, sr36_9 h1, sr36_12 h1, sr36_13 h1, sr36_14 h1, sr36_15 h1, sr36_21 h1, sr36_22 h1, sr36_23 h1, sr36_25 h1, sr36_27 h1, sr36_28 h1, sr36_29 h1, sr36_30 h1, sr36_31 h1, sr36_35 h1, sr36_36 h1, sr36_37 h1, sr36_38 h1, sr36_40 h1, sr36_41 h1, sr36_42 h1, sr36_44 h1, sr36_45 h1, sr36_46 h1, sr36_47 h1, sr36_48 h1, sr36_49 h1, sr36_51 h1, sr36_52 h1, sr36_53 h1, sr36_54 h1, sr36_55 h1, kk60, ll60, true_and, and_true, false_and, and_false, and_self, not_false_eq_true, not_true_eq_false, true_implies, false_implies, implies_true, true_or, or_true, or_self, if_true, if_false, Nat.reduceEqDiff, reduceIte, eq_self, e43, nI_clamp (show k < 2 ^ 31 by omega), vp_in_nI (show k < 1400 by omega) (show 1400 < 2 ^ 31 by omega), e60]
      refine ⟨fun z => absurd z (nI_ge (by omega) (by omega)), fun _ => c142 (v := gr.getD k 0) h1 hG (fun w2 u1 u2 => b144_196 ?_)⟩
      rw [nI_1]
      rw [List.append_assoc] at u2
      refine ih (k + 1) (L ++ [gr.getD k 0]) w2 _ _ _ (xI_tr F (xI_w u1 (fun _ _ z => Or.inl z))) ((xI_i u1 58 n (by unfold mHi; omega)).trans e58) u2 (by omega) ?_
      rw [List.append_assoc]
      rw [drop_c gr (k := k) (by omega)] at hL
      exact hL
  generalize hSL : sel bn tak tak.length 0 = SL at *
  have key1 : ∀ (d k : Nat) (L : List Int) (w1 : xW) (o2 o4 : Option Value), xI (fun p k => mHi p k ∨ ((p = 58 ∨ p = 59) ∧ k = n)) w w1 → x_i w1 58 n = nI (min HT.length 2400) → HG w1 (HT ++ L) → k + d = tak.length → L ++ sel bn tak d k = SL → x_R x_prog scr 144 140 [some (.ref 36), some (.int (nI n)), o2, some (.int (nI tak.length)), o4, some (.int (nI k))] [] w1 Q := by
    intro d
    induction d with
    | zero =>
      intro k L w1 o2 o4 F e58 hG hk hL
      refine b144_140 ⟨fun _ => ?_, fun z => absurd (nI_le (by omega) (by omega)) z⟩
      unfold sel at hL
      rw [List.append_nil] at hL
      exact key2 gr.length 0 L w1 _ _ _ F e58 hG (by omega) (by rw [List.drop_zero, hL])
    | succ d ih =>
      intro k L w1 o2 o4 F e58 hG hk hL
      have h1 := sh_I F h
      have e61 : x_i w1 61 k = b32 (bn k) := (xI_i F 61 k (by unfold mHi; omega)).trans (hN k (by omega))
      have e53 : x_i w1 53 k = nI (tg tak k).1 := (xI_i F 53 k (by unfold mHi; omega)).trans (hK.2 k (by omega)).1
      unfold sel at hL
      refine b144_140 ⟨fun z => absurd z (nI_ge (by omega) (by omega)), fun _ => ?_⟩
      simp only [sh_k h1, sh_l h1, sh_n h1, kk36, sr36_2 h1, sr36_8 h1, sr36_9 h1, sr36_12 h1, sr36_13 h1, sr36_14 h1, sr36_15 h1, sr36_21 h1, sr36_22 h1, sr36_23 h1, sr36_25 h1, sr36_27 h1, sr36_28 h1, sr36_29 h1, sr36_30 h1, sr36_31 h1, sr36_35 h1, sr36_36 h1, sr36_37 h1, sr36_38 h1, sr36_40 h1, sr36_41 h1, sr36_42 h1, sr36_44 h1, sr36_45 h1, sr36_46 h1, sr36_47 h1, sr36_48 h1, sr36_49 h1, sr36_51 h1, sr36_52 h1, sr36_53 h1, sr36_54 h1, sr36_55 h1, kk53, ll53, kk61, ll61, true_and, and_true, false_and, and_false, and_self, not_false_eq_true, not_true_eq_false, true_implies, false_implies, implies_true, true_or, or_true, or_self, if_true, if_false, Nat.reduceEqDiff, reduceIte, eq_self, nI_clamp (show k < 2 ^ 31 by omega), vp_in_nI (show k < 60 by omega) (show 60 < 2 ^ 31 by omega), e61, e53]
      cases hb : bn k with
      | false =>
        rw [hb] at hL
        refine ⟨fun _ => b144_167 ?_, fun z => absurd rfl z⟩
        rw [nI_1]
        exact ih (k + 1) L w1 _ _ F e58 hG (by omega) hL
      | true =>
        rw [hb, if_pos rfl] at hL
        refine ⟨fun z => absurd z (by decide), fun _ => ?_⟩
        rw [← iI_n (tg tak k).1]
        refine c142 (v := ((tg tak k).1 : Int)) h1 hG (fun w2 u1 u2 => b144_167 ?_)
        rw [nI_1]
        rw [List.append_assoc] at u2
        refine ih (k + 1) (L ++ [((tg tak k).1 : Int)]) w2 _ _ (xI_tr F (xI_w u1 (fun _ _ z => Or.inl z))) ((xI_i u1 58 n (by unfold mHi; omega)).trans e58) u2 (by omega) ?_
        rw [List.append_assoc]
        exact hL
  refine b144_80 ⟨fun _ => ?_, fun z => absurd (by decide) z⟩
  simp only [sh_k h, sh_l h, sh_n h, kk36, sr36_2 h, sr36_8 h, sr36_9 h, sr36_12 h, sr36_13 h, sr36_14 h, sr36_15 h, sr36_21 h, sr36_22 h, sr36_23 h, sr36_25 h, sr36_27 h, sr36_28 h, sr36_29 h, sr36_30 h, sr36_31 h, sr36_35 h, sr36_36 h, sr36_37 h, sr36_38 h, sr36_40 h, sr36_41 h, sr36_42 h, sr36_44 h, sr36_45 h, sr36_46 h, sr36_47 h, sr36_48 h, sr36_49 h, sr36_51 h, sr36_52 h, sr36_53 h, sr36_54 h, sr36_55 h, kk58, ll58, true_and, and_true, false_and, and_false, and_self, not_false_eq_true, not_true_eq_false, true_implies, false_implies, implies_true, true_or, or_true, or_self, if_true, if_false, Nat.reduceEqDiff, reduceIte, eq_self, nI_clamp (show n < 2 ^ 31 by omega), vp_in_nI (show n < 64 by omega) (show 64 < 2 ^ 31 by omega), hG.1]
  have G : xI (fun p k => p = 58 ∧ k = n) w (x_si w 58 n (nI (min HT.length 2400))) := xI_si xI_rf ⟨rfl, rfl⟩
  exact key1 tak.length 0 [] _ _ _ (xI_w G (by omega)) (by rw [y_i_si, if_pos ⟨rfl, rfl⟩]) (by rw [List.append_nil]; exact HG_I G hG (by omega) (by omega)) (by omega) ((List.nil_append _).trans hSL)
/-- spared -/
theorem c144 (hn1 : 1 ≤ n) (hn2 : n ≤ cs.length) (hne : ¬ (cg cs n).length = 0) (hb0 : (base cs al mk n).2.2 = 0) (ht : tok (base cs al mk n).1) (hI : TI cs (base cs al mk n).1 (base cs al mk n).2.1) (h : SH w) (hG : RG w cs al mk) (hV : VT w (base cs al mk n).1) (hK : RK w (base cs al mk n).2.1) (hH : HG w HT)
    (hq0 : (lnR cs al mk n).1 = 0 → ∀ w', xI (mSr n) w w' → Q (.inl (some (.int 0))) w')
    (hq2 : (lnR cs al mk n).1 = 2 → ∀ w', xI (mSr n) w w' → RG w' cs al (lnR cs al mk n).2.1 → HG w' (HT ++ ((lnR cs al mk n).2.2.1 ++ (lnR cs al mk n).2.2.2)) → HL w' (HT ++ ((lnR cs al mk n).2.2.1 ++ (lnR cs al mk n).2.2.2)) n HT.length ((lnR cs al mk n).2.2.1 ++ (lnR cs al mk n).2.2.2) → Q (.inl (some (.int 1))) w') :
    x_R x_prog scr 144 0 [some (.ref 36), some (.int (nI n)), o2, o3, o4, o5] [] w Q := by
  have hl63 := hG.2.1
  have hco := hG.2.2.1
  have hcl := cg_ok hco n
  have hl6 := hcl.1
  have h16 := TI_16 hI
  obtain ⟨b1, b2, b3⟩ := base_at (cs := cs) (al := al) (mk := mk) (c := n)
  have R1 := RG_RC hG hn1 hn2
  have hlit : x_i w 38 (6 * n) = iI (piv cs n) := R1.2 0 (by omega)
  have hpk : lok (piv cs n) := lok_getD hcl.2.1 (by omega)
  have hpk' := hpk
  unfold lok at hpk'
  have e6 : (6 : Int32) * nI n = nI (6 * n) := by rw [show (6 : Int32) = nI 6 from rfl, pk_mul]
  unfold lnR at hq0 hq2
  rw [if_neg (fun y => y hb0), if_neg hne] at hq0 hq2
  refine b144_0 ?_
  simp only [sh_k h, sh_l h, sh_n h, kk36, sr36_2 h, sr36_8 h, sr36_9 h, sr36_12 h, sr36_13 h, sr36_14 h, sr36_15 h, sr36_21 h, sr36_22 h, sr36_23 h, sr36_25 h, sr36_27 h, sr36_28 h, sr36_29 h, sr36_30 h, sr36_31 h, sr36_35 h, sr36_36 h, sr36_37 h, sr36_38 h, sr36_40 h, sr36_41 h, sr36_42 h, sr36_44 h, sr36_45 h, sr36_46 h, sr36_47 h, sr36_48 h, sr36_49 h, sr36_51 h, sr36_52 h, sr36_53 h, sr36_54 h, sr36_55 h, kk38, ll38, true_and, and_true, false_and, and_false, and_self, not_false_eq_true, not_true_eq_false, true_implies, false_implies, implies_true, true_or, or_true, or_self, if_true, if_false, Nat.reduceEqDiff, reduceIte, eq_self, e6, nI_clamp (show 6 * n < 2 ^ 31 by omega), vp_in_nI (show 6 * n < 384 by omega) (show 384 < 2 ^ 31 by omega), hlit, hK.1]
  rw [iI_ng (by omega) (by omega)]
  refine c117 h hV (fun w1 u1 u2 => b144_20 ?_)
  have h1 := sh_I u1 h
  refine ⟨by rw [sh_k h1]; rfl, ?_⟩
  generalize hw2 : x_si w1 36 43 0 = w2
  have F2 : xI (fun p k => p = 36 ∧ k = 43) w1 w2 := by rw [← hw2]; exact xI_si xI_rf ⟨rfl, rfl⟩
  have e43 : x_i w2 36 43 = 0 := by rw [← hw2, y_i_si, if_pos ⟨rfl, rfl⟩]
  clear hw2
  have F02 : xI mSl w w2 := xI_tr (xI_w u1 (by unfold mSl; omega)) (xI_w F2 (by unfold mSl; omega))
  -- clearing what was tried
  have key2 : ∀ (d k : Nat) (w3 : xW), xI (fun p _ => p = 61 ∨ p = 62) w2 w3 → BN w3 nob → (∀ j, j < k → x_i w3 62 j = 0) → k + d = 64 → x_R x_prog scr 144 52 [some (.ref 36), some (.int (nI n)), some (.int (iI (- piv cs n))), some (.int (nI (base cs al mk n).2.1.length)), some (.int (nI k)), none] [] w3 Q := by
    intro d
    induction d with
    | zero =>
      intro k w3 v1 v2 v3 hk
      have F3 : xI mSl w w3 := xI_tr F02 (xI_w v1 (by unfold mSl; omega))
      have h3 := sh_I F3 h
      have V3 : VT w3 (base cs al mk n).1 := VT_I v1 (VT_I F2 (VT_I u1 hV (by omega)) (by omega)) (by omega)
      have B3 : VB w3 (base cs al mk n).1 := fun v hv => (xI_i v1 52 v (by omega)).trans ((xI_i F2 52 v (by omega)).trans (u2 v hv))
      have K3 : RK w3 (base cs al mk n).2.1 := RK_I v1 (RK_I F2 (RK_I u1 hK (by omega) (by omega) (by omega)) (by omega) (by omega) (by omega)) (by omega) (by omega) (by omega)
      have G3 : RG w3 cs al mk := RG_I v1 (RG_I F2 (RG_I u1 hG (by omega) (by omega) (by omega) (by omega) (by omega)) (by omega) (by omega) (by omega) (by omega) (by omega)) (by omega) (by omega) (by omega) (by omega) (by omega)
      have T3 : TRD w3 [] := fun j hj => v3 j (by omega)
      have R3 : GR w3 [] := ⟨(xI_i v1 36 43 (by omega)).trans e43, fun k hk => absurd hk (by simp)⟩
      refine b144_52 ⟨fun _ => ⟨by rw [sh_k h3]; rfl, c145 (lok_neg hpk) h3 G3 T3 (b144_78 ?_)⟩, fun z => absurd (nI_le (a := 64) (by omega) (by omega)) z⟩
      refine c144_l (n := n) (lok_neg hpk) ht hI b1 63 mk [] nob [] w3 _ h3 G3 V3 B3 K3 T3 v2 (fun i hi => (by cases hi)) R3 List.nodup_nil (fun x hx => (by cases hx)) rfl (by simp) (fun z w' q1 => ?_) (fun z w' o5 q1 q2 q3 q4 q5 => ?_)
      · have z : (spc cs al mk n).1 = false := z
        rw [z] at hq0
        exact hq0 rfl w' (xI_tr (xI_w F3 (fun _ _ z => Or.inl z)) (xI_w q1 (fun _ _ z => Or.inl z)))
      · have z : (spc cs al mk n).1 = true := z
        rw [if_pos z] at hq2
        have hok := spr_ok (tv := (base cs al mk n).1) (o := - piv cs n) (mk0 := mk) b1 b2 63 mk [] nob [] (fun _ hh => by cases hh) (fun j => by rw [sel_no (f := nob) _ _ (fun _ _ _ => rfl)]; show mk j = (mk j || false); rw [Bool.or_false])
        have hgl : (spc cs al mk n).2.2.2.length ≤ 0 + 19 * 63 := hok.2.1
        have y2 : RG w' cs al (spc cs al mk n).2.1 := q2
        have y4 : BN w' (spc cs al mk n).2.2.1 := q4
        have y5 : GR w' (spc cs al mk n).2.2.2 := q5
        have F' : xI mSl w w' := xI_tr F3 q1
        refine c144_e (tak := (base cs al mk n).2.1) (by omega) b2 (by omega) (fun k hk => by have := b1 k hk; omega) (sh_I F' h) q3 y4 y5 (HG_I F' hH (by unfold mSl; omega) (by unfold mSl; omega)) (fun w'' t1 t2 t3 => ?_)
        refine hq2 rfl w'' (xI_tr (xI_w F' (fun _ _ z => Or.inl z)) (xI_w t1 (by unfold mHi mSr; omega))) (RG_I t1 y2 (by unfold mHi; omega) (by unfold mHi; omega) (by unfold mHi; omega) (by unfold mHi; omega) (by unfold mHi; omega)) t2 t3
    | succ d ih =>
      intro k w3 v1 v2 v3 hk
      have h3 := sh_I v1 (sh_I F02 h)
      refine b144_52 ⟨fun z => absurd z (nI_ge (b := 64) (by omega) (by omega)), fun _ => ?_⟩
      simp only [sh_k h3, sh_l h3, sh_n h3, kk36, sr36_2 h3, sr36_8 h3, sr36_9 h3, sr36_12 h3, sr36_13 h3, sr36_14 h3, sr36_15 h3, sr36_21 h3, sr36_22 h3, sr36_23 h3, sr36_25 h3, sr36_27 h3, sr36_28 h3, sr36_29 h3, sr36_30 h3, sr36_31 h3, sr36_35 h3, sr36_36 h3, sr36_37 h3, sr36_38 h3, sr36_40 h3, sr36_41 h3, sr36_42 h3, sr36_44 h3, sr36_45 h3, sr36_46 h3, sr36_47 h3, sr36_48 h3, sr36_49 h3, sr36_51 h3, sr36_52 h3, sr36_53 h3, sr36_54 h3, sr36_55 h3, kk62, ll62, true_and, and_true, false_and, and_false, and_self, not_false_eq_true, not_true_eq_false, true_implies, false_implies, implies_true, true_or, or_true, or_self, if_true, if_false, Nat.reduceEqDiff, reduceIte, eq_self, nI_1, nI_clamp (show k < 2 ^ 31 by omega), vp_in_nI (show k < 64 by omega) (show 64 < 2 ^ 31 by omega)]
      have G : xI (fun p _ => p = 62) w3 (x_si w3 62 k 0) := xI_si xI_rf rfl
      refine ih (k + 1) _ (xI_tr v1 (xI_w G (by omega))) (BN_I G v2 (by omega)) (fun j hj => ?_) (by omega)
      rw [y_i_si]
      by_cases e : j = k
      · rw [if_pos ⟨rfl, e⟩]
      · rw [if_neg (fun z => e z.2)]; exact v3 j (by omega)
  have key1 : ∀ (d k : Nat) (w3 : xW), xI (fun p _ => p = 61 ∨ p = 62) w2 w3 → (∀ j, j < k → x_i w3 61 j = 0) → k + d = 60 → x_R x_prog scr 144 28 [some (.ref 36), some (.int (nI n)), some (.int (iI (- piv cs n))), some (.int (nI (base cs al mk n).2.1.length)), some (.int (nI k)), none] [] w3 Q := by
    intro d
    induction d with
    | zero =>
      intro k w3 v1 v3 hk
      exact b144_28 ⟨fun _ => key2 64 0 w3 v1 (fun j hj => v3 j (by omega)) (fun j hj => by omega) (by omega), fun z => absurd (nI_le (a := 60) (by omega) (by omega)) z⟩
    | succ d ih =>
      intro k w3 v1 v3 hk
      have h3 := sh_I v1 (sh_I F02 h)
      refine b144_28 ⟨fun z => absurd z (nI_ge (b := 60) (by omega) (by omega)), fun _ => ?_⟩
      simp only [sh_k h3, sh_l h3, sh_n h3, kk36, sr36_2 h3, sr36_8 h3, sr36_9 h3, sr36_12 h3, sr36_13 h3, sr36_14 h3, sr36_15 h3, sr36_21 h3, sr36_22 h3, sr36_23 h3, sr36_25 h3, sr36_27 h3, sr36_28 h3, sr36_29 h3, sr36_30 h3, sr36_31 h3, sr36_35 h3, sr36_36 h3, sr36_37 h3, sr36_38 h3, sr36_40 h3, sr36_41 h3, sr36_42 h3, sr36_44 h3, sr36_45 h3, sr36_46 h3, sr36_47 h3, sr36_48 h3, sr36_49 h3, sr36_51 h3, sr36_52 h3, sr36_53 h3, sr36_54 h3, sr36_55 h3, kk61, ll61, true_and, and_true, false_and, and_false, and_self, not_false_eq_true, not_true_eq_false, true_implies, false_implies, implies_true, true_or, or_true, or_self, if_true, if_false, Nat.reduceEqDiff, reduceIte, eq_self, nI_1, nI_clamp (show k < 2 ^ 31 by omega), vp_in_nI (show k < 60 by omega) (show 60 < 2 ^ 31 by omega)]
      have G : xI (fun p _ => p = 61) w3 (x_si w3 61 k 0) := xI_si xI_rf rfl
      refine ih (k + 1) _ (xI_tr v1 (xI_w G (by omega))) (fun j hj => ?_) (by omega)
      rw [y_i_si]
      by_cases e : j = k
      · rw [if_pos ⟨rfl, e⟩]
      · rw [if_neg (fun z => e z.2)]; exact v3 j (by omega)
  exact key1 60 0 w2 xI_rf (fun j hj => by omega) (by omega)
/-- wayOf -/
theorem c143 (hn1 : 1 ≤ n) (hn2 : n ≤ cs.length) (h : SH w) (hG : RG w cs al mk) (hH : HG w HT)
    (hq0 : (lnR cs al mk n).1 = 0 → ∀ w', xI (mSr n) w w' → Q (.inl (some (.int 0))) w')
    (hq2 : ¬ (lnR cs al mk n).1 = 0 → ∀ w', xI (mSr n) w w' → RG w' cs al (lnR cs al mk n).2.1 → HG w' (HT ++ ((lnR cs al mk n).2.2.1 ++ (lnR cs al mk n).2.2.2)) → HL w' (HT ++ ((lnR cs al mk n).2.2.1 ++ (lnR cs al mk n).2.2.2)) n HT.length ((lnR cs al mk n).2.2.1 ++ (lnR cs al mk n).2.2.2) → Q (.inl (some (.int (nI (lnR cs al mk n).1)))) w') :
    x_R x_prog scr 143 0 [some (.ref 36), some (.int (nI n))] [] w Q := by
  have hl63 := hG.2.1
  have hco := hG.2.2.1
  have hcl := cg_ok hco n
  have hl6 := hcl.1
  obtain ⟨b1, b2, b3⟩ := base_at (cs := cs) (al := al) (mk := mk) (c := n)
  refine b143_0 ⟨by rw [sh_k h]; rfl, c116 hn1 hn2 h hG (fun w1 u1 u2 u3 u4 u5 u6 u7 => b143_5 ?_)⟩
  have hs1 := sh_I u1 h
  have F1 : xI (mSr n) w w1 := xI_w u1 (by unfold mPr mSr mSl; omega)
  have G1 := RG_I u1 hG (by unfold mPr; omega) (by unfold mPr; omega) (by unfold mPr; omega) (by unfold mPr; omega) (by unfold mPr; omega)
  have H1 := HG_I u1 hH (by unfold mPr; omega) (by unfold mPr; omega)
  by_cases z : (base cs al mk n).2.2 = 0
  · rw [decide_eq_false (fun y => y z)]
    have ek : rtk (base cs al mk n) = (base cs al mk n).2.1 := by unfold rtk; rw [if_pos z]
    rw [ek] at u3
    have R1 := RG_RC G1 hn1 hn2
    have g0 : nI (cg cs n).length ≤ 0 ↔ (cg cs n).length = 0 := by rw [← nI_0, nI_leI (by omega) (by omega)]; omega
    refine ⟨fun _ => ?_, fun y => absurd rfl y⟩
    simp only [sh_k hs1, sh_l hs1, sh_n hs1, kk36, sr36_2 hs1, sr36_8 hs1, sr36_9 hs1, sr36_12 hs1, sr36_13 hs1, sr36_14 hs1, sr36_15 hs1, sr36_21 hs1, sr36_22 hs1, sr36_23 hs1, sr36_25 hs1, sr36_27 hs1, sr36_28 hs1, sr36_29 hs1, sr36_30 hs1, sr36_31 hs1, sr36_35 hs1, sr36_36 hs1, sr36_37 hs1, sr36_38 hs1, sr36_40 hs1, sr36_41 hs1, sr36_42 hs1, sr36_44 hs1, sr36_45 hs1, sr36_46 hs1, sr36_47 hs1, sr36_48 hs1, sr36_49 hs1, sr36_51 hs1, sr36_52 hs1, sr36_53 hs1, sr36_54 hs1, sr36_55 hs1, kk39, ll39, true_and, and_true, false_and, and_false, and_self, not_false_eq_true, not_true_eq_false, true_implies, false_implies, implies_true, true_or, or_true, or_self, if_true, if_false, Nat.reduceEqDiff, reduceIte, eq_self, nI_clamp (show n < 2 ^ 31 by omega), R1.1, g0, vp_in_nI (show n < 64 by omega) (show 64 < 2 ^ 31 by omega)]
    refine ⟨fun y => ?_, fun y => ?_⟩
    · refine hq0 ?_ w1 F1
      unfold lnR
      rw [if_neg (fun x => x z), if_pos y]
    · refine c144 hn1 hn2 y z u5 u6 hs1 G1 u2 u3 H1 (fun x w2 v1 => b143_37 ⟨fun _ => hq0 x w2 (xI_tr F1 v1), fun t => absurd rfl t⟩) (fun x w2 v1 v2 v3 v4 => b143_37 ⟨fun t => absurd t (by decide), fun _ => ?_⟩)
      have := hq2 (by rw [x]; decide) w2 (xI_tr F1 v1) v2 v3 v4
      rw [x] at this
      exact this
  · rw [decide_eq_true z]
    have er : lnR cs al mk n = (1, mkS mk (hI cs (base cs al mk n)), hI cs (base cs al mk n), []) := by unfold lnR; rw [if_pos z]
    rw [er] at hq2
    have hcf : 1 ≤ (base cs al mk n).2.2 := by omega
    generalize hr : base cs al mk n = r at *
    refine ⟨fun y => absurd y (by decide), fun _ => ⟨by rw [sh_k hs1]; rfl, c119 hs1 (fun w2 v1 v2 => b143_12 ?_)⟩⟩
    have h2 := sh_I v1 hs1
    have ek : rtk r = r.2.1 ++ [(r.2.2, 0)] := by unfold rtk; rw [if_neg z]
    have hlk : (rtk r).length = r.2.1.length + 1 := by rw [ek]; simp
    have K2 := RK_I v1 u3 (by omega) (by omega) (by omega)
    have hIc : ∀ k, k < (rtk r).length → 1 ≤ (tg (rtk r) k).1 ∧ (tg (rtk r) k).1 ≤ cs.length ∧ (tg (rtk r) k).2.natAbs ≤ 16 := by
      intro k hk
      rw [hlk] at hk
      rw [ek, tg_app]
      by_cases e : k < r.2.1.length
      · rw [if_pos e]
        obtain ⟨i1, i2, i3, -⟩ := u6.1 k e
        unfold lok at i3
        exact ⟨i1, i2, by omega⟩
      · rw [if_neg e, if_pos (by omega)]
        exact ⟨hcf, u7, by show (0 : Int).natAbs ≤ 16; decide⟩
    have h16 := TI_16 u6
    refine ⟨by rw [sh_k h2]; rfl, c121 (nv := nob) hco hl63 (by omega) hIc h2 K2 (RG_I v1 G1 (by omega) (by omega) (by omega) (by omega) (by omega)).2.2.2.1 v2 (fun w3 x1 x2 => b143_16 ?_)⟩
    have h3 := sh_I x1 h2
    have K3 := RK_I x1 K2 (by omega) (by omega) (by omega)
    have M3 : MA w3 mk := MA_I x1 (MA_I v1 G1.2.2.2.2.2 (by omega)) (by omega)
    have H3 := HG_I x1 (HG_I v1 H1 (by omega) (by omega)) (by omega) (by omega)
    refine ⟨by rw [sh_k h3]; rfl, c141 (tak := rtk r) (nd := ndr cs (rtk r) (rtk r).length nob) (by omega) (by omega) (fun k hk => by have := hIc k hk; omega) h3 K3 x2 M3 H3 (fun w4 t1 t2 t3 t4 => b143_21 ?_)⟩
    have es : sel (ndr cs (rtk r) (rtk r).length nob) (rtk r) (rtk r).length 0 = hI cs r := by
      have hlast : tg (rtk r) r.2.1.length = (r.2.2, 0) := by rw [ek, tg_app, if_neg (by omega), if_pos rfl]
      have hnd : ∀ i, ndr cs (rtk r) (r.2.1.length + 1) nob i = if i = r.2.1.length then true else nds cs r.2.1 r.2.1.length (nvc cs r.2.2) i := by
        intro i
        show (if i = r.2.1.length then nd0 nob (tg (rtk r) r.2.1.length).2 else ndr cs (rtk r) r.2.1.length (if nd0 nob (tg (rtk r) r.2.1.length).2 = true then nvx nob (cg cs (tg (rtk r) r.2.1.length).1) (tg (rtk r) r.2.1.length).2 else nob) i) = _
        rw [hlast]
        have e0 : nd0 nob (0 : Int) = true := rfl
        show (if i = r.2.1.length then nd0 nob 0 else ndr cs (rtk r) r.2.1.length (if nd0 nob 0 = true then nvx nob (cg cs r.2.2) 0 else nob) i) = _
        rw [e0, if_pos rfl, nvx_0 hco, ndr_nds (tak := r.2.1) r.2.1.length _ (fun j hj => ⟨by rw [ek]; exact tg_pre hj, (u6.1 j hj).2.2.1.1⟩)]
      rw [hlk, sel_app]
      unfold hI
      have e1 : sel (ndr cs (rtk r) (r.2.1.length + 1) nob) (rtk r) r.2.1.length 0 = sel (nds cs r.2.1 r.2.1.length (nvc cs r.2.2)) r.2.1 r.2.1.length 0 := sel_cg _ _ (fun i i1 i2 => ⟨by rw [hnd i, if_neg (by omega)], fun _ => by rw [ek, tg_pre (by omega)]⟩)
      rw [e1, Nat.zero_add]
      congr 1
      show (if ndr cs (rtk r) (r.2.1.length + 1) nob r.2.1.length = true then ((tg (rtk r) r.2.1.length).1 : Int) :: [] else []) = _
      rw [hnd, if_pos rfl, if_pos rfl, hlast]
    rw [es] at t2 t3 t4
    have F4 : xI (mSr n) w w4 := xI_tr F1 (xI_tr (xI_w v1 (by unfold mSr mSl; omega)) (xI_tr (xI_w x1 (by unfold mSr mSl; omega)) (xI_w t1 (by unfold mHi mSr mSl; omega))))
    refine hq2 (by show ¬ 1 = 0; decide) w4 F4 (RG_M F4 hG t2 (by unfold mSr mSl; omega) (by unfold mSr mSl; omega) (by unfold mSr mSl; omega) (by unfold mSr mSl; omega)) ?_ ?_
    · dsimp only; rw [List.append_nil]; exact t3
    · dsimp only; rw [List.append_nil]; exact t4
end X71
