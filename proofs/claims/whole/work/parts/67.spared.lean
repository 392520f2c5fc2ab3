/-! noteSpared of the class. -/
theorem inb_bit : ∀ b, b < 18 → ∀ i, i < 32 → mm (((1 : Int32) <<< (nI b &&& 31)) - 1) i = decide (i < b) := by decide +kernel
theorem sel_beyond {nd : Nat → Bool} {tak : xTk} {b : Nat} (h : b ≤ tak.length) : sel (fun i => nd i && !decide (i < b)) tak tak.length 0 = sel nd tak (tak.length - b) b := by
  have := sel_app (f := fun i => nd i && !decide (i < b)) (tak := tak) b (tak.length - b) 0
  rw [show b + (tak.length - b) = tak.length by omega, sel_no b 0 (fun i h1 h2 => by rw [decide_eq_true (by omega)]; simp), List.nil_append, Nat.zero_add] at this
  rw [this]
  exact sel_cg _ _ (fun i h1 h2 => ⟨by rw [decide_eq_false (by omega)]; simp, fun _ => rfl⟩)
section X67
variable {scr : Nat × (Nat → Int32)} {w : xW} {Q : xO → xW → Prop} {w1 : xW} {P n c g d V E : Nat} {hf hs : Bool} {al mk sp nd f mkO spO : Nat → Bool} {tv : Nat → Int} {tak : xTk} {cs : List (List Int)} {st : xSt} {ls NT : List Int} {m : Int32} {o : Int} {o1 o2 o3 o4 o5 o6 o7 o8 o9 o10 o11 o12 : Option Value}
theorem N_G (q : xI mGo w w1) : xF (mNi n) (mNj n) mPrr w w1 := xF_w q (by unfold mGo mNi mPi; omega) (fun _ _ z => z.elim) (fun _ _ z => z.elim)
theorem PB_o {mi mj mr : Nat → Nat → Prop} (q : xF mi mj mr w w1) (hi : ∀ p k, ((5 ≤ p ∧ p ≤ 16) ∨ (28 ≤ p ∧ p ≤ 30)) → ¬ mi p k) (hj : ¬ mj 28 1) (hr : ¬ mr 28 0) (h : PB P w cs al tv tak) : PB P w1 cs al tv tak := by
  obtain ⟨hP, r0, p4, hl, pR, pA, pT, p7, pK'⟩ := h
  exact ⟨hP, (q.2.2.2 28 0 hr).trans r0, (q.2.1 P 4 (hi _ _ (by omega))).trans p4, hl, fun c hc => PC_F q (pR c hc) (hi _ _ (by omega)) (hi _ _ (by omega)) (fun k _ => hi _ _ (by omega)), by rw [q.2.2.1 28 1 hj]; exact pA, by rw [q.2.1 28 3 (hi _ _ (by omega))]; exact pT, (q.2.1 28 7 (hi _ _ (by omega))).trans p7, fun k hk => ⟨(q.2.1 29 k (hi _ _ (by omega))).trans (pK' k hk).1, (q.2.1 30 k (hi _ _ (by omega))).trans (pK' k hk).2⟩⟩
theorem PB_A (q : xI (mAd 22) w w1) (h : PB P w cs al tv tak) : PB P w1 cs al tv tak := PB_o q (by unfold mAd; omega) (fun z => z) (fun z => z) h
theorem PB_M (q : xF x_no (fun p k => p = 21 ∧ k = 2) x_no w w1) (h : PB P w cs al tv tak) : PB P w1 cs al tv tak := PB_o q (fun _ _ _ z => z) (by omega) (fun z => z) h
theorem RF_i {mi : Nat → Nat → Prop} (q : xI mi w w1) (h1 : ¬ mi 21 4) (h2 : ¬ mi 22 1) (h3 : ∀ k, ¬ mi 23 k) (h : RF P w E mk sp NT) : RF P w1 E mk sp NT := by
  obtain ⟨a1, a2, a3, a4, a5⟩ := h
  exact ⟨by rw [xI_r q]; exact a1, (xI_i q 21 4 h1).trans a2, by rw [xI_j q]; exact a3, by rw [xI_j q]; exact a4, TG_F q a5 h2 h3⟩
theorem RF_A {e : List Int} (q : xI (mAd 22) w w1) (hT : TG 22 w1 (NT ++ e)) (h : RF P w E mk sp NT) : RF P w1 E mk sp (NT ++ e) := by
  obtain ⟨a1, a2, a3, a4, a5⟩ := h
  exact ⟨by rw [xI_r q]; exact a1, (xI_i q 21 4 (by unfold mAd; omega)).trans a2, by rw [xI_j q]; exact a3, by rw [xI_j q]; exact a4, hT⟩
theorem RF_M {mk' : Nat → Bool} (q : xF x_no (fun p k => p = 21 ∧ k = 2) x_no w w1) (hm : ∀ j, j < 64 → hc (x_j w1 21 2) j = mk' j) (h : RF P w E mk sp NT) : RF P w1 E mk' sp NT := by
  obtain ⟨a1, a2, a3, a4, a5⟩ := h
  exact ⟨(q.2.2.2 21 1 (fun z => z)).trans a1, (q.2.1 21 4 (fun z => z)).trans a2, hm, by rw [q.2.2.1 21 3 (by omega)]; exact a4, TG_F q a5 (fun z => z) (fun _ z => z)⟩
/-- the candidates in turn -/
theorem c131_l {p : Int} (hp : lok p) (hP : P = 5 ∨ P = 11) (hco : cok cs) (hl : cs.length ≤ 63) (hn : n ≤ 63) (ht : tok tv) (hI : TI cs tv tak) (hAT : AT cs al tak) (hNT : NT.length < 2 ^ 27) {la a4 : Int64} (hla : ∀ j, j < 64 → hc la j = al j) :
    ∀ (d T : Nat) (mk : Nat → Bool) (tr : List Nat) (bn : Nat → Bool) (gr : List Int) (bs : Int32) (tl : Int64) (w : xW) (o3 o5 o10 o12 : Option Value), SH w → PS P w hf hs V g cs st mkO spO → RF P w E mk sp (NT ++ gr) → PB P w cs al tv tak → (∀ i, i < 32 → mm bs i = bn i) → (∀ i, bn i = true → i < tak.length) → (∀ j, j < 64 → hc tl j = decide (j ∈ tr)) → T + d = 64 → gr.length ≤ 19 * T → x_i w 24 n = nI NT.length →
    ((spr cs al tv tak (-p) d mk tr bn gr).1 = false → ∀ w', xF (mNi n) (mNj n) mPrr w w' → SH w' → Q (.inl (some (.int 0))) w') →
    ((spr cs al tv tak (-p) d mk tr bn gr).1 = true → ∀ w' (bs' : Int32) (tl' : Int64) (T' : Int32) (o3 o5 o10 o12 : Option Value), xF (mNi n) (mNj n) mPrr w w' → SH w' → RF P w' E (spr cs al tv tak (-p) d mk tr bn gr).2.1 sp (NT ++ (spr cs al tv tak (-p) d mk tr bn gr).2.2.2) → PB P w' cs al tv tak → x_i w' 24 n = nI NT.length → (∀ i, i < 32 → mm bs' i = (spr cs al tv tak (-p) d mk tr bn gr).2.2.1 i) → (∀ i, (spr cs al tv tak (-p) d mk tr bn gr).2.2.1 i = true → i < tak.length) → x_R x_prog scr 129 0 [some (.ref 21), some (.int bs'), none] [] (x_si w' 25 n (x_i w' 22 1)) (x_back x_prog 131 211 214 [some (.ref 21), some (.int (nI n)), some (.long la), o3, some (.long a4), o5, some (.int (sb (li p))), some (.int (((1 : Int32) <<< (nI tak.length &&& 31)) - 1)), some (.int bs'), some (.long tl'), o10, some (.int T'), o12] [] (fun pc L st w => x_R x_prog scr 131 pc L st w Q))) →
    x_R x_prog scr 131 72 [some (.ref 21), some (.int (nI n)), some (.long la), o3, some (.long a4), o5, some (.int (sb (li p))), some (.int (((1 : Int32) <<< (nI tak.length &&& 31)) - 1)), some (.int bs), some (.long tl), o10, some (.int (nI T)), o12] [] w Q := by
  have h16 := TI_16 hI
  intro d
  induction d with
  | zero =>
    intro T mk tr bn gr bs tl w o3 o5 o10 o12 h hS hR hB hbs hbn htl hT hgl h24 hq0 hq1
    have c1 : (63 : Int32) < nI T := nI_lt (a := 63) (by omega) (by omega)
    refine b131_72 ⟨fun _ => ?_, fun z => absurd c1 z⟩
    have := hq1 rfl w bs tl (nI T) none none none none xF_rf h hR hB h24 hbs hbn
    rw [sr21_7 h, sr21_5 h, sh_k h, sh_l h, nI_clamp (show n < 2 ^ 31 by omega)]
    exact ⟨rfl, by decide, rfl, by decide, rfl, ⟨rfl, vp_in_nI (N := 65) (by omega) (by omega)⟩, rfl, this⟩
  | succ d ih =>
    intro T mk tr bn gr bs tl w o3 o5 o10 o12 h hS hR hB hbs hbn htl hT hgl h24 hq0 hq1
    have c1 : ¬ (63 : Int32) < nI T := nI_nlt (a := 63) (by omega) (by omega)
    obtain ⟨r1, r4, rm, rs, rT⟩ := id hR
    refine b131_72 ⟨fun z => absurd z c1, fun _ => ⟨by rw [sh_k h]; rfl, c33 (b131_98 ⟨by rw [sh_k h]; rfl, ?_⟩)⟩⟩
    refine c132 (o := -p) (p := fun j => (al j && mk j) && !decide (j ∈ tr)) hP hl hco (lok_neg hp) h r1 hS.1.2.2.2.2.1 (PS_sets hS) (fun j hj => by rw [hc_and, hc_and, hc_not _ hj, hla j hj, rm j hj, htl j hj]) (opp_sb hp) (b131_101 ?_)
    have ec : lowA (fun c => ((al c && mk c) && !decide (c ∈ tr)) && decide (-p ∈ cg cs c)) cs.length 1 = cdt cs al mk tr (-p) := lowA_cg _ _ (fun j _ _ => by simp only [Bool.and_assoc])
    rw [ec]
    unfold spr at hq0 hq1
    have g0 : nI (cdt cs al mk tr (-p)) = 0 ↔ cdt cs al mk tr (-p) = 0 := by
      rw [← nI_0]
      refine nI_eq ?_ (by omega)
      by_cases hz : cdt cs al mk tr (-p) = 0
      · omega
      · have := cdt_in hz; omega
    rw [g0]
    by_cases hz : cdt cs al mk tr (-p) = 0
    · rw [if_pos hz] at hq0 hq1
      refine ⟨fun z => absurd hz z, fun _ => ?_⟩
      have := hq1 rfl w bs tl (nI T) none none none (some (.int (nI (cdt cs al mk tr (-p))))) xF_rf h hR hB h24 hbs hbn
      rw [sr21_7 h, sr21_5 h, sh_k h, sh_l h, nI_clamp (show n < 2 ^ 31 by omega)]
      exact ⟨rfl, by decide, rfl, by decide, rfl, ⟨rfl, vp_in_nI (N := 65) (by omega) (by omega)⟩, rfl, this⟩
    · rw [if_neg hz] at hq0 hq1
      obtain ⟨k1, k2, k3, k4, k5, k6⟩ := cdt_in hz
      obtain ⟨a1, a2, a3, a4', a5, a6⟩ := wst_at (mk := mk) (tv := tv) (o := -p) (d := cdt cs al mk tr (-p)) hAT (by omega)
      refine ⟨fun _ => ?_, fun z => absurd hz z⟩
      rw [sr21_0 h, sh_k h]
      refine ⟨rfl, by decide, rfl, rfl, c112 (mk := mk) hp hco ht hI h hB k1 k2 rm (fun w1 u1 u2 u3 => b131_126 ?_)⟩
      generalize hc : cdt cs al mk tr (-p) = c at *
      generalize hr : wst cs al mk tv tak (-p) c = r at *
      have h1 := sh_I u1 h
      cases hb : r.1 with
      | false =>
        rw [hb] at hq0
        exact ⟨fun z => absurd rfl z, fun _ => ⟨Or.inl rfl, hq0 rfl w1 (N_G u1) h1⟩⟩
      | true =>
        rw [hb, if_pos rfl] at hq0 hq1
        obtain ⟨y6, y29, y8⟩ := u3
        obtain ⟨y8, y9⟩ := y8 hb
        have hcf : r.2.2.1 ≤ 63 := by rcases a4' with z | z; omega; omega
        have R1 : RF P w1 E mk sp (NT ++ gr) := RF_i u1 (by unfold mGo; omega) (by unfold mGo; omega) (by unfold mGo; omega) hR
        refine ⟨fun _ => ⟨by rw [sh_k h1]; rfl, c128 (tak := r.2.1) (nd := r.2.2.2) (mk := mk) hcf a2 (fun k hk => by have := a1 k hk; omega) h1 y29 y9 a6 y8 R1.2.2.1 (fun w2 v1 v2 => b131_144 ?_)⟩, fun z => absurd (by decide) z⟩
        have h2 := sh_F v1 h1
        have R2 : RF P w2 E (mkS mk (gN r)) sp (NT ++ gr) := RF_M v1 v2 R1
        have B2 := PB_M v1 u2
        have hng : -(nI c) = iI (-(c : Int)) := by rw [← iI_n, iI_ng (by omega) (by omega)]
        have hlg : (NT ++ gr).length ≤ 2 ^ 27 + 19 * T := by rw [List.length_append]; omega
        rw [sr21_5 h2, hng]
        refine ⟨by rw [sh_k h2]; rfl, by decide, by rw [sh_k h2]; rfl, c78 (by omega) h2 (by omega) R2.2.2.2.2 (fun w3 x1 x2 => b131_154 ?_)⟩
        have h3 := sh_I x1 h2
        have R3 := RF_A x1 x2 R2
        have B3 := PB_A x1 B2
        have i3 : ∀ p k, p = 28 ∨ p = 29 → x_i w3 p k = x_i w1 p k := fun p k hpk => by rw [xI_i x1 p k (by unfold mAd; omega), v1.2.1 p k (fun z => z)]
        rw [sr21_0 h3, i3 28 9 (by omega)]
        refine ⟨by rw [sh_k h3]; rfl, by decide, by rw [sh_k h3]; rfl, by rw [sh_k h3]; rfl, c129 (tak := r.2.1) (f := fun i => r.2.2.2 i && !decide (i < tak.length)) a2 h3 (fun k hk => by rw [i3 29 k (by omega)]; exact y29 k hk) (fun i hi => by rw [mm_and, mm_not _ hi, y9 i hi, inb_bit tak.length (by omega) i hi]) (fun i hi => by rw [a6 i hi]; rfl) (by rw [List.length_append, List.length_singleton]; omega) R3.2.2.2.2 (fun w4 t1 t2 => b131_170 ?_)⟩
        have h4 := sh_I t1 h3
        have R4 := RF_A t1 t2 R3
        have B4 := PB_A t1 B3
        have i4 : ∀ p k, p = 28 ∨ p = 29 → x_i w4 p k = x_i w1 p k := fun p k hpk => by rw [xI_i t1 p k (by unfold mAd; omega)]; exact i3 p k hpk
        have s1 := sel_len (f := fun i => r.2.2.2 i && !decide (i < tak.length)) (tak := r.2.1) r.2.1.length 0
        refine ⟨by rw [sh_k h4]; rfl, c130 (cf := r.2.2.1) hcf h4 (by rw [i4 28 8 (by omega)]; exact y8) (by rw [List.length_append, List.length_append, List.length_singleton]; omega) R4.2.2.2.2 (fun w5 s5 s6 => b131_174 ?_)⟩
        have h5 := sh_I s5 h4
        have R5 := RF_A s5 s6 R4
        have B5 := PB_A s5 B4
        have F5 : xF (mNi n) (mNj n) mPrr w w5 := xF_tr (N_G u1) (xF_tr (N_M v1) (xF_tr (N_A x1) (xF_tr (N_A t1) (N_A s5))))
        have el : NT ++ gr ++ [-(c : Int)] ++ sel (fun i => r.2.2.2 i && !decide (i < tak.length)) r.2.1 r.2.1.length 0 ++ cfL r.2.2.1 = NT ++ (gr ++ (-(c : Int) :: gB tak.length r)) := by
          rw [sel_beyond a3]
          unfold gB
          simp only [List.append_assoc, List.singleton_append, List.cons_append, List.nil_append]
        rw [el] at R5
        have i5 : x_i w5 28 9 = x_i w1 28 9 := by rw [xI_i s5 28 9 (by unfold mAd; omega)]; exact i4 28 9 (by omega)
        have l1 := sel_len (f := r.2.2.2) (tak := r.2.1) (r.2.1.length - tak.length) tak.length
        have l2 := cfL_len r.2.2.1
        rw [sr21_0 h5, i5, nI_1, sh_k h5]
        refine ⟨rfl, by decide, rfl, ih (T + 1) (mkS mk (gN r)) (c :: tr) (fun i => bn i || (r.2.2.2 i && decide (i < tak.length))) (gr ++ (-(c : Int) :: gB tak.length r)) (bs ||| (x_i w1 28 9 &&& (((1 : Int32) <<< (nI tak.length &&& 31)) - 1))) (tl ||| lb c) w5 none none none none h5 (PS_N hP F5 hS) R5 B5 (fun i hi => ?_) (fun i hi => ?_) (fun j hj => ?_) (by omega) ?_ ?_ (fun z w' q1 q2 => hq0 z w' (xF_tr F5 q1) q2) (fun z w' bs' tl' T' q3 q5 q10 q12 q1 q2 => hq1 z w' bs' tl' T' q3 q5 q10 q12 (xF_tr F5 q1) q2)⟩
        · rw [mm_or, mm_and, hbs i hi, y9 i hi, inb_bit tak.length (by omega) i hi]
        · rw [Bool.or_eq_true, Bool.and_eq_true] at hi
          rcases hi with z | z
          · exact hbn i z
          · exact of_decide_eq_true z.2
        · rw [hc_or, htl j hj, hc_lb c (by omega) j hj, Bool.eq_iff_iff]
          simp only [Bool.or_eq_true, decide_eq_true_iff, List.mem_cons]
          constructor
          · rintro (z | z)
            · exact Or.inr z
            · exact Or.inl z.symm
          · rintro (z | z)
            · exact Or.inr z.symm
            · exact Or.inl z
        · unfold gB
          rw [List.length_append, List.length_cons, List.length_append]
          omega
        · rw [xI_i s5 24 n (by unfold mAd; omega), xI_i t1 24 n (by unfold mAd; omega), xI_i x1 24 n (by unfold mAd; omega), v1.2.1 24 n (fun z => z), xI_i u1 24 n (by unfold mGo; omega)]
          exact h24
/-- noteSpared -/
theorem c131 (hP : P = 5 ∨ P = 11) (hco : cok cs) (hl : cs.length ≤ 63) (hn1 : 1 ≤ n) (hn2 : n ≤ cs.length) (h : SH w) (hS : PS P w hf hs V g cs st mkO spO) (hR : RF P w E mk sp NT) (hNT : NT.length < 2 ^ 27) {la : Int64} (hla : ∀ j, j < 64 → hc la j = al j) (hb0 : (base cs al mk n).2.2 = 0) (hB : PB P w cs al (base cs al mk n).1 (base cs al mk n).2.1) (ht : tok (base cs al mk n).1) (hI : TI cs (base cs al mk n).1 (base cs al mk n).2.1)
    (hq0 : (lnR cs al mk n).1 = 0 → ∀ w', xF (mNi n) (mNj n) mPrr w w' → SH w' → Q (.inl (some (.int 0))) w')
    (hq2 : (lnR cs al mk n).1 = 2 → ∀ w', xF (mNi n) (mNj n) mPrr w w' → SH w' → RF P w' E (lnR cs al mk n).2.1 (fun j => sp j || decide (j = n)) (NT ++ ((lnR cs al mk n).2.2.2 ++ (lnR cs al mk n).2.2.1)) → CL w' (NT ++ ((lnR cs al mk n).2.2.2 ++ (lnR cs al mk n).2.2.1)) n (fun d => (lnR cs al mk n).2.1 d && !mk d) (lnR cs al mk n).2.2.1 (lnR cs al mk n).2.2.2 → Q (.inl (some (.int 1))) w') :
    x_R x_prog scr 131 0 [some (.ref 21), some (.int (nI n)), some (.long la), o3, o4, o5, o6, o7, o8, o9, o10, o11, o12] [] w Q := by
  obtain ⟨r1, r4, rm, rs, rT⟩ := id hR
  have hcl := cg_ok hco n
  have hl6 := hcl.1
  have hC := PC_c hS.2.1 hn1 hn2
  have h16 := TI_16 hI
  obtain ⟨b1, b2, b3⟩ := base_at (cs := cs) (al := al) (mk := mk) (c := n)
  have g0 : nI (cg cs n).length = 0 ↔ (cg cs n).length = 0 := by rw [← nI_0]; exact nI_eq (by omega) (by omega)
  have e6 : nI n * 6 = nI (6 * n) := by rw [show (6 : Int32) = nI 6 from rfl, pk_mul, Nat.mul_comm]
  unfold lnR at hq0 hq2
  rw [if_neg (fun y => y hb0)] at hq0 hq2
  refine b131_0 ?_
  rw [r1, pK h hP, pr6 h hP, pr7 h hP, (pk1 h hP).1, (pk1 h hP).2, (pk2 h hP).1, (pk2 h hP).2, nI_clamp (show n < 2 ^ 31 by omega), hC.1, g0, e6, nI_clamp (show 6 * n < 2 ^ 31 by omega), sh_k h]
  refine ⟨rfl, by omega, rfl, by omega, ⟨rfl, vp_in_nI (by omega) (by omega)⟩, fun y => ?_, fun y => ⟨Or.inl rfl, ?_⟩⟩
  · rw [if_neg y] at hq0 hq2
    have hlit : x_i w (P + 1) (6 * n) = iI (piv cs n) := hC.2.2 0 (by omega)
    have hpk : lok (piv cs n) := lok_getD hcl.2.1 (by omega)
    rw [hlit]
    refine ⟨rfl, rfl, by omega, rfl, by omega, ⟨rfl, vp_in_nI (by omega) (by omega)⟩, c34 hpk (b131_35 ?_)⟩
    have F1 : xI (fun p k => p = 24 ∧ k = n) w (x_si w 24 n (nI NT.length)) := xI_si xI_rf ⟨rfl, rfl⟩
    have e24 : x_i (x_si w 24 n (nI NT.length)) 24 n = nI NT.length := by rw [y_i_si, if_pos ⟨rfl, rfl⟩]
    have h1 := sh_I F1 h
    have N1 : xF (mNi n) (mNj n) mPrr w (x_si w 24 n (nI NT.length)) := xF_w F1 (by unfold mNi; omega) (fun _ _ z => z.elim) (fun _ _ z => z.elim)
    rw [sr21_0 h, sr21_5 h, sr21_6 h, hB.2.2.2.2.2.2.2.1, sh_k h, sh_l h, rT.1, nI_clamp (show n < 2 ^ 31 by omega)]
    refine ⟨rfl, by decide, rfl, rfl, by decide, rfl, by decide, rfl, ⟨rfl, vp_in_nI (N := 65) (by omega) (by omega)⟩, ?_⟩
    refine c131_l (E := E) (sp := sp) (tv := (base cs al mk n).1) (tak := (base cs al mk n).2.1) hpk hP hco hl (by omega) ht hI b1 hNT hla 63 1 mk [] nob [] 0 0 _ none none none none h1 (PS_N hP N1 hS) ?_ (PB_o F1 (by omega) (fun z => z) (fun z => z) hB) (fun i _ => mm_0 i) (fun i hi => (by cases hi)) (fun j _ => hc_0 j) rfl (by simp) e24 (fun z w' q1 q2 => ?_) (fun z w' bs' tl' T' q3 q5 q10 q12 v1 v2 v3 v4 v5 v6 v7 => ?_)
    · rw [List.append_nil]
      exact RF_i F1 (by omega) (by omega) (by omega) hR
    · have z : (spc cs al mk n).1 = false := z
      rw [z] at hq0
      exact hq0 rfl w' (xF_tr N1 q1) q2
    · have z : (spc cs al mk n).1 = true := z
      rw [if_pos z] at hq2
      have y3 : RF P w' E (spc cs al mk n).2.1 sp (NT ++ (spc cs al mk n).2.2.2) := v3
      have y6 : ∀ i, i < 32 → mm bs' i = (spc cs al mk n).2.2.1 i := v6
      have y7 : ∀ i, (spc cs al mk n).2.2.1 i = true → i < (base cs al mk n).2.1.length := v7
      have hok := spr_ok (tv := (base cs al mk n).1) (o := - piv cs n) (mk0 := mk) b1 b2 63 mk [] nob [] (fun _ hh => by cases hh) (fun j => by rw [sel_no (f := nob) _ _ (fun _ _ _ => rfl)]; show mk j = (mk j || false); rw [Bool.or_false])
      have hgl : (spc cs al mk n).2.2.2.length ≤ 0 + 19 * 63 := hok.2.1
      clear v3 v6 v7 hok
      generalize spc cs al mk n = s at *
      generalize base cs al mk n = b at *
      have F2 : xI (fun p k => p = 25 ∧ k = n) w' (x_si w' 25 n (x_i w' 22 1)) := xI_si xI_rf ⟨rfl, rfl⟩
      have e25 : x_i (x_si w' 25 n (x_i w' 22 1)) 25 n = x_i w' 22 1 := by rw [y_i_si, if_pos ⟨rfl, rfl⟩]
      have h2 := sh_I F2 v2
      have R2 := RF_i F2 (by omega) (by omega) (by omega) y3
      have B2 := PB_o F2 (by omega) (fun z => z) (fun z => z) v4
      refine c129 (tak := b.2.1) (f := s.2.2.1) b2 h2 (fun k hk => (B2.2.2.2.2.2.2.2.2 k hk).1) y6 (fun i hi => ?_) (by rw [List.length_append]; omega) R2.2.2.2.2 (fun w3 x1 x2 => b131_214 ?_)
      · cases hb : s.2.2.1 i with
        | false => rfl
        | true => have := y7 i hb; omega
      · have h3 := sh_I x1 h2
        have R3 := RF_A x1 x2 R2
        have e4 : NT ++ s.2.2.2 ++ sel s.2.2.1 b.2.1 b.2.1.length 0 = NT ++ (s.2.2.2 ++ sel s.2.2.1 b.2.1 b.2.1.length 0) := List.append_assoc _ _ _
        rw [e4] at R3
        generalize hhb : sel s.2.2.1 b.2.1 b.2.1.length 0 = hb at *
        have f24 : x_i w3 24 n = nI NT.length := by rw [xI_i x1 24 n (by unfold mAd; omega), xI_i F2 24 n (by omega)]; exact v5
        have f25 : x_i w3 25 n = nI (NT.length + s.2.2.2.length) := by rw [xI_i x1 25 n (by unfold mAd; omega), e25, y3.2.2.2.2.1, List.length_append]
        have F3 : xF (mNi n) (mNj n) mPrr w w3 := xF_tr N1 (xF_tr v1 (xF_tr (xF_w F2 (by unfold mNi; omega) (fun _ _ z => z.elim) (fun _ _ z => z.elim)) (N_A x1)))
        rw [sr21_8 h3, sr21_5 h3, sr21_9 h3, sh_k h3, sh_l h3, nI_clamp (show n < 2 ^ 31 by omega), R3.2.2.2.2.1]
        have ej3 : ∀ a b, x_j (x_sj (x_si w3 26 n a) 27 n b) 21 3 = x_j w3 21 3 := fun a b => by rw [y_j_sj, if_neg (by omega), y_j_si]
        rw [ej3]
        refine ⟨rfl, by decide, rfl, by decide, rfl, ⟨rfl, vp_in_nI (N := 65) (by omega) (by omega)⟩, rfl, by decide, rfl, ⟨rfl, vp_in_nI (N := 65) (by omega) (by omega)⟩, rfl, rfl, b131_256 ⟨Or.inr rfl, ?_⟩⟩
        have elb : (1 : Int64) <<< ((nI n).toInt64 &&& 63) = lb n := rfl
        rw [elb]
        generalize hw6 : x_sj (x_sj (x_si w3 26 n (nI (NT ++ (s.2.2.2 ++ hb)).length)) 27 n (x_j w3 21 2 &&& (x_j w 21 2 ^^^ (-1)))) 21 3 (x_j w3 21 3 ||| lb n) = w6
        have G6 : xF (fun p k => p = 26 ∧ k = n) (fun p k => (p = 27 ∧ k = n) ∨ (p = 21 ∧ k = 3)) x_no w3 w6 := by rw [← hw6]; exact xF_sj (xF_sj (xF_si xF_rf ⟨rfl, rfl⟩) (Or.inl ⟨rfl, rfl⟩)) (Or.inr ⟨rfl, rfl⟩)
        have F6 : xF (mNi n) (mNj n) mPrr w w6 := xF_tr F3 (xF_w G6 (by unfold mNi; omega) (by unfold mNj; omega) (fun _ _ z => z.elim))
        have a26 : x_i w6 26 n = nI (NT ++ (s.2.2.2 ++ hb)).length := by rw [← hw6, y_i_sj, y_i_sj, y_i_si, if_pos ⟨rfl, rfl⟩]
        have a27 : x_j w6 27 n = x_j w3 21 2 &&& (x_j w 21 2 ^^^ (-1)) := by rw [← hw6, y_j_sj, if_neg (by omega), y_j_sj, if_pos ⟨rfl, rfl⟩]
        have a3 : x_j w6 21 3 = x_j w3 21 3 ||| lb n := by rw [← hw6, y_j_sj, if_pos ⟨rfl, rfl⟩]
        clear hw6
        refine hq2 rfl w6 F6 (sh_N F6 h) ⟨(F6.2.2.2 21 1 (by unfold mPrr; omega)).trans r1, (F6.2.1 21 4 (by unfold mNi mPi; omega)).trans r4, ?_, fun j hj => ?_, TG_F G6 R3.2.2.2.2 (by omega) (by omega)⟩ ⟨NT, [], by simp, (G6.2.1 24 n (by omega)).trans f24, (G6.2.1 25 n (by omega)).trans f25, ?_, fun j hj => ?_⟩
        · rw [G6.2.2.1 21 2 (by omega)]; exact R3.2.2.1
        · rw [a3, hc_or, hc_lb n (by omega) j hj, R3.2.2.2.1 j hj]
          congr 1
          exact decide_eq_decide.mpr ⟨fun z => z.symm, fun z => z.symm⟩
        · rw [a26, List.length_append, List.length_append]
          exact congrArg nI (Nat.add_assoc _ _ _).symm
        · rw [a27, hc_and, hc_not _ hj, R3.2.2.1 j hj, rm j hj]
  · rw [if_pos (Classical.not_not.mp y)] at hq0
    exact hq0 rfl w xF_rf h
end X67
