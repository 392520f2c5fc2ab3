/-! The law's loop. -/
theorem lg_self (x : Int64) : lg_cmp x x = 0 := by
  unfold lg_cmp
  simp
set_option maxRecDepth 100000 in
theorem b0_39s {scr : Nat × (Nat → Int32)} {w : xW} {Q : xO → xW → Prop} {x : Int32} {L : xL} (h : (x.toInt < 0 ∨ 16 < x.toInt → x_R x_prog scr 0 (((39 : Nat) : Int) + 687).toNat L [] w Q) ∧ (¬ (x.toInt < 0 ∨ 16 < x.toInt) → x_som (#[81, 150, 163, 207, 279, 323, 336, 349, 386, 430, 474, 518, 543, 568, 581, 606, 643] : Array Int)[(x.toInt - 0).toNat]? fun o => x_R x_prog scr 0 (((39 : Nat) : Int) + o).toNat L [] w Q)) : x_R x_prog scr 0 39 L [.int x] w Q := x_ex_R [] 1 h
theorem b0_39 {scr : Nat × (Nat → Int32)} {w : xW} {Q : xO → xW → Prop} {x : Int32} {L : xL} (hd : x_R x_prog scr 0 726 L [] w Q) (h0 : x_R x_prog scr 0 120 L [] w Q) (h1 : x_R x_prog scr 0 189 L [] w Q) (h2 : x_R x_prog scr 0 202 L [] w Q) (h3 : x_R x_prog scr 0 246 L [] w Q) (h4 : x_R x_prog scr 0 318 L [] w Q) (h5 : x_R x_prog scr 0 362 L [] w Q) (h6 : x_R x_prog scr 0 375 L [] w Q) (h7 : x_R x_prog scr 0 388 L [] w Q) (h8 : x_R x_prog scr 0 425 L [] w Q) (h9 : x_R x_prog scr 0 469 L [] w Q) (h10 : x_R x_prog scr 0 513 L [] w Q) (h11 : x_R x_prog scr 0 557 L [] w Q) (h12 : x_R x_prog scr 0 582 L [] w Q) (h13 : x_R x_prog scr 0 607 L [] w Q) (h14 : x_R x_prog scr 0 620 L [] w Q) (h15 : x_R x_prog scr 0 645 L [] w Q) (h16 : x_R x_prog scr 0 682 L [] w Q) : x_R x_prog scr 0 39 L [.int x] w Q := by
  refine b0_39s ⟨fun _ => hd, fun z => ?_⟩
  obtain ⟨n, hn⟩ : ∃ n : Nat, (x.toInt - 0).toNat = n := ⟨_, rfl⟩
  have hn17 : n < 17 := by omega
  rw [hn]
  have hc : n = 0 ∨ n = 1 ∨ n = 2 ∨ n = 3 ∨ n = 4 ∨ n = 5 ∨ n = 6 ∨ n = 7 ∨ n = 8 ∨ n = 9 ∨ n = 10 ∨ n = 11 ∨ n = 12 ∨ n = 13 ∨ n = 14 ∨ n = 15 ∨ n = 16 := by omega
  rcases hc with rfl | rfl | rfl | rfl | rfl | rfl | rfl | rfl | rfl | rfl | rfl | rfl | rfl | rfl | rfl | rfl | rfl
  · exact h0
  · exact h1
  · exact h2
  · exact h3
  · exact h4
  · exact h5
  · exact h6
  · exact h7
  · exact h8
  · exact h9
  · exact h10
  · exact h11
  · exact h12
  · exact h13
  · exact h14
  · exact h15
  · exact h16
section X86
variable {scr : Nat × (Nat → Int32)} {w : xW} {Q : xO → xW → Prop} {w1 w2 : xW} {i n : Nat} {o5 o6 : Option Value}
theorem k03 (h : SH w) : x_k w 0 = 3 := by rw [sh_k h]; rfl
/-- what comes behind an operation -/
def NX (scr : Nat × (Nat → Int32)) (Q : xO → xW → Prop) (w : xW) (i : Nat) : Prop := ∀ w2, IV w2 → GW w w2 → ∀ o5 o6, x_R x_prog scr 0 726 [some (.ref x_sc), some (.ref 0), some (.ref 36), some (.ref 71), some (.int (nI i)), o5, o6] [] w2 Q
theorem la0 (v1 : vp_in (nI i + 1) scr.1) (v2 : vp_in (nI i + 2) scr.1) (v3 : vp_in (nI i + 3) scr.1) (hI : IV w) (nx : NX scr Q w i) : x_R x_prog scr 0 120 [some (.ref x_sc), some (.ref 0), some (.ref 36), some (.ref 71), some (.int (nI i)), o5, o6] [] w Q := by
  refine b0_120 ⟨⟨rfl, v1⟩, ⟨rfl, v2⟩, ⟨rfl, v3⟩, k03 hI.1, x_R_mono (op0 hI none) ?_⟩
  rintro o w1 ⟨c, rfl, hk, h2⟩
  refine b0_152 ⟨⟨rfl, v1⟩, ⟨rfl, v2⟩, ⟨rfl, v3⟩, hk, x_R_mono (h2 none none) ?_⟩
  rintro o w2 ⟨rfl, i2, g2⟩
  exact b0_184 ⟨fun _ => nx w2 i2 g2 _ _, fun z => absurd rfl z⟩
theorem la1 (hI : IV w) (nx : NX scr Q w i) : x_R x_prog scr 0 189 [some (.ref x_sc), some (.ref 0), some (.ref 36), some (.ref 71), some (.int (nI i)), o5, o6] [] w Q := by
  refine b0_189 ⟨k03 hI.1, x_R_mono (op1 hI) ?_⟩
  rintro o w1 ⟨c, rfl, hk, h2⟩
  refine b0_193 ⟨hk, x_R_mono (h2 none) ?_⟩
  rintro o w2 ⟨rfl, i2, g2⟩
  exact b0_197 ⟨fun _ => nx w2 i2 g2 _ _, fun z => absurd rfl z⟩
theorem la5 (hI : IV w) (nx : NX scr Q w i) : x_R x_prog scr 0 362 [some (.ref x_sc), some (.ref 0), some (.ref 36), some (.ref 71), some (.int (nI i)), o5, o6] [] w Q := by
  refine b0_362 ⟨k03 hI.1, x_R_mono (op5 hI) ?_⟩
  rintro o w1 ⟨c, rfl, hk, h2⟩
  refine b0_366 ⟨hk, x_R_mono (h2) ?_⟩
  rintro o w2 ⟨rfl, i2, g2⟩
  exact b0_370 ⟨fun _ => nx w2 i2 g2 _ _, fun z => absurd rfl z⟩
theorem la6 (hI : IV w) (nx : NX scr Q w i) : x_R x_prog scr 0 375 [some (.ref x_sc), some (.ref 0), some (.ref 36), some (.ref 71), some (.int (nI i)), o5, o6] [] w Q := by
  refine b0_375 ⟨k03 hI.1, x_R_mono (op6 hI) ?_⟩
  rintro o w1 ⟨c, rfl, hk, h2⟩
  refine b0_379 ⟨hk, x_R_mono (h2) ?_⟩
  rintro o w2 ⟨rfl, i2, g2⟩
  exact b0_383 ⟨fun _ => nx w2 i2 g2 _ _, fun z => absurd rfl z⟩
theorem la7 (v1 : vp_in (nI i + 1) scr.1) (v2 : vp_in (nI i + 2) scr.1) (hI : IV w) (nx : NX scr Q w i) : x_R x_prog scr 0 388 [some (.ref x_sc), some (.ref 0), some (.ref 36), some (.ref 71), some (.int (nI i)), o5, o6] [] w Q := by
  refine b0_388 ⟨⟨rfl, v1⟩, ⟨rfl, v2⟩, k03 hI.1, x_R_mono (op7 hI) ?_⟩
  rintro o w1 ⟨c, rfl, hk, h2⟩
  refine b0_404 ⟨⟨rfl, v1⟩, ⟨rfl, v2⟩, hk, x_R_mono (h2) ?_⟩
  rintro o w2 ⟨rfl, i2, g2⟩
  exact b0_420 ⟨fun _ => nx w2 i2 g2 _ _, fun z => absurd rfl z⟩
theorem la11 (v1 : vp_in (nI i + 1) scr.1) (hI : IV w) (nx : NX scr Q w i) : x_R x_prog scr 0 557 [some (.ref x_sc), some (.ref 0), some (.ref 36), some (.ref 71), some (.int (nI i)), o5, o6] [] w Q := by
  refine b0_557 ⟨⟨rfl, v1⟩, k03 hI.1, x_R_mono (op11 hI) ?_⟩
  rintro o w1 ⟨c, rfl, hk, h2⟩
  refine b0_567 ⟨⟨rfl, v1⟩, hk, x_R_mono (h2) ?_⟩
  rintro o w2 ⟨rfl, i2, g2⟩
  exact b0_577 ⟨fun _ => nx w2 i2 g2 _ _, fun z => absurd rfl z⟩
theorem la12 (v1 : vp_in (nI i + 1) scr.1) (hI : IV w) (nx : NX scr Q w i) : x_R x_prog scr 0 582 [some (.ref x_sc), some (.ref 0), some (.ref 36), some (.ref 71), some (.int (nI i)), o5, o6] [] w Q := by
  refine b0_582 ⟨⟨rfl, v1⟩, k03 hI.1, x_R_mono (op12 hI none) ?_⟩
  rintro o w1 ⟨c, rfl, hk, h2⟩
  refine b0_592 ⟨⟨rfl, v1⟩, hk, x_R_mono (h2) ?_⟩
  rintro o w2 ⟨rfl, i2, g2⟩
  exact b0_602 ⟨fun _ => nx w2 i2 g2 _ _, fun z => absurd rfl z⟩
theorem la13 (hI : IV w) (nx : NX scr Q w i) : x_R x_prog scr 0 607 [some (.ref x_sc), some (.ref 0), some (.ref 36), some (.ref 71), some (.int (nI i)), o5, o6] [] w Q := by
  refine b0_607 ⟨k03 hI.1, x_R_mono (op13 hI) ?_⟩
  rintro o w1 ⟨c, rfl, hk, h2⟩
  refine b0_611 ⟨hk, x_R_mono (h2) ?_⟩
  rintro o w2 ⟨rfl, i2, g2⟩
  exact b0_615 ⟨fun _ => nx w2 i2 g2 _ _, fun z => absurd rfl z⟩
theorem la14 (v1 : vp_in (nI i + 1) scr.1) (hI : IV w) (nx : NX scr Q w i) : x_R x_prog scr 0 620 [some (.ref x_sc), some (.ref 0), some (.ref 36), some (.ref 71), some (.int (nI i)), o5, o6] [] w Q := by
  refine b0_620 ⟨⟨rfl, v1⟩, k03 hI.1, x_R_mono (op14 hI) ?_⟩
  rintro o w1 ⟨c, rfl, hk, h2⟩
  refine b0_630 ⟨⟨rfl, v1⟩, hk, x_R_mono (h2) ?_⟩
  rintro o w2 ⟨rfl, i2, g2⟩
  exact b0_640 ⟨fun _ => nx w2 i2 g2 _ _, fun z => absurd rfl z⟩
theorem la15 (v1 : vp_in (nI i + 1) scr.1) (v2 : vp_in (nI i + 2) scr.1) (hI : IV w) (nx : NX scr Q w i) : x_R x_prog scr 0 645 [some (.ref x_sc), some (.ref 0), some (.ref 36), some (.ref 71), some (.int (nI i)), o5, o6] [] w Q := by
  refine b0_645 ⟨⟨rfl, v1⟩, ⟨rfl, v2⟩, k03 hI.1, x_R_mono (op15 hI none) ?_⟩
  rintro o w1 ⟨c, rfl, hk, h2⟩
  refine b0_661 ⟨⟨rfl, v1⟩, ⟨rfl, v2⟩, hk, x_R_mono (h2) ?_⟩
  rintro o w2 ⟨rfl, i2, g2⟩
  exact b0_677 ⟨fun _ => nx w2 i2 g2 _ _, fun z => absurd rfl z⟩
theorem la2 (hI : IV w) (nx : NX scr Q w i) : x_R x_prog scr 0 202 [some (.ref x_sc), some (.ref 0), some (.ref 36), some (.ref 71), some (.int (nI i)), o5, o6] [] w Q := by
  refine b0_202 (x_R_mono (op2 hI) ?_)
  rintro o w1 ⟨c, rfl, hk, h2⟩
  refine b0_207 ⟨hk, x_R_mono (h2 none) ?_⟩
  rintro o w2 ⟨v, rfl, i2, g2, h0, hv⟩
  refine b0_213 ⟨k36 i2.1, c56 i2.1 (b0_219 ⟨fun _ => ⟨fun _ => nx w2 i2 g2 _ _, fun z => ⟨at71 i2.1, fun _ => nx w2 i2 g2 _ _, fun y => absurd ?_ y⟩⟩, fun z => absurd h0 z⟩)⟩
  rw [show x_j w2 71 (0 : Int32).toNatClampNeg = v.toInt64 from hv (Classical.not_not.mp z)]
  exact lg_self _
theorem la4 (hI : IV w) (nx : NX scr Q w i) : x_R x_prog scr 0 318 [some (.ref x_sc), some (.ref 0), some (.ref 36), some (.ref 71), some (.int (nI i)), o5, o6] [] w Q := by
  refine b0_318 (x_R_mono (op4 hI) ?_)
  rintro o w1 ⟨c, rfl, hk, h2⟩
  refine b0_323 ⟨hk, x_R_mono (h2 none none) ?_⟩
  rintro o w2 ⟨v, rfl, i2, g2, h0, hv⟩
  refine b0_329 ⟨k36 i2.1, c56 i2.1 (b0_335 ⟨fun _ => ⟨fun _ => nx w2 i2 g2 _ _, fun z => ⟨at71 i2.1, fun _ => nx w2 i2 g2 _ _, fun y => absurd ?_ y⟩⟩, fun z => absurd h0 z⟩)⟩
  rw [show x_j w2 71 (0 : Int32).toNatClampNeg = v.toInt64 from hv (Classical.not_not.mp z)]
  exact lg_self _
theorem la8 (hI : IV w) (nx : NX scr Q w i) : x_R x_prog scr 0 425 [some (.ref x_sc), some (.ref 0), some (.ref 36), some (.ref 71), some (.int (nI i)), o5, o6] [] w Q := by
  refine b0_425 (x_R_mono (op8 hI) ?_)
  rintro o w1 ⟨c, rfl, hk, h2⟩
  refine b0_430 ⟨hk, x_R_mono (h2) ?_⟩
  rintro o w2 ⟨v, rfl, i2, g2, h0, hv⟩
  refine b0_436 ⟨k36 i2.1, c56 i2.1 (b0_442 ⟨fun _ => ⟨fun _ => nx w2 i2 g2 _ _, fun z => ⟨at71 i2.1, fun _ => nx w2 i2 g2 _ _, fun y => absurd ?_ y⟩⟩, fun z => absurd h0 z⟩)⟩
  rw [show x_j w2 71 (0 : Int32).toNatClampNeg = v.toInt64 from hv (Classical.not_not.mp z)]
  exact lg_self _
theorem la9 (hI : IV w) (nx : NX scr Q w i) : x_R x_prog scr 0 469 [some (.ref x_sc), some (.ref 0), some (.ref 36), some (.ref 71), some (.int (nI i)), o5, o6] [] w Q := by
  refine b0_469 (x_R_mono (op9 hI) ?_)
  rintro o w1 ⟨c, rfl, hk, h2⟩
  refine b0_474 ⟨hk, x_R_mono (h2 none none none) ?_⟩
  rintro o w2 ⟨v, rfl, i2, g2, h0, hv⟩
  refine b0_480 ⟨k36 i2.1, c56 i2.1 (b0_486 ⟨fun _ => ⟨fun _ => nx w2 i2 g2 _ _, fun z => ⟨at71 i2.1, fun _ => nx w2 i2 g2 _ _, fun y => absurd ?_ y⟩⟩, fun z => absurd h0 z⟩)⟩
  rw [show x_j w2 71 (0 : Int32).toNatClampNeg = v.toInt64 from hv (Classical.not_not.mp z)]
  exact lg_self _
theorem la10 (hI : IV w) (nx : NX scr Q w i) : x_R x_prog scr 0 513 [some (.ref x_sc), some (.ref 0), some (.ref 36), some (.ref 71), some (.int (nI i)), o5, o6] [] w Q := by
  refine b0_513 (x_R_mono (op10 hI) ?_)
  rintro o w1 ⟨c, rfl, hk, h2⟩
  refine b0_518 ⟨hk, x_R_mono (h2 none none none none none none) ?_⟩
  rintro o w2 ⟨v, rfl, i2, g2, h0, hv⟩
  refine b0_524 ⟨k36 i2.1, c56 i2.1 (b0_530 ⟨fun _ => ⟨fun _ => nx w2 i2 g2 _ _, fun z => ⟨at71 i2.1, fun _ => nx w2 i2 g2 _ _, fun y => absurd ?_ y⟩⟩, fun z => absurd h0 z⟩)⟩
  rw [show x_j w2 71 (0 : Int32).toNatClampNeg = v.toInt64 from hv (Classical.not_not.mp z)]
  exact lg_self _
theorem la16 (hI : IV w) (nx : NX scr Q w i) : x_R x_prog scr 0 682 [some (.ref x_sc), some (.ref 0), some (.ref 36), some (.ref 71), some (.int (nI i)), o5, o6] [] w Q := by
  refine b0_682 (x_R_mono (op16 hI) ?_)
  rintro o w1 ⟨c, rfl, hk, h2⟩
  refine b0_687 ⟨hk, x_R_mono (h2 none none none none none) ?_⟩
  rintro o w2 ⟨v, rfl, i2, g2, h0, hv⟩
  refine b0_693 ⟨k36 i2.1, c56 i2.1 (b0_699 ⟨fun _ => ⟨fun _ => nx w2 i2 g2 _ _, fun z => ⟨at71 i2.1, fun _ => nx w2 i2 g2 _ _, fun y => absurd ?_ y⟩⟩, fun z => absurd h0 z⟩)⟩
  rw [show x_j w2 71 (0 : Int32).toNatClampNeg = v.toInt64 from hv (Classical.not_not.mp z)]
  exact lg_self _
theorem la3 (v1 : vp_in (nI i + 1) scr.1) (hI : IV w) (nx : NX scr Q w i) : x_R x_prog scr 0 246 [some (.ref x_sc), some (.ref 0), some (.ref 36), some (.ref 71), some (.int (nI i)), o5, o6] [] w Q := by
  refine b0_246 ⟨⟨rfl, v1⟩, fun s => x_R_mono (op3 (pk := false) hI) ?_, fun s => x_R_mono (op3 (pk := true) hI) ?_⟩
  · rintro o w1 ⟨c, rfl, hk, h2⟩
    refine b0_265 ⟨⟨rfl, v1⟩, fun _ => ⟨hk, x_R_mono (h2 none) ?_⟩, fun z => absurd s z⟩
    rintro o w2 ⟨v, rfl, i2, g2, h0, hv⟩
    refine b0_285 ⟨k36 i2.1, c56 i2.1 (b0_291 ⟨fun _ => ⟨fun _ => nx w2 i2 g2 _ _, fun z => ⟨at71 i2.1, fun _ => nx w2 i2 g2 _ _, fun y => absurd ?_ y⟩⟩, fun z => absurd h0 z⟩)⟩
    rw [show x_j w2 71 (0 : Int32).toNatClampNeg = v.toInt64 from hv (Classical.not_not.mp z)]
    exact lg_self _
  · rintro o w1 ⟨c, rfl, hk, h2⟩
    refine b0_265 ⟨⟨rfl, v1⟩, fun z => absurd z s, fun _ => ⟨hk, x_R_mono (h2 none) ?_⟩⟩
    rintro o w2 ⟨v, rfl, i2, g2, h0, hv⟩
    refine b0_285 ⟨k36 i2.1, c56 i2.1 (b0_291 ⟨fun _ => ⟨fun _ => nx w2 i2 g2 _ _, fun z => ⟨at71 i2.1, fun _ => nx w2 i2 g2 _ _, fun y => absurd ?_ y⟩⟩, fun z => absurd h0 z⟩)⟩
    rw [show x_j w2 71 (0 : Int32).toNatClampNeg = v.toInt64 from hv (Classical.not_not.mp z)]
    exact lg_self _
theorem law_g (hn : n ≤ 2048) (hi : i ≤ 8192) : (nI n - 4 < nI i) ↔ n < i + 4 := by
  by_cases h4 : 4 ≤ n
  · rw [show (4 : Int32) = nI 4 from rfl, nI_sub h4, nI_ltI (by omega) (by omega)]
    omega
  · have hc : n = 0 ∨ n = 1 ∨ n = 2 ∨ n = 3 := by omega
    rw [Int32.lt_iff_toInt_lt, nI_toInt (by omega)]
    rcases hc with rfl | rfl | rfl | rfl
    · have e : (nI 0 - 4).toInt = -4 := by decide
      omega
    · have e : (nI 1 - 4).toInt = -3 := by decide
      omega
    · have e : (nI 2 - 4).toInt = -2 := by decide
      omega
    · have e : (nI 3 - 4).toInt = -1 := by decide
      omega
theorem law_l {C S : Nat} (hL : scr.1 ≤ 2048) (hq : ∀ w', x_C w' ≤ C → x_S w' ≤ S → Q (.inl (some (.int 1))) w') : ∀ (d i : Nat) (w : xW) (o5 o6 : Option Value), scr.1 ≤ i + 4 * d → i ≤ 4096 → IV w → x_C w + d ≤ C → x_S w + 6 * d ≤ S → x_R x_prog scr 0 23 [some (.ref x_sc), some (.ref 0), some (.ref 36), some (.ref 71), some (.int (nI i)), o5, o6] [] w Q := by
  intro d
  induction d with
  | zero =>
    intro i w o5 o6 h1 h2 hI hC hS
    have g : (Int32.ofNat scr.1 - 4 < nI i) ↔ scr.1 < i + 4 := law_g hL (by omega)
    refine b0_23 ?_
    rw [g]
    exact ⟨rfl, fun _ => ⟨Or.inr rfl, hq w (by omega) (by omega)⟩, fun z => absurd (by omega) z⟩
  | succ d ih =>
    intro i w o5 o6 h1 h2 hI hC hS
    have g : (Int32.ofNat scr.1 - 4 < nI i) ↔ scr.1 < i + 4 := law_g hL (by omega)
    refine b0_23 ?_
    rw [g]
    refine ⟨rfl, fun _ => ⟨Or.inr rfl, hq w (by omega) (by omega)⟩, fun z => ⟨⟨rfl, vp_in_nI (by omega) (by omega)⟩, ?_⟩⟩
    have nx : NX scr Q w i := by
      intro w2 i2 g2 o5 o6
      have e4 : nI i + 4 = nI (i + 4) := by rw [show (4 : Int32) = nI 4 from rfl, nI_add]
      have g21 := g2.1
      have g22 := g2.2
      refine b0_726 ?_
      rw [e4]
      exact ih (i + 4) w2 _ _ (by omega) (by omega) i2 (by omega) (by omega)
    have v1 : vp_in (nI i + 1) scr.1 := by rw [nI_1]; exact vp_in_nI (by omega) (by omega)
    have v2 : vp_in (nI i + 2) scr.1 := by rw [show (2 : Int32) = nI 2 from rfl, nI_add]; exact vp_in_nI (by omega) (by omega)
    have v3 : vp_in (nI i + 3) scr.1 := by rw [show (3 : Int32) = nI 3 from rfl, nI_add]; exact vp_in_nI (by omega) (by omega)
    exact b0_39 (nx w hI GW_rf _ _) (la0 v1 v2 v3 hI nx) (la1 hI nx) (la2 hI nx) (la3 v1 hI nx) (la4 hI nx) (la5 hI nx) (la6 hI nx) (la7 v1 v2 hI nx) (la8 hI nx) (la9 hI nx) (la10 hI nx) (la11 v1 hI nx) (la12 v1 hI nx) (la13 hI nx) (la14 v1 hI nx) (la15 v1 v2 hI nx) (la16 hI nx)
end X86
