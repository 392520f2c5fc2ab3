/-! Each operation, on both sides. -/
/-- the state of a run of calls -/
def IV (w : xW) : Prop := SH w ∧ ∃ (t : Nat → Nat) (sz fa : Nat) (hf hs : Bool) (V g : Nat) (cs : List (List Int)) (st : xSt) (mk sp : Nat → Bool) (tk : List Int), TT w t sz ∧ AK fa hf hs V g cs st mk sp tk ∧ CC w fa hf hs V g cs st mk sp tk ∧ CR w fa hf hs V g cs st mk sp tk
/-- at most one exception was made -/
def GW (w w' : xW) : Prop := x_C w' ≤ x_C w + 1 ∧ x_S w' ≤ x_S w + 6
def OK2 (w : xW) (c : Int32) : xO → xW → Prop := fun o w2 => ∃ v, o = .inl (some (.int v)) ∧ IV w2 ∧ GW w w2 ∧ x_i w2 36 0 = c ∧ (c = 0 → x_j w2 71 0 = v.toInt64)
def OK1 (w : xW) (c : Int32) : xO → xW → Prop := fun o w2 => o = .inl (some (.int c)) ∧ IV w2 ∧ GW w w2
set_option maxRecDepth 100000 in
theorem b18_12 {scr : Nat × (Nat → Int32)} {w : xW} {Q : xO → xW → Prop} {o0 o1 o2 : Option Value} (h : Q (.inl (some (.int 1))) w) : x_R x_prog scr 18 12 [o0, o1, o2] [] w Q := x_R_more (x_le_n (x_le_n (x_le_n x_le_nil))) (x_ex_R [0, 6] 2 h)
set_option maxRecDepth 100000 in
theorem b74_12 {scr : Nat × (Nat → Int32)} {w : xW} {Q : xO → xW → Prop} {o0 o1 o2 : Option Value} (h : Q (.inl (some (.int 1))) w) : x_R x_prog scr 74 12 [o0, o1, o2] [] w Q := x_R_more (x_le_n (x_le_n (x_le_n x_le_nil))) (x_ex_R [0, 6] 2 h)
set_option maxRecDepth 100000 in
theorem b92_12 {scr : Nat × (Nat → Int32)} {w : xW} {Q : xO → xW → Prop} {o0 o1 o2 : Option Value} (h : Q (.inl (some (.int 1))) w) : x_R x_prog scr 92 12 [o0, o1, o2] [] w Q := x_R_more (x_le_n (x_le_n (x_le_n x_le_nil))) (x_ex_R [0, 6] 2 h)
set_option maxRecDepth 100000 in
theorem b108_12 {scr : Nat × (Nat → Int32)} {w : xW} {Q : xO → xW → Prop} {o0 o1 o2 : Option Value} (h : Q (.inl (some (.int 1))) w) : x_R x_prog scr 108 12 [o0, o1, o2] [] w Q := x_R_more (x_le_n (x_le_n (x_le_n x_le_nil))) (x_ex_R [0, 6] 2 h)
set_option maxRecDepth 100000 in
theorem b123_12 {scr : Nat × (Nat → Int32)} {w : xW} {Q : xO → xW → Prop} {o0 o1 o2 : Option Value} (h : Q (.inl (some (.int 1))) w) : x_R x_prog scr 123 12 [o0, o1, o2] [] w Q := x_R_more (x_le_n (x_le_n (x_le_n x_le_nil))) (x_ex_R [0, 6] 2 h)
set_option maxRecDepth 100000 in
theorem b161_12 {scr : Nat × (Nat → Int32)} {w : xW} {Q : xO → xW → Prop} {o0 o1 o2 : Option Value} (h : Q (.inl (some (.int 1))) w) : x_R x_prog scr 161 12 [o0, o1, o2] [] w Q := x_R_more (x_le_n (x_le_n (x_le_n x_le_nil))) (x_ex_R [0, 6] 2 h)
set_option maxRecDepth 100000 in
theorem b57_13 {scr : Nat × (Nat → Int32)} {w : xW} {Q : xO → xW → Prop} {o0 o1 o2 o3 : Option Value} (h : Q (.inl (some (.int 1))) w) : x_R x_prog scr 57 13 [o0, o1, o2, o3] [] w Q := x_R_more (x_le_n (x_le_n (x_le_n (x_le_n x_le_nil)))) (x_ex_R [0, 7] 2 h)
set_option maxRecDepth 100000 in
theorem b57_16 {scr : Nat × (Nat → Int32)} {w : xW} {Q : xO → xW → Prop} {o0 o1 o2 o3 : Option Value} (h : Q (.inl (some (.int 2))) w) : x_R x_prog scr 57 16 [o0, o1, o2, o3] [] w Q := x_R_more (x_le_n (x_le_n (x_le_n (x_le_n x_le_nil)))) (x_ex_R [0, 7] 2 h)
section X82
variable {scr : Nat × (Nat → Int32)} {w : xW} {Q : xO → xW → Prop} {w1 w2 : xW} {t : Nat → Nat} {sz fa P D T S V g n dc : Nat} {hf hs pk : Bool} {cs : List (List Int)} {st : xSt} {mk sp : Nat → Bool} {tk : List Int} {a b v c : Int32} {o1 o2 o3 o4 o5 o6 : Option Value}
theorem CC_71 {x : Int64} (h : CC w fa hf hs V g cs st mk sp tk) : CC (x_sj w 71 0 x) fa hf hs V g cs st mk sp tk := by
  obtain ⟨P, D, T, S, hP, hT, hr, h9, hS, hK⟩ := h
  refine ⟨P, D, T, S, hP, hT, hr, h9, PS_e (w := w) (w1 := x_sj w 71 0 x) (fun _ _ _ => rfl) ?_ ?_ hS, TK_e (w := w) (w1 := x_sj w 71 0 x) rfl rfl hK⟩
  · funext k
    rw [y_j_sj, if_neg (by omega)]
  · funext k
    rw [y_j_sj, if_neg (by omega)]
theorem fin_ok {x : Int64} (l1 : xLo 0 w w1) (s1 : SH w1) (c1 : CC w1 fa hf hs V g cs st mk sp tk) (u1 : xHi (x_sj w1 71 0 x) w2) (u2 : TT w2 t sz) (hA : AK fa hf hs V g cs st mk sp tk) (u5 : CR w2 fa hf hs V g cs st mk sp tk) (u3 : x_i w2 36 0 = 0) (hx : x = v.toInt64) : OK2 w 0 (.inl (some (.int v))) w2 := by
  refine ⟨v, rfl, ⟨sh_Hi u1 s1, t, sz, fa, hf, hs, V, g, cs, st, mk, sp, tk, u2, hA, CC_Hi u1 (CC_71 c1), u5⟩, ⟨?_, ?_⟩, u3, fun _ => ?_⟩
  · rw [u1.1.2.1]; show x_C w1 ≤ _; rw [l1.1.2.1]; omega
  · rw [u1.1.2.2.1]; show x_S w1 ≤ _; rw [l1.1.2.2.1]; omega
  · rw [u1.2.2.1, y_j_sj, if_pos ⟨rfl, rfl⟩]; exact hx
theorem fin_no (l1 : xLo 1 w w1) (s1 : SH w1) (c1 : CC w1 fa hf hs V g cs st mk sp tk) (u1 : xHi w1 w2) (u2 : TT w2 t sz) (hA : AK fa hf hs V g cs st mk sp tk) (u5 : CR w2 fa hf hs V g cs st mk sp tk) (u3 : x_i w2 36 0 = c) (hc : ¬ c = 0) : OK2 w c (.inl (some (.int v))) w2 := by
  refine ⟨v, rfl, ⟨sh_Hi u1 s1, t, sz, fa, hf, hs, V, g, cs, st, mk, sp, tk, u2, hA, CC_Hi u1 c1, u5⟩, ⟨?_, ?_⟩, u3, fun z => absurd z hc⟩
  · rw [u1.1.2.1, l1.1.2.1]; omega
  · rw [u1.1.2.2.1, l1.1.2.2.1]; omega
theorem AK_f {fa' : Nat} (h : fa' ≤ 901) (hA : AK fa hf hs V g cs st mk sp tk) : AK fa' hf hs V g cs st mk sp tk := ⟨h, hA.2⟩
theorem TT_71 {x : Int64} (h : TT w t sz) : TT (x_sj w 71 0 x) t sz := h
theorem CR_71 {x : Int64} (h : CR w fa hf hs V g cs st mk sp tk) : CR (x_sj w 71 0 x) fa hf hs V g cs st mk sp tk := h
theorem SH_71 {x : Int64} (h : SH w) : SH (x_sj w 71 0 x) := h
theorem at71 (h : SH w) : x_k w 71 = 2 ∧ vp_in (0 : Int32) (x_l w 71) := by
  rw [sh_k h, sh_l h]
  exact ⟨rfl, vp_in_nI (n := 0) (N := 1) (by omega) (by omega)⟩
theorem k36 (h : SH w) : x_k w 36 = 12 := by rw [sh_k h]; rfl
/-- formula -/
theorem op2 (hI : IV w) : x_R x_prog scr 18 0 [some (.ref 0), some (.ref 71), o2] [] w (fun o w1 => ∃ c, o = .inl (some (.int c)) ∧ x_k w1 36 = 12 ∧ ∀ o1, x_R x_prog scr 41 0 [some (.ref 36), o1] [] w1 (OK2 w c)) := by
  obtain ⟨h, t, sz, fa, hf, hs, V, g, cs, st, mk, sp, tk, ht, hA, hC, hR⟩ := hI
  refine b18_0 ⟨by rw [sh_k h]; rfl, c19 h ht hC (fun z w1 l1 s1 t1 c1 => b18_6 ⟨at71 s1, 0, rfl, k36 s1, fun o1 => ?_⟩) (fun z w1 l1 s1 t1 c1 => b18_12 ⟨1, rfl, k36 s1, fun o1 => ?_⟩)⟩
  · exact c41 (SH_71 s1) (TT_71 t1) (CR_71 (CR_Lo l1 hR)) (fun _ w2 u1 u2 u3 u4 u5 => fin_ok l1 s1 c1 u1 u2 u4 u5 u3 rfl) (fun y => absurd z y)
  · exact c41 s1 t1 (CR_Lo l1 hR) (fun y => absurd y z) (fun _ w2 u1 u2 u3 u5 => fin_no l1 s1 c1 u1 u2 (AK_f (fms_le ht) hA) u5 u3 (by decide))
/-- stream -/
theorem op3 (hI : IV w) : x_R x_prog scr 57 0 [some (.ref 0), some (.int (b32 pk)), some (.ref 71), o3] [] w (fun o w1 => ∃ c, o = .inl (some (.int c)) ∧ x_k w1 36 = 12 ∧ ∀ o2, x_R x_prog scr 69 0 [some (.ref 36), some (.int (b32 pk)), o2] [] w1 (OK2 w c)) := by
  obtain ⟨h, t, sz, fa, hf, hs, V, g, cs, st, mk, sp, tk, ht, hA, hC, hR⟩ := hI
  have h900 := ht.1
  have hle := rds_le (pk := pk) (t := t) (sz := sz) (V := V) (g := g) 81 0 [] (Nat.zero_le _)
  refine b57_0 ⟨by rw [sh_k h]; rfl, c58 h ht hA hC (fun z w1 l1 s1 t1 c1 => b57_13 ⟨1, rfl, k36 s1, fun o1 => ?_⟩) (fun z y w1 l1 s1 t1 a1 c1 => b57_7 ⟨at71 s1, 0, rfl, k36 s1, fun o1 => ?_⟩) (fun z y w1 l1 s1 t1 c1 => b57_16 ⟨2, rfl, k36 s1, fun o1 => ?_⟩)⟩
  · exact c69 s1 t1 hA (CR_Lo l1 hR) (fun _ w2 u1 u2 u3 u5 => fin_no l1 s1 c1 u1 u2 hA u5 u3 (by decide)) (fun y => absurd (y.symm.trans z) (by decide)) (fun y => absurd (y.symm.trans z) (by decide))
  · exact c69 (SH_71 s1) (TT_71 t1) hA (CR_71 (CR_Lo l1 hR)) (fun x => absurd (x.symm.trans z) (by decide)) (fun _ _ w2 u1 u2 u3 u5 => fin_ok l1 s1 c1 u1 u2 a1 u5 u3 rfl) (fun _ x => absurd y x)
  · exact c69 s1 t1 hA (CR_Lo l1 hR) (fun x => absurd (x.symm.trans z) (by decide)) (fun _ x => absurd x y) (fun _ _ w2 u1 u2 u3 u5 => fin_no l1 s1 c1 u1 u2 (AK_f (by omega) hA) u5 u3 (by decide))
/-- record -/
theorem op4 (hI : IV w) : x_R x_prog scr 74 0 [some (.ref 0), some (.ref 71), o2] [] w (fun o w1 => ∃ c, o = .inl (some (.int c)) ∧ x_k w1 36 = 12 ∧ ∀ o1 o2, x_R x_prog scr 81 0 [some (.ref 36), o1, o2] [] w1 (OK2 w c)) := by
  obtain ⟨h, t, sz, fa, hf, hs, V, g, cs, st, mk, sp, tk, ht, hA, hC, hR⟩ := hI
  have h900 := ht.1
  have hle := lr_le (t := t) (sz := sz) 900 0 0 [] 0 (Nat.zero_le _)
  refine b74_0 ⟨by rw [sh_k h]; rfl, c75 h ht hA hC (fun z w1 l1 s1 t1 a1 c1 => b74_6 ⟨at71 s1, 0, rfl, k36 s1, fun o1 o2 => ?_⟩) (fun z w1 l1 s1 t1 c1 => b74_12 ⟨1, rfl, k36 s1, fun o1 o2 => ?_⟩)⟩
  · exact c81 (SH_71 s1) (TT_71 t1) (CR_71 (CR_Lo l1 hR)) (fun _ w2 u1 u2 u3 u5 => fin_ok l1 s1 c1 u1 u2 a1 u5 u3 rfl) (fun y => absurd z y)
  · exact c81 s1 t1 (CR_Lo l1 hR) (fun y => absurd y z) (fun _ w2 u1 u2 u3 u5 => fin_no l1 s1 c1 u1 u2 (AK_f (by omega) hA) u5 u3 (by decide))
/-- end -/
theorem op8 (hI : IV w) : x_R x_prog scr 92 0 [some (.ref 0), some (.ref 71), o2] [] w (fun o w1 => ∃ c, o = .inl (some (.int c)) ∧ x_k w1 36 = 12 ∧ x_R x_prog scr 99 0 [some (.ref 36)] [] w1 (OK2 w c)) := by
  obtain ⟨h, t, sz, fa, hf, hs, V, g, cs, st, mk, sp, tk, ht, hA, hC, hR⟩ := hI
  refine b92_0 ⟨by rw [sh_k h]; rfl, c93 h ht hA hC (fun z w1 l1 s1 t1 c1 => b92_6 ⟨at71 s1, 0, rfl, k36 s1, ?_⟩) (fun z w1 l1 s1 t1 c1 => b92_12 ⟨1, rfl, k36 s1, ?_⟩)⟩
  · exact c99 (SH_71 s1) (TT_71 t1) hA (CR_71 (CR_Lo l1 hR)) (fun _ w2 u1 u2 u3 u5 => fin_ok l1 s1 c1 u1 u2 hA u5 u3 rfl) (fun y => absurd (y.symm.trans z) (by decide))
  · exact c99 s1 t1 hA (CR_Lo l1 hR) (fun y => absurd (y.symm.trans z) (by decide)) (fun _ w2 u1 u2 u3 u5 => fin_no l1 s1 c1 u1 u2 hA u5 u3 (by decide))
/-- forward -/
theorem op9 (hI : IV w) : x_R x_prog scr 108 0 [some (.ref 0), some (.ref 71), o2] [] w (fun o w1 => ∃ c, o = .inl (some (.int c)) ∧ x_k w1 36 = 12 ∧ ∀ o1 o2 o3, x_R x_prog scr 114 0 [some (.ref 36), o1, o2, o3] [] w1 (OK2 w c)) := by
  obtain ⟨h, t, sz, fa, hf, hs, V, g, cs, st, mk, sp, tk, ht, hA, hC, hR⟩ := hI
  refine b108_0 ⟨by rw [sh_k h]; rfl, c109 h ht hA hC (fun z w1 l1 s1 t1 c1 => b108_6 ⟨at71 s1, 0, rfl, k36 s1, fun o1 o2 o3 => ?_⟩) (fun z w1 l1 s1 t1 c1 => b108_12 ⟨1, rfl, k36 s1, fun o1 o2 o3 => ?_⟩)⟩
  · exact c114 (SH_71 s1) (TT_71 t1) hA (CR_71 (CR_Lo l1 hR)) (fun _ w2 u1 u2 u3 u5 => fin_ok l1 s1 c1 u1 u2 hA u5 u3 rfl) (fun y => absurd (y.symm.trans z) (by decide))
  · exact c114 s1 t1 hA (CR_Lo l1 hR) (fun y => absurd (y.symm.trans z) (by decide)) (fun _ w2 u1 u2 u3 u5 => fin_no l1 s1 c1 u1 u2 hA u5 u3 (by decide))
/-- refute -/
theorem op10 (hI : IV w) : x_R x_prog scr 123 0 [some (.ref 0), some (.ref 71), o2] [] w (fun o w1 => ∃ c, o = .inl (some (.int c)) ∧ x_k w1 36 = 12 ∧ ∀ o1 o2 o3 o4 o5 o6, x_R x_prog scr 139 0 [some (.ref 36), o1, o2, o3, o4, o5, o6] [] w1 (OK2 w c)) := by
  obtain ⟨h, t, sz, fa, hf, hs, V, g, cs, st, mk, sp, tk, ht, hA, hC, hR⟩ := hI
  refine b123_0 ⟨by rw [sh_k h]; rfl, c124 h ht hA hC (fun z w1 l1 s1 t1 c1 => b123_6 ⟨at71 s1, 0, rfl, k36 s1, fun o1 o2 o3 o4 o5 o6 => ?_⟩) (fun z w1 l1 s1 t1 c1 => b123_12 ⟨1, rfl, k36 s1, fun o1 o2 o3 o4 o5 o6 => ?_⟩)⟩
  · exact c139 (SH_71 s1) (TT_71 t1) hA (CR_71 (CR_Lo l1 hR)) (fun _ w2 u1 u2 u3 u5 => fin_ok l1 s1 c1 u1 u2 (AK_rf hA) u5 u3 rfl) (fun y => absurd (y.symm.trans z) (by decide))
  · exact c139 s1 t1 hA (CR_Lo l1 hR) (fun y => absurd (y.symm.trans z) (by decide)) (fun _ w2 u1 u2 u3 u5 => fin_no l1 s1 c1 u1 u2 hA u5 u3 (by decide))
/-- judge -/
theorem op16 (hI : IV w) : x_R x_prog scr 161 0 [some (.ref 0), some (.ref 71), o2] [] w (fun o w1 => ∃ c, o = .inl (some (.int c)) ∧ x_k w1 36 = 12 ∧ ∀ o1 o2 o3 o4 o5, x_R x_prog scr 176 0 [some (.ref 36), o1, o2, o3, o4, o5] [] w1 (OK2 w c)) := by
  obtain ⟨h, t, sz, fa, hf, hs, V, g, cs, st, mk, sp, tk, ht, hA, hC, hR⟩ := hI
  refine b161_0 ⟨by rw [sh_k h]; rfl, c162 h ht hA hC (fun z w1 l1 s1 t1 c1 => b161_6 ⟨at71 s1, 0, rfl, k36 s1, fun o1 o2 o3 o4 o5 => ?_⟩) (fun z w1 l1 s1 t1 c1 => b161_12 ⟨1, rfl, k36 s1, fun o1 o2 o3 o4 o5 => ?_⟩)⟩
  · exact c176 (SH_71 s1) (TT_71 t1) hA (CR_71 (CR_Lo l1 hR)) (fun _ w2 u1 u2 u3 u5 => fin_ok l1 s1 c1 u1 u2 hA u5 u3 rfl) (fun y => absurd (y.symm.trans z) (by decide))
  · exact c176 s1 t1 hA (CR_Lo l1 hR) (fun y => absurd (y.symm.trans z) (by decide)) (fun _ w2 u1 u2 u3 u5 => fin_no l1 s1 c1 u1 u2 hA u5 u3 (by decide))
theorem GW_rf : GW w w := ⟨by omega, by omega⟩
theorem IV_z (hI : IV w) : IV (x_z w) := by
  obtain ⟨h, t, sz, fa, hf, hs, V, g, cs, st, mk, sp, tk, ht, hA, hC, hR⟩ := hI
  have F : xI (fun p k => p = 36 ∧ k = 0) w (x_z w) := xI_si xI_rf ⟨rfl, rfl⟩
  obtain ⟨a1, a2, a3⟩ := CR_z F (by omega) ht hR
  exact ⟨sh_Hi a1 h, t, sz, fa, hf, hs, V, g, cs, st, mk, sp, tk, a2, hA, CC_Hi a1 hC, a3⟩
theorem OK1_z (hI : IV w) : OK1 w c (.inl (some (.int c))) (x_z w) := ⟨rfl, IV_z hI, ⟨by show x_C w ≤ _; omega, by show x_S w ≤ _; omega⟩⟩
/-- fault -/
theorem op5 (hI : IV w) : x_R x_prog scr 86 0 [some (.ref 0)] [] w (fun o w1 => ∃ c, o = .inl (some (.int c)) ∧ x_k w1 36 = 12 ∧ x_R x_prog scr 87 0 [some (.ref 36)] [] w1 (OK1 w c)) := by
  obtain ⟨h, t, sz, fa, hf, hs, V, g, cs, st, mk, sp, tk, ht, hA, hC, hR⟩ := id hI
  obtain ⟨P, D, T, S, hP, hT, ⟨r5, r6, r7, r8⟩, h9, hS, hK⟩ := hC
  refine c86 h ⟨_, rfl, k36 h, c87 h ?_⟩
  rw [h9, hR.1]
  exact OK1_z hI
/-- clauses -/
theorem op6 (hI : IV w) : x_R x_prog scr 88 0 [some (.ref 0)] [] w (fun o w1 => ∃ c, o = .inl (some (.int c)) ∧ x_k w1 36 = 12 ∧ x_R x_prog scr 89 0 [some (.ref 36)] [] w1 (OK1 w c)) := by
  obtain ⟨h, t, sz, fa, hf, hs, V, g, cs, st, mk, sp, tk, ht, hA, hC, hR⟩ := id hI
  obtain ⟨P, D, T, S, hP, hT, ⟨r5, r6, r7, r8⟩, h9, hS, hK⟩ := hC
  refine c88 h r5 (by omega) ⟨_, rfl, k36 h, c89 h ?_⟩
  rw [hS.1.2.2.2.2.1, hR.2.1.1.2.2.2.1]
  exact OK1_z hI
/-- tokens -/
theorem op13 (hI : IV w) : x_R x_prog scr 154 0 [some (.ref 0)] [] w (fun o w1 => ∃ c, o = .inl (some (.int c)) ∧ x_k w1 36 = 12 ∧ x_R x_prog scr 155 0 [some (.ref 36)] [] w1 (OK1 w c)) := by
  obtain ⟨h, t, sz, fa, hf, hs, V, g, cs, st, mk, sp, tk, ht, hA, hC, hR⟩ := id hI
  obtain ⟨P, D, T, S, hP, hT, ⟨r5, r6, r7, r8⟩, h9, hS, hK⟩ := hC
  refine c154 h r7 (by omega) ⟨_, rfl, k36 h, c155 h ?_⟩
  rw [hK.1, hR.2.2.2.2.1]
  exact OK1_z hI
theorem tk_at_e {f f' : Nat → Int32} (hn : n ≤ 2000) (h : ∀ k, k < n → f k = f' k) : tk_at f n a = tk_at f' n a := by
  unfold tk_at
  by_cases z : ¬ a < 0 ∧ ¬ nI n ≤ a ∧ ¬ 2000 ≤ a
  · rw [if_pos z, if_pos z]
    obtain ⟨j, hj, rfl, -⟩ := pk_mu (L := n) z.1 z.2.1 (by omega)
    rw [nI_clamp (by omega)]
    exact h j hj
  · rw [if_neg z, if_neg z]
/-- token -/
theorem op14 (hI : IV w) : x_R x_prog scr 156 0 [some (.ref 0), some (.int a)] [] w (fun o w1 => ∃ c, o = .inl (some (.int c)) ∧ x_k w1 36 = 12 ∧ x_R x_prog scr 157 0 [some (.ref 36), some (.int a)] [] w1 (OK1 w c)) := by
  obtain ⟨h, t, sz, fa, hf, hs, V, g, cs, st, mk, sp, tk, ht, hA, hC, hR⟩ := id hI
  obtain ⟨hfa, hV, hg40, hgl, hl63, hst80, hco, hst0, hrs, hsf, hmk, htl, htv⟩ := hA
  obtain ⟨P, D, T, S, hP, hT, ⟨r5, r6, r7, r8⟩, h9, hS, hK⟩ := hC
  refine c156 h r7 (by omega) hK.1 ⟨_, rfl, k36 h, c157 h hR.2.2.2.2.1 htl ?_⟩
  rw [tk_at_e htl (fun k hk => (hR.2.2.2.2.2 k hk).trans (hK.2 k hk).symm)]
  exact OK1_z hI
theorem mk_v_e {s s' : Nat → Bool} (hn : n ≤ 63) (h : ∀ j, j < 64 → s j = s' j) : mk_v s n a = mk_v s' n a := by
  unfold mk_v
  by_cases z : ¬ a < 1 ∧ ¬ nI n < a
  · rw [if_pos z, if_pos z]
    obtain ⟨j, hj, rfl⟩ : ∃ j : Nat, j ≤ n ∧ a = nI j := nI_of2 (M := nI n) (nI_toInt (by omega)) (fun y => z.1 (Int32.lt_of_lt_of_le y (by decide))) (Int32.not_lt.mp z.2)
    rw [nI_clamp (by omega), h j (by omega)]
  · rw [if_neg z, if_neg z]
/-- marked -/
theorem op11 (hI : IV w) : x_R x_prog scr 150 0 [some (.ref 0), some (.int a)] [] w (fun o w1 => ∃ c, o = .inl (some (.int c)) ∧ x_k w1 36 = 12 ∧ x_R x_prog scr 151 0 [some (.ref 36), some (.int a)] [] w1 (OK1 w c)) := by
  obtain ⟨h, t, sz, fa, hf, hs, V, g, cs, st, mk, sp, tk, ht, hA, hC, hR⟩ := id hI
  obtain ⟨hfa, hV, hg40, hgl, hl63, hst80, hco, hst0, hrs, hsf, hmk, htl, htv⟩ := hA
  obtain ⟨P, D, T, S, hP, hT, ⟨r5, r6, r7, r8⟩, h9, hS, hK⟩ := hC
  have hM := hR.2.2.1
  refine c150 h r5 (by omega) hS.1.2.2.2.2.1 hl63 ⟨_, rfl, k36 h, c151 h hR.2.1.1.2.2.2.1 hl63 (fun j hj => ?_) ?_⟩
  · rw [hM j hj]
    cases mk j
    · exact Or.inl rfl
    · exact Or.inr rfl
  · rw [mk_v_e (s := fun c => decide (¬ x_i w 43 c = 0)) (s' := hc (x_j w P 11)) hl63 (fun j hj => by
      rw [hM j hj, hS.2.2.2.2.1 j hj]
      cases mk j <;> decide)]
    exact OK1_z hI
/-- way -/
theorem op12 (hI : IV w) : ∀ o2, x_R x_prog scr 152 0 [some (.ref 0), some (.int a), o2] [] w (fun o w1 => ∃ c, o = .inl (some (.int c)) ∧ x_k w1 36 = 12 ∧ x_R x_prog scr 153 0 [some (.ref 36), some (.int a)] [] w1 (OK1 w c)) := by
  intro o2
  obtain ⟨h, t, sz, fa, hf, hs, V, g, cs, st, mk, sp, tk, ht, hA, hC, hR⟩ := id hI
  obtain ⟨hfa, hV, hg40, hgl, hl63, hst80, hco, hst0, hrs, hsf, hmk, htl, htv⟩ := hA
  obtain ⟨P, D, T, S, hP, hT, ⟨r5, r6, r7, r8⟩, h9, hS, hK⟩ := hC
  have hPP : P = 5 ∨ P = 11 := by omega
  have k12 : x_k w 36 = 12 := by rw [sh_k h]; rfl
  have e5 : x_i w P 5 = nI st.length := hS.1.2.2.2.2.2
  have e11 : x_i (x_si w 36 0 0) 36 11 = nI st.length := by rw [y_i_si, if_neg (by omega)]; exact hR.2.1.1.2.2.2.2.2
  refine b152_0 ⟨fun z => ⟨_, rfl, (by first | exact k36 h | rfl), b153_0 ⟨k12, fun _ => OK1_z hI, fun y => absurd z y⟩⟩, fun z => ?_⟩
  rw [r5, pK h hPP, pr9 h hPP, (pk4 h hPP).1, (pk4 h hPP).2, sh_k h, e5]
  refine ⟨rfl, by omega, rfl, fun y => ?_, fun y => ⟨_, rfl, (by first | exact k36 h | rfl), b153_0 ⟨k12, fun x => absurd x z, fun _ => ⟨k12, fun x => absurd (by rw [e11] at x; exact x) y, fun _ => OK1_z hI⟩⟩⟩⟩
  obtain ⟨j, hj, rfl⟩ : ∃ j : Nat, j ≤ st.length ∧ a = nI j := nI_of2 (M := nI st.length) (nI_toInt (by omega)) (fun y => z (Int32.lt_of_lt_of_le y (by decide))) y
  have hj1 : 1 ≤ j := by
    apply Classical.byContradiction
    intro x
    have : j = 0 := by omega
    rw [this] at z
    exact z (by decide)
  obtain ⟨s, rfl⟩ : ∃ s, j = s + 1 := ⟨j - 1, by omega⟩
  have hab := prc_ab hrs s (by omega)
  have e4 : x_i w (P + 4) (s + 1) = nI (stA st s) := hS.2.2.1 s (by omega)
  have hA63 : stA st s < 64 := by unfold stA; split <;> omega
  have ew : x_i (x_si w 36 0 0) 42 (s + 1) = nI (wy st mk sp s) := by rw [y_i_si, if_neg (by omega)]; exact hR.2.2.2.1 s (by omega)
  have ref : ∀ v, v = nI (wy st mk sp s) → x_R x_prog scr 153 0 [some (.ref 36), some (.int (nI (s + 1)))] [] w (OK1 w v) := by
    intro v hv
    refine b153_0 ?_
    rw [e11, sr36_14 h, sh_k h, sh_l h, nI_clamp (show s + 1 < 2 ^ 31 by omega), ew, ← hv]
    exact ⟨rfl, fun x => absurd x z, fun _ => ⟨rfl, fun _ => ⟨rfl, by decide, ⟨rfl, vp_in_nI (N := 81) (by omega) (by omega)⟩, OK1_z hI⟩, fun x => absurd y x⟩⟩
  rw [nI_clamp (show s + 1 < 2 ^ 31 by omega), e4]
  refine ⟨rfl, by omega, rfl, by omega, ⟨rfl, vp_in_nI (by omega) (by omega)⟩, rfl, by omega, rfl, c68 hA63 (b152_39 ?_)⟩
  have hm1 : hc (x_j w P 11) (stA st s) = mk (stA st s) := hS.2.2.2.2.1 _ hA63
  have hm2 : hc (x_j w P 12) (stA st s) = sp (stA st s) := hS.2.2.2.2.2 _ hA63
  have h0 : mk 0 = false := by
    cases hb : mk 0 with
    | false => rfl
    | true => have := (hmk 0 hb).1; omega
  rw [hm1]
  cases hb : mk (stA st s) with
  | false =>
    refine ⟨fun x => absurd rfl x, fun _ => ⟨_, rfl, (by first | exact k36 h | rfl), ref _ ?_⟩⟩
    unfold wy
    rw [if_neg (fun u => by
      have e : stA st s = (sg st s).2 := by unfold stA; rw [if_pos u.1]
      rw [e, u.2] at hb
      cases hb)]
    rfl
  | true =>
    have hs1 : (sg st s).1 = true := by
      apply Classical.byContradiction
      intro x
      have e : stA st s = 0 := by unfold stA; rw [if_neg x]
      rw [e, h0] at hb
      cases hb
    have e : stA st s = (sg st s).2 := by unfold stA; rw [if_pos hs1]
    refine ⟨fun _ => ?_, fun x => absurd (by decide) x⟩
    rw [r5, pK h hPP, sh_k h]
    refine ⟨rfl, by omega, rfl, c68 hA63 (b152_55 ?_)⟩
    rw [hm2]
    rw [e] at hb ⊢
    cases hb2 : sp (sg st s).2 with
    | false =>
      refine ⟨fun _ => ⟨_, rfl, (by first | exact k36 h | rfl), ref _ ?_⟩, fun x => absurd rfl x⟩
      unfold wy
      rw [if_pos ⟨hs1, hb⟩, if_neg (by rw [hb2]; decide)]
      rfl
    | true =>
      refine ⟨fun x => absurd x (by decide), fun _ => ⟨_, rfl, (by first | exact k36 h | rfl), ref _ ?_⟩⟩
      unfold wy
      rw [if_pos ⟨hs1, hb⟩, if_pos hb2]
      rfl
/-- literal -/
theorem op7 (hI : IV w) : x_R x_prog scr 90 0 [some (.ref 0), some (.int a), some (.int b)] [] w (fun o w1 => ∃ c, o = .inl (some (.int c)) ∧ x_k w1 36 = 12 ∧ x_R x_prog scr 91 0 [some (.ref 36), some (.int a), some (.int b)] [] w1 (OK1 w c)) := by
  obtain ⟨h, t, sz, fa, hf, hs, V, g, cs, st, mk, sp, tk, ht, hA, hC, hR⟩ := id hI
  obtain ⟨hfa, hV, hg40, hgl, hl63, hst80, hco, hst0, hrs, hsf, hmk, htl, htv⟩ := hA
  obtain ⟨P, D, T, S, hP, hT, ⟨r5, r6, r7, r8⟩, h9, hS, hK⟩ := hC
  have hPP : P = 5 ∨ P = 11 := by omega
  have k12 : x_k w 36 = 12 := by rw [sh_k h]; rfl
  have e4 : x_i w P 4 = nI cs.length := hS.1.2.2.2.2.1
  have e7 : x_i (x_si w 36 0 0) 36 7 = nI cs.length := by rw [y_i_si, if_neg (by omega)]; exact hR.2.1.1.2.2.2.1
  refine b90_0 ⟨fun z => ⟨_, rfl, (by first | exact k36 h | rfl), b91_0 ⟨k12, fun _ => OK1_z hI, fun y => absurd z y⟩⟩, fun z => ?_⟩
  rw [r5, pK h hPP, pr7 h hPP, pr6 h hPP, (pk2 h hPP).1, (pk2 h hPP).2, (pk1 h hPP).1, (pk1 h hPP).2, sh_k h, e4]
  refine ⟨rfl, by omega, rfl, fun y => ⟨_, rfl, (by first | exact k36 h | rfl), b91_0 ⟨k12, fun x => absurd x z, fun _ => ⟨k12, fun _ => OK1_z hI, fun x => absurd (by rw [e7]; exact y) x⟩⟩⟩, fun y => ⟨fun x => ⟨_, rfl, (by first | exact k36 h | rfl), b91_0 ⟨k12, fun u => absurd u z, fun _ => ⟨k12, fun u => absurd (by rw [e7] at u; exact u) y, fun _ => ⟨fun _ => OK1_z hI, fun u => absurd x u⟩⟩⟩⟩, fun x => ?_⟩⟩
  obtain ⟨j, hj, rfl⟩ : ∃ j : Nat, j ≤ cs.length ∧ a = nI j := nI_of2 (M := nI cs.length) (nI_toInt (by omega)) (fun u => z (Int32.lt_of_lt_of_le u (by decide))) (Int32.not_lt.mp y)
  have hj1 : 1 ≤ j := by
    apply Classical.byContradiction
    intro x
    have : j = 0 := by omega
    rw [this] at z
    exact z (by decide)
  obtain ⟨c, rfl⟩ : ∃ c, j = c + 1 := ⟨j - 1, by omega⟩
  have hl6 := (cok_getD hco c).1
  obtain ⟨p1, p2, p3⟩ := hS.2.1 c (by omega)
  obtain ⟨q1, q2⟩ := hR.2.1.2.1 c (by omega)
  have q1' : x_i (x_si w 36 0 0) 39 (c + 1) = nI (cs.getD c []).length := by rw [y_i_si, if_neg (by omega)]; exact q1
  have vp : vp_in (nI (c + 1)) 64 := vp_in_nI (by omega) (by omega)
  rw [nI_clamp (show c + 1 < 2 ^ 31 by omega), p1]
  refine ⟨rfl, by omega, rfl, by omega, ⟨rfl, vp⟩, fun u => ?_, fun u => ⟨_, rfl, (by first | exact k36 h | rfl), b91_0 ?_⟩⟩
  · obtain ⟨k, hk, rfl, -⟩ := pk_mu (L := (cs.getD c []).length) x (Int32.not_le.mpr u) (by omega)
    have e6 : nI (c + 1) * 6 + nI k = nI (6 * (c + 1) + k) := by
      rw [show (6 : Int32) = nI 6 from rfl, pk_mul, nI_add]
      congr 1
      omega
    have e6' : (6 : Int32) * nI (c + 1) + nI k = nI (6 * (c + 1) + k) := by rw [show (6 : Int32) = nI 6 from rfl, pk_mul, nI_add]
    have q2' : x_i (x_si w 36 0 0) 38 (6 * (c + 1) + k) = iI ((cs.getD c []).getD k 0) := by rw [y_i_si, if_neg (by omega)]; exact q2 k hk
    rw [e6, nI_clamp (show 6 * (c + 1) + k < 2 ^ 31 by omega), p3 k hk]
    refine ⟨rfl, by omega, rfl, by omega, ⟨rfl, vp_in_nI (by omega) (by omega)⟩, _, rfl, (by first | exact k36 h | rfl), b91_0 ?_⟩
    rw [e7, sr36_9 h, sr36_8 h, sh_k h, sh_l h, nI_clamp (show c + 1 < 2 ^ 31 by omega), q1', e6', nI_clamp (show 6 * (c + 1) + k < 2 ^ 31 by omega), q2']
    exact ⟨rfl, fun y => absurd y z, fun _ => ⟨rfl, fun y2 => absurd y2 y, fun _ => ⟨fun y => absurd y x, fun _ => ⟨rfl, by decide, ⟨rfl, vp⟩, fun _ => ⟨rfl, by decide, ⟨rfl, vp_in_nI (N := 384) (by omega) (by omega)⟩, OK1_z hI⟩, fun y => absurd u y⟩⟩⟩⟩
  · rw [e7, sr36_9 h, sh_k h, sh_l h, nI_clamp (show c + 1 < 2 ^ 31 by omega), q1']
    exact ⟨rfl, fun y => absurd y z, fun _ => ⟨rfl, fun y2 => absurd y2 y, fun _ => ⟨fun y => absurd y x, fun _ => ⟨rfl, by decide, ⟨rfl, vp⟩, fun y => absurd y u, fun _ => OK1_z hI⟩⟩⟩⟩
end X82
