/-! withstands, isRight, forward of the class. -/
theorem prg_pre {cs : List (List Int)} {al mk : Nat → Bool} : ∀ (d : Nat) (tv : Nat → Int) (tak : xTk), ∃ e, (prg cs al mk d tv tak).2.1 = tak ++ e
  | 0, tv, tak => ⟨[], by show tak = _; simp⟩
  | d + 1, tv, tak => by
    unfold prg
    split
    · exact ⟨[], by simp⟩
    · split
      · exact ⟨[], by simp⟩
      · obtain ⟨e, he⟩ := prg_pre (cs := cs) (al := al) (mk := mk) d (setT tv (isr tv (cg cs (pkc cs al mk tv))).2) (tak ++ [(pkc cs al mk tv, (isr tv (cg cs (pkc cs al mk tv))).2)])
        exact ⟨_, by rw [he, List.append_assoc]⟩
theorem tg_pre {tak e : xTk} {k : Nat} (h : k < tak.length) : tg (tak ++ e) k = tg tak k := by
  unfold tg
  rw [List.getD_eq_getElem?_getD, List.getD_eq_getElem?_getD, List.getElem?_append_left h]
theorem ft_cons {tv : Nat → Int} {l : Int} {ls : List Int} {o : Int} : ft tv (l :: ls) o = if ¬ l = o ∧ 0 < vl tv l then l else ft tv ls o := by
  unfold ft
  rw [List.find?_cons]
  by_cases h : ¬ l = o ∧ 0 < vl tv l
  · rw [decide_eq_true h, if_pos h]; rfl
  · rw [decide_eq_false h, if_neg h]
theorem ft_in {tv : Nat → Int} {ls : List Int} {o : Int} (h : ¬ ft tv ls o = 0) : ft tv ls o ∈ ls ∧ ¬ ft tv ls o = o ∧ 0 < vl tv (ft tv ls o) := by
  unfold ft at *
  cases hfi : ls.find? (fun l => decide (¬ l = o ∧ 0 < vl tv l)) with
  | none => rw [hfi] at h; exact absurd rfl h
  | some x =>
    have h0 := List.find?_some hfi
    have h1 := of_decide_eq_true h0
    exact ⟨List.mem_of_find?_eq_some hfi, h1.1, h1.2⟩
theorem WM_one {tv : Nat → Int} {l : Int} (hl : lok l) (hv : 0 < vl tv l) : WM tv (fun v => decide (v = l.natAbs)) (sb (li l)) := by
  intro m hm
  rw [mm_sb _ (li_lt hl) _ (li_lt hm), Bool.eq_iff_iff]
  simp only [Bool.and_eq_true, decide_eq_true_iff]
  rw [li_inj hl hm]
  constructor
  · rintro rfl; exact ⟨rfl, hv⟩
  · rintro ⟨h1, h2⟩
    have : m = l ∨ m = -l := by omega
    rcases this with e | e
    · exact e.symm
    · rw [e, vl_neg hl.1] at h2; omega
/-- do the candidates withstand, d of them from c on? -/
def cnd (cs : List (List Int)) (al mk : Nat → Bool) (tv : Nat → Int) (tak : xTk) (o : Int) : Nat → Nat → Bool
  | 0, _ => true
  | d + 1, c => if al c = true ∧ o ∈ cg cs c then (if (wst cs al mk tv tak o c).1 = true then cnd cs al mk tv tak o d (c + 1) else false) else cnd cs al mk tv tak o d (c + 1)
def base (cs : List (List Int)) (al mk : Nat → Bool) (c : Nat) : (Nat → Int) × xTk × Nat := prg cs al mk 17 (tvN (cg cs c)) []
def piv (cs : List (List Int)) (c : Nat) : Int := (cg cs c).getD 0 0
def isRt (cs : List (List Int)) (al : Nat → Bool) (c : Nat) : Bool := if ¬ (base cs al nob c).2.2 = 0 then true else if (cg cs c).length = 0 then false else cnd cs al nob (base cs al nob c).1 (base cs al nob c).2.1 (- piv cs c) cs.length 1
section X59
variable {scr : Nat × (Nat → Int32)} {w : xW} {Q : xO → xW → Prop} {w1 : xW} {t : Nat → Nat} {sz P n c g V fa d : Nat} {hf hs : Bool} {al mk sp : Nat → Bool} {tv : Nat → Int} {tak : xTk} {cs : List (List Int)} {st : xSt} {ls tk : List Int} {nv : Nat → Bool} {m : Int32} {o : Int} {o1 o2 o3 o4 o5 o6 o7 : Option Value}
/-- the base of a propagation of the class -/
def PB (P : Nat) (w : xW) (cs : List (List Int)) (al : Nat → Bool) (tv : Nat → Int) (tak : xTk) : Prop := (P = 5 ∨ P = 11) ∧ x_r w 28 0 = P ∧ x_i w P 4 = nI cs.length ∧ cs.length ≤ 63 ∧ PR P w cs ∧ (∀ j, j < 64 → hc (x_j w 28 1) j = al j) ∧ TM tv (x_i w 28 3) ∧ x_i w 28 7 = nI tak.length ∧ (∀ k, k < tak.length → x_i w 29 k = nI (tg tak k).1 ∧ x_i w 30 k = sb (li (tg tak k).2))
theorem PC_c (h : PR P w cs) (h1 : 1 ≤ c) (h2 : c ≤ cs.length) : PC P w c (cg cs c) := by
  have := h (c - 1) (by omega)
  rw [Nat.sub_add_cancel h1] at this
  exact this
theorem c113_l (hP : P = 5 ∨ P = 11) (hls : cl1 ls) (ho : lok o) (h : SH w) (hr : x_r w 28 0 = P) (hd : d ≤ 63) (hC : PC P w d ls) (hT : TM tv (x_i w 28 2)) : ∀ (e k : Nat) (o5 : Option Value), k + e = ls.length → Q (.inl (some (.int (if ft tv (ls.drop k) o = 0 then 0 else sb (li (ft tv (ls.drop k) o)))))) w → x_R x_prog scr 113 8 [some (.ref 28), some (.int (nI d)), some (.int (oth ls o)), some (.int (nI (6 * d))), some (.int (nI k)), o5] [] w Q := by
  have hl6 := hls.1
  have k28 : x_k w 28 = 9 := by rw [sh_k h]; rfl
  have kP := pK h hP
  intro e
  induction e with
  | zero =>
    intro k o5 hk hq
    refine b113_8 ?_
    rw [hr, kP, pr7 h hP, (pk2 h hP).1, (pk2 h hP).2, nI_clamp (show d < 2 ^ 31 by omega), hC.1]
    rw [List.drop_eq_nil_of_le (by omega)] at hq
    exact ⟨k28, by omega, rfl, by omega, ⟨rfl, vp_in_nI (by omega) (by omega)⟩, fun _ => hq, fun z => absurd (nI_le (by omega) (by omega)) z⟩
  | succ e ih =>
    intro k o5 hk hq
    have hkl : k < ls.length := by omega
    have hlk := lok_getD hls.2.1 hkl
    rw [drop_c ls hkl, ft_cons] at hq
    have hmem : ls.getD k 0 ∈ ls := by rw [List.getD_eq_getElem?_getD, List.getElem?_eq_getElem hkl]; exact List.getElem_mem hkl
    refine b113_8 ?_
    rw [hr, kP, pr6 h hP, pr7 h hP, (pk1 h hP).1, (pk1 h hP).2, (pk2 h hP).1, (pk2 h hP).2, nI_clamp (show d < 2 ^ 31 by omega), hC.1, nI_add, nI_clamp (show 6 * d + k < 2 ^ 31 by omega), hC.2.2 k hkl]
    refine ⟨k28, by omega, rfl, by omega, ⟨rfl, vp_in_nI (by omega) (by omega)⟩, fun z => absurd z (nI_ge (by omega) (by omega)), fun _ => ⟨k28, by omega, rfl, by omega, ⟨rfl, vp_in_nI (by omega) (by omega)⟩, c34 hlk (b113_37 ?_)⟩⟩
    have hz : ((sb (li (ls.getD k 0)) &&& oth ls o) &&& x_i w 28 2 = 0) ↔ ¬ (¬ ls.getD k 0 = o ∧ 0 < vl tv (ls.getD k 0)) := by
      have e1 : (sb (li (ls.getD k 0)) &&& oth ls o) &&& x_i w 28 2 = (oth ls o &&& x_i w 28 2) &&& sb (li (ls.getD k 0)) := by rw [Int32.and_assoc, Int32.and_comm]
      rw [e1, and_sb (li_lt hlk), mm_and, hT _ hlk]
      have := mm_oth hls ho hlk
      constructor
      · intro y x
        rw [this.mpr ⟨hmem, x.1⟩, decide_eq_true x.2] at y
        cases y
      · intro y
        cases hb : mm (oth ls o) (li (ls.getD k 0)) with
        | false => rfl
        | true => rw [Bool.true_and, decide_eq_false (fun x => y ⟨(this.mp hb).2, x⟩)]
    rw [hz, nI_1]
    refine ⟨k28, fun z => ?_, fun z => ?_⟩
    · rw [if_neg z] at hq
      exact ih (k + 1) _ (by omega) hq
    · have z2 := Classical.not_not.mp z
      rw [if_pos z2, if_neg hlk.1] at hq
      exact hq
theorem c113 (hP : P = 5 ∨ P = 11) (hls : cl1 ls) (ho : lok o) (h : SH w) (hr : x_r w 28 0 = P) (hd : d ≤ 63) (hC : PC P w d ls) (hT : TM tv (x_i w 28 2)) (hq : Q (.inl (some (.int (if ft tv ls o = 0 then 0 else sb (li (ft tv ls o)))))) w) : x_R x_prog scr 113 0 [some (.ref 28), some (.int (nI d)), some (.int (oth ls o)), o3, o4, o5] [] w Q := by
  have e : nI d * 6 = nI (6 * d) := by rw [show (6 : Int32) = nI 6 from rfl, pk_mul, Nat.mul_comm]
  refine b113_0 ?_
  rw [e]
  exact c113_l hP hls ho h hr hd hC hT ls.length 0 _ (by omega) hq
/-- what stands behind withstands -/
def WS (P : Nat) (w : xW) (r : Bool × xTk × Nat × (Nat → Bool)) : Prop := x_i w 28 6 = nI r.2.1.length ∧ (∀ k, k < r.2.1.length → x_i w 29 k = nI (tg r.2.1 k).1) ∧ (r.1 = true → x_i w 28 8 = nI r.2.2.1 ∧ ∀ i, i < 32 → mm (x_i w 28 9) i = r.2.2.2 i)
theorem c112 {p : Int} (hp : lok p) (hco : cok cs) (ht : tok tv) (hI : TI cs tv tak) (h : SH w) (hB : PB P w cs al tv tak) (h1 : 1 ≤ d) (h2 : d ≤ cs.length) {ma : Int64} (hma : ∀ j, j < 64 → hc ma j = mk j)
    (hq : ∀ w', xI mGo w w' → PB P w' cs al tv tak → WS P w' (wst cs al mk tv tak (-p) d) → Q (.inl (some (.int (b32 (wst cs al mk tv tak (-p) d).1)))) w') : x_R x_prog scr 112 0 [some (.ref 28), some (.int (nI d)), some (.int (sb (li p))), some (.long ma), o4, o5] [] w Q := by
  obtain ⟨hP, r0, p4, hl, pR, pA, pT, p7, pK'⟩ := id hB
  have h16 := TI_16 hI
  have k28 : x_k w 28 = 9 := by rw [sh_k h]; rfl
  have hcl := cg_ok hco d
  have hpn := lok_neg hp
  refine b112_0 ⟨k28, k28, k28, k28, k28, b112_21 ?_⟩
  have e7 : ∀ v, x_i (x_si w 28 2 v) 28 7 = nI tak.length := fun v => by rw [y_i_si, if_neg (by omega)]; exact p7
  rw [e7]
  generalize hw1 : x_si (x_si (x_si w 28 2 (x_i w 28 3)) 28 6 (nI tak.length)) 28 8 0 = w1
  have F1 : xI (fun p k => p = 28 ∧ (k = 2 ∨ k = 6 ∨ k = 8)) w w1 := by rw [← hw1]; exact xI_si (xI_si (xI_si xI_rf ⟨rfl, by omega⟩) ⟨rfl, by omega⟩) ⟨rfl, by omega⟩
  have a2 : x_i w1 28 2 = x_i w 28 3 := by rw [← hw1, y_i_si, if_neg (by omega), y_i_si, if_neg (by omega), y_i_si, if_pos ⟨rfl, rfl⟩]
  have a6 : x_i w1 28 6 = nI tak.length := by rw [← hw1, y_i_si, if_neg (by omega), y_i_si, if_pos ⟨rfl, rfl⟩]
  have a8 : x_i w1 28 8 = 0 := by rw [← hw1, y_i_si, if_pos ⟨rfl, rfl⟩]
  clear hw1
  have hs1 := sh_I F1 h
  have k1 : x_k w1 28 = 9 := by rw [sh_k hs1]; rfl
  have rr : x_r w1 28 0 = P := by rw [xI_r F1]; exact r0
  have PRo : ∀ {m : Nat → Nat → Prop} {w2 : xW}, xI m w w2 → (∀ p k, (p = 5 ∨ p = 6 ∨ p = 7 ∨ p = 8 ∨ p = 11 ∨ p = 12 ∨ p = 13 ∨ p = 14) → ¬ m p k) → PR P w2 cs := fun q hm c hc => PC_F q (pR c hc) (hm _ _ (by omega)) (hm _ _ (by omega)) (fun k _ => hm _ _ (by omega))
  have R1 : PR P w1 cs := PRo F1 (by omega)
  have T1 : TM tv (x_i w1 28 2) := by rw [a2]; exact pT
  have hC1 := PC_c R1 h1 h2
  rw [rr, pK hs1 hP, pr8 hs1 hP, (pk3 hs1 hP).1, (pk3 hs1 hP).2, nI_clamp (show d < 2 ^ 31 by omega), hC1.2.1]
  refine ⟨k1, by omega, rfl, by omega, ⟨rfl, vp_in_nI (by omega) (by omega)⟩, c33 (b112_34 ?_)⟩
  rw [opp_sb hp]
  have eo : mask (cg cs d) &&& (sb (li (-p)) ^^^ (-1)) = oth (cg cs d) (-p) := rfl
  rw [eo, oth_0 hcl hpn T1]
  -- the base stays
  have PBo : ∀ (w2 : xW) (e : xTk), xI mGo w w2 → (∀ k, k < (tak ++ e).length → x_i w2 29 k = nI (tg (tak ++ e) k).1 ∧ x_i w2 30 k = sb (li (tg (tak ++ e) k).2)) → PB P w2 cs al tv tak := by
    intro w2 e q hk
    refine ⟨hP, by rw [xI_r q]; exact r0, (xI_i q P 4 (by unfold mGo; omega)).trans p4, hl, PRo q (by unfold mGo; omega), by rw [xI_j q]; exact pA, by rw [xI_i q 28 3 (by unfold mGo; omega)]; exact pT, (xI_i q 28 7 (by unfold mGo; omega)).trans p7, fun k hkl => ?_⟩
    have := hk k (by simp; omega)
    rw [tg_pre hkl] at this
    exact this
  have ar1 : ∀ k, k < tak.length → x_i w1 29 k = nI (tg tak k).1 ∧ x_i w1 30 k = sb (li (tg tak k).2) := fun k hk => ⟨(xI_i F1 29 k (by omega)).trans (pK' k hk).1, (xI_i F1 30 k (by omega)).trans (pK' k hk).2⟩
  have G1 : PG P w1 cs al tv tak := ⟨hP, rr, (xI_i F1 P 4 (by omega)).trans p4, hl, fun c hc => (R1 c hc).2.1, by rw [xI_j F1]; exact pA, T1, a6, ar1⟩
  refine ⟨k1, fun z => ⟨k1, c33 (b112_76 ⟨k1, k1, ?_⟩)⟩, fun z => ⟨k1, c113 (ls := cg cs d) (o := -p) hP hcl hpn hs1 rr (by omega) hC1 T1 (b112_58 ⟨k1, ?_⟩)⟩⟩
  · obtain ⟨v1, v2, v3⟩ := tvo_ok hcl hpn ht T1 z
    have F2 : xI (fun p k => p = 28 ∧ (k = 2 ∨ k = 6 ∨ k = 8)) w (x_si w1 28 2 (x_i w1 28 2 ||| opp (oth (cg cs d) (-p)))) := xI_si F1 ⟨rfl, by omega⟩
    have F2' : xI (fun p k => p = 28 ∧ k = 2) w1 (x_si w1 28 2 (x_i w1 28 2 ||| opp (oth (cg cs d) (-p)))) := xI_si xI_rf ⟨rfl, rfl⟩
    have G2 : PG P (x_si w1 28 2 (x_i w1 28 2 ||| opp (oth (cg cs d) (-p)))) cs al (tvo tv (cg cs d) (-p)) tak := by
      obtain ⟨g1, g2, g3, g4, g5, g6, g7, g8, g9⟩ := G1
      exact ⟨g1, by rw [xI_r F2']; exact g2, (xI_i F2' P 4 (by omega)).trans g3, g4, fun c hc => (xI_i F2' (P + 3) _ (by omega)).trans (g5 c hc), by rw [xI_j F2']; exact g6, by rw [y_i_si, if_pos ⟨rfl, rfl⟩]; exact v2, (xI_i F2' 28 6 (by omega)).trans g8, fun k hk => ⟨(xI_i F2' 29 k (by omega)).trans (g9 k hk).1, (xI_i F2' 30 k (by omega)).trans (g9 k hk).2⟩⟩
    have ew : wst cs al mk tv tak (-p) d = (decide (¬ (prg cs al mk (17 - tak.length) (tvo tv (cg cs d) (-p)) tak).2.2 = 0), (prg cs al mk (17 - tak.length) (tvo tv (cg cs d) (-p)) tak).2.1, (prg cs al mk (17 - tak.length) (tvo tv (cg cs d) (-p)) tak).2.2, nds cs (prg cs al mk (17 - tak.length) (tvo tv (cg cs d) (-p)) tak).2.1 (prg cs al mk (17 - tak.length) (tvo tv (cg cs d) (-p)) tak).2.1.length (nvc cs (prg cs al mk (17 - tak.length) (tvo tv (cg cs d) (-p)) tak).2.2)) := by unfold wst; rw [if_pos z]
    rw [ew] at hq
    refine c96_l hco hma (17 - tak.length) (tvo tv (cg cs d) (-p)) tak _ _ _ _ (sh_I F2' hs1) G2 v1 (TI_mono hco hI v3) (by omega) (fun w3 u1 u2 u3 u4 u5 => b112_85 ⟨?_, ?_⟩)
    · cases decide (¬ (prg cs al mk (17 - tak.length) (tvo tv (cg cs d) (-p)) tak).2.2 = 0)
      · exact Or.inl rfl
      · exact Or.inr rfl
    · have F3 : xI mGo w w3 := xI_tr (xI_w F2 (by unfold mGo; omega)) u1
      obtain ⟨e, he⟩ := prg_pre (cs := cs) (al := al) (mk := mk) (17 - tak.length) (tvo tv (cg cs d) (-p)) tak
      have u9 := u2.2.2.2.2.2.2.2.2
      refine hq w3 F3 (PBo w3 e F3 (by rw [← he]; exact u9)) ⟨u2.2.2.2.2.2.2.2.1, fun k hk => (u9 k hk).1, fun y => ?_⟩
      obtain ⟨y1, -, -, -, y5⟩ := u5 (of_decide_eq_true y)
      exact ⟨y1, y5⟩
  · obtain ⟨f1, f2, f3⟩ := ft_in z
    have hlf := hcl.2.1 _ f1
    rw [if_neg z]
    refine c98 (nv := fun v => decide (v = (ft tv (cg cs d) (-p)).natAbs)) hs1 G1 hco ht hI (WM_one hlf f3) (fun r hr => b112_61 ⟨k1, Or.inr rfl, ?_⟩)
    have ew : wst cs al mk tv tak (-p) d = (true, tak, 0, nds cs tak tak.length (fun v => decide (v = (ft tv (cg cs d) (-p)).natAbs))) := by unfold wst; rw [if_neg z]
    rw [ew] at hq
    have F3 : xI mGo w (x_si w1 28 9 r) := xI_si (xI_w F1 (by unfold mGo; omega)) (Or.inl ⟨rfl, by omega⟩)
    have F3' : xI (fun p k => p = 28 ∧ k = 9) w1 (x_si w1 28 9 r) := xI_si xI_rf ⟨rfl, rfl⟩
    refine hq _ F3 (PBo _ [] F3 (fun k hk => ?_)) ⟨(xI_i F3' 28 6 (by omega)).trans a6, fun k hk => (xI_i F3' 29 k (by omega)).trans (ar1 k hk).1, fun _ => ⟨?_, fun i hi => ?_⟩⟩
    · rw [List.append_nil] at hk ⊢
      exact ⟨(xI_i F3' 29 k (by omega)).trans (ar1 k hk).1, (xI_i F3' 30 k (by omega)).trans (ar1 k hk).2⟩
    · rw [y_i_si, if_neg (by omega), a8]; rfl
    · rw [y_i_si, if_pos ⟨rfl, rfl⟩]; exact hr i hi
end X59
