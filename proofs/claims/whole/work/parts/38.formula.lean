/-! The formula on the class's side: readFormula into the draft D. -/
theorem sh_F {mi mj : Nat → Nat → Prop} {w w1 : xW} (h : xF mi mj x_no w w1) (s : SH w) : SH w1 := by
  refine ⟨h.1.1.trans s.1, h.1.2.2.2.1.trans s.2.1, h.1.2.2.2.2.trans s.2.2.1, ?_⟩
  have e : x_r w1 = x_r w := funext fun o => funext fun k => h.2.2.2 o k fun z => z
  rw [e]
  exact s.2.2.2
theorem y_i_cp (w : xW) (a sp b dp n o k : Nat) : x_i (x_cp w a sp b dp n) o k = if o = b ∧ dp ≤ k ∧ k < dp + n then x_i w a (sp + (k - dp)) else x_i w o k := by
  show x_row (x_i w) b (va_cpy (x_i w a) (x_i w b) sp dp n) o k = _
  unfold x_row va_cpy
  by_cases h : o = b
  · subst h
    by_cases h2 : dp ≤ k ∧ k < dp + n
    · simp [h2]
    · rw [if_pos rfl, if_neg h2, if_neg (fun z => h2 z.2)]
  · rw [if_neg h, if_neg (fun z => h z.1)]
theorem xF_cp {mi mj mr : Nat → Nat → Prop} {w w1 : xW} {a sp b dp n : Nat} (h : xF mi mj mr w w1) (hm : ∀ k, dp ≤ k → k < dp + n → mi b k) : xF mi mj mr w (x_cp w1 a sp b dp n) := by
  refine xF_tr h ⟨⟨rfl, rfl, rfl, rfl, rfl⟩, fun o k q => ?_, fun _ _ _ => rfl, fun _ _ _ => rfl⟩
  rw [y_i_cp, if_neg]
  rintro ⟨rfl, h1, h2⟩
  exact q (hm k h1 h2)
/-- one clause as a set of clauses -/
def lb (c : Nat) : Int64 := (1 : Int64) <<< ((nI c).toInt64 &&& 63)
theorem hc_lb : ∀ c, c < 64 → ∀ j, j < 64 → hc (lb c) j = decide (c = j) := by decide +kernel
theorem hc_or (a b : Int64) (j : Nat) : hc (a ||| b) j = (hc a j || hc b j) := by
  unfold hc
  rw [Int64.toBitVec_or, BitVec.getLsbD_or]
theorem hc_and (a b : Int64) (j : Nat) : hc (a &&& b) j = (hc a j && hc b j) := by
  unfold hc
  rw [Int64.toBitVec_and, BitVec.getLsbD_and]
theorem hc_0 (j : Nat) : hc 0 j = false := by
  show (0#64).getLsbD j = false
  exact BitVec.getLsbD_zero
/-- clause c of the problem P -/
def PC (P : Nat) (w : xW) (c : Nat) (ls : List Int) : Prop := x_i w (P + 2) c = nI ls.length ∧ x_i w (P + 3) c = mask ls ∧ ∀ k, k < ls.length → x_i w (P + 1) (6 * c + k) = iI (ls.getD k 0)
def PR (P : Nat) (w : xW) (cs : List (List Int)) : Prop := ∀ c, c < cs.length → PC P w (c + 1) (cs.getD c [])
/-- clauses that can be read -/
def cok (cs : List (List Int)) : Prop := ∀ ls ∈ cs, cl1 ls
theorem cok_app {cs : List (List Int)} {ls : List Int} (h : cok cs) (h1 : cl1 ls) : cok (cs ++ [ls]) := by
  intro x hx
  rcases List.mem_append.mp hx with hx | hx
  · exact h x hx
  · rw [List.mem_singleton] at hx; subst hx; exact h1
theorem getD_appL (cs : List (List Int)) (v : List Int) (k : Nat) : (cs ++ [v]).getD k [] = if k < cs.length then cs.getD k [] else if k = cs.length then v else [] := by
  simp only [List.getD_eq_getElem?_getD]
  by_cases h : k < cs.length
  · rw [if_pos h, List.getElem?_append_left h]
  · rw [if_neg h, List.getElem?_append_right (by omega)]
    by_cases e : k = cs.length
    · rw [if_pos e, e]; simp
    · rw [if_neg e, List.getElem?_eq_none]
      · rfl
      · simp; omega
theorem cok_getD {cs : List (List Int)} (h : cok cs) (k : Nat) : cl1 (cs.getD k []) := by
  rw [List.getD_eq_getElem?_getD]
  by_cases hk : k < cs.length
  · rw [List.getElem?_eq_getElem hk]
    exact h _ (List.getElem_mem hk)
  · rw [List.getElem?_eq_none (by omega)]
    exact cl1_nil
/-- the clauses of a formula: fault, position, clauses -/
def fcl (nx : Nat → Nat × Nat × Int) (V : Nat) : Nat → Nat → List (List Int) → Nat × Nat × List (List Int)
  | 0, a, cs => (0, a, cs)
  | m + 1, a, cs => if (rc nx V 6 [] (nx a)).1 = true then fcl nx V m (rc nx V 6 [] (nx a)).2.2.1 (cs ++ [(rc nx V 6 [] (nx a)).2.1]) else ((rc nx V 6 [] (nx a)).2.2.2.1, a, cs)
/-- is the word s this one? -/
def isw (t : Nat → Nat) (cs : List Nat) (s : Nat × Nat × Int) : Bool := decide (s.1 = s.2.1 - 1 + cs.length ∧ ∀ j, j < cs.length → 0 ≤ j → t (s.2.1 - 1 + j) = cs.getD j 0)
/-- the formula of a text: fault, variables, clauses -/
def frm5 (t : Nat → Nat) (sz V : Nat) (r : Nat × Nat × List (List Int)) : Nat × Nat × List (List Int) :=
  if ¬ r.1 = 0 then (r.1, 0, []) else if (nxt false t sz r.2.1).2.2 = 20001 then (0, V, r.2.2) else ((nxt false t sz r.2.1).2.1, 0, [])
def frm4 (t : Nat → Nat) (sz V : Nat) (s : Nat × Nat × Int) : Nat × Nat × List (List Int) :=
  if 0 ≤ s.2.2 ∧ s.2.2 ≤ 40 then frm5 t sz V (fcl (nxt false t sz) V s.2.2.toNat s.1 []) else (s.2.1, 0, [])
def frm3 (t : Nat → Nat) (sz : Nat) (s : Nat × Nat × Int) : Nat × Nat × List (List Int) :=
  if 1 ≤ s.2.2 ∧ s.2.2 ≤ 16 then frm4 t sz s.2.2.toNat (nxt false t sz s.1) else (s.2.1, 0, [])
def frm2 (t : Nat → Nat) (sz : Nat) (s : Nat × Nat × Int) : Nat × Nat × List (List Int) :=
  if isw t [99, 110, 102] s = true then frm3 t sz (nxt false t sz s.1) else (s.2.1, 0, [])
def fms (t : Nat → Nat) (sz : Nat) : Nat × Nat × List (List Int) :=
  if isw t [112] (nxt false t sz 0) = true then frm2 t sz (nxt false t sz (nxt false t sz 0).1) else ((nxt false t sz 0).2.1, 0, [])
section X39
variable {scr : Nat × (Nat → Int32)} {w : xW} {Q : xO → xW → Prop} {t : Nat → Nat} {sz a D V n : Nat} {ls : List Int} {cs : List (List Int)} {o1 o2 o3 : Option Value}
/-- a problem that holds a formula alone -/
def PF (D : Nat) (w : xW) (V : Nat) (cs : List (List Int)) : Prop := x_i w D 0 = 1 ∧ x_i w D 1 = 0 ∧ x_i w D 2 = nI V ∧ x_i w D 3 = nI cs.length ∧ x_i w D 4 = nI cs.length ∧ x_i w D 5 = 0 ∧ PR D w cs ∧ (∀ j, j < 64 → hc (x_j w (D + 5) 0) j = decide (1 ≤ j ∧ j ≤ cs.length)) ∧ x_j w D 11 = 0 ∧ x_j w D 12 = 0 ∧ V ≤ 16 ∧ cs.length ≤ 40 ∧ cok cs
/-- the places of a draft, and of the reader of words -/
def mDi (D : Nat) : Nat → Nat → Prop := fun p k => (D ≤ p ∧ p ≤ D + 4) ∨ (p = 3 ∧ (k = 1 ∨ k = 2 ∨ k = 3))
def mDj (D : Nat) : Nat → Nat → Prop := fun p _ => p = D ∨ p = D + 5
theorem TT_D {mj : Nat → Nat → Prop} {w1 : xW} (hp : D = 5 ∨ D = 11) (q : xF (mDi D) mj x_no w w1) (ht : TT w t sz) : TT w1 t sz := TT_F q ht (by unfold mDi; omega) (by unfold mDi; omega) (by unfold mDi; omega) (by unfold mDi; omega)
theorem c21 (hp : D = 5 ∨ D = 11) (h : SH w) (hq : ∀ w', xF (fun p _ => p = D) (mDj D) x_no w w' → (∀ k, k < 6 → x_i w' D k = 0) → x_j w' (D + 5) 0 = 0 → x_j w' D 11 = 0 → x_j w' D 12 = 0 → Q (.inl none) w') : x_R x_prog scr 21 0 [some (.ref D)] [] w Q := by
  have hk := pK h hp
  refine b21_0 ⟨⟨hk, Or.inl rfl⟩, ⟨hk, Or.inl rfl⟩, hk, b21_15 ?_⟩
  simp only [y_k_si]
  refine ⟨hk, hk, hk, b21_30 ?_⟩
  simp only [y_i_si, y_j_si, y_r_si, y_k_si, y_l_si, y_N_si, y_i_sj, y_j_sj, y_r_sj, y_k_sj, y_l_sj, y_N_sj, y_i_sr, y_j_sr, y_r_sr, y_k_sr, y_l_sr, y_N_sr]
  rw [pr10 h hp, (pk5 h hp).1, (pk5 h hp).2, t00]
  have hF : xF (fun p _ => p = D) (mDj D) x_no w (x_si (x_si (x_si (x_si (x_si (x_si w D 0 0) D 1 0) D 2 0) D 3 0) D 4 0) D 5 0) := xF_si (xF_si (xF_si (xF_si (xF_si (xF_si xF_rf rfl) rfl) rfl) rfl) rfl) rfl
  have hz : ∀ k, k < 6 → x_i (x_si (x_si (x_si (x_si (x_si (x_si w D 0 0) D 1 0) D 2 0) D 3 0) D 4 0) D 5 0) D k = 0 := by
    intro k hk
    have : k = 0 ∨ k = 1 ∨ k = 2 ∨ k = 3 ∨ k = 4 ∨ k = 5 := by omega
    rcases this with rfl | rfl | rfl | rfl | rfl | rfl <;> simp [y_i_si]
  refine ⟨hk, by omega, ⟨rfl, v0 (by omega) (by omega)⟩, hk, hk, b21_47 (hq _ (xF_sj (xF_sj (xF_sj hF (Or.inr rfl)) (Or.inl rfl)) (Or.inl rfl)) ?_ ?_ ?_ ?_)⟩
  · intro k hk
    simp only [y_i_sj]
    exact hz k hk
  · rw [y_j_sj, if_neg (by omega), y_j_sj, if_neg (by omega), y_j_sj, if_pos ⟨rfl, rfl⟩]
  · rw [y_j_sj, if_neg (by omega), y_j_sj, if_pos ⟨rfl, rfl⟩]
  · rw [y_j_sj, if_pos ⟨rfl, rfl⟩]
/-- keepClause -/
def mKe (D n : Nat) : Nat → Nat → Prop := fun p k => (p = D ∧ k = 4) ∨ ((p = D + 2 ∨ p = D + 3) ∧ k = n + 1) ∨ (p = D + 1 ∧ 6 * (n + 1) ≤ k ∧ k < 6 * (n + 1) + 6)
theorem c38 (hp : D = 5 ∨ D = 11) (h : SH w) (hn : n < 63) (h4 : x_i w D 4 = nI n) (hl : ls.length ≤ 6) (hC : CI D ls w) (hq : ∀ w', xI (mKe D n) w w' → x_i w' D 4 = nI (n + 1) → PC D w' (n + 1) ls → Q (.inl none) w') : x_R x_prog scr 38 0 [some (.ref D)] [] w Q := by
  have hk := pK h hp
  have g : nI n < (63 : Int32) := nI_lt (b := 63) (by omega) (by omega)
  have c1 := nI_clamp (show n + 1 < 2 ^ 31 by omega)
  have hv : vp_in (nI (n + 1)) 64 := vp_in_nI (by omega) (by omega)
  have hv0 : vp_in 0 64 := v0 (by omega) (by omega)
  refine b38_0 ⟨hk, fun _ => ?_, fun z => absurd (h4 ▸ g) z⟩
  rw [h4, nI_1, pr7 h hp, pr8 h hp, (pk2 h hp).1, (pk2 h hp).2, (pk3 h hp).1, (pk3 h hp).2, t00]
  have e1 : x_i (x_si w D 4 (nI (n + 1))) D 4 = nI (n + 1) := by rw [y_i_si, if_pos ⟨rfl, rfl⟩]
  have e2 : x_i (x_si w D 4 (nI (n + 1))) (D + 2) 0 = nI ls.length := by rw [y_i_si, if_neg (by omega), hC.1]
  rw [e1, c1, e2]
  have e3 : x_i (x_si (x_si w D 4 (nI (n + 1))) (D + 2) (n + 1) (nI ls.length)) D 4 = nI (n + 1) := by rw [y_i_si, if_neg (by omega), e1]
  have e4 : x_i (x_si (x_si w D 4 (nI (n + 1))) (D + 2) (n + 1) (nI ls.length)) (D + 3) 0 = mask ls := by rw [y_i_si, if_neg (by omega), y_i_si, if_neg (by omega), hC.2.1]
  rw [e3, c1, e4]
  refine ⟨hk, hk, hk, by omega, hk, hk, by omega, ⟨rfl, hv0⟩, ⟨rfl, hv⟩, hk, by omega, hk, hk, by omega, ⟨rfl, hv0⟩, ⟨rfl, hv⟩, b38_50 ?_⟩
  have e5 : x_i (x_si (x_si (x_si w D 4 (nI (n + 1))) (D + 2) (n + 1) (nI ls.length)) (D + 3) (n + 1) (mask ls)) D 4 = nI (n + 1) := by rw [y_i_si, if_neg (by omega), e3]
  have e6 : nI (n + 1) * 6 = nI (6 * (n + 1)) := by rw [show (6 : Int32) = nI 6 from rfl, pk_mul, Nat.mul_comm]
  have e7 : (6 : Int32).toNatClampNeg = 6 := rfl
  simp only [y_k_si, y_l_si, y_r_si]
  rw [e5, e6, pr6 h hp, (pk1 h hp).1, (pk1 h hp).2, t00, e7, nI_clamp (show 6 * (n + 1) < 2 ^ 31 by omega)]
  refine ⟨hk, by omega, hk, by omega, hk, ⟨rfl, rfl, by decide, nI_pos (by omega), by decide, by omega, by omega⟩, hq _ ?_ ?_ ⟨?_, ?_, fun k hk2 => ?_⟩⟩
  · refine xF_cp (xI_si (xI_si (xI_si xI_rf (Or.inl ⟨rfl, rfl⟩)) (Or.inr (Or.inl ⟨Or.inl rfl, rfl⟩))) (Or.inr (Or.inl ⟨Or.inr rfl, rfl⟩))) (fun k h1 h2 => Or.inr (Or.inr ⟨rfl, h1, h2⟩))
  · rw [y_i_cp, if_neg (by omega), e5]
  · rw [y_i_cp, if_neg (by omega), y_i_si, if_neg (by omega), y_i_si, if_pos ⟨rfl, rfl⟩]
  · rw [y_i_cp, if_neg (by omega), y_i_si, if_pos ⟨rfl, rfl⟩]
  · rw [y_i_cp, if_pos (by omega), y_i_si, if_neg (by omega), y_i_si, if_neg (by omega), y_i_si, if_neg (by omega)]
    have e8 : 0 + (6 * (n + 1) + k - 6 * (n + 1)) = k := by omega
    rw [e8]
    exact hC.2.2 k hk2
/-- PC over a frame -/
theorem PC_F {mi mj mr : Nat → Nat → Prop} {w1 : xW} {P c : Nat} (q : xF mi mj mr w w1) (hC : PC P w c ls) (h1 : ¬ mi (P + 2) c) (h2 : ¬ mi (P + 3) c) (h3 : ∀ k, k < ls.length → ¬ mi (P + 1) (6 * c + k)) : PC P w1 c ls :=
  ⟨(q.2.1 _ _ h1).trans hC.1, (q.2.1 _ _ h2).trans hC.2.1, fun k hk => (q.2.1 _ _ (h3 k hk)).trans (hC.2.2 k hk)⟩
theorem c30_l (hp : D = 5 ∨ D = 11) (hV : V ≤ 16) {M : Nat} (hM : M ≤ 40) : ∀ (m a : Nat) (cs : List (List Int)) (w : xW), SH w → TT w t sz → cs.length + m = M → a ≤ sz → x_i w 3 1 = nI a → x_i w D 2 = nI V → x_i w D 4 = nI cs.length → PR D w cs → cok cs → (∀ j, j < 64 → hc (x_j w (D + 5) 0) j = decide (1 ≤ j ∧ j ≤ cs.length)) →
    (∀ w', xF (mDi D) (mDj D) x_no w w' → x_j w' D 11 = x_j w D 11 → x_j w' D 12 = x_j w D 12 → x_i w' D 1 = x_i w D 1 → x_i w' D 5 = x_i w D 5 → ((frm5 t sz V (fcl (nxt false t sz) V m a cs)).1 = 0 → x_i w' D 0 = 1 ∧ x_i w' D 2 = nI V ∧ x_i w' D 3 = nI M ∧ x_i w' D 4 = nI M ∧ (frm5 t sz V (fcl (nxt false t sz) V m a cs)).2.1 = V ∧ (frm5 t sz V (fcl (nxt false t sz) V m a cs)).2.2.length = M ∧ PR D w' (frm5 t sz V (fcl (nxt false t sz) V m a cs)).2.2 ∧ cok (frm5 t sz V (fcl (nxt false t sz) V m a cs)).2.2 ∧ ∀ j, j < 64 → hc (x_j w' (D + 5) 0) j = decide (1 ≤ j ∧ j ≤ M)) → Q (.inl (some (.int (nI (frm5 t sz V (fcl (nxt false t sz) V m a cs)).1)))) w') →
    x_R x_prog scr 30 2 [some (.ref D), some (.ref 3), some (.int (nI M)), some (.int (nI (cs.length + 1)))] [] w Q := by
  intro m
  induction m with
  | zero =>
    intro a cs w h ht hm ha h1 h2 h4 hR hco hal hq
    have t1 := ht.1
    have hpl := nxt_pl (pk := false) (t := t) ha
    have hrg := nxt_rg (pk := false) (sz := sz) (a := a) ht.2.1
    refine b30_2 ⟨fun _ => ?_, fun z => absurd (nI_lt (by omega) (by omega)) z⟩
    simp only [sh_k h, sh_l h, sh_n h, kk3, sr3_0 h, true_and, and_true, false_and, and_false, and_self, not_false_eq_true, not_true_eq_false, true_implies, false_implies, implies_true, true_or, or_true, or_self, if_true, if_false, Nat.reduceEqDiff, reduceIte, eq_self]
    refine c23 h ht ha h1 (fun w1 q1 q2 => b30_50 ?_)
    have h' := sh_I q1 h
    have hk := pK h' hp
    have q1F : xF (mDi D) (mDj D) x_no w w1 := xF_w q1 (by unfold mA mDi; omega) (by unfold x_no; intro _ _ z; exact z.elim) (fun _ _ z => z)
    have g : iI (nxt false t sz a).2.2 = 20001 ↔ (nxt false t sz a).2.2 = 20001 := iI_eq (b := 20001) (by omega) (by omega) (by omega) (by omega)
    have ej := xI_j q1
    rw [q2.2.2, q2.2.1, g]
    refine ⟨Or.inl (by rw [sh_k h']; rfl), fun z => ⟨hk, ⟨hk, Or.inr rfl⟩, ?_⟩, fun z => ⟨Or.inl (by rw [sh_k h']; rfl), ?_⟩⟩
    · have ef : frm5 t sz V (fcl (nxt false t sz) V 0 a cs) = (0, V, cs) := by
        unfold frm5 fcl
        rw [if_neg (fun y => y rfl), if_pos z]
      rw [ef] at hq
      have eM : cs.length = M := by omega
      refine hq _ (xF_si (xF_si q1F (Or.inl (by omega))) (Or.inl (by omega))) ?_ ?_ ?_ ?_ (fun _ => ⟨?_, ?_, ?_, ?_, rfl, eM, ?_, hco, fun j hj => ?_⟩)
      · simp only [y_i_si, y_j_si, y_r_si, y_k_si, y_l_si, y_N_si, y_i_sj, y_j_sj, y_r_sj, y_k_sj, y_l_sj, y_N_sj, y_i_sr, y_j_sr, y_r_sr, y_k_sr, y_l_sr, y_N_sr]; rw [ej]
      · simp only [y_i_si, y_j_si, y_r_si, y_k_si, y_l_si, y_N_si, y_i_sj, y_j_sj, y_r_sj, y_k_sj, y_l_sj, y_N_sj, y_i_sr, y_j_sr, y_r_sr, y_k_sr, y_l_sr, y_N_sr]; rw [ej]
      · simp only [y_i_si, y_j_si, y_r_si, y_k_si, y_l_si, y_N_si, y_i_sj, y_j_sj, y_r_sj, y_k_sj, y_l_sj, y_N_sj, y_i_sr, y_j_sr, y_r_sr, y_k_sr, y_l_sr, y_N_sr]; rw [if_neg (by omega), if_neg (by omega)]; exact xI_i q1 D 1 (by unfold mA; omega)
      · simp only [y_i_si, y_j_si, y_r_si, y_k_si, y_l_si, y_N_si, y_i_sj, y_j_sj, y_r_sj, y_k_sj, y_l_sj, y_N_sj, y_i_sr, y_j_sr, y_r_sr, y_k_sr, y_l_sr, y_N_sr]; rw [if_neg (by omega), if_neg (by omega)]; exact xI_i q1 D 5 (by unfold mA; omega)
      · rw [y_i_si, if_pos ⟨rfl, rfl⟩]
      · simp only [y_i_si, y_j_si, y_r_si, y_k_si, y_l_si, y_N_si, y_i_sj, y_j_sj, y_r_sj, y_k_sj, y_l_sj, y_N_sj, y_i_sr, y_j_sr, y_r_sr, y_k_sr, y_l_sr, y_N_sr]; rw [if_neg (by omega), if_neg (by omega)]; exact (xI_i q1 D 2 (by unfold mA; omega)).trans h2
      · rw [y_i_si, if_neg (by omega), y_i_si, if_pos ⟨rfl, rfl⟩]
      · simp only [y_i_si, y_j_si, y_r_si, y_k_si, y_l_si, y_N_si, y_i_sj, y_j_sj, y_r_sj, y_k_sj, y_l_sj, y_N_sj, y_i_sr, y_j_sr, y_r_sr, y_k_sr, y_l_sr, y_N_sr]; rw [if_neg (by omega), if_neg (by omega), ← eM]; exact (xI_i q1 D 4 (by unfold mA; omega)).trans h4
      · intro c hc
        have hF2 : xI (fun p k => (p = 3 ∧ (k = 1 ∨ k = 2 ∨ k = 3)) ∨ (p = D ∧ (k = 3 ∨ k = 0))) w (x_si (x_si w1 D 3 (nI M)) D 0 1) := xI_si (xI_si (xI_w q1 (by unfold mA; omega)) (Or.inr ⟨rfl, Or.inl rfl⟩)) (Or.inr ⟨rfl, Or.inr rfl⟩)
        exact PC_F hF2 (hR c hc) (by omega) (by omega) (by omega)
      · simp only [y_i_si, y_j_si, y_r_si, y_k_si, y_l_si, y_N_si, y_i_sj, y_j_sj, y_r_sj, y_k_sj, y_l_sj, y_N_sj, y_i_sr, y_j_sr, y_r_sr, y_k_sr, y_l_sr, y_N_sr]; rw [ej, hal j hj, eM]
    · have ef : frm5 t sz V (fcl (nxt false t sz) V 0 a cs) = ((nxt false t sz a).2.1, 0, []) := by
        unfold frm5 fcl
        rw [if_neg (fun y => y rfl), if_neg z]
      rw [ef] at hq
      exact hq w1 q1F (by rw [ej]) (by rw [ej]) (xI_i q1 D 1 (by unfold mA; omega)) (xI_i q1 D 5 (by unfold mA; omega)) (fun y => absurd (show (nxt false t sz a).2.1 = 0 from y) (by omega))
  | succ m ih =>
    intro a cs w h ht hm ha h1 h2 h4 hR hco hal hq
    have t1 := ht.1
    have hoK : oK 3 false := Or.inl ⟨rfl, rfl⟩
    refine b30_2 ⟨fun z => absurd z (nI_nlt (by omega) (by omega)), fun _ => ?_⟩
    simp only [sh_k h, sh_l h, sh_n h, kk3, sr3_0 h, true_and, and_true, false_and, and_false, and_self, not_false_eq_true, not_true_eq_false, true_implies, false_implies, implies_true, true_or, or_true, or_self, if_true, if_false, Nat.reduceEqDiff, reduceIte, eq_self]
    refine c23 h ht ha h1 (fun w1 q1 q2 => b30_11 ?_)
    have hs1 := sh_I q1 h
    refine ⟨pK hs1 hp, c31 hp hoK hV hs1 (TT_A (Or.inl rfl) q1 ht) q2 (nxt_le ha) (nxt_rg ht.2.1) ((xI_i q1 D 2 (by unfold mA; omega)).trans h2) (fun w2 r1 r2 r3 r4 r5 r6 => b30_16 ?_)⟩
    have hF2 : xI (mCl D 3) w w2 := xI_tr (xI_w q1 (by unfold mA mCl; omega)) r1
    have hs2 := sh_I hF2 h
    have hF2F : xF (mDi D) (mDj D) x_no w w2 := xF_w hF2 (by unfold mCl mDi; omega) (by unfold x_no; intro _ _ z; exact z.elim) (fun _ _ z => z)
    have ej2 := xI_j hF2
    cases hb : (rc (nxt false t sz) V 6 [] (nxt false t sz a)).1 with
    | false =>
      refine ⟨fun z => absurd rfl z, fun _ => ⟨Or.inl (by rw [sh_k hs2]; rfl), ?_⟩⟩
      have hz := rc_pl (t := t) (V := V) (pk := false) ha
      have ef : frm5 t sz V (fcl (nxt false t sz) V (m + 1) a cs) = ((rc (nxt false t sz) V 6 [] (nxt false t sz a)).2.2.2.1, 0, []) := by
        unfold frm5 fcl
        rw [hb]
        simp only [Bool.false_eq_true, if_false]
        rw [if_pos hz]
      rw [ef] at hq
      rw [r3.2.1]
      exact hq w2 hF2F (by rw [ej2]) (by rw [ej2]) (xI_i hF2 D 1 (by unfold mCl; omega)) (xI_i hF2 D 5 (by unfold mCl; omega)) (fun y => absurd y hz)
    | true =>
      refine ⟨fun _ => ⟨pK hs2 hp, ?_⟩, fun z => absurd (by decide) z⟩
      have ef : fcl (nxt false t sz) V (m + 1) a cs = fcl (nxt false t sz) V m (rc (nxt false t sz) V 6 [] (nxt false t sz a)).2.2.1 (cs ++ [(rc (nxt false t sz) V 6 [] (nxt false t sz a)).2.1]) := by
        conv => lhs; unfold fcl
        rw [if_pos hb]
      rw [ef] at hq
      refine c38 (n := cs.length) hp hs2 (by omega) ((xI_i hF2 D 4 (by unfold mCl; omega)).trans h4) r5 r2 (fun w3 p1 p2 p3 => b30_28 ?_)
      have hs3 := sh_I p1 hs2
      have ej3 : x_j w3 = x_j w := (xI_j p1).trans ej2
      rw [pr10 hs3 hp, (pk5 hs3 hp).1, (pk5 hs3 hp).2, t00, nI_1, ej3]
      refine ⟨pK hs3 hp, by omega, ⟨rfl, v0 (by omega) (by omega)⟩, ⟨rfl, v0 (by omega) (by omega)⟩, ?_⟩
      have hF3 : xF (mDi D) (mDj D) x_no w (x_sj w3 (D + 5) 0 (x_j w (D + 5) 0 ||| lb (cs.length + 1))) := xF_sj (xF_tr hF2F (xF_w p1 (by unfold mKe mDi; omega) (by unfold x_no; intro _ _ z; exact z.elim) (fun _ _ z => z))) (Or.inr rfl)
      have hl1 : (cs ++ [(rc (nxt false t sz) V 6 [] (nxt false t sz a)).2.1]).length = cs.length + 1 := by simp
      have := ih (rc (nxt false t sz) V 6 [] (nxt false t sz a)).2.2.1 (cs ++ [(rc (nxt false t sz) V 6 [] (nxt false t sz a)).2.1]) (x_sj w3 (D + 5) 0 (x_j w (D + 5) 0 ||| lb (cs.length + 1))) (sh_F hF3 h) (TT_D hp hF3 ht) (by omega) r6 ((xI_i p1 3 1 (by unfold mKe; omega)).trans r3.1) ((xI_i p1 D 2 (by unfold mKe; omega)).trans ((xI_i hF2 D 2 (by unfold mCl; omega)).trans h2)) (by rw [hl1]; exact p2) ?_ (cok_app hco (rc_ok hV 6 [] _ rfl cl1_nil)) ?_ ?_
      · rw [hl1] at this
        exact this
      · intro c hc
        rw [getD_appL]
        rw [hl1] at hc
        by_cases e : c < cs.length
        · rw [if_pos e]
          have hce := (cok_getD hco c).1
          exact PC_F (mi := fun p k => mCl D 3 p k ∨ mKe D cs.length p k) (mj := mDj D) (mr := x_no) (xF_sj (xF_tr (xF_w hF2 (fun _ _ z => Or.inl z) (by unfold x_no; intro _ _ z; exact z.elim) (fun _ _ z => z)) (xF_w p1 (fun _ _ z => Or.inr z) (by unfold x_no; intro _ _ z; exact z.elim) (fun _ _ z => z))) (Or.inr rfl)) (hR c e) (by unfold mCl mKe; omega) (by unfold mCl mKe; omega) (by unfold mCl mKe; omega)
        · have e2 : c = cs.length := by omega
          rw [if_neg e, if_pos e2, e2]
          exact p3
      · intro j hj
        rw [y_j_sj, if_pos ⟨rfl, rfl⟩, hc_or, hal j hj, hc_lb _ (by omega) j hj, hl1]
        rw [Bool.eq_iff_iff]
        simp only [Bool.or_eq_true, decide_eq_true_iff]
        omega
      · intro w' u1 u2 u3 u4 u5 u6
        refine hq w' (xF_tr hF3 u1) (u2.trans ?_) (u3.trans ?_) (u4.trans ?_) (u5.trans ?_) u6
        · simp only [y_i_si, y_j_si, y_r_si, y_k_si, y_l_si, y_N_si, y_i_sj, y_j_sj, y_r_sj, y_k_sj, y_l_sj, y_N_sj, y_i_sr, y_j_sr, y_r_sr, y_k_sr, y_l_sr, y_N_sr]; rw [if_neg (by omega), ej3]
        · simp only [y_i_si, y_j_si, y_r_si, y_k_si, y_l_si, y_N_si, y_i_sj, y_j_sj, y_r_sj, y_k_sj, y_l_sj, y_N_sj, y_i_sr, y_j_sr, y_r_sr, y_k_sr, y_l_sr, y_N_sr]; rw [if_neg (by omega), ej3]
        · exact (xI_i p1 D 1 (by unfold mKe; omega)).trans (xI_i hF2 D 1 (by unfold mCl; omega))
        · exact (xI_i p1 D 5 (by unfold mKe; omega)).trans (xI_i hF2 D 5 (by unfold mCl; omega))
theorem nxt_fw : (nxt false t sz a).2.1 - 1 ≤ (nxt false t sz a).1 := by
  show wF t sz a + 1 - 1 ≤ wN t sz a
  rw [Nat.add_sub_cancel]
  exact wN_ge
/-- readFormula -/
theorem c20 (hp : D = 5 ∨ D = 11) (h : SH w) (ht : TT w t sz) (hq : ∀ w', xF (mDi D) (mDj D) x_no w w' → ((fms t sz).1 = 0 → PF D w' (fms t sz).2.1 (fms t sz).2.2) → Q (.inl (some (.int (nI (fms t sz).1)))) w') : x_R x_prog scr 20 0 [some (.ref D), some (.ref 3)] [] w Q := by
  have t1 := ht.1
  -- what stands between two words
  have BI : ∃ B : xW → (Nat × Nat × Int) → Prop, (∀ w1 s, B w1 s ↔ (xF (mDi D) (mDj D) x_no w w1 ∧ SH w1 ∧ TT w1 t sz ∧ nxC 3 s w1 ∧ (∀ k, k < 6 → ¬ k = 2 → x_i w1 D k = 0) ∧ x_j w1 (D + 5) 0 = 0 ∧ x_j w1 D 11 = 0 ∧ x_j w1 D 12 = 0)) := ⟨_, fun _ _ => Iff.rfl⟩
  obtain ⟨B, hB⟩ := BI
  have step : ∀ (w1 : xW) (s : Nat × Nat × Int) (Q' : xO → xW → Prop), B w1 s → s.1 ≤ sz → (∀ w2, B w2 (nxt false t sz s.1) → x_i w2 D 2 = x_i w1 D 2 → Q' (.inl none) w2) → x_R x_prog scr 23 0 [some (.ref 3), none] [] w1 Q' := by
    intro w1 s Q' hb hs hq'
    obtain ⟨b1, b2, b3, b4, b5, b6, b7, b8⟩ := (hB _ _).mp hb
    refine c23 b2 b3 hs b4.1 (fun w2 q1 q2 => hq' w2 ((hB _ _).mpr ⟨xF_tr b1 (xF_w q1 (by unfold mA mDi; omega) (by unfold x_no; intro _ _ z; exact z.elim) (fun _ _ z => z)), sh_I q1 b2, TT_A (Or.inl rfl) q1 b3, q2, fun k hk hk2 => (xI_i q1 D k (by unfold mA; omega)).trans (b5 k hk hk2), by rw [xI_j q1]; exact b6, by rw [xI_j q1]; exact b7, by rw [xI_j q1]; exact b8⟩) (xI_i q1 D 2 (by unfold mA; omega)))
  have k5 : ∀ w1 s, B w1 s → x_k w1 3 = 5 := fun w1 s hb => by rw [sh_k ((hB _ _).mp hb).2.1]; rfl
  have pl : ∀ w1 s, B w1 s → x_i w1 3 2 = nI s.2.1 := fun w1 s hb => ((hB _ _).mp hb).2.2.2.1.2.1
  have vl : ∀ w1 s, B w1 s → x_i w1 3 3 = iI s.2.2 := fun w1 s hb => ((hB _ _).mp hb).2.2.2.1.2.2
  have fail : ∀ w1 s, B w1 s → fms t sz = (s.2.1, 0, []) → 1 ≤ s.2.1 → Q (.inl (some (.int (nI s.2.1)))) w1 := by
    intro w1 s hb he hs
    rw [he] at hq
    exact hq w1 ((hB _ _).mp hb).1 (fun z => absurd (show s.2.1 = 0 from z) (by omega))
  refine b20_0 ⟨pK h hp, c21 hp h (fun w1 p1 p2 p3 p4 p5 => b20_4 ?_)⟩
  have hs1 := sh_F p1 h
  have p1' : xF (mDi D) (mDj D) x_no w w1 := xF_w p1 (by unfold mDi; omega) (fun _ _ z => z) (fun _ _ z => z)
  refine ⟨fun _ => ?_, fun z => absurd (by rw [sh_k hs1]; rfl) z⟩
  refine c22 (Or.inl rfl) hs1 (fun w2 q1 q2 => b20_8 ?_)
  have hs2 := sh_I q1 hs1
  refine ⟨by rw [sh_k hs2]; rfl, c23 hs2 (TT_A (Or.inl rfl) q1 (TT_D hp p1' ht)) (Nat.zero_le _) q2 (fun w3 r1 r2 => ?_)⟩
  have hs3 := sh_I r1 hs2
  have hb3 : B w3 (nxt false t sz 0) := (hB _ _).mpr ⟨xF_tr p1' (xF_w (xI_tr q1 r1) (by unfold mA mDi; omega) (by unfold x_no; intro _ _ z; exact z.elim) (fun _ _ z => z)), hs3, TT_A (Or.inl rfl) (xI_tr q1 r1) (TT_D hp p1' ht), r2, fun k hk _ => (xI_i (xI_tr q1 r1) D k (by unfold mA; omega)).trans (p2 k hk), by rw [xI_j r1, xI_j q1]; exact p3, by rw [xI_j r1, xI_j q1]; exact p4, by rw [xI_j r1, xI_j q1]; exact p5⟩
  have ht3 := ((hB _ _).mp hb3).2.2.1
  have pl1 := nxt_pl (pk := false) (t := t) (Nat.zero_le sz)
  have le1 := nxt_le (pk := false) (t := t) (Nat.zero_le sz)
  refine b20_12 ⟨k5 _ _ hb3, c29 (T := 0) (cs := [112]) (f := (nxt false t sz 0).2.1 - 1) (Or.inl rfl) rfl (by decide) (by decide) hs3 ht3 r2.1 (r2.2.1.trans (congrArg nI (by omega))) nxt_fw le1 (b20_18 ?_)⟩
  by_cases hw1 : ¬ (isw t [112] (nxt false t sz 0) = true)
  · have e1 : decide ((nxt false t sz 0).1 = (nxt false t sz 0).2.1 - 1 + [112].length ∧ ∀ j, j < [112].length → 0 ≤ j → t ((nxt false t sz 0).2.1 - 1 + j) = [112].getD j 0) = false := Bool.eq_false_iff.mpr hw1
    rw [e1]
    refine ⟨fun z => absurd rfl z, fun _ => ⟨Or.inl (k5 _ _ hb3), ?_⟩⟩
    rw [pl _ _ hb3]
    exact fail _ _ hb3 (by unfold fms; rw [if_neg hw1]) pl1.1
  · replace hw1 := Classical.not_not.mp hw1
    have e1 : decide ((nxt false t sz 0).1 = (nxt false t sz 0).2.1 - 1 + [112].length ∧ ∀ j, j < [112].length → 0 ≤ j → t ((nxt false t sz 0).2.1 - 1 + j) = [112].getD j 0) = true := hw1
    rw [e1]
    have ef1 : fms t sz = frm2 t sz (nxt false t sz (nxt false t sz 0).1) := by unfold fms; rw [if_pos hw1]
    refine ⟨fun _ => ⟨k5 _ _ hb3, step w3 _ _ hb3 le1 (fun w4 hb4 _ => b20_30 ?_)⟩, fun z => absurd (by decide) z⟩
    generalize hs : nxt false t sz (nxt false t sz 0).1 = s2 at hb4 ef1
    have pl2 := nxt_pl (pk := false) (t := t) le1
    have le2 := nxt_le (pk := false) (t := t) le1
    have fw2 := nxt_fw (t := t) (sz := sz) (a := (nxt false t sz 0).1)
    rw [hs] at pl2 le2 fw2
    obtain ⟨-, hs4, ht4, n4, -⟩ := (hB _ _).mp hb4
    refine ⟨k5 _ _ hb4, c29 (T := 1) (cs := [99, 110, 102]) (f := s2.2.1 - 1) (Or.inr rfl) rfl (by decide) (by decide) hs4 ht4 n4.1 (n4.2.1.trans (congrArg nI (by omega))) fw2 le2 (b20_36 ?_)⟩
    by_cases hw2 : ¬ (isw t [99, 110, 102] s2 = true)
    · have e2 : decide (s2.1 = s2.2.1 - 1 + [99, 110, 102].length ∧ ∀ j, j < [99, 110, 102].length → 0 ≤ j → t (s2.2.1 - 1 + j) = [99, 110, 102].getD j 0) = false := Bool.eq_false_iff.mpr hw2
      rw [e2]
      refine ⟨fun z => absurd rfl z, fun _ => ⟨Or.inl (k5 _ _ hb4), ?_⟩⟩
      rw [pl _ _ hb4]
      exact fail _ _ hb4 (by rw [ef1]; unfold frm2; rw [if_neg hw2]) pl2.1
    · replace hw2 := Classical.not_not.mp hw2
      have e2 : decide (s2.1 = s2.2.1 - 1 + [99, 110, 102].length ∧ ∀ j, j < [99, 110, 102].length → 0 ≤ j → t (s2.2.1 - 1 + j) = [99, 110, 102].getD j 0) = true := hw2
      rw [e2]
      have ef2 : fms t sz = frm3 t sz (nxt false t sz s2.1) := by rw [ef1]; unfold frm2; rw [if_pos hw2]
      refine ⟨fun _ => ⟨k5 _ _ hb4, step w4 _ _ hb4 le2 (fun w5 hb5 _ => b20_48 ?_)⟩, fun z => absurd (by decide) z⟩
      have pl3 := nxt_pl (pk := false) (t := t) le2
      have le3 := nxt_le (pk := false) (t := t) le2
      have rg3 := nxt_rg (pk := false) (t := t) (sz := sz) (a := s2.1) ht.2.1
      generalize hs' : nxt false t sz s2.1 = s3 at hb5 ef2 pl3 le3 rg3
      have c56 : x_k w5 3 = 5 ∨ x_k w5 3 = 6 := Or.inl (k5 _ _ hb5)
      have g1 : iI s3.2.2 < 1 ↔ s3.2.2 < 1 := by rw [Int32.lt_iff_toInt_lt, iI_toInt (by omega) (by omega)]; rfl
      have g2 : iI s3.2.2 ≤ 16 ↔ s3.2.2 ≤ 16 := by rw [Int32.le_iff_toInt_le, iI_toInt (by omega) (by omega)]; rfl
      rw [pl _ _ hb5, vl _ _ hb5, g1, g2]
      have f3 : ¬ (1 ≤ s3.2.2 ∧ s3.2.2 ≤ 16) → Q (.inl (some (.int (nI s3.2.1)))) w5 := fun z => fail _ _ hb5 (by rw [ef2]; unfold frm3; rw [if_neg z]) pl3.1
      refine ⟨c56, fun z => ⟨c56, f3 (by omega)⟩, fun z => ⟨c56, fun y => ?_, fun y => ⟨c56, f3 (by omega)⟩⟩⟩
      obtain ⟨b1, b2, b3, b4, b5, b6, b7, b8⟩ := (hB _ _).mp hb5
      have ef3 : fms t sz = frm4 t sz s3.2.2.toNat (nxt false t sz s3.1) := by rw [ef2]; unfold frm3; rw [if_pos (by omega)]
      have eV : iI s3.2.2 = nI s3.2.2.toNat := by rw [← iI_n]; congr 1; omega
      have hbx : B (x_si w5 D 2 (iI s3.2.2)) s3 := (hB _ _).mpr ⟨xF_si b1 (Or.inl (by omega)), sh_si b2, TT_si b3 (by omega) (by omega) (by omega) (by omega), ⟨by rw [y_i_si, if_neg (by omega)]; exact b4.1, by rw [y_i_si, if_neg (by omega)]; exact b4.2.1, by rw [y_i_si, if_neg (by omega)]; exact b4.2.2⟩, fun k hk hk2 => by rw [y_i_si, if_neg (by omega)]; exact b5 k hk hk2, b6, b7, b8⟩
      refine ⟨c56, pK b2 hp, k5 _ _ hb5, step _ _ _ hbx le3 (fun w6 hb6 e62 => b20_82 ?_)⟩
      rw [y_i_si, if_pos ⟨rfl, rfl⟩, eV] at e62
      have pl4 := nxt_pl (pk := false) (t := t) le3
      have le4 := nxt_le (pk := false) (t := t) le3
      have rg4 := nxt_rg (pk := false) (t := t) (sz := sz) (a := s3.1) ht.2.1
      generalize hs'' : nxt false t sz s3.1 = s4 at hb6 ef3 pl4 le4 rg4
      have d56 : x_k w6 3 = 5 ∨ x_k w6 3 = 6 := Or.inl (k5 _ _ hb6)
      have g3 : iI s4.2.2 < 0 ↔ s4.2.2 < 0 := by rw [Int32.lt_iff_toInt_lt, iI_toInt (by omega) (by omega)]; rfl
      have g4 : iI s4.2.2 ≤ 40 ↔ s4.2.2 ≤ 40 := by rw [Int32.le_iff_toInt_le, iI_toInt (by omega) (by omega)]; rfl
      rw [pl _ _ hb6, vl _ _ hb6, g3, g4]
      have f4 : ¬ (0 ≤ s4.2.2 ∧ s4.2.2 ≤ 40) → Q (.inl (some (.int (nI s4.2.1)))) w6 := fun z => fail _ _ hb6 (by rw [ef3]; unfold frm4; rw [if_neg z]) pl4.1
      refine ⟨d56, fun z => ⟨d56, f4 (by omega)⟩, fun z => ⟨d56, fun y => ⟨d56, ?_⟩, fun y => ⟨d56, f4 (by omega)⟩⟩⟩
      obtain ⟨b1, b2, b3, b4, b5, b6, b7, b8⟩ := (hB _ _).mp hb6
      have ef4 : fms t sz = frm5 t sz s3.2.2.toNat (fcl (nxt false t sz) s3.2.2.toNat s4.2.2.toNat s4.1 []) := by rw [ef3]; unfold frm4; rw [if_pos (by omega)]
      have eM : iI s4.2.2 = nI s4.2.2.toNat := by rw [← iI_n]; congr 1; omega
      rw [ef4] at hq
      rw [eM]
      refine ⟨pK b2 hp, b30_0 ?_⟩
      refine c30_l (M := s4.2.2.toNat) hp (by omega) (by omega) s4.2.2.toNat s4.1 [] w6 b2 b3 (by simp) le4 b4.1 e62 (b5 4 (by omega) (by omega)) (fun c hc => absurd hc (by simp)) (fun x hx => by cases hx) (fun j hj => ?_) (fun w7 u1 u2 u3 u4 u5 u6 => b20_112 (hq w7 (xF_tr b1 u1) (fun y => ?_)))
      · rw [b6, hc_0]
        exact (decide_eq_false (by simp; omega)).symm
      · obtain ⟨v0, v2, v3, v4, v5, v6, v7, v8, v9⟩ := u6 y
        refine ⟨v0, u4.trans (b5 1 (by omega) (by omega)), by rw [v5]; exact v2, by rw [v6]; exact v3, by rw [v6]; exact v4, u5.trans (b5 5 (by omega) (by omega)), v7, fun j hj => ?_, u2.trans b7, u3.trans b8, by rw [v5]; omega, by rw [v6]; omega, v8⟩
        rw [v6]
        exact v9 j hj
end X39
