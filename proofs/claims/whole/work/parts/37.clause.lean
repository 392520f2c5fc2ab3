/-! A clause of the text: readClause of the class, clause of the reference. -/
def rc (nx : Nat → Nat × Nat × Int) (V : Nat) : Nat → List Int → (Nat × Nat × Int) → Bool × List Int × (Nat × Nat × Int)
  | 0, ls, s => (decide (s.2.2 = 0), ls, s)
  | d + 1, ls, s => if s.2.2 = 0 then (true, ls, s) else if jn V ls s.2.2 = true then rc nx V d (ls ++ [s.2.2]) (nx s.1) else (false, ls, s)
theorem rc_0 {nx : Nat → Nat × Nat × Int} {V d : Nat} {ls : List Int} {s : Nat × Nat × Int} (h : s.2.2 = 0) : rc nx V d ls s = (true, ls, s) := by
  cases d with
  | zero => unfold rc; rw [decide_eq_true h]
  | succ d => unfold rc; rw [if_pos h]
theorem rc_n {nx : Nat → Nat × Nat × Int} {V d : Nat} {ls : List Int} {s : Nat × Nat × Int} (h : ¬ s.2.2 = 0) (h2 : d = 0 ∨ jn V ls s.2.2 = false) : rc nx V d ls s = (false, ls, s) := by
  cases d with
  | zero => unfold rc; rw [decide_eq_false h]
  | succ d =>
    rcases h2 with h2 | h2
    · cases h2
    · unfold rc; rw [if_neg h, h2]; rfl
theorem rc_s {nx : Nat → Nat × Nat × Int} {V d : Nat} {ls : List Int} {s : Nat × Nat × Int} (h : ¬ s.2.2 = 0) (h2 : jn V ls s.2.2 = true) : rc nx V (d + 1) ls s = rc nx V d (ls ++ [s.2.2]) (nx s.1) := by
  conv => lhs; unfold rc
  rw [if_neg h, if_pos h2]
theorem rc_in {t : Nat → Nat} {sz V : Nat} {pk : Bool} : ∀ (d : Nat) (ls : List Int) (s : Nat × Nat × Int), s.1 ≤ sz → 1 ≤ s.2.1 → s.2.1 ≤ sz + 1 → (rc (nxt pk t sz) V d ls s).2.2.1 ≤ sz ∧ 1 ≤ (rc (nxt pk t sz) V d ls s).2.2.2.1 ∧ (rc (nxt pk t sz) V d ls s).2.2.2.1 ≤ sz + 1
  | 0, ls, s, h1, h2, h3 => ⟨h1, h2, h3⟩
  | d + 1, ls, s, h1, h2, h3 => by
    unfold rc
    split
    · exact ⟨h1, h2, h3⟩
    · split
      · exact rc_in d _ _ (nxt_le h1) (nxt_pl h1).1 (nxt_pl h1).2
      · exact ⟨h1, h2, h3⟩
theorem rc_pl {t : Nat → Nat} {sz V a : Nat} {pk : Bool} (ha : a ≤ sz) : ¬ (rc (nxt pk t sz) V 6 [] (nxt pk t sz a)).2.2.2.1 = 0 := by
  have := (rc_in (t := t) (pk := pk) (V := V) 6 [] (nxt pk t sz a) (nxt_le ha) (nxt_pl ha).1 (nxt_pl ha).2).2.1
  omega
theorem jn_lok {V : Nat} {ls : List Int} {v : Int} (hV : V ≤ 16) (h : jn V ls v = true) : lok v := by
  have h := of_decide_eq_true h
  unfold lok
  omega
theorem jn_big {V : Nat} {ls : List Int} {v : Int} (hV : V ≤ 16) (h : 16 < v) : jn V ls v = false := decide_eq_false (by omega)
/-- a clause that can be read -/
def cl1 (ls : List Int) : Prop := ls.length ≤ 6 ∧ (∀ l ∈ ls, lok l) ∧ ls.Pairwise (fun a b => ¬ a.natAbs = b.natAbs)
theorem rc_ok {nx : Nat → Nat × Nat × Int} {V : Nat} (hV : V ≤ 16) : ∀ (d : Nat) (ls : List Int) (s : Nat × Nat × Int), ls.length + d = 6 → cl1 ls → cl1 (rc nx V d ls s).2.1
  | 0, ls, s, h, hl => hl
  | d + 1, ls, s, h, hl => by
    unfold rc
    split
    · exact hl
    · split
      · rename_i hj
        have hj2 := of_decide_eq_true hj
        refine rc_ok hV d _ _ (by simp; omega) ⟨by simp; omega, fun l h2 => ?_, ?_⟩
        · rcases List.mem_append.mp h2 with h2 | h2
          · exact hl.2.1 l h2
          · rw [List.mem_singleton] at h2; rw [h2]; exact jn_lok hV hj
        · rw [List.pairwise_append]
          refine ⟨hl.2.2, List.pairwise_singleton _ _, fun a ha b hb => ?_⟩
          rw [List.mem_singleton] at hb
          rw [hb]
          exact hj2.2.2 a ha
      · exact hl
theorem cl1_nil : cl1 [] := ⟨by simp, fun l hl => (by cases hl), List.Pairwise.nil⟩
theorem getD_app (ls : List Int) (v : Int) (k : Nat) : (ls ++ [v]).getD k 0 = if k < ls.length then ls.getD k 0 else if k = ls.length then v else 0 := by
  simp only [List.getD_eq_getElem?_getD]
  by_cases h : k < ls.length
  · rw [if_pos h, List.getElem?_append_left h]
  · rw [if_neg h, List.getElem?_append_right (by omega)]
    by_cases e : k = ls.length
    · rw [if_pos e, e]; simp
    · rw [if_neg e, List.getElem?_eq_none]
      · rfl
      · simp; omega
theorem t00 : (0 : Int32).toNatClampNeg = 0 := rfl
theorem v0 {N : Nat} (h : 0 < N) (h2 : N < 2 ^ 31) : vp_in 0 N := vp_in_nI (n := 0) h h2
section X38
variable {scr : Nat × (Nat → Int32)} {w : xW} {Q : xO → xW → Prop} {t : Nat → Nat} {sz a P o V row : Nat} {pk : Bool} {v : Int} {ls : List Int} {o1 o2 o3 : Option Value}
/-- the reader at the cell o takes its next number -/
theorem cAdv {kd : Nat} (ho : (kd = 5 ∧ o = 3 ∧ pk = false) ∨ (kd = 6 ∧ o = 4 ∧ pk = true)) (h : SH w) (ht : TT w t sz) (ha : a ≤ sz) (h1 : x_i w o 1 = nI a) (hq : ∀ w', xI (mA o) w w' → nxC o (nxt pk t sz a) w' → Q (.inl none) w') :
    ((kd = 5 → x_R x_prog scr 23 0 [some (.ref o), none] [] w Q) ∧ (¬ kd = 5 → (kd = 6) ∧ x_R x_prog scr 35 0 [some (.ref o), none] [] w Q)) := by
  rcases ho with ⟨rfl, rfl, rfl⟩ | ⟨rfl, rfl, rfl⟩
  · exact ⟨fun _ => c23 h ht ha h1 hq, fun z => absurd rfl z⟩
  · exact ⟨fun z => absurd z (by decide), fun _ => ⟨rfl, c35 h ht ha h1 hq⟩⟩
/-- the clause that is being read: place 0 of the problem P -/
def CI (P : Nat) (ls : List Int) (w : xW) : Prop := x_i w (P + 2) 0 = nI ls.length ∧ x_i w (P + 3) 0 = mask ls ∧ ∀ k, k < ls.length → x_i w (P + 1) k = iI (ls.getD k 0)
def mCl (P o : Nat) : Nat → Nat → Prop := fun p k => (p = P + 1 ∧ k < 6) ∨ (p = P + 2 ∧ k = 0) ∨ (p = P + 3 ∧ k = 0) ∨ (p = o ∧ (k = 1 ∨ k = 2 ∨ k = 3))
def oK (o : Nat) (pk : Bool) : Prop := (o = 3 ∧ pk = false) ∨ (o = 4 ∧ pk = true)
theorem oK_k (ho : oK o pk) (h : SH w) : (x_k w o = 5 ∧ o = 3 ∧ pk = false) ∨ (x_k w o = 6 ∧ o = 4 ∧ pk = true) := by
  rcases ho with ⟨rfl, rfl⟩ | ⟨rfl, rfl⟩
  · exact Or.inl ⟨by rw [sh_k h]; rfl, rfl, rfl⟩
  · exact Or.inr ⟨by rw [sh_k h]; rfl, rfl, rfl⟩
theorem oK_o (ho : oK o pk) : o = 3 ∨ o = 4 := by
  rcases ho with ⟨rfl, -⟩ | ⟨rfl, -⟩
  · exact Or.inl rfl
  · exact Or.inr rfl
theorem oK_56 (ho : oK o pk) (h : SH w) : x_k w o = 5 ∨ x_k w o = 6 := by
  rcases oK_k ho h with h | h
  · exact Or.inl h.1
  · exact Or.inr h.1
theorem TT_Cl {w1 : xW} (hp : P = 5 ∨ P = 11) (ho : oK o pk) (q : xI (mCl P o) w w1) (ht : TT w t sz) : TT w1 t sz := by
  have := oK_o ho
  exact TT_I q ht (by unfold mCl; omega) (by unfold mCl; omega) (by unfold mCl; omega) (by unfold mCl; omega)
theorem c31_e {s : Nat × Nat × Int} (hs : nxC o s w) (hr : -9999 ≤ s.2.2 ∧ s.2.2 ≤ 20001) (hq : Q (.inl (some (.int (b32 (decide (s.2.2 = 0)))))) w) :
    ((¬ (x_i w o 3) = (0 : Int32) → ((0 : Int32) = 0 ∨ (0 : Int32) = 1) ∧ Q (.inl (some (.int 0))) w) ∧ (¬ (¬ (x_i w o 3) = (0 : Int32)) → ((1 : Int32) = 0 ∨ (1 : Int32) = 1) ∧ Q (.inl (some (.int 1))) w)) := by
  have g0 : iI s.2.2 = 0 ↔ s.2.2 = 0 := iI_eq (b := 0) (by omega) (by omega) (by omega) (by omega)
  rw [hs.2.2, g0]
  refine ⟨fun z => ⟨Or.inl rfl, ?_⟩, fun z => ⟨Or.inr rfl, ?_⟩⟩
  · rw [decide_eq_false z] at hq; exact hq
  · rw [decide_eq_true (Classical.not_not.mp z)] at hq; exact hq
theorem c31_l (hp : P = 5 ∨ P = 11) (ho : oK o pk) (hV : V ≤ 16) : ∀ (d : Nat) (ls : List Int) (s : Nat × Nat × Int) (w : xW), SH w → TT w t sz → ls.length + d = 6 → (∀ l ∈ ls, lok l) → CI P ls w → nxC o s w → s.1 ≤ sz → (-9999 ≤ s.2.2 ∧ s.2.2 ≤ 20001) → x_i w P 2 = nI V →
    (∀ w', xI (mCl P o) w w' → CI P (rc (nxt pk t sz) V d ls s).2.1 w' → nxC o (rc (nxt pk t sz) V d ls s).2.2 w' → (∀ l ∈ (rc (nxt pk t sz) V d ls s).2.1, lok l) → (rc (nxt pk t sz) V d ls s).2.1.length ≤ 6 → (rc (nxt pk t sz) V d ls s).2.2.1 ≤ sz → Q (.inl (some (.int (b32 (rc (nxt pk t sz) V d ls s).1)))) w') →
    x_R x_prog scr 31 16 [some (.ref P), some (.ref o), some (.int (nI ls.length))] [] w Q := by
  have hoo := oK_o ho
  intro d
  induction d with
  | zero =>
    intro ls s w h ht hd hls hC hs hs1 hr hP2 hq
    refine b31_16 ⟨fun _ => ⟨oK_56 ho h, ?_⟩, fun z => absurd (nI_le (a := 6) (by omega) (by omega)) z⟩
    exact c31_e hs hr (hq w xI_rf hC hs hls (by show ls.length ≤ 6; omega) hs1)
  | succ d ih =>
    intro ls s w h ht hd hls hC hs hs1 hr hP2 hq
    have g0 : iI s.2.2 = 0 ↔ s.2.2 = 0 := iI_eq (b := 0) (by omega) (by omega) (by omega) (by omega)
    refine b31_16 ⟨fun z => absurd z (nI_ge (b := 6) (by omega) (by omega)), fun _ => ⟨oK_56 ho h, fun z => ⟨oK_56 ho h, ?_⟩, fun z => ⟨oK_56 ho h, pK h hp, ?_⟩⟩⟩
    · have z0 : s.2.2 = 0 := by rw [hs.2.2, g0] at z; exact z
      rw [rc_0 z0] at hq
      have := hq w xI_rf hC hs hls (by show ls.length ≤ 6; omega) hs1
      exact c31_e hs hr (by rw [decide_eq_true z0]; exact this)
    · have z0 : ¬ s.2.2 = 0 := by rw [hs.2.2, g0] at z; exact z
      rw [pr8 h hp, (pk3 h hp).1, (pk3 h hp).2, t00, hC.2.1, hP2, hs.2.2]
      refine ⟨by omega, ⟨rfl, v0 (by omega) (by omega)⟩, pK h hp, c32 hV hls hr (b31_46 ?_)⟩
      cases hj : jn V ls s.2.2 with
      | false =>
        refine ⟨fun z => absurd rfl z, fun _ => ⟨Or.inl rfl, ?_⟩⟩
        rw [rc_n z0 (Or.inr hj)] at hq
        exact hq w xI_rf hC hs hls (by show ls.length ≤ 6; omega) hs1
      | true =>
        refine ⟨fun _ => ?_, fun z => absurd (by decide) z⟩
        have hlv := jn_lok hV hj
        rw [pr6 h hp, pr7 h hp, pr8 h hp, (pk1 h hp).1, (pk1 h hp).2, (pk2 h hp).1, (pk2 h hp).2, (pk3 h hp).1, (pk3 h hp).2, t00, nI_clamp (show ls.length < 2 ^ 31 by omega), hs.2.2, nI_1]
        have e1 : x_i (x_si (x_si w (P + 1) ls.length (iI s.2.2)) (P + 2) 0 (nI (ls.length + 1))) o 3 = iI s.2.2 := by
          rw [y_i_si, if_neg (by omega), y_i_si, if_neg (by omega), hs.2.2]
        have e2 : x_i (x_si (x_si w (P + 1) ls.length (iI s.2.2)) (P + 2) 0 (nI (ls.length + 1))) (P + 3) 0 = mask ls := by
          rw [y_i_si, if_neg (by omega), y_i_si, if_neg (by omega), hC.2.1]
        rw [e1, e2]
        refine ⟨pK h hp, by omega, oK_56 ho h, ⟨rfl, vp_in_nI (by omega) (by omega)⟩, pK h hp, by omega, ⟨rfl, v0 (by omega) (by omega)⟩, pK h hp, by omega, ⟨rfl, v0 (by omega) (by omega)⟩, oK_56 ho h, c34 hlv (b31_84 ?_)⟩
        simp only [y_k_si, y_l_si]
        rw [(pk3 h hp).1, (pk3 h hp).2, t00]
        refine ⟨⟨rfl, v0 (by omega) (by omega)⟩, ?_⟩
        have hF : xI (mCl P o) w (x_si (x_si (x_si w (P + 1) ls.length (iI s.2.2)) (P + 2) 0 (nI (ls.length + 1))) (P + 3) 0 (mask ls ||| sb (li s.2.2))) := xI_si (xI_si (xI_si xI_rf (Or.inl ⟨rfl, by omega⟩)) (Or.inr (Or.inl ⟨rfl, rfl⟩))) (Or.inr (Or.inr (Or.inl ⟨rfl, rfl⟩)))
        refine cAdv (oK_k ho h) (sh_I hF h) (TT_Cl hp ho hF ht) hs1 ?_ (fun w2 q1 q2 => b31_90 ?_)
        · rw [y_i_si, if_neg (by omega), y_i_si, if_neg (by omega), y_i_si, if_neg (by omega), hs.1]
        · rw [nI_1]
          have hF2 : xI (mCl P o) w w2 := xI_tr hF (xI_w q1 (by unfold mA mCl; omega))
          have hl1 : (ls ++ [s.2.2]).length = ls.length + 1 := by simp
          rw [rc_s z0 hj] at hq
          have hC2 : CI P (ls ++ [s.2.2]) w2 := by
            refine ⟨?_, ?_, fun k hk => ?_⟩
            · rw [xI_i q1 (P + 2) 0 (by unfold mA; omega), y_i_si, if_neg (by omega), y_i_si, if_pos ⟨rfl, rfl⟩, hl1]
            · rw [xI_i q1 (P + 3) 0 (by unfold mA; omega), y_i_si, if_pos ⟨rfl, rfl⟩, mask_app]
            · rw [xI_i q1 (P + 1) k (by unfold mA; omega), y_i_si, if_neg (by omega), y_i_si, if_neg (by omega), y_i_si, getD_app]
              rw [hl1] at hk
              by_cases e : k < ls.length
              · rw [if_neg (by omega), if_pos e]; exact hC.2.2 k e
              · have e2 : k = ls.length := by omega
                rw [if_pos ⟨rfl, e2⟩, if_neg e, if_pos e2]
          have := ih (ls ++ [s.2.2]) (nxt pk t sz s.1) w2 (sh_I hF2 h) (TT_Cl hp ho hF2 ht) (by omega) (fun l hl => by
            rcases List.mem_append.mp hl with hl | hl
            · exact hls l hl
            · rw [List.mem_singleton] at hl; rw [hl]; exact hlv) hC2 q2 (nxt_le hs1) (nxt_rg ht.2.1) ((xI_i hF2 P 2 (by unfold mCl; omega)).trans hP2) (fun w' r1 r2 r3 r4 r5 r6 => hq w' (xI_tr hF2 r1) r2 r3 r4 r5 r6)
          rw [hl1] at this
          exact this
/-- readClause -/
theorem c31 {s : Nat × Nat × Int} (hp : P = 5 ∨ P = 11) (ho : oK o pk) (hV : V ≤ 16) (h : SH w) (ht : TT w t sz) (hs : nxC o s w) (hs1 : s.1 ≤ sz) (hr : -9999 ≤ s.2.2 ∧ s.2.2 ≤ 20001) (hP2 : x_i w P 2 = nI V)
    (hq : ∀ w', xI (mCl P o) w w' → CI P (rc (nxt pk t sz) V 6 [] s).2.1 w' → nxC o (rc (nxt pk t sz) V 6 [] s).2.2 w' → (∀ l ∈ (rc (nxt pk t sz) V 6 [] s).2.1, lok l) → (rc (nxt pk t sz) V 6 [] s).2.1.length ≤ 6 → (rc (nxt pk t sz) V 6 [] s).2.2.1 ≤ sz → Q (.inl (some (.int (b32 (rc (nxt pk t sz) V 6 [] s).1)))) w') :
    x_R x_prog scr 31 0 [some (.ref P), some (.ref o), o2] [] w Q := by
  have hoo := oK_o ho
  refine b31_0 ?_
  rw [pr7 h hp, pr8 h hp, (pk2 h hp).1, (pk2 h hp).2, (pk3 h hp).1, (pk3 h hp).2, t00]
  refine ⟨pK h hp, by omega, ⟨rfl, v0 (by omega) (by omega)⟩, pK h hp, by omega, ⟨rfl, v0 (by omega) (by omega)⟩, ?_⟩
  have hF : xI (mCl P o) w (x_si (x_si w (P + 2) 0 0) (P + 3) 0 0) := xI_si (xI_si xI_rf (Or.inr (Or.inl ⟨rfl, rfl⟩))) (Or.inr (Or.inr (Or.inl ⟨rfl, rfl⟩)))
  have e : ∀ k, x_i (x_si (x_si w (P + 2) 0 0) (P + 3) 0 0) o k = x_i w o k := fun k => by rw [y_i_si, if_neg (by omega), y_i_si, if_neg (by omega)]
  refine c31_l hp ho hV 6 [] s _ (sh_I hF h) (TT_Cl hp ho hF ht) rfl (fun l hl => by cases hl) ⟨?_, ?_, fun k hk => absurd hk (by simp)⟩ ?_ hs1 hr ((xI_i hF P 2 (by unfold mCl; omega)).trans hP2) (fun w' r1 r2 r3 r4 r5 r6 => hq w' (xI_tr hF r1) r2 r3 r4 r5 r6)
  · rw [y_i_si, if_neg (by omega), y_i_si, if_pos ⟨rfl, rfl⟩]; rfl
  · rw [y_i_si, if_pos ⟨rfl, rfl⟩]; rfl
  · exact ⟨(e 1).trans hs.1, (e 2).trans hs.2.1, (e 3).trans hs.2.2⟩
/-- size of the reference -/
theorem c53 (hv : -20001 ≤ v ∧ v ≤ 20001) (hq : Q (.inl (some (.int (nI v.natAbs)))) w) : x_R x_prog scr 53 0 [some (.int (iI v))] [] w Q := by
  have g : (0 : Int32) ≤ iI v ↔ 0 ≤ v := by rw [Int32.le_iff_toInt_le, iI_toInt (by omega) (by omega)]; rfl
  refine b53_0 ?_
  rw [g]
  refine ⟨fun z => ?_, fun z => ?_⟩
  · have e : iI v = nI v.natAbs := by rw [← iI_n]; congr 1; omega
    rw [e]; exact hq
  · have e : - iI v = nI v.natAbs := by
      have e2 : iI v = - nI v.natAbs := by rw [iI_neg (by omega)]; congr 1; omega
      rw [e2, Int32.neg_neg]
    rw [e]; exact hq
/-- the clause in the row of the reference's new clauses -/
def LI (row : Nat) (ls : List Int) (w : xW) : Prop := x_i w 45 row = nI ls.length ∧ ∀ k, k < ls.length → x_i w 44 (6 * row + k) = iI (ls.getD k 0)
theorem lok_getD (hls : ∀ l ∈ ls, lok l) {k : Nat} (hk : k < ls.length) : lok (ls.getD k 0) := by
  rw [List.getD_eq_getElem?_getD, List.getElem?_eq_getElem hk]
  exact hls _ (List.getElem_mem hk)
theorem c52_l (hrow : row < 81) (h : SH w) (hls : ∀ l ∈ ls, lok l) (hl6 : ls.length ≤ 6) (hL : LI row ls w) (hv : -9999 ≤ v ∧ v ≤ 9999) (h18 : x_i w 36 18 = iI v) : ∀ (d k : Nat) (g : Bool), k + d = ls.length →
    Q (.inl (some (.int (b32 (g && decide (∀ j, j < ls.length → k ≤ j → ¬ (ls.getD j 0).natAbs = v.natAbs)))))) w →
    x_R x_prog scr 52 33 [some (.ref 36), some (.int (nI row)), some (.int (b32 g)), some (.int (nI k))] [] w Q := by
  intro d
  induction d with
  | zero =>
    intro k g hk hq
    have hc : nI ls.length ≤ nI k := nI_le (by omega) (by omega)
    refine b52_33 ?_
    simp only [sh_k h, sh_l h, sh_n h, kk36, sr36_2 h, sr36_8 h, sr36_9 h, sr36_12 h, sr36_13 h, sr36_14 h, sr36_15 h, sr36_21 h, sr36_22 h, sr36_23 h, sr36_25 h, sr36_27 h, sr36_28 h, sr36_29 h, sr36_30 h, sr36_31 h, sr36_35 h, sr36_36 h, sr36_37 h, sr36_38 h, sr36_40 h, sr36_41 h, sr36_42 h, sr36_44 h, sr36_45 h, sr36_46 h, sr36_47 h, sr36_48 h, sr36_49 h, sr36_51 h, sr36_52 h, sr36_53 h, sr36_54 h, sr36_55 h, kk45, ll45, nI_clamp (show row < 2 ^ 31 by omega), hL.1, hc, true_and, and_true, false_and, and_false, and_self, not_false_eq_true, not_true_eq_false, true_implies, false_implies, implies_true, true_or, or_true, or_self, if_true, if_false, Nat.reduceEqDiff, reduceIte, eq_self, vp_in_nI (show row < 81 by omega) (by omega)]
    refine ⟨by cases g; exact Or.inl rfl; exact Or.inr rfl, ?_⟩
    rw [decide_eq_true (fun j h2 h1 => by omega), Bool.and_true] at hq
    exact hq
  | succ d ih =>
    intro k g hk hq
    have hc : ¬ nI ls.length ≤ nI k := nI_ge (by omega) (by omega)
    refine b52_33 ?_
    simp only [sh_k h, sh_l h, sh_n h, kk36, sr36_2 h, sr36_8 h, sr36_9 h, sr36_12 h, sr36_13 h, sr36_14 h, sr36_15 h, sr36_21 h, sr36_22 h, sr36_23 h, sr36_25 h, sr36_27 h, sr36_28 h, sr36_29 h, sr36_30 h, sr36_31 h, sr36_35 h, sr36_36 h, sr36_37 h, sr36_38 h, sr36_40 h, sr36_41 h, sr36_42 h, sr36_44 h, sr36_45 h, sr36_46 h, sr36_47 h, sr36_48 h, sr36_49 h, sr36_51 h, sr36_52 h, sr36_53 h, sr36_54 h, sr36_55 h, kk44, ll44, kk45, ll45, nI_clamp (show row < 2 ^ 31 by omega), hL.1, hc, true_and, and_true, false_and, and_false, and_self, not_false_eq_true, not_true_eq_false, true_implies, false_implies, implies_true, true_or, or_true, or_self, if_true, if_false, Nat.reduceEqDiff, reduceIte, eq_self, vp_in_nI (show row < 81 by omega) (by omega)]
    refine ⟨fun z => ⟨by cases g; exact Or.inl rfl; exact Or.inr rfl, ?_⟩, fun z => ?_⟩
    · cases g with
      | false => exact hq
      | true => exact absurd z (by decide)
    · have e6 : (6 : Int32) * nI row + nI k = nI (6 * row + k) := by rw [show (6 : Int32) = nI 6 from rfl, pk_mul, nI_add]
      rw [e6, nI_clamp (by omega), hL.2 k (by omega)]
      have hlk := lok_getD hls (show k < ls.length by omega)
      refine ⟨vp_in_nI (by omega) (by omega), c53 (by unfold lok at hlk; omega) (b52_61 ?_)⟩
      simp only [sh_k h, sh_l h, sh_n h, kk36, sr36_2 h, sr36_8 h, sr36_9 h, sr36_12 h, sr36_13 h, sr36_14 h, sr36_15 h, sr36_21 h, sr36_22 h, sr36_23 h, sr36_25 h, sr36_27 h, sr36_28 h, sr36_29 h, sr36_30 h, sr36_31 h, sr36_35 h, sr36_36 h, sr36_37 h, sr36_38 h, sr36_40 h, sr36_41 h, sr36_42 h, sr36_44 h, sr36_45 h, sr36_46 h, sr36_47 h, sr36_48 h, sr36_49 h, sr36_51 h, sr36_52 h, sr36_53 h, sr36_54 h, sr36_55 h, true_and, and_true, false_and, and_false, and_self, not_false_eq_true, not_true_eq_false, true_implies, false_implies, implies_true, true_or, or_true, or_self, if_true, if_false, Nat.reduceEqDiff, reduceIte, eq_self, h18]
      refine c53 (by omega) (b52_68 ?_)
      cases g with
      | false => exact absurd rfl z
      | true =>
        unfold lok at hlk
        rw [nI_eq (by omega) (by omega), nI_1]
        refine ⟨fun y => ih (k + 1) false (by omega) ?_, fun y => ih (k + 1) true (by omega) ?_⟩
        · rw [decide_eq_false (fun q => q k (by omega) (Nat.le_refl _) y)] at hq
          exact hq
        · have e : (∀ j, j < ls.length → k ≤ j → ¬ (ls.getD j 0).natAbs = v.natAbs) ↔ (∀ j, j < ls.length → k + 1 ≤ j → ¬ (ls.getD j 0).natAbs = v.natAbs) := by
            constructor
            · intro q j h2 h1; exact q j h2 (by omega)
            · intro q j h2 h1
              by_cases e : j = k
              · subst e; exact y
              · exact q j h2 (by omega)
          rw [decide_eq_decide.mpr e] at hq
          exact hq
theorem all_getD (ls : List Int) (p : Int → Prop) : (∀ l ∈ ls, p l) ↔ ∀ j, j < ls.length → 0 ≤ j → p (ls.getD j 0) := by
  constructor
  · intro h j hj _
    rw [List.getD_eq_getElem?_getD, List.getElem?_eq_getElem hj]
    exact h _ (List.getElem_mem hj)
  · intro h l hl
    obtain ⟨j, hj, rfl⟩ := List.getElem_of_mem hl
    have := h j hj (Nat.zero_le _)
    rw [List.getD_eq_getElem?_getD, List.getElem?_eq_getElem hj] at this
    exact this
/-- fits -/
theorem c52 (hrow : row < 81) (hV : V ≤ 16) (h : SH w) (hls : ∀ l ∈ ls, lok l) (hl6 : ls.length ≤ 6) (hL : LI row ls w) (hv : -9999 ≤ v ∧ v ≤ 9999) (hv0 : ¬ v = 0) (h18 : x_i w 36 18 = iI v) (h20 : x_i w 36 20 = nI V)
    (hq : Q (.inl (some (.int (b32 (decide (ls.length < 6) && jn V ls v))))) w) : x_R x_prog scr 52 0 [some (.ref 36), some (.int (nI row)), o2, o3] [] w Q := by
  refine b52_0 ?_
  simp only [sh_k h, sh_l h, sh_n h, kk36, sr36_2 h, sr36_8 h, sr36_9 h, sr36_12 h, sr36_13 h, sr36_14 h, sr36_15 h, sr36_21 h, sr36_22 h, sr36_23 h, sr36_25 h, sr36_27 h, sr36_28 h, sr36_29 h, sr36_30 h, sr36_31 h, sr36_35 h, sr36_36 h, sr36_37 h, sr36_38 h, sr36_40 h, sr36_41 h, sr36_42 h, sr36_44 h, sr36_45 h, sr36_46 h, sr36_47 h, sr36_48 h, sr36_49 h, sr36_51 h, sr36_52 h, sr36_53 h, sr36_54 h, sr36_55 h, true_and, and_true, false_and, and_false, and_self, not_false_eq_true, not_true_eq_false, true_implies, false_implies, implies_true, true_or, or_true, or_self, if_true, if_false, Nat.reduceEqDiff, reduceIte, eq_self, h18]
  refine c53 (by omega) (b52_7 ?_)
  have e6 : (6 : Int32) ≤ nI ls.length ↔ 6 ≤ ls.length := nI_leI (a := 6) (by omega) (by omega)
  simp only [sh_k h, sh_l h, sh_n h, kk36, sr36_2 h, sr36_8 h, sr36_9 h, sr36_12 h, sr36_13 h, sr36_14 h, sr36_15 h, sr36_21 h, sr36_22 h, sr36_23 h, sr36_25 h, sr36_27 h, sr36_28 h, sr36_29 h, sr36_30 h, sr36_31 h, sr36_35 h, sr36_36 h, sr36_37 h, sr36_38 h, sr36_40 h, sr36_41 h, sr36_42 h, sr36_44 h, sr36_45 h, sr36_46 h, sr36_47 h, sr36_48 h, sr36_49 h, sr36_51 h, sr36_52 h, sr36_53 h, sr36_54 h, sr36_55 h, kk45, ll45, true_and, and_true, false_and, and_false, and_self, not_false_eq_true, not_true_eq_false, true_implies, false_implies, implies_true, true_or, or_true, or_self, if_true, if_false, Nat.reduceEqDiff, reduceIte, eq_self, h20, hL.1, nI_clamp (show row < 2 ^ 31 by omega), nI_ltI (show V < 2 ^ 31 by omega) (show v.natAbs < 2 ^ 31 by omega), e6, vp_in_nI (show row < 81 by omega) (show 81 < 2 ^ 31 by omega)]
  have e : (decide (ls.length < 6) && jn V ls v) = (decide (ls.length < 6 ∧ v.natAbs ≤ V) && decide (∀ j, j < ls.length → 0 ≤ j → ¬ (ls.getD j 0).natAbs = v.natAbs)) := by
    unfold jn
    rw [Bool.eq_iff_iff]
    simp only [Bool.and_eq_true, decide_eq_true_iff]
    rw [all_getD ls (fun l => ¬ l.natAbs = v.natAbs)]
    constructor
    · rintro ⟨a, b, c, d⟩; exact ⟨⟨a, c⟩, d⟩
    · rintro ⟨⟨a, c⟩, d⟩; exact ⟨a, hv0, c, d⟩
  rw [e] at hq
  refine ⟨fun z => c52_l hrow h hls hl6 hL hv h18 ls.length 0 false (by omega) ?_, fun z => ⟨fun y => c52_l hrow h hls hl6 hL hv h18 ls.length 0 false (by omega) ?_, fun y => c52_l hrow h hls hl6 hL hv h18 ls.length 0 true (by omega) ?_⟩⟩
  · rw [decide_eq_false (by omega : ¬ (ls.length < 6 ∧ v.natAbs ≤ V))] at hq; exact hq
  · rw [decide_eq_false (by omega : ¬ (ls.length < 6 ∧ v.natAbs ≤ V))] at hq; exact hq
  · rw [decide_eq_true (by omega : ls.length < 6 ∧ v.natAbs ≤ V)] at hq; exact hq
def mCR (row : Nat) : Nat → Nat → Prop := fun p k => (p = 36 ∧ (k = 16 ∨ k = 17 ∨ k = 18)) ∨ (p = 44 ∧ 6 * row ≤ k ∧ k < 6 * row + 6) ∨ (p = 45 ∧ k = row)
theorem c51_l (hrow : row < 81) (hV : V ≤ 16) : ∀ (d : Nat) (ls : List Int) (s : Nat × Nat × Int) (w : xW) (r : Int32), SH w → TT w t sz → ls.length + d = 6 → (∀ l ∈ ls, lok l) → LI row ls w → nxR pk s w r → s.1 ≤ sz → (1 ≤ s.2.1 ∧ s.2.1 ≤ sz + 1) → (-9999 ≤ s.2.2 ∧ s.2.2 ≤ 20001) → x_i w 36 20 = nI V → x_i w 36 19 = b32 pk →
    (∀ w' r', xI (mCR row) w w' → ((rc (nxt pk t sz) V d ls s).1 = true → r' = 0 ∧ LI row (rc (nxt pk t sz) V d ls s).2.1 w' ∧ x_i w' 36 16 = nI (rc (nxt pk t sz) V d ls s).2.2.1) → ((rc (nxt pk t sz) V d ls s).1 = false → r' = nI (rc (nxt pk t sz) V d ls s).2.2.2.1 ∧ ¬ r' = 0) → Q (.inl (some (.int r'))) w') →
    x_R x_prog scr 51 12 [some (.ref 36), some (.int (nI row)), some (.int r)] [] w Q := by
  intro d
  induction d with
  | zero =>
    intro ls s w r h ht hd hls hL hs hs1 hpl hrg h20 h19 hq
    have t1 := ht.1
    have hl6 : ls.length = 6 := by omega
    have fail : ¬ s.2.2 = 0 → ∀ w', xI (mCR row) w w' → Q (.inl (some (.int (nI s.2.1)))) w' := by
      intro z w' q
      rw [rc_n z (Or.inl rfl)] at hq
      exact hq w' _ q (fun y => by cases y) (fun _ => ⟨rfl, nI_ne0 (by omega) (by omega)⟩)
    rcases hs with ⟨q1, rfl, q3, q4, q5⟩ | ⟨q1, rfl⟩ | ⟨-, q1, rfl, q3, q5⟩
    · have g0 : iI s.2.2 = 0 ↔ s.2.2 = 0 := iI_eq (b := 0) (by omega) (by omega) (by omega) (by omega)
      refine b51_12 ⟨fun z => absurd rfl z, fun _ => ?_⟩
      simp only [sh_k h, sh_l h, sh_n h, kk36, sr36_2 h, sr36_8 h, sr36_9 h, sr36_12 h, sr36_13 h, sr36_14 h, sr36_15 h, sr36_21 h, sr36_22 h, sr36_23 h, sr36_25 h, sr36_27 h, sr36_28 h, sr36_29 h, sr36_30 h, sr36_31 h, sr36_35 h, sr36_36 h, sr36_37 h, sr36_38 h, sr36_40 h, sr36_41 h, sr36_42 h, sr36_44 h, sr36_45 h, sr36_46 h, sr36_47 h, sr36_48 h, sr36_49 h, sr36_51 h, sr36_52 h, sr36_53 h, sr36_54 h, sr36_55 h, true_and, and_true, false_and, and_false, and_self, not_false_eq_true, not_true_eq_false, true_implies, false_implies, implies_true, true_or, or_true, or_self, if_true, if_false, Nat.reduceEqDiff, reduceIte, eq_self, q3, g0]
      refine ⟨fun z => ?_, fun z => c52 hrow hV h hls (by omega) hL (by omega) z q3 h20 ?_⟩
      · rw [rc_0 z] at hq
        exact hq w _ xI_rf (fun _ => ⟨rfl, hL, q4⟩) (fun y => by cases y)
      · rw [decide_eq_false (by omega), Bool.false_and]
        refine b51_28 ⟨fun y => absurd rfl y, fun _ => ?_⟩
        simp only [sh_k h, sh_l h, sh_n h, kk36, sr36_2 h, sr36_8 h, sr36_9 h, sr36_12 h, sr36_13 h, sr36_14 h, sr36_15 h, sr36_21 h, sr36_22 h, sr36_23 h, sr36_25 h, sr36_27 h, sr36_28 h, sr36_29 h, sr36_30 h, sr36_31 h, sr36_35 h, sr36_36 h, sr36_37 h, sr36_38 h, sr36_40 h, sr36_41 h, sr36_42 h, sr36_44 h, sr36_45 h, sr36_46 h, sr36_47 h, sr36_48 h, sr36_49 h, sr36_51 h, sr36_52 h, sr36_53 h, sr36_54 h, sr36_55 h, true_and, and_true, false_and, and_false, and_self, not_false_eq_true, not_true_eq_false, true_implies, false_implies, implies_true, true_or, or_true, or_self, if_true, if_false, Nat.reduceEqDiff, reduceIte, eq_self, q5]
        exact fail z w xI_rf
    · refine b51_12 ⟨fun _ => fail (by omega) w xI_rf, fun z => absurd (nI_ne0 (by omega) (by omega)) z⟩
    · refine b51_12 ⟨fun z => absurd rfl z, fun _ => ?_⟩
      have e9 : (9999 : Int32) = iI 9999 := by decide
      simp only [sh_k h, sh_l h, sh_n h, kk36, sr36_2 h, sr36_8 h, sr36_9 h, sr36_12 h, sr36_13 h, sr36_14 h, sr36_15 h, sr36_21 h, sr36_22 h, sr36_23 h, sr36_25 h, sr36_27 h, sr36_28 h, sr36_29 h, sr36_30 h, sr36_31 h, sr36_35 h, sr36_36 h, sr36_37 h, sr36_38 h, sr36_40 h, sr36_41 h, sr36_42 h, sr36_44 h, sr36_45 h, sr36_46 h, sr36_47 h, sr36_48 h, sr36_49 h, sr36_51 h, sr36_52 h, sr36_53 h, sr36_54 h, sr36_55 h, true_and, and_true, false_and, and_false, and_self, not_false_eq_true, not_true_eq_false, true_implies, false_implies, implies_true, true_or, or_true, or_self, if_true, if_false, Nat.reduceEqDiff, reduceIte, eq_self, q3]
      refine ⟨fun z => absurd z (by decide), fun _ => c52 (v := 9999) hrow hV h hls (by omega) hL (by omega) (by omega) (q3.trans e9) h20 ?_⟩
      rw [jn_big hV (by omega), Bool.and_false]
      refine b51_28 ⟨fun y => absurd rfl y, fun _ => ?_⟩
      simp only [sh_k h, sh_l h, sh_n h, kk36, sr36_2 h, sr36_8 h, sr36_9 h, sr36_12 h, sr36_13 h, sr36_14 h, sr36_15 h, sr36_21 h, sr36_22 h, sr36_23 h, sr36_25 h, sr36_27 h, sr36_28 h, sr36_29 h, sr36_30 h, sr36_31 h, sr36_35 h, sr36_36 h, sr36_37 h, sr36_38 h, sr36_40 h, sr36_41 h, sr36_42 h, sr36_44 h, sr36_45 h, sr36_46 h, sr36_47 h, sr36_48 h, sr36_49 h, sr36_51 h, sr36_52 h, sr36_53 h, sr36_54 h, sr36_55 h, true_and, and_true, false_and, and_false, and_self, not_false_eq_true, not_true_eq_false, true_implies, false_implies, implies_true, true_or, or_true, or_self, if_true, if_false, Nat.reduceEqDiff, reduceIte, eq_self, q5]
      exact fail (by omega) w xI_rf
  | succ d ih =>
    intro ls s w r h ht hd hls hL hs hs1 hpl hrg h20 h19 hq
    have t1 := ht.1
    have fail : ¬ s.2.2 = 0 → jn V ls s.2.2 = false → ∀ w', xI (mCR row) w w' → Q (.inl (some (.int (nI s.2.1)))) w' := by
      intro z y w' q
      rw [rc_n z (Or.inr y)] at hq
      exact hq w' _ q (fun y => by cases y) (fun _ => ⟨rfl, nI_ne0 (by omega) (by omega)⟩)
    rcases hs with ⟨q1, rfl, q3, q4, q5⟩ | ⟨q1, rfl⟩ | ⟨-, q1, rfl, q3, q5⟩
    · have g0 : iI s.2.2 = 0 ↔ s.2.2 = 0 := iI_eq (b := 0) (by omega) (by omega) (by omega) (by omega)
      refine b51_12 ⟨fun z => absurd rfl z, fun _ => ?_⟩
      simp only [sh_k h, sh_l h, sh_n h, kk36, sr36_2 h, sr36_8 h, sr36_9 h, sr36_12 h, sr36_13 h, sr36_14 h, sr36_15 h, sr36_21 h, sr36_22 h, sr36_23 h, sr36_25 h, sr36_27 h, sr36_28 h, sr36_29 h, sr36_30 h, sr36_31 h, sr36_35 h, sr36_36 h, sr36_37 h, sr36_38 h, sr36_40 h, sr36_41 h, sr36_42 h, sr36_44 h, sr36_45 h, sr36_46 h, sr36_47 h, sr36_48 h, sr36_49 h, sr36_51 h, sr36_52 h, sr36_53 h, sr36_54 h, sr36_55 h, true_and, and_true, false_and, and_false, and_self, not_false_eq_true, not_true_eq_false, true_implies, false_implies, implies_true, true_or, or_true, or_self, if_true, if_false, Nat.reduceEqDiff, reduceIte, eq_self, q3, g0]
      refine ⟨fun z => ?_, fun z => c52 hrow hV h hls (by omega) hL (by omega) z q3 h20 ?_⟩
      · rw [rc_0 z] at hq
        exact hq w _ xI_rf (fun _ => ⟨rfl, hL, q4⟩) (fun y => by cases y)
      · rw [decide_eq_true (by omega : ls.length < 6), Bool.true_and]
        cases hj : jn V ls s.2.2 with
        | false =>
          refine b51_28 ⟨fun y => absurd rfl y, fun _ => ?_⟩
          simp only [sh_k h, sh_l h, sh_n h, kk36, sr36_2 h, sr36_8 h, sr36_9 h, sr36_12 h, sr36_13 h, sr36_14 h, sr36_15 h, sr36_21 h, sr36_22 h, sr36_23 h, sr36_25 h, sr36_27 h, sr36_28 h, sr36_29 h, sr36_30 h, sr36_31 h, sr36_35 h, sr36_36 h, sr36_37 h, sr36_38 h, sr36_40 h, sr36_41 h, sr36_42 h, sr36_44 h, sr36_45 h, sr36_46 h, sr36_47 h, sr36_48 h, sr36_49 h, sr36_51 h, sr36_52 h, sr36_53 h, sr36_54 h, sr36_55 h, true_and, and_true, false_and, and_false, and_self, not_false_eq_true, not_true_eq_false, true_implies, false_implies, implies_true, true_or, or_true, or_self, if_true, if_false, Nat.reduceEqDiff, reduceIte, eq_self, q5]
          exact fail z hj w xI_rf
        | true =>
          have hlv := jn_lok hV hj
          have e6 : (6 : Int32) * nI row + nI ls.length = nI (6 * row + ls.length) := by rw [show (6 : Int32) = nI 6 from rfl, pk_mul, nI_add]
          refine b51_28 ⟨fun _ => ?_, fun y => absurd (by decide) y⟩
          simp only [sh_k h, sh_l h, sh_n h, kk36, sr36_2 h, sr36_8 h, sr36_9 h, sr36_12 h, sr36_13 h, sr36_14 h, sr36_15 h, sr36_21 h, sr36_22 h, sr36_23 h, sr36_25 h, sr36_27 h, sr36_28 h, sr36_29 h, sr36_30 h, sr36_31 h, sr36_35 h, sr36_36 h, sr36_37 h, sr36_38 h, sr36_40 h, sr36_41 h, sr36_42 h, sr36_44 h, sr36_45 h, sr36_46 h, sr36_47 h, sr36_48 h, sr36_49 h, sr36_51 h, sr36_52 h, sr36_53 h, sr36_54 h, sr36_55 h, kk44, ll44, kk45, ll45, true_and, and_true, false_and, and_false, and_self, not_false_eq_true, not_true_eq_false, true_implies, false_implies, implies_true, true_or, or_true, or_self, if_true, if_false, Nat.reduceEqDiff, reduceIte, eq_self, hL.1, q3, e6, nI_clamp (show row < 2 ^ 31 by omega), nI_clamp (show 6 * row + ls.length < 2 ^ 31 by omega), vp_in_nI (show row < 81 by omega) (show 81 < 2 ^ 31 by omega), vp_in_nI (show 6 * row + ls.length < 486 by omega) (show 486 < 2 ^ 31 by omega)]
          have e7 : x_i (x_si w 44 (6 * row + ls.length) (iI s.2.2)) 45 row + 1 = nI (ls.length + 1) := by rw [y_i_si, if_neg (by omega), hL.1, nI_1]
          rw [e7]
          have hF : xI (mCR row) w (x_si (x_si w 44 (6 * row + ls.length) (iI s.2.2)) 45 row (nI (ls.length + 1))) := xI_si (xI_si xI_rf (Or.inr (Or.inl ⟨rfl, by omega, by omega⟩))) (Or.inr (Or.inr ⟨rfl, rfl⟩))
          refine c49 (pk := pk) (sh_I hF h) (TT_I hF ht (by unfold mCR; omega) (by unfold mCR; omega) (by unfold mCR; omega) (by unfold mCR; omega)) hs1 ?_ ?_ (fun w2 r2 p1 p2 => b51_72 ?_)
          · rw [y_i_si, if_neg (by omega), y_i_si, if_neg (by omega), q4]
          · rw [y_i_si, if_neg (by omega), y_i_si, if_neg (by omega), h19]
          · rw [rc_s z hj] at hq
            have hF2 : xI (mCR row) w w2 := xI_tr hF (xI_w p1 (by unfold mN mCR; omega))
            have hl1 : (ls ++ [s.2.2]).length = ls.length + 1 := by simp
            refine ih (ls ++ [s.2.2]) (nxt pk t sz s.1) w2 r2 (sh_I hF2 h) (TT_I hF2 ht (by unfold mCR; omega) (by unfold mCR; omega) (by unfold mCR; omega) (by unfold mCR; omega)) (by omega) (fun l hl => ?_) ⟨?_, fun k hk => ?_⟩ p2 (nxt_le hs1) (nxt_pl hs1) (nxt_rg ht.2.1) ?_ ?_ (fun w' r' a1 a2 a3 => hq w' r' (xI_tr hF2 a1) a2 a3)
            · rcases List.mem_append.mp hl with hl | hl
              · exact hls l hl
              · rw [List.mem_singleton] at hl; rw [hl]; exact hlv
            · rw [xI_i p1 45 row (by unfold mN; omega), y_i_si, if_pos ⟨rfl, rfl⟩, hl1]
            · rw [xI_i p1 44 _ (by unfold mN; omega), y_i_si, if_neg (by omega), y_i_si, getD_app]
              rw [hl1] at hk
              by_cases e : k < ls.length
              · rw [if_neg (by omega), if_pos e]; exact hL.2 k e
              · have e2 : k = ls.length := by omega
                rw [if_pos ⟨rfl, by omega⟩, if_neg e, if_pos e2]
            · exact (xI_i hF2 36 20 (by unfold mCR; omega)).trans h20
            · exact (xI_i hF2 36 19 (by unfold mCR; omega)).trans h19
    · refine b51_12 ⟨fun _ => fail (by omega) (jn_big hV (by omega)) w xI_rf, fun z => absurd (nI_ne0 (by omega) (by omega)) z⟩
    · refine b51_12 ⟨fun z => absurd rfl z, fun _ => ?_⟩
      have e9 : (9999 : Int32) = iI 9999 := by decide
      simp only [sh_k h, sh_l h, sh_n h, kk36, sr36_2 h, sr36_8 h, sr36_9 h, sr36_12 h, sr36_13 h, sr36_14 h, sr36_15 h, sr36_21 h, sr36_22 h, sr36_23 h, sr36_25 h, sr36_27 h, sr36_28 h, sr36_29 h, sr36_30 h, sr36_31 h, sr36_35 h, sr36_36 h, sr36_37 h, sr36_38 h, sr36_40 h, sr36_41 h, sr36_42 h, sr36_44 h, sr36_45 h, sr36_46 h, sr36_47 h, sr36_48 h, sr36_49 h, sr36_51 h, sr36_52 h, sr36_53 h, sr36_54 h, sr36_55 h, true_and, and_true, false_and, and_false, and_self, not_false_eq_true, not_true_eq_false, true_implies, false_implies, implies_true, true_or, or_true, or_self, if_true, if_false, Nat.reduceEqDiff, reduceIte, eq_self, q3]
      refine ⟨fun z => absurd z (by decide), fun _ => c52 (v := 9999) hrow hV h hls (by omega) hL (by omega) (by omega) (q3.trans e9) h20 ?_⟩
      rw [jn_big hV (by omega), Bool.and_false]
      refine b51_28 ⟨fun y => absurd rfl y, fun _ => ?_⟩
      simp only [sh_k h, sh_l h, sh_n h, kk36, sr36_2 h, sr36_8 h, sr36_9 h, sr36_12 h, sr36_13 h, sr36_14 h, sr36_15 h, sr36_21 h, sr36_22 h, sr36_23 h, sr36_25 h, sr36_27 h, sr36_28 h, sr36_29 h, sr36_30 h, sr36_31 h, sr36_35 h, sr36_36 h, sr36_37 h, sr36_38 h, sr36_40 h, sr36_41 h, sr36_42 h, sr36_44 h, sr36_45 h, sr36_46 h, sr36_47 h, sr36_48 h, sr36_49 h, sr36_51 h, sr36_52 h, sr36_53 h, sr36_54 h, sr36_55 h, true_and, and_true, false_and, and_false, and_self, not_false_eq_true, not_true_eq_false, true_implies, false_implies, implies_true, true_or, or_true, or_self, if_true, if_false, Nat.reduceEqDiff, reduceIte, eq_self, q5]
      exact fail (by omega) (jn_big hV (by omega)) w xI_rf
/-- clause of the reference -/
theorem c51 (hrow : row < 81) (hV : V ≤ 16) (h : SH w) (ht : TT w t sz) (ha : a ≤ sz) (h16 : x_i w 36 16 = nI a) (h20 : x_i w 36 20 = nI V) (h19 : x_i w 36 19 = b32 pk)
    (hq : ∀ w' r', xI (mCR row) w w' → ((rc (nxt pk t sz) V 6 [] (nxt pk t sz a)).1 = true → r' = 0 ∧ LI row (rc (nxt pk t sz) V 6 [] (nxt pk t sz a)).2.1 w' ∧ x_i w' 36 16 = nI (rc (nxt pk t sz) V 6 [] (nxt pk t sz a)).2.2.1) → ((rc (nxt pk t sz) V 6 [] (nxt pk t sz a)).1 = false → r' = nI (rc (nxt pk t sz) V 6 [] (nxt pk t sz a)).2.2.2.1 ∧ ¬ r' = 0) → Q (.inl (some (.int r'))) w') :
    x_R x_prog scr 51 0 [some (.ref 36), some (.int (nI row)), o2] [] w Q := by
  refine b51_0 ?_
  simp only [sh_k h, sh_l h, sh_n h, kk36, sr36_2 h, sr36_8 h, sr36_9 h, sr36_12 h, sr36_13 h, sr36_14 h, sr36_15 h, sr36_21 h, sr36_22 h, sr36_23 h, sr36_25 h, sr36_27 h, sr36_28 h, sr36_29 h, sr36_30 h, sr36_31 h, sr36_35 h, sr36_36 h, sr36_37 h, sr36_38 h, sr36_40 h, sr36_41 h, sr36_42 h, sr36_44 h, sr36_45 h, sr36_46 h, sr36_47 h, sr36_48 h, sr36_49 h, sr36_51 h, sr36_52 h, sr36_53 h, sr36_54 h, sr36_55 h, kk45, ll45, true_and, and_true, false_and, and_false, and_self, not_false_eq_true, not_true_eq_false, true_implies, false_implies, implies_true, true_or, or_true, or_self, if_true, if_false, Nat.reduceEqDiff, reduceIte, eq_self, nI_clamp (show row < 2 ^ 31 by omega), vp_in_nI (show row < 81 by omega) (show 81 < 2 ^ 31 by omega)]
  have hF : xI (mCR row) w (x_si w 45 row 0) := xI_si xI_rf (Or.inr (Or.inr ⟨rfl, rfl⟩))
  refine c49 (pk := pk) (sh_I hF h) (TT_I hF ht (by unfold mCR; omega) (by unfold mCR; omega) (by unfold mCR; omega) (by unfold mCR; omega)) ha ?_ ?_ (fun w2 r2 p1 p2 => b51_11 ?_)
  · rw [y_i_si, if_neg (by omega), h16]
  · rw [y_i_si, if_neg (by omega), h19]
  · have hF2 : xI (mCR row) w w2 := xI_tr hF (xI_w p1 (by unfold mN mCR; omega))
    refine c51_l hrow hV 6 [] _ w2 r2 (sh_I hF2 h) (TT_I hF2 ht (by unfold mCR; omega) (by unfold mCR; omega) (by unfold mCR; omega) (by unfold mCR; omega)) rfl (fun l hl => by cases hl) ⟨?_, fun k hk => absurd hk (by simp)⟩ p2 (nxt_le ha) (nxt_pl ha) (nxt_rg ht.2.1) ?_ ?_ (fun w' r' a1 a2 a3 => hq w' r' (xI_tr hF2 a1) a2 a3)
    · rw [xI_i p1 45 row (by unfold mN; omega), y_i_si, if_pos ⟨rfl, rfl⟩]; rfl
    · exact (xI_i hF2 36 20 (by unfold mCR; omega)).trans h20
    · exact (xI_i hF2 36 19 (by unfold mCR; omega)).trans h19
end X38
