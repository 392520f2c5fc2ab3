/-! Steps of a stream: what they add and delete; clauses with the same literals. -/
theorem nd_le : ∀ (a b : List Int), a.Nodup → (∀ x ∈ a, x ∈ b) → a.length ≤ b.length
  | [], b, _, _ => Nat.zero_le _
  | x :: a, b, h, hs => by
    have h1 := List.nodup_cons.mp h
    have h2 := nd_le a (b.erase x) h1.2 (fun y hy => (List.mem_erase_of_ne (fun (e : y = x) => h1.1 (e ▸ hy))).mpr (hs y (List.mem_cons_of_mem _ hy)))
    have h3 := List.length_erase_of_mem (hs x List.mem_cons_self)
    have h4 := List.length_pos_of_mem (hs x List.mem_cons_self)
    simp only [List.length_cons]
    omega
theorem cl1_nd {a : List Int} (h : cl1 a) : a.Nodup := h.2.2.imp fun {x y} hxy e => hxy (by rw [e])
theorem mask_sub {a b : List Int} (h : ∀ l, l ∈ a ↔ l ∈ b) : mask a = mask b := by
  apply mm_ext
  intro i _
  rw [mm_mask, mm_mask, Bool.eq_iff_iff, List.any_eq_true, List.any_eq_true]
  constructor
  · rintro ⟨l, hl, h2⟩
    exact ⟨l, (h l).mp hl, h2⟩
  · rintro ⟨l, hl, h2⟩
    exact ⟨l, (h l).mpr hl, h2⟩
theorem mask_eq {a b : List Int} (ha : cl1 a) (hb : cl1 b) : mask a = mask b ↔ (a.length = b.length ∧ ∀ l ∈ b, l ∈ a) := by
  constructor
  · intro h
    have e : ∀ l, l ∈ a ↔ l ∈ b := by
      intro l
      constructor
      · intro hl
        have hk := ha.2.1 l hl
        rw [← mm_in hb.2.1 hk, ← h, mm_in ha.2.1 hk]
        exact hl
      · intro hl
        have hk := hb.2.1 l hl
        rw [← mm_in ha.2.1 hk, h, mm_in hb.2.1 hk]
        exact hl
    have h1 := nd_le a b (cl1_nd ha) (fun l hl => (e l).mp hl)
    have h2 := nd_le b a (cl1_nd hb) (fun l hl => (e l).mpr hl)
    exact ⟨by omega, fun l hl => (e l).mpr hl⟩
  · rintro ⟨h1, h2⟩
    apply mask_sub
    intro l
    refine ⟨fun hl => ?_, h2 l⟩
    apply Classical.byContradiction
    intro hn
    have := nd_le (l :: b) a (List.nodup_cons.mpr ⟨hn, cl1_nd hb⟩) (fun x hx => by
      rcases List.mem_cons.mp hx with rfl | hx
      · exact hl
      · exact h2 x hx)
    simp only [List.length_cons] at this
    omega
/-- the lowest number from c on, of d, that p has; or 0 -/
def lowA (p : Nat → Bool) : Nat → Nat → Nat
  | 0, _ => 0
  | d + 1, c => if p c = true then c else lowA p d (c + 1)
theorem lowA_cg {p q : Nat → Bool} : ∀ (d c : Nat), (∀ j, c ≤ j → j < c + d → p j = q j) → lowA p d c = lowA q d c
  | 0, c, _ => rfl
  | d + 1, c, h => by
    unfold lowA
    rw [h c (Nat.le_refl _) (by omega), lowA_cg d (c + 1) (fun j h1 h2 => h j (by omega) (by omega))]
theorem lowA_le {p : Nat → Bool} : ∀ (d c : Nat), lowA p d c = 0 ∨ (c ≤ lowA p d c ∧ lowA p d c < c + d ∧ p (lowA p d c) = true)
  | 0, c => Or.inl rfl
  | d + 1, c => by
    unfold lowA
    split
    · rename_i h
      exact Or.inr ⟨Nat.le_refl _, by omega, h⟩
    · rcases lowA_le (p := p) d (c + 1) with h | h
      · exact Or.inl h
      · exact Or.inr ⟨by omega, by omega, h.2.2⟩
abbrev xSt : Type := List (Bool × Nat)
def sg (st : xSt) (s : Nat) : Bool × Nat := st.getD s (false, 0)
def stA (st : xSt) (s : Nat) : Nat := if (sg st s).1 = true then (sg st s).2 else 0
/-- is clause j alive after s steps, g being the number of the formula's clauses? -/
def alv (g : Nat) (st : xSt) : Nat → Nat → Bool
  | 0, j => decide (1 ≤ j ∧ j ≤ g)
  | s + 1, j => if j = (sg st s).2 then (sg st s).1 else alv g st s j
theorem sg_app {st : xSt} {x : Bool × Nat} (s : Nat) : sg (st ++ [x]) s = if s < st.length then sg st s else if s = st.length then x else (false, 0) := by
  unfold sg
  simp only [List.getD_eq_getElem?_getD]
  by_cases h : s < st.length
  · rw [if_pos h, List.getElem?_append_left h]
  · rw [if_neg h, List.getElem?_append_right (by omega)]
    by_cases e : s = st.length
    · rw [if_pos e, e]; simp
    · rw [if_neg e, List.getElem?_eq_none]
      · rfl
      · simp; omega
theorem alv_app {g : Nat} {st : xSt} {x : Bool × Nat} : ∀ (s j : Nat), s ≤ st.length → alv g (st ++ [x]) s j = alv g st s j
  | 0, j, _ => rfl
  | s + 1, j, h => by
    have e : sg (st ++ [x]) s = sg st s := by rw [sg_app, if_pos (by omega)]
    unfold alv
    rw [e, alv_app s j (by omega)]
theorem alv_last {g : Nat} {st : xSt} {x : Bool × Nat} (j : Nat) : alv g (st ++ [x]) (st.length + 1) j = if j = x.2 then x.1 else alv g st st.length j := by
  have e : sg (st ++ [x]) st.length = x := by rw [sg_app, if_neg (by omega), if_pos rfl]
  conv => lhs; unfold alv
  rw [e, alv_app _ _ (Nat.le_refl _)]
/-- has clause c of cs just the literals ls? -/
def smc (cs : List (List Int)) (ls : List Int) (c : Nat) : Bool := decide ((cs.getD (c - 1) []).length = ls.length ∧ ∀ l ∈ ls, l ∈ cs.getD (c - 1) [])
/-- the clause that a deletion of ls means -/
def dlt (g : Nat) (cs : List (List Int)) (st : xSt) (ls : List Int) : Nat := lowA (fun c => alv g st st.length c && smc cs ls c) cs.length 1
/-- a step: is it an addition, its literals -/
def ap1 (g : Nat) (q : List (List Int) × xSt) (r : Bool × List Int) : List (List Int) × xSt := if r.1 = true then (q.1 ++ [r.2], q.2 ++ [(true, q.1.length + 1)]) else (q.1, q.2 ++ [(false, dlt g q.1 q.2 r.2)])
def prc (cs : List (List Int)) (rs : List (Bool × List Int)) : List (List Int) × xSt := rs.foldl (ap1 cs.length) (cs, [])
theorem prc_app (cs : List (List Int)) (rs : List (Bool × List Int)) (r : Bool × List Int) : prc cs (rs ++ [r]) = ap1 cs.length (prc cs rs) r := by
  unfold prc
  rw [List.foldl_append]
  rfl
/-- the opening of a step at a: 0 none, 1 deletion, 2 addition, 3 wrong; its place; the first number of its clause -/
def opK (pk : Bool) (t : Nat → Nat) (sz a : Nat) : Nat :=
  if pk = true then (if sz ≤ a then 0 else if t a = 100 then 1 else if t a = 97 then 2 else 3)
  else (if (nxt false t sz a).2.2 = 20001 then 0 else if (nxt false t sz a).2.2 = 10000 then 1 else 2)
def opP (pk : Bool) (t : Nat → Nat) (sz a : Nat) : Nat := if pk = true then a + 1 else (nxt false t sz a).2.1
def opS (pk : Bool) (t : Nat → Nat) (sz a : Nat) : Nat × Nat × Int :=
  if pk = true then nxt true t sz (a + 1) else if (nxt false t sz a).2.2 = 10000 then nxt false t sz (nxt false t sz a).1 else nxt false t sz a
def nAd (rs : List (Bool × List Int)) : Nat := rs.countP (fun r => r.1)
/-- the steps of a stream: fault, steps -/
def rds (pk : Bool) (t : Nat → Nat) (sz V g : Nat) : Nat → Nat → List (Bool × List Int) → Nat × List (Bool × List Int)
  | 0, _, rs => (0, rs)
  | d + 1, a, rs => if opK pk t sz a = 0 then (0, rs)
    else if rs.length = 80 ∨ opK pk t sz a = 3 ∨ (opK pk t sz a = 2 ∧ g + nAd rs = 63) then (opP pk t sz a, rs)
    else if (rc (nxt pk t sz) V 6 [] (opS pk t sz a)).1 = true then rds pk t sz V g d (rc (nxt pk t sz) V 6 [] (opS pk t sz a)).2.2.1 (rs ++ [(decide (opK pk t sz a = 2), (rc (nxt pk t sz) V 6 [] (opS pk t sz a)).2.1)])
    else ((rc (nxt pk t sz) V 6 [] (opS pk t sz a)).2.2.2.1, rs)
theorem opS_in {pk : Bool} {t : Nat → Nat} {sz a : Nat} (ha : a ≤ sz) (hk : ¬ opK pk t sz a = 0) : (opS pk t sz a).1 ≤ sz ∧ 1 ≤ (opS pk t sz a).2.1 ∧ (opS pk t sz a).2.1 ≤ sz + 1 := by
  unfold opK at hk
  unfold opS
  cases pk with
  | true =>
    simp only [if_true] at hk ⊢
    have h1 : a + 1 ≤ sz := by
      by_cases h : sz ≤ a
      · rw [if_pos h] at hk; exact absurd rfl hk
      · omega
    exact ⟨nxt_le h1, (nxt_pl h1).1, (nxt_pl h1).2⟩
  | false =>
    simp only [Bool.false_eq_true, if_false]
    split
    · have h1 := nxt_le (pk := false) (t := t) ha
      exact ⟨nxt_le h1, (nxt_pl h1).1, (nxt_pl h1).2⟩
    · exact ⟨nxt_le ha, (nxt_pl ha).1, (nxt_pl ha).2⟩
theorem opP_in {pk : Bool} {t : Nat → Nat} {sz a : Nat} (ha : a ≤ sz) (hk : ¬ opK pk t sz a = 0) : 1 ≤ opP pk t sz a ∧ opP pk t sz a ≤ sz + 1 := by
  unfold opK at hk
  unfold opP
  cases pk with
  | true => simp only [if_true]; omega
  | false =>
    simp only [Bool.false_eq_true, if_false]
    exact nxt_pl ha
theorem prc_len (cs : List (List Int)) : ∀ (rs : List (Bool × List Int)) (q : List (List Int) × xSt), (rs.foldl (ap1 cs.length) q).1.length = q.1.length + nAd rs ∧ (rs.foldl (ap1 cs.length) q).2.length = q.2.length + rs.length
  | [], q => ⟨rfl, rfl⟩
  | r :: rs, q => by
    rw [List.foldl_cons]
    obtain ⟨h1, h2⟩ := prc_len cs rs (ap1 cs.length q r)
    unfold nAd at h1 ⊢
    rw [h1, h2, List.countP_cons, List.length_cons]
    unfold ap1
    split
    · simp only [List.length_append, List.length_singleton]
      omega
    · simp only [List.length_append, List.length_singleton]
      omega
theorem prc_l1 (cs : List (List Int)) (rs : List (Bool × List Int)) : (prc cs rs).1.length = cs.length + nAd rs := (prc_len cs rs (cs, [])).1
theorem prc_l2 (cs : List (List Int)) (rs : List (Bool × List Int)) : (prc cs rs).2.length = rs.length := by
  have := (prc_len cs rs (cs, [])).2
  unfold prc
  simpa using this
