/-! Values of literals; ready clauses, by lists and by sets. -/
def vl (tv : Nat → Int) (l : Int) : Int := if 0 < l then tv l.natAbs else - tv l.natAbs
def setT (tv : Nat → Int) (l : Int) : Nat → Int := fun v => if v = l.natAbs then (if 0 < l then 1 else -1) else tv v
def tok (tv : Nat → Int) : Prop := ∀ v, -1 ≤ tv v ∧ tv v ≤ 1
theorem vl_rg {tv : Nat → Int} (h : tok tv) (l : Int) : -1 ≤ vl tv l ∧ vl tv l ≤ 1 := by
  have := h l.natAbs
  unfold vl
  split <;> omega
theorem vl_neg {tv : Nat → Int} {l : Int} (h : ¬ l = 0) : vl tv (-l) = - vl tv l := by
  unfold vl
  rw [Int.natAbs_neg]
  split <;> split <;> omega
theorem tok_set {tv : Nat → Int} (h : tok tv) (l : Int) : tok (setT tv l) := by
  intro v
  unfold setT
  split
  · split <;> omega
  · exact h v
theorem vl_set {tv : Nat → Int} {l m : Int} (hl : ¬ l = 0) (hm : ¬ m = 0) : vl (setT tv l) m = if m = l then 1 else if m = -l then -1 else vl tv m := by
  unfold vl setT
  by_cases h : m.natAbs = l.natAbs
  · simp only [h, if_true]
    split <;> split <;> split <;> first | rfl | omega | (split <;> omega)
  · simp only [h, if_false]
    rw [if_neg (show ¬ m = l from fun e => h (by rw [e])), if_neg (show ¬ m = -l from fun e => h (by rw [e, Int.natAbs_neg]))]
/-- a ready clause: all its literals are false but u; u is 0 if all are -/
def RDY (tv : Nat → Int) (ls : List Int) (u : Int) : Prop := (∀ l ∈ ls, vl tv l < 0 ∨ l = u) ∧ (u = 0 ∨ (u ∈ ls ∧ vl tv u = 0))
def isf (tv : Nat → Int) (q : Bool × Int) (l : Int) : Bool × Int := (q.1 && (decide (vl tv l < 1) && (decide (vl tv l < 0) || decide (q.2 = 0))), if vl tv l = 0 then l else q.2)
def isr (tv : Nat → Int) (ls : List Int) : Bool × Int := ls.foldl (isf tv) (true, 0)
theorem isf_all {tv : Nat → Int} (ht : tok tv) {u : Int} : ∀ (ls : List Int) (b : Bool) (u0 : Int), (∀ l ∈ ls, ¬ l = 0) → ls.Nodup → (((ls.foldl (isf tv) (b, u0)).1 = true ∧ (ls.foldl (isf tv) (b, u0)).2 = u) ↔ (b = true ∧ ((¬ u0 = 0 ∧ u = u0 ∧ ∀ l ∈ ls, vl tv l < 0) ∨ (u0 = 0 ∧ RDY tv ls u))))
  | [], b, u0, _, _ => by
    show (b = true ∧ u0 = u) ↔ _
    unfold RDY
    constructor
    · rintro ⟨rfl, rfl⟩
      refine ⟨rfl, ?_⟩
      by_cases h : u0 = 0
      · exact Or.inr ⟨h, fun l hl => (by cases hl), Or.inl h⟩
      · exact Or.inl ⟨h, rfl, fun l hl => by cases hl⟩
    · rintro ⟨rfl, ⟨h1, h2, -⟩ | ⟨h1, -, h2 | ⟨h2, -⟩⟩⟩
      · exact ⟨rfl, h2.symm⟩
      · exact ⟨rfl, by rw [h1, h2]⟩
      · cases h2
  | l :: ls, b, u0, h0, hn => by
    rw [List.foldl_cons]
    have hl0 : ¬ l = 0 := h0 l List.mem_cons_self
    have hn2 := List.nodup_cons.mp hn
    have ih := isf_all ht (u := u) ls (isf tv (b, u0) l).1 (isf tv (b, u0) l).2 (fun m hm => h0 m (List.mem_cons_of_mem _ hm)) hn2.2
    have e : isf tv (b, u0) l = ((isf tv (b, u0) l).1, (isf tv (b, u0) l).2) := rfl
    rw [e, ih]
    have hr := vl_rg ht l
    unfold isf RDY
    simp only
    by_cases h1 : vl tv l = 1
    · rw [h1]
      simp only [show ¬ ((1 : Int) < 1) by omega, decide_false, Bool.false_and, Bool.and_false, Bool.false_eq_true, false_and, false_iff]
      rintro ⟨-, ⟨-, -, h⟩ | ⟨-, h, h3⟩⟩
      · have := h l List.mem_cons_self; omega
      · have := h l List.mem_cons_self
        rcases this with this | this
        · omega
        · rcases h3 with h3 | h3
          · exact hl0 (this.trans h3)
          · rw [← this, h1] at h3; omega
    · by_cases h2 : vl tv l = 0
      · rw [h2]
        simp only [show (0 : Int) < 1 by omega, show ¬ ((0 : Int) < 0) by omega, decide_true, decide_false, Bool.true_and, Bool.false_or, Bool.and_eq_true, decide_eq_true_iff, if_true]
        constructor
        · rintro ⟨⟨hb, hu⟩, ⟨-, rfl, h⟩ | ⟨h, -⟩⟩
          · refine ⟨hb, Or.inr ⟨hu, fun m hm => ?_, Or.inr ⟨List.mem_cons_self, h2⟩⟩⟩
            rcases List.mem_cons.mp hm with rfl | hm
            · exact Or.inr rfl
            · exact Or.inl (h m hm)
          · exact absurd h hl0
        · rintro ⟨hb, ⟨hu, -, h⟩ | ⟨hu, h, h3⟩⟩
          · have := h l List.mem_cons_self; omega
          · have hlu : l = u := by
              rcases h l List.mem_cons_self with h4 | h4
              · omega
              · exact h4
            refine ⟨⟨hb, hu⟩, Or.inl ⟨hl0, hlu.symm, fun m hm => ?_⟩⟩
            rcases h m (List.mem_cons_of_mem _ hm) with h4 | h4
            · exact h4
            · exact absurd (by rw [hlu, ← h4]; exact hm) hn2.1
      · have h3 : vl tv l < 0 := by omega
        simp only [show vl tv l < 1 by omega, h3, h2, decide_true, Bool.true_or, Bool.and_true, if_false]
        constructor
        · rintro ⟨hb, ⟨hu, hu2, h⟩ | ⟨hu, h, h4⟩⟩
          · refine ⟨hb, Or.inl ⟨hu, hu2, fun m hm => ?_⟩⟩
            rcases List.mem_cons.mp hm with rfl | hm
            · exact h3
            · exact h m hm
          · refine ⟨hb, Or.inr ⟨hu, fun m hm => ?_, ?_⟩⟩
            · rcases List.mem_cons.mp hm with rfl | hm
              · exact Or.inl h3
              · exact h m hm
            · rcases h4 with h4 | ⟨h4, h5⟩
              · exact Or.inl h4
              · exact Or.inr ⟨List.mem_cons_of_mem _ h4, h5⟩
        · rintro ⟨hb, ⟨hu, hu2, h⟩ | ⟨hu, h, h4⟩⟩
          · exact ⟨hb, Or.inl ⟨hu, hu2, fun m hm => h m (List.mem_cons_of_mem _ hm)⟩⟩
          · refine ⟨hb, Or.inr ⟨hu, fun m hm => h m (List.mem_cons_of_mem _ hm), ?_⟩⟩
            rcases h4 with h4 | ⟨h4, h5⟩
            · exact Or.inl h4
            · rcases List.mem_cons.mp h4 with h6 | h6
              · rw [h6] at h5; omega
              · exact Or.inr ⟨h6, h5⟩
theorem isr_iff {tv : Nat → Int} (ht : tok tv) {ls : List Int} (hl : cl1 ls) {u : Int} : ((isr tv ls).1 = true ∧ (isr tv ls).2 = u) ↔ RDY tv ls u := by
  unfold isr
  rw [isf_all ht ls true 0 (fun l h => (hl.2.1 l h).1) (cl1_nd hl)]
  constructor
  · rintro ⟨-, ⟨h, -⟩ | ⟨-, h⟩⟩
    · exact absurd rfl h
    · exact h
  · intro h
    exact ⟨rfl, Or.inr ⟨rfl, h⟩⟩
/-- at most one bit -/
theorem one_bit {m : Int32} (h : m &&& (m - 1) = 0) {i j : Nat} (hi : i < 32) (hj : j < 32) (h1 : mm m i = true) (h2 : mm m j = true) : i = j := by
  have key : ∀ i j, i < j → j < 32 → mm m i = true → mm m j = true → False := by
    intro i j hij hj h1 h2
    have hz := (mm_z.mp h) j hj
    rw [mm_and, h2, Bool.true_and] at hz
    have e1 : m.toBitVec.toNat.testBit i = true := h1
    have e2 : m.toBitVec.toNat.testBit j = true := h2
    have e3 : (m - 1).toBitVec.toNat.testBit j = false := hz
    have hpos : 1 ≤ m.toBitVec.toNat := by
      apply Classical.byContradiction
      intro z
      have : m.toBitVec.toNat = 0 := by omega
      rw [this] at e1
      simp at e1
    have hlt := m.toBitVec.isLt
    have e4 : (m - 1).toBitVec.toNat = m.toBitVec.toNat - 1 := by
      rw [Int32.toBitVec_sub, BitVec.toNat_sub]
      show (2 ^ 32 - 1 + m.toBitVec.toNat) % 2 ^ 32 = _
      omega
    rw [e4] at e3
    have e5 : m.toBitVec.toNat % 2 ^ j ≠ 0 := by
      intro z
      have := Nat.testBit_mod_two_pow m.toBitVec.toNat j i
      rw [z, e1] at this
      simp [hij] at this
    have hp : 0 < 2 ^ j := Nat.two_pow_pos j
    have e6 : (m.toBitVec.toNat - 1) / 2 ^ j = m.toBitVec.toNat / 2 ^ j := by
      have hd := Nat.div_add_mod m.toBitVec.toNat (2 ^ j)
      have hm := Nat.mod_lt m.toBitVec.toNat hp
      have : m.toBitVec.toNat - 1 = (m.toBitVec.toNat % 2 ^ j - 1) + 2 ^ j * (m.toBitVec.toNat / 2 ^ j) := by omega
      rw [this, Nat.add_mul_div_left _ _ hp, Nat.div_eq_of_lt (by omega), Nat.zero_add]
    rw [Nat.testBit_eq_decide_div_mod_eq] at e2 e3
    rw [e6] at e3
    rw [e2] at e3
    cases e3
  rcases Nat.lt_trichotomy i j with h3 | h3 | h3
  · exact (key i j h3 hj h1 h2).elim
  · exact h3
  · exact (key j i h3 hi h2 h1).elim
theorem sb_one : ∀ i, i < 32 → sb i &&& (sb i - 1) = 0 := by decide +kernel
theorem li_sur : ∀ i, i < 32 → ∃ l, lok l ∧ li l = i := by
  intro i hi
  by_cases h : i < 16
  · exact ⟨(i : Int) + 1, by unfold lok; omega, by unfold li; split <;> omega⟩
  · exact ⟨15 - (i : Int), by unfold lok; omega, by unfold li; split <;> omega⟩
/-- the true literals as a set -/
def TM (tv : Nat → Int) (m : Int32) : Prop := ∀ l, lok l → mm m (li l) = decide (0 < vl tv l)
def opn1 (ls : List Int) (m : Int32) : Int32 := mask ls &&& (opp m ^^^ (-1))
theorem mm_opn {tv : Nat → Int} {m : Int32} {ls : List Int} (hT : TM tv m) (hl : cl1 ls) {l : Int} (hk : lok l) : mm (opn1 ls m) (li l) = true ↔ (l ∈ ls ∧ ¬ vl tv l < 0) := by
  unfold opn1
  rw [mm_and, mm_not _ (li_lt hk), mm_opp _ (li_lt hk), li_sw hk, hT _ (lok_neg hk), vl_neg hk.1, Bool.and_eq_true, mm_in hl.2.1 hk]
  simp only [Bool.not_eq_true', decide_eq_false_iff_not]
  constructor
  · rintro ⟨h1, h2⟩; exact ⟨h1, by omega⟩
  · rintro ⟨h1, h2⟩; exact ⟨h1, by omega⟩
theorem opn_rdy {tv : Nat → Int} {m : Int32} {ls : List Int} (hT : TM tv m) (hl : cl1 ls) {u : Int} (h : RDY tv ls u) : opn1 ls m = if u = 0 then 0 else sb (li u) := by
  apply mm_ext
  intro i hi
  obtain ⟨l, hk, rfl⟩ := li_sur i hi
  by_cases hu : u = 0
  · rw [if_pos hu, mm_0]
    apply Bool.eq_false_iff.mpr
    intro z
    obtain ⟨z1, z2⟩ := (mm_opn hT hl hk).mp z
    rcases h.1 l z1 with h2 | h2
    · exact z2 h2
    · exact hk.1 (h2.trans hu)
  · rw [if_neg hu]
    obtain ⟨h3, h4⟩ := h.2.resolve_left hu
    have hku := hl.2.1 u h3
    rw [mm_sb _ (li_lt hku) _ hi, Bool.eq_iff_iff, decide_eq_true_iff, mm_opn hT hl hk, li_inj hku hk]
    constructor
    · rintro ⟨z1, z2⟩
      rcases h.1 l z1 with h2 | h2
      · exact absurd h2 z2
      · exact h2.symm
    · rintro rfl
      exact ⟨h3, by omega⟩
theorem opn_iff {tv : Nat → Int} {m : Int32} {ls : List Int} (ht : tok tv) (hT : TM tv m) (hl : cl1 ls) : ((opn1 ls m &&& (opn1 ls m - 1)) = 0 ∧ (opn1 ls m &&& m) = 0) ↔ (isr tv ls).1 = true := by
  constructor
  · rintro ⟨h1, h2⟩
    have hnt : ∀ l ∈ ls, vl tv l < 0 ∨ vl tv l = 0 := by
      intro l hm
      have hk := hl.2.1 l hm
      have hr := vl_rg ht l
      by_cases h3 : vl tv l < 0
      · exact Or.inl h3
      · right
        have h4 := (mm_z.mp h2) (li l) (li_lt hk)
        rw [mm_and, (mm_opn hT hl hk).mpr ⟨hm, h3⟩, Bool.true_and, hT l hk, decide_eq_false_iff_not] at h4
        omega
    have hR : ∃ u, RDY tv ls u := by
      by_cases h3 : ∃ u ∈ ls, vl tv u = 0
      · obtain ⟨u, hu, hv⟩ := h3
        refine ⟨u, fun l hm => ?_, Or.inr ⟨hu, hv⟩⟩
        rcases hnt l hm with h4 | h4
        · exact Or.inl h4
        · right
          have hk := hl.2.1 l hm
          have hku := hl.2.1 u hu
          exact (li_inj hk hku).mp (one_bit h1 (li_lt hk) (li_lt hku) ((mm_opn hT hl hk).mpr ⟨hm, by omega⟩) ((mm_opn hT hl hku).mpr ⟨hu, by omega⟩))
      · refine ⟨0, fun l hm => ?_, Or.inl rfl⟩
        rcases hnt l hm with h4 | h4
        · exact Or.inl h4
        · exact absurd ⟨l, hm, h4⟩ h3
    obtain ⟨u, hu⟩ := hR
    exact ((isr_iff ht hl).mpr hu).1
  · intro h
    have hR := (isr_iff ht hl (u := (isr tv ls).2)).mp ⟨h, rfl⟩
    rw [opn_rdy hT hl hR]
    by_cases hu : (isr tv ls).2 = 0
    · rw [if_pos hu]
      exact ⟨by decide, mm_z.mpr (fun i _ => by rw [mm_and, mm_0]; rfl)⟩
    · rw [if_neg hu]
      obtain ⟨h3, h4⟩ := hR.2.resolve_left hu
      have hku := hl.2.1 _ h3
      refine ⟨sb_one _ (li_lt hku), ?_⟩
      have : m &&& sb (li (isr tv ls).2) = 0 := by
        rw [and_sb (li_lt hku), hT _ hku, decide_eq_false_iff_not]
        omega
      rw [Int32.and_comm]
      exact this
theorem TM_set {tv : Nat → Int} {m : Int32} (hT : TM tv m) {u : Int} (hu : lok u) (h0 : ¬ vl tv u < 0) : TM (setT tv u) (m ||| sb (li u)) := by
  intro l hl
  rw [mm_or, hT l hl, mm_sb _ (li_lt hu) _ (li_lt hl), vl_set hu.1 hl.1, Bool.eq_iff_iff]
  simp only [Bool.or_eq_true, decide_eq_true_iff]
  rw [li_inj hu hl]
  by_cases h1 : l = u
  · subst h1; simp
  · rw [if_neg h1]
    by_cases h2 : l = -u
    · rw [if_pos h2]
      have := vl_neg (tv := tv) hu.1
      rw [← h2] at this
      constructor
      · rintro (h3 | h3)
        · omega
        · exact absurd h3.symm h1
      · intro h3; omega
    · rw [if_neg h2]
      constructor
      · rintro (h3 | h3)
        · exact h3
        · exact absurd h3.symm h1
      · intro h3; exact Or.inl h3
