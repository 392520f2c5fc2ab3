/-! Judging a record. -/
/-- literals of a clause, as many as they be -/
def cl0 (ls : List Int) : Prop := (∀ l ∈ ls, lok l) ∧ ls.Pairwise (fun a b => ¬ a.natAbs = b.natAbs)
theorem cl1_0 {ls : List Int} (h : cl1 ls) : cl0 ls := h.2
theorem cl0_nd {a : List Int} (h : cl0 a) : a.Nodup := h.2.imp fun {x y} hxy e => hxy (by rw [e])
theorem cl0_inj {ls : List Int} (h : cl0 ls) {a b : Int} (ha : a ∈ ls) (hb : b ∈ ls) (he : a.natAbs = b.natAbs) : a = b := by
  obtain ⟨i, hi, rfl⟩ := List.getElem_of_mem ha
  obtain ⟨j, hj, rfl⟩ := List.getElem_of_mem hb
  have hp := List.pairwise_iff_getElem.mp h.2
  rcases Nat.lt_trichotomy i j with h1 | h1 | h1
  · exact absurd he (hp i j hi hj h1)
  · subst h1; rfl
  · exact absurd he.symm (hp j i hj hi h1)
theorem isr_iff0 {tv : Nat → Int} (ht : tok tv) {ls : List Int} (hl : cl0 ls) {u : Int} : ((isr tv ls).1 = true ∧ (isr tv ls).2 = u) ↔ RDY tv ls u := by
  unfold isr
  rw [isf_all ht ls true 0 (fun l h => (hl.1 l h).1) (cl0_nd hl)]
  constructor
  · rintro ⟨-, ⟨h, -⟩ | ⟨-, h⟩⟩
    · exact absurd rfl h
    · exact h
  · intro h
    exact ⟨rfl, Or.inr ⟨rfl, h⟩⟩
theorem mm_opn0 {tv : Nat → Int} {m : Int32} {ls : List Int} (hT : TM tv m) (hl : cl0 ls) {l : Int} (hk : lok l) : mm (opn1 ls m) (li l) = true ↔ (l ∈ ls ∧ ¬ vl tv l < 0) := by
  unfold opn1
  rw [mm_and, mm_not _ (li_lt hk), mm_opp _ (li_lt hk), li_sw hk, hT _ (lok_neg hk), vl_neg hk.1, Bool.and_eq_true, mm_in hl.1 hk]
  simp only [Bool.not_eq_true', decide_eq_false_iff_not]
  constructor
  · rintro ⟨h1, h2⟩; exact ⟨h1, by omega⟩
  · rintro ⟨h1, h2⟩; exact ⟨h1, by omega⟩
theorem opn_rdy0 {tv : Nat → Int} {m : Int32} {ls : List Int} (hT : TM tv m) (hl : cl0 ls) {u : Int} (h : RDY tv ls u) : opn1 ls m = if u = 0 then 0 else sb (li u) := by
  apply mm_ext
  intro i hi
  obtain ⟨l, hk, rfl⟩ := li_sur i hi
  by_cases hu : u = 0
  · rw [if_pos hu, mm_0]
    apply Bool.eq_false_iff.mpr
    intro z
    obtain ⟨z1, z2⟩ := (mm_opn0 hT hl hk).mp z
    rcases h.1 l z1 with h2 | h2
    · exact z2 h2
    · exact hk.1 (h2.trans hu)
  · rw [if_neg hu]
    obtain ⟨h3, h4⟩ := h.2.resolve_left hu
    have hku := hl.1 u h3
    rw [mm_sb _ (li_lt hku) _ hi, Bool.eq_iff_iff, decide_eq_true_iff, mm_opn0 hT hl hk, li_inj hku hk]
    constructor
    · rintro ⟨z1, z2⟩
      rcases h.1 l z1 with h2 | h2
      · exact absurd h2 z2
      · exact h2.symm
    · rintro rfl
      exact ⟨h3, by omega⟩
theorem opn_iff0 {tv : Nat → Int} {m : Int32} {ls : List Int} (ht : tok tv) (hT : TM tv m) (hl : cl0 ls) : ((opn1 ls m &&& (opn1 ls m - 1)) = 0 ∧ (opn1 ls m &&& m) = 0) ↔ (isr tv ls).1 = true := by
  constructor
  · rintro ⟨h1, h2⟩
    have hnt : ∀ l ∈ ls, vl tv l < 0 ∨ vl tv l = 0 := by
      intro l hm
      have hk := hl.1 l hm
      have hr := vl_rg ht l
      by_cases h3 : vl tv l < 0
      · exact Or.inl h3
      · right
        have h4 := (mm_z.mp h2) (li l) (li_lt hk)
        rw [mm_and, (mm_opn0 hT hl hk).mpr ⟨hm, h3⟩, Bool.true_and, hT l hk, decide_eq_false_iff_not] at h4
        omega
    have hR : ∃ u, RDY tv ls u := by
      by_cases h3 : ∃ u ∈ ls, vl tv u = 0
      · obtain ⟨u, hu, hv⟩ := h3
        refine ⟨u, fun l hm => ?_, Or.inr ⟨hu, hv⟩⟩
        rcases hnt l hm with h4 | h4
        · exact Or.inl h4
        · right
          have hk := hl.1 l hm
          have hku := hl.1 u hu
          exact (li_inj hk hku).mp (one_bit h1 (li_lt hk) (li_lt hku) ((mm_opn0 hT hl hk).mpr ⟨hm, by omega⟩) ((mm_opn0 hT hl hku).mpr ⟨hu, by omega⟩))
      · refine ⟨0, fun l hm => ?_, Or.inl rfl⟩
        rcases hnt l hm with h4 | h4
        · exact Or.inl h4
        · exact absurd ⟨l, hm, h4⟩ h3
    obtain ⟨u, hu⟩ := hR
    exact ((isr_iff0 ht hl).mpr hu).1
  · intro h
    have hR := (isr_iff0 ht hl (u := (isr tv ls).2)).mp ⟨h, rfl⟩
    rw [opn_rdy0 hT hl hR]
    by_cases hu : (isr tv ls).2 = 0
    · rw [if_pos hu]
      exact ⟨by decide, mm_z.mpr (fun i _ => by rw [mm_and, mm_0]; rfl)⟩
    · rw [if_neg hu]
      obtain ⟨h3, h4⟩ := hR.2.resolve_left hu
      have hku := hl.1 _ h3
      refine ⟨sb_one _ (li_lt hku), ?_⟩
      have : m &&& sb (li (isr tv ls).2) = 0 := by
        rw [and_sb (li_lt hku), hT _ hku, decide_eq_false_iff_not]
        omega
      rw [Int32.and_comm]
      exact this
theorem mm_oth0 {ls : List Int} {o : Int} (h : cl0 ls) (ho : lok o) {l : Int} (hl : lok l) : mm (oth ls o) (li l) = true ↔ (l ∈ ls ∧ ¬ l = o) := by
  unfold oth
  rw [mm_and, mm_not _ (li_lt hl), mm_sb _ (li_lt ho) _ (li_lt hl), Bool.and_eq_true, mm_in h.1 hl]
  simp only [Bool.not_eq_true', decide_eq_false_iff_not]
  rw [li_inj ho hl]
  exact ⟨fun z => ⟨z.1, fun e => z.2 e.symm⟩, fun z => ⟨z.1, fun e => z.2 e.symm⟩⟩
theorem oth_00 {tv : Nat → Int} {ls : List Int} {o : Int} {m : Int32} (h : cl0 ls) (ho : lok o) (hT : TM tv m) : (oth ls o &&& m = 0) ↔ ft tv ls o = 0 := by
  have hf : ft tv ls o = 0 ↔ ∀ l ∈ ls, ¬ (¬ l = o ∧ 0 < vl tv l) := by
    unfold ft
    cases hfi : ls.find? (fun l => decide (¬ l = o ∧ 0 < vl tv l)) with
    | none =>
      have := List.find?_eq_none.mp hfi
      exact ⟨fun _ l hl z => this l hl (decide_eq_true z), fun _ => rfl⟩
    | some x =>
      have h1 := List.find?_some hfi
      have h2 := List.mem_of_find?_eq_some hfi
      exact ⟨fun z => absurd z (h.1 x h2).1, fun z => absurd (of_decide_eq_true h1) (z x h2)⟩
  rw [hf, mm_z]
  constructor
  · intro hz l hl hc
    have hk := h.1 l hl
    have := hz (li l) (li_lt hk)
    rw [mm_and, (mm_oth0 h ho hk).mpr ⟨hl, hc.1⟩, hT l hk, decide_eq_true hc.2] at this
    cases this
  · intro hz i hi
    obtain ⟨l, hk, rfl⟩ := li_sur i hi
    rw [mm_and, hT l hk]
    cases hb : mm (oth ls o) (li l) with
    | false => rfl
    | true =>
      obtain ⟨h1, h2⟩ := (mm_oth0 h ho hk).mp hb
      rw [Bool.true_and, decide_eq_false]
      exact fun z => hz l h1 ⟨h2, z⟩
theorem tvo_ok0 {tv : Nat → Int} {ls : List Int} {o : Int} {m : Int32} (h : cl0 ls) (ho : lok o) (ht : tok tv) (hT : TM tv m) (hf : ft tv ls o = 0) : tok (tvo tv ls o) ∧ TM (tvo tv ls o) (m ||| opp (oth ls o)) ∧ ∀ l, lok l → ¬ vl tv l = 0 → vl (tvo tv ls o) l = vl tv l := by
  have hz : ∀ l ∈ ls, ¬ l = o → ¬ 0 < vl tv l := by
    intro l hl hlo hv
    have h0 := (mm_z.mp ((oth_00 h ho hT).mpr hf)) (li l) (li_lt (h.1 l hl))
    rw [mm_and, (mm_oth0 h ho (h.1 l hl)).mpr ⟨hl, hlo⟩, hT l (h.1 l hl), decide_eq_true hv] at h0
    cases h0
  obtain ⟨h1, h2⟩ := tvo_f (o := o) ls tv h.1 h.2 ht hz
  have e : ∀ m, lok m → vl (tvo tv ls o) m = if m ∈ ls ∧ ¬ m = o then -1 else if -m ∈ ls ∧ ¬ -m = o then 1 else vl tv m := h2
  refine ⟨h1, fun l hl => ?_, fun l hl hv => ?_⟩
  · have hvr := vl_rg ht l
    rw [mm_or, hT l hl, mm_opp _ (li_lt hl), li_sw hl, e l hl, Bool.eq_iff_iff]
    simp only [Bool.or_eq_true, decide_eq_true_iff]
    rw [mm_oth0 h ho (lok_neg hl)]
    by_cases c1 : l ∈ ls ∧ ¬ l = o
    · rw [if_pos c1]
      have := hz l c1.1 c1.2
      constructor
      · rintro (z | z)
        · exact absurd z this
        · have := cl0_inj h c1.1 z.1 (by rw [Int.natAbs_neg])
          have := hl.1
          omega
      · intro z; omega
    · rw [if_neg c1]
      by_cases c2 : -l ∈ ls ∧ ¬ -l = o
      · rw [if_pos c2]
        exact ⟨fun _ => by omega, fun _ => Or.inr c2⟩
      · rw [if_neg c2]
        exact ⟨fun z => z.resolve_right c2, Or.inl⟩
  · have hvr := vl_rg ht l
    rw [e l hl]
    by_cases c1 : l ∈ ls ∧ ¬ l = o
    · rw [if_pos c1]
      have := hz l c1.1 c1.2
      omega
    · rw [if_neg c1]
      by_cases c2 : -l ∈ ls ∧ ¬ -l = o
      · rw [if_pos c2]
        have := hz (-l) c2.1 c2.2
        rw [vl_neg hl.1] at this
        omega
      · rw [if_neg c2]
theorem cl0_nil : cl0 [] := ⟨fun l hl => (by cases hl), List.Pairwise.nil⟩
theorem cl0_app {ls : List Int} {v : Int} {V : Nat} (hV : V ≤ 16) (h : cl0 ls) (hj : jn V ls v = true) : cl0 (ls ++ [v]) := by
  have hl := jn_lok hV hj
  have hj := of_decide_eq_true hj
  refine ⟨fun l hm => ?_, List.pairwise_append.mpr ⟨h.2, List.pairwise_singleton _ _, fun a ha b hb => ?_⟩⟩
  · rcases List.mem_append.mp hm with z | z
    · exact h.1 l z
    · rw [List.mem_singleton] at z; rw [z]; exact hl
  · rw [List.mem_singleton] at hb
    rw [hb]
    exact hj.2.2 a ha
theorem cl0_16 {ls : List Int} (h : cl0 ls) : ls.length ≤ 16 := by
  have hsub := nd_le (ls.map (fun x => (x.natAbs : Int))) [1, 2, 3, 4, 5, 6, 7, 8, 9, 10, 11, 12, 13, 14, 15, 16] ?_ ?_
  · simpa using hsub
  · rw [List.nodup_iff_pairwise_ne, List.pairwise_map]
    exact h.2.imp (fun {a b} hab e => hab (Int.ofNat_inj.mp e))
  · intro x hx
    obtain ⟨y, hy, rfl⟩ := List.mem_map.mp hx
    have := h.1 y hy
    unfold lok at this
    simp only [List.mem_cons, List.not_mem_nil, or_false]
    omega
def tA (tk : List Int) (k : Nat) : Int := tk.getD k 0
theorem tA_ge {tk : List Int} {k : Nat} (h : tk.length ≤ k) : tA tk k = 0 := by
  unfold tA
  rw [List.getD_eq_getElem?_getD, List.getElem?_eq_none h]
  rfl
/-- tokens of a state -/
def TV (tk : List Int) : Prop := tk.length ≤ 2000 ∧ ∀ v ∈ tk, -9999 ≤ v ∧ v ≤ 10000
theorem tA_rg {tk : List Int} (h : TV tk) (k : Nat) : -9999 ≤ tA tk k ∧ tA tk k ≤ 10000 := by
  by_cases hk : k < tk.length
  · unfold tA
    rw [List.getD_eq_getElem?_getD, List.getElem?_eq_getElem hk]
    exact h.2 _ (List.getElem_mem hk)
  · rw [tA_ge (by omega)]; omega
/-- the place behind the next 0, or -1 -/
def bz (tk : List Int) : Nat → Nat → Int
  | 0, _ => -1
  | d + 1, k => if tA tk k = 0 then (k : Int) + 1 else if tA tk k = 10000 then -1 else bz tk d (k + 1)
def bzz (tk : List Int) (k : Nat) : Int := bz tk (tk.length - k) k
theorem bz_rg {tk : List Int} : ∀ (d k : Nat), bz tk d k = -1 ∨ ∃ e : Nat, bz tk d k = (e : Int) + 1 ∧ k ≤ e ∧ e < k + d ∧ tA tk e = 0 ∧ ∀ j, k ≤ j → j < e → ¬ tA tk j = 0 ∧ ¬ tA tk j = 10000
  | 0, k => Or.inl rfl
  | d + 1, k => by
    unfold bz
    split
    · rename_i h
      exact Or.inr ⟨k, rfl, Nat.le_refl _, by omega, h, fun j h1 h2 => by omega⟩
    · rename_i h
      split
      · exact Or.inl rfl
      · rename_i h2
        rcases bz_rg (tk := tk) d (k + 1) with z | ⟨e, z1, z2, z3, z4, z5⟩
        · exact Or.inl z
        · refine Or.inr ⟨e, z1, by omega, by omega, z4, fun j h3 h4 => ?_⟩
          by_cases ej : j = k
          · rw [ej]; exact ⟨h, h2⟩
          · exact z5 j (by omega) h4
/-- the end of the line at i, or -1 -/
def lnE (tk : List Int) (i : Nat) : Int := if tA tk i = 10000 ∨ i + 1 = tk.length then -1 else if tA tk (i + 1) = 10000 then bzz tk (i + 2) else if bzz tk (i + 1) < 0 then -1 else bzz tk (bzz tk (i + 1)).toNat
theorem lnE_rg {tk : List Int} {i : Nat} (hi : i < tk.length) : lnE tk i = -1 ∨ ∃ e : Nat, lnE tk i = (e : Int) + 1 ∧ i + 2 ≤ e ∧ e < tk.length ∧ tA tk e = 0 ∧ ((tA tk (i + 1) = 10000 ∧ ∀ j, i + 2 ≤ j → j < e → ¬ tA tk j = 0) ∨ (¬ tA tk (i + 1) = 10000 ∧ ∃ z, i + 1 ≤ z ∧ z < e ∧ tA tk z = 0 ∧ (∀ j, i + 1 ≤ j → j < z → ¬ tA tk j = 0) ∧ ∀ j, z < j → j < e → ¬ tA tk j = 0)) := by
  unfold lnE
  by_cases h1 : tA tk i = 10000 ∨ i + 1 = tk.length
  · rw [if_pos h1]; exact Or.inl rfl
  · rw [if_neg h1]
    by_cases h2 : tA tk (i + 1) = 10000
    · rw [if_pos h2]
      rcases bz_rg (tk := tk) (tk.length - (i + 2)) (i + 2) with z | ⟨e, z1, z2, z3, z4, z5⟩
      · exact Or.inl z
      · exact Or.inr ⟨e, z1, by omega, by omega, z4, Or.inl ⟨h2, fun j h3 h4 => (z5 j h3 h4).1⟩⟩
    · rw [if_neg h2]
      rcases bz_rg (tk := tk) (tk.length - (i + 1)) (i + 1) with z | ⟨z, z1, z2, z3, z4, z5⟩
      · have z : bzz tk (i + 1) = -1 := z
        rw [z, if_pos (by decide)]
        exact Or.inl rfl
      · have z1 : bzz tk (i + 1) = (z : Int) + 1 := z1
        rw [z1, if_neg (by omega)]
        have et : ((z : Int) + 1).toNat = z + 1 := by omega
        rw [et]
        rcases bz_rg (tk := tk) (tk.length - (z + 1)) (z + 1) with y | ⟨e, y1, y2, y3, y4, y5⟩
        · exact Or.inl y
        · exact Or.inr ⟨e, y1, by omega, by omega, y4, Or.inr ⟨h2, z, z2, by omega, z4, fun j h3 h4 => (z5 j h3 h4).1, fun j h3 h4 => (y5 j (by omega) h4).1⟩⟩
/-- a known clause: number, literals, is it still known -/
abbrev xKn : Type := Int × List Int × Bool
def kn (KL : List xKn) (j : Nat) : xKn := KL.getD j (0, [], false)
theorem kn_app {KL : List xKn} {x : xKn} (j : Nat) : kn (KL ++ [x]) j = if j < KL.length then kn KL j else if j = KL.length then x else (0, [], false) := by
  unfold kn
  simp only [List.getD_eq_getElem?_getD]
  by_cases h : j < KL.length
  · rw [if_pos h, List.getElem?_append_left h]
  · rw [if_neg h, List.getElem?_append_right (by omega)]
    by_cases e : j = KL.length
    · rw [if_pos e, e]; simp
    · rw [if_neg e, List.getElem?_eq_none]
      · rfl
      · simp; omega
/-- the place of the known clause with the number v, or -1 -/
def fnI (KL : List xKn) (v : Int) : Nat → Nat → Int
  | 0, _ => -1
  | d + 1, j => if (kn KL j).1 = v ∧ (kn KL j).2.2 = true then (j : Int) else fnI KL v d (j + 1)
def fdk (KL : List xKn) (v : Int) : Int := fnI KL v KL.length 0
theorem fnI_rg {KL : List xKn} {v : Int} : ∀ (d j : Nat), (fnI KL v d j = -1 ∧ ∀ i, j ≤ i → i < j + d → ¬ ((kn KL i).1 = v ∧ (kn KL i).2.2 = true)) ∨ ∃ i : Nat, fnI KL v d j = (i : Int) ∧ j ≤ i ∧ i < j + d ∧ (kn KL i).1 = v ∧ (kn KL i).2.2 = true
  | 0, j => Or.inl ⟨rfl, fun i h1 h2 => by omega⟩
  | d + 1, j => by
    unfold fnI
    split
    · rename_i h
      exact Or.inr ⟨j, rfl, Nat.le_refl _, by omega, h.1, h.2⟩
    · rename_i h
      rcases fnI_rg (KL := KL) (v := v) d (j + 1) with ⟨z1, z2⟩ | ⟨i, z1, z2, z3, z4⟩
      · refine Or.inl ⟨z1, fun i h1 h2 => ?_⟩
        by_cases e : i = j
        · rw [e]; exact h
        · exact z2 i (by omega) (by omega)
      · exact Or.inr ⟨i, z1, by omega, by omega, z4⟩
theorem fdk_rg (KL : List xKn) (v : Int) : (fdk KL v = -1 ∧ ∀ i, i < KL.length → ¬ ((kn KL i).1 = v ∧ (kn KL i).2.2 = true)) ∨ ∃ i : Nat, fdk KL v = (i : Int) ∧ i < KL.length ∧ (kn KL i).1 = v ∧ (kn KL i).2.2 = true := by
  rcases fnI_rg (KL := KL) (v := v) KL.length 0 with ⟨z1, z2⟩ | ⟨i, z1, z2, z3, z4⟩
  · exact Or.inl ⟨z1, fun i hi => z2 i (by omega) (by omega)⟩
  · exact Or.inr ⟨i, z1, by omega, z4⟩
/-- what holds of known clauses -/
def KI (KL : List xKn) (hi : Int) : Prop := (∀ j, j < KL.length → 1 ≤ (kn KL j).1 ∧ (kn KL j).1 ≤ hi ∧ cl0 (kn KL j).2.1) ∧ (∀ i j, i < j → j < KL.length → (kn KL i).1 < (kn KL j).1) ∧ hi ≤ 10000
theorem fdk_at {KL : List xKn} {hi v : Int} (hK : KI KL hi) {i : Nat} (h1 : i < KL.length) (h2 : (kn KL i).1 = v) (h3 : (kn KL i).2.2 = true) : fdk KL v = (i : Int) := by
  rcases fdk_rg KL v with ⟨z1, z2⟩ | ⟨j, z1, z2, z3, z4⟩
  · exact absurd ⟨h2, h3⟩ (z2 i h1)
  · rw [z1]
    rcases Nat.lt_trichotomy i j with h | h | h
    · have := hK.2.1 i j h z2; omega
    · rw [h]
    · have := hK.2.1 j i h h1; omega
theorem fdk_no {KL : List xKn} {v : Int} (h : ∀ i, i < KL.length → ¬ ((kn KL i).1 = v ∧ (kn KL i).2.2 = true)) : fdk KL v = -1 := by
  rcases fdk_rg KL v with ⟨z1, -⟩ | ⟨j, z1, z2, z3, z4⟩
  · exact z1
  · exact absurd ⟨z3, z4⟩ (h j z2)
/-- no more known -/
def ddr (KL : List xKn) (c : Nat) : List xKn := KL.set c ((kn KL c).1, (kn KL c).2.1, false)
theorem ddr_len (KL : List xKn) (c : Nat) : (ddr KL c).length = KL.length := List.length_set
theorem kn_ddr {KL : List xKn} {c : Nat} (hc : c < KL.length) (j : Nat) : kn (ddr KL c) j = if j = c then ((kn KL c).1, (kn KL c).2.1, false) else kn KL j := by
  by_cases e : j = c
  · subst e
    have : (ddr KL j)[j]? = some ((kn KL j).1, (kn KL j).2.1, false) := by unfold ddr; rw [List.getElem?_set_self hc]
    rw [if_pos rfl]
    show ((ddr KL j).getD j (0, [], false)) = _
    rw [List.getD_eq_getElem?_getD, this]
    rfl
  · have : (ddr KL c)[j]? = KL[j]? := by unfold ddr; rw [List.getElem?_set_ne (fun z => e z.symm)]
    rw [if_neg e]
    show ((ddr KL c).getD j (0, [], false)) = KL.getD j (0, [], false)
    rw [List.getD_eq_getElem?_getD, List.getD_eq_getElem?_getD, this]
theorem KI_ddr {KL : List xKn} {hi : Int} (h : KI KL hi) {c : Nat} (hc : c < KL.length) : KI (ddr KL c) hi := by
  refine ⟨fun j hj => ?_, fun i j h1 h2 => ?_, h.2.2⟩
  · rw [ddr_len] at hj
    rw [kn_ddr hc]
    by_cases e : j = c
    · rw [if_pos e]; exact h.1 c hc
    · rw [if_neg e]; exact h.1 j hj
  · rw [ddr_len] at h2
    rw [kn_ddr hc, kn_ddr hc]
    have := h.2.1 i j h1 h2
    by_cases e : i = c
    · rw [if_pos e, if_neg (by omega)]; rw [e] at this; exact this
    · rw [if_neg e]
      by_cases e2 : j = c
      · rw [if_pos e2]; rw [e2] at this; exact this
      · rw [if_neg e2]; exact this
/-- dropping, from place k on -/
def dra (tk : List Int) : Nat → Nat → List xKn → Bool × List xKn
  | 0, _, KL => (true, KL)
  | d + 1, k, KL => if tA tk k = 0 then (true, KL) else if fdk KL (tA tk k) < 0 then (false, KL) else dra tk d (k + 1) (ddr KL (fdk KL (tA tk k)).toNat)
/-- literals from place k on: are they a clause, where they end -/
def rdl (V : Nat) (tk : List Int) : Nat → Nat → List Int → Bool × Nat × List Int
  | 0, k, ls => (true, k, ls)
  | d + 1, k, ls => if tA tk k = 0 then (true, k, ls) else if jn V ls (tA tk k) = true then rdl V tk d (k + 1) (ls ++ [tA tk k]) else (false, k, ls)
/-- following a number: 0 not ready, 1 ready, 2 a conflict; values then -/
def fw (KL : List xKn) (tv : Nat → Int) (v : Int) : Nat × (Nat → Int) :=
  if fdk KL v < 0 then (0, tv) else if (isr tv (kn KL (fdk KL v).toNat).2.1).1 = false then (0, tv) else if (isr tv (kn KL (fdk KL v).toNat).2.1).2 = 0 then (2, tv) else (1, setT tv (isr tv (kn KL (fdk KL v).toNat).2.1).2)
/-- following numbers above 0 from place k on -/
def frw (KL : List xKn) (tk : List Int) : Nat → Nat → (Nat → Int) → Nat × Nat × (Nat → Int)
  | 0, k, tv => (1, k, tv)
  | d + 1, k, tv => if 0 < tA tk k then (if (fw KL tv (tA tk k)).1 = 1 then frw KL tk d (k + 1) (fw KL tv (tA tk k)).2 else ((fw KL tv (tA tk k)).1, k + 1, (fw KL tv (tA tk k)).2)) else (1, k, tv)
/-- a candidate's numbers -/
def gp (KL : List xKn) (tk : List Int) (last : Nat) (o : Int) (tv : Nat → Int) (c k : Nat) : Bool × Nat :=
  if ft tv (kn KL c).2.1 o = 0 then (decide ((frw KL tk (last - k) k (tvo tv (kn KL c).2.1 o)).1 = 2 ∧ ¬ 0 < tA tk (frw KL tk (last - k) k (tvo tv (kn KL c).2.1 o)).2.1), (frw KL tk (last - k) k (tvo tv (kn KL c).2.1 o)).2.1) else (decide (¬ 0 < tA tk k), k)
/-- the names, from place k on: all right, and who was named -/
def nms (KL : List xKn) (tk : List Int) (last : Nat) (o : Int) (tv : Nat → Int) : Nat → Nat → List Nat → Bool × List Nat
  | 0, _, nm => (true, nm)
  | d + 1, k, nm => if last ≤ k then (true, nm) else if fdk KL (- tA tk k) < 0 then (false, nm) else if (fdk KL (- tA tk k)).toNat ∈ nm then (false, nm) else if ¬ o ∈ (kn KL (fdk KL (- tA tk k)).toNat).2.1 then (false, nm)
    else if (gp KL tk last o tv (fdk KL (- tA tk k)).toNat (k + 1)).1 = true then nms KL tk last o tv d (gp KL tk last o tv (fdk KL (- tA tk k)).toNat (k + 1)).2 ((fdk KL (- tA tk k)).toNat :: nm) else (false, nm)
/-- are all named that have o? -/
def aln (KL : List xKn) (o : Int) (nm : List Nat) : Bool := decide (∀ c, c < KL.length → (kn KL c).2.2 = true → o ∈ (kn KL c).2.1 → c ∈ nm)
def nmO (KL : List xKn) (tk : List Int) (last : Nat) (o : Int) (tv : Nat → Int) (k : Nat) : Bool := (nms KL tk last o tv 2001 k []).1 && aln KL o (nms KL tk last o tv 2001 k []).2
/-- a line that is not dropping: is it good, its literals -/
def gdl (KL : List xKn) (V : Nat) (hi : Int) (tk : List Int) (i last : Nat) : Bool × List Int :=
  if tA tk i ≤ hi then (false, []) else if (rdl V tk (tk.length - (i + 1)) (i + 1) []).1 = false then (false, [])
  else if (frw KL tk (last - ((rdl V tk (tk.length - (i + 1)) (i + 1) []).2.1 + 1)) ((rdl V tk (tk.length - (i + 1)) (i + 1) []).2.1 + 1) (tvN (rdl V tk (tk.length - (i + 1)) (i + 1) []).2.2)).1 = 1
    then (decide (¬ (rdl V tk (tk.length - (i + 1)) (i + 1) []).2.2 = []) && nmO KL tk last (- tA tk (i + 1)) (frw KL tk (last - ((rdl V tk (tk.length - (i + 1)) (i + 1) []).2.1 + 1)) ((rdl V tk (tk.length - (i + 1)) (i + 1) []).2.1 + 1) (tvN (rdl V tk (tk.length - (i + 1)) (i + 1) []).2.2)).2.2 (frw KL tk (last - ((rdl V tk (tk.length - (i + 1)) (i + 1) []).2.1 + 1)) ((rdl V tk (tk.length - (i + 1)) (i + 1) []).2.1 + 1) (tvN (rdl V tk (tk.length - (i + 1)) (i + 1) []).2.2)).2.1, (rdl V tk (tk.length - (i + 1)) (i + 1) []).2.2)
    else (decide ((frw KL tk (last - ((rdl V tk (tk.length - (i + 1)) (i + 1) []).2.1 + 1)) ((rdl V tk (tk.length - (i + 1)) (i + 1) []).2.1 + 1) (tvN (rdl V tk (tk.length - (i + 1)) (i + 1) []).2.2)).1 = 2 ∧ (frw KL tk (last - ((rdl V tk (tk.length - (i + 1)) (i + 1) []).2.1 + 1)) ((rdl V tk (tk.length - (i + 1)) (i + 1) []).2.1 + 1) (tvN (rdl V tk (tk.length - (i + 1)) (i + 1) []).2.2)).2.1 = last), (rdl V tk (tk.length - (i + 1)) (i + 1) []).2.2)
/-- the lines, from place i on -/
def jdl (V : Nat) (tk : List Int) : Nat → List xKn → Int → Nat → Nat → Int
  | 0, _, _, _, _ => 0
  | d + 1, KL, hi, l, i => if tk.length ≤ i then 0 else if lnE tk i < 0 then -(l : Int)
    else if tA tk (i + 1) = 10000 then (if (dra tk (tk.length - (i + 2)) (i + 2) KL).1 = true then jdl V tk d (dra tk (tk.length - (i + 2)) (i + 2) KL).2 hi (l + 1) (lnE tk i).toNat else -(l : Int))
    else if (gdl KL V hi tk i ((lnE tk i).toNat - 1)).1 = false then -(l : Int)
    else if (gdl KL V hi tk i ((lnE tk i).toNat - 1)).2 = [] then (l : Int)
    else jdl V tk d (KL ++ [(tA tk i, (gdl KL V hi tk i ((lnE tk i).toNat - 1)).2, true)]) (tA tk i) (l + 1) (lnE tk i).toNat
def kn0 (cs : List (List Int)) : Nat → List xKn
  | 0 => []
  | c + 1 => kn0 cs c ++ [((c : Int) + 1, cs.getD c [], true)]
/-- the verdict -/
def jdg (V g : Nat) (cs : List (List Int)) (tk : List Int) : Int := jdl V tk 2000 (kn0 cs g) g 1 0
theorem kn0_len (cs : List (List Int)) : ∀ c, (kn0 cs c).length = c
  | 0 => rfl
  | c + 1 => by unfold kn0; rw [List.length_append, kn0_len cs c]; rfl
theorem kn_kn0 (cs : List (List Int)) : ∀ (c j : Nat), j < c → kn (kn0 cs c) j = ((j : Int) + 1, cs.getD j [], true)
  | 0, j, h => by omega
  | c + 1, j, h => by
    unfold kn0
    rw [kn_app, kn0_len]
    by_cases e : j < c
    · rw [if_pos e]; exact kn_kn0 cs c j e
    · have e2 : j = c := by omega
      rw [if_neg e, if_pos e2, e2]
theorem KI_0 {cs : List (List Int)} {g : Nat} (hco : cok cs) (hg : g ≤ 40) : KI (kn0 cs g) g := by
  refine ⟨fun j hj => ?_, fun i j h1 h2 => ?_, by omega⟩
  · rw [kn0_len] at hj
    rw [kn_kn0 cs g j hj]
    exact ⟨by show (1 : Int) ≤ (j : Int) + 1; omega, by show (j : Int) + 1 ≤ (g : Int); omega, cl1_0 (cok_getD hco j)⟩
  · rw [kn0_len] at h2
    rw [kn_kn0 cs g j h2, kn_kn0 cs g i (by omega)]
    show (i : Int) + 1 < (j : Int) + 1
    omega
theorem KI_app {KL : List xKn} {hi v : Int} {ls : List Int} (h : KI KL hi) (hh : 0 ≤ hi) (hv : hi < v) (hv2 : v ≤ 10000) (hl : cl0 ls) : KI (KL ++ [(v, ls, true)]) v := by
  refine ⟨fun j hj => ?_, fun i j h1 h2 => ?_, hv2⟩
  · rw [List.length_append, List.length_singleton] at hj
    rw [kn_app]
    by_cases e : j < KL.length
    · rw [if_pos e]
      have := h.1 j e
      exact ⟨this.1, by omega, this.2.2⟩
    · rw [if_neg e, if_pos (by omega)]
      exact ⟨by show 1 ≤ v; omega, by show v ≤ v; omega, hl⟩
  · rw [List.length_append, List.length_singleton] at h2
    rw [kn_app, kn_app, if_pos (by omega)]
    by_cases e : j < KL.length
    · rw [if_pos e]; exact h.2.1 i j h1 e
    · rw [if_neg e, if_pos (by omega)]
      have := h.1 i (by omega)
      show _ < v
      omega
theorem rdl_ok {V : Nat} {tk : List Int} (hV : V ≤ 16) : ∀ (d k : Nat) (ls : List Int), cl0 ls → cl0 (rdl V tk d k ls).2.2 ∧ k ≤ (rdl V tk d k ls).2.1 ∧ (rdl V tk d k ls).2.1 ≤ k + d ∧ (rdl V tk d k ls).2.2.length + k = ls.length + (rdl V tk d k ls).2.1 ∧ ((rdl V tk d k ls).1 = true → ((rdl V tk d k ls).2.1 = k + d ∨ tA tk (rdl V tk d k ls).2.1 = 0) ∧ (∀ j, k ≤ j → j < (rdl V tk d k ls).2.1 → ¬ tA tk j = 0) ∧ ∀ j, j < (rdl V tk d k ls).2.2.length → (rdl V tk d k ls).2.2.getD j 0 = if j < ls.length then ls.getD j 0 else tA tk (k + (j - ls.length)))
  | 0, k, ls, h => by
    unfold rdl
    dsimp only
    exact ⟨h, Nat.le_refl _, Nat.le_refl _, rfl, fun _ => ⟨Or.inl rfl, fun j h1 h2 => by omega, fun j hj => by rw [if_pos hj]⟩⟩
  | d + 1, k, ls, h => by
    unfold rdl
    split
    · rename_i h0
      dsimp only
      exact ⟨h, Nat.le_refl _, by omega, rfl, fun _ => ⟨Or.inr h0, fun j h1 h2 => by omega, fun j hj => by rw [if_pos hj]⟩⟩
    · rename_i h0
      split
      · rename_i hj
        obtain ⟨i1, i2, i3, i4, i5⟩ := rdl_ok (tk := tk) hV d (k + 1) (ls ++ [tA tk k]) (cl0_app hV h hj)
        rw [List.length_append, List.length_singleton] at i4
        refine ⟨i1, by omega, by omega, by omega, fun z => ?_⟩
        obtain ⟨j1, j2, j3⟩ := i5 z
        refine ⟨by rcases j1 with y | y; exact Or.inl (by omega); exact Or.inr y, fun j h1 h2 => ?_, fun j hjl => ?_⟩
        · by_cases e : j = k
          · rw [e]; exact h0
          · exact j2 j (by omega) h2
        · rw [j3 j hjl, List.length_append, List.length_singleton, getD_app]
          by_cases e : j < ls.length
          · rw [if_pos (by omega), if_pos e, if_pos e]
          · by_cases e2 : j = ls.length
            · rw [if_pos (by omega), if_neg e, if_pos e2, if_neg e, e2, Nat.sub_self, Nat.add_zero]
            · rw [if_neg (by omega), if_neg e]
              congr 1
              omega
      · dsimp only
        exact ⟨h, Nat.le_refl _, by omega, rfl, fun z => (by cases z)⟩
theorem fw_ok {KL : List xKn} {hi : Int} (hK : KI KL hi) {tv : Nat → Int} (ht : tok tv) {v : Int} : tok (fw KL tv v).2 ∧ (fw KL tv v).1 ≤ 2 := by
  unfold fw
  split
  · exact ⟨ht, by omega⟩
  · split
    · exact ⟨ht, by omega⟩
    · split
      · exact ⟨ht, by omega⟩
      · exact ⟨tok_set ht _, by omega⟩
theorem frw_ok {KL : List xKn} {hi : Int} (hK : KI KL hi) {tk : List Int} : ∀ (d k : Nat) (tv : Nat → Int), tok tv → tok (frw KL tk d k tv).2.2 ∧ k ≤ (frw KL tk d k tv).2.1 ∧ (frw KL tk d k tv).2.1 ≤ k + d ∧ (frw KL tk d k tv).1 ≤ 2 ∧ ((frw KL tk d k tv).1 = 1 → (frw KL tk d k tv).2.1 = k + d ∨ ¬ 0 < tA tk (frw KL tk d k tv).2.1)
  | 0, k, tv, h => ⟨h, Nat.le_refl _, Nat.le_refl _, by show 1 ≤ 2; omega, fun _ => Or.inl rfl⟩
  | d + 1, k, tv, h => by
    obtain ⟨f1, f2⟩ := fw_ok hK h (v := tA tk k)
    unfold frw
    split
    · split
      · obtain ⟨i1, i2, i3, i4, i5⟩ := frw_ok hK (tk := tk) d (k + 1) (fw KL tv (tA tk k)).2 f1
        exact ⟨i1, by omega, by omega, i4, fun z => by rcases i5 z with y | y; exact Or.inl (by omega); exact Or.inr y⟩
      · rename_i h1
        exact ⟨f1, by simp only; omega, by simp only; omega, f2, fun z => absurd z h1⟩
    · rename_i h0
      exact ⟨h, Nat.le_refl _, by simp only; omega, by simp only; omega, fun _ => Or.inr h0⟩
