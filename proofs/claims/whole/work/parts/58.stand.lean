/-! A clause's opposites; candidates: withstands of the class. -/
def tvN (ls : List Int) : Nat → Int := ls.foldl (fun tv l => setT tv (-l)) tv0
def tvo (tv : Nat → Int) (ls : List Int) (o : Int) : Nat → Int := ls.foldl (fun t l => if ¬ l = o ∧ vl t l = 0 then setT t (-l) else t) tv
def ft (tv : Nat → Int) (ls : List Int) (o : Int) : Int := (ls.find? (fun l => decide (¬ l = o ∧ 0 < vl tv l))).getD 0
/-- does the candidate d withstand; the clauses taken by then, the conflict or 0, what is needed -/
def wst (cs : List (List Int)) (al mk : Nat → Bool) (tv : Nat → Int) (tak : xTk) (o : Int) (d : Nat) : Bool × xTk × Nat × (Nat → Bool) :=
  if ft tv (cg cs d) o = 0 then (decide (¬ (prg cs al mk (17 - tak.length) (tvo tv (cg cs d) o) tak).2.2 = 0), (prg cs al mk (17 - tak.length) (tvo tv (cg cs d) o) tak).2.1, (prg cs al mk (17 - tak.length) (tvo tv (cg cs d) o) tak).2.2, nds cs (prg cs al mk (17 - tak.length) (tvo tv (cg cs d) o) tak).2.1 (prg cs al mk (17 - tak.length) (tvo tv (cg cs d) o) tak).2.1.length (nvc cs (prg cs al mk (17 - tak.length) (tvo tv (cg cs d) o) tak).2.2))
  else (true, tak, 0, nds cs tak tak.length (fun v => decide (v = (ft tv (cg cs d) o).natAbs)))
theorem vl_other {tv : Nat → Int} {l m : Int} (hm : ¬ m = 0) (hl : ¬ l = 0) (h : ¬ m.natAbs = l.natAbs) : vl (setT tv l) m = vl tv m := by
  rw [vl_set hl hm, if_neg (fun e => h (by rw [e])), if_neg (fun e => h (by rw [e, Int.natAbs_neg]))]
theorem tvN_f : ∀ (ls : List Int) (tv : Nat → Int), (∀ l ∈ ls, lok l) → ls.Pairwise (fun a b => ¬ a.natAbs = b.natAbs) → tok tv → (∀ l ∈ ls, vl tv l = 0) → tok (ls.foldl (fun tv l => setT tv (-l)) tv) ∧ ∀ m, lok m → vl (ls.foldl (fun tv l => setT tv (-l)) tv) m = if m ∈ ls then -1 else if -m ∈ ls then 1 else vl tv m
  | [], tv, _, _, ht, _ => ⟨ht, fun m _ => by simp⟩
  | l :: ls, tv, hk, hp, ht, hz => by
    rw [List.foldl_cons]
    have hl := hk l List.mem_cons_self
    have hp2 := List.pairwise_cons.mp hp
    have hln : ¬ -l = 0 := (lok_neg hl).1
    obtain ⟨i1, i2⟩ := tvN_f ls (setT tv (-l)) (fun m hm => hk m (List.mem_cons_of_mem _ hm)) hp2.2 (tok_set ht _) (fun m hm => by
      rw [vl_other (hk m (List.mem_cons_of_mem _ hm)).1 hln (by rw [Int.natAbs_neg]; exact fun e => hp2.1 m hm e.symm)]
      exact hz m (List.mem_cons_of_mem _ hm))
    refine ⟨i1, fun m hm => ?_⟩
    rw [i2 m hm, vl_set hln hm.1]
    by_cases e1 : m = l
    · subst e1
      have n1 : ¬ m ∈ ls := fun z => hp2.1 m z rfl
      have n2 : ¬ -m ∈ ls := fun z => hp2.1 (-m) z (by rw [Int.natAbs_neg])
      rw [if_neg n1, if_neg n2, if_neg (by have := hm.1; omega), if_pos (by omega), if_pos List.mem_cons_self]
    · by_cases e2 : m = -l
      · subst e2
        have n1 : ¬ -l ∈ ls := fun z => hp2.1 (-l) z (by rw [Int.natAbs_neg])
        have n2 : ¬ l ∈ ls := fun z => hp2.1 l z rfl
        rw [Int.neg_neg, if_neg n1, if_neg n2, if_pos rfl, if_neg (by rw [List.mem_cons]; rintro (z | z); exact e1 z; exact n1 z), if_pos List.mem_cons_self]
      · have q1 : m ∈ l :: ls ↔ m ∈ ls := by rw [List.mem_cons]; exact ⟨fun z => z.resolve_left e1, Or.inr⟩
        have q2 : -m ∈ l :: ls ↔ -m ∈ ls := by rw [List.mem_cons]; exact ⟨fun z => z.resolve_left (by omega), Or.inr⟩
        have e3 : ¬ m = - -l := by omega
        simp only [q1, q2, e2, e3, if_false]
theorem tvN_ok {ls : List Int} (h : cl1 ls) : tok (tvN ls) ∧ TM (tvN ls) (opp (mask ls)) := by
  obtain ⟨h1, h2⟩ := tvN_f ls tv0 h.2.1 h.2.2 tok0 (fun l _ => by unfold vl tv0; simp)
  refine ⟨h1, fun l hl => ?_⟩
  have e : vl (tvN ls) l = if l ∈ ls then -1 else if -l ∈ ls then 1 else vl tv0 l := h2 l hl
  rw [e, Bool.eq_iff_iff, mm_ino h.2.1 hl, decide_eq_true_iff]
  have z : vl tv0 l = 0 := by unfold vl tv0; simp
  rw [z]
  constructor
  · intro hm
    rw [if_neg (fun y => by
      have := cl1_inj h hm y (Int.natAbs_neg l)
      have := hl.1
      omega), if_pos hm]
    omega
  · intro hm
    split at hm
    · omega
    · split at hm
      · assumption
      · omega
theorem tvo_f {o : Int} : ∀ (ls : List Int) (tv : Nat → Int), (∀ l ∈ ls, lok l) → ls.Pairwise (fun a b => ¬ a.natAbs = b.natAbs) → tok tv → (∀ l ∈ ls, ¬ l = o → ¬ 0 < vl tv l) → tok (ls.foldl (fun t l => if ¬ l = o ∧ vl t l = 0 then setT t (-l) else t) tv) ∧ ∀ m, lok m → vl (ls.foldl (fun t l => if ¬ l = o ∧ vl t l = 0 then setT t (-l) else t) tv) m = if m ∈ ls ∧ ¬ m = o then -1 else if -m ∈ ls ∧ ¬ -m = o then 1 else vl tv m
  | [], tv, _, _, ht, _ => ⟨ht, fun m _ => by simp⟩
  | l :: ls, tv, hk, hp, ht, hz => by
    rw [List.foldl_cons]
    have hl := hk l List.mem_cons_self
    have hp2 := List.pairwise_cons.mp hp
    have hln : ¬ -l = 0 := (lok_neg hl).1
    have hvr := vl_rg ht l
    by_cases hc : ¬ l = o ∧ vl tv l = 0
    · rw [if_pos hc]
      obtain ⟨i1, i2⟩ := tvo_f (o := o) ls (setT tv (-l)) (fun m hm => hk m (List.mem_cons_of_mem _ hm)) hp2.2 (tok_set ht _) (fun m hm ho => by
        rw [vl_other (hk m (List.mem_cons_of_mem _ hm)).1 hln (by rw [Int.natAbs_neg]; exact fun e => hp2.1 m hm e.symm)]
        exact hz m (List.mem_cons_of_mem _ hm) ho)
      refine ⟨i1, fun m hm => ?_⟩
      rw [i2 m hm, vl_set hln hm.1]
      by_cases e1 : m = l
      · subst e1
        have n1 : ¬ (m ∈ ls ∧ ¬ m = o) := fun z => hp2.1 m z.1 rfl
        have n2 : ¬ (-m ∈ ls ∧ ¬ -m = o) := fun z => hp2.1 (-m) z.1 (by rw [Int.natAbs_neg])
        rw [if_neg n1, if_neg n2, if_neg (by have := hm.1; omega), if_pos (by omega), if_pos ⟨List.mem_cons_self, hc.1⟩]
      · by_cases e2 : m = -l
        · subst e2
          have n1 : ¬ (-l ∈ ls ∧ ¬ -l = o) := fun z => hp2.1 (-l) z.1 (by rw [Int.natAbs_neg])
          have n2 : ¬ (l ∈ ls ∧ ¬ l = o) := fun z => hp2.1 l z.1 rfl
          rw [Int.neg_neg, if_neg n1, if_neg n2, if_pos rfl, if_neg (by rw [List.mem_cons]; rintro ⟨z | z, y⟩; exact e1 z; exact n1 ⟨z, y⟩), if_pos ⟨List.mem_cons_self, hc.1⟩]
        · have q1 : m ∈ l :: ls ↔ m ∈ ls := by rw [List.mem_cons]; exact ⟨fun z => z.resolve_left e1, Or.inr⟩
          have q2 : -m ∈ l :: ls ↔ -m ∈ ls := by rw [List.mem_cons]; exact ⟨fun z => z.resolve_left (by omega), Or.inr⟩
          have e3 : ¬ m = - -l := by omega
          simp only [q1, q2, e2, e3, if_false]
    · rw [if_neg hc]
      obtain ⟨i1, i2⟩ := tvo_f (o := o) ls tv (fun m hm => hk m (List.mem_cons_of_mem _ hm)) hp2.2 ht (fun m hm => hz m (List.mem_cons_of_mem _ hm))
      refine ⟨i1, fun m hm => ?_⟩
      rw [i2 m hm]
      have hcase : l = o ∨ vl tv l = -1 := by
        by_cases e : l = o
        · exact Or.inl e
        · right
          have := hz l List.mem_cons_self e
          have h0 : ¬ vl tv l = 0 := fun y => hc ⟨e, y⟩
          omega
      by_cases e1 : m = l
      · subst e1
        have n1 : ¬ m ∈ ls := fun z => hp2.1 m z rfl
        have n2 : ¬ -m ∈ ls := fun z => hp2.1 (-m) z (by rw [Int.natAbs_neg])
        rw [if_neg (fun z => n1 z.1), if_neg (fun z => n2 z.1)]
        rcases hcase with e | e
        · rw [if_neg (fun z => z.2 e), if_neg]
          rintro ⟨z, -⟩
          rcases List.mem_cons.mp z with z | z
          · have := hm.1; omega
          · exact n2 z
        · by_cases eo : m = o
          · rw [if_neg (fun z => z.2 eo), if_neg]
            rintro ⟨z, -⟩
            rcases List.mem_cons.mp z with z | z
            · have := hm.1; omega
            · exact n2 z
          · rw [if_pos ⟨List.mem_cons_self, eo⟩, e]
      · by_cases e2 : m = -l
        · subst e2
          have n1 : ¬ -l ∈ ls := fun z => hp2.1 (-l) z (by rw [Int.natAbs_neg])
          have n2 : ¬ l ∈ ls := fun z => hp2.1 l z rfl
          rw [Int.neg_neg, if_neg (fun z => n1 z.1), if_neg (fun z => n2 z.1), if_neg (by rw [List.mem_cons]; rintro ⟨z | z, -⟩; exact e1 z; exact n1 z)]
          rcases hcase with e | e
          · rw [if_neg (fun z => z.2 e)]
          · by_cases eo : l = o
            · rw [if_neg (fun z => z.2 eo)]
            · rw [if_pos ⟨List.mem_cons_self, eo⟩, vl_neg hl.1, e]; rfl
        · have q1 : m ∈ l :: ls ↔ m ∈ ls := by rw [List.mem_cons]; exact ⟨fun z => z.resolve_left e1, Or.inr⟩
          have q2 : -m ∈ l :: ls ↔ -m ∈ ls := by rw [List.mem_cons]; exact ⟨fun z => z.resolve_left (by omega), Or.inr⟩
          simp only [q1, q2]
/-- the other literals of a candidate, as a set -/
def oth (ls : List Int) (o : Int) : Int32 := mask ls &&& (sb (li o) ^^^ (-1))
theorem mm_oth {ls : List Int} {o : Int} (h : cl1 ls) (ho : lok o) {l : Int} (hl : lok l) : mm (oth ls o) (li l) = true ↔ (l ∈ ls ∧ ¬ l = o) := by
  unfold oth
  rw [mm_and, mm_not _ (li_lt hl), mm_sb _ (li_lt ho) _ (li_lt hl), Bool.and_eq_true, mm_in h.2.1 hl]
  simp only [Bool.not_eq_true', decide_eq_false_iff_not]
  rw [li_inj ho hl]
  exact ⟨fun z => ⟨z.1, fun e => z.2 e.symm⟩, fun z => ⟨z.1, fun e => z.2 e.symm⟩⟩
theorem opp_sb {o : Int} (ho : lok o) : opp (sb (li o)) = sb (li (-o)) := by
  apply mm_ext
  intro i hi
  obtain ⟨l, hl, rfl⟩ := li_sur i hi
  rw [mm_opp _ (li_lt hl), li_sw hl, mm_sb _ (li_lt ho) _ (li_lt (lok_neg hl)), mm_sb _ (li_lt (lok_neg ho)) _ (li_lt hl)]
  apply decide_eq_decide.mpr
  rw [li_inj ho (lok_neg hl), li_inj (lok_neg ho) hl]
  omega
theorem oth_0 {tv : Nat → Int} {ls : List Int} {o : Int} {m : Int32} (h : cl1 ls) (ho : lok o) (hT : TM tv m) : (oth ls o &&& m = 0) ↔ ft tv ls o = 0 := by
  have hf : ft tv ls o = 0 ↔ ∀ l ∈ ls, ¬ (¬ l = o ∧ 0 < vl tv l) := by
    unfold ft
    cases hfi : ls.find? (fun l => decide (¬ l = o ∧ 0 < vl tv l)) with
    | none =>
      have := List.find?_eq_none.mp hfi
      exact ⟨fun _ l hl z => this l hl (decide_eq_true z), fun _ => rfl⟩
    | some x =>
      have h1 := List.find?_some hfi
      have h2 := List.mem_of_find?_eq_some hfi
      exact ⟨fun z => absurd z (h.2.1 x h2).1, fun z => absurd (of_decide_eq_true h1) (z x h2)⟩
  rw [hf, mm_z]
  constructor
  · intro hz l hl hc
    have hk := h.2.1 l hl
    have := hz (li l) (li_lt hk)
    rw [mm_and, (mm_oth h ho hk).mpr ⟨hl, hc.1⟩, hT l hk, decide_eq_true hc.2] at this
    cases this
  · intro hz i hi
    obtain ⟨l, hk, rfl⟩ := li_sur i hi
    rw [mm_and, hT l hk]
    cases hb : mm (oth ls o) (li l) with
    | false => rfl
    | true =>
      obtain ⟨h1, h2⟩ := (mm_oth h ho hk).mp hb
      rw [Bool.true_and, decide_eq_false]
      exact fun z => hz l h1 ⟨h2, z⟩
theorem tvo_ok {tv : Nat → Int} {ls : List Int} {o : Int} {m : Int32} (h : cl1 ls) (ho : lok o) (ht : tok tv) (hT : TM tv m) (hf : ft tv ls o = 0) : tok (tvo tv ls o) ∧ TM (tvo tv ls o) (m ||| opp (oth ls o)) ∧ ∀ l, lok l → ¬ vl tv l = 0 → vl (tvo tv ls o) l = vl tv l := by
  have hz : ∀ l ∈ ls, ¬ l = o → ¬ 0 < vl tv l := by
    intro l hl hlo hv
    have h0 := (mm_z.mp ((oth_0 h ho hT).mpr hf)) (li l) (li_lt (h.2.1 l hl))
    rw [mm_and, (mm_oth h ho (h.2.1 l hl)).mpr ⟨hl, hlo⟩, hT l (h.2.1 l hl), decide_eq_true hv] at h0
    cases h0
  obtain ⟨h1, h2⟩ := tvo_f (o := o) ls tv h.2.1 h.2.2 ht hz
  have e : ∀ m, lok m → vl (tvo tv ls o) m = if m ∈ ls ∧ ¬ m = o then -1 else if -m ∈ ls ∧ ¬ -m = o then 1 else vl tv m := h2
  refine ⟨h1, fun l hl => ?_, fun l hl hv => ?_⟩
  · have hvr := vl_rg ht l
    rw [mm_or, hT l hl, mm_opp _ (li_lt hl), li_sw hl, e l hl, Bool.eq_iff_iff]
    simp only [Bool.or_eq_true, decide_eq_true_iff]
    rw [mm_oth h ho (lok_neg hl)]
    by_cases c1 : l ∈ ls ∧ ¬ l = o
    · rw [if_pos c1]
      have := hz l c1.1 c1.2
      constructor
      · rintro (z | z)
        · exact absurd z this
        · have := cl1_inj h c1.1 z.1 (by rw [Int.natAbs_neg])
          have := hl.1
          omega
      · intro z; omega
    · rw [if_neg c1]
      by_cases c2 : -l ∈ ls ∧ ¬ -l = o
      · rw [if_pos c2]
        exact ⟨fun _ => by omega, fun _ => Or.inr c2⟩
      · rw [if_neg c2]
        exact ⟨fun z => z.resolve_right c2, Or.inl⟩
  · have hvr := vl_rg ht l
    rw [e l hl]
    by_cases c1 : l ∈ ls ∧ ¬ l = o
    · rw [if_pos c1]
      have := hz l c1.1 c1.2
      omega
    · rw [if_neg c1]
      by_cases c2 : -l ∈ ls ∧ ¬ -l = o
      · rw [if_pos c2]
        have := hz (-l) c2.1 c2.2
        rw [vl_neg hl.1] at this
        omega
      · rw [if_neg c2]
theorem TI_mono {cs : List (List Int)} {tv tv' : Nat → Int} {tak : xTk} (hco : cok cs) (hI : TI cs tv tak) (h : ∀ l, lok l → ¬ vl tv l = 0 → vl tv' l = vl tv l) : TI cs tv' tak := by
  refine ⟨fun k hk => ?_, hI.2⟩
  obtain ⟨a1, a2, a3, a4, a5, a6⟩ := hI.1 k hk
  refine ⟨a1, a2, a3, a4, by rw [h _ a3 (by omega)]; exact a5, fun m hm => ?_⟩
  rcases a6 m hm with e | e
  · exact Or.inl e
  · right
    rw [h m ((cg_ok hco _).2.1 m hm) (by omega)]
    exact e
