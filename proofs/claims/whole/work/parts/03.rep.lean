/-! A world of numbered cells, and the heap: ad gives each cell its address. -/
def x_cv (ad : Nat → Nat) (v : Value) : Value := match v with
  | .ref i => .ref (ad i)
  | v => v
def x_rv (ad : Nat → Nat) (i : Nat) : Value := match i with
  | 0 => .null
  | j + 1 => .ref (ad (j + 1))
def x_fv (fk : Nat → Nat → Nat) (ad : Nat → Nat) (w : xW) (o ci k : Nat) : Value := match fk ci k with
  | 0 => .int (x_i w o k)
  | 1 => .long (x_j w o k)
  | _ + 2 => x_rv ad (x_r w o k)
def x_ce (cA : Nat → ClassId) (nf : Nat → Nat) (fk : Nat → Nat → Nat) (ad : Nat → Nat) (w : xW) (o : Nat) : va_E := match x_k w o with
  | 0 => .inl (cA 0, x_l w o, .inl (x_i w o))
  | 1 => .inl (cA 1, x_l w o, .inl (x_i w o))
  | 2 => .inl (cA 2, x_l w o, .inr (.inl (x_j w o)))
  | ci + 3 => .inr (ci, (List.range (nf ci)).map (x_fv fk ad w o ci))
def x_wd (cA : Nat → ClassId) (nf : Nat → Nat) (fk : Nat → Nat → Nat) (ad : Nat → Nat) (w : xW) : va_W := (List.range (x_N w)).map fun i => (ad i, x_ce cA nf fk ad w i)
/-- a reference within N cells, or to something that is no cell of the world -/
def x_wf (N : Nat) (v : Value) : Prop := match v with
  | .ref i => i < N ∨ x_sc ≤ i
  | _ => True
/-- the same addresses below N, and of what is no cell of the world -/
def x_ext (N : Nat) (ad ad' : Nat → Nat) : Prop := ∀ i, i < N ∨ x_sc ≤ i → ad' i = ad i
theorem x_ext_rf {N : Nat} {ad : Nat → Nat} : x_ext N ad ad := fun _ _ => rfl
theorem x_ext_tr {N N' : Nat} {a b c : Nat → Nat} (hN : N ≤ N') (h : x_ext N a b) (h2 : x_ext N' b c) : x_ext N a c := fun i hi => by
  rw [h2 i (by rcases hi with hi | hi <;> omega), h i hi]
theorem x_ext_le {N N' : Nat} {a b : Nat → Nat} (hN : N ≤ N') (h : x_ext N' a b) : x_ext N a b := fun i hi => h i (by rcases hi with hi | hi <;> omega)
theorem x_wf_le {N N' : Nat} (hN : N ≤ N') {v : Value} (h : x_wf N v) : x_wf N' v := by
  cases v <;> first | trivial | skip
  rcases h with h | h
  · exact Or.inl (Nat.lt_of_lt_of_le h hN)
  · exact Or.inr h
theorem x_cat_cv (ad : Nat → Nat) (v : Value) : (x_cv ad v).category = v.category := by cases v <;> rfl
theorem x_cats_cv (ad : Nat → Nat) (st : List Value) : ((st.map (x_cv ad)).map fun v => v.category).sum = x_cats st := by
  induction st with
  | nil => rfl
  | cons v r ih =>
    simp only [List.map_cons, List.sum_cons, ih, x_cat_cv]
    cases v <;> rfl
theorem x_wd_len {cA : Nat → ClassId} {nf : Nat → Nat} {fk : Nat → Nat → Nat} {ad : Nat → Nat} {w : xW} : (x_wd cA nf fk ad w).length = x_N w := by simp [x_wd]
theorem x_wd_at {cA : Nat → ClassId} {nf : Nat → Nat} {fk : Nat → Nat → Nat} {ad : Nat → Nat} {w : xW} {o : Nat} (ho : o < x_N w) : (x_wd cA nf fk ad w)[o]? = some (ad o, x_ce cA nf fk ad w o) := by
  simp [x_wd, ho]
theorem x_wd_in {cA : Nat → ClassId} {nf : Nat → Nat} {fk : Nat → Nat → Nat} {ad : Nat → Nat} {w : xW} {o : Nat} {q : Nat × va_E} (h : (x_wd cA nf fk ad w)[o]? = some q) : o < x_N w ∧ q = (ad o, x_ce cA nf fk ad w o) := by
  have h1 : o < x_N w := by
    have := (List.getElem?_eq_some_iff.mp h).1
    rwa [x_wd_len] at this
  rw [x_wd_at h1] at h
  exact ⟨h1, (Option.some.inj h).symm⟩
theorem x_ce_eq {cA : Nat → ClassId} {nf : Nat → Nat} {fk : Nat → Nat → Nat} {ad : Nat → Nat} {w w' : xW} {o : Nat} (hk : x_k w' o = x_k w o) (hl : x_l w' o = x_l w o) (hi : x_i w' o = x_i w o) (hj : x_j w' o = x_j w o) (hr : x_r w' o = x_r w o) : x_ce cA nf fk ad w' o = x_ce cA nf fk ad w o := by
  have hf : ∀ ci, x_fv fk ad w' o ci = x_fv fk ad w o ci := by
    intro ci; funext k
    simp only [x_fv, hi, hj, hr]
  simp only [x_ce, hk, hl, hi, hj, hf]
theorem x_wd_set {cA : Nat → ClassId} {nf : Nat → Nat} {fk : Nat → Nat → Nat} {ad : Nat → Nat} {w w' : xW} {o : Nat} {e : va_E} (hN : x_N w' = x_N w) (he : x_ce cA nf fk ad w' o = e) (hne : ∀ i, ¬ i = o → x_ce cA nf fk ad w' i = x_ce cA nf fk ad w i) : (x_wd cA nf fk ad w).set o (ad o, e) = x_wd cA nf fk ad w' := by
  apply List.ext_getElem?
  intro i
  rw [List.getElem?_set, x_wd_len]
  by_cases hi : i < x_N w
  · rw [x_wd_at (w := w') (by rw [hN]; exact hi), x_wd_at hi]
    by_cases h : o = i
    · subst h
      rw [if_pos rfl, if_pos hi, he]
    · rw [if_neg h, hne i (fun q => h q.symm)]
  · have h1 : (x_wd cA nf fk ad w')[i]? = none := by rw [List.getElem?_eq_none_iff, x_wd_len, hN]; omega
    have h2 : (x_wd cA nf fk ad w)[i]? = none := by rw [List.getElem?_eq_none_iff, x_wd_len]; omega
    rw [h1, h2]
    by_cases h : o = i
    · rw [if_pos h, if_neg (by omega)]
    · rw [if_neg h]
theorem x_rv_ext {N : Nat} {ad ad' : Nat → Nat} (h : x_ext N ad ad') {i : Nat} (hi : i = 0 ∨ i < N) : x_rv ad' i = x_rv ad i := by
  cases i with
  | zero => rfl
  | succ j =>
    show Value.ref (ad' (j + 1)) = Value.ref (ad (j + 1))
    rw [h (j + 1) (Or.inl (by rcases hi with hi | hi <;> omega))]
theorem x_cv_ext {N : Nat} {ad ad' : Nat → Nat} (h : x_ext N ad ad') {v : Value} (hv : x_wf N v) : x_cv ad' v = x_cv ad v := by
  cases v with
  | ref i =>
    show Value.ref (ad' i) = Value.ref (ad i)
    rw [h i hv]
  | _ => rfl
theorem x_ce_ext {cA : Nat → ClassId} {nf : Nat → Nat} {fk : Nat → Nat → Nat} {ad ad' : Nat → Nat} {w : xW} {o : Nat} (h : x_ext (x_N w) ad ad') (hr : ∀ o k, x_r w o k = 0 ∨ x_r w o k < x_N w) : x_ce cA nf fk ad' w o = x_ce cA nf fk ad w o := by
  have hf : ∀ ci, x_fv fk ad' w o ci = x_fv fk ad w o ci := by
    intro ci; funext k
    simp only [x_fv]
    split
    · rfl
    · rfl
    · exact x_rv_ext h (hr o k)
  simp only [x_ce, hf]
/-- one cell more -/
theorem x_wd_push {cA : Nat → ClassId} {nf : Nat → Nat} {fk : Nat → Nat → Nat} {ad ad' : Nat → Nat} {w : xW} {kind len n q : Nat} {e : va_E} (h : x_ext (x_N w) ad ad') (hq : ad' (x_N w) = q) (hr : ∀ o k, x_r w o k = 0 ∨ x_r w o k < x_N w) (he : x_ce cA nf fk ad' (x_new w kind len n) (x_N w) = e) :
    x_wd cA nf fk ad w ++ [(q, e)] = x_wd cA nf fk ad' (x_new w kind len n) := by
  have h0 : x_wd cA nf fk ad' (x_new w kind len n) = (List.range (x_N w + 1)).map fun i => (ad' i, x_ce cA nf fk ad' (x_new w kind len n) i) := rfl
  rw [h0, List.range_succ, List.map_append, List.map_singleton, he, hq]
  congr 1
  unfold x_wd
  apply List.map_congr_left
  intro i hi
  have hi := List.mem_range.mp hi
  have hne : ¬ i = x_N w := by omega
  rw [h i (Or.inl hi), x_ce_eq (w := w) (w' := x_new w kind len n) (by simp [x_new, x_k, x_row, hne]) (by simp [x_new, x_l, x_row, hne]) (by simp [x_new, x_i, x_row, hne]) (by simp [x_new, x_j, x_row, hne]) (by simp [x_new, x_r, x_row, hne]), x_ce_ext h hr]
/-- the heap holds the world, apart, in A; fields name cells of the world; no cell lies behind the last -/
def x_rep (cl : List vw_C) (D : va_G) (cA : Nat → ClassId) (nf : Nat → Nat) (fk : Nat → Nat → Nat) (A : Nat → Prop) (ad : Nat → Nat) (w : xW) (H : Heap) : Prop :=
  va_P D cl (x_wd cA nf fk ad w) H ∧ va_D A (x_wd cA nf fk ad w) ∧ (∀ o, x_N w ≤ o → x_k w o = 99) ∧ ∀ o k, x_r w o k = 0 ∨ x_r w o k < x_N w
/-- the locals -/
def x_lh (ad : Nat → Nat) (nL : Nat) (ls : Array Slot) (L : xL) : Prop := ls.size = nL ∧ lv_wf ls ∧ ∀ i v, x_at L i = some v → ls[i]? = some (.val (x_cv ad v))
def x_as (ad : Nat → Nat) : Nat → xL → List (Nat × Value)
  | _, [] => []
  | i, some v :: t => (i, x_cv ad v) :: x_as ad (i + 1) t
  | i, none :: t => x_as ad (i + 1) t
theorem x_as_in {ad : Nat → Nat} : ∀ (L : xL) (i : Nat) (q : Nat × Value), q ∈ x_as ad i L ↔ ∃ j v, x_at L j = some v ∧ q = (i + j, x_cv ad v)
  | [], i, q => by simp [x_as, x_at]
  | none :: t, i, q => by
    rw [x_as, x_as_in t (i + 1) q]
    constructor
    · rintro ⟨j, v, h1, h2⟩
      exact ⟨j + 1, v, h1, by rw [h2]; congr 1; omega⟩
    · rintro ⟨j, v, h1, h2⟩
      cases j with
      | zero => cases h1
      | succ j => exact ⟨j, v, h1, by rw [h2]; congr 1; omega⟩
  | some a :: t, i, q => by
    rw [x_as, List.mem_cons, x_as_in t (i + 1) q]
    constructor
    · rintro (h | ⟨j, v, h1, h2⟩)
      · exact ⟨0, a, rfl, h⟩
      · exact ⟨j + 1, v, h1, by rw [h2]; congr 1; omega⟩
    · rintro ⟨j, v, h1, h2⟩
      cases j with
      | zero => cases h1; exact Or.inl h2
      | succ j => exact Or.inr ⟨j, v, h1, by rw [h2]; congr 1; omega⟩
theorem x_lh_as {ad : Nat → Nat} {nL : Nat} {ls : Array Slot} {L : xL} (h : x_lh ad nL ls L) : lv_has ls nL (x_as ad 0 L) := by
  refine ⟨h.1, h.2.1, fun q hq => ?_⟩
  obtain ⟨j, v, h1, rfl⟩ := (x_as_in L 0 q).mp hq
  rw [Nat.zero_add]
  exact h.2.2 j v h1
theorem x_at_set : ∀ (L : xL) (i j : Nat) (a : Option Value) (v : Value), x_at (x_set L i a) j = some v → (j = i ∧ a = some v) ∨ (¬ j = i ∧ x_at L j = some v)
  | [], i, j, a, v, h => by simp [x_set, x_at] at h
  | b :: t, 0, 0, a, v, h => Or.inl ⟨rfl, h⟩
  | b :: t, 0, j + 1, a, v, h => Or.inr ⟨by omega, h⟩
  | b :: t, i + 1, 0, a, v, h => Or.inr ⟨by omega, h⟩
  | b :: t, i + 1, j + 1, a, v, h => by
    rcases x_at_set t i j a v h with ⟨h1, h2⟩ | ⟨h1, h2⟩
    · exact Or.inl ⟨by omega, h2⟩
    · exact Or.inr ⟨by omega, h2⟩
theorem x_two_cat {v : Value} : x_two (some v) = true ↔ v.category = 2 := by cases v <;> simp [x_two, Value.category]
theorem x_at_cl {L : xL} {i j : Nat} {v : Value} (h : x_at (x_cl L i) j = some v) : x_at L j = some v ∧ ¬ (j = i ∧ v.category = 2) := by
  unfold x_cl at h
  cases ht : x_two (x_at L i) with
  | true =>
    rw [ht] at h
    rcases x_at_set _ _ _ _ _ h with ⟨-, h2⟩ | ⟨h1, h2⟩
    · cases h2
    · exact ⟨h2, fun q => h1 q.1⟩
  | false =>
    rw [ht] at h
    refine ⟨h, fun q => ?_⟩
    obtain ⟨rfl, q2⟩ := q
    have h3 : x_at L j = some v := h
    rw [h3, x_two_cat.mpr q2] at ht
    cases ht
theorem x_at_st1 {L : xL} {i j : Nat} {v u : Value} (h : x_at (x_st1 L i v) j = some u) : (j = i ∧ u = v) ∨ (¬ j = i ∧ x_at L j = some u ∧ ¬ (j + 1 = i ∧ u.category = 2)) := by
  cases i with
  | zero =>
    rcases x_at_set _ _ _ _ _ h with ⟨h1, h2⟩ | ⟨h1, h2⟩
    · exact Or.inl ⟨h1, (Option.some.inj h2).symm⟩
    · exact Or.inr ⟨h1, h2, fun q => by omega⟩
  | succ i =>
    rcases x_at_set _ _ _ _ _ h with ⟨h1, h2⟩ | ⟨h1, h2⟩
    · exact Or.inl ⟨h1, (Option.some.inj h2).symm⟩
    · obtain ⟨h3, h4⟩ := x_at_cl h2
      exact Or.inr ⟨h1, h3, fun q => h4 ⟨by omega, q.2⟩⟩
theorem x_at_st2 {L : xL} {i j : Nat} {v u : Value} (h : x_at (x_st2 L i v) j = some u) : (j = i ∧ u = v) ∨ (¬ j = i ∧ ¬ j = i + 1 ∧ x_at L j = some u ∧ ¬ (j + 1 = i ∧ u.category = 2)) := by
  rcases x_at_set _ _ _ _ _ h with ⟨h1, h2⟩ | ⟨h1, h2⟩
  · cases h2
  · rcases x_at_st1 h2 with ⟨h3, h4⟩ | ⟨h3, h4, h5⟩
    · exact Or.inl ⟨h3, h4⟩
    · exact Or.inr ⟨h3, h1, h4, h5⟩
theorem x_lh_st1 {ad : Nat → Nat} {nL : Nat} {ls' : Array Slot} {L : xL} {i : Nat} {v : Value} (h' : lv_has ls' nL ((i, x_cv ad v) :: (x_as ad 0 L).filter (fun q => !(q.1 == i) && !(q.1 + 1 == i && q.2.category == 2)))) : x_lh ad nL ls' (x_st1 L i v) := by
  refine ⟨h'.1, h'.2.1, fun j u hu => ?_⟩
  rcases x_at_st1 hu with ⟨rfl, rfl⟩ | ⟨h1, h2, h3⟩
  · exact h'.2.2 (j, x_cv ad u) List.mem_cons_self
  · refine h'.2.2 (j, x_cv ad u) (List.mem_cons_of_mem _ (List.mem_filter.mpr ⟨(x_as_in L 0 _).mpr ⟨j, u, h2, by rw [Nat.zero_add]⟩, ?_⟩))
    simp only [x_cat_cv]
    simp only [Bool.and_eq_true, Bool.not_eq_true', beq_eq_false_iff_ne, ne_eq, Bool.and_eq_false_iff]
    refine ⟨h1, ?_⟩
    by_cases hj : j + 1 = i
    · exact Or.inr fun q => h3 ⟨hj, q⟩
    · exact Or.inl hj
theorem x_lh_st2 {ad : Nat → Nat} {nL : Nat} {ls' : Array Slot} {L : xL} {i : Nat} {v : Value} (h' : lv_has ls' nL ((i, x_cv ad v) :: (x_as ad 0 L).filter (fun q => !(q.1 == i) && (!(q.1 == i + 1) && !(q.1 + 1 == i && q.2.category == 2))))) : x_lh ad nL ls' (x_st2 L i v) := by
  refine ⟨h'.1, h'.2.1, fun j u hu => ?_⟩
  rcases x_at_st2 hu with ⟨rfl, rfl⟩ | ⟨h1, h0, h2, h3⟩
  · exact h'.2.2 (j, x_cv ad u) List.mem_cons_self
  · refine h'.2.2 (j, x_cv ad u) (List.mem_cons_of_mem _ (List.mem_filter.mpr ⟨(x_as_in L 0 _).mpr ⟨j, u, h2, by rw [Nat.zero_add]⟩, ?_⟩))
    simp only [x_cat_cv]
    simp only [Bool.and_eq_true, Bool.not_eq_true', beq_eq_false_iff_ne, ne_eq, Bool.and_eq_false_iff]
    refine ⟨h1, h0, ?_⟩
    by_cases hj : j + 1 = i
    · exact Or.inr fun q => h3 ⟨hj, q⟩
    · exact Or.inl hj
