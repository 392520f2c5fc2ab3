/-! The law's start, and its whole run. -/
theorem st_arr {args : Array Value} {s : State} {ty : FieldType} (h : (Cond.arrayClass ty).before args s = true) : ∃ cA : ClassId, ArrOfT s cA ty ∧ s.vm.findClass ("[" ++ ty.toString) = some cA := by
  obtain ⟨c, k, comp, h1, h2, h3⟩ := Cond.arrayClass_spec h
  exact ⟨c, fun n z => ⟨fun k h => (by cases h), k, h2, comp, h3⟩, h1⟩
def st_tm (i : Nat) : Term := .string "StreamRefuter$Problem" (if i = 0 then 66 else 75)
set_option maxRecDepth 100000 in
theorem st_u : ∀ q ∈ x_cts, (∀ w ∈ u_ws q.1 q.2.1 q.2.2, w ∈ lw_tbl) ∧ Cond.instantiable q.1 q.2.2 ∈ lw_tbl := by decide +kernel
theorem st_K {b : Nat} {s : State} (hts : ∀ w ∈ lw_tbl, w.before #[Value.ref b] s = true) : ∃ (D : va_G) (cA : Nat → ClassId), va_K D x_cts (x_tys cA) s := by
  have h : ∀ c : Nat, ∃ x : ClassId × (Nat → Nat), ∀ q : vw_C, x_cts[c]? = some q → u_Kn s q.1 q.2.1 q.2.2 x.1 x.2 := by
    intro c
    cases hc : x_cts[c]? with
    | none => exact ⟨(0, fun _ => 0), fun q hq => by cases hq⟩
    | some q =>
      obtain ⟨h1, h2⟩ := st_u q (List.mem_of_getElem? hc)
      obtain ⟨cC, iS, hk⟩ := u_known hts h1 (hts _ h2)
      exact ⟨(cC, iS), fun q' hq => by cases hq; exact hk⟩
  obtain ⟨f, hf⟩ := Classical.axiomOfChoice h
  obtain ⟨a0, i1, i2⟩ := st_arr (hts (Cond.arrayClass .int) (by decide +kernel))
  obtain ⟨a1, b1, b2⟩ := st_arr (hts (Cond.arrayClass .boolean) (by decide +kernel))
  obtain ⟨a2, l1, l2⟩ := st_arr (hts (Cond.arrayClass .long) (by decide +kernel))
  refine ⟨(fun c => (f c).1, fun c => (f c).2), fun k => if k = 0 then a0 else if k = 1 then a1 else a2, fun c q hq => hf c q hq, fun k q hq => ?_⟩
  have hc : k = 0 ∨ k = 1 ∨ k = 2 := by
    have := (List.getElem?_eq_some_iff.mp hq).1
    have e : ∀ g : Nat → ClassId, (x_tys g).length = 3 := fun _ => rfl
    rw [e] at this
    omega
  rcases hc with rfl | rfl | rfl
  · cases hq; exact ⟨i1, i2⟩
  · cases hq; exact ⟨b1, b2⟩
  · cases hq; exact ⟨l1, l2⟩
def st_en (k : Nat) : Term := .static (x_enu k).1 (x_enu k).2.1 (x_enu k).2.2
theorem st_flat {b : Nat} {s : State} (h : (Jvm.Cond.and given_1 narrow_1).before #[Value.ref b] s = true) {c : Cond} (hc : decide (c ∈ flatC (Jvm.Cond.and given_1 narrow_1)) = true) : c.before #[Value.ref b] s = true := flat_of_before _ h c (of_decide_eq_true hc)
theorem st_con {b L : Nat} {xs : Nat → Int32} {s : State} (hts : ∀ w ∈ lw_tbl, w.before #[Value.ref b] s = true) (hX : va_X b L xs s s.heap) (hb : b < s.heap.size) (hn : (Jvm.Cond.and given_1 narrow_1).before #[Value.ref b] s = true) :
    ∃ ad : Nat → Nat, ad x_sc = b ∧ x_con x_enu (L, xs) ad (fun q => s.heap.size ≤ q) s s.heap := by
  have hA : ∀ a : Nat, a < s.heap.size → ¬ (fun q => s.heap.size ≤ q) a := fun a ha z => absurd ha (Nat.not_lt.mpr z)
  have hn' := fun (c : Cond) (hc : decide (c ∈ flatC (Jvm.Cond.and given_1 narrow_1)) = true) => st_flat hn hc
  -- the enum
  have he : ∀ k, ∃ a : Nat, k < 4 → (st_en k).eval #[Value.ref b] s none [] s = some (.ref a) := by
    intro k
    by_cases hk : k < 4
    · have hc : (Cond.exactly (st_en k) "StreamRefuter$Opening").before #[Value.ref b] s = true := by
        have : k = 0 ∨ k = 1 ∨ k = 2 ∨ k = 3 := by omega
        rcases this with rfl | rfl | rfl | rfl <;> exact hn' _ (by decide +kernel)
      obtain ⟨a, c, cA, kA, q1, -⟩ := Cond.exactly_spec (args := #[Value.ref b]) (first := s) (o := none) (s := s) (idx := []) (t := st_en k) (cls := "StreamRefuter$Opening") hc
      exact ⟨a, fun _ => q1⟩
    · exact ⟨0, fun h => absurd h hk⟩
  obtain ⟨f, hf⟩ := Classical.axiomOfChoice he
  -- the texts
  obtain ⟨adK, adV, hS, hSe⟩ := vk_Sof (args := #[Value.ref b]) (s := s) (N := 2) (tm := st_tm) (len := [1, 3]) (byt := [[112], [99, 110, 102]]) (A := fun q => s.heap.size ≤ q)
    (fun i hi => by have : i = 0 ∨ i = 1 := by omega
                    rcases this with rfl | rfl <;> decide)
    (fun i hi => by have : i = 0 ∨ i = 1 := by omega
                    rcases this with rfl | rfl <;> exact hn' _ (by decide +kernel))
    (fun i hi => by have : i = 0 ∨ i = 1 := by omega
                    rcases this with rfl | rfl <;> exact hn' _ (by decide +kernel))
    (fun i hi => by have : i = 0 ∨ i = 1 := by omega
                    rcases this with rfl | rfl <;> exact hn' _ (by decide +kernel))
    (fun i hi => by have : i = 0 ∨ i = 1 := by omega
                    rcases this with rfl | rfl <;> exact hn' _ (by decide +kernel))
    (fun i hi j hj => by
      have : i = 0 ∨ i = 1 := by omega
      rcases this with rfl | rfl
      · have : j = 0 := by simp at hj; omega
        subst this
        exact hn' _ (by decide +kernel)
      · have : j = 0 ∨ j = 1 ∨ j = 2 := by simp at hj; omega
        rcases this with rfl | rfl | rfl <;> exact hn' _ (by decide +kernel))
    (fun i j hi hj hij => by
      have : (i = 0 ∧ j = 1) ∨ (i = 1 ∧ j = 0) := by omega
      rcases this with ⟨rfl, rfl⟩ | ⟨rfl, rfl⟩
      · exact Or.inl (hn' _ (by decide +kernel))
      · exact Or.inr (hn' _ (by decide +kernel))) hA
  refine ⟨fun q => if q = x_sc then b else if x_tx ≤ q then adK (q - x_tx) else f (q - x_en), rfl, ⟨hX, hb, hA b hb⟩, fun k hk => ?_, fun i j hi hj e => ?_, ?_, ?_⟩
  · have e1 : (fun q => if q = x_sc then b else if x_tx ≤ q then adK (q - x_tx) else f (q - x_en)) (x_en + k) = f k := by
      dsimp only
      rw [if_neg (by unfold x_en x_sc; omega), if_neg (by unfold x_en x_tx; omega), Nat.add_sub_cancel_left]
    rw [e1]
    have : k = 0 ∨ k = 1 ∨ k = 2 ∨ k = 3 := by omega
    rcases this with rfl | rfl | rfl | rfl <;> exact va_Zof (hts _ (by decide +kernel)) (hts _ (by decide +kernel)) (hf _ (by omega)) hA
  · have e1 : ∀ k, k < 4 → (fun q => if q = x_sc then b else if x_tx ≤ q then adK (q - x_tx) else f (q - x_en)) (x_en + k) = f k := by
      intro k hk
      dsimp only
      rw [if_neg (by unfold x_en x_sc; omega), if_neg (by unfold x_en x_tx; omega), Nat.add_sub_cancel_left]
    rw [e1 i hi, e1 j hj] at e
    have ne : ∀ i j, i < j → j < 4 → ¬ f i = f j := by
      intro i j h1 h2
      have : (i = 0 ∧ j = 1) ∨ (i = 0 ∧ j = 2) ∨ (i = 0 ∧ j = 3) ∨ (i = 1 ∧ j = 2) ∨ (i = 1 ∧ j = 3) ∨ (i = 2 ∧ j = 3) := by omega
      rcases this with ⟨rfl, rfl⟩ | ⟨rfl, rfl⟩ | ⟨rfl, rfl⟩ | ⟨rfl, rfl⟩ | ⟨rfl, rfl⟩ | ⟨rfl, rfl⟩ <;> exact va_neR (hn' (Cond.not (Cond.eq (st_en _) (st_en _))) (by decide +kernel)) (hf _ (by omega)) (hf _ (by omega))
    rcases Nat.lt_trichotomy i j with h | h | h
    · exact absurd e (ne i j h hj)
    · exact h
    · exact absurd e.symm (ne j i h hi)
  · exact ⟨x_st_of (hts _ (by decide +kernel)) (hn' _ (by decide +kernel)) hA, x_st_of (hts _ (by decide +kernel)) (hn' _ (by decide +kernel)) hA, va_Nw.of rfl (hts _ (by decide +kernel)), va_Nw.of rfl (hts _ (by decide +kernel)), va_Nc.of (hn' _ (by decide +kernel))⟩
  · have e1 : ∀ k, k < 2 → (fun q => if q = x_sc then b else if x_tx ≤ q then adK (q - x_tx) else f (q - x_en)) (x_tx + k) = adK k := by
      intro k hk
      dsimp only
      rw [if_neg (by unfold x_tx x_sc; omega), if_pos (by omega), Nat.add_sub_cancel_left]
    refine ⟨⟨adV, ?_⟩, ?_, ?_, va_Zof (hts _ (by decide +kernel)) (hts _ (by decide +kernel)) (va_eqt (hn' (Cond.eq (.static "java/lang/String" "COMPACT_STRINGS" "Z") (.int 1)) (by decide +kernel))) hA, va_Zqof (hts _ (by decide +kernel)) (hts _ (by decide +kernel)) (hn' _ (by decide +kernel)) hA⟩
    · have e2 : (fun i => (fun q => if q = x_sc then b else if x_tx ≤ q then adK (q - x_tx) else f (q - x_en)) (x_tx + i)) = adK := by
        funext k
        dsimp only
        rw [if_neg (by unfold x_tx x_sc; omega), if_pos (by omega), Nat.add_sub_cancel_left]
      rw [e2]
      exact hS
    · rw [e1 0 (by omega)]
      exact vk_R.of (A := #[Value.ref b]) (hts _ (by decide +kernel)) (hSe 0 (by omega))
    · rw [e1 1 (by omega)]
      exact vk_R.of (A := #[Value.ref b]) (hts _ (by decide +kernel)) (hSe 1 (by omega))
