/-! The lines that are noted going backwards. -/
def LO (H0 : List Int) : List xLn → Prop
  | [] => True
  | x :: r => (x.2.1 = fun d => men H0 (x :: r) d && !men H0 r d) ∧ x.2.2.1.length ≤ 18 ∧ x.2.2.2.length ≤ 1197 ∧ LO H0 r
/-- what holds of the lines, steps s to e having been gone through -/
def BI (g : Nat) (st : xSt) (H0 : List Int) (e s : Nat) (mk sp : Nat → Bool) (ln : List xLn) : Prop :=
  mk = men H0 ln ∧ (∀ j, mk j = true → 1 ≤ j ∧ j ≤ g + cnA st e) ∧ ln.Pairwise (fun a b => a.1 < b.1) ∧ (∀ x ∈ ln, g + cnA st s < x.1 ∧ x.1 ≤ g + cnA st e) ∧ (∀ j, g + cnA st s < j → j ≤ g + cnA st e → (mk j = true ↔ ∃ x ∈ ln, x.1 = j)) ∧ (∀ j, sp j = true → ∃ x ∈ ln, x.1 = j) ∧ LO H0 ln ∧ ln.length + cnA st s ≤ cnA st e
theorem BI_0 {cs : List (List Int)} {g : Nat} {st : xSt} {H0 : List Int} {e : Nat} (hN : NB g cs st) (he : e ≤ st.length) (hH : HV cs (alv g st e) H0) : BI g st H0 e e (mkS nob H0) nob [] := by
  refine ⟨?_, fun j hj => ?_, List.Pairwise.nil, fun x hx => (by cases hx), fun j h1 h2 => by omega, fun j hj => (by cases hj), trivial, by simp⟩
  · funext d
    show (false || inL H0 d) = inL H0 d
    rw [Bool.false_or]
  · have hj : (false || inL H0 j) = true := hj
    rw [Bool.false_or] at hj
    obtain ⟨h, h1, h2⟩ := mem_inL.mp hj
    have := hH h h1
    rw [h2] at this
    have := alv_le hN e he this.2.2
    exact this
theorem BI_n {cs : List (List Int)} {g : Nat} {st : xSt} {H0 : List Int} {e s : Nat} {mk sp : Nat → Bool} {ln : List xLn} (hN : NB g cs st) (he : e ≤ st.length) (hs : s < e) (h : BI g st H0 e (s + 1) mk sp ln) (hn : ¬ ((sg st s).1 = true ∧ mk (sg st s).2 = true)) : BI g st H0 e s mk sp ln := by
  obtain ⟨b1, b2, b3, b4, b5, b6, b7, b8⟩ := h
  have ec : cnA st (s + 1) = cnA st s + (if (sg st s).1 = true then 1 else 0) := rfl
  rw [ec] at b4 b5 b8
  have hA := (hN.2 s (by omega)).1
  refine ⟨b1, b2, b3, fun x hx => ?_, fun j h1 h2 => ?_, b6, b7, by omega⟩
  · have := b4 x hx
    omega
  · by_cases hj : g + (cnA st s + (if (sg st s).1 = true then 1 else 0)) < j
    · exact b5 j hj h2
    · have ha : (sg st s).1 = true := by
        cases hb : (sg st s).1 with
        | true => rfl
        | false => rw [hb] at hj; simp at hj; omega
      rw [if_pos ha] at hj b4
      have hc := hA ha
      have ej : j = (sg st s).2 := by omega
      constructor
      · intro z
        rw [ej] at z
        exact absurd ⟨ha, z⟩ hn
      · rintro ⟨x, hx, e⟩
        have := b4 x hx
        omega
theorem BI_s {cs : List (List Int)} {g : Nat} {st : xSt} {H0 : List Int} {e s : Nat} {mk sp : Nat → Bool} {ln : List xLn} (hN : NB g cs st) (he : e ≤ st.length) (hs : s < e) (h : BI g st H0 e (s + 1) mk sp ln) (ha : (sg st s).1 = true) (hm : mk (sg st s).2 = true) (hw : ¬ (lnR cs (alv g st s) mk (sg st s).2).1 = 0) :
    BI g st H0 e s (lnR cs (alv g st s) mk (sg st s).2).2.1 (fun j => sp j || (decide ((lnR cs (alv g st s) mk (sg st s).2).1 = 2) && decide (j = (sg st s).2))) (((sg st s).2, (fun d => (lnR cs (alv g st s) mk (sg st s).2).2.1 d && !mk d), (lnR cs (alv g st s) mk (sg st s).2).2.2.1, (lnR cs (alv g st s) mk (sg st s).2).2.2.2) :: ln)
    ∧ (∀ t, s < t → t < e → wy st (lnR cs (alv g st s) mk (sg st s).2).2.1 (fun j => sp j || (decide ((lnR cs (alv g st s) mk (sg st s).2).1 = 2) && decide (j = (sg st s).2))) t = wy st mk sp t)
    ∧ wy st (lnR cs (alv g st s) mk (sg st s).2).2.1 (fun j => sp j || (decide ((lnR cs (alv g st s) mk (sg st s).2).1 = 2) && decide (j = (sg st s).2))) s = (lnR cs (alv g st s) mk (sg st s).2).1 := by
  obtain ⟨b1, b2, b3, b4, b5, b6, b7, b8⟩ := h
  obtain ⟨r1, r2, r3, r4, r5⟩ := lnR_ok hw
  have ec : cnA st (s + 1) = cnA st s + 1 := by
    show cnA st s + (if (sg st s).1 = true then 1 else 0) = _
    rw [if_pos ha]
  rw [ec] at b4 b5 b8
  have hA := (hN.2 s (by omega)).1 ha
  have hce : cnA st (s + 1) ≤ cnA st e := cnA_le e (s + 1) (by omega)
  rw [ec] at hce
  generalize lnR cs (alv g st s) mk (sg st s).2 = R at *
  have hmk : ∀ j, g + cnA st s < j → R.2.1 j = mk j := by
    intro j hj
    rw [r2]
    unfold mkS
    cases hi : inL (R.2.2.1 ++ R.2.2.2) j with
    | false => rw [Bool.or_false]
    | true =>
      obtain ⟨h, h1, h2⟩ := mem_inL.mp hi
      have := r1 h h1
      rw [h2] at this
      have := alv_le hN s (by omega) this.2.2
      omega
  have hsp : sp (sg st s).2 = false := by
    cases hb : sp (sg st s).2 with
    | false => rfl
    | true =>
      obtain ⟨x, hx, e⟩ := b6 _ hb
      have := b4 x hx
      omega
  refine ⟨⟨?_, fun j hj => ?_, List.pairwise_cons.mpr ⟨fun y hy => ?_, b3⟩, fun x hx => ?_, fun j h1 h2 => ?_, fun j hj => ?_, ⟨?_, r3, r4, b7⟩, ?_⟩, fun t h1 h2 => ?_, ?_⟩
  · rw [r2]
    funext d
    show (mk d || inL (R.2.2.1 ++ R.2.2.2) d) = (inL (R.2.2.1 ++ R.2.2.2) d || men H0 ln d)
    rw [b1, Bool.or_comm]
  · by_cases h3 : g + cnA st s < j
    · rw [hmk j h3] at hj
      exact b2 j hj
    · rw [r2] at hj
      have hj : (mk j || inL (R.2.2.1 ++ R.2.2.2) j) = true := hj
      rw [Bool.or_eq_true] at hj
      rcases hj with z | z
      · exact b2 j z
      · obtain ⟨h, h1, h2⟩ := mem_inL.mp z
        have := r1 h h1
        rw [h2] at this
        omega
  · have := b4 y hy
    show (sg st s).2 < y.1
    omega
  · rcases List.mem_cons.mp hx with e1 | e1
    · rw [e1]
      show g + cnA st s < (sg st s).2 ∧ (sg st s).2 ≤ _
      omega
    · have := b4 x e1
      omega
  · rw [hmk j h1]
    by_cases ej : j = (sg st s).2
    · rw [ej, hm]
      exact ⟨fun _ => ⟨_, List.mem_cons_self, rfl⟩, fun _ => rfl⟩
    · rw [b5 j (by omega) h2]
      constructor
      · rintro ⟨x, hx, e1⟩
        exact ⟨x, List.mem_cons_of_mem _ hx, e1⟩
      · rintro ⟨x, hx, e1⟩
        rcases List.mem_cons.mp hx with e2 | e2
        · rw [e2] at e1
          exact absurd e1.symm ej
        · exact ⟨x, e2, e1⟩
  · rw [Bool.or_eq_true, Bool.and_eq_true] at hj
    rcases hj with z | z
    · obtain ⟨x, hx, e1⟩ := b6 j z
      exact ⟨x, List.mem_cons_of_mem _ hx, e1⟩
    · exact ⟨_, List.mem_cons_self, (of_decide_eq_true z.2).symm⟩
  · funext d
    show (R.2.1 d && !mk d) = ((inL (R.2.2.1 ++ R.2.2.2) d || men H0 ln d) && !men H0 ln d)
    rw [r2, b1]
    show ((men H0 ln d || inL (R.2.2.1 ++ R.2.2.2) d) && !men H0 ln d) = _
    rw [Bool.or_comm]
  · rw [List.length_cons]
    omega
  · unfold wy
    by_cases hat : (sg st t).1 = true
    · have h3 := (hN.2 t (by omega)).1 hat
      have h4 : cnA st (s + 1) ≤ cnA st t := cnA_le t (s + 1) (by omega)
      rw [ec] at h4
      have e3 : (sp (sg st t).2 || (decide (R.1 = 2) && decide ((sg st t).2 = (sg st s).2))) = sp (sg st t).2 := by rw [decide_eq_false (show ¬ (sg st t).2 = (sg st s).2 by omega), Bool.and_false, Bool.or_false]
      rw [hmk _ (by omega)]
      simp only [e3]
    · rw [if_neg (fun z => hat z.1), if_neg (fun z => hat z.1)]
  · unfold wy
    have hmk' : R.2.1 (sg st s).2 = true := by rw [hmk _ (by omega)]; exact hm
    rw [if_pos ⟨ha, hmk'⟩]
    simp only [hsp, decide_eq_true (rfl : (sg st s).2 = (sg st s).2), Bool.and_true, Bool.false_or]
    rcases r5 with e1 | e1
    · rw [e1]; rfl
    · rw [e1]; rfl
theorem lst_len {f : Nat → Bool} : ∀ (d c : Nat), (lst f d c).length ≤ d
  | 0, c => Nat.le_refl _
  | d + 1, c => by
    have ih := lst_len (f := f) d (c + 1)
    unfold lst
    split
    · rw [List.length_cons]; omega
    · omega
theorem mem_lst {f : Nat → Bool} {x : Int} : ∀ (d c : Nat), x ∈ lst f d c ↔ ∃ i, c ≤ i ∧ i < c + d ∧ f i = true ∧ x = (i : Int)
  | 0, c => by
    unfold lst
    constructor
    · intro h; cases h
    · rintro ⟨i, h1, h2, -⟩; omega
  | d + 1, c => by
    have ih := mem_lst (f := f) (x := x) d (c + 1)
    unfold lst
    split
    · rename_i h
      rw [List.mem_cons, ih]
      constructor
      · rintro (e | ⟨i, h1, h2, h3⟩)
        · exact ⟨c, Nat.le_refl _, by omega, h, e⟩
        · exact ⟨i, by omega, by omega, h3⟩
      · rintro ⟨i, h1, h2, h3, h4⟩
        by_cases e : i = c
        · left; rw [h4, e]
        · right; exact ⟨i, by omega, by omega, h3, h4⟩
    · rename_i h
      rw [ih]
      constructor
      · rintro ⟨i, h1, h2, h3⟩
        exact ⟨i, by omega, by omega, h3⟩
      · rintro ⟨i, h1, h2, h3, h4⟩
        by_cases e : i = c
        · rw [e] at h3; exact absurd h3 h
        · exact ⟨i, by omega, by omega, h3, h4⟩
theorem lst_nil {f : Nat → Bool} {d c : Nat} : lst f d c = [] ↔ ∀ i, c ≤ i → i < c + d → f i = false := by
  constructor
  · intro h i h1 h2
    apply Bool.eq_false_iff.mpr
    intro z
    have := (mem_lst (f := f) (x := (i : Int)) d c).mpr ⟨i, h1, h2, z, rfl⟩
    rw [h] at this
    cases this
  · intro h
    apply List.eq_nil_iff_forall_not_mem.mpr
    intro x hx
    obtain ⟨i, h1, h2, h3, -⟩ := (mem_lst d c).mp hx
    rw [h i h1 h2] at h3
    cases h3
theorem lst_app {f : Nat → Bool} : ∀ (a b c : Nat), lst f (a + b) c = lst f a c ++ lst f b (c + a)
  | 0, b, c => by rw [Nat.zero_add]; rfl
  | a + 1, b, c => by
    have ih := lst_app (f := f) a b (c + 1)
    rw [show a + 1 + b = (a + b) + 1 by omega]
    show (if f c = true then (c : Int) :: lst f (a + b) (c + 1) else lst f (a + b) (c + 1)) = (if f c = true then (c : Int) :: lst f a (c + 1) else lst f a (c + 1)) ++ lst f b (c + (a + 1))
    rw [ih, show c + 1 + a = c + (a + 1) by omega]
    split <;> rfl
theorem lst_cg {f f' : Nat → Bool} : ∀ (d c : Nat), (∀ i, c ≤ i → i < c + d → f i = f' i) → lst f d c = lst f' d c
  | 0, c, _ => rfl
  | d + 1, c, h => by
    have ih := lst_cg (f := f) (f' := f') d (c + 1) (fun i h1 h2 => h i (by omega) (by omega))
    unfold lst
    rw [ih, ← h c (Nat.le_refl _) (by omega)]
/-- a longer range, in which nothing more is -/
theorem lst_more {f : Nat → Bool} {a b : Nat} (h : a ≤ b) (hf : ∀ i, a < i → i ≤ b → f i = false) : lst f b 1 = lst f a 1 := by
  have h3 : lst f (b - a) (1 + a) = [] := lst_nil.mpr (fun i h1 h2 => hf i (by omega) (by omega))
  rw [show b = a + (b - a) by omega, lst_app, h3, List.append_nil]
theorem drs_len {n : Nat} {f : Nat → Bool} {m : Nat} : (drs n f m).length ≤ m + 3 := by
  have := lst_len (f := f) m 1
  unfold drs
  split
  · simp
  · simp only [List.length_cons, List.length_append, List.length_nil]
    omega
theorem lnT_len {n : Nat} {ls hs : List Int} : (lnT n ls hs).length = ls.length + hs.length + 3 := by
  unfold lnT
  simp only [List.length_cons, List.length_append, List.length_nil]
  omega
theorem tkL_ge {cs : List (List Int)} {E : Nat} {H0 : List Int} : ∀ ln : List xLn, tot H0 ln ≤ (tkL cs E H0 ln).length
  | [] => by
    unfold tot tkL
    rw [lnT_len]
    omega
  | x :: r => by
    have := tkL_ge (cs := cs) (E := E) (H0 := H0) r
    unfold tot tkL
    rw [List.length_append, List.length_append, lnT_len]
    omega
theorem tkL_le {cs : List (List Int)} {E : Nat} {H0 : List Int} (hco : cok cs) (hl : cs.length ≤ 63) : ∀ ln : List xLn, LO H0 ln → (tkL cs E H0 ln).length ≤ 1300 * ln.length + H0.length + 3
  | [], _ => by
    unfold tkL
    rw [lnT_len]
    simp
  | x :: r, h => by
    obtain ⟨-, h2, h3, h4⟩ := h
    have := tkL_le (E := E) hco hl r h4
    have l6 := (cg_ok hco x.1).1
    have l7 := drs_len (n := x.1) (f := x.2.1) (m := cs.length)
    unfold tkL hx
    rw [List.length_append, List.length_append, lnT_len, List.length_append, List.length_cons]
    omega
theorem tot_le {H0 : List Int} : ∀ ln : List xLn, LO H0 ln → tot H0 ln ≤ 1300 * ln.length + H0.length
  | [], _ => by unfold tot; simp
  | x :: r, h => by
    obtain ⟨-, h2, h3, h4⟩ := h
    have := tot_le r h4
    unfold tot hx
    rw [List.length_append, List.length_cons]
    omega
theorem hI_len {cs : List (List Int)} {r : (Nat → Int) × xTk × Nat} (h : r.2.1.length ≤ 17) : (hI cs r).length ≤ 18 := by
  unfold hI
  rw [List.length_append, List.length_singleton]
  have := sel_len (f := nds cs r.2.1 r.2.1.length (nvc cs r.2.2)) (tak := r.2.1) r.2.1.length 0
  omega
/-- a bit of a set of places -/
theorem sh_u : ∀ i : Nat, i < 32 → ((nI i).toUInt32 &&& Int32.toUInt32 31).toNat % 32 = i := by decide +kernel
theorem mm_bit {m : Int32} {i : Nat} (hi : i < 32) : (((m.toUInt32 >>> ((nI i).toUInt32 &&& Int32.toUInt32 31)).toInt32) &&& 1) = 0 ↔ mm m i = false := by
  have e1 : (1 : Int32) = sb 0 := by decide
  rw [e1, and_sb (by omega)]
  have e2 : ((m.toUInt32 >>> ((nI i).toUInt32 &&& Int32.toUInt32 31)).toInt32).toBitVec = m.toBitVec >>> i := by
    apply BitVec.eq_of_toNat_eq
    show (m.toUInt32 >>> ((nI i).toUInt32 &&& Int32.toUInt32 31)).toNat = _
    rw [UInt32.toNat_shiftRight, BitVec.toNat_ushiftRight, sh_u i hi]
    rfl
  unfold mm
  rw [e2, BitVec.getLsbD_ushiftRight, Nat.add_zero]
theorem hc_ext {a b : Int64} (h : ∀ j, j < 64 → hc a j = hc b j) : a = b := Int64.toBitVec_inj.mp (BitVec.eq_of_getLsbD_eq fun i hi => h i hi)
