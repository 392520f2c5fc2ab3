/-! Refuting: what is noted, marked and written. -/
def sel (f : Nat → Bool) (tak : xTk) : Nat → Nat → List Int
  | 0, _ => []
  | d + 1, k => if f k = true then ((tg tak k).1 : Int) :: sel f tak d (k + 1) else sel f tak d (k + 1)
def cfL (c : Nat) : List Int := if c = 0 then [] else [(c : Int)]
def inL (l : List Int) (d : Nat) : Bool := l.any (fun h => decide (h.natAbs = d))
def mkS (mk : Nat → Bool) (l : List Int) : Nat → Bool := fun d => mk d || inL l d
theorem inL_app (a b : List Int) (d : Nat) : inL (a ++ b) d = (inL a d || inL b d) := List.any_append
theorem mem_inL {l : List Int} {d : Nat} : inL l d = true ↔ ∃ h ∈ l, h.natAbs = d := by
  unfold inL
  rw [List.any_eq_true]
  constructor
  · rintro ⟨h, h1, h2⟩; exact ⟨h, h1, of_decide_eq_true h2⟩
  · rintro ⟨h, h1, h2⟩; exact ⟨h, h1, decide_eq_true h2⟩
theorem mkS_app (mk : Nat → Bool) (a b : List Int) : mkS mk (a ++ b) = mkS (mkS mk a) b := by
  funext d
  unfold mkS
  rw [inL_app, Bool.or_assoc]
theorem mkS_nil (mk : Nat → Bool) : mkS mk [] = mk := by
  funext d
  unfold mkS inL
  simp
theorem mem_sel {f : Nat → Bool} {tak : xTk} {x : Int} : ∀ (d k : Nat), x ∈ sel f tak d k ↔ ∃ i, k ≤ i ∧ i < k + d ∧ f i = true ∧ x = ((tg tak i).1 : Int)
  | 0, k => by
    unfold sel
    constructor
    · intro h; cases h
    · rintro ⟨i, h1, h2, -⟩; omega
  | d + 1, k => by
    have ih := mem_sel (f := f) (tak := tak) (x := x) d (k + 1)
    unfold sel
    split
    · rename_i h
      rw [List.mem_cons, ih]
      constructor
      · rintro (e | ⟨i, h1, h2, h3⟩)
        · exact ⟨k, Nat.le_refl _, by omega, h, e⟩
        · exact ⟨i, by omega, by omega, h3⟩
      · rintro ⟨i, h1, h2, h3, h4⟩
        by_cases e : i = k
        · left; rw [h4, e]
        · right; exact ⟨i, by omega, by omega, h3, h4⟩
    · rename_i h
      rw [ih]
      constructor
      · rintro ⟨i, h1, h2, h3⟩
        exact ⟨i, by omega, by omega, h3⟩
      · rintro ⟨i, h1, h2, h3, h4⟩
        by_cases e : i = k
        · rw [e] at h3; exact absurd h3 h
        · exact ⟨i, by omega, by omega, h3, h4⟩
theorem sel_app {f : Nat → Bool} {tak : xTk} : ∀ (a b k : Nat), sel f tak (a + b) k = sel f tak a k ++ sel f tak b (k + a)
  | 0, b, k => by rw [Nat.zero_add]; rfl
  | a + 1, b, k => by
    have ih := sel_app (f := f) (tak := tak) a b (k + 1)
    rw [show a + 1 + b = (a + b) + 1 by omega]
    show (if f k = true then ((tg tak k).1 : Int) :: sel f tak (a + b) (k + 1) else sel f tak (a + b) (k + 1)) = (if f k = true then ((tg tak k).1 : Int) :: sel f tak a (k + 1) else sel f tak a (k + 1)) ++ sel f tak b (k + (a + 1))
    rw [ih, show k + 1 + a = k + (a + 1) by omega]
    split <;> rfl
theorem sel_cg {f f' : Nat → Bool} {tak tak' : xTk} : ∀ (d k : Nat), (∀ i, k ≤ i → i < k + d → f i = f' i ∧ (f i = true → (tg tak i).1 = (tg tak' i).1)) → sel f tak d k = sel f' tak' d k
  | 0, k, _ => rfl
  | d + 1, k, h => by
    have ih := sel_cg (f := f) (f' := f') (tak := tak) (tak' := tak') d (k + 1) (fun i h1 h2 => h i (by omega) (by omega))
    obtain ⟨h1, h2⟩ := h k (Nat.le_refl _) (by omega)
    unfold sel
    rw [ih, ← h1]
    split
    · rename_i e
      rw [h2 e]
    · rfl
theorem sel_len {f : Nat → Bool} {tak : xTk} : ∀ (d k : Nat), (sel f tak d k).length ≤ d
  | 0, k => Nat.le_refl _
  | d + 1, k => by
    have ih := sel_len (f := f) (tak := tak) d (k + 1)
    unfold sel
    split
    · rw [List.length_cons]; omega
    · omega
theorem sel_no {f : Nat → Bool} {tak : xTk} : ∀ (d k : Nat), (∀ i, k ≤ i → i < k + d → f i = false) → sel f tak d k = []
  | 0, k, _ => rfl
  | d + 1, k, h => by
    unfold sel
    rw [if_neg (by rw [h k (Nat.le_refl _) (by omega)]; decide)]
    exact sel_no d (k + 1) (fun i h1 h2 => h i (by omega) (by omega))
/-- what a result of withstands needs: all, and beyond the base -/
def gN (r : Bool × xTk × Nat × (Nat → Bool)) : List Int := sel r.2.2.2 r.2.1 r.2.1.length 0 ++ cfL r.2.2.1
def gB (b : Nat) (r : Bool × xTk × Nat × (Nat → Bool)) : List Int := sel r.2.2.2 r.2.1 (r.2.1.length - b) b ++ cfL r.2.2.1
def cdt (cs : List (List Int)) (al mk : Nat → Bool) (tr : List Nat) (o : Int) : Nat := lowA (fun c => al c && (mk c && (!decide (c ∈ tr) && decide (o ∈ cg cs c)))) cs.length 1
/-- the candidates in turn: do all withstand; marks; what is needed of the base; groups -/
def spr (cs : List (List Int)) (al : Nat → Bool) (tv : Nat → Int) (tak : xTk) (o : Int) : Nat → (Nat → Bool) → List Nat → (Nat → Bool) → List Int → Bool × (Nat → Bool) × (Nat → Bool) × List Int
  | 0, ma, _, bn, gr => (true, ma, bn, gr)
  | d + 1, ma, tr, bn, gr => if cdt cs al ma tr o = 0 then (true, ma, bn, gr)
    else if (wst cs al ma tv tak o (cdt cs al ma tr o)).1 = true then spr cs al tv tak o d (mkS ma (gN (wst cs al ma tv tak o (cdt cs al ma tr o)))) (cdt cs al ma tr o :: tr) (fun i => bn i || ((wst cs al ma tv tak o (cdt cs al ma tr o)).2.2.2 i && decide (i < tak.length))) (gr ++ (-(cdt cs al ma tr o : Int) :: gB tak.length (wst cs al ma tv tak o (cdt cs al ma tr o))))
    else (false, ma, bn, gr)
/-- the hints of an implied clause -/
def hI (cs : List (List Int)) (r : (Nat → Int) × xTk × Nat) : List Int := sel (nds cs r.2.1 r.2.1.length (nvc cs r.2.2)) r.2.1 r.2.1.length 0 ++ [(r.2.2 : Int)]
/-- the candidates of clause c -/
def spc (cs : List (List Int)) (al mk : Nat → Bool) (c : Nat) : Bool × (Nat → Bool) × (Nat → Bool) × List Int := spr cs al (base cs al mk c).1 (base cs al mk c).2.1 (- piv cs c) 63 mk [] nob []
/-- a line: way (0: none), marks, base, groups -/
def lnR (cs : List (List Int)) (al mk : Nat → Bool) (c : Nat) : Nat × (Nat → Bool) × List Int × List Int :=
  if ¬ (base cs al mk c).2.2 = 0 then (1, mkS mk (hI cs (base cs al mk c)), hI cs (base cs al mk c), [])
  else if (cg cs c).length = 0 then (0, mk, [], [])
  else if (spc cs al mk c).1 = true then (2, (spc cs al mk c).2.1, sel (spc cs al mk c).2.2.1 (base cs al mk c).2.1 (base cs al mk c).2.1.length 0, (spc cs al mk c).2.2.2)
  else (0, mk, [], [])
/-- a line that was noted: its number, what it was the first to mark, base, groups -/
abbrev xLn : Type := Nat × (Nat → Bool) × List Int × List Int
def hx (x : xLn) : List Int := x.2.2.1 ++ x.2.2.2
/-- going backwards over s steps: the step that fails or 0, marks, spared, lines -/
def bck (cs : List (List Int)) (g : Nat) (st : xSt) : Nat → (Nat → Bool) → (Nat → Bool) → List xLn → Nat × (Nat → Bool) × (Nat → Bool) × List xLn
  | 0, ma, sp, ln => (0, ma, sp, ln)
  | s + 1, ma, sp, ln => if (sg st s).1 = true ∧ ma (sg st s).2 = true then
      (if (lnR cs (alv g st s) ma (sg st s).2).1 = 0 then (s + 1, ma, sp, ln)
       else bck cs g st s (lnR cs (alv g st s) ma (sg st s).2).2.1 (fun j => sp j || (decide ((lnR cs (alv g st s) ma (sg st s).2).1 = 2) && decide (j = (sg st s).2))) (((sg st s).2, (fun d => (lnR cs (alv g st s) ma (sg st s).2).2.1 d && !ma d), (lnR cs (alv g st s) ma (sg st s).2).2.2.1, (lnR cs (alv g st s) ma (sg st s).2).2.2.2) :: ln))
    else bck cs g st s ma sp ln
/-- the clauses that hints name -/
def men (H0 : List Int) : List xLn → Nat → Bool
  | [] => inL H0
  | x :: r => fun d => inL (hx x) d || men H0 r d
def tot (H0 : List Int) : List xLn → Nat
  | [] => H0.length
  | x :: r => tot H0 r + (hx x).length
/-- numbers from c on, d of them, that f has -/
def lst (f : Nat → Bool) : Nat → Nat → List Int
  | 0, _ => []
  | d + 1, c => if f c = true then (c : Int) :: lst f d (c + 1) else lst f d (c + 1)
def drs (n : Nat) (f : Nat → Bool) (m : Nat) : List Int := if lst f m 1 = [] then [] else (n : Int) :: 10000 :: (lst f m 1 ++ [0])
def lnT (n : Nat) (ls hs : List Int) : List Int := (n : Int) :: (ls ++ 0 :: (hs ++ [0]))
def tkL (cs : List (List Int)) (E : Nat) (H0 : List Int) : List xLn → List Int
  | [] => lnT E [] H0
  | x :: r => lnT x.1 (cg cs x.1) (hx x) ++ (drs x.1 x.2.1 cs.length ++ tkL cs E H0 r)
def tkA (cs : List (List Int)) (g E : Nat) (H0 : List Int) (mk : Nat → Bool) (ln : List xLn) : List Int := drs g (fun d => decide (d ≤ g) && !mk d) cs.length ++ tkL cs E H0 ln
/-- additions among the first s steps -/
def cnA (st : xSt) : Nat → Nat
  | 0 => 0
  | s + 1 => cnA st s + (if (sg st s).1 = true then 1 else 0)
def NB (g : Nat) (cs : List (List Int)) (st : xSt) : Prop := cs.length = g + cnA st st.length ∧ ∀ s, s < st.length → ((sg st s).1 = true → (sg st s).2 = g + cnA st s + 1) ∧ ((sg st s).1 = false → (sg st s).2 = 0 ∨ alv g st s (sg st s).2 = true)
theorem cnA_app {st : xSt} {x : Bool × Nat} : ∀ s, s ≤ st.length → cnA (st ++ [x]) s = cnA st s
  | 0, _ => rfl
  | s + 1, h => by
    show cnA (st ++ [x]) s + (if (sg (st ++ [x]) s).1 = true then 1 else 0) = cnA st s + (if (sg st s).1 = true then 1 else 0)
    have e : sg (st ++ [x]) s = sg st s := by rw [sg_app, if_pos (by omega)]
    rw [cnA_app s (by omega), e]
theorem NB_1 {g : Nat} {cs : List (List Int)} {st : xSt} (h : NB g cs st) (x : Bool × Nat) (cs' : List (List Int)) (hl : cs'.length = cs.length + (if x.1 = true then 1 else 0)) (h1 : x.1 = true → x.2 = cs.length + 1) (h2 : x.1 = false → x.2 = 0 ∨ alv g st st.length x.2 = true) : NB g cs' (st ++ [x]) := by
  have e1 : sg (st ++ [x]) st.length = x := by rw [sg_app, if_neg (by omega), if_pos rfl]
  refine ⟨?_, fun s hs => ?_⟩
  · rw [List.length_append, List.length_singleton]
    unfold cnA
    rw [e1, cnA_app _ (Nat.le_refl _), hl, h.1]
    omega
  · rw [List.length_append, List.length_singleton] at hs
    by_cases e : s < st.length
    · have := h.2 s e
      rw [cnA_app s (by omega), alv_app s _ (by omega), sg_app, if_pos e]
      exact this
    · have e2 : s = st.length := by omega
      subst e2
      rw [e1, cnA_app _ (Nat.le_refl _), alv_app _ _ (Nat.le_refl _)]
      refine ⟨fun z => ?_, h2⟩
      rw [h1 z, h.1]
theorem NB_f {g : Nat} : ∀ (rs : List (Bool × List Int)) (q : List (List Int) × xSt), NB g q.1 q.2 → NB g (rs.foldl (ap1 g) q).1 (rs.foldl (ap1 g) q).2
  | [], q, h => h
  | r :: rs, q, h => by
    rw [List.foldl_cons]
    refine NB_f rs _ ?_
    unfold ap1
    split
    · exact NB_1 h (true, q.1.length + 1) (q.1 ++ [r.2]) (by simp) (fun _ => rfl) (fun z => by cases z)
    · refine NB_1 h (false, dlt g q.1 q.2 r.2) q.1 (by simp) (fun z => by cases z) (fun _ => ?_)
      rcases lowA_le (p := fun c => alv g q.2 q.2.length c && smc q.1 r.2 c) q.1.length 1 with z | ⟨-, -, z⟩
      · exact Or.inl z
      · right
        rw [Bool.and_eq_true] at z
        exact z.1
theorem prc_NB {g : Nat} {cs : List (List Int)} {st : xSt} (hg : g ≤ cs.length) (h : ∃ rs, (cs, st) = prc (cs.take g) rs) : NB g cs st := by
  obtain ⟨rs, h⟩ := h
  have hl : (cs.take g).length = g := by rw [List.length_take]; omega
  have := NB_f (g := g) rs (cs.take g, []) ⟨by rw [hl]; rfl, fun s hs => absurd hs (by simp)⟩
  have e : rs.foldl (ap1 g) (cs.take g, []) = (cs, st) := by
    have h2 := h.symm
    unfold prc at h2
    rw [hl] at h2
    exact h2
  rw [e] at this
  exact this
theorem cnA_le {st : xSt} : ∀ (b a : Nat), a ≤ b → cnA st a ≤ cnA st b
  | 0, a, h => by rw [show a = 0 by omega]; exact Nat.le_refl _
  | b + 1, a, h => by
    by_cases e : a = b + 1
    · rw [e]; exact Nat.le_refl _
    · have := cnA_le (st := st) b a (by omega)
      show _ ≤ cnA st b + _
      omega
theorem alv_le {g : Nat} {cs : List (List Int)} {st : xSt} (h : NB g cs st) {j : Nat} : ∀ s, s ≤ st.length → alv g st s j = true → 1 ≤ j ∧ j ≤ g + cnA st s
  | 0, _, z => by
    have := of_decide_eq_true z
    exact ⟨this.1, by show j ≤ g + 0; omega⟩
  | s + 1, hs, z => by
    unfold alv at z
    split at z
    · rename_i e
      have := (h.2 s (by omega)).1 z
      unfold cnA
      rw [if_pos z]
      omega
    · have := alv_le h s (by omega) z
      unfold cnA
      omega
theorem alv_back {g : Nat} {cs : List (List Int)} {st : xSt} (h : NB g cs st) {s : Nat} (hs : s < st.length) (j : Nat) : alv g st s j = if j = (sg st s).2 then (!(sg st s).1 && decide (0 < (sg st s).2)) else alv g st (s + 1) j := by
  conv => rhs; unfold alv
  by_cases e : j = (sg st s).2
  · rw [if_pos e]
    have hle := alv_le h (j := j) s (by omega)
    cases ha : (sg st s).1 with
    | true =>
      have h1 := (h.2 s hs).1 ha
      cases hb : alv g st s j with
      | false => rfl
      | true =>
        have := hle hb
        omega
    | false =>
      rcases (h.2 s hs).2 ha with h2 | h2
      · cases hb : alv g st s j with
        | false => rw [h2]; rfl
        | true =>
          have := hle hb
          omega
      · have := alv_le h s (by omega) h2
        rw [e, h2, decide_eq_true (by omega)]; rfl
  · rw [if_neg e, if_neg e]
/-- clauses taken are there and alive -/
def AT (cs : List (List Int)) (al : Nat → Bool) (tak : xTk) : Prop := ∀ k, k < tak.length → 1 ≤ (tg tak k).1 ∧ (tg tak k).1 ≤ cs.length ∧ al (tg tak k).1 = true
def CK (cs : List (List Int)) (al : Nat → Bool) (c : Nat) : Prop := c = 0 ∨ (1 ≤ c ∧ c ≤ cs.length ∧ al c = true)
theorem prg_at {cs : List (List Int)} {al mk : Nat → Bool} : ∀ (d : Nat) (tv : Nat → Int) (tak : xTk), AT cs al tak → AT cs al (prg cs al mk d tv tak).2.1 ∧ (prg cs al mk d tv tak).2.1.length ≤ tak.length + d ∧ CK cs al (prg cs al mk d tv tak).2.2
  | 0, tv, tak, h => ⟨h, Nat.le_refl _, Or.inl rfl⟩
  | d + 1, tv, tak, h => by
    by_cases hp0 : pkc cs al mk tv = 0
    · have ef : prg cs al mk (d + 1) tv tak = (tv, tak, 0) := by unfold prg; rw [if_pos hp0]
      rw [ef]
      exact ⟨h, by show tak.length ≤ _; omega, Or.inl rfl⟩
    · obtain ⟨q1, q2, q3, q4⟩ := pkc_in hp0
      by_cases hu : (isr tv (cg cs (pkc cs al mk tv))).2 = 0
      · have ef : prg cs al mk (d + 1) tv tak = (tv, tak, pkc cs al mk tv) := by unfold prg; rw [if_neg hp0, if_pos hu]
        rw [ef]
        exact ⟨h, by show tak.length ≤ _; omega, Or.inr ⟨q1, q2, q3⟩⟩
      · have ef : prg cs al mk (d + 1) tv tak = prg cs al mk d (setT tv (isr tv (cg cs (pkc cs al mk tv))).2) (tak ++ [(pkc cs al mk tv, (isr tv (cg cs (pkc cs al mk tv))).2)]) := by
          conv => lhs; unfold prg
          rw [if_neg hp0, if_neg hu]
        rw [ef]
        obtain ⟨i1, i2, i3⟩ := prg_at (cs := cs) (al := al) (mk := mk) d (setT tv (isr tv (cg cs (pkc cs al mk tv))).2) (tak ++ [(pkc cs al mk tv, (isr tv (cg cs (pkc cs al mk tv))).2)]) (fun k hk => by
          rw [List.length_append, List.length_singleton] at hk
          rw [tg_app]
          by_cases e : k < tak.length
          · rw [if_pos e]; exact h k e
          · rw [if_neg e, if_pos (by omega)]; exact ⟨q1, q2, q3⟩)
        rw [List.length_append, List.length_singleton] at i2
        exact ⟨i1, by omega, i3⟩
theorem AT_nil {cs : List (List Int)} {al : Nat → Bool} : AT cs al [] := fun k hk => absurd hk (by simp)
theorem base_at {cs : List (List Int)} {al mk : Nat → Bool} {c : Nat} : AT cs al (base cs al mk c).2.1 ∧ (base cs al mk c).2.1.length ≤ 17 ∧ CK cs al (base cs al mk c).2.2 := by
  have := prg_at (cs := cs) (al := al) (mk := mk) 17 (tvN (cg cs c)) [] AT_nil
  exact ⟨this.1, by have h2 := this.2.1; rw [List.length_nil] at h2; unfold base; omega, this.2.2⟩
theorem wst_at {cs : List (List Int)} {al mk : Nat → Bool} {tv : Nat → Int} {tak : xTk} {o : Int} {d : Nat} (h : AT cs al tak) (hl : tak.length ≤ 17) : AT cs al (wst cs al mk tv tak o d).2.1 ∧ (wst cs al mk tv tak o d).2.1.length ≤ 17 ∧ tak.length ≤ (wst cs al mk tv tak o d).2.1.length ∧ CK cs al (wst cs al mk tv tak o d).2.2.1 ∧ (∀ k, k < tak.length → tg (wst cs al mk tv tak o d).2.1 k = tg tak k) ∧ ∀ i, (wst cs al mk tv tak o d).2.1.length ≤ i → (wst cs al mk tv tak o d).2.2.2 i = false := by
  unfold wst
  split
  · have := prg_at (cs := cs) (al := al) (mk := mk) (17 - tak.length) (tvo tv (cg cs d) o) tak h
    obtain ⟨e, he⟩ := prg_pre (cs := cs) (al := al) (mk := mk) (17 - tak.length) (tvo tv (cg cs d) o) tak
    exact ⟨this.1, by have := this.2.1; simp only; omega, by simp only; rw [he, List.length_append]; omega, this.2.2, fun k hk => by simp only; rw [he]; exact tg_pre hk, fun i hi => nds_ge _ _ hi⟩
  · exact ⟨h, hl, Nat.le_refl _, Or.inl rfl, fun _ _ => rfl, fun i hi => nds_ge _ _ hi⟩
/-- hints name clauses that are there and alive -/
def HV (cs : List (List Int)) (al : Nat → Bool) (l : List Int) : Prop := ∀ h ∈ l, 1 ≤ h.natAbs ∧ h.natAbs ≤ cs.length ∧ al h.natAbs = true
theorem HV_app {cs : List (List Int)} {al : Nat → Bool} {a b : List Int} (h1 : HV cs al a) (h2 : HV cs al b) : HV cs al (a ++ b) := by
  intro h hh
  rcases List.mem_append.mp hh with z | z
  · exact h1 h z
  · exact h2 h z
theorem HV_sel {cs : List (List Int)} {al : Nat → Bool} {tak : xTk} {f : Nat → Bool} (h : AT cs al tak) {d k : Nat} (hd : k + d ≤ tak.length) : HV cs al (sel f tak d k) := by
  intro x hx
  obtain ⟨i, h1, h2, -, h4⟩ := (mem_sel d k).mp hx
  have := h i (by omega)
  rw [h4, Int.natAbs_natCast]
  exact this
theorem HV_cf {cs : List (List Int)} {al : Nat → Bool} {c : Nat} (h : CK cs al c) : HV cs al (cfL c) := by
  intro x hx
  unfold cfL at hx
  split at hx
  · cases hx
  · rename_i hc
    rw [List.mem_singleton] at hx
    rw [hx, Int.natAbs_natCast]
    exact h.resolve_left hc
theorem cfL_len (c : Nat) : (cfL c).length ≤ 1 := by
  unfold cfL
  split <;> simp
theorem cdt_in {cs : List (List Int)} {al mk : Nat → Bool} {tr : List Nat} {o : Int} (h : ¬ cdt cs al mk tr o = 0) : 1 ≤ cdt cs al mk tr o ∧ cdt cs al mk tr o ≤ cs.length ∧ al (cdt cs al mk tr o) = true ∧ mk (cdt cs al mk tr o) = true ∧ ¬ cdt cs al mk tr o ∈ tr ∧ o ∈ cg cs (cdt cs al mk tr o) := by
  rcases lowA_le (p := fun c => al c && (mk c && (!decide (c ∈ tr) && decide (o ∈ cg cs c)))) cs.length 1 with z | ⟨z1, z2, z3⟩
  · exact absurd z h
  · have z3 : (al (cdt cs al mk tr o) && (mk (cdt cs al mk tr o) && (!decide (cdt cs al mk tr o ∈ tr) && decide (o ∈ cg cs (cdt cs al mk tr o))))) = true := z3
    simp only [Bool.and_eq_true, Bool.not_eq_true', decide_eq_true_iff, decide_eq_false_iff_not] at z3
    exact ⟨z1, by unfold cdt; omega, z3.1, z3.2.1, z3.2.2.1, z3.2.2.2⟩
theorem spr_ok {cs : List (List Int)} {al : Nat → Bool} {tv : Nat → Int} {tak : xTk} {o : Int} {mk0 : Nat → Bool} (hA : AT cs al tak) (hl : tak.length ≤ 17) : ∀ (d : Nat) (mk : Nat → Bool) (tr : List Nat) (bn : Nat → Bool) (gr : List Int), HV cs al gr → (∀ j, mk j = (mk0 j || inL (sel bn tak tak.length 0 ++ gr) j)) → HV cs al (spr cs al tv tak o d mk tr bn gr).2.2.2 ∧ (spr cs al tv tak o d mk tr bn gr).2.2.2.length ≤ gr.length + 19 * d ∧ ∀ j, (spr cs al tv tak o d mk tr bn gr).2.1 j = (mk0 j || inL (sel (spr cs al tv tak o d mk tr bn gr).2.2.1 tak tak.length 0 ++ (spr cs al tv tak o d mk tr bn gr).2.2.2) j)
  | 0, ma, tr, bn, gr, h1, h2 => ⟨h1, Nat.le_refl _, h2⟩
  | d + 1, ma, tr, bn, gr, h1, h2 => by
    unfold spr
    split
    · exact ⟨h1, by simp only; omega, h2⟩
    · rename_i hc
      split
      · obtain ⟨c1, c2, c3, c4, c5, c6⟩ := cdt_in hc
        obtain ⟨w1, w2, w3, w4, w5, w6⟩ := wst_at (mk := ma) (tv := tv) (o := o) (d := cdt cs al ma tr o) hA hl
        generalize cdt cs al ma tr o = c at *
        generalize wst cs al ma tv tak o c = r at *
        have hg1 : HV cs al (gr ++ (-(c : Int) :: gB tak.length r)) := by
          refine HV_app h1 ?_
          intro x hx
          rcases List.mem_cons.mp hx with e | e
          · rw [e, Int.natAbs_neg, Int.natAbs_natCast]; exact ⟨c1, c2, c3⟩
          · exact HV_app (HV_sel w1 (by omega)) (HV_cf w4) x e
        obtain ⟨i1, i2, i3⟩ := spr_ok (tv := tv) (o := o) (mk0 := mk0) hA hl d (mkS ma (gN r)) (c :: tr) (fun i => bn i || (r.2.2.2 i && decide (i < tak.length))) (gr ++ (-(c : Int) :: gB tak.length r)) hg1 (fun j => by
          unfold mkS
          rw [h2 j, Bool.eq_iff_iff]
          unfold gN gB
          simp only [Bool.or_eq_true, mem_inL, List.mem_append, List.mem_cons, mem_sel]
          have h2c := h2 c
          rw [c4] at h2c
          have h2c := h2c.symm
          simp only [Bool.or_eq_true, mem_inL, List.mem_append, mem_sel] at h2c
          constructor
          · rintro ((z | ⟨h, z | z, e⟩) | ⟨h, z | z, e⟩)
            · exact Or.inl z
            · obtain ⟨i, y1, y2, y3, y4⟩ := z
              exact Or.inr ⟨h, Or.inl ⟨i, y1, y2, Or.inl y3, y4⟩, e⟩
            · exact Or.inr ⟨h, Or.inr (Or.inl z), e⟩
            · obtain ⟨i, y1, y2, y3, y4⟩ := z
              by_cases hi : i < tak.length
              · exact Or.inr ⟨h, Or.inl ⟨i, y1, by omega, Or.inr (by rw [y3, decide_eq_true hi]; rfl), by rw [y4, w5 i hi]⟩, e⟩
              · exact Or.inr ⟨h, Or.inr (Or.inr (Or.inr (Or.inl ⟨i, by omega, by omega, y3, y4⟩))), e⟩
            · exact Or.inr ⟨h, Or.inr (Or.inr (Or.inr (Or.inr z))), e⟩
          · rintro (z | ⟨h, z | z | z | z | z, e⟩)
            · exact Or.inl (Or.inl z)
            · obtain ⟨i, y1, y2, y3, y4⟩ := z
              rcases y3 with y3 | y3
              · exact Or.inl (Or.inr ⟨h, Or.inl ⟨i, y1, y2, y3, y4⟩, e⟩)
              · rw [Bool.and_eq_true] at y3
                exact Or.inr ⟨h, Or.inl ⟨i, y1, by omega, y3.1, by rw [y4, w5 i (by omega)]⟩, e⟩
            · exact Or.inl (Or.inr ⟨h, Or.inr z, e⟩)
            · have ej : j = c := by rw [← e, z, Int.natAbs_neg, Int.natAbs_natCast]
              rw [ej]
              exact Or.inl h2c
            · obtain ⟨i, y1, y2, y3, y4⟩ := z
              exact Or.inr ⟨h, Or.inl ⟨i, by omega, by omega, y3, y4⟩, e⟩
            · exact Or.inr ⟨h, Or.inr z, e⟩)
        refine ⟨i1, ?_, i3⟩
        have l1 := sel_len (f := r.2.2.2) (tak := r.2.1) (r.2.1.length - tak.length) tak.length
        have l2 := cfL_len r.2.2.1
        have l3 : (gB tak.length r).length ≤ 18 := by
          unfold gB
          rw [List.length_append]
          omega
        rw [List.length_append, List.length_cons] at i2
        omega
      · exact ⟨h1, by simp only; omega, h2⟩
theorem hI_ok {cs : List (List Int)} {al : Nat → Bool} {r : (Nat → Int) × xTk × Nat} (h1 : AT cs al r.2.1) (h2 : CK cs al r.2.2) (h3 : ¬ r.2.2 = 0) : HV cs al (hI cs r) := by
  refine HV_app (HV_sel h1 (by omega)) ?_
  have := HV_cf h2
  unfold cfL at this
  rw [if_neg h3] at this
  exact this
theorem lnR_ok {cs : List (List Int)} {al mk : Nat → Bool} {c : Nat} (h : ¬ (lnR cs al mk c).1 = 0) : HV cs al ((lnR cs al mk c).2.2.1 ++ (lnR cs al mk c).2.2.2) ∧ (lnR cs al mk c).2.1 = mkS mk ((lnR cs al mk c).2.2.1 ++ (lnR cs al mk c).2.2.2) ∧ (lnR cs al mk c).2.2.1.length ≤ 18 ∧ (lnR cs al mk c).2.2.2.length ≤ 1197 ∧ ((lnR cs al mk c).1 = 1 ∨ (lnR cs al mk c).1 = 2) := by
  obtain ⟨b1, b2, b3⟩ := base_at (cs := cs) (al := al) (mk := mk) (c := c)
  unfold lnR at h ⊢
  split
  · rename_i z
    simp only
    rw [List.append_nil]
    refine ⟨hI_ok b1 b3 z, rfl, ?_, by simp, Or.inl (by first | rfl | trivial)⟩
    unfold hI
    rw [List.length_append, List.length_singleton]
    have := sel_len (f := nds cs (base cs al mk c).2.1 (base cs al mk c).2.1.length (nvc cs (base cs al mk c).2.2)) (tak := (base cs al mk c).2.1) (base cs al mk c).2.1.length 0
    omega
  · rename_i z
    rw [if_neg z] at h
    split
    · rename_i y
      rw [if_pos y] at h
      exact absurd rfl h
    · rename_i y
      rw [if_neg y] at h
      split
      · have s0 : sel nob (base cs al mk c).2.1 (base cs al mk c).2.1.length 0 = [] := sel_no _ _ (fun _ _ _ => rfl)
        obtain ⟨k1, k2, k3⟩ := spr_ok (tv := (base cs al mk c).1) (o := - piv cs c) (mk0 := mk) b1 b2 63 mk [] nob [] (fun _ hh => by cases hh) (fun j => by rw [s0]; show mk j = (mk j || false); rw [Bool.or_false])
        have k1 : HV cs al (spc cs al mk c).2.2.2 := k1
        have k2 : (spc cs al mk c).2.2.2.length ≤ 0 + 19 * 63 := k2
        have k3 : ∀ j, (spc cs al mk c).2.1 j = (mk j || inL (sel (spc cs al mk c).2.2.1 (base cs al mk c).2.1 (base cs al mk c).2.1.length 0 ++ (spc cs al mk c).2.2.2) j) := k3
        have hsl := sel_len (f := (spc cs al mk c).2.2.1) (tak := (base cs al mk c).2.1) (base cs al mk c).2.1.length 0
        exact ⟨HV_app (HV_sel b1 (by omega)) k1, funext k3, by simp only; omega, by simp only; omega, Or.inr (by first | rfl | trivial)⟩
      · rename_i x
        rw [if_neg x] at h
        exact absurd rfl h
