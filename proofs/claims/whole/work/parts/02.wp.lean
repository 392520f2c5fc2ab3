/-! Runs of the small machine: x_wp with fuel, x_R without; a step goes to one place. -/
theorem x_pI_of {st : List Value} {f : Int32 → List Value → Prop} (h : x_pI st f) : ∃ x r, st = .int x :: r ∧ f x r := by
  unfold x_pI at h
  split at h
  · exact ⟨_, _, rfl, h⟩
  · exact h.elim
theorem x_pL_of {st : List Value} {f : Int64 → List Value → Prop} (h : x_pL st f) : ∃ x r, st = .long x :: r ∧ f x r := by
  unfold x_pL at h
  split at h
  · exact ⟨_, _, rfl, h⟩
  · exact h.elim
theorem x_pR_of {st : List Value} {f : Nat → List Value → Prop} (h : x_pR st f) : ∃ x r, st = .ref x :: r ∧ f x r := by
  unfold x_pR at h
  split at h
  · exact ⟨_, _, rfl, h⟩
  · exact h.elim
theorem x_pV_of {st : List Value} {f : Value → List Value → Prop} (h : x_pV st f) : ∃ x r, st = x :: r ∧ x_cat x = 1 ∧ f x r ∧ ∀ g : Value → List Value → Prop, g x r → x_pV st g := by
  unfold x_pV at h
  split at h
  · exact ⟨_, _, rfl, rfl, h, fun g hg => hg⟩
  · exact ⟨_, _, rfl, rfl, h, fun g hg => hg⟩
  · exact h.elim
theorem x_gI_of {L : xL} {i : Nat} {f : Int32 → Prop} (h : x_gI L i f) : ∃ x, x_at L i = some (.int x) ∧ f x := by
  unfold x_gI at h
  split at h
  · exact ⟨_, by assumption, h⟩
  · exact h.elim
theorem x_gL_of {L : xL} {i : Nat} {f : Int64 → Prop} (h : x_gL L i f) : ∃ x, x_at L i = some (.long x) ∧ f x := by
  unfold x_gL at h
  split at h
  · exact ⟨_, by assumption, h⟩
  · exact h.elim
theorem x_gR_of {L : xL} {i : Nat} {f : Nat → Prop} (h : x_gR L i f) : ∃ x, x_at L i = some (.ref x) ∧ f x := by
  unfold x_gR at h
  split at h
  · exact ⟨_, by assumption, h⟩
  · exact h.elim
theorem x_gI_to {L : xL} {i : Nat} {f : Int32 → Prop} {x : Int32} (h : x_at L i = some (.int x)) (hf : f x) : x_gI L i f := by
  unfold x_gI; rw [h]; exact hf
theorem x_gL_to {L : xL} {i : Nat} {f : Int64 → Prop} {x : Int64} (h : x_at L i = some (.long x)) (hf : f x) : x_gL L i f := by
  unfold x_gL; rw [h]; exact hf
theorem x_gR_to {L : xL} {i : Nat} {f : Nat → Prop} {x : Nat} (h : x_at L i = some (.ref x)) (hf : f x) : x_gR L i f := by
  unfold x_gR; rw [h]; exact hf
theorem x_if_of {b : Bool} {A : Prop} (h : x_if b A) : b = true ∧ A := by
  cases b
  · exact h.elim
  · exact ⟨rfl, h⟩
theorem x_nil_of {st : List Value} {A : Prop} (h : x_nil st A) : st = [] ∧ A := by
  cases st
  · exact ⟨rfl, h⟩
  · exact h.elim
theorem x_som_of {α : Type} {o : Option α} {f : α → Prop} (h : x_som o f) : ∃ a, o = some a ∧ f a := by
  cases o
  · exact h.elim
  · exact ⟨_, rfl, h⟩
theorem x_sw_of {c : Nat} {A B : Prop} (h : x_sw c A B) : (c = 0 ∧ A) ∨ (¬ c = 0 ∧ B) := by
  cases c
  · exact Or.inl ⟨rfl, h⟩
  · exact Or.inr ⟨Nat.succ_ne_zero _, h⟩
theorem x_br_of {c A B : Prop} (h : x_br c A B) : (c ∧ A) ∨ (¬ c ∧ B) := by
  by_cases hc : c
  · exact Or.inl ⟨hc, h.1 hc⟩
  · exact Or.inr ⟨hc, h.2 hc⟩
theorem x_br_t {c A B : Prop} (hc : c) (h : A) : x_br c A B := ⟨fun _ => h, fun n => absurd hc n⟩
theorem x_br_f {c A B : Prop} (hc : ¬ c) (h : B) : x_br c A B := ⟨fun n => absurd n hc, fun _ => h⟩
theorem x_pop_of : ∀ (n : Nat) (st acc : List Value) (f : List Value → List Value → Prop), x_pop n st acc f → ∃ as r, as.length = n ∧ st = as ++ r ∧ f (as.reverse ++ acc) r
  | 0, st, acc, f, h => ⟨[], st, rfl, rfl, h⟩
  | n + 1, v :: st, acc, f, h => by
    obtain ⟨as, r, h1, h2, h3⟩ := x_pop_of n st (v :: acc) f h
    exact ⟨v :: as, r, by simp [h1], by simp [h2], by simpa using h3⟩
  | n + 1, [], acc, f, h => h.elim
theorem x_pop_to : ∀ (as r acc : List Value) (f : List Value → List Value → Prop), f (as.reverse ++ acc) r → x_pop as.length (as ++ r) acc f
  | [], r, acc, f, h => h
  | v :: as, r, acc, f, h => x_pop_to as r (v :: acc) f (by simpa using h)
/-- where a step may go -/
abbrev xT : Type := (Nat × xL × List Value × xW) ⊕ (Nat × List Value × Nat × xL × List Value × xW) ⊕ (Option Value × xW) ⊕ (Nat × xW)
def x_K (X : xT → Prop) : Nat → xL → List Value → xW → Prop := fun pc L st w => X (.inl (pc, L, st, w))
def x_CL (X : xT → Prop) : Nat → List Value → Nat → xL → List Value → xW → Prop := fun M as pc L st w => X (.inr (.inl (M, as, pc, L, st, w)))
def x_RT (X : xT → Prop) : Option Value → xW → Prop := fun v w => X (.inr (.inr (.inl (v, w))))
def x_TH (X : xT → Prop) : Nat → xW → Prop := fun k w => X (.inr (.inr (.inr (k, w))))
/-- a step with one aim for all four -/
def x_go (X : xT → Prop) (rc : Nat → Nat) (vt : Nat → Nat × Nat × Nat × Nat) (scr : Nat × (Nat → Int32)) (tx : Nat → List Int32) (ins : Instr) (a b c : Nat) (v : Int32) (u : Int64) (pc : Nat) (L : xL) (st : List Value) (w : xW) : Prop :=
  x_step (x_K X) (x_CL X) (x_RT X) (x_TH X) rc vt scr tx ins a b c v u pc L st w
/-- cells are never taken away -/
def x_gr (w w' : xW) : Prop := x_N w ≤ x_N w' ∧ x_C w ≤ x_C w' ∧ x_S w ≤ x_S w'
theorem x_gr_rf {w : xW} : x_gr w w := ⟨Nat.le_refl _, Nat.le_refl _, Nat.le_refl _⟩
theorem x_gr_tr {a b c : xW} (h : x_gr a b) (h2 : x_gr b c) : x_gr a c := ⟨Nat.le_trans h.1 h2.1, Nat.le_trans h.2.1 h2.2.1, Nat.le_trans h.2.2 h2.2.2⟩
def x_wt (t : xT) : xW := match t with
  | .inl (_, _, _, w) => w
  | .inr (.inl (_, _, _, _, _, w)) => w
  | .inr (.inr (.inl (_, w))) => w
  | .inr (.inr (.inr (_, w))) => w
/-- an aim that is met at one place, whatever is asked there -/
def x_PK (w0 : xW) (F : (xT → Prop) → Prop) : Prop := ∀ X, F X → ∃ t, X t ∧ x_gr w0 (x_wt t) ∧ ∀ Y, Y t → F Y
theorem xk_k {w0 : xW} {pc : Nat} {L : xL} {st : List Value} {w : xW} (hg : x_gr w0 w) : x_PK w0 (fun X => x_K X pc L st w) := fun _ h => ⟨_, h, hg, fun _ hY => hY⟩
theorem xk_c {M pc : Nat} {as : List Value} {L : xL} {st : List Value} {w : xW} : x_PK w (fun X => x_CL X M as pc L st w) := fun _ h => ⟨_, h, x_gr_rf, fun _ hY => hY⟩
theorem xk_r {v : Option Value} {w : xW} : x_PK w (fun X => x_RT X v w) := fun _ h => ⟨_, h, x_gr_rf, fun _ hY => hY⟩
theorem xk_t {w0 : xW} {k : Nat} {w : xW} (hg : x_gr w0 w) : x_PK w0 (fun X => x_TH X k w) := fun _ h => ⟨_, h, hg, fun _ hY => hY⟩
theorem xk_0 {w0 : xW} : x_PK w0 (fun _ => False) := fun _ h => h.elim
theorem xk_and {w0 : xW} {c : Prop} {F : (xT → Prop) → Prop} (hF : x_PK w0 F) : x_PK w0 (fun X => c ∧ F X) := fun X h => by
  obtain ⟨t, h1, hg0, h2⟩ := hF X h.2
  exact ⟨t, h1, hg0, fun Y hY => ⟨h.1, h2 Y hY⟩⟩
theorem xk_br {w0 : xW} {c : Prop} {F G : (xT → Prop) → Prop} (hF : x_PK w0 F) (hG : x_PK w0 G) : x_PK w0 (fun X => x_br c (F X) (G X)) := fun X h => by
  rcases x_br_of h with ⟨hc, h⟩ | ⟨hc, h⟩
  · obtain ⟨t, h1, hg0, h2⟩ := hF X h
    exact ⟨t, h1, hg0, fun Y hY => x_br_t hc (h2 Y hY)⟩
  · obtain ⟨t, h1, hg0, h2⟩ := hG X h
    exact ⟨t, h1, hg0, fun Y hY => x_br_f hc (h2 Y hY)⟩
theorem xk_sw {w0 : xW} {c : Nat} {F G : (xT → Prop) → Prop} (hF : x_PK w0 F) (hG : x_PK w0 G) : x_PK w0 (fun X => x_sw c (F X) (G X)) := by
  cases c
  · exact hF
  · exact hG
theorem xk_if {w0 : xW} {b : Bool} {F : (xT → Prop) → Prop} (hF : x_PK w0 F) : x_PK w0 (fun X => x_if b (F X)) := by
  cases b
  · exact xk_0
  · exact hF
theorem xk_nil {w0 : xW} {st : List Value} {F : (xT → Prop) → Prop} (hF : x_PK w0 F) : x_PK w0 (fun X => x_nil st (F X)) := by
  cases st
  · exact hF
  · exact xk_0
theorem xk_som {w0 : xW} {α : Type} {o : Option α} {F : α → (xT → Prop) → Prop} (hF : ∀ a, x_PK w0 (F a)) : x_PK w0 (fun X => x_som o (fun a => F a X)) := by
  cases o
  · exact xk_0
  · exact hF _
theorem xk_pI {w0 : xW} {st : List Value} {F : Int32 → List Value → (xT → Prop) → Prop} (hF : ∀ x r, x_PK w0 (F x r)) : x_PK w0 (fun X => x_pI st (fun x r => F x r X)) := fun X h => by
  obtain ⟨x, r, rfl, h⟩ := x_pI_of h
  exact hF x r X h
theorem xk_pL {w0 : xW} {st : List Value} {F : Int64 → List Value → (xT → Prop) → Prop} (hF : ∀ x r, x_PK w0 (F x r)) : x_PK w0 (fun X => x_pL st (fun x r => F x r X)) := fun X h => by
  obtain ⟨x, r, rfl, h⟩ := x_pL_of h
  exact hF x r X h
theorem xk_pR {w0 : xW} {st : List Value} {F : Nat → List Value → (xT → Prop) → Prop} (hF : ∀ x r, x_PK w0 (F x r)) : x_PK w0 (fun X => x_pR st (fun x r => F x r X)) := fun X h => by
  obtain ⟨x, r, rfl, h⟩ := x_pR_of h
  exact hF x r X h
theorem xk_pV {w0 : xW} {st : List Value} {F : Value → List Value → (xT → Prop) → Prop} (hF : ∀ x r, x_PK w0 (F x r)) : x_PK w0 (fun X => x_pV st (fun x r => F x r X)) := fun X h => by
  obtain ⟨x, r, -, -, h, hg⟩ := x_pV_of h
  obtain ⟨t, h1, hg0, h2⟩ := hF x r X h
  exact ⟨t, h1, hg0, fun Y hY => hg _ (h2 Y hY)⟩
theorem xk_gI {w0 : xW} {L : xL} {i : Nat} {F : Int32 → (xT → Prop) → Prop} (hF : ∀ x, x_PK w0 (F x)) : x_PK w0 (fun X => x_gI L i (fun x => F x X)) := fun X h => by
  obtain ⟨x, e, h⟩ := x_gI_of h
  obtain ⟨t, h1, hg0, h2⟩ := hF x X h
  exact ⟨t, h1, hg0, fun Y hY => x_gI_to e (h2 Y hY)⟩
theorem xk_gL {w0 : xW} {L : xL} {i : Nat} {F : Int64 → (xT → Prop) → Prop} (hF : ∀ x, x_PK w0 (F x)) : x_PK w0 (fun X => x_gL L i (fun x => F x X)) := fun X h => by
  obtain ⟨x, e, h⟩ := x_gL_of h
  obtain ⟨t, h1, hg0, h2⟩ := hF x X h
  exact ⟨t, h1, hg0, fun Y hY => x_gL_to e (h2 Y hY)⟩
theorem xk_gR {w0 : xW} {L : xL} {i : Nat} {F : Nat → (xT → Prop) → Prop} (hF : ∀ x, x_PK w0 (F x)) : x_PK w0 (fun X => x_gR L i (fun x => F x X)) := fun X h => by
  obtain ⟨x, e, h⟩ := x_gR_of h
  obtain ⟨t, h1, hg0, h2⟩ := hF x X h
  exact ⟨t, h1, hg0, fun Y hY => x_gR_to e (h2 Y hY)⟩
theorem xk_pop {w0 : xW} {n : Nat} {st acc : List Value} {F : List Value → List Value → (xT → Prop) → Prop} (hF : ∀ x r, x_PK w0 (F x r)) : x_PK w0 (fun X => x_pop n st acc (fun x r => F x r X)) := fun X h => by
  obtain ⟨as, r, h3, h4, h5⟩ := x_pop_of _ _ _ _ h
  obtain ⟨t, h1, hg0, h2⟩ := hF _ r X h5
  subst h3
  subst h4
  exact ⟨t, h1, hg0, fun Y hY => x_pop_to as r acc _ (h2 Y hY)⟩
set_option maxHeartbeats 4000000 in
theorem x_pick {rc : Nat → Nat} {vt : Nat → Nat × Nat × Nat × Nat} {scr : Nat × (Nat → Int32)} {tx : Nat → List Int32} {ins : Instr} {a b c : Nat} {v : Int32} {u : Int64} {pc : Nat} {L : xL} {st : List Value} {w : xW} :
    x_PK w (fun X => x_go X rc vt scr tx ins a b c v u pc L st w) := by
  unfold x_go
  cases ins
  case if_acmp cd off =>
    cases cd
    · exact xk_0
    · exact xk_pR fun _ _ => xk_pR fun _ _ => xk_and (xk_br (xk_k x_gr_rf) (xk_k x_gr_rf))
  all_goals first | exact xk_0 | exact xk_k x_gr_rf | skip
  all_goals dsimp only [x_step]
  all_goals repeat' first | exact xk_k x_gr_rf | exact xk_c | exact xk_r | exact xk_k ⟨Nat.le_refl _, Nat.le_refl _, Nat.le_refl _⟩ | exact xk_k ⟨Nat.le_succ _, Nat.le_succ _, Nat.le_add_right _ _⟩ | exact xk_t ⟨Nat.le_refl _, Nat.le_succ _, Nat.le_add_right _ _⟩ | refine xk_and ?_ | refine xk_br ?_ ?_ | refine xk_sw ?_ ?_ | refine xk_if ?_ | refine xk_nil ?_ | refine xk_som fun _ => ?_ | refine xk_pI fun _ _ => ?_ | refine xk_pL fun _ _ => ?_ | refine xk_pR fun _ _ => ?_ | refine xk_pV fun _ _ => ?_ | refine xk_gI fun _ => ?_ | refine xk_gL fun _ => ?_ | refine xk_gR fun _ => ?_ | refine xk_pop fun _ _ => ?_
/-- a program: rows of a method, its depth, its locals, the class of its receiver, tables of receivers, texts, handlers -/
abbrev xP : Type := (Nat → List xR) × (Nat → Nat) × (Nat → Nat) × (Nat → Nat) × (Nat → Nat × Nat × Nat × Nat) × (Nat → List Int32) × (Nat → Nat → Nat → Option (Nat × Nat))
def x_lay : List Value → xL
  | [] => []
  | v :: r => match x_two (some v) with
    | true => some v :: none :: x_lay r
    | false => some v :: x_lay r
def x_pad : Nat → xL → xL
  | 0, _ => []
  | n + 1, [] => none :: x_pad n []
  | n + 1, a :: t => a :: x_pad n t
/-- a step of method M at pc, in a program -/
def x_one (P : xP) (scr : Nat × (Nat → Int32)) (X : xT → Prop) (M pc : Nat) (L : xL) (st : List Value) (w : xW) : Prop := x_som (x_find (P.1 M) pc) fun r => x_go X P.2.2.2.1 P.2.2.2.2.1 scr P.2.2.2.2.2.1 r.2.1 r.2.2.2.1 r.2.2.2.2.1 r.2.2.2.2.2.1 r.2.2.2.2.2.2.1 r.2.2.2.2.2.2.2 pc L st w
theorem x_one_pk {P : xP} {scr : Nat × (Nat → Int32)} {M pc : Nat} {L : xL} {st : List Value} {w : xW} : x_PK w (fun X => x_one P scr X M pc L st w) := xk_som fun _ => x_pick
/-- what is asked behind a call -/
def x_back (P : xP) (M pc pc' : Nat) (L : xL) (st : List Value) (k : Nat → xL → List Value → xW → Prop) : xO → xW → Prop := fun o w => match o with
  | .inl v => k pc' L (v.toList ++ st) w
  | .inr n => x_som (P.2.2.2.2.2.2 M pc n) fun h => k h.1 (x_set (x_st1 L h.2 .null) h.2 none) [] w
/-- the aim of a step, when the rest of the run is given by k (this method) and f (another one) -/
def x_aim (P : xP) (M pc : Nat) (Q : xO → xW → Prop) (k : Nat → xL → List Value → xW → Prop) (f : Nat → xL → xW → (xO → xW → Prop) → Prop) : xT → Prop := fun t => match t with
  | .inl (pc', L, st, w) => k pc' L st w
  | .inr (.inl (M', as, pc', L, st, w)) => x_if (Nat.blt (P.2.1 M') (P.2.1 M) && Nat.ble (x_cats as) (P.2.2.1 M')) (f M' (x_pad (P.2.2.1 M') (x_lay as)) w (x_back P M pc pc' L st k))
  | .inr (.inr (.inl (v, w))) => Q (.inl v) w
  | .inr (.inr (.inr (n, w))) => Q (.inr n) w
def x_wp (P : xP) (scr : Nat × (Nat → Int32)) : Nat → Nat → Nat → xL → List Value → xW → (xO → xW → Prop) → Prop
  | 0, _, _, _, _, _, _ => False
  | n + 1, M, pc, L, st, w, Q => x_one P scr (x_aim P M pc Q (fun pc L st w => x_wp P scr n M pc L st w Q) (fun M' L w Q' => x_wp P scr n M' 0 L [] w Q')) M pc L st w
theorem x_back_mono {P : xP} {M pc pc' : Nat} {L : xL} {st : List Value} {k k' : Nat → xL → List Value → xW → Prop} (hk : ∀ pc L st w, k pc L st w → k' pc L st w) : ∀ o w, x_back P M pc pc' L st k o w → x_back P M pc pc' L st k' o w := by
  intro o w h
  cases o with
  | inl v => exact hk _ _ _ _ h
  | inr n =>
    obtain ⟨a, e, h⟩ := x_som_of h
    show x_som _ _
    rw [e]
    exact hk _ _ _ _ h
theorem x_wp_mono {P : xP} {scr : Nat × (Nat → Int32)} : ∀ (n M pc : Nat) (L : xL) (st : List Value) (w : xW) (Q Q' : xO → xW → Prop), (∀ o w, Q o w → Q' o w) → x_wp P scr n M pc L st w Q → x_wp P scr n M pc L st w Q' := by
  intro n
  induction n with
  | zero => intro M pc L st w Q Q' hQ h; exact h.elim
  | succ n ih =>
    intro M pc L st w Q Q' hQ h
    obtain ⟨t, h1, hg, h2⟩ := x_one_pk _ h
    refine h2 _ ?_
    rcases t with ⟨pc', L', st', w'⟩ | ⟨M', as, pc', L', st', w'⟩ | ⟨v, w'⟩ | ⟨k, w'⟩
    · exact ih _ _ _ _ _ _ _ hQ h1
    · obtain ⟨hb, h1⟩ := x_if_of h1
      show x_if _ _
      rw [hb]
      exact ih _ _ _ _ _ _ _ (x_back_mono fun _ _ _ _ => ih _ _ _ _ _ _ _ hQ) h1
    · exact hQ _ _ h1
    · exact hQ _ _ h1
theorem x_wp_succ {P : xP} {scr : Nat × (Nat → Int32)} : ∀ (n M pc : Nat) (L : xL) (st : List Value) (w : xW) (Q : xO → xW → Prop), x_wp P scr n M pc L st w Q → x_wp P scr (n + 1) M pc L st w Q := by
  intro n
  induction n with
  | zero => intro M pc L st w Q h; exact h.elim
  | succ n ih =>
    intro M pc L st w Q h
    obtain ⟨t, h1, hg, h2⟩ := x_one_pk _ h
    refine h2 _ ?_
    rcases t with ⟨pc', L', st', w'⟩ | ⟨M', as, pc', L', st', w'⟩ | ⟨v, w'⟩ | ⟨k, w'⟩
    · exact ih _ _ _ _ _ _ h1
    · obtain ⟨hb, h1⟩ := x_if_of h1
      show x_if _ _
      rw [hb]
      exact x_wp_mono _ _ _ _ _ _ _ _ (x_back_mono fun _ _ _ _ => ih _ _ _ _ _ _) (ih _ _ _ _ _ _ h1)
    · exact h1
    · exact h1
theorem x_wp_le {P : xP} {scr : Nat × (Nat → Int32)} {n n' M pc : Nat} {L : xL} {st : List Value} {w : xW} {Q : xO → xW → Prop} (hn : n ≤ n') (h : x_wp P scr n M pc L st w Q) : x_wp P scr n' M pc L st w Q := by
  induction hn with
  | refl => exact h
  | step _ ih => exact x_wp_succ _ _ _ _ _ _ _ ih
/-- it ends in one way, and that way is as asked -/
theorem x_wp_det {P : xP} {scr : Nat × (Nat → Int32)} : ∀ (n M pc : Nat) (L : xL) (st : List Value) (w : xW) (Q : xO → xW → Prop), x_wp P scr n M pc L st w Q →
    ∃ o w', Q o w' ∧ x_wp P scr n M pc L st w (fun o2 w2 => o2 = o ∧ w2 = w') := by
  intro n
  induction n with
  | zero => intro M pc L st w Q h; exact h.elim
  | succ n ih =>
    intro M pc L st w Q h
    obtain ⟨t, h1, hg, h2⟩ := x_one_pk _ h
    rcases t with ⟨pc', L', st', w'⟩ | ⟨M', as, pc', L', st', w'⟩ | ⟨v, w'⟩ | ⟨k, w'⟩
    · obtain ⟨o, w2, q1, q2⟩ := ih _ _ _ _ _ _ h1
      exact ⟨o, w2, q1, h2 _ q2⟩
    · obtain ⟨hb, h1⟩ := x_if_of h1
      obtain ⟨o, w2, q1, q2⟩ := ih _ _ _ _ _ _ h1
      cases o with
      | inl v =>
        obtain ⟨o3, w3, r1, r2⟩ := ih _ _ _ _ _ _ q1
        refine ⟨o3, w3, r1, h2 _ ?_⟩
        show x_if _ _
        rw [hb]
        refine x_wp_mono _ _ _ _ _ _ _ _ (fun o w ho => ?_) q2
        obtain ⟨rfl, rfl⟩ := ho
        exact r2
      | inr k =>
        obtain ⟨a, ea, q1⟩ := x_som_of q1
        obtain ⟨o3, w3, r1, r2⟩ := ih _ _ _ _ _ _ q1
        refine ⟨o3, w3, r1, h2 _ ?_⟩
        show x_if _ _
        rw [hb]
        refine x_wp_mono _ _ _ _ _ _ _ _ (fun o w ho => ?_) q2
        obtain ⟨rfl, rfl⟩ := ho
        show x_som _ _
        rw [ea]
        exact r2
    · exact ⟨_, _, h1, h2 _ ⟨rfl, rfl⟩⟩
    · exact ⟨_, _, h1, h2 _ ⟨rfl, rfl⟩⟩
theorem x_wp_gr {P : xP} {scr : Nat × (Nat → Int32)} {w9 : xW} : ∀ (n M pc : Nat) (L : xL) (st : List Value) (w : xW) (Q : xO → xW → Prop), (∀ o w, Q o w → x_gr w w9) → x_wp P scr n M pc L st w Q → x_gr w w9 := by
  intro n
  induction n with
  | zero => intro M pc L st w Q hQ h; exact h.elim
  | succ n ih =>
    intro M pc L st w Q hQ h
    obtain ⟨t, h1, hg, h2⟩ := x_one_pk _ h
    refine x_gr_tr hg ?_
    rcases t with ⟨pc', L', st', w'⟩ | ⟨M', as, pc', L', st', w'⟩ | ⟨v, w'⟩ | ⟨k, w'⟩
    · exact ih _ _ _ _ _ _ hQ h1
    · obtain ⟨hb, h1⟩ := x_if_of h1
      refine ih _ _ _ _ _ _ (fun o w ho => ?_) h1
      cases o with
      | inl v => exact ih _ _ _ _ _ _ hQ ho
      | inr k =>
        obtain ⟨a, ea, q1⟩ := x_som_of ho
        exact ih _ _ _ _ _ _ hQ q1
    · exact hQ _ _ h1
    · exact hQ _ _ h1
/-- a run of method M from pc comes to an end as asked -/
def x_R (P : xP) (scr : Nat × (Nat → Int32)) (M pc : Nat) (L : xL) (st : List Value) (w : xW) (Q : xO → xW → Prop) : Prop := ∃ n, x_wp P scr n M pc L st w Q
theorem x_R_mono {P : xP} {scr : Nat × (Nat → Int32)} {M pc : Nat} {L : xL} {st : List Value} {w : xW} {Q Q' : xO → xW → Prop} (h : x_R P scr M pc L st w Q) (hQ : ∀ o w, Q o w → Q' o w) : x_R P scr M pc L st w Q' := by
  obtain ⟨n, h⟩ := h
  exact ⟨n, x_wp_mono _ _ _ _ _ _ _ _ hQ h⟩
def x_aimR (P : xP) (scr : Nat × (Nat → Int32)) (M pc : Nat) (Q : xO → xW → Prop) : xT → Prop := x_aim P M pc Q (fun pc L st w => x_R P scr M pc L st w Q) (fun M' L w Q' => x_R P scr M' 0 L [] w Q')
theorem x_R_step {P : xP} {scr : Nat × (Nat → Int32)} {M pc : Nat} {L : xL} {st : List Value} {w : xW} {Q : xO → xW → Prop} (h : x_one P scr (x_aimR P scr M pc Q) M pc L st w) : x_R P scr M pc L st w Q := by
  obtain ⟨t, h1, hg, h2⟩ := x_one_pk _ h
  rcases t with ⟨pc', L', st', w'⟩ | ⟨M', as, pc', L', st', w'⟩ | ⟨v, w'⟩ | ⟨k, w'⟩
  · obtain ⟨n, h1⟩ := h1
    exact ⟨n + 1, h2 _ h1⟩
  · obtain ⟨hb, n, h1⟩ := x_if_of h1
    obtain ⟨o, w2, q1, q2⟩ := x_wp_det _ _ _ _ _ _ _ h1
    cases o with
    | inl v =>
      obtain ⟨n2, r2⟩ := q1
      refine ⟨max n n2 + 1, h2 _ ?_⟩
      show x_if _ _
      rw [hb]
      refine x_wp_mono _ _ _ _ _ _ _ _ (fun o w ho => ?_) (x_wp_le (Nat.le_max_left n n2) q2)
      obtain ⟨rfl, rfl⟩ := ho
      exact x_wp_le (Nat.le_max_right n n2) r2
    | inr k =>
      obtain ⟨a, ea, n2, r2⟩ := x_som_of q1
      refine ⟨max n n2 + 1, h2 _ ?_⟩
      show x_if _ _
      rw [hb]
      refine x_wp_mono _ _ _ _ _ _ _ _ (fun o w ho => ?_) (x_wp_le (Nat.le_max_left n n2) q2)
      obtain ⟨rfl, rfl⟩ := ho
      show x_som _ _
      rw [ea]
      exact x_wp_le (Nat.le_max_right n n2) r2
  · exact ⟨1, h2 _ h1⟩
  · exact ⟨1, h2 _ h1⟩
/-- some steps at once: f of them, or until a place of the list is come to -/
def x_mem (pc : Nat) : List Nat → Bool
  | [] => false
  | a :: t => match Nat.beq a pc with
    | true => true
    | false => x_mem pc t
def x_ch (b : Bool) (A B : Prop) : Prop := match b with
  | true => A
  | false => B
def x_ev (P : xP) (scr : Nat × (Nat → Int32)) (M : Nat) (Q : xO → xW → Prop) (stops : List Nat) : Nat → Nat → xL → List Value → xW → Prop
  | 0, pc, L, st, w => x_R P scr M pc L st w Q
  | f + 1, pc, L, st, w => x_one P scr (x_aim P M pc Q (fun pc' L' st' w' => x_ch (x_mem pc' stops) (x_R P scr M pc' L' st' w' Q) (x_ev P scr M Q stops f pc' L' st' w')) (fun M' L' w' Q' => x_R P scr M' 0 L' [] w' Q')) M pc L st w
theorem x_ev_R {P : xP} {scr : Nat × (Nat → Int32)} {M : Nat} {Q : xO → xW → Prop} (stops : List Nat) : ∀ (f : Nat) {pc : Nat} {L : xL} {st : List Value} {w : xW}, x_ev P scr M Q stops f pc L st w → x_R P scr M pc L st w Q := by
  intro f
  induction f with
  | zero => intro pc L st w h; exact h
  | succ f ih =>
    intro pc L st w h
    have hk : ∀ pc' L' st' w', x_ch (x_mem pc' stops) (x_R P scr M pc' L' st' w' Q) (x_ev P scr M Q stops f pc' L' st' w') → x_R P scr M pc' L' st' w' Q := by
      intro pc' L' st' w' h
      cases hm : x_mem pc' stops with
      | true => rw [hm] at h; exact h
      | false => rw [hm] at h; exact ih h
    obtain ⟨t, h1, hg, h2⟩ := x_one_pk _ h
    refine x_R_step (h2 _ ?_)
    rcases t with ⟨pc', L', st', w'⟩ | ⟨M', as, pc', L', st', w'⟩ | ⟨v, w'⟩ | ⟨k, w'⟩
    · exact hk _ _ _ _ h1
    · obtain ⟨hb, h1⟩ := x_if_of h1
      show x_if _ _
      rw [hb]
      exact x_R_mono h1 (x_back_mono hk)
    · exact h1
    · exact h1
