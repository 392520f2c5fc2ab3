/-! A run doesn't mind more locals; rules of reading and writing worlds. -/
theorem x_len_set : ∀ (L : xL) (i : Nat) (a : Option Value), (x_set L i a).length = L.length
  | [], _, _ => rfl
  | _ :: _, 0, _ => rfl
  | _ :: t, i + 1, a => congrArg (· + 1) (x_len_set t i a)
theorem x_at_set_s : ∀ (L : xL) (i : Nat) (a : Option Value), i < L.length → x_at (x_set L i a) i = a
  | [], i, a, h => absurd h (Nat.not_lt_zero _)
  | _ :: _, 0, _, _ => rfl
  | _ :: t, i + 1, a, h => x_at_set_s t i a (Nat.lt_of_succ_lt_succ h)
theorem x_at_set_n : ∀ (L : xL) (i j : Nat) (a : Option Value), ¬ j = i → x_at (x_set L i a) j = x_at L j
  | [], _, _, _, _ => rfl
  | _ :: _, 0, 0, _, h => absurd rfl h
  | _ :: _, 0, _ + 1, _, _ => rfl
  | _ :: _, _ + 1, 0, _, _ => rfl
  | _ :: t, i + 1, j + 1, a, h => x_at_set_n t i j a (fun e => h (congrArg (· + 1) e))
theorem x_at_lt : ∀ (L : xL) (i : Nat) (v : Value), x_at L i = some v → i < L.length
  | [], i, v, h => by cases h
  | _ :: _, 0, _, _ => Nat.succ_pos _
  | _ :: t, i + 1, v, h => Nat.succ_lt_succ (x_at_lt t i v h)
def x_le (L' L : xL) : Prop := L'.length = L.length ∧ ∀ i v, x_at L' i = some v → x_at L i = some v
theorem x_le_rf {L : xL} : x_le L L := ⟨rfl, fun _ _ h => h⟩
theorem x_le_set {L' L : xL} {i : Nat} {a : Option Value} (h : x_le L' L) : x_le (x_set L' i a) (x_set L i a) := by
  refine ⟨by rw [x_len_set, x_len_set]; exact h.1, fun j v hv => ?_⟩
  by_cases e : j = i
  · subst e
    have hl := x_at_lt _ _ _ hv
    rw [x_len_set] at hl
    rw [x_at_set_s _ _ _ hl] at hv
    rw [x_at_set_s _ _ _ (by rw [← h.1]; exact hl)]
    exact hv
  · rw [x_at_set_n _ _ _ _ e] at hv
    rw [x_at_set_n _ _ _ _ e]
    exact h.2 j v hv
theorem x_len_cl {L : xL} {i : Nat} : (x_cl L i).length = L.length := by
  unfold x_cl
  cases x_two (x_at L i)
  · rfl
  · exact x_len_set _ _ _
theorem x_le_cl {L' L : xL} {i : Nat} (h : x_le L' L) : x_le (x_cl L' i) (x_cl L i) := by
  refine ⟨by rw [x_len_cl, x_len_cl]; exact h.1, fun j v hv => ?_⟩
  obtain ⟨h1, h2⟩ := x_at_cl hv
  have h3 := h.2 j v h1
  unfold x_cl
  cases ht : x_two (x_at L i) with
  | false => exact h3
  | true =>
    show x_at (x_set L i none) j = some v
    by_cases e : j = i
    · subst e
      rw [h3] at ht
      exact absurd ⟨rfl, x_two_cat.mp ht⟩ h2
    · rw [x_at_set_n _ _ _ _ e]
      exact h3
theorem x_le_st1 {L' L : xL} {i : Nat} {v : Value} (h : x_le L' L) : x_le (x_st1 L' i v) (x_st1 L i v) := by
  cases i with
  | zero => exact x_le_set h
  | succ i => exact x_le_set (x_le_cl h)
theorem x_le_st2 {L' L : xL} {i : Nat} {v : Value} (h : x_le L' L) : x_le (x_st2 L' i v) (x_st2 L i v) := x_le_set (x_le_st1 h)
/-- two aims, one for fewer locals -/
def x_rel (X' X : xT → Prop) : Prop := (∀ pc L' L st w, x_le L' L → X' (.inl (pc, L', st, w)) → X (.inl (pc, L, st, w))) ∧ (∀ M as pc L' L st w, x_le L' L → X' (.inr (.inl (M, as, pc, L', st, w))) → X (.inr (.inl (M, as, pc, L, st, w)))) ∧ (∀ q, X' (.inr (.inr q)) → X (.inr (.inr q)))
def x_ML (F' F : (xT → Prop) → Prop) : Prop := ∀ X' X, x_rel X' X → F' X' → F X
theorem ml_k {pc : Nat} {L' L : xL} {st : List Value} {w : xW} (h : x_le L' L) : x_ML (fun X => x_K X pc L' st w) (fun X => x_K X pc L st w) := fun _ _ r hx => r.1 _ _ _ _ _ h hx
theorem ml_c {M pc : Nat} {as : List Value} {L' L : xL} {st : List Value} {w : xW} (h : x_le L' L) : x_ML (fun X => x_CL X M as pc L' st w) (fun X => x_CL X M as pc L st w) := fun _ _ r hx => r.2.1 _ _ _ _ _ _ _ h hx
theorem ml_r {v : Option Value} {w : xW} : x_ML (fun X => x_RT X v w) (fun X => x_RT X v w) := fun _ _ r hx => r.2.2 _ hx
theorem ml_t {k : Nat} {w : xW} : x_ML (fun X => x_TH X k w) (fun X => x_TH X k w) := fun _ _ r hx => r.2.2 _ hx
theorem ml_0 {F : (xT → Prop) → Prop} : x_ML (fun _ => False) F := fun _ _ _ hx => hx.elim
theorem ml_and {c : Prop} {F' F : (xT → Prop) → Prop} (h : x_ML F' F) : x_ML (fun X => c ∧ F' X) (fun X => c ∧ F X) := fun _ _ r hx => ⟨hx.1, h _ _ r hx.2⟩
theorem ml_br {c : Prop} {F' F G' G : (xT → Prop) → Prop} (h : x_ML F' F) (h2 : x_ML G' G) : x_ML (fun X => x_br c (F' X) (G' X)) (fun X => x_br c (F X) (G X)) := fun _ _ r hx => ⟨fun q => h _ _ r (hx.1 q), fun q => h2 _ _ r (hx.2 q)⟩
theorem ml_sw {c : Nat} {F' F G' G : (xT → Prop) → Prop} (h : x_ML F' F) (h2 : x_ML G' G) : x_ML (fun X => x_sw c (F' X) (G' X)) (fun X => x_sw c (F X) (G X)) := by
  cases c
  · exact h
  · exact h2
theorem ml_if {b : Bool} {F' F : (xT → Prop) → Prop} (h : x_ML F' F) : x_ML (fun X => x_if b (F' X)) (fun X => x_if b (F X)) := by
  cases b
  · exact ml_0
  · exact h
theorem ml_nil {st : List Value} {F' F : (xT → Prop) → Prop} (h : x_ML F' F) : x_ML (fun X => x_nil st (F' X)) (fun X => x_nil st (F X)) := by
  cases st
  · exact h
  · exact ml_0
theorem ml_som {α : Type} {o : Option α} {F' F : α → (xT → Prop) → Prop} (h : ∀ a, x_ML (F' a) (F a)) : x_ML (fun X => x_som o (fun a => F' a X)) (fun X => x_som o (fun a => F a X)) := by
  cases o
  · exact ml_0
  · exact h _
theorem ml_pI {st : List Value} {F' F : Int32 → List Value → (xT → Prop) → Prop} (h : ∀ x r, x_ML (F' x r) (F x r)) : x_ML (fun X => x_pI st (fun x r => F' x r X)) (fun X => x_pI st (fun x r => F x r X)) := fun X' X r hx => by
  obtain ⟨x, q, rfl, hx⟩ := x_pI_of hx
  exact h x q X' X r hx
theorem ml_pL {st : List Value} {F' F : Int64 → List Value → (xT → Prop) → Prop} (h : ∀ x r, x_ML (F' x r) (F x r)) : x_ML (fun X => x_pL st (fun x r => F' x r X)) (fun X => x_pL st (fun x r => F x r X)) := fun X' X r hx => by
  obtain ⟨x, q, rfl, hx⟩ := x_pL_of hx
  exact h x q X' X r hx
theorem ml_pR {st : List Value} {F' F : Nat → List Value → (xT → Prop) → Prop} (h : ∀ x r, x_ML (F' x r) (F x r)) : x_ML (fun X => x_pR st (fun x r => F' x r X)) (fun X => x_pR st (fun x r => F x r X)) := fun X' X r hx => by
  obtain ⟨x, q, rfl, hx⟩ := x_pR_of hx
  exact h x q X' X r hx
theorem ml_pV {st : List Value} {F' F : Value → List Value → (xT → Prop) → Prop} (h : ∀ x r, x_ML (F' x r) (F x r)) : x_ML (fun X => x_pV st (fun x r => F' x r X)) (fun X => x_pV st (fun x r => F x r X)) := fun X' X r hx => by
  obtain ⟨x, q, -, -, hx, hg⟩ := x_pV_of hx
  exact hg _ (h x q X' X r hx)
theorem ml_gI {L' L : xL} {i : Nat} {F' F : Int32 → (xT → Prop) → Prop} (hl : x_le L' L) (h : ∀ x, x_ML (F' x) (F x)) : x_ML (fun X => x_gI L' i (fun x => F' x X)) (fun X => x_gI L i (fun x => F x X)) := fun X' X r hx => by
  obtain ⟨x, e, hx⟩ := x_gI_of hx
  exact x_gI_to (hl.2 _ _ e) (h x X' X r hx)
theorem ml_gL {L' L : xL} {i : Nat} {F' F : Int64 → (xT → Prop) → Prop} (hl : x_le L' L) (h : ∀ x, x_ML (F' x) (F x)) : x_ML (fun X => x_gL L' i (fun x => F' x X)) (fun X => x_gL L i (fun x => F x X)) := fun X' X r hx => by
  obtain ⟨x, e, hx⟩ := x_gL_of hx
  exact x_gL_to (hl.2 _ _ e) (h x X' X r hx)
theorem ml_gR {L' L : xL} {i : Nat} {F' F : Nat → (xT → Prop) → Prop} (hl : x_le L' L) (h : ∀ x, x_ML (F' x) (F x)) : x_ML (fun X => x_gR L' i (fun x => F' x X)) (fun X => x_gR L i (fun x => F x X)) := fun X' X r hx => by
  obtain ⟨x, e, hx⟩ := x_gR_of hx
  exact x_gR_to (hl.2 _ _ e) (h x X' X r hx)
theorem ml_pop {n : Nat} {st acc : List Value} {F' F : List Value → List Value → (xT → Prop) → Prop} (h : ∀ x r, x_ML (F' x r) (F x r)) : x_ML (fun X => x_pop n st acc (fun x r => F' x r X)) (fun X => x_pop n st acc (fun x r => F x r X)) := fun X' X r hx => by
  obtain ⟨as, q, h3, h4, h5⟩ := x_pop_of _ _ _ _ hx
  subst h3
  subst h4
  exact x_pop_to as q acc _ (h _ q X' X r h5)
set_option maxHeartbeats 4000000 in
theorem x_more {rc : Nat → Nat} {vt : Nat → Nat × Nat × Nat × Nat} {scr : Nat × (Nat → Int32)} {tx : Nat → List Int32} {ins : Instr} {a b c : Nat} {v : Int32} {u : Int64} {pc : Nat} {L' L : xL} {st : List Value} {w : xW} (hl : x_le L' L) :
    x_ML (fun X => x_go X rc vt scr tx ins a b c v u pc L' st w) (fun X => x_go X rc vt scr tx ins a b c v u pc L st w) := by
  unfold x_go
  cases ins
  case if_acmp cd off =>
    cases cd
    · exact ml_0
    · exact ml_pR fun _ _ => ml_pR fun _ _ => ml_and (ml_br (ml_k hl) (ml_k hl))
  all_goals first | exact ml_0 | exact ml_k hl | skip
  all_goals dsimp only [x_step]
  all_goals repeat' first | exact ml_k hl | exact ml_c hl | exact ml_r | exact ml_t | exact ml_k (x_le_st1 hl) | exact ml_k (x_le_st2 hl) | refine ml_and ?_ | refine ml_br ?_ ?_ | refine ml_sw ?_ ?_ | refine ml_if ?_ | refine ml_nil ?_ | refine ml_som fun _ => ?_ | refine ml_pI fun _ _ => ?_ | refine ml_pL fun _ _ => ?_ | refine ml_pR fun _ _ => ?_ | refine ml_pV fun _ _ => ?_ | refine ml_gI hl fun _ => ?_ | refine ml_gL hl fun _ => ?_ | refine ml_gR hl fun _ => ?_ | refine ml_pop fun _ _ => ?_
theorem x_wp_more {P : xP} {scr : Nat × (Nat → Int32)} : ∀ (n M pc : Nat) (L' L : xL) (st : List Value) (w : xW) (Q : xO → xW → Prop), x_le L' L → x_wp P scr n M pc L' st w Q → x_wp P scr n M pc L st w Q := by
  intro n
  induction n with
  | zero => intro M pc L' L st w Q hl h; exact h.elim
  | succ n ih =>
    intro M pc L' L st w Q hl h
    obtain ⟨r, hr, h⟩ := x_som_of h
    show x_som _ _
    rw [hr]
    refine x_more hl _ _ ⟨fun pc1 L1' L1 st1 w1 h1 h2 => ih _ _ _ _ _ _ _ h1 h2, fun M1 as pc1 L1' L1 st1 w1 h1 h2 => ?_, fun q h2 => h2⟩ h
    obtain ⟨hb, h2⟩ := x_if_of h2
    show x_if _ _
    rw [hb]
    refine x_wp_mono _ _ _ _ _ _ _ _ (fun o w2 ho => ?_) h2
    cases o with
    | inl v => exact ih _ _ _ _ _ _ _ h1 ho
    | inr k =>
      obtain ⟨a, ea, q1⟩ := x_som_of ho
      show x_som _ _
      rw [ea]
      exact ih _ _ _ _ _ _ _ (x_le_set (x_le_st1 h1)) q1
theorem x_R_more {P : xP} {scr : Nat × (Nat → Int32)} {M pc : Nat} {L' L : xL} {st : List Value} {w : xW} {Q : xO → xW → Prop} (hl : x_le L' L) (h : x_R P scr M pc L' st w Q) : x_R P scr M pc L st w Q := by
  obtain ⟨n, h⟩ := h
  exact ⟨n, x_wp_more _ _ _ _ _ _ _ _ hl h⟩
theorem x_le_nil : x_le [] [] := x_le_rf
theorem x_le_c {a b : Option Value} {L' L : xL} (hab : a = none ∨ a = b) (h : x_le L' L) : x_le (a :: L') (b :: L) := by
  refine ⟨congrArg (· + 1) h.1, fun i v hv => ?_⟩
  cases i with
  | zero =>
    have hv : a = some v := hv
    show b = some v
    rcases hab with rfl | rfl
    · cases hv
    · exact hv
  | succ i => exact h.2 i v hv
theorem x_le_s {a : Option Value} {L' L : xL} (h : x_le L' L) : x_le (a :: L') (a :: L) := x_le_c (Or.inr rfl) h
theorem x_le_n {b : Option Value} {L' L : xL} (h : x_le L' L) : x_le (none :: L') (b :: L) := x_le_c (Or.inl rfl) h
/-- some steps at once, a call being the last of them -/
def x_exA (P : xP) (scr : Nat × (Nat → Int32)) (M pc : Nat) (Q : xO → xW → Prop) (k : Nat → xL → List Value → xW → Prop) : xT → Prop := fun t => match t with
  | .inl (pc', L, st, w) => k pc' L st w
  | .inr (.inl (M', as, pc', L, st, w)) => x_if (Nat.blt (P.2.1 M') (P.2.1 M) && Nat.ble (x_cats as) (P.2.2.1 M')) (x_R P scr M' 0 (x_pad (P.2.2.1 M') (x_lay as)) [] w (x_back P M pc pc' L st (fun pc L st w => x_R P scr M pc L st w Q)))
  | .inr (.inr (.inl (v, w))) => Q (.inl v) w
  | .inr (.inr (.inr (n, w))) => Q (.inr n) w
def x_ex (P : xP) (scr : Nat × (Nat → Int32)) (M : Nat) (Q : xO → xW → Prop) (stops : List Nat) : Nat → Nat → xL → List Value → xW → Prop
  | 0, pc, L, st, w => x_R P scr M pc L st w Q
  | f + 1, pc, L, st, w => x_one P scr (x_exA P scr M pc Q (fun pc' L' st' w' => x_ch (x_mem pc' stops) (x_R P scr M pc' L' st' w' Q) (x_ex P scr M Q stops f pc' L' st' w'))) M pc L st w
theorem x_ex_R {P : xP} {scr : Nat × (Nat → Int32)} {M : Nat} {Q : xO → xW → Prop} (stops : List Nat) : ∀ (f : Nat) {pc : Nat} {L : xL} {st : List Value} {w : xW}, x_ex P scr M Q stops f pc L st w → x_R P scr M pc L st w Q := by
  intro f
  induction f with
  | zero => intro pc L st w h; exact h
  | succ f ih =>
    intro pc L st w h
    obtain ⟨t, h1, hg, h2⟩ := x_one_pk _ h
    refine x_R_step (h2 _ ?_)
    rcases t with ⟨pc', L', st', w'⟩ | ⟨M', as, pc', L', st', w'⟩ | ⟨v, w'⟩ | ⟨k, w'⟩
    · have h1 : x_ch (x_mem pc' stops) (x_R P scr M pc' L' st' w' Q) (x_ex P scr M Q stops f pc' L' st' w') := h1
      cases hm : x_mem pc' stops with
      | true => rw [hm] at h1; exact h1
      | false => rw [hm] at h1; exact ih h1
    · exact h1
    · exact h1
    · exact h1
