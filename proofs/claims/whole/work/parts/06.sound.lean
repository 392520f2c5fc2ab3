/-! The JVM follows the small machine. -/
def x_rm (d mc ms : Nat) : Room := { frames := d + 2, cells := mc, slots := ms, locals := 33 * d + 100 }
section X6
variable (cl : List vw_C) (ct : Nat → vw_C) (fk : Nat → Nat → Nat) (ty : Nat → Nat → FieldType) (Ts Nw : List Cond) (mt : Nat → xM) (en : Nat → String × String × String) (P : xP) (l : Launch) (D : va_G) (cA : Nat → ClassId) (scr : Nat × (Nat → Int32))
/-- what is so when a method begins -/
def x_pre (as : List Value) (ad : Nat → Nat) (w : xW) (A : Nat → Prop) (U : State) : Prop :=
  x_rep cl D cA (fun a => (ct a).2.2) fk A ad w U.heap ∧ va_K D cl (x_tys cA) U ∧ (∀ q ∈ Nw, va_Nw q U) ∧ x_con en scr ad A U U.heap ∧ ∀ v ∈ as, x_wf (x_N w) v
/-- and when it ends -/
def x_post (ad : Nat → Nat) (w : xW) (v : Option Value) (w' : xW) (A : Nat → Prop) : Array Value → State → Outcome → State → Prop := fun _ st o t =>
  (∃ ad', x_ext (x_N w) ad ad' ∧ o = .returned (v.map (x_cv ad')) ∧ x_rep cl D cA (fun a => (ct a).2.2) fk A ad' w' t.heap ∧ ∀ u, v = some u → x_wf (x_N w') u) ∧ va_F A st t
def x_ws (M : Nat) : List Cond := Cond.code (mt M).1 (mt M).2.1 (mt M).2.2.1 (mt M).2.2.2.1 :: Ts
def x_Met (M : Nat) (as : List Value) (w : xW) (v : Option Value) (w' : xW) : Prop := ∀ (ad : Nat → Nat) (sz : Nat),
  Met l (mt M).1 (x_ws Ts mt M) (x_rm (P.2.1 M) (x_C w' - x_C w) (x_S w' - x_S w)) (va_Pc (as.map (x_cv ad)) (fun U => U.heap.size = sz ∧ x_pre cl ct fk Nw en D cA scr as ad w (va_A (x_wd cA (fun a => (ct a).2.2) fk ad w) sz) U))
    (x_post cl ct fk D cA ad w v w' (va_A (x_wd cA (fun a => (ct a).2.2) fk ad w) sz)) (x_C w' - x_C w) (x_S w' - x_S w) (va_A (x_wd cA (fun a => (ct a).2.2) fk ad w) sz)
end X6
section X7
variable {cl : List vw_C} {ct : Nat → vw_C} {fk : Nat → Nat → Nat} {ty : Nat → Nat → FieldType} {Ts Nw : List Cond} {mt : Nat → xM} {en : Nat → String × String × String} {P : xP} {l : Launch} {D : va_G} {cA : Nat → ClassId} {scr : Nat × (Nat → Int32)}
variable {p : Program} {e : Env} {R : Room} {s : State} {m : MethodId} {args : Array Value} {below : List Frame} {meth : Method} {c : Code} {Q : State → Prop} {A : Nat → Prop}
theorem x_con_to {ad ad' : Nat → Nat} {A A1 : Nat → Prop} {U : State} {H : Heap} {locs : List Loc} {N : Nat} (h : x_con en scr ad A s s.heap) (hS : va_S A s.heap H locs) (hW : s.WarmedH U.vm) (hx : x_ext N ad ad') (hA : ∀ q, A1 q → A q) : x_con en scr ad' A1 U H := by
  obtain ⟨⟨h1, h2, h3⟩, h4, h5, ⟨t1, t2, t3, t4, t5⟩, ⟨adV, u1⟩, u2, u3, u4, u5⟩ := h
  have hvm := hW.alike
  have hs : ad' x_sc = ad x_sc := hx _ (Or.inr (Nat.le_refl _))
  have he : ∀ k, ad' (x_en + k) = ad (x_en + k) := fun k => hx _ (Or.inr (by show 1000000 ≤ 1000001 + k; omega))
  have ht : ∀ k, ad' (x_tx + k) = ad (x_tx + k) := fun k => hx _ (Or.inr (by show 1000000 ≤ 1000010 + k; omega))
  refine ⟨⟨?_, ?_, ?_⟩, fun k hk => ?_, fun i j hi hj => ?_, ⟨?_, ?_, ?_, ?_, ?_⟩, ⟨adV, ?_⟩, ?_, ?_, ?_, ?_⟩
  · rw [hs]; exact (h1.kept (hS.2.1 _ h2 h3)).moved hvm
  · rw [hs]; exact Nat.lt_of_lt_of_le h2 hS.1
  · rw [hs]; exact fun z => h3 (hA _ z)
  · rw [he]; exact (((h4 k hk).kept hS.2.1).moved hvm).narrow hA
  · rw [he, he]; exact h5 i j hi hj
  · exact x_st_to t1 hS hvm (fun q _ hq => hA q hq)
  · exact x_st_to t2 hS hvm (fun q _ hq => hA q hq)
  · exact va_Nw.warmC hW t3
  · exact va_Nw.warmC hW t4
  · exact t5.moved hvm
  · have e1 : (fun i => ad' (x_tx + i)) = fun i => ad (x_tx + i) := funext ht
    rw [e1]; exact ((u1.kept hS.2.1).moved hvm).narrow hA
  · rw [ht]; exact u2.warm hW
  · rw [ht]; exact u3.warm hW
  · exact ((u4.kept hS.2.1).moved hvm).narrow hA
  · exact ((u5.kept hS.2.1).moved hvm).narrow hA
/-- behind a call -/
theorem x_cont {H : Heap} {locs : List Loc} {cells slots mc ms pc : Nat} {ls : Array Slot} {st0 rest : List Value} {Qa : State → Outcome → State → Prop} {free : Nat → Prop} (hr : va_Run p l e R s m args below meth c H locs cells slots mc ms (F0 m pc ls st0) rest Qa free) (hS : va_S A s.heap H locs) (hf : ∀ q, free q → A q)
    (hF : ∀ st v t, Qa st (.returned v) t → va_F free st t)
    (kk : ∀ (st : State) (v : Option Value) (t : State) (H1 : Heap) (locs1 : List Loc), Qa st (.returned v) t → t.heap = H1 → va_S A s.heap H1 locs1 → W p l e R s m args below meth c H1 locs1 (cells + mc) (slots + ms) Q (F0 m (pc + 3) ls (v.toList ++ rest))) : W p l e R s m args below meth c H locs cells slots Q (F0 m pc ls st0) := by
  intro T hT X
  obtain ⟨v, st₀, t, T', L, h0, X', hL, e1, e2, hq, st⟩ := hr T hT X
  obtain ⟨hz, hk⟩ := hF _ _ _ hq
  rw [h0] at hz hk
  obtain ⟨t2, a1, b1⟩ := kk st₀ v t T'.heap (locs ++ L) hq e1.symm
    ⟨Nat.le_trans hS.1 (by rw [e1]; exact hz), fun q h1 h2 => by rw [e1, hk q (Nat.lt_of_lt_of_le h1 hS.1) (fun z => h2 (hf q z))]; exact hS.2.1 q h1 h2, fun q hq => by
      rcases List.mem_append.mp hq with h | h
      · exact hS.2.2 q h
      · exact hf _ (hL q h)⟩ T' rfl X'
  exact ⟨t2, st t2 a1, b1⟩
/-- the JVM, standing where the small machine stands, comes to Q -/
def x_WW (cl : List vw_C) (ct : Nat → vw_C) (fk : Nat → Nat → Nat) (D : va_G) (cA : Nat → ClassId) (p : Program) (l : Launch) (e : Env) (R : Room) (s : State) (m : MethodId) (args : Array Value) (below : List Frame) (meth : Method) (c : Code) (A : Nat → Prop) (nL : Nat) (ad0 : Nat → Nat) (w0 : xW) (Q : State → Prop) (pc : Nat) (L : xL) (st : List Value) (w : xW) : Prop :=
  x_gr w0 w → ∀ (H : Heap) (locs : List Loc) (ls : Array Slot) (ad : Nat → Nat), x_ext (x_N w0) ad0 ad → x_rep cl D cA (fun a => (ct a).2.2) fk A ad w H → va_S A s.heap H locs → x_lh ad nL ls L → (∀ v ∈ st, x_wf (x_N w) v) → (∀ i v, x_at L i = some v → x_wf (x_N w) v) →
    W p l e R s m args below meth c H locs (x_C w - x_C w0) (x_S w - x_S w0) Q (F0 m pc ls (st.map (x_cv ad)))
/-- a call that is good: it returns, and behind it all is well -/
def x_CG (cl : List vw_C) (ct : Nat → vw_C) (fk : Nat → Nat → Nat) (Ts Nw : List Cond) (mt : Nat → xM) (en : Nat → String × String × String) (P : xP) (l : Launch) (D : va_G) (cA : Nat → ClassId) (scr : Nat × (Nat → Int32)) (M : Nat) (w9 : xW) (WW : Nat → xL → List Value → xW → Prop) (M' : Nat) (as : List Value) (pc : Nat) (L : xL) (st : List Value) (w : xW) : Prop :=
  P.2.1 M' < P.2.1 M ∧ ∃ v w1, x_Met cl ct fk Ts Nw mt en P l D cA scr M' as w v w1 ∧ x_gr w w1 ∧ x_gr w1 w9 ∧ WW pc L (v.toList ++ st) w1
end X7
