/-! Methods with handlers: a call that throws is caught. -/
def x_isC (t : xT) : Bool := match t with
  | .inr (.inl _) => true
  | _ => false
def x_NC (F : (xT → Prop) → Prop) : Prop := ∀ X, F X → ∃ t, X t ∧ x_isC t = false
theorem xn_k {pc : Nat} {L : xL} {st : List Value} {w : xW} : x_NC (fun X => x_K X pc L st w) := fun _ h => ⟨_, h, rfl⟩
theorem xn_r {v : Option Value} {w : xW} : x_NC (fun X => x_RT X v w) := fun _ h => ⟨_, h, rfl⟩
theorem xn_t {k : Nat} {w : xW} : x_NC (fun X => x_TH X k w) := fun _ h => ⟨_, h, rfl⟩
theorem xn_0 : x_NC (fun _ => False) := fun _ h => h.elim
theorem xn_and {c : Prop} {F : (xT → Prop) → Prop} (hF : x_NC F) : x_NC (fun X => c ∧ F X) := fun X h => hF X h.2
theorem xn_br {c : Prop} {F G : (xT → Prop) → Prop} (hF : x_NC F) (hG : x_NC G) : x_NC (fun X => x_br c (F X) (G X)) := fun X h => by
  rcases x_br_of h with ⟨-, h⟩ | ⟨-, h⟩
  · exact hF X h
  · exact hG X h
theorem xn_sw {c : Nat} {F G : (xT → Prop) → Prop} (hF : x_NC F) (hG : x_NC G) : x_NC (fun X => x_sw c (F X) (G X)) := fun X h => by
  rcases x_sw_of h with ⟨-, h⟩ | ⟨-, h⟩
  · exact hF X h
  · exact hG X h
theorem xn_if {b : Bool} {F : (xT → Prop) → Prop} (hF : x_NC F) : x_NC (fun X => x_if b (F X)) := fun X h => hF X (x_if_of h).2
theorem xn_nil {st : List Value} {F : (xT → Prop) → Prop} (hF : x_NC F) : x_NC (fun X => x_nil st (F X)) := fun X h => hF X (x_nil_of h).2
theorem xn_som {α : Type} {o : Option α} {F : α → (xT → Prop) → Prop} (hF : ∀ a, x_NC (F a)) : x_NC (fun X => x_som o fun a => F a X) := fun X h => by
  obtain ⟨a, -, h⟩ := x_som_of h
  exact hF a X h
theorem xn_pI {st : List Value} {F : Int32 → List Value → (xT → Prop) → Prop} (hF : ∀ a r, x_NC (F a r)) : x_NC (fun X => x_pI st fun a r => F a r X) := fun X h => by
  obtain ⟨a, r, -, h⟩ := x_pI_of h
  exact hF a r X h
theorem xn_pL {st : List Value} {F : Int64 → List Value → (xT → Prop) → Prop} (hF : ∀ a r, x_NC (F a r)) : x_NC (fun X => x_pL st fun a r => F a r X) := fun X h => by
  obtain ⟨a, r, -, h⟩ := x_pL_of h
  exact hF a r X h
theorem xn_pR {st : List Value} {F : Nat → List Value → (xT → Prop) → Prop} (hF : ∀ a r, x_NC (F a r)) : x_NC (fun X => x_pR st fun a r => F a r X) := fun X h => by
  obtain ⟨a, r, -, h⟩ := x_pR_of h
  exact hF a r X h
theorem xn_pV {st : List Value} {F : Value → List Value → (xT → Prop) → Prop} (hF : ∀ a r, x_NC (F a r)) : x_NC (fun X => x_pV st fun a r => F a r X) := fun X h => by
  obtain ⟨a, r, -, -, h, -⟩ := x_pV_of h
  exact hF a r X h
theorem xn_gI {L : xL} {i : Nat} {F : Int32 → (xT → Prop) → Prop} (hF : ∀ a, x_NC (F a)) : x_NC (fun X => x_gI L i fun a => F a X) := fun X h => by
  obtain ⟨a, -, h⟩ := x_gI_of h
  exact hF a X h
theorem xn_gL {L : xL} {i : Nat} {F : Int64 → (xT → Prop) → Prop} (hF : ∀ a, x_NC (F a)) : x_NC (fun X => x_gL L i fun a => F a X) := fun X h => by
  obtain ⟨a, -, h⟩ := x_gL_of h
  exact hF a X h
theorem xn_gR {L : xL} {i : Nat} {F : Nat → (xT → Prop) → Prop} (hF : ∀ a, x_NC (F a)) : x_NC (fun X => x_gR L i fun a => F a X) := fun X h => by
  obtain ⟨a, -, h⟩ := x_gR_of h
  exact hF a X h
/-- the instructions of the wrappers that call nothing -/
def x_noc (i : Instr) : Bool := match i with
  | .iconst _ => true
  | .aload_n _ => true
  | .iload_n _ => true
  | .astore_n _ => true
  | .i2l => true
  | .lastore => true
  | .goto _ => true
  | .ireturn => true
  | _ => false
theorem x_noc_go {rc : Nat → Nat} {vt : Nat → Nat × Nat × Nat × Nat} {scr : Nat × (Nat → Int32)} {tx : Nat → List Int32} {ins : Instr} {a b c : Nat} {v : Int32} {u : Int64} {pc : Nat} {L : xL} {st : List Value} {w : xW} (h : x_noc ins = true) : x_NC (fun X => x_go X rc vt scr tx ins a b c v u pc L st w) := by
  cases ins
  all_goals first | (cases h; done) | skip
  all_goals (show x_NC (fun X => x_step _ _ _ _ _ _ _ _ _ _ _ _ _ _ _ _ _ _); dsimp only [x_step])
  all_goals repeat' first | exact xn_k | exact xn_r | exact xn_t | refine xn_and ?_ | refine xn_br ?_ ?_ | refine xn_sw ?_ ?_ | refine xn_if ?_ | refine xn_nil ?_ | refine xn_som fun _ => ?_ | refine xn_pI fun _ _ => ?_ | refine xn_pL fun _ _ => ?_ | refine xn_pR fun _ _ => ?_ | refine xn_pV fun _ _ => ?_ | refine xn_gI fun _ => ?_ | refine xn_gL fun _ => ?_ | refine xn_gR fun _ => ?_
/-- the words of a call that may throw -/
def x_okc (Ts : List Cond) (mt : Nat → xM) (own : String) (i a b : Nat) : Prop :=
  Cond.code (mt a).1 (mt a).2.1 (mt a).2.2.1 (mt a).2.2.2.1 ∈ Ts ∧ Cond.methodLink own i (mt a).1 ∈ Ts ∧ Cond.instanceMethod (mt a).1 ∈ Ts ∧ Cond.initialized (mt a).1.cls ∈ Ts ∧ Cond.selects (mt a).1.cls (mt a).1 (mt a).1 ∈ Ts ∧ ((mt a).1.cls ≠ "java/lang/invoke/MethodHandle" ∧ (mt a).1.cls ≠ "java/lang/invoke/VarHandle") ∧ (parseMethodDescriptor (mt a).1.desc).map (fun d => d.parameters.length) = some (b - 1)
/-- the handler that is found -/
def x_hok (Ts : List Cond) (own : String) (k pc : Nat) : List (Nat × Nat × Nat × Nat) → Nat → Prop
  | [], _ => False
  | (s, e, h, ct) :: t, hp => (s ≤ pc ∧ pc < e) ∧ ¬ ct = 0 ∧ ∃ C, Cond.classLink own ct C ∈ Ts ∧ ((C = x_exn k ∧ hp = h) ∨ (C = x_ise ∧ k = 1 ∧ x_hok Ts own k pc t hp))
theorem x_warmC {s : State} {vm1 : Vm} {pl : Platform} {d i c : Nat} (hW : s.WarmedH vm1) (h : s.vm.ClassLinks pl d i c) : s.WarmedH (vm1.noted d i (.cls c)) := by
  obtain ⟨dk, cf, name, ck, hd, -, -, -, -, -, -, hres⟩ := h.here
  exact hW.noted hd hres (State.rightAt_cls h)
theorem x_FT_of {Ts : List Cond} {own : String} {k : Nat} {e : Env} {s : State} {args : Array Value} {g : JFrame} {xa hp : Nat} {ce : Cell} (hpl : e.platform.magicAccessors = ({} : Platform).magicAccessors) (hown : s.vm.findClass own = some g.method.cls) (hts : ∀ q ∈ Ts, q.before args s = true) (hNc : va_Nc x_iae x_ise s) (hce : s.vm.findClass (x_exn k) = some ce.cls) (hst : ce.vm.isStatics = false) :
    ∀ (tl : List ExceptionTableEntry) (hh : List (Nat × Nat × Nat × Nat)), tl.map (fun h => (h.startPc, h.endPc, h.handlerPc, h.catchType)) = hh → x_hok Ts own k g.pc hh hp → ∀ (S : State), s.WarmedH S.vm → S.heap[xa]? = some ce → ∃ vm', x_FT e S g xa tl (.found hp) vm' ∧ s.WarmedH vm' := by
  intro tl
  induction tl with
  | nil =>
    intro hh e1 h
    subst e1
    exact h.elim
  | cons x tl ih =>
    intro hh e1 h S hW hcell
    subst e1
    obtain ⟨⟨h1, h2⟩, h0, C, hC, h⟩ := h
    have hobj : ∀ k, ce.vm ≠ .statics k := fun k z => by rw [z] at hst; cases hst
    have hcov : covers x g.pc = true := by
      simp only [covers]
      simp [h1, h2]
    obtain ⟨c, hc1, hc2⟩ := Cond.classLink_spec hown (hts _ hC) e.platform hpl
    have hl : S.vm.ClassLinks e.platform g.method.cls x.catchType c := hW.classLinks hc2
    have cls : ∀ {n : String} {d : ClassId}, s.vm.findClass n = some d → ∃ k, S.vm.classes[d]? = some k := by
      intro n d hd
      obtain ⟨k1, hk1, -⟩ := Vm.findClass_spec hd
      obtain ⟨k2, hk2, -⟩ := hW.alike.2.2 _ _ hk1
      exact ⟨k2, hk2⟩
    have hW2 : s.WarmedH (S.vm.noted g.method.cls x.catchType (.cls c)) := x_warmC hW hc2
    rcases h with ⟨rfl, rfl⟩ | ⟨rfl, rfl, h⟩
    · have e2 : c = ce.cls := Option.some.inj (hc1.symm.trans hce)
      subst e2
      exact ⟨_, x_FT_hit hcov h0 hl hcell hobj (cls hce) (cls hce) (va_asg _ _), hW2⟩
    · obtain ⟨c1, t1, q1, q2, q3⟩ := hNc
      have e2 : c1 = ce.cls := Option.some.inj (q1.symm.trans hce)
      have e3 : t1 = c := Option.some.inj (q2.symm.trans hc1)
      subst e2; subst e3
      obtain ⟨vm', hF, hW3⟩ := ih _ rfl h (S.setVm (S.vm.noted g.method.cls x.catchType (.cls t1))) hW2 hcell
      exact ⟨vm', x_FT_pass hcov h0 hl hcell hobj (cls hce) (cls hc1) (by rw [hW.alike.assignable]; exact q3) hF, hW3⟩
section X34
variable {cl : List vw_C} {ct : Nat → vw_C} {fk : Nat → Nat → Nat} {ty : Nat → Nat → FieldType} {Ts Nw : List Cond} {mt : Nat → xM} {en : Nat → String × String × String} {P : xP} {l : Launch} {D : va_G} {cA : Nat → ClassId} {scr : Nat × (Nat → Int32)} {rc : Nat → Nat} {vt : Nat → Nat × Nat × Nat × Nat} {tx : Nat → List Int32}
variable {p : Program} {e : Env} {R : Room} {s : State} {m : MethodId} {args : Array Value} {below : List Frame} {meth : Method} {c0 : Code} {A : Nat → Prop} {ad0 : Nat → Nat} {w0 w9 : xW} {M : Nat} {Q : State → Prop}
variable {pc b : Nat} {L : xL} {st : List Value} {w w3 : xW}
set_option maxHeartbeats 2000000 in
/-- a call that throws, and its handler -/
theorem xs_catch {i M' k j hp : Nat} {as : List Value} {hh : List (Nat × Nat × Nat × Nat)} {jf : Fin 4} (hG : ∀ q ∈ Ts, goodWord q = true) (hx : p.tables.exec = Jvm.exec) (hb : c0.code = (mt M).2.1) (hown : s.vm.findClass (mt M).2.2.2.2 = some m.cls) (hts : ∀ q ∈ Ts, q.before args s = true) (hK : va_K D cl (x_tys cA) s) (hcon : x_con en scr ad0 A s s.heap) (hA : ∀ q, s.heap.size ≤ q → A q) (hR : P.2.1 M + 2 ≤ R.frames ∧ 33 * P.2.1 M + 100 ≤ R.locals ∧ x_C w9 - x_C w0 ≤ R.cells ∧ x_S w9 - x_S w0 ≤ R.slots) (hml : c0.maxLocals = (mt M).2.2.1)
    (hNk : ∀ q ∈ Nw, (∀ s U : State, s.WarmedH U.vm → va_Nw q s → va_Nw q U) ∧ q.onTables = true) (hNw : ∀ q ∈ Nw, va_Nw q s) (hmx : ∀ M, (mt M).2.2.1 ≤ 14)
    (hex : c0.exceptionTable.toList.map (fun h => (h.startPc, h.endPc, h.handlerPc, h.catchType)) = hh) (hho : x_hok Ts (mt M).2.2.2.2 k pc hh hp) (hj : (jf : Nat) = j) (hj2 : j < (mt M).2.2.1) (hdh : decode (mt M).2.1 hp = .ok (.astore_n jf, 1))
    (hd : decode (mt M).2.1 pc = .ok (.invokevirtual i, 3)) (hoc : x_okc Ts mt (mt M).2.2.2.2 i M' b) (hcl : cl[rc M']? = some (ct (rc M'))) (hrc : (ct (rc M')).1 = (mt M').1.cls) (h90 : rc M' < 90) (hdep : P.2.1 M' < P.2.1 M)
    (hM : x_MetT cl ct fk Ts Nw mt en P l D cA scr M' as w k w3) (hg1 : x_gr w w3) (hg2 : x_gr w3 w9)
    {o : Nat} {As r : List Value} (has : as = .ref o :: As) (hlen : As.length + 1 = b) (hk : x_k w o = rc M' + 3) (hcat : x_cats r ≤ 8) (hst : st = As.reverse ++ .ref o :: r)
    (kk : x_WW cl ct fk D cA p l e R s m args below meth c0 A (mt M).2.2.1 ad0 w0 Q (hp + 1) (x_set (x_st1 L j .null) j none) [] w3) : x_WW cl ct fk D cA p l e R s m args below meth c0 A (mt M).2.2.1 ad0 w0 Q pc L st w := by
  subst has
  subst hst
  intro hg H locs ls ad hext hrep hS hl hws hwl T hT X
  obtain ⟨hc1, hc2, hc3, hc4, hc5, hc6, hc7⟩ := hoc
  have g1 := hg.2.1
  have g2 := hg.2.2
  have g3 := hg1.2.1
  have g4 := hg1.2.2
  have g5 := hg2.2.1
  have g6 := hg2.2.2
  have hf := x_freeA hrep hS hA
  have hwa : ∀ v ∈ Value.ref o :: As, x_wf (x_N w) v := fun v hv => hws v (by
    rcases List.mem_cons.mp hv with rfl | hv
    · simp
    · simp [hv])
  have hP := x_PreS (ad := ad) (w := w) hNk hNw hK hcon hA hext hrep hS hwa
  obtain ⟨cellB, hcell, hobj, hcls⟩ := va_recv hK hrep.1 hcl (by rw [x_wd_at (x_in hrep hk (by omega)), x_ce_obj hk])
  have e0 : ((As.reverse ++ Value.ref o :: r).map (x_cv ad)) = (As.map (x_cv ad)).reverse ++ .ref (ad o) :: r.map (x_cv ad) := by simp [List.map_append, x_cv]
  rw [e0]
  obtain ⟨xa, st0, t, B, L9, h0, XB, hL, eB, eV, hWs, ⟨⟨ad', hx', hrep'⟩, ⟨ce, hce1, hce2, hce3⟩, hF⟩, hsteps⟩ := x_callVT (U := T) (R := R) (C := (mt M').1.cls) (b := ad o) (cellB := cellB) (g := F0 m pc ls ((As.map (x_cv ad)).reverse ++ .ref (ad o) :: r.map (x_cv ad))) (argsL := As.map (x_cv ad)) (rest := r.map (x_cv ad)) (hM ad H.size) hP.1 rfl rfl (Nat.le_trans (by show _ + 2 + 1 ≤ _ + 2; omega) hR.1) (Nat.le_trans (by have := hmx M'; show 8 + (_ + 11) + (33 * _ + 100) ≤ 33 * _ + 100; omega) hR.2.1)
    (fun q hq a' U hW => word_at hW (good_of_word (hG q (by rcases List.mem_cons.mp hq with rfl | hq; exact hc1; exact hq))) (hts q (by rcases List.mem_cons.mp hq with rfl | hq; exact hc1; exact hq))) rfl (fun a' U hW => word_at hW (good_of_word (hG _ hc4)) (hts _ hc4)) hx hown (hts _ hc2) (hts _ hc3) (hts _ hc5) (hts _ hc1) hc6 X (by rw [hT]; exact hcell) hobj (by rw [← hrc]; exact hcls) rfl (by rw [hml]; exact hl.1) (fun sig hs => by
      rw [hs] at hc7
      have : sig.parameters.length = b - 1 := Option.some.inj hc7
      rw [List.length_map, this]; omega) rfl (lv_room (by rw [x_cats_cv]; exact hcat)) (by rw [hb]; exact hd) (Nat.le_trans (by omega) hR.2.2.1) (Nat.le_trans (by omega) hR.2.2.2) (fun V hV hW => hP.2 V (by rw [hV, hT]) hW)
  have hce0 : s.vm.findClass (x_exn k) = some ce.cls := by rw [← hWs.alike.findClass]; exact hce3
  obtain ⟨vm', hFT, hWv⟩ := x_FT_of (e := e) (g := { F0 m pc ls ((As.map (x_cv ad)).reverse ++ .ref (ad o) :: r.map (x_cv ad)) with stack := r.map (x_cv ad) }) (xa := xa) (by rw [X.admits.platform]) hown hts hcon.2.2.2.1.2.2.2.2 hce0 hce2 _ hh hex hho (B.setFrames (.throwing xa :: .java { F0 m pc ls ((As.map (x_cv ad)).reverse ++ .ref (ad o) :: r.map (x_cv ad)) with stack := r.map (x_cv ad) } :: below)) XB.warmed (by show B.heap[xa]? = _; rw [eB]; exact hce1)
  obtain ⟨hFs, hFk⟩ := hF
  rw [h0, hT] at hFs hFk
  have hS1 : va_S A s.heap t.heap (locs ++ L9) := ⟨Nat.le_trans hS.1 hFs, fun q h1 h2 => by rw [hFk q (Nat.lt_of_lt_of_le h1 hS.1) (fun z => h2 (hf q z))]; exact hS.2.1 q h1 h2, fun q hq => by
    rcases List.mem_append.mp hq with h | h
    · exact hS.2.2 q h
    · exact hf _ (hL q h)⟩
  have hWk : W p l e R s m args below meth c0 t.heap (locs ++ L9) (x_C w3 - x_C w0) (x_S w3 - x_S w0) Q (F0 m hp ls [.ref xa]) := by
    have hl2 := x_lh_ext hx' hl hwl
    refine lv_astore_n (i := j) (nL := (mt M).2.2.1) hx hb hdh hj (x_lh_as hl2) hj2 rfl (fun ls' hls' => ?_)
    refine kk (x_gr_tr hg hg1) t.heap (locs ++ L9) ls' ad' (x_ext_tr hg.1 hext hx') ⟨hrep'.1, hrep'.2.1.weaken (fun _ _ _ h => hf _ h), hrep'.2.2⟩ hS1 ⟨hls'.1, hls'.2.1, fun i9 v9 hv9 => ?_⟩ (fun _ hv => by cases hv) (fun i9 v9 hv9 => ?_)
    · rcases x_at_set _ _ _ _ _ hv9 with ⟨-, h2⟩ | ⟨h1, h2⟩
      · cases h2
      · rcases x_at_st1 h2 with ⟨h3, -⟩ | ⟨h3, h4, h5⟩
        · exact absurd h3 h1
        · refine hls'.2.2 (i9, x_cv ad' v9) (List.mem_cons_of_mem _ (List.mem_filter.mpr ⟨(x_as_in L 0 _).mpr ⟨i9, v9, h4, by rw [Nat.zero_add]⟩, ?_⟩))
          simp only [x_cat_cv]
          simp only [Bool.and_eq_true, Bool.not_eq_true', beq_eq_false_iff_ne, ne_eq, Bool.and_eq_false_iff]
          refine ⟨h3, ?_⟩
          by_cases hj : i9 + 1 = j
          · exact Or.inr fun q => h5 ⟨hj, q⟩
          · exact Or.inl hj
    · rcases x_at_set _ _ _ _ _ hv9 with ⟨-, h2⟩ | ⟨h1, h2⟩
      · cases h2
      · rcases x_at_st1 h2 with ⟨h3, -⟩ | ⟨h3, h4, h5⟩
        · exact absurd h3 h1
        · exact x_wf_le hg1.1 (hwl i9 v9 h4)
  have hX2 := XB.noted hWv
  have ec : x_C w - x_C w0 + (x_C w3 - x_C w) = x_C w3 - x_C w0 := by omega
  have es : x_S w - x_S w0 + (x_S w3 - x_S w) = x_S w3 - x_S w0 := by omega
  rw [ec, es] at hX2
  obtain ⟨t2, a1, b1⟩ := hWk (B.setVm vm') (by show B.heap = _; exact eB) hX2
  exact ⟨t2, hsteps t2 (x_caught XB rfl hFT a1), b1⟩
end X34
/-- what a row of a method with handlers must be -/
def x_okw (Ts : List Cond) (cl : List vw_C) (ct : Nat → vw_C) (mt : Nat → xM) (P : xP) (M : Nat) (hh : List (Nat × Nat × Nat × Nat)) (r : xR) : Prop :=
  x_noc r.2.1 = true ∨ ∃ i, r.2.1 = .invokevirtual i ∧ r.2.2.2.2.2.1 = 0 ∧ x_okc Ts mt (mt M).2.2.2.2 i r.2.2.2.1 r.2.2.2.2.1 ∧ cl[P.2.2.2.1 r.2.2.2.1]? = some (ct (P.2.2.2.1 r.2.2.2.1)) ∧ (ct (P.2.2.2.1 r.2.2.2.1)).1 = (mt r.2.2.2.1).1.cls ∧ P.2.2.2.1 r.2.2.2.1 < 90 ∧
    ∀ k h, P.2.2.2.2.2.2 M r.1 k = some h → ∃ (hp : Nat) (jf : Fin 4), x_hok Ts (mt M).2.2.2.2 k r.1 hh hp ∧ (jf : Nat) = h.2 ∧ h.2 < (mt M).2.2.1 ∧ decode (mt M).2.1 hp = .ok (.astore_n jf, 1) ∧ h.1 = hp + 1
section X35
variable {cl : List vw_C} {ct : Nat → vw_C} {fk : Nat → Nat → Nat} {ty : Nat → Nat → FieldType} {Ts Nw : List Cond} {mt : Nat → xM} {en : Nat → String × String × String} {P : xP} {l : Launch} {D : va_G} {cA : Nat → ClassId} {scr : Nat × (Nat → Int32)}
def x_MetW (cl : List vw_C) (ct : Nat → vw_C) (fk : Nat → Nat → Nat) (Ts Nw : List Cond) (mt : Nat → xM) (en : Nat → String × String × String) (P : xP) (l : Launch) (D : va_G) (cA : Nat → ClassId) (scr : Nat × (Nat → Int32)) (hh : List (Nat × Nat × Nat × Nat)) (M : Nat) (as : List Value) (w : xW) (v : Option Value) (w' : xW) : Prop := ∀ (ad : Nat → Nat) (sz : Nat),
  Met l (mt M).1 (Cond.codeWith (mt M).1 (mt M).2.1 (mt M).2.2.1 (mt M).2.2.2.1 hh :: Ts) (x_rm (P.2.1 M) (x_C w' - x_C w) (x_S w' - x_S w)) (va_Pc (as.map (x_cv ad)) (fun U => U.heap.size = sz ∧ x_pre cl ct fk Nw en D cA scr as ad w (va_A (x_wd cA (fun a => (ct a).2.2) fk ad w) sz) U))
    (x_post cl ct fk D cA ad w v w' (va_A (x_wd cA (fun a => (ct a).2.2) fk ad w) sz)) (x_C w' - x_C w) (x_S w' - x_S w) (va_A (x_wd cA (fun a => (ct a).2.2) fk ad w) sz)
set_option maxHeartbeats 4000000 in
theorem x_soundW (hok : ∀ M, x_nh P M → ∀ r, r ∈ P.1 M → x_okr cl ct fk ty Ts Nw mt P.2.2.2.1 P.2.2.2.2.1 en M r) (hpl : ∀ M, plainName (mt M).1.cls = true) (hcls : ∀ M, (mt M).1.cls = (mt M).2.2.2.2) (hmx : ∀ M, (mt M).2.2.1 ≤ 14) (hmp : ∀ M, P.2.2.1 M = (mt M).2.2.1)
    (hNk : ∀ q ∈ Nw, (∀ s U : State, s.WarmedH U.vm → va_Nw q s → va_Nw q U) ∧ q.onTables = true) (htx : P.2.2.2.2.2.1 0 = [112] ∧ P.2.2.2.2.2.1 1 = [99, 110, 102]) (hdt : ∀ M r, r ∈ P.1 M → ∀ i, r.2.1 = .invokevirtual i → 2 ≤ r.2.2.2.2.2.1 → 3 ≤ P.2.1 M) (hhn : ∀ M, P.2.1 M < 8 → ∀ pc k, P.2.2.2.2.2.2 M pc k = none)
    (htr : ∀ e, l.admits e → e.platform.stackTraces = false) (hokn : ∀ M, x_nh P M → ∀ r, r ∈ P.1 M → ∀ i, r.2.1 = .new i → ¬ r.2.2.2.2.2.1 = 0 → 4 ≤ P.2.1 M ∧ x_okn Ts (mt M).2.2.2.2 (mt M).2.1 r.1 i r.2.2.2.1) (hG : ∀ q ∈ Ts, goodWord q = true)
    (n M : Nat) (hh : List (Nat × Nat × Nat × Nat)) (hokM : ∀ r, r ∈ P.1 M → x_okr cl ct fk ty Ts Nw mt P.2.2.2.1 P.2.2.2.2.1 en M r) (hokW : ∀ r, r ∈ P.1 M → x_okw Ts cl ct mt P M hh r) (hd8 : P.2.1 M ≤ 8) (as : List Value) (w : xW) (v : Option Value) (w' : xW) (hca : x_cats as ≤ (mt M).2.2.1)
    (h : x_wp P scr n M 0 (x_pad (P.2.2.1 M) (x_lay as)) [] w (fun o2 w2 => o2 = .inl v ∧ w2 = w')) : x_MetW cl ct fk Ts Nw mt en P l D cA scr hh M as w v w' := by
  intro ad sz
  refine va_MetW (cc := (mt M).2.1) (maxL := (mt M).2.2.1) (ret := (mt M).2.2.2.1) (hh := hh) (hpl M) rfl ?_
  intro p e s m args below meth c s₁ B hml hv
  obtain ⟨rfl, hsz, hrep, hK, hNw, hcon, hwa⟩ := hv
  subst hsz
  have hx := B.exec
  have hb := B.bytes
  have hr := B.returns
  have hts0 := atoms_spec (ws := Cond.codeWith (mt M).1 (mt M).2.1 (mt M).2.2.1 (mt M).2.2.2.1 hh :: Ts) B.pre
  have hts : ∀ q ∈ Ts, q.before ((as.map (x_cv ad)).toArray) s = true := fun q hq => hts0 q (List.mem_cons_of_mem _ hq)
  have hown : s.vm.findClass (mt M).2.2.2.2 = some m.cls := by rw [← hcls M]; exact findClass_of_methodNamed B.named
  have hlk := B.notSynchronized
  have hnm : meth.name = (mt M).1.name := (name_of_methodNamed B.named B.method).1
  have hex : c.exceptionTable.toList.map (fun h => (h.startPc, h.endPc, h.handlerPc, h.catchType)) = hh := by
    obtain ⟨m9, meth2, c2, hn9, h1, h2, -, -, h5, -⟩ := Cond.codeWith_spec (hts0 _ List.mem_cons_self)
    cases B.named.symm.trans hn9
    have e1 := Option.some.inj (B.method.symm.trans h1)
    subst e1
    have e2 := Option.some.inj ((Stand.of_body B).code.symm.trans h2)
    subst e2
    exact h5
  have hl0 := lv_entry (as.map (x_cv ad)) (n := (mt M).2.2.1) (by rw [x_sl_len]; exact hca)
  rw [lg_entry_eq]
  generalize (lg_sl (as.map (x_cv ad)) ++ List.replicate ((mt M).2.2.1 - (lg_sl (as.map (x_cv ad))).length) Slot.unset).toArray = ls at hl0 ⊢
  have hA : ∀ q, s.heap.size ≤ q → va_A (x_wd cA (fun a => (ct a).2.2) fk ad w) s.heap.size q := fun q hq => Or.inr hq
  have walk : ∀ (k : Nat), ∀ (pc : Nat) (L : xL) (st : List Value) (w1 : xW), x_wp P scr k M pc L st w1 (fun o2 w2 => o2 = .inl v ∧ w2 = w') →
      x_WW cl ct fk D cA p l e (x_rm (P.2.1 M) (x_C w' - x_C w) (x_S w' - x_S w)) s m (as.map (x_cv ad)).toArray below meth c (va_A (x_wd cA (fun a => (ct a).2.2) fk ad w) s.heap.size) (mt M).2.2.1 ad w (MQ below (x_post cl ct fk D cA ad w v w' (va_A (x_wd cA (fun a => (ct a).2.2) fk ad w) s.heap.size)) (as.map (x_cv ad)).toArray s (x_C w' - x_C w) (x_S w' - x_S w) (va_A (x_wd cA (fun a => (ct a).2.2) fk ad w) s.heap.size)) pc L st w1 := by
    intro k
    induction k with
    | zero => intro pc L st w1 h; exact h.elim
    | succ k ihk =>
      intro pc L st w1 h
      obtain ⟨r, hr1, h⟩ := x_som_of h
      obtain ⟨hin, rfl⟩ := x_find_in _ _ _ hr1
      have okr := hokM r hin
      have okw := hokW r hin
      have hdt2 := hdt M r hin
      obtain ⟨pc, ins, len, a, b, c2, v2, u2⟩ := r
      have hfin : ∀ (o : xO) (w2 : xW), (o = .inl v ∧ w2 = w') → x_gr w2 w' := fun o w2 hq => by rw [hq.2]; exact x_gr_rf
      obtain ⟨t, ht, hgt, hY⟩ := x_pick _ h
      have h9 := hY (fun t' => t' = t) rfl
      have gen : (∀ M' as' pc2 L2 st2 w2, t = .inr (.inl (M', as', pc2, L2, st2, w2)) → x_CG cl ct fk Ts Nw mt en P l D cA scr M w' (x_WW cl ct fk D cA p l e (x_rm (P.2.1 M) (x_C w' - x_C w) (x_S w' - x_S w)) s m (as.map (x_cv ad)).toArray below meth c (va_A (x_wd cA (fun a => (ct a).2.2) fk ad w) s.heap.size) (mt M).2.2.1 ad w (MQ below (x_post cl ct fk D cA ad w v w' (va_A (x_wd cA (fun a => (ct a).2.2) fk ad w) s.heap.size)) (as.map (x_cv ad)).toArray s (x_C w' - x_C w) (x_S w' - x_S w) (va_A (x_wd cA (fun a => (ct a).2.2) fk ad w) s.heap.size))) M' as' pc2 L2 st2 w2) →
          x_WW cl ct fk D cA p l e (x_rm (P.2.1 M) (x_C w' - x_C w) (x_S w' - x_S w)) s m (as.map (x_cv ad)).toArray below meth c (va_A (x_wd cA (fun a => (ct a).2.2) fk ad w) s.heap.size) (mt M).2.2.1 ad w (MQ below (x_post cl ct fk D cA ad w v w' (va_A (x_wd cA (fun a => (ct a).2.2) fk ad w) s.heap.size)) (as.map (x_cv ad)).toArray s (x_C w' - x_C w) (x_S w' - x_S w) (va_A (x_wd cA (fun a => (ct a).2.2) fk ad w) s.heap.size)) pc L st w1 := by
        intro hCG
        refine x_sound1 (p := p) (l := l) (e := e) (ins := ins) (w9 := w') (X := fun t' => t' = t) hx hb hown hts hK hcon hA ⟨Nat.le_refl _, Nat.le_refl _, Nat.le_refl _, Nat.le_refl _⟩ hml hNk hNw hmx hnm ?_ ?_ ?_ ?_ htx (fun i e => hdt2 i e) okr h9
        · intro pc2 L2 st2 w2 h2
          subst h2
          exact ⟨x_wp_gr _ _ _ _ _ _ _ hfin ht, ihk _ _ _ _ ht⟩
        · intro M' as' pc2 L2 st2 w2 h2
          exact hCG _ _ _ _ _ _ h2.symm
        · intro hE
          have hR1 : ∀ (v3 : Option Value) (w3 : xW), (.inr (.inr (.inl (v3, w3))) : xT) = t → v3 = v ∧ w3 = w' := fun v3 w3 h3 => by
            subst h3
            exact ⟨Sum.inl.inj ht.1, ht.2⟩
          rcases hE with rfl | rfl | rfl | rfl
          · exact xs_ireturn hx hb hr hlk hR1 okr h9
          · exact xs_lreturn hx hb hr hlk hR1 okr h9
          · exact xs_areturn hx hb hr hlk hR1 okr h9
          · exact xs_return_ hx hb hr hlk hR1 okr h9
        · intro i _ _ _ h3
          subst h3
          exact absurd ht.1 (fun q => by cases q)
      match t, ht, h9, gen with
      | .inl _, ht, h9, gen => exact gen (fun _ _ _ _ _ _ q => by cases q)
      | .inr (.inr _), ht, h9, gen => exact gen (fun _ _ _ _ _ _ q => by cases q)
      | .inr (.inl (M', as', pc2, L2, st2, w2)), ht, h9, gen =>
        obtain ⟨hb2, h2⟩ := x_if_of ht
        rw [Bool.and_eq_true] at hb2
        obtain ⟨o3, w3, q1, q2⟩ := x_wp_det _ _ _ _ _ _ _ h2
        have hgr := x_wp_gr (w9 := w3) _ _ _ _ _ _ _ (fun o w hq => by rw [hq.2]; exact x_gr_rf) q2
        have hdep : P.2.1 M' < P.2.1 M := by simpa [Nat.blt, Nat.lt_iff_add_one_le] using Nat.le_of_ble_eq_true hb2.1
        have hnh : x_nh P M' := ⟨by omega, hhn M' (by omega)⟩
        cases o3 with
        | inl v3 =>
          refine gen (fun M1 as1 pc1 L1 st1 w1 q => ?_)
          have q := Sum.inl.inj (Sum.inr.inj q)
          simp only [Prod.mk.injEq] at q
          obtain ⟨rfl, rfl, rfl, rfl, rfl, rfl⟩ := q
          exact ⟨hdep, v3, w3, x_sound hok hpl hcls hmx hmp hNk htx hdt hhn k _ _ _ v3 w3 hnh (by rw [← hmp]; exact Nat.le_of_ble_eq_true hb2.2) q2, hgr, x_wp_gr _ _ _ _ _ _ _ hfin q1, ihk _ _ _ _ q1⟩
        | inr t3 =>
          obtain ⟨hd1, e1, q3⟩ := x_som_of q1
          rcases okw with hnc | ⟨i, rfl, hc0, hoc, hcl, hrc, h90, hhan⟩
          · obtain ⟨t4, e4, h4⟩ := x_noc_go hnc _ h9
            subst e4
            cases h4
          · obtain ⟨hp, jf, hho, hj, hj2, hdh, hpc⟩ := hhan t3 hd1 e1
            have hd3 : decode (mt M).2.1 pc = .ok (.invokevirtual i, 3) := by
              have := okr.1
              have e3 : len = 3 := okr.2.1
              rw [e3] at this
              exact this
            rcases x_sw_of h9 with ⟨-, h8⟩ | ⟨hc, -⟩
            · obtain ⟨as1, r1, hlen, e9, h7⟩ := x_pop_of _ _ _ _ h8
              obtain ⟨hcat, h6⟩ := x_if_of h7
              obtain ⟨o, As, hAs, hk, h5⟩ := x_pR_of h6
              have h5 := Sum.inl.inj (Sum.inr.inj h5)
              simp only [Prod.mk.injEq] at h5
              obtain ⟨rfl, rfl, rfl, rfl, rfl, rfl⟩ := h5
              have ea : as1 = As.reverse ++ [.ref o] := by
                have := congrArg List.reverse hAs
                simpa using this
              have q4 := ihk _ _ _ _ q3
              rw [hpc] at q4
              refine xs_catch (rc := P.2.2.2.1) (hh := hh) (w9 := w') hG hx hb hown hts hK hcon hA ⟨Nat.le_refl _, Nat.le_refl _, Nat.le_refl _, Nat.le_refl _⟩ hml hNk hNw hmx hex hho hj hj2 hdh hd3 hoc hcl hrc h90 hdep (x_soundT hok hpl hcls hmx hmp hNk htx hdt hhn htr hokn k _ _ _ t3 w3 hnh (by rw [← hmp]; exact Nat.le_of_ble_eq_true hb2.2) q2) hgr (x_wp_gr _ _ _ _ _ _ _ hfin q3) hAs (by rw [← hlen, ea]; simp) hk (Nat.le_of_ble_eq_true hcat) (by rw [e9, ea]; simp) q4
            · exact absurd hc0 hc
  have k1 := walk n 0 _ _ _ h x_gr_rf s.heap [] ls ad x_ext_rf hrep va_S.rf ⟨hl0.1, hl0.2.1, fun i z hz => hl0.2.2 (i, x_cv ad z) (by
    have := (x_at_lay (ad := ad) as 0 i z (x_at_pad _ _ _ _ hz)).1
    rw [Nat.zero_add] at this
    exact this)⟩ (fun _ hv => by cases hv) (fun i z hz => hwa z (x_at_lay (ad := ad) as 0 i z (x_at_pad _ _ _ _ hz)).2)
  rw [Nat.sub_self, Nat.sub_self] at k1
  exact k1
end X35
