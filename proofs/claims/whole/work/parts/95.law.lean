/-! The law's own walk. -/
section X36
variable {p : Program} {l : Launch} {e : Env} {R : Room} {s : State} {m : MethodId} {args : Array Value} {below : List Frame} {meth : Method} {c : Code} {H : Heap} {locs : List Loc} {cells slots : Nat}
/-- a call of a static method with handlers -/
theorem x_runSW {y : MethodName} {bytes cc : ByteArray} {maxL nL mc ms n index : Nat} {ret : Option FieldType} {hh : List (Nat × Nat × Nat × Nat)} {rm : Room} {Pc : Array Value → State → Prop} {Qc : Array Value → State → Outcome → State → Prop} {free : Addr → Prop} {Ts : List Cond} {own : String} {As rest : List Value} {g : JFrame}
    (hG : ∀ w ∈ Ts, goodWord w = true) (S : CallFix p m c cc nL s args Ts own) (hM : Met l y (Cond.codeWith y bytes maxL ret hh :: Ts) rm Pc Qc mc ms free) (hrc : rm.cells = mc) (hrs : rm.slots = ms) (hfr : rm.frames + 1 ≤ R.frames) (hlo : 8 + (maxL + 11) + rm.locals ≤ R.locals) (hcw : Cond.codeWith y bytes maxL ret hh ∈ Ts) (hlk : Cond.methodLink own index y ∈ Ts) (hst : Cond.static y ∈ Ts) (hin : Cond.initialized y.cls ∈ Ts)
    (hy : y.cls ≠ "java/lang/invoke/MethodHandle" ∧ y.cls ≠ "java/lang/invoke/VarHandle" ∧ (parseMethodDescriptor y.desc).map (fun d => d.parameters.length) = some n) (hp : PreS s H Pc As)
    (hg : g.method = m) (hn : As.length = n) (hsize : g.locals.size = nL) (hstack : g.stack = As.reverse ++ rest) (hW : 2 * g.monitorRoom + (rest.map fun v => v.category).sum ≤ 8) (hdg : decode cc g.pc = .ok (.invokestatic index, 3)) (hf : cells + mc ≤ R.cells ∧ slots + ms ≤ R.slots) :
    va_Run p l e R s m args below meth c H locs cells slots mc ms g rest (Qc As.toArray) free := by
  obtain ⟨hx, hb, hml, ho, hts⟩ := S
  have wd : ∀ w ∈ Ts, ∀ (a' : Array Value) (U : State), s.WarmedH U.vm → w.before a' U = true := fun w hw a' U hW => word_at hW (good_of_word (hG w hw)) (hts w hw)
  have hK : Back l R p e below s args y 3 8 (PreOf R mc ms Pc) (PostOf Qc mc ms free) := va_backW (hh := hh) (bytes := bytes) (maxL := maxL) (ret := ret) hM hp.1 hrc hrs hfr hlo (fun w hw a' U hW => by
    rcases List.mem_cons.mp hw with rfl | hw
    · exact wd _ hcw a' U hW
    · exact wd _ hw a' U hW) List.mem_cons_self (fun a' U hW => wd _ hin a' U hW)
  intro T hT X
  obtain ⟨mk, methM, cM, hnamed, hmethM, -, -, -, -, -, -, hsigM⟩ := Cond.codeWith_spec (hts _ hcw)
  have hstatic : methM.isStatic = true := Cond.static_spec hnamed hmethM (hts _ hst)
  obtain ⟨kP, hkP, -⟩ := className_of_methodNamed hnamed
  have hinitP : kP.init = .initialized := Cond.initialized_spec (findClass_of_methodNamed hnamed) hkP (hts _ hin)
  have hlen : As.length = methM.sig.parameters.length := by
    have h2 := hy.2.2
    rw [hsigM] at h2
    rw [hn]
    exact (Option.some.inj h2).symm
  obtain ⟨vm₁, X₁, hstep₁⟩ := X.invokestatic hx ho (hts _ hlk) hnamed hmethM hstatic hkP hinitP ⟨hy.1, hy.2.1⟩ (g := g) hg (argsL := As) (rest := rest) hlen hstack (by rw [hb]; exact hdg)
  obtain ⟨v, ⟨U', l2, c2, s2⟩, X', ⟨g', mk', t, L, e1, e2, hq, h1, hL, h2, h3⟩, hsteps⟩ := hK m meth c ⟨T.setVm vm₁, locs, cells, slots⟩ { g with stack := rest } (.invokestatic index) mk As.toArray X₁ hg (hsize.trans hml.symm) (by rw [hb]; exact hdg) hW (X₁.named hnamed) ⟨hf.1, hf.2, hp.2 (T.setVm vm₁) hT X₁.warmed⟩
  dsimp only [Pt.U, Pt.locs, Pt.cells, Pt.slots] at X' e1 e2 h1 h2 h3 hsteps
  subst h1; subst h2; subst h3
  exact ⟨v, (T.setVm vm₁).calling g' mk' As.toArray, t, U', L, hT, X', hL, e1, e2, hq, fun target h => hstep₁ _ fun acts => by rw [doInvoke_state]; exact hsteps.trans h⟩
end X36
/-- a step calls nobody but a -/
def x_CB (a : Nat) (F : (xT → Prop) → Prop) : Prop := ∀ X, F X → F (fun t => X t ∧ ∀ M as pc L st w, t = .inr (.inl (M, as, pc, L, st, w)) → M = a)
section X35
variable {a : Nat} {pc : Nat} {L : xL} {st : List Value} {w : xW}
theorem cb_k : x_CB a (fun X => x_K X pc L st w) := fun _ h => ⟨h, fun _ _ _ _ _ _ e => by cases e⟩
theorem cb_c {as : List Value} : x_CB a (fun X => x_CL X a as pc L st w) := fun _ h => ⟨h, fun _ _ _ _ _ _ e => by cases e; rfl⟩
theorem cb_r {v : Option Value} : x_CB a (fun X => x_RT X v w) := fun _ h => ⟨h, fun _ _ _ _ _ _ e => by cases e⟩
theorem cb_t {k : Nat} : x_CB a (fun X => x_TH X k w) := fun _ h => ⟨h, fun _ _ _ _ _ _ e => by cases e⟩
theorem cb_0 : x_CB a (fun _ => False) := fun _ h => h.elim
theorem cb_and {c : Prop} {F : (xT → Prop) → Prop} (h : x_CB a F) : x_CB a (fun X => c ∧ F X) := fun X hx => ⟨hx.1, h X hx.2⟩
theorem cb_br {c : Prop} {F G : (xT → Prop) → Prop} (h : x_CB a F) (h2 : x_CB a G) : x_CB a (fun X => x_br c (F X) (G X)) := fun X hx => ⟨fun q => h X (hx.1 q), fun q => h2 X (hx.2 q)⟩
theorem cb_sw {c : Nat} {F G : (xT → Prop) → Prop} (h : x_CB a F) (h2 : x_CB a G) : x_CB a (fun X => x_sw c (F X) (G X)) := by
  cases c
  · exact h
  · exact h2
theorem cb_if {b : Bool} {F : (xT → Prop) → Prop} (h : x_CB a F) : x_CB a (fun X => x_if b (F X)) := by
  cases b
  · exact cb_0
  · exact h
theorem cb_nil {F : (xT → Prop) → Prop} (h : x_CB a F) : x_CB a (fun X => x_nil st (F X)) := by
  cases st
  · exact h
  · exact cb_0
theorem cb_som {α : Type} {o : Option α} {F : α → (xT → Prop) → Prop} (h : ∀ x, x_CB a (F x)) : x_CB a (fun X => x_som o (fun x => F x X)) := by
  cases o
  · exact cb_0
  · exact h _
theorem cb_pI {F : Int32 → List Value → (xT → Prop) → Prop} (h : ∀ x r, x_CB a (F x r)) : x_CB a (fun X => x_pI st (fun x r => F x r X)) := fun X hx => by
  obtain ⟨x, q, rfl, hx⟩ := x_pI_of hx
  exact h x q X hx
theorem cb_pL {F : Int64 → List Value → (xT → Prop) → Prop} (h : ∀ x r, x_CB a (F x r)) : x_CB a (fun X => x_pL st (fun x r => F x r X)) := fun X hx => by
  obtain ⟨x, q, rfl, hx⟩ := x_pL_of hx
  exact h x q X hx
theorem cb_pR {F : Nat → List Value → (xT → Prop) → Prop} (h : ∀ x r, x_CB a (F x r)) : x_CB a (fun X => x_pR st (fun x r => F x r X)) := fun X hx => by
  obtain ⟨x, q, rfl, hx⟩ := x_pR_of hx
  exact h x q X hx
theorem cb_pV {F : Value → List Value → (xT → Prop) → Prop} (h : ∀ x r, x_CB a (F x r)) : x_CB a (fun X => x_pV st (fun x r => F x r X)) := fun X hx => by
  obtain ⟨x, q, -, -, hx, hg⟩ := x_pV_of hx
  exact hg _ (h x q X hx)
theorem cb_gI {i : Nat} {F : Int32 → (xT → Prop) → Prop} (h : ∀ x, x_CB a (F x)) : x_CB a (fun X => x_gI L i (fun x => F x X)) := fun X hx => by
  obtain ⟨x, e, hx⟩ := x_gI_of hx
  exact x_gI_to e (h x X hx)
theorem cb_gL {i : Nat} {F : Int64 → (xT → Prop) → Prop} (h : ∀ x, x_CB a (F x)) : x_CB a (fun X => x_gL L i (fun x => F x X)) := fun X hx => by
  obtain ⟨x, e, hx⟩ := x_gL_of hx
  exact x_gL_to e (h x X hx)
theorem cb_gR {i : Nat} {F : Nat → (xT → Prop) → Prop} (h : ∀ x, x_CB a (F x)) : x_CB a (fun X => x_gR L i (fun x => F x X)) := fun X hx => by
  obtain ⟨x, e, hx⟩ := x_gR_of hx
  exact x_gR_to e (h x X hx)
theorem cb_pop {n : Nat} {acc : List Value} {F : List Value → List Value → (xT → Prop) → Prop} (h : ∀ x r, x_CB a (F x r)) : x_CB a (fun X => x_pop n st acc (fun x r => F x r X)) := fun X hx => by
  obtain ⟨as, q, h3, h4, h5⟩ := x_pop_of _ _ _ _ hx
  subst h3
  subst h4
  exact x_pop_to as q acc _ (h _ q X h5)
set_option maxHeartbeats 4000000 in
theorem x_cb {rc : Nat → Nat} {vt : Nat → Nat × Nat × Nat × Nat} {scr : Nat × (Nat → Int32)} {tx : Nat → List Int32} {ins : Instr} {b c : Nat} {v : Int32} {u : Int64} (hv : ∀ i, ins = .invokevirtual i → c = 0) :
    x_CB a (fun X => x_go X rc vt scr tx ins a b c v u pc L st w) := by
  unfold x_go
  cases ins
  case if_acmp cd off =>
    cases cd
    · exact cb_0
    · exact cb_pR fun _ _ => cb_pR fun _ _ => cb_and (cb_br cb_k cb_k)
  case invokevirtual i =>
    obtain rfl := hv i rfl
    dsimp only [x_step, x_sw]
    repeat' first | exact cb_k | exact cb_c | refine cb_and ?_ | refine cb_br ?_ ?_ | refine cb_if ?_ | refine cb_som fun _ => ?_ | refine cb_pR fun _ _ => ?_ | refine cb_pop fun _ _ => ?_
  all_goals first | exact cb_0 | exact cb_k | skip
  all_goals dsimp only [x_step]
  all_goals repeat' first | exact cb_k | exact cb_c | exact cb_r | exact cb_t | refine cb_and ?_ | refine cb_br ?_ ?_ | refine cb_sw ?_ ?_ | refine cb_if ?_ | refine cb_nil ?_ | refine cb_som fun _ => ?_ | refine cb_pI fun _ _ => ?_ | refine cb_pL fun _ _ => ?_ | refine cb_pR fun _ _ => ?_ | refine cb_pV fun _ _ => ?_ | refine cb_gI fun _ => ?_ | refine cb_gL fun _ => ?_ | refine cb_gR fun _ => ?_ | refine cb_pop fun _ _ => ?_
end X35
def xT_ret (t : xT) (x : Int32) (w : xW) : Prop := t = .inr (.inr (.inl (some (.int x), w)))
/-- the words of a call of a wrapper -/
def x_okl (Ts : List Cond) (mt : Nat → xM) (own : String) (hs : Nat → List (Nat × Nat × Nat × Nat)) (i a b : Nat) : Prop :=
  Cond.codeWith (mt a).1 (mt a).2.1 (mt a).2.2.1 (mt a).2.2.2.1 (hs a) ∈ Ts ∧ Cond.methodLink own i (mt a).1 ∈ Ts ∧ Cond.static (mt a).1 ∈ Ts ∧ Cond.initialized (mt a).1.cls ∈ Ts ∧ ((mt a).1.cls ≠ "java/lang/invoke/MethodHandle" ∧ (mt a).1.cls ≠ "java/lang/invoke/VarHandle" ∧ (parseMethodDescriptor (mt a).1.desc).map (fun d => d.parameters.length) = some b)
section X37
variable {cl : List vw_C} {ct : Nat → vw_C} {fk : Nat → Nat → Nat} {ty : Nat → Nat → FieldType} {Ts Nw : List Cond} {mt : Nat → xM} {en : Nat → String × String × String} {P : xP} {l : Launch} {D : va_G} {cA : Nat → ClassId} {scr : Nat × (Nat → Int32)}
set_option maxHeartbeats 4000000 in
theorem x_soundL (hok : ∀ M, x_nh P M → ∀ r, r ∈ P.1 M → x_okr cl ct fk ty Ts Nw mt P.2.2.2.1 P.2.2.2.2.1 en M r) (hpl : ∀ M, plainName (mt M).1.cls = true) (hcls : ∀ M, (mt M).1.cls = (mt M).2.2.2.2) (hmx : ∀ M, (mt M).2.2.1 ≤ 14) (hmp : ∀ M, P.2.2.1 M = (mt M).2.2.1)
    (hNk : ∀ q ∈ Nw, (∀ s U : State, s.WarmedH U.vm → va_Nw q s → va_Nw q U) ∧ q.onTables = true) (htx : P.2.2.2.2.2.1 0 = [112] ∧ P.2.2.2.2.2.1 1 = [99, 110, 102]) (hdt : ∀ M r, r ∈ P.1 M → ∀ i, r.2.1 = .invokevirtual i → 2 ≤ r.2.2.2.2.2.1 → 3 ≤ P.2.1 M) (hhn : ∀ M, P.2.1 M < 8 → ∀ pc k, P.2.2.2.2.2.2 M pc k = none)
    (htr : ∀ e, l.admits e → e.platform.stackTraces = false) (hokn : ∀ M, x_nh P M → ∀ r, r ∈ P.1 M → ∀ i, r.2.1 = .new i → ¬ r.2.2.2.2.2.1 = 0 → 4 ≤ P.2.1 M ∧ x_okn Ts (mt M).2.2.2.2 (mt M).2.1 r.1 i r.2.2.2.1) (hG : ∀ q ∈ Ts, goodWord q = true)
    {hs : Nat → List (Nat × Nat × Nat × Nat)} {wr : Nat → Bool} (hwr : ∀ M, wr M = true → (∀ r, r ∈ P.1 M → x_okr cl ct fk ty Ts Nw mt P.2.2.2.1 P.2.2.2.2.1 en M r ∧ x_okw Ts cl ct mt P M (hs M) r) ∧ P.2.1 M = 8) (hnw : ∀ M, P.2.1 M ≤ 8 → wr M = false → ∀ pc k, P.2.2.2.2.2.2 M pc k = none) (hn0 : ∀ pc k, P.2.2.2.2.2.2 0 pc k = none)
    (hok0 : ∀ r, r ∈ P.1 0 → (∃ i, r.2.1 = .invokestatic i ∧ r.2.2.2.2.2.1 = 0 ∧ wr r.2.2.2.1 = true ∧ decode (mt 0).2.1 r.1 = .ok (.invokestatic i, 3) ∧ x_okl Ts mt (mt 0).2.2.2.2 hs i r.2.2.2.1 r.2.2.2.2.1) ∨ (x_okr cl ct fk ty Ts Nw mt P.2.2.2.1 P.2.2.2.2.1 en 0 r ∧ wr r.2.2.2.1 = false ∧ (∀ i, r.2.1 = .invokevirtual i → r.2.2.2.2.2.1 = 0) ∧ (r.2.1 = .ireturn → r.2.2.1 = 1)))
    (h9 : P.2.1 0 = 9) (hcode : (mt 0).2.1 = code) (hnL : (mt 0).2.2.1 = 7)
    (n : Nat) (w w' : xW) (hN : x_N w = 0) (hC : x_C w = 0) (hS0 : x_S w = 0) (hC' : x_C w' ≤ 1104) (hS' : x_S w' ≤ 44409)
    (h : x_wp P scr n 0 0 (x_pad (P.2.2.1 0) (x_lay [.ref x_sc])) [] w (fun o2 w2 => o2 = .inl (some (.int 1)) ∧ w2 = w'))
    {p : Program} {e : Env} {s : State} {m : MethodId} {below : List Frame} {meth : Method} {c : Code} {ad : Nat → Nat} (hx : p.tables.exec = Jvm.exec) (hb : c.code = code) (hr : meth.sig.returnType = ret) (hml : c.maxLocals = 7) (hown : s.vm.findClass (mt 0).2.2.2.2 = some m.cls) (hts : ∀ q ∈ Ts, q.before #[Value.ref (ad x_sc)] s = true) (hlk : meth.locks = false) (hnm : meth.name = (mt 0).1.name)
    (hpre : x_pre cl ct fk Nw en D cA scr [.ref x_sc] ad w (fun q => s.heap.size ≤ q) s) :
    W p l e room_1 s m #[Value.ref (ad x_sc)] below meth c s.heap [] 0 0 (lw_Z below #[Value.ref (ad x_sc)] s) (entryFrame m ([Value.ref (ad x_sc)] : List Value).toArray 7) := by
  obtain ⟨hrep, hK, hNw, hcon, hwa⟩ := hpre
  rw [← hcode] at hb
  rw [← hnL] at hml
  have hl0 := lv_entry ([Value.ref x_sc].map (x_cv ad)) (n := 7) (by rw [x_sl_len]; show 1 ≤ 7; omega)
  rw [show ([Value.ref (ad x_sc)] : List Value) = [Value.ref x_sc].map (x_cv ad) from rfl, lg_entry_eq]
  generalize (lg_sl ([Value.ref x_sc].map (x_cv ad)) ++ List.replicate (7 - (lg_sl ([Value.ref x_sc].map (x_cv ad))).length) Slot.unset).toArray = ls at hl0 ⊢
  have hA : ∀ q, s.heap.size ≤ q → (fun q => s.heap.size ≤ q) q := fun q hq => hq
  have walk : ∀ (k : Nat), ∀ (pc : Nat) (L : xL) (st : List Value) (w1 : xW), x_wp P scr k 0 pc L st w1 (fun o2 w2 => o2 = .inl (some (.int 1)) ∧ w2 = w') →
      x_WW cl ct fk D cA p l e room_1 s m #[Value.ref (ad x_sc)] below meth c (fun q => s.heap.size ≤ q) (mt 0).2.2.1 ad w (lw_Z below #[Value.ref (ad x_sc)] s) pc L st w1 := by
    intro k
    induction k with
    | zero => intro pc L st w1 h; exact h.elim
    | succ k ihk =>
      intro pc L st w1 h
      obtain ⟨r, hr1, h⟩ := x_som_of h
      obtain ⟨hin, rfl⟩ := x_find_in _ _ _ hr1
      have ok0 := hok0 r hin
      have hdt2 := hdt 0 r hin
      obtain ⟨pc, ins, len, a, b, c2, v2, u2⟩ := r
      have hfin : ∀ (o : xO) (w2 : xW), (o = .inl (some (.int 1)) ∧ w2 = w') → x_gr w2 w' := fun o w2 hq => by rw [hq.2]; exact x_gr_rf
      have hR : P.2.1 0 + 2 ≤ room_1.frames ∧ 33 * P.2.1 0 + 100 ≤ room_1.locals ∧ x_C w' - x_C w ≤ room_1.cells ∧ x_S w' - x_S w ≤ room_1.slots := by
        rw [h9, hC, hS0]
        exact ⟨by decide, by decide, hC', hS'⟩
      rcases ok0 with ⟨i, e1, e2, hwra, hd3, hol⟩ | ⟨okr, hwa1, hvi, hret⟩
      · have e1 : ins = .invokestatic i := e1
        have e2 : c2 = 0 := e2
        subst e1
        subst e2
        obtain ⟨hwok, hw8⟩ := hwr a hwra
        obtain ⟨as, r, hlen, e9, h7⟩ := x_pop_of _ _ _ _ h
        subst e9
        obtain ⟨hcat, h6⟩ := x_if_of h7
        obtain ⟨hb2, h2⟩ := x_if_of h6
        rw [Bool.and_eq_true] at hb2
        obtain ⟨o3, w3, q1, q2⟩ := x_wp_det _ _ _ _ _ _ _ h2
        have hgr := x_wp_gr (w9 := w3) _ _ _ _ _ _ _ (fun o w hq => by rw [hq.2]; exact x_gr_rf) q2
        cases o3 with
        | inr t3 =>
          obtain ⟨hd1, e1, -⟩ := x_som_of q1
          rw [hn0] at e1
          cases e1
        | inl v3 =>
          have hM := x_soundW (l := l) (D := D) (cA := cA) (scr := scr) hok hpl hcls hmx hmp hNk htx hdt hhn htr hokn hG k a (hs a) (fun r hr => (hwok r hr).1) (fun r hr => (hwok r hr).2) (by omega) (as.reverse ++ []) w1 v3 w3 (by rw [← hmp]; exact Nat.le_of_ble_eq_true hb2.2) q2
          have hg2 := x_wp_gr _ _ _ _ _ _ _ hfin q1
          have kk := ihk _ _ _ _ q1
          obtain ⟨c1, c2, c3, c4, c5⟩ := hol
          intro hg H locs ls ad1 hext hrep1 hS hl hws hwl
          obtain ⟨hwa1, hwr1⟩ := x_wfr hws
          have g1 := hg.2.1
          have g2 := hg.2.2
          have g3 := hgr.2.1
          have g4 := hgr.2.2
          have g5 := hg2.2.1
          have g6 := hg2.2.2
          have hrun := x_runSW (l := l) (e := e) (below := below) (meth := meth) (locs := locs) (cells := x_C w1 - x_C w) (slots := x_S w1 - x_S w) (R := room_1) (As := (as.reverse ++ []).map (x_cv ad1)) (rest := r.map (x_cv ad1)) (g := F0 m pc ls ((as ++ r).map (x_cv ad1))) hG ⟨hx, hb, hml, hown, hts⟩ (hM ad1 H.size) rfl rfl (Nat.le_trans (by show _ + 2 + 1 ≤ P.2.1 0 + 2; omega) hR.1) (Nat.le_trans (by have := hmx a; show 8 + (_ + 11) + (33 * _ + 100) ≤ 33 * P.2.1 0 + 100; omega) hR.2.1) c1 c2 c3 c4 c5 (x_PreS hNk hNw hK hcon hA hext hrep1 hS hwa1) rfl (by simp [hlen]) hl.1 (by simp [List.map_append]) (lv_room (by rw [x_cats_cv]; exact Nat.le_of_ble_eq_true hcat)) hd3 ⟨Nat.le_trans (by omega) hR.2.2.1, Nat.le_trans (by omega) hR.2.2.2⟩
          exact x_called (M := 0) hrun hg hgr hA hext hrep1 hS hl hwr1 hwl kk
      · obtain ⟨t, ht, hgt, hY⟩ := x_pick _ h
        have h9' := hY (fun t' => t' = t) rfl
        refine x_sound1 (M := 0) (p := p) (l := l) (e := e) (ins := ins) (w9 := w') (X := fun t' => t' = t) hx hb hown hts hK hcon hA hR hml hNk hNw hmx hnm ?_ ?_ ?_ ?_ htx (fun i e => hdt2 i e) okr h9'
        · intro pc2 L2 st2 w2 h2
          subst h2
          exact ⟨x_wp_gr _ _ _ _ _ _ _ hfin ht, ihk _ _ _ _ ht⟩
        · intro M' as' pc2 L2 st2 w2 h2
          subst h2
          obtain ⟨hb2, h2⟩ := x_if_of ht
          rw [Bool.and_eq_true] at hb2
          obtain ⟨o3, w3, q1, q2⟩ := x_wp_det _ _ _ _ _ _ _ h2
          have hgr := x_wp_gr (w9 := w3) _ _ _ _ _ _ _ (fun o w hq => by rw [hq.2]; exact x_gr_rf) q2
          have hdep : P.2.1 M' < P.2.1 0 := by simpa [Nat.blt, Nat.lt_iff_add_one_le] using Nat.le_of_ble_eq_true hb2.1
          have hwf : wr M' = false := by
            obtain ⟨t3, ⟨e3, hp3⟩, -, -⟩ := x_pick _ (x_cb hvi _ h9')
            rw [hp3 _ _ _ _ _ _ e3]
            exact hwa1
          cases o3 with
          | inl v3 =>
            exact ⟨hdep, v3, w3, x_sound hok hpl hcls hmx hmp hNk htx hdt hhn k M' as' w2 v3 w3 ⟨by omega, hnw M' (by omega) hwf⟩ (by rw [← hmp]; exact Nat.le_of_ble_eq_true hb2.2) q2, hgr, x_wp_gr _ _ _ _ _ _ _ hfin q1, ihk _ _ _ _ q1⟩
          | inr t3 =>
            obtain ⟨hd1, e1, -⟩ := x_som_of q1
            rw [hn0] at e1
            cases e1
        · intro hE hg H locs ls ad1 hext hrep1 hS hl hws hwl
          have hdc : decode (mt 0).2.1 pc = .ok (ins, len) := okr.1
          rcases hE with rfl | rfl | rfl | rfl
          · obtain ⟨x, r, e9, h10⟩ := x_pI_of h9'
            subst e9
            obtain ⟨e9, h11⟩ := x_nil_of h10
            subst e9
            have h12 : xT_ret t x w1 := by
              rcases c2 with _ | c2
              · exact h11.symm
              · exact h11.2.symm
            unfold xT_ret at h12
            subst h12
            obtain ⟨q1, q2⟩ := ht
            cases q1
            subst q2
            have e1 : len = 1 := hret rfl
            rw [e1, hcode] at hdc
            exact va_forget (fun q hq => hS.2.2 q hq) (W.widen (by omega) (by omega) (lw_ret hx (hb.trans hcode) hr hlk hdc))
          · obtain ⟨x, r, e9, h10⟩ := x_pL_of h9'
            subst e9
            obtain ⟨e9, h11⟩ := x_nil_of h10
            have h11 : _ = t := h11
            subst h11
            exact absurd ht.1 (fun q => by cases q)
          · obtain ⟨x, r, e9, h10⟩ := x_pR_of h9'
            subst e9
            obtain ⟨e9, h11⟩ := x_nil_of h10
            have h11 : _ = t := h11
            subst h11
            exact absurd ht.1 (fun q => by cases q)
          · obtain ⟨e9, h11⟩ := x_nil_of h9'
            have h11 : _ = t := h11
            subst h11
            exact absurd ht.1 (fun q => by cases q)
        · intro i _ _ _ h3
          subst h3
          exact absurd ht.1 (fun q => by cases q)
  have k1 := walk n 0 _ _ _ h x_gr_rf s.heap [] ls ad x_ext_rf hrep va_S.rf ⟨by rw [hnL]; exact hl0.1, hl0.2.1, fun i z hz => hl0.2.2 (i, x_cv ad z) (by
    have := (x_at_lay (ad := ad) [.ref x_sc] 0 i z (x_at_pad _ _ _ _ hz)).1
    rw [Nat.zero_add] at this
    exact this)⟩ (fun _ hv => by cases hv) (fun i z hz => hwa z (x_at_lay (ad := ad) [.ref x_sc] 0 i z (x_at_pad _ _ _ _ hz)).2)
  rw [Nat.sub_self, Nat.sub_self] at k1
  exact k1
end X37
