/-! Methods that end by a throw. -/
def x_exn (k : Nat) : String := match k with
  | 1 => x_iae
  | _ => x_ise
def x_ups : List String := ["java/lang/RuntimeException", "java/lang/Exception"]
/-- what a row that throws must be -/
def x_okn (Ts : List Cond) (own : String) (bytes : ByteArray) (pc i a : Nat) : Prop := (a = 1 ∨ a = 2) ∧ ∃ ic, (∀ q ∈ Bundle.ownAtoms0 own ic (x_exn a) x_ups, x_atoms own ic (x_exn a) x_ups q ∧ (goodWord q = true → q ∈ Ts)) ∧ Cond.classLink own i (x_exn a) ∈ Ts ∧ Cond.instantiable (x_exn a) 6 ∈ Ts ∧ Cond.initialized (x_exn a) ∈ Ts ∧
  decode bytes (pc + 3) = .ok (.dup, 1) ∧ decode bytes (pc + 3 + 1) = .ok (.invokespecial ic, 3) ∧ decode bytes (pc + 3 + 1 + 3) = .ok (.athrow, 1)
section X32
variable (cl : List vw_C) (ct : Nat → vw_C) (fk : Nat → Nat → Nat) (ty : Nat → Nat → FieldType) (Ts Nw : List Cond) (mt : Nat → xM) (en : Nat → String × String × String) (P : xP) (l : Launch) (D : va_G) (cA : Nat → ClassId) (scr : Nat × (Nat → Int32))
def x_postT (ad : Nat → Nat) (w : xW) (k : Nat) (w' : xW) (A : Nat → Prop) : State → Addr → State → Prop := fun st xa t =>
  (∃ ad', x_ext (x_N w) ad ad' ∧ x_rep cl D cA (fun a => (ct a).2.2) fk A ad' w' t.heap) ∧ (∃ ce : Cell, t.heap[xa]? = some ce ∧ ce.vm.isStatics = false ∧ st.vm.findClass (x_exn k) = some ce.cls) ∧ va_F A st t
def x_MetT (M : Nat) (as : List Value) (w : xW) (k : Nat) (w' : xW) : Prop := ∀ (ad : Nat → Nat) (sz : Nat),
  x_MT l (mt M).1 (x_ws Ts mt M) (x_rm (P.2.1 M) (x_C w' - x_C w) (x_S w' - x_S w)) (va_Pc (as.map (x_cv ad)) (fun U => U.heap.size = sz ∧ x_pre cl ct fk Nw en D cA scr as ad w (va_A (x_wd cA (fun a => (ct a).2.2) fk ad w) sz) U))
    (x_postT cl ct fk D cA ad w k w' (va_A (x_wd cA (fun a => (ct a).2.2) fk ad w) sz)) (x_C w' - x_C w) (x_S w' - x_S w) (va_A (x_wd cA (fun a => (ct a).2.2) fk ad w) sz)
end X32
section X33
variable {cl : List vw_C} {ct : Nat → vw_C} {fk : Nat → Nat → Nat} {ty : Nat → Nat → FieldType} {Ts Nw : List Cond} {mt : Nat → xM} {en : Nat → String × String × String} {P : xP} {l : Launch} {D : va_G} {cA : Nat → ClassId} {scr : Nat × (Nat → Int32)}
theorem x_rep_lost {A : Nat → Prop} {ad : Nat → Nat} {w : xW} {n : Nat} {H H1 : Heap} (h : x_rep cl D cA (fun a => (ct a).2.2) fk A ad w H) (hk : ∀ q, q < H.size → H1[q]? = H[q]?) : x_rep cl D cA (fun a => (ct a).2.2) fk A ad (x_lost w n) H1 := by
  refine ⟨?_, h.2.1, h.2.2⟩
  refine va_P.kept h.1 (fun k q hq => hk _ ?_)
  have := h.1 k q hq
  exact va_at.lt this
set_option maxHeartbeats 4000000 in
theorem x_soundT (hok : ∀ M, x_nh P M → ∀ r, r ∈ P.1 M → x_okr cl ct fk ty Ts Nw mt P.2.2.2.1 P.2.2.2.2.1 en M r) (hpl : ∀ M, plainName (mt M).1.cls = true) (hcls : ∀ M, (mt M).1.cls = (mt M).2.2.2.2) (hmx : ∀ M, (mt M).2.2.1 ≤ 14) (hmp : ∀ M, P.2.2.1 M = (mt M).2.2.1)
    (hNk : ∀ q ∈ Nw, (∀ s U : State, s.WarmedH U.vm → va_Nw q s → va_Nw q U) ∧ q.onTables = true) (htx : P.2.2.2.2.2.1 0 = [112] ∧ P.2.2.2.2.2.1 1 = [99, 110, 102]) (hdt : ∀ M r, r ∈ P.1 M → ∀ i, r.2.1 = .invokevirtual i → 2 ≤ r.2.2.2.2.2.1 → 3 ≤ P.2.1 M) (hhn : ∀ M, P.2.1 M < 8 → ∀ pc k, P.2.2.2.2.2.2 M pc k = none)
    (htr : ∀ e, l.admits e → e.platform.stackTraces = false) (hokn : ∀ M, x_nh P M → ∀ r, r ∈ P.1 M → ∀ i, r.2.1 = .new i → ¬ r.2.2.2.2.2.1 = 0 → 4 ≤ P.2.1 M ∧ x_okn Ts (mt M).2.2.2.2 (mt M).2.1 r.1 i r.2.2.2.1) : ∀ (n M : Nat) (as : List Value) (w : xW) (k9 : Nat) (w' : xW), x_nh P M → x_cats as ≤ (mt M).2.2.1 →
    x_wp P scr n M 0 (x_pad (P.2.2.1 M) (x_lay as)) [] w (fun o2 w2 => o2 = .inr k9 ∧ w2 = w') → x_MetT cl ct fk Ts Nw mt en P l D cA scr M as w k9 w' := by
  intro n M as w k9 w' hd8 hca h ad sz
  refine x_MT_ofW (cc := (mt M).2.1) (maxL := (mt M).2.2.1) (ret := (mt M).2.2.2.1) (hpl M) rfl ?_
  intro p e s m args below meth c s₁ B hml hv
  obtain ⟨rfl, hsz, hrep, hK, hNw, hcon, hwa⟩ := hv
  subst hsz
  have hx := B.exec
  have hb := B.bytes
  have hr := B.returns
  have hts0 := atoms_spec (ws := x_ws Ts mt M) B.pre
  have hts : ∀ q ∈ Ts, q.before ((as.map (x_cv ad)).toArray) s = true := fun q hq => hts0 q (List.mem_cons_of_mem _ hq)
  have hown : s.vm.findClass (mt M).2.2.2.2 = some m.cls := by rw [← hcls M]; exact findClass_of_methodNamed B.named
  have hlk := B.notSynchronized
  have hnm : meth.name = (mt M).1.name := (name_of_methodNamed B.named B.method).1
  have hemp : c.exceptionTable.toList = [] := by
    obtain ⟨meth2, c2, h1, h2, -, -, -, -, h7, -⟩ := Cond.code_spec B.named (hts0 _ List.mem_cons_self)
    have e1 := Option.some.inj (B.method.symm.trans h1)
    subst e1
    have e2 := Option.some.inj ((Stand.of_body B).code.symm.trans h2)
    subst e2
    simpa using h7
  have hl0 := lv_entry (as.map (x_cv ad)) (n := (mt M).2.2.1) (by rw [x_sl_len]; exact hca)
  rw [lg_entry_eq]
  generalize (lg_sl (as.map (x_cv ad)) ++ List.replicate ((mt M).2.2.1 - (lg_sl (as.map (x_cv ad))).length) Slot.unset).toArray = ls at hl0 ⊢
  have hA : ∀ q, s.heap.size ≤ q → va_A (x_wd cA (fun a => (ct a).2.2) fk ad w) s.heap.size q := fun q hq => Or.inr hq
  have walk : ∀ (k : Nat), ∀ (pc : Nat) (L : xL) (st : List Value) (w1 : xW), x_wp P scr k M pc L st w1 (fun o2 w2 => o2 = .inr k9 ∧ w2 = w') →
      x_WW cl ct fk D cA p l e (x_rm (P.2.1 M) (x_C w' - x_C w) (x_S w' - x_S w)) s m (as.map (x_cv ad)).toArray below meth c (va_A (x_wd cA (fun a => (ct a).2.2) fk ad w) s.heap.size) (mt M).2.2.1 ad w (x_QT below s (x_C w' - x_C w) (x_S w' - x_S w) (va_A (x_wd cA (fun a => (ct a).2.2) fk ad w) s.heap.size) (x_postT cl ct fk D cA ad w k9 w' (va_A (x_wd cA (fun a => (ct a).2.2) fk ad w) s.heap.size) s)) pc L st w1 := by
    intro k
    induction k with
    | zero => intro pc L st w1 h; exact h.elim
    | succ k ihk =>
      intro pc L st w1 h
      obtain ⟨r, hr1, h⟩ := x_som_of h
      obtain ⟨hin, rfl⟩ := x_find_in _ _ _ hr1
      have okr := hok M hd8 r hin
      have hdt2 := hdt M r hin
      have hokn2 := hokn M hd8 r hin
      obtain ⟨pc, ins, len, a, b, c2, v2, u2⟩ := r
      have hfin : ∀ (o : xO) (w2 : xW), (o = .inr k9 ∧ w2 = w') → x_gr w2 w' := fun o w2 hq => by rw [hq.2]; exact x_gr_rf
      refine x_sound1 (p := p) (l := l) (e := e) (ins := ins) (w9 := w') (X := x_aim P M pc (fun o2 w2 => o2 = .inr k9 ∧ w2 = w') (fun pc L st w => x_wp P scr k M pc L st w (fun o2 w2 => o2 = .inr k9 ∧ w2 = w')) (fun M' L w Q' => x_wp P scr k M' 0 L [] w Q')) hx hb hown hts hK hcon hA ⟨Nat.le_refl _, Nat.le_refl _, Nat.le_refl _, Nat.le_refl _⟩ hml hNk hNw hmx hnm ?_ ?_ ?_ ?_ htx (fun i e => hdt2 i e) okr h
      · intro pc2 L2 st2 w2 h2
        exact ⟨x_wp_gr _ _ _ _ _ _ _ hfin h2, ihk _ _ _ _ h2⟩
      · intro M' as' pc2 L2 st2 w2 h2
        obtain ⟨hb2, h2⟩ := x_if_of h2
        rw [Bool.and_eq_true] at hb2
        obtain ⟨o3, w3, q1, q2⟩ := x_wp_det _ _ _ _ _ _ _ h2
        have hgr := x_wp_gr (w9 := w3) _ _ _ _ _ _ _ (fun o w hq => by rw [hq.2]; exact x_gr_rf) q2
        cases o3 with
        | inl v3 =>
          have hdep : P.2.1 M' < P.2.1 M := by simpa [Nat.blt, Nat.lt_iff_add_one_le] using Nat.le_of_ble_eq_true hb2.1
          refine ⟨hdep, v3, w3, x_sound hok hpl hcls hmx hmp hNk htx hdt hhn k M' as' w2 v3 w3 ⟨by have := hd8.1; omega, hhn M' (by have := hd8.1; omega)⟩ (by rw [← hmp]; exact Nat.le_of_ble_eq_true hb2.2) q2, hgr, x_wp_gr _ _ _ _ _ _ _ hfin q1, ihk _ _ _ _ q1⟩
        | inr t3 =>
          have q3 : x_som (P.2.2.2.2.2.2 M pc t3) _ := q1
          rw [hd8.2] at q3
          exact q3.elim
      · intro hE
        exfalso
        have hX : ∀ v3 w3, ¬ x_aim P M pc (fun o2 w2 => o2 = .inr k9 ∧ w2 = w') (fun pc L st w => x_wp P scr k M pc L st w (fun o2 w2 => o2 = .inr k9 ∧ w2 = w')) (fun M' L w Q' => x_wp P scr k M' 0 L [] w Q') (.inr (.inr (.inl (v3, w3)))) := fun v3 w3 h3 => by have := h3.1; cases this
        rcases hE with rfl | rfl | rfl | rfl
        · obtain ⟨x, r, -, h⟩ := x_pI_of h
          obtain ⟨-, h⟩ := x_nil_of h
          rcases x_sw_of h with ⟨-, h⟩ | ⟨-, -, h⟩
          · exact hX _ _ h
          · exact hX _ _ h
        · obtain ⟨x, r, -, h⟩ := x_pL_of h
          obtain ⟨-, h⟩ := x_nil_of h
          exact hX _ _ h
        · obtain ⟨x, r, -, h⟩ := x_pR_of h
          obtain ⟨-, h⟩ := x_nil_of h
          exact hX _ _ h
        · obtain ⟨-, h⟩ := x_nil_of h
          exact hX _ _ h
      · intro i hi hc hst h3
        subst hi
        subst hst
        obtain ⟨hka, hw'⟩ := h3
        have hka := Sum.inr.inj hka
        subst hka
        obtain ⟨hd4, ha12, ic, hat, o1, o2, o3, d3, d4, d7⟩ := hokn2 i rfl hc
        intro hg H locs ls ad1 hext hrep1 hS hl hws hwl
        have g1 := hg.2.1
        have g2 := hg.2.2
        have c1 : x_C w' = x_C w1 + 1 := by rw [← hw']; rfl
        have c2 : x_S w' = x_S w1 + 6 := by rw [← hw']; rfl
        have hd : decode (mt M).2.1 pc = .ok (.new i, 3) := by
          have := okr.1
          have e3 : len = 3 := okr.2.1
          rw [e3] at this
          exact this
        have hct := hcon.2.2.2.1
        have hcast : va_Nw (.castable (x_exn a) (x_exn a)) s := by
          rcases ha12 with rfl | rfl
          · exact hct.2.2.1
          · exact hct.2.2.2.1
        have hfit : Bundle.fit (x_exn a) = true := by
          rcases ha12 with rfl | rfl <;> decide +kernel
        have K := x_thrown (cells := x_C w1 - x_C w) (slots := x_S w1 - x_S w) (R := x_rm (P.2.1 M) (x_C w' - x_C w) (x_S w' - x_S w)) (l := l) (e := e) (below := below) (QT := x_postT cl ct fk D cA ad w a w' (va_A (x_wd cA (fun a => (ct a).2.2) fk ad w) s.heap.size) s) (names := x_ups) (A := va_A (x_wd cA (fun a => (ct a).2.2) fk ad w) s.heap.size) (ls := ls) hx hb (by rw [hml]; exact hl.1) hlk htr hown hfit (by decide +kernel) (fun q hq => (hat q hq).1) (fun q hq hg => hts q ((hat q hq).2 hg)) hcast hct.1 hct.2.1 hS hA (hts _ o1) (hts _ o2) (hts _ o3) (by rw [hemp]; intro x hx; cases hx) hd d3 d4 d7 (by show _ ≤ x_C w' - x_C w; omega) (by show _ ≤ x_S w' - x_S w; omega) (by show 2 + 3 < P.2.1 M + 2; omega) (by show 13 * 3 + 45 ≤ 33 * P.2.1 M + 100; omega) (fun U ce q1 q2 q3 q4 q5 => ?_)
        · have e1 : x_C w1 - x_C w + 1 = x_C w' - x_C w := by omega
          have e2 : x_S w1 - x_S w + 6 = x_S w' - x_S w := by omega
          rw [e1, e2] at K
          exact K
        · refine ⟨⟨ad1, hext, ?_⟩, ⟨ce, q1, q3, q4⟩, ?_⟩
          · rw [← hw']; exact x_rep_lost hrep1 q2
          · have z1 : H.size ≤ U.heap.size := by
              have := (Array.getElem?_eq_some_iff.mp q1).1
              omega
            exact ⟨Nat.le_trans hS.1 z1, fun q h1 h2 => by rw [q2 q (Nat.lt_of_lt_of_le h1 hS.1)]; exact hS.2.1 q h1 h2⟩
  have k1 := walk n 0 _ _ _ h x_gr_rf s.heap [] ls ad x_ext_rf hrep va_S.rf ⟨hl0.1, hl0.2.1, fun i z hz => hl0.2.2 (i, x_cv ad z) (by
    have := (x_at_lay (ad := ad) as 0 i z (x_at_pad _ _ _ _ hz)).1
    rw [Nat.zero_add] at this
    exact this)⟩ (fun _ hv => by cases hv) (fun i z hz => hwa z (x_at_lay (ad := ad) as 0 i z (x_at_pad _ _ _ _ hz)).2)
  rw [Nat.sub_self, Nat.sub_self] at k1
  exact k1
end X33
