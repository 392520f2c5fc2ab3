/-! One step of the JVM for each row of code: calls, ends. -/
section X9
variable {cl : List vw_C} {ct : Nat → vw_C} {fk : Nat → Nat → Nat} {ty : Nat → Nat → FieldType} {Ts Nw : List Cond} {mt : Nat → xM} {en : Nat → String × String × String} {P : xP} {l : Launch} {D : va_G} {cA : Nat → ClassId} {scr : Nat × (Nat → Int32)} {rc : Nat → Nat} {vt : Nat → Nat × Nat × Nat × Nat} {tx : Nat → List Int32}
variable {p : Program} {e : Env} {R : Room} {s : State} {m : MethodId} {args : Array Value} {below : List Frame} {meth : Method} {c0 : Code} {A : Nat → Prop} {ad0 : Nat → Nat} {w0 w9 : xW} {v9 : Option Value} {X : xT → Prop} {M : Nat} {Q : State → Prop}
variable {pc len a b c : Nat} {v : Int32} {u : Int64} {L : xL} {st : List Value} {w : xW}


theorem x_lt2 {k : Nat} (h : k < 2) : k = 0 ∨ k = 1 := by omega
theorem x_con_mv {ad : Nat → Nat} {A : Nat → Prop} {u U : State} {H : Heap} (hv : U.vm = u.vm) (h : x_con en scr ad A u H) : x_con en scr ad A U H := by
  have hvm : u.vm.Alike U.vm := by rw [hv]; exact Vm.Alike.refl _
  obtain ⟨⟨h1, h2⟩, h4, h5, ⟨t1, t2, t3, t4, t5⟩, ⟨adV, u1⟩, u2, u3, u4, u5⟩ := h
  have hst : ∀ {C n d : String}, x_st C n d A u H → x_st C n d A U H := by
    intro C n d h
    obtain ⟨c, k, i, f, a, cell, hc, hi, h⟩ := h
    obtain ⟨k', hi', hek⟩ := State.fieldFound?_setVm hvm hi
    exact ⟨c, k', i, f, a, cell, by rw [hvm.findClass]; exact hc, hi', h.1, by rw [hek]; exact h.2.1, h.2.2.1, h.2.2.2.1, h.2.2.2.2.1, h.2.2.2.2.2.1, by rw [hek]; exact h.2.2.2.2.2.2.1, h.2.2.2.2.2.2.2.1, h.2.2.2.2.2.2.2.2⟩
  exact ⟨⟨h1.moved hvm, h2⟩, fun k hk => (h4 k hk).moved hvm, h5, ⟨hst t1, hst t2, va_Nw.same rfl hv.symm t3, va_Nw.same rfl hv.symm t4, t5.moved hvm⟩, ⟨adV, u1.moved hvm⟩, u2.same hv, u3.same hv, u4.moved hvm, u5.moved hvm⟩
/-- the callee may change the world's cells and new ones -/
theorem x_freeA {ad : Nat → Nat} {H : Heap} {locs : List Loc} (hrep : x_rep cl D cA (fun a => (ct a).2.2) fk A ad w H) (hS : va_S A s.heap H locs) (hA : ∀ q, s.heap.size ≤ q → A q) : ∀ q, va_A (x_wd cA (fun a => (ct a).2.2) fk ad w) H.size q → A q := by
  intro q hq
  rcases hq with ⟨k, x, hk⟩ | hq
  · exact hrep.2.1.2 k _ hk
  · exact hA q (Nat.le_trans hS.1 hq)
theorem x_PreS {ad : Nat → Nat} {H : Heap} {locs : List Loc} {as : List Value} (hNk : ∀ q ∈ Nw, (∀ s U : State, s.WarmedH U.vm → va_Nw q s → va_Nw q U) ∧ q.onTables = true) (hNw : ∀ q ∈ Nw, va_Nw q s) (hK : va_K D cl (x_tys cA) s) (hcon : x_con en scr ad0 A s s.heap) (hA : ∀ q, s.heap.size ≤ q → A q) (hext : x_ext (x_N w0) ad0 ad) (hrep : x_rep cl D cA (fun a => (ct a).2.2) fk A ad w H) (hS : va_S A s.heap H locs) (hwa : ∀ v ∈ as, x_wf (x_N w) v) :
    PreS s H (va_Pc (as.map (x_cv ad)) (fun U => U.heap.size = H.size ∧ x_pre cl ct fk Nw en D cA scr as ad w (va_A (x_wd cA (fun a => (ct a).2.2) fk ad w) H.size) U)) (as.map (x_cv ad)) := by
  refine ⟨fun a U g mk q => ?_, fun U hU hW => ?_⟩
  · obtain ⟨q0, q1, q2, q3, q4, q5, q6⟩ := q
    exact ⟨q0, q1, q2, va_K.moved (u := U) (U := U.calling g mk a) (Vm.Alike.refl U.vm) q3, fun z hz => va_Nw.same (u := U) (U := U.calling g mk a) (hNk z hz).2 rfl (q4 z hz), x_con_mv (u := U) (U := U.calling g mk a) rfl q5, q6⟩
  · refine ⟨rfl, by rw [hU], ?_, va_K.moved hW.alike hK, fun z hz => (hNk z hz).1 s U hW (hNw z hz), ?_, hwa⟩
    · rw [hU]; exact ⟨hrep.1, hrep.2.1.self, hrep.2.2⟩
    · rw [hU]; exact x_con_to hcon hS hW hext (fun q hq => x_freeA hrep hS hA q hq)
theorem x_called {ad : Nat → Nat} {H : Heap} {locs : List Loc} {ls : Array Slot} {r st0 : List Value} {arr : Array Value} {w1 : xW} {v1 : Option Value} (hr : va_Run p l e R s m args below meth c0 H locs (x_C w - x_C w0) (x_S w - x_S w0) (x_C w1 - x_C w) (x_S w1 - x_S w) (F0 m pc ls st0) (r.map (x_cv ad)) (x_post cl ct fk D cA ad w v1 w1 (va_A (x_wd cA (fun a => (ct a).2.2) fk ad w) H.size) arr) (va_A (x_wd cA (fun a => (ct a).2.2) fk ad w) H.size))
    (hg : x_gr w0 w) (hg1 : x_gr w w1) (hA : ∀ q, s.heap.size ≤ q → A q) (hext : x_ext (x_N w0) ad0 ad) (hrep : x_rep cl D cA (fun a => (ct a).2.2) fk A ad w H) (hS : va_S A s.heap H locs) (hl : x_lh ad (mt M).2.2.1 ls L) (hws : ∀ v ∈ r, x_wf (x_N w) v) (hwl : ∀ i v, x_at L i = some v → x_wf (x_N w) v)
    (kk : x_WW cl ct fk D cA p l e R s m args below meth c0 A (mt M).2.2.1 ad0 w0 Q (pc + 3) L (v1.toList ++ r) w1) : W p l e R s m args below meth c0 H locs (x_C w - x_C w0) (x_S w - x_S w0) Q (F0 m pc ls st0) := by
  have hf := x_freeA hrep hS hA
  refine x_cont (A := A) hr hS hf (fun st v t hq => hq.2) (fun st v t H1 locs1 hq ht hS1 => ?_)
  obtain ⟨⟨ad', hx', ho, hrep', hwf'⟩, -⟩ := hq
  have hv : v = v1.map (x_cv ad') := Outcome.returned.inj ho
  subst hv
  rw [ht] at hrep'
  have g1 := hg.2.1
  have g2 := hg.2.2
  have g3 := hg1.2.1
  have g4 := hg1.2.2
  refine W.cs (cells' := x_C w1 - x_C w0) (slots' := x_S w1 - x_S w0) (by omega) (by omega) ?_
  have hw1 : ∀ v ∈ r, x_wf (x_N w1) v := fun v hv => x_wf_le hg1.1 (hws v hv)
  have k1 := kk (x_gr_tr hg hg1) H1 locs1 ls ad' (x_ext_tr hg.1 hext hx') ⟨hrep'.1, hrep'.2.1.weaken (fun _ _ _ h => hf _ h), hrep'.2.2⟩ hS1 (x_lh_ext hx' hl hwl) (fun v hv => by
      rcases List.mem_append.mp hv with hv | hv
      · cases v1 with
        | none => cases hv
        | some z =>
          obtain rfl : v = z := by simpa using hv
          exact hwf' v rfl
      · exact hw1 v hv) (fun i v hv => x_wf_le hg1.1 (hwl i v hv))
  have e1 : (v1.toList ++ r).map (x_cv ad') = (v1.map (x_cv ad')).toList ++ r.map (x_cv ad) := by
    rw [List.map_append, x_st_ext hx' hws]
    cases v1 <;> rfl
  rw [e1] at k1
  exact k1
theorem x_wfr {N : Nat} {as r : List Value} (h : ∀ v ∈ as ++ r, x_wf N v) : (∀ v ∈ as.reverse ++ ([] : List Value), x_wf N v) ∧ ∀ v ∈ r, x_wf N v :=
  ⟨fun v hv => h v (List.mem_append_left _ (by simpa using hv)), fun v hv => h v (List.mem_append_right _ hv)⟩

set_option maxHeartbeats 1000000 in
theorem xs_invokestatic {i : Nat} (hx : p.tables.exec = Jvm.exec) (hb : c0.code = (mt M).2.1) (hK1 : ∀ pc L st w, X (.inl (pc, L, st, w)) → x_gr w w9 ∧ x_WW cl ct fk D cA p l e R s m args below meth c0 A (mt M).2.2.1 ad0 w0 Q pc L st w) (hown : s.vm.findClass (mt M).2.2.2.2 = some m.cls) (hts : ∀ q ∈ Ts, q.before args s = true) (hK : va_K D cl (x_tys cA) s) (hcon : x_con en scr ad0 A s s.heap) (hA : ∀ q, s.heap.size ≤ q → A q) (hR : P.2.1 M + 2 ≤ R.frames ∧ 33 * P.2.1 M + 100 ≤ R.locals ∧ x_C w9 - x_C w0 ≤ R.cells ∧ x_S w9 - x_S w0 ≤ R.slots) (hml : c0.maxLocals = (mt M).2.2.1) (hNk : ∀ q ∈ Nw, (∀ s U : State, s.WarmedH U.vm → va_Nw q s → va_Nw q U) ∧ q.onTables = true) (hNw : ∀ q ∈ Nw, va_Nw q s) (hmx : ∀ M, (mt M).2.2.1 ≤ 14) (hC1 : ∀ M' as pc L st w, X (.inr (.inl (M', as, pc, L, st, w))) → x_CG cl ct fk Ts Nw mt en P l D cA scr M w9 (x_WW cl ct fk D cA p l e R s m args below meth c0 A (mt M).2.2.1 ad0 w0 Q) M' as pc L st w) (ok : x_okr cl ct fk ty Ts Nw mt rc vt en M (pc, .invokestatic i, len, a, b, c, v, u)) (h : x_go X rc vt scr tx (.invokestatic i) a b c v u pc L st w) : x_WW cl ct fk D cA p l e R s m args below meth c0 A (mt M).2.2.1 ad0 w0 Q pc L st w := by
  intro hg H locs ls ad hext hrep hS hl hws hwl
  have hd : decode (mt M).2.1 pc = .ok (.invokestatic i, len) := ok.1
  obtain ⟨rfl, ok1, ok2⟩ := ok.2
  rcases x_sw_of h with ⟨hc, h⟩ | ⟨hc, h⟩
  · obtain ⟨as, r, hlen, e9, h9⟩ := x_pop_of _ _ _ _ h
    subst e9
    replace h := h9
    obtain ⟨hcat, h⟩ := x_if_of h
    obtain ⟨hdep, v1, w1, hM, hg1, hg2, kk⟩ := hC1 _ _ _ _ _ _ h
    obtain ⟨hwa, hwr⟩ := x_wfr hws
    have g1 := hg.2.1
    have g2 := hg.2.2
    have g3 := hg1.2.1
    have g4 := hg1.2.2
    have g5 := hg2.2.1
    have g6 := hg2.2.2
    have hrun := ok1 hc p l e R s m args below meth c0 H locs (x_C w - x_C w0) (x_S w - x_S w0) _ _ _ _ _ _ _ _ ((as.reverse ++ []).map (x_cv ad)) (r.map (x_cv ad)) (F0 m pc ls ((as ++ r).map (x_cv ad))) ⟨hx, hb, hml, hown, hts⟩ hNw (hM ad H.size) rfl rfl (Nat.le_trans (by show _ + 2 + 1 ≤ _ + 2; omega) hR.1) (Nat.le_trans (by have := hmx a; show 8 + (_ + 11) + (33 * _ + 100) ≤ 33 * _ + 100; omega) hR.2.1) (x_PreS hNk hNw hK hcon hA hext hrep hS hwa) rfl (by simp [hlen]) hl.1 (by simp [List.map_append]) (lv_room (by rw [x_cats_cv]; exact Nat.le_of_ble_eq_true hcat)) hd ⟨Nat.le_trans (by omega) hR.2.2.1, Nat.le_trans (by omega) hR.2.2.2⟩
    exact x_called hrun hg hg1 hA hext hrep hS hl hwr hwl kk
  · obtain ⟨o1, o2, o3, o4⟩ := ok2 hc
    obtain ⟨n, r1, e1, h1⟩ := x_pI_of h
    obtain ⟨dp, r2, e2, h2⟩ := x_pI_of h1
    obtain ⟨q, r3, e3, h3⟩ := x_pR_of h2
    obtain ⟨sp, r4, e4, h4⟩ := x_pI_of h3
    obtain ⟨o, r, e5, h5⟩ := x_pR_of h4
    subst e5
    subst e4
    subst e3
    subst e2
    subst e1
    obtain ⟨⟨k1, k2, k3, k4, k5, k6, k7⟩, h6⟩ := h5
    obtain ⟨hcat0, h7⟩ := x_if_of h6
    replace h := h7
    have hcat : x_cats r ≤ 8 := Nat.le_of_ble_eq_true hcat0
    have ho := x_in hrep k1 (by omega)
    have hq := x_in hrep k2 (by omega)
    have hcat : x_cats r ≤ 8 := Nat.le_of_ble_eq_true hcat0
    refine va_copyi hx hb (hml.trans hl.1.symm) hown (hts _ o1) (hts _ o2) (hts _ o3) (hts _ o4) hK hrep.1 hrep.2.1 hS o q 0 0 (by rw [x_wd_at ho, x_ce_0 k1]) (by rw [x_wd_at hq, x_ce_0 k2]) rfl rfl rfl k3 k4 k5 k6 k7 (fun _ _ => rfl) (Nat.le_trans (by omega) hR.1) (by rw [x_cats_cv]; have : nativeFrameWords "java/lang/System" "arraycopy" 5 + 11 ≤ 90 := (by decide +kernel); have := hR.2.1; omega) hd (fun H1 locs1 hP hD hS1 => ?_)
    have hrep1 : x_rep cl D cA (fun a => (ct a).2.2) fk A ad (x_cp w o sp.toNatClampNeg q dp.toNatClampNeg n.toNatClampNeg) H1 := by
      refine x_stored (w' := x_cp w o sp.toNatClampNeg q dp.toNatClampNeg n.toNatClampNeg) hrep rfl rfl rfl ?_ (fun i hi => x_ce_eq rfl rfl (by show x_row _ _ _ i = _; rw [x_row, if_neg hi]) rfl rfl) hP hD
      rw [x_ce_0 (w := x_cp w o sp.toNatClampNeg q dp.toNatClampNeg n.toNatClampNeg) k2]
      have e1 : x_i (x_cp w o sp.toNatClampNeg q dp.toNatClampNeg n.toNatClampNeg) q = va_cpy (x_i w o) (x_i w q) sp.toNatClampNeg dp.toNatClampNeg n.toNatClampNeg := by
        show x_row _ _ _ q = _
        rw [x_row, if_pos rfl]
      rw [e1]; rfl
    exact (hK1 _ _ _ _ h).2 hg H1 locs1 ls ad hext hrep1 hS1 hl (x_wt1 (x_wt1 (x_wt1 (x_wt1 (x_wt1 hws))))) hwl
set_option maxHeartbeats 1000000 in
theorem xs_invokespecial {i : Nat} (hx : p.tables.exec = Jvm.exec) (hb : c0.code = (mt M).2.1) (hK1 : ∀ pc L st w, X (.inl (pc, L, st, w)) → x_gr w w9 ∧ x_WW cl ct fk D cA p l e R s m args below meth c0 A (mt M).2.2.1 ad0 w0 Q pc L st w) (hown : s.vm.findClass (mt M).2.2.2.2 = some m.cls) (hts : ∀ q ∈ Ts, q.before args s = true) (hK : va_K D cl (x_tys cA) s) (hcon : x_con en scr ad0 A s s.heap) (hA : ∀ q, s.heap.size ≤ q → A q) (hR : P.2.1 M + 2 ≤ R.frames ∧ 33 * P.2.1 M + 100 ≤ R.locals ∧ x_C w9 - x_C w0 ≤ R.cells ∧ x_S w9 - x_S w0 ≤ R.slots) (hml : c0.maxLocals = (mt M).2.2.1) (hNk : ∀ q ∈ Nw, (∀ s U : State, s.WarmedH U.vm → va_Nw q s → va_Nw q U) ∧ q.onTables = true) (hNw : ∀ q ∈ Nw, va_Nw q s) (hmx : ∀ M, (mt M).2.2.1 ≤ 14) (hC1 : ∀ M' as pc L st w, X (.inr (.inl (M', as, pc, L, st, w))) → x_CG cl ct fk Ts Nw mt en P l D cA scr M w9 (x_WW cl ct fk D cA p l e R s m args below meth c0 A (mt M).2.2.1 ad0 w0 Q) M' as pc L st w) (ok : x_okr cl ct fk ty Ts Nw mt rc vt en M (pc, .invokespecial i, len, a, b, c, v, u)) (h : x_go X rc vt scr tx (.invokespecial i) a b c v u pc L st w) : x_WW cl ct fk D cA p l e R s m args below meth c0 A (mt M).2.2.1 ad0 w0 Q pc L st w := by
  intro hg H locs ls ad hext hrep hS hl hws hwl
  have hd : decode (mt M).2.1 pc = .ok (.invokespecial i, len) := ok.1
  obtain ⟨rfl, ok1, ok2⟩ := ok.2
  rcases x_sw_of h with ⟨hc, h⟩ | ⟨hc, h⟩
  · obtain ⟨as, r, hlen, e9, h9⟩ := x_pop_of _ _ _ _ h
    subst e9
    replace h := h9
    obtain ⟨hcat, h⟩ := x_if_of h
    obtain ⟨o, As, hAs, h⟩ := x_pR_of h
    obtain ⟨hrt0, ok1⟩ := ok1 hc
    obtain ⟨hdep, v1, w1, hM, hg1, hg2, kk⟩ := hC1 _ _ _ _ _ _ h
    unfold x_Met x_ws at hM
    rw [hrt0] at hM
    obtain ⟨hwa, hwr⟩ := x_wfr hws
    have g1 := hg.2.1
    have g2 := hg.2.2
    have g3 := hg1.2.1
    have g4 := hg1.2.2
    have g5 := hg2.2.1
    have g6 := hg2.2.2
    have ea : as = As.reverse ++ [.ref o] := by
      have := congrArg List.reverse hAs
      simpa using this
    subst ea
    rw [hAs] at hM hwa
    have hst : ((As.reverse ++ [Value.ref o]) ++ r).map (x_cv ad) = (As.map (x_cv ad)).reverse ++ .ref (ad o) :: r.map (x_cv ad) := by simp [List.map_append, x_cv]
    have hrun := ok1 p l e R s m args below meth c0 H locs (x_C w - x_C w0) (x_S w - x_S w0) _ _ _ _ _ _ _ _ (ad o) (As.map (x_cv ad)) (r.map (x_cv ad)) (F0 m pc ls (((As.reverse ++ [Value.ref o]) ++ r).map (x_cv ad))) ⟨hx, hb, hml, hown, hts⟩ hNw (hM ad H.size) rfl rfl (Nat.le_trans (by show _ + 2 + 1 ≤ _ + 2; omega) hR.1) (Nat.le_trans (by have := hmx a; show 8 + (_ + 11) + (33 * _ + 100) ≤ 33 * _ + 100; omega) hR.2.1) (x_PreS hNk hNw hK hcon hA hext hrep hS hwa) rfl (by simpa using hlen) hl.1 hst (lv_room (by rw [x_cats_cv]; exact Nat.le_of_ble_eq_true hcat)) hd ⟨Nat.le_trans (by omega) hR.2.2.1, Nat.le_trans (by omega) hR.2.2.2⟩
    exact x_called hrun hg hg1 hA hext hrep hS hl hwr hwl kk
  · obtain ⟨o1, o2, o3⟩ := ok2 hc
    obtain ⟨o, r, e9, h9⟩ := x_pR_of h
    subst e9
    replace h := h9
    obtain ⟨hcat, h⟩ := x_if_of h
    have hcat := Nat.le_of_ble_eq_true hcat
    refine W.objInit (a := ad o) (rest := r.map (x_cv ad)) hx hb hown (hts _ o1) (hts _ o2) (hts _ o3) rfl (by rw [hml]; exact hl.1) rfl hd (Nat.le_trans (by omega) hR.1) (by
      have e1 : 2 * (F0 m pc ls ((Value.ref o :: r).map (x_cv ad))).monitorRoom = 0 := rfl
      rw [x_cats_cv, e1]; have := hR.2.1; omega) ?_
    exact (hK1 _ _ _ _ h).2 hg H locs ls ad hext hrep hS hl (x_wt1 hws) hwl
set_option maxHeartbeats 1000000 in
theorem xs_invokevirtual {i : Nat} (hx : p.tables.exec = Jvm.exec) (hb : c0.code = (mt M).2.1) (hK1 : ∀ pc L st w, X (.inl (pc, L, st, w)) → x_gr w w9 ∧ x_WW cl ct fk D cA p l e R s m args below meth c0 A (mt M).2.2.1 ad0 w0 Q pc L st w) (hown : s.vm.findClass (mt M).2.2.2.2 = some m.cls) (hts : ∀ q ∈ Ts, q.before args s = true) (hK : va_K D cl (x_tys cA) s) (hcon : x_con en scr ad0 A s s.heap) (hA : ∀ q, s.heap.size ≤ q → A q) (hR : P.2.1 M + 2 ≤ R.frames ∧ 33 * P.2.1 M + 100 ≤ R.locals ∧ x_C w9 - x_C w0 ≤ R.cells ∧ x_S w9 - x_S w0 ≤ R.slots) (hml : c0.maxLocals = (mt M).2.2.1) (hNk : ∀ q ∈ Nw, (∀ s U : State, s.WarmedH U.vm → va_Nw q s → va_Nw q U) ∧ q.onTables = true) (hNw : ∀ q ∈ Nw, va_Nw q s) (hmx : ∀ M, (mt M).2.2.1 ≤ 14) (htx : tx 0 = [112] ∧ tx 1 = [99, 110, 102]) (hdt : 2 ≤ c → 3 ≤ P.2.1 M) (hC1 : ∀ M' as pc L st w, X (.inr (.inl (M', as, pc, L, st, w))) → x_CG cl ct fk Ts Nw mt en P l D cA scr M w9 (x_WW cl ct fk D cA p l e R s m args below meth c0 A (mt M).2.2.1 ad0 w0 Q) M' as pc L st w) (ok : x_okr cl ct fk ty Ts Nw mt rc vt en M (pc, .invokevirtual i, len, a, b, c, v, u)) (h : x_go X rc vt scr tx (.invokevirtual i) a b c v u pc L st w) : x_WW cl ct fk D cA p l e R s m args below meth c0 A (mt M).2.2.1 ad0 w0 Q pc L st w := by
  intro hg H locs ls ad hext hrep hS hl hws hwl
  have hd : decode (mt M).2.1 pc = .ok (.invokevirtual i, len) := ok.1
  obtain ⟨rfl, hc2, ok3, ok4, ok1, ok2⟩ := ok.2
  rcases x_sw_of h with ⟨hc, h⟩ | ⟨hc, h⟩
  · obtain ⟨as, r, hlen, e9, h9⟩ := x_pop_of _ _ _ _ h
    subst e9
    replace h := h9
    obtain ⟨hcat, h⟩ := x_if_of h
    obtain ⟨o, As, hAs, h⟩ := x_pR_of h
    obtain ⟨hk, h⟩ := h
    obtain ⟨h90, hcl, ok1⟩ := ok1 hc
    obtain ⟨hdep, v1, w1, hM, hg1, hg2, kk⟩ := hC1 _ _ _ _ _ _ h
    obtain ⟨hwa, hwr⟩ := x_wfr hws
    have g1 := hg.2.1
    have g2 := hg.2.2
    have g3 := hg1.2.1
    have g4 := hg1.2.2
    have g5 := hg2.2.1
    have g6 := hg2.2.2
    have ea : as = As.reverse ++ [.ref o] := by
      have := congrArg List.reverse hAs
      simpa using this
    subst ea
    rw [hAs] at hM hwa
    have hst : ((As.reverse ++ [Value.ref o]) ++ r).map (x_cv ad) = (As.map (x_cv ad)).reverse ++ .ref (ad o) :: r.map (x_cv ad) := by simp [List.map_append, x_cv]
    have hrun := ok1 p l e R s m args below meth c0 H locs (x_C w - x_C w0) (x_S w - x_S w0) _ _ _ _ _ _ _ _ (ad o) (As.map (x_cv ad)) (r.map (x_cv ad)) (F0 m pc ls (((As.reverse ++ [Value.ref o]) ++ r).map (x_cv ad))) ⟨hx, hb, hml, hown, hts⟩ hNw (hM ad H.size) rfl rfl (Nat.le_trans (by show _ + 2 + 1 ≤ _ + 2; omega) hR.1) (Nat.le_trans (by have := hmx a; show 8 + (_ + 11) + (33 * _ + 100) ≤ 33 * _ + 100; omega) hR.2.1) ⟨(x_PreS hNk hNw hK hcon hA hext hrep hS hwa).1, va_recv hK hrep.1 hcl (by rw [x_wd_at (x_in hrep hk (by omega)), x_ce_obj hk]), (x_PreS hNk hNw hK hcon hA hext hrep hS hwa).2⟩ rfl (by simpa using hlen) hl.1 hst (lv_room (by rw [x_cats_cv]; exact Nat.le_of_ble_eq_true hcat)) hd ⟨Nat.le_trans (by omega) hR.2.2.1, Nat.le_trans (by omega) hR.2.2.2⟩
    exact x_called hrun hg hg1 hA hext hrep hS hl hwr hwl kk
  rcases x_sw_of h with ⟨hc, h⟩ | ⟨hc, h⟩
  · obtain ⟨as, r, hlen, e9, h9⟩ := x_pop_of _ _ _ _ h
    subst e9
    replace h := h9
    obtain ⟨hcat, h⟩ := x_if_of h
    obtain ⟨o, As, hAs, h⟩ := x_pR_of h
    obtain ⟨h90, h91, hcl1, hcl2, okA, okB⟩ := ok2 (by omega)
    rcases x_br_of h with ⟨hk, h⟩ | ⟨-, hk, h⟩
    · obtain ⟨hdep, v1, w1, hM, hg1, hg2, kk⟩ := hC1 _ _ _ _ _ _ h
      obtain ⟨hwa, hwr⟩ := x_wfr hws
      have g1 := hg.2.1
      have g2 := hg.2.2
      have g3 := hg1.2.1
      have g4 := hg1.2.2
      have g5 := hg2.2.1
      have g6 := hg2.2.2
      have ea : as = As.reverse ++ [.ref o] := by
        have := congrArg List.reverse hAs
        simpa using this
      subst ea
      rw [hAs] at hM hwa
      have hst : ((As.reverse ++ [Value.ref o]) ++ r).map (x_cv ad) = (As.map (x_cv ad)).reverse ++ .ref (ad o) :: r.map (x_cv ad) := by simp [List.map_append, x_cv]
      have hrun := okA p l e R s m args below meth c0 H locs (x_C w - x_C w0) (x_S w - x_S w0) _ _ _ _ _ _ _ _ (ad o) (As.map (x_cv ad)) (r.map (x_cv ad)) (F0 m pc ls (((As.reverse ++ [Value.ref o]) ++ r).map (x_cv ad))) ⟨hx, hb, hml, hown, hts⟩ hNw (hM ad H.size) rfl rfl (Nat.le_trans (by show _ + 2 + 1 ≤ _ + 2; omega) hR.1) (Nat.le_trans (by have := hmx (vt a).2.1; show 8 + (_ + 11) + (33 * _ + 100) ≤ 33 * _ + 100; omega) hR.2.1) ⟨(x_PreS hNk hNw hK hcon hA hext hrep hS hwa).1, va_recv hK hrep.1 hcl1 (by rw [x_wd_at (x_in hrep hk (by omega)), x_ce_obj hk]), (x_PreS hNk hNw hK hcon hA hext hrep hS hwa).2⟩ rfl (by simpa using hlen) hl.1 hst (lv_room (by rw [x_cats_cv]; exact Nat.le_of_ble_eq_true hcat)) hd ⟨Nat.le_trans (by omega) hR.2.2.1, Nat.le_trans (by omega) hR.2.2.2⟩
      exact x_called hrun hg hg1 hA hext hrep hS hl hwr hwl kk
    · obtain ⟨hdep, v1, w1, hM, hg1, hg2, kk⟩ := hC1 _ _ _ _ _ _ h
      obtain ⟨hwa, hwr⟩ := x_wfr hws
      have g1 := hg.2.1
      have g2 := hg.2.2
      have g3 := hg1.2.1
      have g4 := hg1.2.2
      have g5 := hg2.2.1
      have g6 := hg2.2.2
      have ea : as = As.reverse ++ [.ref o] := by
        have := congrArg List.reverse hAs
        simpa using this
      subst ea
      rw [hAs] at hM hwa
      have hst : ((As.reverse ++ [Value.ref o]) ++ r).map (x_cv ad) = (As.map (x_cv ad)).reverse ++ .ref (ad o) :: r.map (x_cv ad) := by simp [List.map_append, x_cv]
      have hrun := okB p l e R s m args below meth c0 H locs (x_C w - x_C w0) (x_S w - x_S w0) _ _ _ _ _ _ _ _ (ad o) (As.map (x_cv ad)) (r.map (x_cv ad)) (F0 m pc ls (((As.reverse ++ [Value.ref o]) ++ r).map (x_cv ad))) ⟨hx, hb, hml, hown, hts⟩ hNw (hM ad H.size) rfl rfl (Nat.le_trans (by show _ + 2 + 1 ≤ _ + 2; omega) hR.1) (Nat.le_trans (by have := hmx (vt a).2.2.2; show 8 + (_ + 11) + (33 * _ + 100) ≤ 33 * _ + 100; omega) hR.2.1) ⟨(x_PreS hNk hNw hK hcon hA hext hrep hS hwa).1, va_recv hK hrep.1 hcl2 (by rw [x_wd_at (x_in hrep hk (by omega)), x_ce_obj hk]), (x_PreS hNk hNw hK hcon hA hext hrep hS hwa).2⟩ rfl (by simpa using hlen) hl.1 hst (lv_room (by rw [x_cats_cv]; exact Nat.le_of_ble_eq_true hcat)) hd ⟨Nat.le_trans (by omega) hR.2.2.1, Nat.le_trans (by omega) hR.2.2.2⟩
      exact x_called hrun hg hg1 hA hext hrep hS hl hwr hwl kk
  have hR1 := hR.1
  have hR2 := hR.2.1
  have hd3 := hdt (by omega)
  obtain ⟨⟨adV, u1⟩, -, -, u4, u5⟩ := hcon.2.2.2.2
  have ht : ∀ k, ad (x_tx + k) = ad0 (x_tx + k) := fun k => hext _ (Or.inr (by show 1000000 ≤ 1000010 + k; omega))
  have g1 := hg.2.1
  have g2 := hg.2.2
  rcases x_sw_of h with ⟨hc3, h⟩ | ⟨hc3, h⟩
  · obtain ⟨hb2, hlen⟩ := ok3 (by omega)
    subst hb2
    obtain ⟨o, r, e9, h9⟩ := x_pR_of h
    subst e9
    obtain ⟨⟨q1, q2⟩, h8⟩ := h9
    obtain ⟨hcat, h7⟩ := x_if_of h8
    obtain ⟨k, hk, rfl⟩ : ∃ k, k < 2 ∧ o = x_tx + k := ⟨o - x_tx, Nat.sub_lt_left_of_lt_add q1 q2, (Nat.add_sub_cancel' q1).symm⟩
    obtain ⟨hgr, kk⟩ := hK1 _ _ _ _ h7
    have g3 := hgr.2.1
    have g4 := hgr.2.2
    have e1 : Int32.ofNat (tx (x_tx + k - x_tx)).length = Int32.ofNat ([1, 3].getD k 0) := by
      rw [Nat.add_sub_cancel_left]
      have hk2 : k = 0 ∨ k = 1 := x_lt2 hk
      clear h7 kk
      rcases hk2 with e2 | e2
      · rw [e2, htx.1]; rfl
      · rw [e2, htx.2]; rfl
    have k1 := kk hg H locs ls ad hext hrep hS hl (x_wc trivial (x_wt1 hws)) hwl
    rw [List.map_cons, e1] at k1
    have k2 := hlen p l e R s m args below meth c0 H locs (x_C w - x_C w0) (x_S w - x_S w0) (mt M).2.1 (mt M).2.2.1 Q A (fun i => ad0 (x_tx + i)) adV pc k ls (r.map (x_cv ad)) ⟨hx, hb, hml, hown, hts⟩ hl.1 u1 u4 hS hk (by rw [x_cats_cv]; exact Nat.le_of_ble_eq_true hcat) (by omega) (by omega) (Nat.le_trans (by omega) hR.2.2.1) (Nat.le_trans (by omega) hR.2.2.2) hd k1
    rw [List.map_cons]
    show W p l e R s m args below meth c0 H locs (x_C w - x_C w0) (x_S w - x_S w0) Q (F0 m pc ls (.ref (ad (x_tx + k)) :: r.map (x_cv ad)))
    rw [ht]
    exact k2
  · obtain ⟨hb2, hchr⟩ := ok4 (by omega)
    subst hb2
    obtain ⟨i9, r1, e9, h1⟩ := x_pI_of h
    subst e9
    obtain ⟨o, r, e9, h9⟩ := x_pR_of h1
    subst e9
    obtain ⟨⟨q1, q2, q3⟩, h8⟩ := h9
    obtain ⟨hcat, h7⟩ := x_if_of h8
    obtain ⟨k, hk, rfl⟩ : ∃ k, k < 2 ∧ o = x_tx + k := ⟨o - x_tx, Nat.sub_lt_left_of_lt_add q1 q2, (Nat.add_sub_cancel' q1).symm⟩
    obtain ⟨hgr, kk⟩ := hK1 _ _ _ _ h7
    have g3 := hgr.2.1
    have g4 := hgr.2.2
    rw [Nat.add_sub_cancel_left] at q3 h7 kk
    have e1 : tx k = [[112], [99, 110, 102]].getD k [] ∧ (tx k).length = [1, 3].getD k 0 := by
      have hk2 : k = 0 ∨ k = 1 := x_lt2 hk
      clear h7 kk
      rcases hk2 with e2 | e2
      · rw [e2, htx.1]; exact ⟨rfl, rfl⟩
      · rw [e2, htx.2]; exact ⟨rfl, rfl⟩
    rw [e1.2] at q3
    have k1 := kk hg H locs ls ad hext hrep hS hl (x_wc trivial (x_wt1 (x_wt1 hws))) hwl
    rw [List.map_cons, e1.1] at k1
    have k2 := hchr p l e R s m args below meth c0 H locs (x_C w - x_C w0) (x_S w - x_S w0) (mt M).2.1 (mt M).2.2.1 Q A (fun i => ad0 (x_tx + i)) adV pc k i9 ls (r.map (x_cv ad)) ⟨hx, hb, hml, hown, hts⟩ hl.1 u1 u4 u5 hS hk q3 (by rw [x_cats_cv]; exact Nat.le_of_ble_eq_true hcat) (by omega) (by omega) (Nat.le_trans (by omega) hR.2.2.1) (Nat.le_trans (by omega) hR.2.2.2) hd k1
    rw [List.map_cons, List.map_cons]
    show W p l e R s m args below meth c0 H locs (x_C w - x_C w0) (x_S w - x_S w0) Q (F0 m pc ls (.int i9 :: .ref (ad (x_tx + k)) :: r.map (x_cv ad)))
    rw [ht]
    exact k2
set_option maxHeartbeats 1000000 in
theorem xs_ireturn  (hx : p.tables.exec = Jvm.exec) (hb : c0.code = (mt M).2.1) (hrt : meth.sig.returnType = (mt M).2.2.2.1) (hlk : meth.locks = false) (hR1 : ∀ v w, X (.inr (.inr (.inl (v, w)))) → v = v9 ∧ w = w9)  (ok : x_okr cl ct fk ty Ts Nw mt rc vt en M (pc, .ireturn, len, a, b, c, v, u)) (h : x_go X rc vt scr tx (.ireturn) a b c v u pc L st w) : x_WW cl ct fk D cA p l e R s m args below meth c0 A (mt M).2.2.1 ad0 w0 (MQ below (x_post cl ct fk D cA ad0 w0 v9 w9 A) args s (x_C w9 - x_C w0) (x_S w9 - x_S w0) A) pc L st w := by
  intro hg H locs ls ad hext hrep hS hl hws hwl
  have hd : decode (mt M).2.1 pc = .ok (.ireturn, len) := ok.1
  obtain ⟨rfl, ok2⟩ := ok.2
  obtain ⟨x, r, e9, h9⟩ := x_pI_of h
  subst e9
  replace h := h9
  obtain ⟨e9, h9⟩ := x_nil_of h
  subst e9
  replace h := h9
  rcases ok2 with ⟨rfl, hr2⟩ | ⟨rfl, hr2⟩
  · obtain ⟨rfl, rfl⟩ := hR1 _ _ h
    exact W.iret (v := x) hx hb (hrt.trans hr2) (fun t ht hW => ⟨⟨ad, hext, rfl, by rw [ht]; exact hrep, fun u hu => by cases hu; trivial⟩, hS.F ht⟩) hS.2.2 hd hlk
  · obtain ⟨hx01, h⟩ := h
    obtain ⟨rfl, rfl⟩ := hR1 _ _ h
    exact W.zret (v := x) hx hb (hrt.trans hr2) (by rcases hx01 with rfl | rfl <;> decide +kernel) (fun t ht hW => ⟨⟨ad, hext, rfl, by rw [ht]; exact hrep, fun u hu => by cases hu; trivial⟩, hS.F ht⟩) hS.2.2 hd hlk
set_option maxHeartbeats 1000000 in
theorem xs_lreturn  (hx : p.tables.exec = Jvm.exec) (hb : c0.code = (mt M).2.1) (hrt : meth.sig.returnType = (mt M).2.2.2.1) (hlk : meth.locks = false) (hR1 : ∀ v w, X (.inr (.inr (.inl (v, w)))) → v = v9 ∧ w = w9)  (ok : x_okr cl ct fk ty Ts Nw mt rc vt en M (pc, .lreturn, len, a, b, c, v, u)) (h : x_go X rc vt scr tx (.lreturn) a b c v u pc L st w) : x_WW cl ct fk D cA p l e R s m args below meth c0 A (mt M).2.2.1 ad0 w0 (MQ below (x_post cl ct fk D cA ad0 w0 v9 w9 A) args s (x_C w9 - x_C w0) (x_S w9 - x_S w0) A) pc L st w := by
  intro hg H locs ls ad hext hrep hS hl hws hwl
  have hd : decode (mt M).2.1 pc = .ok (.lreturn, len) := ok.1
  obtain ⟨rfl, hr2⟩ := ok.2
  obtain ⟨x, r, e9, h9⟩ := x_pL_of h
  subst e9
  replace h := h9
  obtain ⟨e9, h9⟩ := x_nil_of h
  subst e9
  replace h := h9
  obtain ⟨rfl, rfl⟩ := hR1 _ _ h
  exact W.lret (v := x) hx hb (hrt.trans hr2) (fun t ht hW => ⟨⟨ad, hext, rfl, by rw [ht]; exact hrep, fun u hu => by cases hu; trivial⟩, hS.F ht⟩) hS.2.2 hd hlk
set_option maxHeartbeats 1000000 in
theorem xs_areturn  (hx : p.tables.exec = Jvm.exec) (hb : c0.code = (mt M).2.1) (hrt : meth.sig.returnType = (mt M).2.2.2.1) (hlk : meth.locks = false) (hR1 : ∀ v w, X (.inr (.inr (.inl (v, w)))) → v = v9 ∧ w = w9)  (ok : x_okr cl ct fk ty Ts Nw mt rc vt en M (pc, .areturn, len, a, b, c, v, u)) (h : x_go X rc vt scr tx (.areturn) a b c v u pc L st w) : x_WW cl ct fk D cA p l e R s m args below meth c0 A (mt M).2.2.1 ad0 w0 (MQ below (x_post cl ct fk D cA ad0 w0 v9 w9 A) args s (x_C w9 - x_C w0) (x_S w9 - x_S w0) A) pc L st w := by
  intro hg H locs ls ad hext hrep hS hl hws hwl
  have hd : decode (mt M).2.1 pc = .ok (.areturn, len) := ok.1
  obtain ⟨rfl, C, hr2⟩ := ok.2
  obtain ⟨x, r, e9, h9⟩ := x_pR_of h
  subst e9
  replace h := h9
  obtain ⟨e9, h9⟩ := x_nil_of h
  subst e9
  replace h := h9
  obtain ⟨rfl, rfl⟩ := hR1 _ _ h
  exact W.aret (v := .ref (ad x)) hx hb (hrt.trans hr2) (Or.inl ⟨C, rfl⟩) (Or.inr ⟨_, rfl⟩) (fun t ht hW => ⟨⟨ad, hext, rfl, by rw [ht]; exact hrep, fun u hu => by cases hu; exact x_wh hws⟩, hS.F ht⟩) hS.2.2 hd hlk
set_option maxHeartbeats 1000000 in
theorem xs_return_  (hx : p.tables.exec = Jvm.exec) (hb : c0.code = (mt M).2.1) (hrt : meth.sig.returnType = (mt M).2.2.2.1) (hlk : meth.locks = false) (hR1 : ∀ v w, X (.inr (.inr (.inl (v, w)))) → v = v9 ∧ w = w9)  (ok : x_okr cl ct fk ty Ts Nw mt rc vt en M (pc, .return_, len, a, b, c, v, u)) (h : x_go X rc vt scr tx (.return_) a b c v u pc L st w) : x_WW cl ct fk D cA p l e R s m args below meth c0 A (mt M).2.2.1 ad0 w0 (MQ below (x_post cl ct fk D cA ad0 w0 v9 w9 A) args s (x_C w9 - x_C w0) (x_S w9 - x_S w0) A) pc L st w := by
  intro hg H locs ls ad hext hrep hS hl hws hwl
  have hd : decode (mt M).2.1 pc = .ok (.return_, len) := ok.1
  obtain ⟨rfl, hr2⟩ := ok.2
  obtain ⟨e9, h9⟩ := x_nil_of h
  subst e9
  replace h := h9
  obtain ⟨rfl, rfl⟩ := hR1 _ _ h
  exact W.vret hx hb (hrt.trans hr2) (fun t ht hW => ⟨⟨ad, hext, rfl, by rw [ht]; exact hrep, fun u hu => by cases hu⟩, hS.F ht⟩) hS.2.2 hd hlk
end X9
