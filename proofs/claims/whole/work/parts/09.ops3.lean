/-! One step of the JVM for each row of code: new cells, calls, ends. -/
section X8
variable {cl : List vw_C} {ct : Nat → vw_C} {fk : Nat → Nat → Nat} {ty : Nat → Nat → FieldType} {Ts Nw : List Cond} {mt : Nat → xM} {en : Nat → String × String × String} {P : xP} {l : Launch} {D : va_G} {cA : Nat → ClassId} {scr : Nat × (Nat → Int32)} {rc : Nat → Nat} {vt : Nat → Nat × Nat × Nat × Nat} {tx : Nat → List Int32}
variable {p : Program} {e : Env} {R : Room} {s : State} {m : MethodId} {args : Array Value} {below : List Frame} {meth : Method} {c0 : Code} {A : Nat → Prop} {ad0 : Nat → Nat} {w0 w9 : xW} {v9 : Option Value} {X : xT → Prop} {M : Nat} {Q : State → Prop}
variable {pc len a b c : Nat} {v : Int32} {u : Int64} {L : xL} {st : List Value} {w : xW}


set_option maxHeartbeats 1000000 in
theorem xs_new {i : Nat} (hx : p.tables.exec = Jvm.exec) (hb : c0.code = (mt M).2.1) (hK1 : ∀ pc L st w, X (.inl (pc, L, st, w)) → x_gr w w9 ∧ x_WW cl ct fk D cA p l e R s m args below meth c0 A (mt M).2.2.1 ad0 w0 Q pc L st w) (hown : s.vm.findClass (mt M).2.2.2.2 = some m.cls) (hts : ∀ q ∈ Ts, q.before args s = true) (hK : va_K D cl (x_tys cA) s) (hA : ∀ q, s.heap.size ≤ q → A q) (hR : P.2.1 M + 2 ≤ R.frames ∧ 33 * P.2.1 M + 100 ≤ R.locals ∧ x_C w9 - x_C w0 ≤ R.cells ∧ x_S w9 - x_S w0 ≤ R.slots) (hT1 : ¬ c = 0 → st = [] → X (.inr (.inr (.inr (a, x_lost w 6)))) → x_WW cl ct fk D cA p l e R s m args below meth c0 A (mt M).2.2.1 ad0 w0 Q pc L st w) (ok : x_okr cl ct fk ty Ts Nw mt rc vt en M (pc, .new i, len, a, b, c, v, u)) (h : x_go X rc vt scr tx (.new i) a b c v u pc L st w) : x_WW cl ct fk D cA p l e R s m args below meth c0 A (mt M).2.2.1 ad0 w0 Q pc L st w := by
  intro hg H locs ls ad hext hrep hS hl hws hwl
  have hd : decode (mt M).2.1 pc = .ok (.new i, len) := ok.1
  obtain ⟨rfl, ok2⟩ := ok.2
  rcases x_sw_of h with ⟨hc, hN, h⟩ | ⟨hc, h⟩
  · obtain ⟨hcf, rfl, o1, o2, o3⟩ := ok2 hc
    obtain ⟨h1, h2, h3, h4, h5, h6⟩ := hcf
    have hgr := (hK1 _ _ _ _ h).1
    have g1 : x_C w + 1 ≤ x_C w9 := hgr.2.1
    have g2 : x_S w + (ct a).2.2 ≤ x_S w9 := hgr.2.2
    have g3 := hg.2.1
    have g4 := hg.2.2
    have hfs : ∀ j, j < (ct a).2.2 → defaultValue (ty a j) = vp_V ((List.range (ct a).2.2).map (x_fv fk ad (x_new w (a + 3) (ct a).2.2 (ct a).2.2) (x_N w) a)) j := by
      intro j hj
      have e1 : vp_V ((List.range (ct a).2.2).map (x_fv fk ad (x_new w (a + 3) (ct a).2.2 (ct a).2.2) (x_N w) a)) j = x_fv fk ad (x_new w (a + 3) (ct a).2.2 (ct a).2.2) (x_N w) a j := by
        unfold vp_V
        rw [List.getD_eq_getElem?_getD, x_fv_at hj]
        rfl
      rw [e1]
      unfold x_fv
      have z1 : x_i (x_new w (a + 3) (ct a).2.2 (ct a).2.2) (x_N w) j = 0 := by simp [x_i, x_new, x_row]
      have z2 : x_j (x_new w (a + 3) (ct a).2.2 (ct a).2.2) (x_N w) j = 0 := by simp [x_j, x_new, x_row]
      have z3 : x_r (x_new w (a + 3) (ct a).2.2 (ct a).2.2) (x_N w) j = 0 := by simp [x_r, x_new, x_row]
      rcases h6 j hj with ⟨q1, q2 | q2⟩ | ⟨q1, q2⟩ | ⟨q1, ⟨C, q2⟩ | ⟨t, q2⟩⟩
      · rw [q1, q2, z1]; rfl
      · rw [q1, q2, z1]; rfl
      · rw [q1, q2, z2]; rfl
      · rw [q1, q2, z3]; rfl
      · rw [q1, q2, z3]; rfl
    refine va_new (ci := a) (C := (ct a).1) (T := (ct a).2.1) (N := (ct a).2.2) hx hb hts h3 (ty a) h4 hown (hts _ o1) (hts _ o2) (hts _ o3) hK hrep.1 hrep.2.1 hS hA h1 hfs (Nat.le_trans (by omega) hR.2.2.1) (Nat.le_trans (by omega) hR.2.2.2) hd (fun q H1 hP hD hS1 => ?_)
    have hkN : x_k (x_new w (a + 3) (ct a).2.2 (ct a).2.2) (x_N w) = a + 3 := by simp [x_k, x_new, x_row]
    have hrep1 := x_made (kind := a + 3) (len := (ct a).2.2) (n := (ct a).2.2) (q := q) hN hrep (x := .inr (a, (List.range (ct a).2.2).map (x_fv fk ad (x_new w (a + 3) (ct a).2.2 (ct a).2.2) (x_N w) a))) (by
      rw [x_ce_obj hkN]
      congr 2
      apply List.map_congr_left
      intro j hj
      unfold x_fv
      have z3 : x_r (x_new w (a + 3) (ct a).2.2 (ct a).2.2) (x_N w) j = 0 := by simp [x_r, x_new, x_row]
      rw [z3]; rfl) hP hD
    have hx1 : x_ext (x_N w) ad (x_adN ad (x_N w) q) := x_adN_ext hN
    have hw1 : ∀ v ∈ st, x_wf (x_N w + 1) v := fun v hv => x_wf_le (Nat.le_succ _) (hws v hv)
    refine W.cs (cells' := x_C (x_new w (a + 3) (ct a).2.2 (ct a).2.2) - x_C w0) (slots' := x_S (x_new w (a + 3) (ct a).2.2 (ct a).2.2) - x_S w0) (by show _ = x_C w + 1 - x_C w0; omega) (by show _ = x_S w + (ct a).2.2 - x_S w0; omega) ?_
    have k1 := (hK1 _ _ _ _ h).2 (x_gr_tr hg ⟨Nat.le_succ _, Nat.le_succ _, Nat.le_add_right _ _⟩) H1 locs ls (x_adN ad (x_N w) q) (x_ext_tr hg.1 hext hx1) hrep1 hS1 (x_lh_ext hx1 hl hwl) (x_wc (Or.inl (Nat.lt_succ_self _)) hw1) (fun i v hv => x_wf_le (Nat.le_succ _) (hwl i v hv))
    rw [List.map_cons, x_st_ext hx1 hws] at k1
    have e2 : x_cv (x_adN ad (x_N w) q) (.ref (x_N w)) = .ref q := by show Value.ref _ = _; rw [x_adN_s]
    rw [e2] at k1
    exact k1
  · obtain ⟨hnil, h⟩ := x_nil_of h
    exact hT1 hc hnil h hg H locs ls ad hext hrep hS hl hws hwl

set_option maxHeartbeats 1000000 in
theorem xs_newarray {t : ArrayType} (hx : p.tables.exec = Jvm.exec) (hb : c0.code = (mt M).2.1) (hK1 : ∀ pc L st w, X (.inl (pc, L, st, w)) → x_gr w w9 ∧ x_WW cl ct fk D cA p l e R s m args below meth c0 A (mt M).2.2.1 ad0 w0 Q pc L st w) (hown : s.vm.findClass (mt M).2.2.2.2 = some m.cls) (hts : ∀ q ∈ Ts, q.before args s = true) (hK : va_K D cl (x_tys cA) s) (hA : ∀ q, s.heap.size ≤ q → A q) (hR : P.2.1 M + 2 ≤ R.frames ∧ 33 * P.2.1 M + 100 ≤ R.locals ∧ x_C w9 - x_C w0 ≤ R.cells ∧ x_S w9 - x_S w0 ≤ R.slots) (ok : x_okr cl ct fk ty Ts Nw mt rc vt en M (pc, .newarray t, len, a, b, c, v, u)) (h : x_go X rc vt scr tx (.newarray t) a b c v u pc L st w) : x_WW cl ct fk D cA p l e R s m args below meth c0 A (mt M).2.2.1 ad0 w0 Q pc L st w := by
  intro hg H locs ls ad hext hrep hS hl hws hwl
  have hd : decode (mt M).2.1 pc = .ok (.newarray t, len) := ok.1
  obtain ⟨rfl, o1, o2⟩ := ok.2
  obtain ⟨x, r, e9, h9⟩ := x_pI_of h
  subst e9
  replace h := h9
  obtain ⟨⟨hx0, hx1, hN⟩, h⟩ := h
  have hgr := (hK1 _ _ _ _ h).1
  have g1 : x_C w + 1 ≤ x_C w9 := hgr.2.1
  have g2 : x_S w + x.toNatClampNeg ≤ x_S w9 := hgr.2.2
  have g3 := hg.2.1
  have g4 := hg.2.2
  have hlen : x.toNatClampNeg ≤ 20000 := by
    have h0 : x.toInt ≤ (20000 : Int32).toInt := Int32.le_iff_toInt_le.mp hx1
    have h1 : (20000 : Int32).toInt = 20000 := by decide +kernel
    unfold Int32.toNatClampNeg
    omega
  have main : ∀ (ft : FieldType) (a0 : vp_A) (hft : newarray.typeOf t = ft) (ha0 : ∀ cN : ClassId, vp_cell cN a0 = arrV cN x.toNatClampNeg (fun _ => defaultValue ft)) (hkk : (x_tys cA)[a]? = some (cA a, ft)) (hno : ∀ C, ¬ ft = .object C) (hbyt : componentBytes ft ≤ 8)
      (hce : ∀ ad', x_ce cA (fun a => (ct a).2.2) fk ad' (x_new w a x.toNatClampNeg x.toNatClampNeg) (x_N w) = .inl (cA a, a0)),
      W p l e R s m args below meth c0 H locs (x_C w - x_C w0) (x_S w - x_S w0) Q (F0 m pc ls (.int x :: r.map (x_cv ad))) := by
    intro ft a0 hft ha0 hkk hno hbyt hce
    refine va_newa hx hb (hts _ o1) hft hK hrep.1 hrep.2.1 hS hA ha0 hx0 rfl (by
      have : x.toNatClampNeg * componentBytes ft ≤ 20000 * 8 := Nat.mul_le_mul hlen hbyt
      omega) (Nat.le_trans (by omega) hR.2.2.1) (Nat.le_trans (by omega) hR.2.2.2) hd (fun q cN H1 hK2 hP hD hS1 => ?_)
    obtain rfl : cN = cA a := x_kA hK hK2 hkk hno
    have hrep1 := x_made (kind := a) (len := x.toNatClampNeg) (n := x.toNatClampNeg) (q := q) hN hrep (hce _) hP hD
    have hx1 : x_ext (x_N w) ad (x_adN ad (x_N w) q) := x_adN_ext hN
    have hw1 : ∀ v ∈ r, x_wf (x_N w + 1) v := fun v hv => x_wf_le (Nat.le_succ _) (x_wt1 hws v hv)
    refine W.cs (cells' := x_C (x_new w a x.toNatClampNeg x.toNatClampNeg) - x_C w0) (slots' := x_S (x_new w a x.toNatClampNeg x.toNatClampNeg) - x_S w0) (by show _ = x_C w + 1 - x_C w0; omega) (by show _ = x_S w + x.toNatClampNeg - x_S w0; omega) ?_
    have k1 := (hK1 _ _ _ _ h).2 (x_gr_tr hg ⟨Nat.le_succ _, Nat.le_succ _, Nat.le_add_right _ _⟩) H1 locs ls (x_adN ad (x_N w) q) (x_ext_tr hg.1 hext hx1) hrep1 hS1 (x_lh_ext hx1 hl hwl) (x_wc (Or.inl (Nat.lt_succ_self _)) hw1) (fun i v hv => x_wf_le (Nat.le_succ _) (hwl i v hv))
    rw [List.map_cons, x_st_ext hx1 (x_wt1 hws)] at k1
    have e2 : x_cv (x_adN ad (x_N w) q) (.ref (x_N w)) = .ref q := by show Value.ref _ = _; rw [x_adN_s]
    rw [e2] at k1
    exact k1
  have zl : x_l (x_new w a x.toNatClampNeg x.toNatClampNeg) (x_N w) = x.toNatClampNeg := by simp [x_l, x_new, x_row]
  have zi : x_i (x_new w a x.toNatClampNeg x.toNatClampNeg) (x_N w) = fun _ => 0 := by simp [x_i, x_new, x_row]
  have zj : x_j (x_new w a x.toNatClampNeg x.toNatClampNeg) (x_N w) = fun _ => 0 := by simp [x_j, x_new, x_row]
  have zk : x_k (x_new w a x.toNatClampNeg x.toNatClampNeg) (x_N w) = a := by simp [x_k, x_new, x_row]
  rcases o2 with ⟨rfl, rfl⟩ | ⟨rfl, rfl⟩ | ⟨rfl, rfl⟩
  · exact main .int (x.toNatClampNeg, .inl (fun _ => 0)) rfl (fun _ => rfl) rfl (fun _ q => by cases q) (by decide) (fun ad' => by rw [x_ce_0 zk, zl, zi])
  · exact main .boolean (x.toNatClampNeg, .inl (fun _ => 0)) rfl (fun _ => rfl) rfl (fun _ q => by cases q) (by decide) (fun ad' => by rw [x_ce_1 zk, zl, zi])
  · exact main .long (x.toNatClampNeg, .inr (.inl (fun _ => 0))) rfl (fun _ => rfl) rfl (fun _ q => by cases q) (by decide) (fun ad' => by rw [x_ce_2 zk, zl, zj])

end X8
