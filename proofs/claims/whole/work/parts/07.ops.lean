/-! One step of the JVM for each row of code. -/
theorem x_wt1 {N : Nat} {a : Value} {r : List Value} (h : ∀ v ∈ a :: r, x_wf N v) : ∀ v ∈ r, x_wf N v := fun v hv => h v (List.mem_cons_of_mem _ hv)
theorem x_wh {N : Nat} {a : Value} {r : List Value} (h : ∀ v ∈ a :: r, x_wf N v) : x_wf N a := h a List.mem_cons_self
theorem x_wc {N : Nat} {a : Value} {r : List Value} (ha : x_wf N a) (h : ∀ v ∈ r, x_wf N v) : ∀ v ∈ a :: r, x_wf N v := fun v hv => by
  rcases List.mem_cons.mp hv with rfl | hv
  · exact ha
  · exact h v hv
theorem x_wl1 {N i : Nat} {L : xL} {v : Value} (ha : x_wf N v) (h : ∀ i v, x_at L i = some v → x_wf N v) : ∀ j u, x_at (x_st1 L i v) j = some u → x_wf N u := fun j u hu => by
  rcases x_at_st1 hu with ⟨rfl, rfl⟩ | ⟨h1, h2, h3⟩
  · exact ha
  · exact h j u h2
theorem x_wl2 {N i : Nat} {L : xL} {v : Value} (ha : x_wf N v) (h : ∀ i v, x_at L i = some v → x_wf N v) : ∀ j u, x_at (x_st2 L i v) j = some u → x_wf N u := fun j u hu => by
  rcases x_at_st2 hu with ⟨rfl, rfl⟩ | ⟨h1, h0, h2, h3⟩
  · exact ha
  · exact h j u h2
section X8
variable {cl : List vw_C} {ct : Nat → vw_C} {fk : Nat → Nat → Nat} {ty : Nat → Nat → FieldType} {Ts Nw : List Cond} {mt : Nat → xM} {en : Nat → String × String × String} {P : xP} {l : Launch} {D : va_G} {cA : Nat → ClassId} {scr : Nat × (Nat → Int32)} {rc : Nat → Nat} {vt : Nat → Nat × Nat × Nat × Nat} {tx : Nat → List Int32}
variable {p : Program} {e : Env} {R : Room} {s : State} {m : MethodId} {args : Array Value} {below : List Frame} {meth : Method} {c0 : Code} {A : Nat → Prop} {ad0 : Nat → Nat} {w0 w9 : xW} {v9 : Option Value} {X : xT → Prop} {M : Nat} {Q : State → Prop}
variable {pc len a b c : Nat} {v : Int32} {u : Int64} {L : xL} {st : List Value} {w : xW}

theorem xs_iadd  (hx : p.tables.exec = Jvm.exec) (hb : c0.code = (mt M).2.1) (hK1 : ∀ pc L st w, X (.inl (pc, L, st, w)) → x_gr w w9 ∧ x_WW cl ct fk D cA p l e R s m args below meth c0 A (mt M).2.2.1 ad0 w0 Q pc L st w)  (ok : x_okr cl ct fk ty Ts Nw mt rc vt en M (pc, .iadd, len, a, b, c, v, u)) (h : x_go X rc vt scr tx (.iadd) a b c v u pc L st w) : x_WW cl ct fk D cA p l e R s m args below meth c0 A (mt M).2.2.1 ad0 w0 Q pc L st w := by
  intro hg H locs ls ad hext hrep hS hl hws hwl
  have hd : decode (mt M).2.1 pc = .ok (.iadd, len) := ok.1
  obtain rfl : len = 1 := ok.2
  obtain ⟨y, r, rfl, h⟩ := x_pI_of h
  obtain ⟨x, r, rfl, h⟩ := x_pI_of h
  exact lv_iadd hx hb hd ((hK1 _ _ _ _ h).2 hg H locs ls ad hext hrep hS hl (x_wc trivial (x_wt1 (x_wt1 hws))) hwl)

theorem xs_isub  (hx : p.tables.exec = Jvm.exec) (hb : c0.code = (mt M).2.1) (hK1 : ∀ pc L st w, X (.inl (pc, L, st, w)) → x_gr w w9 ∧ x_WW cl ct fk D cA p l e R s m args below meth c0 A (mt M).2.2.1 ad0 w0 Q pc L st w)  (ok : x_okr cl ct fk ty Ts Nw mt rc vt en M (pc, .isub, len, a, b, c, v, u)) (h : x_go X rc vt scr tx (.isub) a b c v u pc L st w) : x_WW cl ct fk D cA p l e R s m args below meth c0 A (mt M).2.2.1 ad0 w0 Q pc L st w := by
  intro hg H locs ls ad hext hrep hS hl hws hwl
  have hd : decode (mt M).2.1 pc = .ok (.isub, len) := ok.1
  obtain rfl : len = 1 := ok.2
  obtain ⟨y, r, rfl, h⟩ := x_pI_of h
  obtain ⟨x, r, rfl, h⟩ := x_pI_of h
  exact lv_isub hx hb hd ((hK1 _ _ _ _ h).2 hg H locs ls ad hext hrep hS hl (x_wc trivial (x_wt1 (x_wt1 hws))) hwl)

theorem xs_imul  (hx : p.tables.exec = Jvm.exec) (hb : c0.code = (mt M).2.1) (hK1 : ∀ pc L st w, X (.inl (pc, L, st, w)) → x_gr w w9 ∧ x_WW cl ct fk D cA p l e R s m args below meth c0 A (mt M).2.2.1 ad0 w0 Q pc L st w)  (ok : x_okr cl ct fk ty Ts Nw mt rc vt en M (pc, .imul, len, a, b, c, v, u)) (h : x_go X rc vt scr tx (.imul) a b c v u pc L st w) : x_WW cl ct fk D cA p l e R s m args below meth c0 A (mt M).2.2.1 ad0 w0 Q pc L st w := by
  intro hg H locs ls ad hext hrep hS hl hws hwl
  have hd : decode (mt M).2.1 pc = .ok (.imul, len) := ok.1
  obtain rfl : len = 1 := ok.2
  obtain ⟨y, r, rfl, h⟩ := x_pI_of h
  obtain ⟨x, r, rfl, h⟩ := x_pI_of h
  exact lv_imul hx hb hd ((hK1 _ _ _ _ h).2 hg H locs ls ad hext hrep hS hl (x_wc trivial (x_wt1 (x_wt1 hws))) hwl)

theorem xs_iand  (hx : p.tables.exec = Jvm.exec) (hb : c0.code = (mt M).2.1) (hK1 : ∀ pc L st w, X (.inl (pc, L, st, w)) → x_gr w w9 ∧ x_WW cl ct fk D cA p l e R s m args below meth c0 A (mt M).2.2.1 ad0 w0 Q pc L st w)  (ok : x_okr cl ct fk ty Ts Nw mt rc vt en M (pc, .iand, len, a, b, c, v, u)) (h : x_go X rc vt scr tx (.iand) a b c v u pc L st w) : x_WW cl ct fk D cA p l e R s m args below meth c0 A (mt M).2.2.1 ad0 w0 Q pc L st w := by
  intro hg H locs ls ad hext hrep hS hl hws hwl
  have hd : decode (mt M).2.1 pc = .ok (.iand, len) := ok.1
  obtain rfl : len = 1 := ok.2
  obtain ⟨y, r, rfl, h⟩ := x_pI_of h
  obtain ⟨x, r, rfl, h⟩ := x_pI_of h
  exact lv_iand hx hb hd ((hK1 _ _ _ _ h).2 hg H locs ls ad hext hrep hS hl (x_wc trivial (x_wt1 (x_wt1 hws))) hwl)

theorem xs_ior  (hx : p.tables.exec = Jvm.exec) (hb : c0.code = (mt M).2.1) (hK1 : ∀ pc L st w, X (.inl (pc, L, st, w)) → x_gr w w9 ∧ x_WW cl ct fk D cA p l e R s m args below meth c0 A (mt M).2.2.1 ad0 w0 Q pc L st w)  (ok : x_okr cl ct fk ty Ts Nw mt rc vt en M (pc, .ior, len, a, b, c, v, u)) (h : x_go X rc vt scr tx (.ior) a b c v u pc L st w) : x_WW cl ct fk D cA p l e R s m args below meth c0 A (mt M).2.2.1 ad0 w0 Q pc L st w := by
  intro hg H locs ls ad hext hrep hS hl hws hwl
  have hd : decode (mt M).2.1 pc = .ok (.ior, len) := ok.1
  obtain rfl : len = 1 := ok.2
  obtain ⟨y, r, rfl, h⟩ := x_pI_of h
  obtain ⟨x, r, rfl, h⟩ := x_pI_of h
  exact lv_ior hx hb hd ((hK1 _ _ _ _ h).2 hg H locs ls ad hext hrep hS hl (x_wc trivial (x_wt1 (x_wt1 hws))) hwl)

theorem xs_ixor  (hx : p.tables.exec = Jvm.exec) (hb : c0.code = (mt M).2.1) (hK1 : ∀ pc L st w, X (.inl (pc, L, st, w)) → x_gr w w9 ∧ x_WW cl ct fk D cA p l e R s m args below meth c0 A (mt M).2.2.1 ad0 w0 Q pc L st w)  (ok : x_okr cl ct fk ty Ts Nw mt rc vt en M (pc, .ixor, len, a, b, c, v, u)) (h : x_go X rc vt scr tx (.ixor) a b c v u pc L st w) : x_WW cl ct fk D cA p l e R s m args below meth c0 A (mt M).2.2.1 ad0 w0 Q pc L st w := by
  intro hg H locs ls ad hext hrep hS hl hws hwl
  have hd : decode (mt M).2.1 pc = .ok (.ixor, len) := ok.1
  obtain rfl : len = 1 := ok.2
  obtain ⟨y, r, rfl, h⟩ := x_pI_of h
  obtain ⟨x, r, rfl, h⟩ := x_pI_of h
  exact lv_ixor hx hb hd ((hK1 _ _ _ _ h).2 hg H locs ls ad hext hrep hS hl (x_wc trivial (x_wt1 (x_wt1 hws))) hwl)

theorem xs_ishl  (hx : p.tables.exec = Jvm.exec) (hb : c0.code = (mt M).2.1) (hK1 : ∀ pc L st w, X (.inl (pc, L, st, w)) → x_gr w w9 ∧ x_WW cl ct fk D cA p l e R s m args below meth c0 A (mt M).2.2.1 ad0 w0 Q pc L st w)  (ok : x_okr cl ct fk ty Ts Nw mt rc vt en M (pc, .ishl, len, a, b, c, v, u)) (h : x_go X rc vt scr tx (.ishl) a b c v u pc L st w) : x_WW cl ct fk D cA p l e R s m args below meth c0 A (mt M).2.2.1 ad0 w0 Q pc L st w := by
  intro hg H locs ls ad hext hrep hS hl hws hwl
  have hd : decode (mt M).2.1 pc = .ok (.ishl, len) := ok.1
  obtain rfl : len = 1 := ok.2
  obtain ⟨y, r, rfl, h⟩ := x_pI_of h
  obtain ⟨x, r, rfl, h⟩ := x_pI_of h
  exact lv_ishl hx hb hd ((hK1 _ _ _ _ h).2 hg H locs ls ad hext hrep hS hl (x_wc trivial (x_wt1 (x_wt1 hws))) hwl)

theorem xs_iushr  (hx : p.tables.exec = Jvm.exec) (hb : c0.code = (mt M).2.1) (hK1 : ∀ pc L st w, X (.inl (pc, L, st, w)) → x_gr w w9 ∧ x_WW cl ct fk D cA p l e R s m args below meth c0 A (mt M).2.2.1 ad0 w0 Q pc L st w)  (ok : x_okr cl ct fk ty Ts Nw mt rc vt en M (pc, .iushr, len, a, b, c, v, u)) (h : x_go X rc vt scr tx (.iushr) a b c v u pc L st w) : x_WW cl ct fk D cA p l e R s m args below meth c0 A (mt M).2.2.1 ad0 w0 Q pc L st w := by
  intro hg H locs ls ad hext hrep hS hl hws hwl
  have hd : decode (mt M).2.1 pc = .ok (.iushr, len) := ok.1
  obtain rfl : len = 1 := ok.2
  obtain ⟨y, r, rfl, h⟩ := x_pI_of h
  obtain ⟨x, r, rfl, h⟩ := x_pI_of h
  exact lv_iushr hx hb hd rfl ((hK1 _ _ _ _ h).2 hg H locs ls ad hext hrep hS hl (x_wc trivial (x_wt1 (x_wt1 hws))) hwl)

theorem xs_idiv  (hx : p.tables.exec = Jvm.exec) (hb : c0.code = (mt M).2.1) (hK1 : ∀ pc L st w, X (.inl (pc, L, st, w)) → x_gr w w9 ∧ x_WW cl ct fk D cA p l e R s m args below meth c0 A (mt M).2.2.1 ad0 w0 Q pc L st w)  (ok : x_okr cl ct fk ty Ts Nw mt rc vt en M (pc, .idiv, len, a, b, c, v, u)) (h : x_go X rc vt scr tx (.idiv) a b c v u pc L st w) : x_WW cl ct fk D cA p l e R s m args below meth c0 A (mt M).2.2.1 ad0 w0 Q pc L st w := by
  intro hg H locs ls ad hext hrep hS hl hws hwl
  have hd : decode (mt M).2.1 pc = .ok (.idiv, len) := ok.1
  obtain rfl : len = 1 := ok.2
  obtain ⟨y, r, rfl, h⟩ := x_pI_of h
  obtain ⟨x, r, rfl, h⟩ := x_pI_of h
  obtain ⟨hy, h⟩ := h
  exact lv_idiv hx hb hd hy ((hK1 _ _ _ _ h).2 hg H locs ls ad hext hrep hS hl (x_wc trivial (x_wt1 (x_wt1 hws))) hwl)

theorem xs_irem  (hx : p.tables.exec = Jvm.exec) (hb : c0.code = (mt M).2.1) (hK1 : ∀ pc L st w, X (.inl (pc, L, st, w)) → x_gr w w9 ∧ x_WW cl ct fk D cA p l e R s m args below meth c0 A (mt M).2.2.1 ad0 w0 Q pc L st w)  (ok : x_okr cl ct fk ty Ts Nw mt rc vt en M (pc, .irem, len, a, b, c, v, u)) (h : x_go X rc vt scr tx (.irem) a b c v u pc L st w) : x_WW cl ct fk D cA p l e R s m args below meth c0 A (mt M).2.2.1 ad0 w0 Q pc L st w := by
  intro hg H locs ls ad hext hrep hS hl hws hwl
  have hd : decode (mt M).2.1 pc = .ok (.irem, len) := ok.1
  obtain rfl : len = 1 := ok.2
  obtain ⟨y, r, rfl, h⟩ := x_pI_of h
  obtain ⟨x, r, rfl, h⟩ := x_pI_of h
  obtain ⟨hy, h⟩ := h
  exact lv_irem hx hb hd hy ((hK1 _ _ _ _ h).2 hg H locs ls ad hext hrep hS hl (x_wc trivial (x_wt1 (x_wt1 hws))) hwl)

theorem xs_land  (hx : p.tables.exec = Jvm.exec) (hb : c0.code = (mt M).2.1) (hK1 : ∀ pc L st w, X (.inl (pc, L, st, w)) → x_gr w w9 ∧ x_WW cl ct fk D cA p l e R s m args below meth c0 A (mt M).2.2.1 ad0 w0 Q pc L st w)  (ok : x_okr cl ct fk ty Ts Nw mt rc vt en M (pc, .land, len, a, b, c, v, u)) (h : x_go X rc vt scr tx (.land) a b c v u pc L st w) : x_WW cl ct fk D cA p l e R s m args below meth c0 A (mt M).2.2.1 ad0 w0 Q pc L st w := by
  intro hg H locs ls ad hext hrep hS hl hws hwl
  have hd : decode (mt M).2.1 pc = .ok (.land, len) := ok.1
  obtain rfl : len = 1 := ok.2
  obtain ⟨y, r, rfl, h⟩ := x_pL_of h
  obtain ⟨x, r, rfl, h⟩ := x_pL_of h
  exact lv_land hx hb hd ((hK1 _ _ _ _ h).2 hg H locs ls ad hext hrep hS hl (x_wc trivial (x_wt1 (x_wt1 hws))) hwl)

theorem xs_lor  (hx : p.tables.exec = Jvm.exec) (hb : c0.code = (mt M).2.1) (hK1 : ∀ pc L st w, X (.inl (pc, L, st, w)) → x_gr w w9 ∧ x_WW cl ct fk D cA p l e R s m args below meth c0 A (mt M).2.2.1 ad0 w0 Q pc L st w)  (ok : x_okr cl ct fk ty Ts Nw mt rc vt en M (pc, .lor, len, a, b, c, v, u)) (h : x_go X rc vt scr tx (.lor) a b c v u pc L st w) : x_WW cl ct fk D cA p l e R s m args below meth c0 A (mt M).2.2.1 ad0 w0 Q pc L st w := by
  intro hg H locs ls ad hext hrep hS hl hws hwl
  have hd : decode (mt M).2.1 pc = .ok (.lor, len) := ok.1
  obtain rfl : len = 1 := ok.2
  obtain ⟨y, r, rfl, h⟩ := x_pL_of h
  obtain ⟨x, r, rfl, h⟩ := x_pL_of h
  exact lv_lor hx hb hd ((hK1 _ _ _ _ h).2 hg H locs ls ad hext hrep hS hl (x_wc trivial (x_wt1 (x_wt1 hws))) hwl)

theorem xs_lxor  (hx : p.tables.exec = Jvm.exec) (hb : c0.code = (mt M).2.1) (hK1 : ∀ pc L st w, X (.inl (pc, L, st, w)) → x_gr w w9 ∧ x_WW cl ct fk D cA p l e R s m args below meth c0 A (mt M).2.2.1 ad0 w0 Q pc L st w)  (ok : x_okr cl ct fk ty Ts Nw mt rc vt en M (pc, .lxor, len, a, b, c, v, u)) (h : x_go X rc vt scr tx (.lxor) a b c v u pc L st w) : x_WW cl ct fk D cA p l e R s m args below meth c0 A (mt M).2.2.1 ad0 w0 Q pc L st w := by
  intro hg H locs ls ad hext hrep hS hl hws hwl
  have hd : decode (mt M).2.1 pc = .ok (.lxor, len) := ok.1
  obtain rfl : len = 1 := ok.2
  obtain ⟨y, r, rfl, h⟩ := x_pL_of h
  obtain ⟨x, r, rfl, h⟩ := x_pL_of h
  exact lv_lxor hx hb hd ((hK1 _ _ _ _ h).2 hg H locs ls ad hext hrep hS hl (x_wc trivial (x_wt1 (x_wt1 hws))) hwl)

theorem xs_lshl  (hx : p.tables.exec = Jvm.exec) (hb : c0.code = (mt M).2.1) (hK1 : ∀ pc L st w, X (.inl (pc, L, st, w)) → x_gr w w9 ∧ x_WW cl ct fk D cA p l e R s m args below meth c0 A (mt M).2.2.1 ad0 w0 Q pc L st w)  (ok : x_okr cl ct fk ty Ts Nw mt rc vt en M (pc, .lshl, len, a, b, c, v, u)) (h : x_go X rc vt scr tx (.lshl) a b c v u pc L st w) : x_WW cl ct fk D cA p l e R s m args below meth c0 A (mt M).2.2.1 ad0 w0 Q pc L st w := by
  intro hg H locs ls ad hext hrep hS hl hws hwl
  have hd : decode (mt M).2.1 pc = .ok (.lshl, len) := ok.1
  obtain rfl : len = 1 := ok.2
  obtain ⟨y, r, rfl, h⟩ := x_pI_of h
  obtain ⟨x, r, rfl, h⟩ := x_pL_of h
  exact lv_lshl hx hb hd rfl ((hK1 _ _ _ _ h).2 hg H locs ls ad hext hrep hS hl (x_wc trivial (x_wt1 (x_wt1 hws))) hwl)

theorem xs_lshr  (hx : p.tables.exec = Jvm.exec) (hb : c0.code = (mt M).2.1) (hK1 : ∀ pc L st w, X (.inl (pc, L, st, w)) → x_gr w w9 ∧ x_WW cl ct fk D cA p l e R s m args below meth c0 A (mt M).2.2.1 ad0 w0 Q pc L st w)  (ok : x_okr cl ct fk ty Ts Nw mt rc vt en M (pc, .lshr, len, a, b, c, v, u)) (h : x_go X rc vt scr tx (.lshr) a b c v u pc L st w) : x_WW cl ct fk D cA p l e R s m args below meth c0 A (mt M).2.2.1 ad0 w0 Q pc L st w := by
  intro hg H locs ls ad hext hrep hS hl hws hwl
  have hd : decode (mt M).2.1 pc = .ok (.lshr, len) := ok.1
  obtain rfl : len = 1 := ok.2
  obtain ⟨y, r, rfl, h⟩ := x_pI_of h
  obtain ⟨x, r, rfl, h⟩ := x_pL_of h
  exact lv_lshr hx hb hd rfl ((hK1 _ _ _ _ h).2 hg H locs ls ad hext hrep hS hl (x_wc trivial (x_wt1 (x_wt1 hws))) hwl)

theorem xs_lushr  (hx : p.tables.exec = Jvm.exec) (hb : c0.code = (mt M).2.1) (hK1 : ∀ pc L st w, X (.inl (pc, L, st, w)) → x_gr w w9 ∧ x_WW cl ct fk D cA p l e R s m args below meth c0 A (mt M).2.2.1 ad0 w0 Q pc L st w)  (ok : x_okr cl ct fk ty Ts Nw mt rc vt en M (pc, .lushr, len, a, b, c, v, u)) (h : x_go X rc vt scr tx (.lushr) a b c v u pc L st w) : x_WW cl ct fk D cA p l e R s m args below meth c0 A (mt M).2.2.1 ad0 w0 Q pc L st w := by
  intro hg H locs ls ad hext hrep hS hl hws hwl
  have hd : decode (mt M).2.1 pc = .ok (.lushr, len) := ok.1
  obtain rfl : len = 1 := ok.2
  obtain ⟨y, r, rfl, h⟩ := x_pI_of h
  obtain ⟨x, r, rfl, h⟩ := x_pL_of h
  exact lv_lushr hx hb hd rfl ((hK1 _ _ _ _ h).2 hg H locs ls ad hext hrep hS hl (x_wc trivial (x_wt1 (x_wt1 hws))) hwl)

theorem xs_ineg  (hx : p.tables.exec = Jvm.exec) (hb : c0.code = (mt M).2.1) (hK1 : ∀ pc L st w, X (.inl (pc, L, st, w)) → x_gr w w9 ∧ x_WW cl ct fk D cA p l e R s m args below meth c0 A (mt M).2.2.1 ad0 w0 Q pc L st w)  (ok : x_okr cl ct fk ty Ts Nw mt rc vt en M (pc, .ineg, len, a, b, c, v, u)) (h : x_go X rc vt scr tx (.ineg) a b c v u pc L st w) : x_WW cl ct fk D cA p l e R s m args below meth c0 A (mt M).2.2.1 ad0 w0 Q pc L st w := by
  intro hg H locs ls ad hext hrep hS hl hws hwl
  have hd : decode (mt M).2.1 pc = .ok (.ineg, len) := ok.1
  obtain rfl : len = 1 := ok.2
  obtain ⟨x, r, rfl, h⟩ := x_pI_of h
  exact lv_ineg hx hb hd ((hK1 _ _ _ _ h).2 hg H locs ls ad hext hrep hS hl (x_wc trivial (x_wt1 hws)) hwl)

theorem xs_i2l  (hx : p.tables.exec = Jvm.exec) (hb : c0.code = (mt M).2.1) (hK1 : ∀ pc L st w, X (.inl (pc, L, st, w)) → x_gr w w9 ∧ x_WW cl ct fk D cA p l e R s m args below meth c0 A (mt M).2.2.1 ad0 w0 Q pc L st w)  (ok : x_okr cl ct fk ty Ts Nw mt rc vt en M (pc, .i2l, len, a, b, c, v, u)) (h : x_go X rc vt scr tx (.i2l) a b c v u pc L st w) : x_WW cl ct fk D cA p l e R s m args below meth c0 A (mt M).2.2.1 ad0 w0 Q pc L st w := by
  intro hg H locs ls ad hext hrep hS hl hws hwl
  have hd : decode (mt M).2.1 pc = .ok (.i2l, len) := ok.1
  obtain rfl : len = 1 := ok.2
  obtain ⟨x, r, rfl, h⟩ := x_pI_of h
  exact lv_i2l hx hb hd rfl ((hK1 _ _ _ _ h).2 hg H locs ls ad hext hrep hS hl (x_wc trivial (x_wt1 hws)) hwl)

theorem xs_l2i  (hx : p.tables.exec = Jvm.exec) (hb : c0.code = (mt M).2.1) (hK1 : ∀ pc L st w, X (.inl (pc, L, st, w)) → x_gr w w9 ∧ x_WW cl ct fk D cA p l e R s m args below meth c0 A (mt M).2.2.1 ad0 w0 Q pc L st w)  (ok : x_okr cl ct fk ty Ts Nw mt rc vt en M (pc, .l2i, len, a, b, c, v, u)) (h : x_go X rc vt scr tx (.l2i) a b c v u pc L st w) : x_WW cl ct fk D cA p l e R s m args below meth c0 A (mt M).2.2.1 ad0 w0 Q pc L st w := by
  intro hg H locs ls ad hext hrep hS hl hws hwl
  have hd : decode (mt M).2.1 pc = .ok (.l2i, len) := ok.1
  obtain rfl : len = 1 := ok.2
  obtain ⟨x, r, rfl, h⟩ := x_pL_of h
  exact lv_l2i hx hb hd rfl ((hK1 _ _ _ _ h).2 hg H locs ls ad hext hrep hS hl (x_wc trivial (x_wt1 hws)) hwl)

theorem xs_lcmp  (hx : p.tables.exec = Jvm.exec) (hb : c0.code = (mt M).2.1) (hK1 : ∀ pc L st w, X (.inl (pc, L, st, w)) → x_gr w w9 ∧ x_WW cl ct fk D cA p l e R s m args below meth c0 A (mt M).2.2.1 ad0 w0 Q pc L st w)  (ok : x_okr cl ct fk ty Ts Nw mt rc vt en M (pc, .lcmp, len, a, b, c, v, u)) (h : x_go X rc vt scr tx (.lcmp) a b c v u pc L st w) : x_WW cl ct fk D cA p l e R s m args below meth c0 A (mt M).2.2.1 ad0 w0 Q pc L st w := by
  intro hg H locs ls ad hext hrep hS hl hws hwl
  have hd : decode (mt M).2.1 pc = .ok (.lcmp, len) := ok.1
  obtain rfl : len = 1 := ok.2
  obtain ⟨y, r, rfl, h⟩ := x_pL_of h
  obtain ⟨x, r, rfl, h⟩ := x_pL_of h
  exact W.lcmp hx hb hd ((hK1 _ _ _ _ h).2 hg H locs ls ad hext hrep hS hl (x_wc trivial (x_wt1 (x_wt1 hws))) hwl)

theorem xs_iconst {n : Int} (hx : p.tables.exec = Jvm.exec) (hb : c0.code = (mt M).2.1) (hK1 : ∀ pc L st w, X (.inl (pc, L, st, w)) → x_gr w w9 ∧ x_WW cl ct fk D cA p l e R s m args below meth c0 A (mt M).2.2.1 ad0 w0 Q pc L st w)  (ok : x_okr cl ct fk ty Ts Nw mt rc vt en M (pc, .iconst n, len, a, b, c, v, u)) (h : x_go X rc vt scr tx (.iconst n) a b c v u pc L st w) : x_WW cl ct fk D cA p l e R s m args below meth c0 A (mt M).2.2.1 ad0 w0 Q pc L st w := by
  intro hg H locs ls ad hext hrep hS hl hws hwl
  have hd : decode (mt M).2.1 pc = .ok (.iconst n, len) := ok.1
  obtain ⟨rfl, hv⟩ := ok.2
  exact lv_iconst hx hb hd hv ((hK1 _ _ _ _ h).2 hg H locs ls ad hext hrep hS hl (x_wc trivial hws) hwl)

theorem xs_bipush {n : Int} (hx : p.tables.exec = Jvm.exec) (hb : c0.code = (mt M).2.1) (hK1 : ∀ pc L st w, X (.inl (pc, L, st, w)) → x_gr w w9 ∧ x_WW cl ct fk D cA p l e R s m args below meth c0 A (mt M).2.2.1 ad0 w0 Q pc L st w)  (ok : x_okr cl ct fk ty Ts Nw mt rc vt en M (pc, .bipush n, len, a, b, c, v, u)) (h : x_go X rc vt scr tx (.bipush n) a b c v u pc L st w) : x_WW cl ct fk D cA p l e R s m args below meth c0 A (mt M).2.2.1 ad0 w0 Q pc L st w := by
  intro hg H locs ls ad hext hrep hS hl hws hwl
  have hd : decode (mt M).2.1 pc = .ok (.bipush n, len) := ok.1
  obtain ⟨rfl, hv⟩ := ok.2
  exact lv_bipush hx hb hd hv ((hK1 _ _ _ _ h).2 hg H locs ls ad hext hrep hS hl (x_wc trivial hws) hwl)

theorem xs_sipush {n : Int} (hx : p.tables.exec = Jvm.exec) (hb : c0.code = (mt M).2.1) (hK1 : ∀ pc L st w, X (.inl (pc, L, st, w)) → x_gr w w9 ∧ x_WW cl ct fk D cA p l e R s m args below meth c0 A (mt M).2.2.1 ad0 w0 Q pc L st w)  (ok : x_okr cl ct fk ty Ts Nw mt rc vt en M (pc, .sipush n, len, a, b, c, v, u)) (h : x_go X rc vt scr tx (.sipush n) a b c v u pc L st w) : x_WW cl ct fk D cA p l e R s m args below meth c0 A (mt M).2.2.1 ad0 w0 Q pc L st w := by
  intro hg H locs ls ad hext hrep hS hl hws hwl
  have hd : decode (mt M).2.1 pc = .ok (.sipush n, len) := ok.1
  obtain ⟨rfl, hv⟩ := ok.2
  exact lv_sipush hx hb hd hv ((hK1 _ _ _ _ h).2 hg H locs ls ad hext hrep hS hl (x_wc trivial hws) hwl)

theorem xs_lconst {n : Fin 2} (hx : p.tables.exec = Jvm.exec) (hb : c0.code = (mt M).2.1) (hK1 : ∀ pc L st w, X (.inl (pc, L, st, w)) → x_gr w w9 ∧ x_WW cl ct fk D cA p l e R s m args below meth c0 A (mt M).2.2.1 ad0 w0 Q pc L st w)  (ok : x_okr cl ct fk ty Ts Nw mt rc vt en M (pc, .lconst n, len, a, b, c, v, u)) (h : x_go X rc vt scr tx (.lconst n) a b c v u pc L st w) : x_WW cl ct fk D cA p l e R s m args below meth c0 A (mt M).2.2.1 ad0 w0 Q pc L st w := by
  intro hg H locs ls ad hext hrep hS hl hws hwl
  have hd : decode (mt M).2.1 pc = .ok (.lconst n, len) := ok.1
  obtain ⟨rfl, hv⟩ := ok.2
  exact lv_lconst hx hb hd hv ((hK1 _ _ _ _ h).2 hg H locs ls ad hext hrep hS hl (x_wc trivial hws) hwl)

theorem xs_ldc {n : Nat} (hx : p.tables.exec = Jvm.exec) (hb : c0.code = (mt M).2.1) (hK1 : ∀ pc L st w, X (.inl (pc, L, st, w)) → x_gr w w9 ∧ x_WW cl ct fk D cA p l e R s m args below meth c0 A (mt M).2.2.1 ad0 w0 Q pc L st w) (hown : s.vm.findClass (mt M).2.2.2.2 = some m.cls) (hts : ∀ q ∈ Ts, q.before args s = true) (hcon : x_con en scr ad0 A s s.heap) (ok : x_okr cl ct fk ty Ts Nw mt rc vt en M (pc, .ldc n, len, a, b, c, v, u)) (h : x_go X rc vt scr tx (.ldc n) a b c v u pc L st w) : x_WW cl ct fk D cA p l e R s m args below meth c0 A (mt M).2.2.1 ad0 w0 Q pc L st w := by
  intro hg H locs ls ad hext hrep hS hl hws hwl
  have hd : decode (mt M).2.1 pc = .ok (.ldc n, len) := ok.1
  obtain ⟨rfl, ⟨rfl, hv⟩ | ⟨rfl, ho, hv⟩⟩ := ok.2
  · exact lv_ldc hx hb hown (hts _ hv) hd ((hK1 _ _ _ _ h).2 hg H locs ls ad hext hrep hS hl (x_wc trivial hws) hwl)
  · obtain ⟨-, u2, u3, -⟩ := hcon.2.2.2.2
    have ht : ∀ k, ad (x_tx + k) = ad0 (x_tx + k) := fun k => hext _ (Or.inr (by show 1000000 ≤ 1000010 + k; omega))
    have hk := (hK1 _ _ _ _ h).2 hg H locs ls ad hext hrep hS hl (x_wc (Or.inr (by show 1000000 ≤ 1000010 + a; omega)) hws) hwl
    rw [List.map_cons] at hk
    rcases hv with ⟨rfl, rfl⟩ | ⟨rfl, rfl⟩
    · refine va_ldcS (own := "StreamRefuter$Problem") (tx := "p") (q := ad0 (x_tx + 0)) hx hb (by rw [← ho]; exact hown) u2 hd ?_
      rw [← ht]; exact hk
    · refine va_ldcS (own := "StreamRefuter$Problem") (tx := "cnf") (q := ad0 (x_tx + 1)) hx hb (by rw [← ho]; exact hown) u3 hd ?_
      rw [← ht]; exact hk

theorem xs_ldc2 {n : Nat} (hx : p.tables.exec = Jvm.exec) (hb : c0.code = (mt M).2.1) (hK1 : ∀ pc L st w, X (.inl (pc, L, st, w)) → x_gr w w9 ∧ x_WW cl ct fk D cA p l e R s m args below meth c0 A (mt M).2.2.1 ad0 w0 Q pc L st w) (hown : s.vm.findClass (mt M).2.2.2.2 = some m.cls) (hts : ∀ q ∈ Ts, q.before args s = true) (ok : x_okr cl ct fk ty Ts Nw mt rc vt en M (pc, .ldc2_w n, len, a, b, c, v, u)) (h : x_go X rc vt scr tx (.ldc2_w n) a b c v u pc L st w) : x_WW cl ct fk D cA p l e R s m args below meth c0 A (mt M).2.2.1 ad0 w0 Q pc L st w := by
  intro hg H locs ls ad hext hrep hS hl hws hwl
  have hd : decode (mt M).2.1 pc = .ok (.ldc2_w n, len) := ok.1
  obtain ⟨rfl, hv⟩ := ok.2
  exact lv_ldc2 hx hb hown (hts _ hv) hd ((hK1 _ _ _ _ h).2 hg H locs ls ad hext hrep hS hl (x_wc trivial hws) hwl)

theorem xs_iload {n : Nat} (hx : p.tables.exec = Jvm.exec) (hb : c0.code = (mt M).2.1) (hK1 : ∀ pc L st w, X (.inl (pc, L, st, w)) → x_gr w w9 ∧ x_WW cl ct fk D cA p l e R s m args below meth c0 A (mt M).2.2.1 ad0 w0 Q pc L st w)  (ok : x_okr cl ct fk ty Ts Nw mt rc vt en M (pc, .iload n, len, a, b, c, v, u)) (h : x_go X rc vt scr tx (.iload n) a b c v u pc L st w) : x_WW cl ct fk D cA p l e R s m args below meth c0 A (mt M).2.2.1 ad0 w0 Q pc L st w := by
  intro hg H locs ls ad hext hrep hS hl hws hwl
  have hd : decode (mt M).2.1 pc = .ok (.iload n, len) := ok.1
  obtain rfl : len = 2 := ok.2
  obtain ⟨x, hx1, h⟩ := x_gI_of h
  exact lv_iload hx hb hd (hl.2.2 _ _ hx1) ((hK1 _ _ _ _ h).2 hg H locs ls ad hext hrep hS hl (x_wc (hwl _ _ hx1) hws) hwl)

theorem xs_iload_n {n : Fin 4} (hx : p.tables.exec = Jvm.exec) (hb : c0.code = (mt M).2.1) (hK1 : ∀ pc L st w, X (.inl (pc, L, st, w)) → x_gr w w9 ∧ x_WW cl ct fk D cA p l e R s m args below meth c0 A (mt M).2.2.1 ad0 w0 Q pc L st w)  (ok : x_okr cl ct fk ty Ts Nw mt rc vt en M (pc, .iload_n n, len, a, b, c, v, u)) (h : x_go X rc vt scr tx (.iload_n n) a b c v u pc L st w) : x_WW cl ct fk D cA p l e R s m args below meth c0 A (mt M).2.2.1 ad0 w0 Q pc L st w := by
  intro hg H locs ls ad hext hrep hS hl hws hwl
  have hd : decode (mt M).2.1 pc = .ok (.iload_n n, len) := ok.1
  obtain ⟨rfl, hn⟩ := ok.2
  obtain ⟨x, hx1, h⟩ := x_gI_of h
  exact lv_iload_n hx hb hd hn (hl.2.2 _ _ hx1) ((hK1 _ _ _ _ h).2 hg H locs ls ad hext hrep hS hl (x_wc (hwl _ _ hx1) hws) hwl)

theorem xs_lload {n : Nat} (hx : p.tables.exec = Jvm.exec) (hb : c0.code = (mt M).2.1) (hK1 : ∀ pc L st w, X (.inl (pc, L, st, w)) → x_gr w w9 ∧ x_WW cl ct fk D cA p l e R s m args below meth c0 A (mt M).2.2.1 ad0 w0 Q pc L st w)  (ok : x_okr cl ct fk ty Ts Nw mt rc vt en M (pc, .lload n, len, a, b, c, v, u)) (h : x_go X rc vt scr tx (.lload n) a b c v u pc L st w) : x_WW cl ct fk D cA p l e R s m args below meth c0 A (mt M).2.2.1 ad0 w0 Q pc L st w := by
  intro hg H locs ls ad hext hrep hS hl hws hwl
  have hd : decode (mt M).2.1 pc = .ok (.lload n, len) := ok.1
  obtain rfl : len = 2 := ok.2
  obtain ⟨x, hx1, h⟩ := x_gL_of h
  exact lv_lload hx hb hd (hl.2.2 _ _ hx1) ((hK1 _ _ _ _ h).2 hg H locs ls ad hext hrep hS hl (x_wc (hwl _ _ hx1) hws) hwl)

theorem xs_lload_n {n : Fin 4} (hx : p.tables.exec = Jvm.exec) (hb : c0.code = (mt M).2.1) (hK1 : ∀ pc L st w, X (.inl (pc, L, st, w)) → x_gr w w9 ∧ x_WW cl ct fk D cA p l e R s m args below meth c0 A (mt M).2.2.1 ad0 w0 Q pc L st w)  (ok : x_okr cl ct fk ty Ts Nw mt rc vt en M (pc, .lload_n n, len, a, b, c, v, u)) (h : x_go X rc vt scr tx (.lload_n n) a b c v u pc L st w) : x_WW cl ct fk D cA p l e R s m args below meth c0 A (mt M).2.2.1 ad0 w0 Q pc L st w := by
  intro hg H locs ls ad hext hrep hS hl hws hwl
  have hd : decode (mt M).2.1 pc = .ok (.lload_n n, len) := ok.1
  obtain ⟨rfl, hn⟩ := ok.2
  obtain ⟨x, hx1, h⟩ := x_gL_of h
  exact lv_lload_n hx hb hd hn (hl.2.2 _ _ hx1) ((hK1 _ _ _ _ h).2 hg H locs ls ad hext hrep hS hl (x_wc (hwl _ _ hx1) hws) hwl)

theorem xs_aload {n : Nat} (hx : p.tables.exec = Jvm.exec) (hb : c0.code = (mt M).2.1) (hK1 : ∀ pc L st w, X (.inl (pc, L, st, w)) → x_gr w w9 ∧ x_WW cl ct fk D cA p l e R s m args below meth c0 A (mt M).2.2.1 ad0 w0 Q pc L st w)  (ok : x_okr cl ct fk ty Ts Nw mt rc vt en M (pc, .aload n, len, a, b, c, v, u)) (h : x_go X rc vt scr tx (.aload n) a b c v u pc L st w) : x_WW cl ct fk D cA p l e R s m args below meth c0 A (mt M).2.2.1 ad0 w0 Q pc L st w := by
  intro hg H locs ls ad hext hrep hS hl hws hwl
  have hd : decode (mt M).2.1 pc = .ok (.aload n, len) := ok.1
  obtain rfl : len = 2 := ok.2
  obtain ⟨x, hx1, h⟩ := x_gR_of h
  exact lv_aload hx hb hd (hl.2.2 _ _ hx1) ((hK1 _ _ _ _ h).2 hg H locs ls ad hext hrep hS hl (x_wc (hwl _ _ hx1) hws) hwl)

theorem xs_aload_n {n : Fin 4} (hx : p.tables.exec = Jvm.exec) (hb : c0.code = (mt M).2.1) (hK1 : ∀ pc L st w, X (.inl (pc, L, st, w)) → x_gr w w9 ∧ x_WW cl ct fk D cA p l e R s m args below meth c0 A (mt M).2.2.1 ad0 w0 Q pc L st w)  (ok : x_okr cl ct fk ty Ts Nw mt rc vt en M (pc, .aload_n n, len, a, b, c, v, u)) (h : x_go X rc vt scr tx (.aload_n n) a b c v u pc L st w) : x_WW cl ct fk D cA p l e R s m args below meth c0 A (mt M).2.2.1 ad0 w0 Q pc L st w := by
  intro hg H locs ls ad hext hrep hS hl hws hwl
  have hd : decode (mt M).2.1 pc = .ok (.aload_n n, len) := ok.1
  obtain ⟨rfl, hn⟩ := ok.2
  obtain ⟨x, hx1, h⟩ := x_gR_of h
  exact lv_aload_n hx hb hd hn (hl.2.2 _ _ hx1) ((hK1 _ _ _ _ h).2 hg H locs ls ad hext hrep hS hl (x_wc (hwl _ _ hx1) hws) hwl)

theorem xs_istore {n : Nat} (hx : p.tables.exec = Jvm.exec) (hb : c0.code = (mt M).2.1) (hK1 : ∀ pc L st w, X (.inl (pc, L, st, w)) → x_gr w w9 ∧ x_WW cl ct fk D cA p l e R s m args below meth c0 A (mt M).2.2.1 ad0 w0 Q pc L st w)  (ok : x_okr cl ct fk ty Ts Nw mt rc vt en M (pc, .istore n, len, a, b, c, v, u)) (h : x_go X rc vt scr tx (.istore n) a b c v u pc L st w) : x_WW cl ct fk D cA p l e R s m args below meth c0 A (mt M).2.2.1 ad0 w0 Q pc L st w := by
  intro hg H locs ls ad hext hrep hS hl hws hwl
  have hd : decode (mt M).2.1 pc = .ok (.istore n, len) := ok.1
  obtain ⟨rfl, hn⟩ := ok.2
  obtain ⟨x, r, rfl, h⟩ := x_pI_of h
  exact lv_istore hx hb hd (x_lh_as hl) hn rfl (fun ls1 h1 => ((hK1 _ _ _ _ h).2 hg H locs ls1 ad hext hrep hS (x_lh_st1 (v := .int x) h1) (x_wt1 hws) (x_wl1 (x_wh hws) hwl)))

theorem xs_istore_n {n : Fin 4} (hx : p.tables.exec = Jvm.exec) (hb : c0.code = (mt M).2.1) (hK1 : ∀ pc L st w, X (.inl (pc, L, st, w)) → x_gr w w9 ∧ x_WW cl ct fk D cA p l e R s m args below meth c0 A (mt M).2.2.1 ad0 w0 Q pc L st w)  (ok : x_okr cl ct fk ty Ts Nw mt rc vt en M (pc, .istore_n n, len, a, b, c, v, u)) (h : x_go X rc vt scr tx (.istore_n n) a b c v u pc L st w) : x_WW cl ct fk D cA p l e R s m args below meth c0 A (mt M).2.2.1 ad0 w0 Q pc L st w := by
  intro hg H locs ls ad hext hrep hS hl hws hwl
  have hd : decode (mt M).2.1 pc = .ok (.istore_n n, len) := ok.1
  obtain ⟨rfl, hn, hn2⟩ := ok.2
  obtain ⟨x, r, rfl, h⟩ := x_pI_of h
  exact lv_istore_n hx hb hd hn (x_lh_as hl) hn2 rfl (fun ls1 h1 => ((hK1 _ _ _ _ h).2 hg H locs ls1 ad hext hrep hS (x_lh_st1 (v := .int x) h1) (x_wt1 hws) (x_wl1 (x_wh hws) hwl)))

theorem xs_astore {n : Nat} (hx : p.tables.exec = Jvm.exec) (hb : c0.code = (mt M).2.1) (hK1 : ∀ pc L st w, X (.inl (pc, L, st, w)) → x_gr w w9 ∧ x_WW cl ct fk D cA p l e R s m args below meth c0 A (mt M).2.2.1 ad0 w0 Q pc L st w)  (ok : x_okr cl ct fk ty Ts Nw mt rc vt en M (pc, .astore n, len, a, b, c, v, u)) (h : x_go X rc vt scr tx (.astore n) a b c v u pc L st w) : x_WW cl ct fk D cA p l e R s m args below meth c0 A (mt M).2.2.1 ad0 w0 Q pc L st w := by
  intro hg H locs ls ad hext hrep hS hl hws hwl
  have hd : decode (mt M).2.1 pc = .ok (.astore n, len) := ok.1
  obtain ⟨rfl, hn⟩ := ok.2
  obtain ⟨x, r, rfl, h⟩ := x_pR_of h
  exact lv_astore hx hb hd (x_lh_as hl) hn rfl (fun ls1 h1 => ((hK1 _ _ _ _ h).2 hg H locs ls1 ad hext hrep hS (x_lh_st1 (v := .ref x) h1) (x_wt1 hws) (x_wl1 (x_wh hws) hwl)))

theorem xs_astore_n {n : Fin 4} (hx : p.tables.exec = Jvm.exec) (hb : c0.code = (mt M).2.1) (hK1 : ∀ pc L st w, X (.inl (pc, L, st, w)) → x_gr w w9 ∧ x_WW cl ct fk D cA p l e R s m args below meth c0 A (mt M).2.2.1 ad0 w0 Q pc L st w)  (ok : x_okr cl ct fk ty Ts Nw mt rc vt en M (pc, .astore_n n, len, a, b, c, v, u)) (h : x_go X rc vt scr tx (.astore_n n) a b c v u pc L st w) : x_WW cl ct fk D cA p l e R s m args below meth c0 A (mt M).2.2.1 ad0 w0 Q pc L st w := by
  intro hg H locs ls ad hext hrep hS hl hws hwl
  have hd : decode (mt M).2.1 pc = .ok (.astore_n n, len) := ok.1
  obtain ⟨rfl, hn, hn2⟩ := ok.2
  obtain ⟨x, r, rfl, h⟩ := x_pR_of h
  exact lv_astore_n hx hb hd hn (x_lh_as hl) hn2 rfl (fun ls1 h1 => ((hK1 _ _ _ _ h).2 hg H locs ls1 ad hext hrep hS (x_lh_st1 (v := .ref x) h1) (x_wt1 hws) (x_wl1 (x_wh hws) hwl)))

theorem xs_lstore {n : Nat} (hx : p.tables.exec = Jvm.exec) (hb : c0.code = (mt M).2.1) (hK1 : ∀ pc L st w, X (.inl (pc, L, st, w)) → x_gr w w9 ∧ x_WW cl ct fk D cA p l e R s m args below meth c0 A (mt M).2.2.1 ad0 w0 Q pc L st w)  (ok : x_okr cl ct fk ty Ts Nw mt rc vt en M (pc, .lstore n, len, a, b, c, v, u)) (h : x_go X rc vt scr tx (.lstore n) a b c v u pc L st w) : x_WW cl ct fk D cA p l e R s m args below meth c0 A (mt M).2.2.1 ad0 w0 Q pc L st w := by
  intro hg H locs ls ad hext hrep hS hl hws hwl
  have hd : decode (mt M).2.1 pc = .ok (.lstore n, len) := ok.1
  obtain ⟨rfl, hn⟩ := ok.2
  obtain ⟨x, r, rfl, h⟩ := x_pL_of h
  exact lv_lstore hx hb hd (x_lh_as hl) hn rfl (fun ls1 h1 => ((hK1 _ _ _ _ h).2 hg H locs ls1 ad hext hrep hS (x_lh_st2 (v := .long x) h1) (x_wt1 hws) (x_wl2 (x_wh hws) hwl)))

theorem xs_lstore_n {n : Fin 4} (hx : p.tables.exec = Jvm.exec) (hb : c0.code = (mt M).2.1) (hK1 : ∀ pc L st w, X (.inl (pc, L, st, w)) → x_gr w w9 ∧ x_WW cl ct fk D cA p l e R s m args below meth c0 A (mt M).2.2.1 ad0 w0 Q pc L st w)  (ok : x_okr cl ct fk ty Ts Nw mt rc vt en M (pc, .lstore_n n, len, a, b, c, v, u)) (h : x_go X rc vt scr tx (.lstore_n n) a b c v u pc L st w) : x_WW cl ct fk D cA p l e R s m args below meth c0 A (mt M).2.2.1 ad0 w0 Q pc L st w := by
  intro hg H locs ls ad hext hrep hS hl hws hwl
  have hd : decode (mt M).2.1 pc = .ok (.lstore_n n, len) := ok.1
  obtain ⟨rfl, hn, hn2⟩ := ok.2
  obtain ⟨x, r, rfl, h⟩ := x_pL_of h
  exact lv_lstore_n hx hb hd hn (x_lh_as hl) hn2 rfl (fun ls1 h1 => ((hK1 _ _ _ _ h).2 hg H locs ls1 ad hext hrep hS (x_lh_st2 (v := .long x) h1) (x_wt1 hws) (x_wl2 (x_wh hws) hwl)))

theorem xs_iinc {n : Nat} {i : Int} (hx : p.tables.exec = Jvm.exec) (hb : c0.code = (mt M).2.1) (hK1 : ∀ pc L st w, X (.inl (pc, L, st, w)) → x_gr w w9 ∧ x_WW cl ct fk D cA p l e R s m args below meth c0 A (mt M).2.2.1 ad0 w0 Q pc L st w)  (ok : x_okr cl ct fk ty Ts Nw mt rc vt en M (pc, .iinc n i, len, a, b, c, v, u)) (h : x_go X rc vt scr tx (.iinc n i) a b c v u pc L st w) : x_WW cl ct fk D cA p l e R s m args below meth c0 A (mt M).2.2.1 ad0 w0 Q pc L st w := by
  intro hg H locs ls ad hext hrep hS hl hws hwl
  have hd : decode (mt M).2.1 pc = .ok (.iinc n i, len) := ok.1
  obtain ⟨rfl, hn, hv⟩ := ok.2
  obtain ⟨x, hx1, h⟩ := x_gI_of h
  obtain ⟨k, hk⟩ := List.getElem?_of_mem ((x_as_in (ad := ad) L 0 (n, .int x)).mpr ⟨n, .int x, hx1, by rw [Nat.zero_add]; rfl⟩)
  subst hv
  exact lv_iinc hx hb hd (x_lh_as hl) hk rfl hn rfl (fun ls1 h1 => ((hK1 _ _ _ _ h).2 hg H locs ls1 ad hext hrep hS (x_lh_st1 (v := .int (x + Int32.ofInt i)) h1) hws (x_wl1 trivial hwl)))

theorem xs_dup  (hx : p.tables.exec = Jvm.exec) (hb : c0.code = (mt M).2.1) (hK1 : ∀ pc L st w, X (.inl (pc, L, st, w)) → x_gr w w9 ∧ x_WW cl ct fk D cA p l e R s m args below meth c0 A (mt M).2.2.1 ad0 w0 Q pc L st w)  (ok : x_okr cl ct fk ty Ts Nw mt rc vt en M (pc, .dup, len, a, b, c, v, u)) (h : x_go X rc vt scr tx (.dup) a b c v u pc L st w) : x_WW cl ct fk D cA p l e R s m args below meth c0 A (mt M).2.2.1 ad0 w0 Q pc L st w := by
  intro hg H locs ls ad hext hrep hS hl hws hwl
  have hd : decode (mt M).2.1 pc = .ok (.dup, len) := ok.1
  obtain rfl : len = 1 := ok.2
  have h0 : x_pV st (fun x r => x_K X (pc + 1) L (x :: x :: r) w) := h
  obtain ⟨x, r, rfl, hc, h, -⟩ := x_pV_of h0
  exact lv_dup hx hb hd (by rw [x_cat_cv]; cases x <;> first | rfl | cases hc) ((hK1 _ _ _ _ h).2 hg H locs ls ad hext hrep hS hl (x_wc (x_wh hws) hws) hwl)

theorem xs_pop  (hx : p.tables.exec = Jvm.exec) (hb : c0.code = (mt M).2.1) (hK1 : ∀ pc L st w, X (.inl (pc, L, st, w)) → x_gr w w9 ∧ x_WW cl ct fk D cA p l e R s m args below meth c0 A (mt M).2.2.1 ad0 w0 Q pc L st w)  (ok : x_okr cl ct fk ty Ts Nw mt rc vt en M (pc, .pop, len, a, b, c, v, u)) (h : x_go X rc vt scr tx (.pop) a b c v u pc L st w) : x_WW cl ct fk D cA p l e R s m args below meth c0 A (mt M).2.2.1 ad0 w0 Q pc L st w := by
  intro hg H locs ls ad hext hrep hS hl hws hwl
  have hd : decode (mt M).2.1 pc = .ok (.pop, len) := ok.1
  obtain rfl : len = 1 := ok.2
  have h0 : x_pV st (fun _ r => x_K X (pc + 1) L r w) := h
  obtain ⟨x, r, rfl, hc, h, -⟩ := x_pV_of h0
  exact lv_pop hx hb hd (by rw [x_cat_cv]; cases x <;> first | rfl | cases hc) ((hK1 _ _ _ _ h).2 hg H locs ls ad hext hrep hS hl (x_wt1 hws) hwl)

theorem xs_dup2  (hx : p.tables.exec = Jvm.exec) (hb : c0.code = (mt M).2.1) (hK1 : ∀ pc L st w, X (.inl (pc, L, st, w)) → x_gr w w9 ∧ x_WW cl ct fk D cA p l e R s m args below meth c0 A (mt M).2.2.1 ad0 w0 Q pc L st w)  (ok : x_okr cl ct fk ty Ts Nw mt rc vt en M (pc, .dup2, len, a, b, c, v, u)) (h : x_go X rc vt scr tx (.dup2) a b c v u pc L st w) : x_WW cl ct fk D cA p l e R s m args below meth c0 A (mt M).2.2.1 ad0 w0 Q pc L st w := by
  intro hg H locs ls ad hext hrep hS hl hws hwl
  have hd : decode (mt M).2.1 pc = .ok (.dup2, len) := ok.1
  obtain rfl : len = 1 := ok.2
  obtain ⟨y, r, rfl, h⟩ := x_pI_of h
  obtain ⟨x, r, rfl, h⟩ := x_pR_of h
  exact lv_dup2_11 hx hb hd rfl rfl ((hK1 _ _ _ _ h).2 hg H locs ls ad hext hrep hS hl (x_wc trivial (x_wc (x_wh (x_wt1 hws)) hws)) hwl)

theorem xs_ifCond {cd : ClassFile.Cond} {off : Int} (hx : p.tables.exec = Jvm.exec) (hb : c0.code = (mt M).2.1) (hK1 : ∀ pc L st w, X (.inl (pc, L, st, w)) → x_gr w w9 ∧ x_WW cl ct fk D cA p l e R s m args below meth c0 A (mt M).2.2.1 ad0 w0 Q pc L st w)  (ok : x_okr cl ct fk ty Ts Nw mt rc vt en M (pc, .ifCond cd off, len, a, b, c, v, u)) (h : x_go X rc vt scr tx (.ifCond cd off) a b c v u pc L st w) : x_WW cl ct fk D cA p l e R s m args below meth c0 A (mt M).2.2.1 ad0 w0 Q pc L st w := by
  intro hg H locs ls ad hext hrep hS hl hws hwl
  have hd : decode (mt M).2.1 pc = .ok (.ifCond cd off, len) := ok.1
  obtain ⟨rfl, ht⟩ := ok.2
  obtain ⟨x, r, rfl, h⟩ := x_pI_of h
  obtain ⟨h1, h2⟩ := h
  cases cd
  · exact lv_if_eq hx hb hd ht (fun q => ((hK1 _ _ _ _ (h1 q)).2 hg H locs ls ad hext hrep hS hl (x_wt1 hws) hwl)) (fun q => ((hK1 _ _ _ _ (h2 q)).2 hg H locs ls ad hext hrep hS hl (x_wt1 hws) hwl))
  · exact lv_if_ne hx hb hd ht (fun q => ((hK1 _ _ _ _ (h1 q)).2 hg H locs ls ad hext hrep hS hl (x_wt1 hws) hwl)) (fun q => ((hK1 _ _ _ _ (h2 (fun z => z q))).2 hg H locs ls ad hext hrep hS hl (x_wt1 hws) hwl))
  · exact lv_if_lt hx hb hd ht (fun q => ((hK1 _ _ _ _ (h1 q)).2 hg H locs ls ad hext hrep hS hl (x_wt1 hws) hwl)) (fun q => ((hK1 _ _ _ _ (h2 q)).2 hg H locs ls ad hext hrep hS hl (x_wt1 hws) hwl))
  · exact lv_if_ge hx hb hd ht (fun q => ((hK1 _ _ _ _ (h1 q)).2 hg H locs ls ad hext hrep hS hl (x_wt1 hws) hwl)) (fun q => ((hK1 _ _ _ _ (h2 q)).2 hg H locs ls ad hext hrep hS hl (x_wt1 hws) hwl))
  · exact lv_if_gt hx hb hd ht (fun q => ((hK1 _ _ _ _ (h1 q)).2 hg H locs ls ad hext hrep hS hl (x_wt1 hws) hwl)) (fun q => ((hK1 _ _ _ _ (h2 q)).2 hg H locs ls ad hext hrep hS hl (x_wt1 hws) hwl))
  · exact lv_if_le hx hb hd ht (fun q => ((hK1 _ _ _ _ (h1 q)).2 hg H locs ls ad hext hrep hS hl (x_wt1 hws) hwl)) (fun q => ((hK1 _ _ _ _ (h2 q)).2 hg H locs ls ad hext hrep hS hl (x_wt1 hws) hwl))

theorem xs_if_icmp {cd : ClassFile.Cond} {off : Int} (hx : p.tables.exec = Jvm.exec) (hb : c0.code = (mt M).2.1) (hK1 : ∀ pc L st w, X (.inl (pc, L, st, w)) → x_gr w w9 ∧ x_WW cl ct fk D cA p l e R s m args below meth c0 A (mt M).2.2.1 ad0 w0 Q pc L st w)  (ok : x_okr cl ct fk ty Ts Nw mt rc vt en M (pc, .if_icmp cd off, len, a, b, c, v, u)) (h : x_go X rc vt scr tx (.if_icmp cd off) a b c v u pc L st w) : x_WW cl ct fk D cA p l e R s m args below meth c0 A (mt M).2.2.1 ad0 w0 Q pc L st w := by
  intro hg H locs ls ad hext hrep hS hl hws hwl
  have hd : decode (mt M).2.1 pc = .ok (.if_icmp cd off, len) := ok.1
  obtain ⟨rfl, ht⟩ := ok.2
  obtain ⟨y, r, rfl, h⟩ := x_pI_of h
  obtain ⟨x, r, rfl, h⟩ := x_pI_of h
  obtain ⟨h1, h2⟩ := h
  cases cd
  · exact lv_icmp_eq hx hb hd ht (fun q => ((hK1 _ _ _ _ (h1 q)).2 hg H locs ls ad hext hrep hS hl (x_wt1 (x_wt1 hws)) hwl)) (fun q => ((hK1 _ _ _ _ (h2 q)).2 hg H locs ls ad hext hrep hS hl (x_wt1 (x_wt1 hws)) hwl))
  · exact lv_icmp_ne hx hb hd ht (fun q => ((hK1 _ _ _ _ (h1 q)).2 hg H locs ls ad hext hrep hS hl (x_wt1 (x_wt1 hws)) hwl)) (fun q => ((hK1 _ _ _ _ (h2 (fun z => z q))).2 hg H locs ls ad hext hrep hS hl (x_wt1 (x_wt1 hws)) hwl))
  · exact lv_icmp_lt hx hb hd ht (fun q => ((hK1 _ _ _ _ (h1 q)).2 hg H locs ls ad hext hrep hS hl (x_wt1 (x_wt1 hws)) hwl)) (fun q => ((hK1 _ _ _ _ (h2 q)).2 hg H locs ls ad hext hrep hS hl (x_wt1 (x_wt1 hws)) hwl))
  · exact lv_icmp_ge hx hb hd ht (fun q => ((hK1 _ _ _ _ (h1 q)).2 hg H locs ls ad hext hrep hS hl (x_wt1 (x_wt1 hws)) hwl)) (fun q => ((hK1 _ _ _ _ (h2 q)).2 hg H locs ls ad hext hrep hS hl (x_wt1 (x_wt1 hws)) hwl))
  · exact lv_icmp_gt hx hb hd ht (fun q => ((hK1 _ _ _ _ (h1 q)).2 hg H locs ls ad hext hrep hS hl (x_wt1 (x_wt1 hws)) hwl)) (fun q => ((hK1 _ _ _ _ (h2 q)).2 hg H locs ls ad hext hrep hS hl (x_wt1 (x_wt1 hws)) hwl))
  · exact lv_icmp_le hx hb hd ht (fun q => ((hK1 _ _ _ _ (h1 q)).2 hg H locs ls ad hext hrep hS hl (x_wt1 (x_wt1 hws)) hwl)) (fun q => ((hK1 _ _ _ _ (h2 q)).2 hg H locs ls ad hext hrep hS hl (x_wt1 (x_wt1 hws)) hwl))

theorem xs_goto {off : Int} (hx : p.tables.exec = Jvm.exec) (hb : c0.code = (mt M).2.1) (hK1 : ∀ pc L st w, X (.inl (pc, L, st, w)) → x_gr w w9 ∧ x_WW cl ct fk D cA p l e R s m args below meth c0 A (mt M).2.2.1 ad0 w0 Q pc L st w)  (ok : x_okr cl ct fk ty Ts Nw mt rc vt en M (pc, .goto off, len, a, b, c, v, u)) (h : x_go X rc vt scr tx (.goto off) a b c v u pc L st w) : x_WW cl ct fk D cA p l e R s m args below meth c0 A (mt M).2.2.1 ad0 w0 Q pc L st w := by
  intro hg H locs ls ad hext hrep hS hl hws hwl
  have hd : decode (mt M).2.1 pc = .ok (.goto off, len) := ok.1
  obtain ⟨rfl, ht⟩ := ok.2
  exact lv_goto hx hb hd ht ((hK1 _ _ _ _ h).2 hg H locs ls ad hext hrep hS hl hws hwl)

end X8
