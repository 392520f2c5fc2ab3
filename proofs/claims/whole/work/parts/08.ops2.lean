/-! One step of the JVM for each row of code: cells, calls, ends. -/
theorem x_fv_0 {fk : Nat → Nat → Nat} {ad : Nat → Nat} {w : xW} {o a b : Nat} (h : fk a b = 0) : x_fv fk ad w o a b = .int (x_i w o b) := by unfold x_fv; rw [h]
theorem x_fv_1 {fk : Nat → Nat → Nat} {ad : Nat → Nat} {w : xW} {o a b : Nat} (h : fk a b = 1) : x_fv fk ad w o a b = .long (x_j w o b) := by unfold x_fv; rw [h]
theorem x_fv_2 {fk : Nat → Nat → Nat} {ad : Nat → Nat} {w : xW} {o a b k : Nat} (h : fk a b = k + 2) : x_fv fk ad w o a b = x_rv ad (x_r w o b) := by unfold x_fv; rw [h]
section X8
variable {cl : List vw_C} {ct : Nat → vw_C} {fk : Nat → Nat → Nat} {ty : Nat → Nat → FieldType} {Ts Nw : List Cond} {mt : Nat → xM} {en : Nat → String × String × String} {P : xP} {l : Launch} {D : va_G} {cA : Nat → ClassId} {scr : Nat × (Nat → Int32)} {rc : Nat → Nat} {vt : Nat → Nat × Nat × Nat × Nat} {tx : Nat → List Int32}
variable {p : Program} {e : Env} {R : Room} {s : State} {m : MethodId} {args : Array Value} {below : List Frame} {meth : Method} {c0 : Code} {A : Nat → Prop} {ad0 : Nat → Nat} {w0 w9 : xW} {v9 : Option Value} {X : xT → Prop} {M : Nat} {Q : State → Prop}
variable {pc len a b c : Nat} {v : Int32} {u : Int64} {L : xL} {st : List Value} {w : xW}


set_option maxHeartbeats 1000000 in
theorem xs_if_acmp {off : Int} (hx : p.tables.exec = Jvm.exec) (hb : c0.code = (mt M).2.1) (hK1 : ∀ pc L st w, X (.inl (pc, L, st, w)) → x_gr w w9 ∧ x_WW cl ct fk D cA p l e R s m args below meth c0 A (mt M).2.2.1 ad0 w0 Q pc L st w) (hcon : x_con en scr ad0 A s s.heap) (ok : x_okr cl ct fk ty Ts Nw mt rc vt en M (pc, .if_acmp .ne off, len, a, b, c, v, u)) (h : x_go X rc vt scr tx (.if_acmp .ne off) a b c v u pc L st w) : x_WW cl ct fk D cA p l e R s m args below meth c0 A (mt M).2.2.1 ad0 w0 Q pc L st w := by
  intro hg H locs ls ad hext hrep hS hl hws hwl
  have hd : decode (mt M).2.1 pc = .ok (.if_acmp .ne off, len) := ok.1
  obtain ⟨rfl, ht⟩ := ok.2
  obtain ⟨y, r, e9, h9⟩ := x_pR_of h
  subst e9
  replace h := h9
  obtain ⟨x, r, e9, h9⟩ := x_pR_of h
  subst e9
  replace h := h9
  obtain ⟨⟨q1, q2, q3, q4⟩, h1, h2⟩ := h
  have hinj : ad x = ad y → x = y := by
    intro he
    have e1 := hext x (Or.inr (by have : x_sc = 1000000 := rfl; have : x_en = 1000001 := rfl; omega))
    have e2 := hext y (Or.inr (by have : x_sc = 1000000 := rfl; have : x_en = 1000001 := rfl; omega))
    rw [e1, e2] at he
    have := hcon.2.2.1 (x - x_en) (y - x_en) (by omega) (by omega) (by rw [Nat.add_sub_cancel' q1, Nat.add_sub_cancel' q3]; exact he)
    exact (Nat.add_sub_cancel' q1).symm.trans ((congrArg (x_en + ·) this).trans (Nat.add_sub_cancel' q3))
  refine lv_acmp_ne (rx := some (ad x)) (ry := some (ad y)) hx hb hd ht (fun q => ?_) (fun q => ?_)
  · exact (hK1 _ _ _ _ (h1 fun z => q (by rw [z]))).2 hg H locs ls ad hext hrep hS hl (x_wt1 (x_wt1 hws)) hwl
  · exact (hK1 _ _ _ _ (h2 fun z => z (hinj (Option.some.inj q)))).2 hg H locs ls ad hext hrep hS hl (x_wt1 (x_wt1 hws)) hwl

set_option maxHeartbeats 1000000 in
theorem xs_tableswitch {d lo hi : Int} {offs : Array Int} (hx : p.tables.exec = Jvm.exec) (hb : c0.code = (mt M).2.1) (hK1 : ∀ pc L st w, X (.inl (pc, L, st, w)) → x_gr w w9 ∧ x_WW cl ct fk D cA p l e R s m args below meth c0 A (mt M).2.2.1 ad0 w0 Q pc L st w)  (ok : x_okr cl ct fk ty Ts Nw mt rc vt en M (pc, .tableswitch d lo hi offs, len, a, b, c, v, u)) (h : x_go X rc vt scr tx (.tableswitch d lo hi offs) a b c v u pc L st w) : x_WW cl ct fk D cA p l e R s m args below meth c0 A (mt M).2.2.1 ad0 w0 Q pc L st w := by
  intro hg H locs ls ad hext hrep hS hl hws hwl
  have hd : decode (mt M).2.1 pc = .ok (.tableswitch d lo hi offs, len) := ok.1
  obtain ⟨⟨t, ht⟩, hoffs⟩ := ok.2
  obtain ⟨x, r, e9, h9⟩ := x_pI_of h
  subst e9
  replace h := h9
  rcases x_br_of h with ⟨hc, h⟩ | ⟨hc, h⟩
  · have et : ((pc : Int) + d).toNat = t := by rw [ht]; rfl
    have h : X (.inl (((pc : Int) + d).toNat, L, r, w)) := h
    rw [et] at h
    exact lv_tableOut hx hb hd hc ht ((hK1 _ _ _ _ h).2 hg H locs ls ad hext hrep hS hl (x_wt1 hws) hwl)
  · obtain ⟨o, ho, h⟩ := x_som_of h
    obtain ⟨t2, ht2⟩ := hoffs _ _ ho
    have et : ((pc : Int) + o).toNat = t2 := by rw [ht2]; rfl
    have h : X (.inl (((pc : Int) + o).toNat, L, r, w)) := h
    rw [et] at h
    exact lv_tableIn hx hb hd (fun q => hc (Or.inl q)) (fun q => hc (Or.inr q)) ho ht2 ((hK1 _ _ _ _ h).2 hg H locs ls ad hext hrep hS hl (x_wt1 hws) hwl)

set_option maxHeartbeats 1000000 in
theorem xs_getfield {i : Nat} (hx : p.tables.exec = Jvm.exec) (hb : c0.code = (mt M).2.1) (hK1 : ∀ pc L st w, X (.inl (pc, L, st, w)) → x_gr w w9 ∧ x_WW cl ct fk D cA p l e R s m args below meth c0 A (mt M).2.2.1 ad0 w0 Q pc L st w) (hown : s.vm.findClass (mt M).2.2.2.2 = some m.cls) (hts : ∀ q ∈ Ts, q.before args s = true) (hK : va_K D cl (x_tys cA) s) (ok : x_okr cl ct fk ty Ts Nw mt rc vt en M (pc, .getfield i, len, a, b, c, v, u)) (h : x_go X rc vt scr tx (.getfield i) a b c v u pc L st w) : x_WW cl ct fk D cA p l e R s m args below meth c0 A (mt M).2.2.1 ad0 w0 Q pc L st w := by
  intro hg H locs ls ad hext hrep hS hl hws hwl
  have hd : decode (mt M).2.1 pc = .ok (.getfield i, len) := ok.1
  obtain ⟨rfl, ok2⟩ := ok.2
  obtain ⟨o, r, e9, h9⟩ := x_pR_of h
  subst e9
  replace h := h9
  obtain ⟨hk, h⟩ := h
  obtain ⟨a, ha, hk⟩ := x_kd_of hk
  obtain ⟨hcf, hfl, hfk⟩ := ok2 a ha
  refine x_getI hx hb hts hcf hfl hown hK hrep hk hd ?_
  rcases x_sw_of h with ⟨hc, h1⟩ | ⟨hc, h1⟩
  · rw [x_fv_0 (hfk.trans hc)]
    exact (hK1 _ _ _ _ h1).2 hg H locs ls ad hext hrep hS hl (x_wc trivial (x_wt1 hws)) hwl
  rcases x_sw_of h1 with ⟨hc2, h2⟩ | ⟨hc2, h2⟩
  · rw [x_fv_1 (hfk.trans (by omega))]
    exact (hK1 _ _ _ _ h2).2 hg H locs ls ad hext hrep hS hl (x_wc trivial (x_wt1 hws)) hwl
  · obtain ⟨hn, h3⟩ := h2
    have hrv : x_rv ad (x_r w o b) = .ref (ad (x_r w o b)) := by
      cases hz : x_r w o b with
      | zero => exact absurd hz hn
      | succ j => rfl
    rw [x_fv_2 (k := c - 2) (hfk.trans (by omega)), hrv]
    exact (hK1 _ _ _ _ h3).2 hg H locs ls ad hext hrep hS hl (x_wc (Or.inl (by rcases hrep.2.2.2 o b with q | q; exact absurd q hn; exact q)) (x_wt1 hws)) hwl

set_option maxHeartbeats 2000000 in
theorem xs_putfield {i : Nat} (hx : p.tables.exec = Jvm.exec) (hb : c0.code = (mt M).2.1) (hK1 : ∀ pc L st w, X (.inl (pc, L, st, w)) → x_gr w w9 ∧ x_WW cl ct fk D cA p l e R s m args below meth c0 A (mt M).2.2.1 ad0 w0 Q pc L st w) (hown : s.vm.findClass (mt M).2.2.2.2 = some m.cls) (hts : ∀ q ∈ Ts, q.before args s = true) (hK : va_K D cl (x_tys cA) s) (hnm : meth.name = (mt M).1.name) (ok : x_okr cl ct fk ty Ts Nw mt rc vt en M (pc, .putfield i, len, a, b, c, v, u)) (h : x_go X rc vt scr tx (.putfield i) a b c v u pc L st w) : x_WW cl ct fk D cA p l e R s m args below meth c0 A (mt M).2.2.1 ad0 w0 Q pc L st w := by
  intro hg H locs ls ad hext hrep hS hl hws hwl
  have hd : decode (mt M).2.1 pc = .ok (.putfield i, len) := ok.1
  obtain ⟨rfl, ok2⟩ := ok.2
  have hfin' : ∀ a', (((ct a').2.1 b).2.2.2 = false ∨ (((ct a').2.1 b).2.2.2 = true ∧ (mt M).1.name = "<init>" ∧ ((ct a').2.1 b).1 = (mt M).2.2.2.2)) → (((ct a').2.1 b).2.2.2 = false ∨ (((ct a').2.1 b).2.2.2 = true ∧ meth.name = "<init>" ∧ ((ct a').2.1 b).1 = (mt M).2.2.2.2)) := by
    intro a' hfin
    rcases hfin with q | ⟨q1, q2, q3⟩
    · exact Or.inl q
    · exact Or.inr ⟨q1, hnm.trans q2, q3⟩
  rcases x_sw_of h with ⟨hc, h⟩ | ⟨hc, h⟩
  · obtain ⟨x, r, e9, h9⟩ := x_pI_of h
    subst e9
    replace h := h9
    obtain ⟨o, r, e9, h9⟩ := x_pR_of h
    subst e9
    replace h := h9
    obtain ⟨hk, h⟩ := h
    obtain ⟨a', ha, hk⟩ := x_kd_of hk
    obtain ⟨hcf, hfl, hfin, hty⟩ := ok2 a' ha
    obtain ⟨ht, hf0⟩ : ty a' b = .int ∧ fk a' b = 0 := by
      rcases hty with ⟨-, q⟩ | ⟨q, -⟩ | ⟨q, -⟩ | ⟨q, -⟩
      · exact q
      all_goals omega
    refine x_put (w' := x_si w o b x) (v := .int x) hx hb hts hcf hfl (hfin' a' hfin) hown hK hrep hS hk ht rfl rfl rfl rfl (fun i hi => x_ce_si hi) (by unfold x_fv; rw [hf0]; show Value.int (x_up (x_i w) o b x o b) = _; rw [x_up_s]) (fun k hkb => ?_) hrep.2.2.2 hd (fun H1 locs1 hrep1 hS1 => (hK1 _ _ _ _ h).2 hg H1 locs1 ls ad hext hrep1 hS1 hl (x_wt1 (x_wt1 hws)) hwl)
    unfold x_fv
    have : x_i (x_si w o b x) o k = x_i w o k := x_up_k hkb
    rw [this]; rfl
  rcases x_sw_of h with ⟨hc1, h⟩ | ⟨hc1, h⟩
  · obtain ⟨x, r, e9, h9⟩ := x_pL_of h
    subst e9
    replace h := h9
    obtain ⟨o, r, e9, h9⟩ := x_pR_of h
    subst e9
    replace h := h9
    obtain ⟨hk, h⟩ := h
    obtain ⟨a', ha, hk⟩ := x_kd_of hk
    obtain ⟨hcf, hfl, hfin, hty⟩ := ok2 a' ha
    obtain ⟨ht, hf0⟩ : ty a' b = .long ∧ fk a' b = 1 := by
      rcases hty with ⟨q, -⟩ | ⟨-, q⟩ | ⟨q, -⟩ | ⟨q, -⟩
      · omega
      · exact q
      all_goals omega
    refine x_put (w' := x_sj w o b x) (v := .long x) hx hb hts hcf hfl (hfin' a' hfin) hown hK hrep hS hk ht rfl rfl rfl rfl (fun i hi => x_ce_sj hi) (by unfold x_fv; rw [hf0]; show Value.long (x_up (x_j w) o b x o b) = _; rw [x_up_s]) (fun k hkb => ?_) hrep.2.2.2 hd (fun H1 locs1 hrep1 hS1 => (hK1 _ _ _ _ h).2 hg H1 locs1 ls ad hext hrep1 hS1 hl (x_wt1 (x_wt1 hws)) hwl)
    unfold x_fv
    have : x_j (x_sj w o b x) o k = x_j w o k := x_up_k hkb
    rw [this]; rfl
  rcases x_sw_of h with ⟨hc2, h⟩ | ⟨hc2, h⟩
  · obtain ⟨x, r, e9, h9⟩ := x_pR_of h
    subst e9
    replace h := h9
    obtain ⟨o, r, e9, h9⟩ := x_pR_of h
    subst e9
    replace h := h9
    obtain ⟨⟨hk, hx0, hxN⟩, h⟩ := h
    obtain ⟨a', ha, hk⟩ := x_kd_of hk
    obtain ⟨hcf, hfl, hfin, hty⟩ := ok2 a' ha
    have hf0 : fk a' b = 2 := by
      rcases hty with ⟨q, -⟩ | ⟨q, -⟩ | ⟨-, q⟩ | ⟨q, -⟩
      · omega
      · omega
      · exact q
      · omega
    have hv : x_fv fk ad (x_sr w o b x) o a' b = .ref (ad x) := by
      unfold x_fv; rw [hf0]
      show x_rv ad (x_up (x_r w) o b x o b) = _
      rw [x_up_s]
      cases x with
      | zero => exact absurd rfl hx0
      | succ j => rfl
    have hr : ∀ o' k, x_r (x_sr w o b x) o' k = 0 ∨ x_r (x_sr w o b x) o' k < x_N w := by
      intro o' k
      show x_up (x_r w) o b x o' k = 0 ∨ x_up (x_r w) o b x o' k < x_N w
      by_cases e1 : o' = o
      · subst e1
        by_cases e2 : k = b
        · subst e2; rw [x_up_s]; exact Or.inr hxN
        · rw [x_up_k e2]; exact hrep.2.2.2 o' k
      · rw [x_up_o e1]; exact hrep.2.2.2 o' k
    have hft := hcf.2.2.2.2.2 b hfl.1
    have htt : (∃ C, ty a' b = .object C) ∨ ∃ t, ty a' b = .array t := by
      rcases hft with ⟨q, -⟩ | ⟨q, -⟩ | ⟨-, q⟩
      · rw [hf0] at q; cases q
      · rw [hf0] at q; cases q
      · exact q
    have hne : ∀ k, ¬ k = b → x_fv fk ad (x_sr w o b x) o a' k = x_fv fk ad w o a' k := by
      intro k hkb
      unfold x_fv
      have : x_r (x_sr w o b x) o k = x_r w o k := x_up_k hkb
      rw [this]; rfl
    rcases htt with ⟨C, ht⟩ | ⟨t, ht⟩
    · exact x_put (w' := x_sr w o b x) (v := .ref (ad x)) hx hb hts hcf hfl (hfin' a' hfin) hown hK hrep hS hk ht rfl rfl rfl rfl (fun i hi => x_ce_sr hi) hv hne hr hd (fun H1 locs1 hrep1 hS1 => (hK1 _ _ _ _ h).2 hg H1 locs1 ls ad hext hrep1 hS1 hl (x_wt1 (x_wt1 hws)) hwl)
    · exact x_put (w' := x_sr w o b x) (v := .ref (ad x)) hx hb hts hcf hfl (hfin' a' hfin) hown hK hrep hS hk ht rfl rfl rfl rfl (fun i hi => x_ce_sr hi) hv hne hr hd (fun H1 locs1 hrep1 hS1 => (hK1 _ _ _ _ h).2 hg H1 locs1 ls ad hext hrep1 hS1 hl (x_wt1 (x_wt1 hws)) hwl)
  · obtain ⟨x, r, e9, h9⟩ := x_pI_of h
    subst e9
    replace h := h9
    obtain ⟨o, r, e9, h9⟩ := x_pR_of h
    subst e9
    replace h := h9
    obtain ⟨⟨hk, hx01⟩, h⟩ := h
    obtain ⟨a', ha, hk⟩ := x_kd_of hk
    obtain ⟨hcf, hfl, hfin, hty⟩ := ok2 a' ha
    obtain ⟨ht, hf0⟩ : ty a' b = .boolean ∧ fk a' b = 0 := by
      rcases hty with ⟨q, -⟩ | ⟨q, -⟩ | ⟨q, -⟩ | ⟨-, q⟩
      · omega
      · omega
      · omega
      · exact q
    have hn : narrow .boolean (.int x) = .int x := by rcases hx01 with rfl | rfl <;> decide +kernel
    have hft : fits .boolean (.int x) = true := by rcases hx01 with rfl | rfl <;> decide +kernel
    refine x_put (w' := x_si w o b x) (v := .int x) hx hb hts hcf hfl (hfin' a' hfin) hown hK hrep hS hk ht hn hft rfl rfl (fun i hi => x_ce_si hi) (by unfold x_fv; rw [hf0]; show Value.int (x_up (x_i w) o b x o b) = _; rw [x_up_s]) (fun k hkb => ?_) hrep.2.2.2 hd (fun H1 locs1 hrep1 hS1 => (hK1 _ _ _ _ h).2 hg H1 locs1 ls ad hext hrep1 hS1 hl (x_wt1 (x_wt1 hws)) hwl)
    unfold x_fv
    have : x_i (x_si w o b x) o k = x_i w o k := x_up_k hkb
    rw [this]; rfl

set_option maxHeartbeats 1000000 in
theorem xs_getstatic {i : Nat} (hx : p.tables.exec = Jvm.exec) (hb : c0.code = (mt M).2.1) (hK1 : ∀ pc L st w, X (.inl (pc, L, st, w)) → x_gr w w9 ∧ x_WW cl ct fk D cA p l e R s m args below meth c0 A (mt M).2.2.1 ad0 w0 Q pc L st w) (hown : s.vm.findClass (mt M).2.2.2.2 = some m.cls) (hts : ∀ q ∈ Ts, q.before args s = true) (hcon : x_con en scr ad0 A s s.heap) (ok : x_okr cl ct fk ty Ts Nw mt rc vt en M (pc, .getstatic i, len, a, b, c, v, u)) (h : x_go X rc vt scr tx (.getstatic i) a b c v u pc L st w) : x_WW cl ct fk D cA p l e R s m args below meth c0 A (mt M).2.2.1 ad0 w0 Q pc L st w := by
  intro hg H locs ls ad hext hrep hS hl hws hwl
  have hd : decode (mt M).2.1 pc = .ok (.getstatic i, len) := ok.1
  obtain ⟨rfl, ha, ref, h1, h2⟩ := ok.2
  refine va_gets (A := A) hx hb (hcon.2.1 a ha) hS hown (hts _ h1) (fun x hx => by rw [← h2]; exact hx) hd ?_
  have e1 : ad (x_en + a) = ad0 (x_en + a) := hext _ (Or.inr (by show 1000000 ≤ 1000001 + a; omega))
  rw [← e1]
  exact (hK1 _ _ _ _ h).2 hg H locs ls ad hext hrep hS hl (x_wc (Or.inr (by show 1000000 ≤ 1000001 + a; omega)) hws) hwl

set_option maxHeartbeats 1000000 in
theorem xs_iaload  (hx : p.tables.exec = Jvm.exec) (hb : c0.code = (mt M).2.1) (hK1 : ∀ pc L st w, X (.inl (pc, L, st, w)) → x_gr w w9 ∧ x_WW cl ct fk D cA p l e R s m args below meth c0 A (mt M).2.2.1 ad0 w0 Q pc L st w) (hK : va_K D cl (x_tys cA) s) (hcon : x_con en scr ad0 A s s.heap) (ok : x_okr cl ct fk ty Ts Nw mt rc vt en M (pc, .iaload, len, a, b, c, v, u)) (h : x_go X rc vt scr tx (.iaload) a b c v u pc L st w) : x_WW cl ct fk D cA p l e R s m args below meth c0 A (mt M).2.2.1 ad0 w0 Q pc L st w := by
  intro hg H locs ls ad hext hrep hS hl hws hwl
  have hd : decode (mt M).2.1 pc = .ok (.iaload, len) := ok.1
  obtain rfl : len = 1 := ok.2
  obtain ⟨i, r, e9, h9⟩ := x_pI_of h
  subst e9
  replace h := h9
  obtain ⟨o, r, e9, h9⟩ := x_pR_of h
  subst e9
  replace h := h9
  rcases x_sw_of h with ⟨-, ⟨hk, hin⟩, h9⟩ | ⟨-, ⟨ho, hin⟩, h9⟩ <;> replace h := h9
  · have ho := x_in hrep hk (by omega)
    exact va_iald hx hb hK hrep.1 o 0 (by rw [x_wd_at ho, x_ce_0 hk]) rfl hin hd ((hK1 _ _ _ _ h).2 hg H locs ls ad hext hrep hS hl (x_wc trivial (x_wt1 (x_wt1 hws))) hwl)
  · subst ho
    have e1 : ad x_sc = ad0 x_sc := hext _ (Or.inr (Nat.le_refl _))
    show W p l e R s m args below meth c0 H locs _ _ Q (F0 m pc ls (.int i :: .ref (ad x_sc) :: _))
    rw [e1]
    exact va_sld (A := A) hx hb hcon.1.1 hcon.1.2.1 hcon.1.2.2 hS hin hd ((hK1 _ _ _ _ h).2 hg H locs ls ad hext hrep hS hl (x_wc trivial (x_wt1 (x_wt1 hws))) hwl)

set_option maxHeartbeats 1000000 in
theorem xs_baload  (hx : p.tables.exec = Jvm.exec) (hb : c0.code = (mt M).2.1) (hK1 : ∀ pc L st w, X (.inl (pc, L, st, w)) → x_gr w w9 ∧ x_WW cl ct fk D cA p l e R s m args below meth c0 A (mt M).2.2.1 ad0 w0 Q pc L st w) (hK : va_K D cl (x_tys cA) s) (ok : x_okr cl ct fk ty Ts Nw mt rc vt en M (pc, .baload, len, a, b, c, v, u)) (h : x_go X rc vt scr tx (.baload) a b c v u pc L st w) : x_WW cl ct fk D cA p l e R s m args below meth c0 A (mt M).2.2.1 ad0 w0 Q pc L st w := by
  intro hg H locs ls ad hext hrep hS hl hws hwl
  have hd : decode (mt M).2.1 pc = .ok (.baload, len) := ok.1
  obtain rfl : len = 1 := ok.2
  obtain ⟨i, r, e9, h9⟩ := x_pI_of h
  subst e9
  replace h := h9
  obtain ⟨o, r, e9, h9⟩ := x_pR_of h
  subst e9
  replace h := h9
  obtain ⟨⟨hk, hin⟩, h⟩ := h
  have ho := x_in hrep hk (by omega)
  exact va_zald hx hb hK hrep.1 o 1 (by rw [x_wd_at ho, x_ce_1 hk]) rfl hin hd ((hK1 _ _ _ _ h).2 hg H locs ls ad hext hrep hS hl (x_wc trivial (x_wt1 (x_wt1 hws))) hwl)

set_option maxHeartbeats 1000000 in
theorem xs_laload  (hx : p.tables.exec = Jvm.exec) (hb : c0.code = (mt M).2.1) (hK1 : ∀ pc L st w, X (.inl (pc, L, st, w)) → x_gr w w9 ∧ x_WW cl ct fk D cA p l e R s m args below meth c0 A (mt M).2.2.1 ad0 w0 Q pc L st w) (hK : va_K D cl (x_tys cA) s) (ok : x_okr cl ct fk ty Ts Nw mt rc vt en M (pc, .laload, len, a, b, c, v, u)) (h : x_go X rc vt scr tx (.laload) a b c v u pc L st w) : x_WW cl ct fk D cA p l e R s m args below meth c0 A (mt M).2.2.1 ad0 w0 Q pc L st w := by
  intro hg H locs ls ad hext hrep hS hl hws hwl
  have hd : decode (mt M).2.1 pc = .ok (.laload, len) := ok.1
  obtain rfl : len = 1 := ok.2
  obtain ⟨i, r, e9, h9⟩ := x_pI_of h
  subst e9
  replace h := h9
  obtain ⟨o, r, e9, h9⟩ := x_pR_of h
  subst e9
  replace h := h9
  obtain ⟨⟨hk, hin⟩, h⟩ := h
  have ho := x_in hrep hk (by omega)
  exact va_lald hx hb hK hrep.1 o 2 (by rw [x_wd_at ho, x_ce_2 hk]) rfl hin hd ((hK1 _ _ _ _ h).2 hg H locs ls ad hext hrep hS hl (x_wc trivial (x_wt1 (x_wt1 hws))) hwl)

set_option maxHeartbeats 1000000 in
theorem xs_iastore  (hx : p.tables.exec = Jvm.exec) (hb : c0.code = (mt M).2.1) (hK1 : ∀ pc L st w, X (.inl (pc, L, st, w)) → x_gr w w9 ∧ x_WW cl ct fk D cA p l e R s m args below meth c0 A (mt M).2.2.1 ad0 w0 Q pc L st w) (hK : va_K D cl (x_tys cA) s) (ok : x_okr cl ct fk ty Ts Nw mt rc vt en M (pc, .iastore, len, a, b, c, v, u)) (h : x_go X rc vt scr tx (.iastore) a b c v u pc L st w) : x_WW cl ct fk D cA p l e R s m args below meth c0 A (mt M).2.2.1 ad0 w0 Q pc L st w := by
  intro hg H locs ls ad hext hrep hS hl hws hwl
  have hd : decode (mt M).2.1 pc = .ok (.iastore, len) := ok.1
  obtain rfl : len = 1 := ok.2
  obtain ⟨x, r, e9, h9⟩ := x_pI_of h
  subst e9
  replace h := h9
  obtain ⟨i, r, e9, h9⟩ := x_pI_of h
  subst e9
  replace h := h9
  obtain ⟨o, r, e9, h9⟩ := x_pR_of h
  subst e9
  replace h := h9
  obtain ⟨⟨hk, hin⟩, h⟩ := h
  exact x_iast hx hb hK hrep hS hk hin hd (fun H1 locs1 hrep1 hS1 => (hK1 _ _ _ _ h).2 hg H1 locs1 ls ad hext hrep1 hS1 hl (x_wt1 (x_wt1 (x_wt1 hws))) hwl)

set_option maxHeartbeats 1000000 in
theorem xs_bastore  (hx : p.tables.exec = Jvm.exec) (hb : c0.code = (mt M).2.1) (hK1 : ∀ pc L st w, X (.inl (pc, L, st, w)) → x_gr w w9 ∧ x_WW cl ct fk D cA p l e R s m args below meth c0 A (mt M).2.2.1 ad0 w0 Q pc L st w) (hK : va_K D cl (x_tys cA) s) (ok : x_okr cl ct fk ty Ts Nw mt rc vt en M (pc, .bastore, len, a, b, c, v, u)) (h : x_go X rc vt scr tx (.bastore) a b c v u pc L st w) : x_WW cl ct fk D cA p l e R s m args below meth c0 A (mt M).2.2.1 ad0 w0 Q pc L st w := by
  intro hg H locs ls ad hext hrep hS hl hws hwl
  have hd : decode (mt M).2.1 pc = .ok (.bastore, len) := ok.1
  obtain rfl : len = 1 := ok.2
  obtain ⟨x, r, e9, h9⟩ := x_pI_of h
  subst e9
  replace h := h9
  obtain ⟨i, r, e9, h9⟩ := x_pI_of h
  subst e9
  replace h := h9
  obtain ⟨o, r, e9, h9⟩ := x_pR_of h
  subst e9
  replace h := h9
  obtain ⟨⟨hk, hin, hx01⟩, h⟩ := h
  exact x_zast hx hb hK hrep hS hk hin hx01 hd (fun H1 locs1 hrep1 hS1 => (hK1 _ _ _ _ h).2 hg H1 locs1 ls ad hext hrep1 hS1 hl (x_wt1 (x_wt1 (x_wt1 hws))) hwl)

set_option maxHeartbeats 1000000 in
theorem xs_lastore  (hx : p.tables.exec = Jvm.exec) (hb : c0.code = (mt M).2.1) (hK1 : ∀ pc L st w, X (.inl (pc, L, st, w)) → x_gr w w9 ∧ x_WW cl ct fk D cA p l e R s m args below meth c0 A (mt M).2.2.1 ad0 w0 Q pc L st w) (hK : va_K D cl (x_tys cA) s) (ok : x_okr cl ct fk ty Ts Nw mt rc vt en M (pc, .lastore, len, a, b, c, v, u)) (h : x_go X rc vt scr tx (.lastore) a b c v u pc L st w) : x_WW cl ct fk D cA p l e R s m args below meth c0 A (mt M).2.2.1 ad0 w0 Q pc L st w := by
  intro hg H locs ls ad hext hrep hS hl hws hwl
  have hd : decode (mt M).2.1 pc = .ok (.lastore, len) := ok.1
  obtain rfl : len = 1 := ok.2
  obtain ⟨x, r, e9, h9⟩ := x_pL_of h
  subst e9
  replace h := h9
  obtain ⟨i, r, e9, h9⟩ := x_pI_of h
  subst e9
  replace h := h9
  obtain ⟨o, r, e9, h9⟩ := x_pR_of h
  subst e9
  replace h := h9
  obtain ⟨⟨hk, hin⟩, h⟩ := h
  exact x_last hx hb hK hrep hS hk hin hd (fun H1 locs1 hrep1 hS1 => (hK1 _ _ _ _ h).2 hg H1 locs1 ls ad hext hrep1 hS1 hl (x_wt1 (x_wt1 (x_wt1 hws))) hwl)

set_option maxHeartbeats 1000000 in
theorem xs_arraylength  (hx : p.tables.exec = Jvm.exec) (hb : c0.code = (mt M).2.1) (hK1 : ∀ pc L st w, X (.inl (pc, L, st, w)) → x_gr w w9 ∧ x_WW cl ct fk D cA p l e R s m args below meth c0 A (mt M).2.2.1 ad0 w0 Q pc L st w) (hK : va_K D cl (x_tys cA) s) (hcon : x_con en scr ad0 A s s.heap) (ok : x_okr cl ct fk ty Ts Nw mt rc vt en M (pc, .arraylength, len, a, b, c, v, u)) (h : x_go X rc vt scr tx (.arraylength) a b c v u pc L st w) : x_WW cl ct fk D cA p l e R s m args below meth c0 A (mt M).2.2.1 ad0 w0 Q pc L st w := by
  intro hg H locs ls ad hext hrep hS hl hws hwl
  have hd : decode (mt M).2.1 pc = .ok (.arraylength, len) := ok.1
  obtain rfl : len = 1 := ok.2
  obtain ⟨o, r, e9, h9⟩ := x_pR_of h
  subst e9
  replace h := h9
  rcases x_sw_of h with ⟨-, hk, h9⟩ | ⟨-, ho, h9⟩ <;> replace h := h9
  · have ho := x_in hrep hk (by omega)
    exact va_alen (x := (x_l w o, .inl (x_i w o))) hx hb hK hrep.1 o 0 (by rw [x_wd_at ho, x_ce_0 hk]) (ty := .int) rfl rfl hd ((hK1 _ _ _ _ h).2 hg H locs ls ad hext hrep hS hl (x_wc trivial (x_wt1 hws)) hwl)
  · subst ho
    have e1 : ad x_sc = ad0 x_sc := hext _ (Or.inr (Nat.le_refl _))
    show W p l e R s m args below meth c0 H locs _ _ Q (F0 m pc ls (.ref (ad x_sc) :: _))
    rw [e1]
    exact va_slen (A := A) hx hb hcon.1.1 hcon.1.2.1 hcon.1.2.2 hS hd ((hK1 _ _ _ _ h).2 hg H locs ls ad hext hrep hS hl (x_wc trivial (x_wt1 hws)) hwl)

end X8
