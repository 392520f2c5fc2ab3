/-! All steps together; whole methods. -/
section X10
variable {cl : List vw_C} {ct : Nat → vw_C} {fk : Nat → Nat → Nat} {ty : Nat → Nat → FieldType} {Ts Nw : List Cond} {mt : Nat → xM} {en : Nat → String × String × String} {P : xP} {l : Launch} {D : va_G} {cA : Nat → ClassId} {scr : Nat × (Nat → Int32)} {rc : Nat → Nat} {vt : Nat → Nat × Nat × Nat × Nat} {tx : Nat → List Int32}
variable {p : Program} {e : Env} {R : Room} {s : State} {m : MethodId} {args : Array Value} {below : List Frame} {meth : Method} {c0 : Code} {A : Nat → Prop} {ad0 : Nat → Nat} {w0 w9 : xW} {v9 : Option Value} {X : xT → Prop} {M : Nat} {Q : State → Prop}
variable {pc len a b c : Nat} {v : Int32} {u : Int64} {L : xL} {st : List Value} {w : xW}

set_option maxHeartbeats 4000000 in
theorem x_sound1 {ins : Instr} (hx : p.tables.exec = Jvm.exec) (hb : c0.code = (mt M).2.1) (hown : s.vm.findClass (mt M).2.2.2.2 = some m.cls) (hts : ∀ q ∈ Ts, q.before args s = true) (hK : va_K D cl (x_tys cA) s) (hcon : x_con en scr ad0 A s s.heap) (hA : ∀ q, s.heap.size ≤ q → A q) (hR : P.2.1 M + 2 ≤ R.frames ∧ 33 * P.2.1 M + 100 ≤ R.locals ∧ x_C w9 - x_C w0 ≤ R.cells ∧ x_S w9 - x_S w0 ≤ R.slots) (hml : c0.maxLocals = (mt M).2.2.1)
    (hNk : ∀ q ∈ Nw, (∀ s U : State, s.WarmedH U.vm → va_Nw q s → va_Nw q U) ∧ q.onTables = true) (hNw : ∀ q ∈ Nw, va_Nw q s) (hmx : ∀ M, (mt M).2.2.1 ≤ 14) (hnm : meth.name = (mt M).1.name)
    (hK1 : ∀ pc L st w, X (.inl (pc, L, st, w)) → x_gr w w9 ∧ x_WW cl ct fk D cA p l e R s m args below meth c0 A (mt M).2.2.1 ad0 w0 Q pc L st w)
    (hC1 : ∀ M' as pc L st w, X (.inr (.inl (M', as, pc, L, st, w))) → x_CG cl ct fk Ts Nw mt en P l D cA scr M w9 (x_WW cl ct fk D cA p l e R s m args below meth c0 A (mt M).2.2.1 ad0 w0 Q) M' as pc L st w)
    (hE : ins = .ireturn ∨ ins = .lreturn ∨ ins = .areturn ∨ ins = .return_ → x_WW cl ct fk D cA p l e R s m args below meth c0 A (mt M).2.2.1 ad0 w0 Q pc L st w) (hT1 : ∀ i, ins = .new i → ¬ c = 0 → st = [] → X (.inr (.inr (.inr (a, x_lost w 6)))) → x_WW cl ct fk D cA p l e R s m args below meth c0 A (mt M).2.2.1 ad0 w0 Q pc L st w) (htx : tx 0 = [112] ∧ tx 1 = [99, 110, 102]) (hdt : ∀ i, ins = .invokevirtual i → 2 ≤ c → 3 ≤ P.2.1 M)
    (ok : x_okr cl ct fk ty Ts Nw mt rc vt en M (pc, ins, len, a, b, c, v, u)) (h : x_go X rc vt scr tx ins a b c v u pc L st w) : x_WW cl ct fk D cA p l e R s m args below meth c0 A (mt M).2.2.1 ad0 w0 Q pc L st w := by
  cases ins
  case iconst => exact xs_iconst hx hb hK1 ok h
  case bipush => exact xs_bipush hx hb hK1 ok h
  case sipush => exact xs_sipush hx hb hK1 ok h
  case lconst => exact xs_lconst hx hb hK1 ok h
  case iload => exact xs_iload hx hb hK1 ok h
  case lload => exact xs_lload hx hb hK1 ok h
  case aload => exact xs_aload hx hb hK1 ok h
  case iload_n => exact xs_iload_n hx hb hK1 ok h
  case lload_n => exact xs_lload_n hx hb hK1 ok h
  case aload_n => exact xs_aload_n hx hb hK1 ok h
  case istore => exact xs_istore hx hb hK1 ok h
  case lstore => exact xs_lstore hx hb hK1 ok h
  case astore => exact xs_astore hx hb hK1 ok h
  case istore_n => exact xs_istore_n hx hb hK1 ok h
  case lstore_n => exact xs_lstore_n hx hb hK1 ok h
  case astore_n => exact xs_astore_n hx hb hK1 ok h
  case iinc => exact xs_iinc hx hb hK1 ok h
  case iadd => exact xs_iadd hx hb hK1 ok h
  case isub => exact xs_isub hx hb hK1 ok h
  case imul => exact xs_imul hx hb hK1 ok h
  case iand => exact xs_iand hx hb hK1 ok h
  case ior => exact xs_ior hx hb hK1 ok h
  case ixor => exact xs_ixor hx hb hK1 ok h
  case ishl => exact xs_ishl hx hb hK1 ok h
  case iushr => exact xs_iushr hx hb hK1 ok h
  case idiv => exact xs_idiv hx hb hK1 ok h
  case irem => exact xs_irem hx hb hK1 ok h
  case ineg => exact xs_ineg hx hb hK1 ok h
  case land => exact xs_land hx hb hK1 ok h
  case lor => exact xs_lor hx hb hK1 ok h
  case lxor => exact xs_lxor hx hb hK1 ok h
  case lshl => exact xs_lshl hx hb hK1 ok h
  case lshr => exact xs_lshr hx hb hK1 ok h
  case lushr => exact xs_lushr hx hb hK1 ok h
  case i2l => exact xs_i2l hx hb hK1 ok h
  case l2i => exact xs_l2i hx hb hK1 ok h
  case lcmp => exact xs_lcmp hx hb hK1 ok h
  case dup => exact xs_dup hx hb hK1 ok h
  case pop => exact xs_pop hx hb hK1 ok h
  case dup2 => exact xs_dup2 hx hb hK1 ok h
  case ifCond => exact xs_ifCond hx hb hK1 ok h
  case if_icmp => exact xs_if_icmp hx hb hK1 ok h
  case goto => exact xs_goto hx hb hK1 ok h
  case tableswitch => exact xs_tableswitch hx hb hK1 ok h
  case ldc => exact xs_ldc hx hb hK1 hown hts hcon ok h
  case ldc2_w => exact xs_ldc2 hx hb hK1 hown hts ok h
  case getfield => exact xs_getfield hx hb hK1 hown hts hK ok h
  case putfield => exact xs_putfield hx hb hK1 hown hts hK hnm ok h
  case getstatic => exact xs_getstatic hx hb hK1 hown hts hcon ok h
  case iaload => exact xs_iaload hx hb hK1 hK hcon ok h
  case baload => exact xs_baload hx hb hK1 hK ok h
  case laload => exact xs_laload hx hb hK1 hK ok h
  case iastore => exact xs_iastore hx hb hK1 hK ok h
  case bastore => exact xs_bastore hx hb hK1 hK ok h
  case lastore => exact xs_lastore hx hb hK1 hK ok h
  case arraylength => exact xs_arraylength hx hb hK1 hK hcon ok h
  case new => exact xs_new hx hb hK1 hown hts hK hA hR (hT1 _ rfl) ok h
  case newarray => exact xs_newarray hx hb hK1 hown hts hK hA hR ok h
  case invokestatic => exact xs_invokestatic hx hb hK1 hown hts hK hcon hA hR hml hNk hNw hmx hC1 ok h
  case invokespecial => exact xs_invokespecial hx hb hK1 hown hts hK hcon hA hR hml hNk hNw hmx hC1 ok h
  case invokevirtual => exact xs_invokevirtual hx hb hK1 hown hts hK hcon hA hR hml hNk hNw hmx htx (hdt _ rfl) hC1 ok h
  case ireturn => exact hE (Or.inl rfl)
  case lreturn => exact hE (Or.inr (Or.inl rfl))
  case areturn => exact hE (Or.inr (Or.inr (Or.inl rfl)))
  case return_ => exact hE (Or.inr (Or.inr (Or.inr rfl)))
  case if_acmp cd off =>
    cases cd
    · exact (show False from h).elim
    · exact xs_if_acmp hx hb hK1 hcon ok h
  all_goals exact (show False from h).elim
end X10
theorem x_find_in : ∀ (t : List xR) (pc : Nat) (r : xR), x_find t pc = some r → r ∈ t ∧ r.1 = pc
  | [], pc, r, h => by cases h
  | a :: t, pc, r, h => by
    unfold x_find at h
    cases hb : Nat.beq a.1 pc with
    | true =>
      rw [hb] at h
      cases h
      exact ⟨List.mem_cons_self, Nat.eq_of_beq_eq_true hb⟩
    | false =>
      rw [hb] at h
      obtain ⟨h1, h2⟩ := x_find_in t pc r h
      exact ⟨List.mem_cons_of_mem _ h1, h2⟩
theorem x_at_pad : ∀ (n : Nat) (L : xL) (i : Nat) (v : Value), x_at (x_pad n L) i = some v → x_at L i = some v
  | 0, L, i, v, h => by simp [x_pad, x_at] at h
  | n + 1, [], 0, v, h => by simp [x_pad, x_at] at h
  | n + 1, [], i + 1, v, h => by
    have := x_at_pad n [] i v h
    simp [x_at] at this
  | n + 1, a :: t, 0, v, h => h
  | n + 1, a :: t, i + 1, v, h => x_at_pad n t i v h
theorem x_at_lay {ad : Nat → Nat} : ∀ (as : List Value) (i j : Nat) (v : Value), x_at (x_lay as) j = some v → (i + j, x_cv ad v) ∈ lv_args i (as.map (x_cv ad)) ∧ v ∈ as
  | [], i, j, v, h => by simp [x_lay, x_at] at h
  | a :: r, i, j, v, h => by
    unfold x_lay at h
    rw [List.map_cons, lv_args, x_cat_cv]
    cases h2 : x_two (some a) with
    | true =>
      rw [h2] at h
      rw [if_pos (x_two_cat.mp h2)]
      match j, h with
      | 0, h => cases h; exact ⟨List.mem_cons_self, List.mem_cons_self⟩
      | 1, h => cases h
      | j + 2, h =>
        obtain ⟨q1, q2⟩ := x_at_lay r (i + 2) j v h
        refine ⟨List.mem_cons_of_mem _ ?_, List.mem_cons_of_mem _ q2⟩
        have e1 : i + (j + 2) = i + 2 + j := by omega
        rw [e1]; exact q1
    | false =>
      rw [h2] at h
      have hc : ¬ a.category = 2 := fun q => by rw [x_two_cat.mpr q] at h2; cases h2
      rw [if_neg hc]
      match j, h with
      | 0, h => cases h; exact ⟨List.mem_cons_self, List.mem_cons_self⟩
      | j + 1, h =>
        obtain ⟨q1, q2⟩ := x_at_lay r (i + 1) j v h
        refine ⟨List.mem_cons_of_mem _ ?_, List.mem_cons_of_mem _ q2⟩
        have e1 : i + (j + 1) = i + 1 + j := by omega
        rw [e1]; exact q1
theorem x_sl_len {ad : Nat → Nat} : ∀ as : List Value, (lg_sl (as.map (x_cv ad))).length = x_cats as
  | [] => rfl
  | a :: r => by
    have ih := x_sl_len (ad := ad) r
    unfold lg_sl at ih ⊢
    rw [List.map_cons, List.flatMap_cons, List.length_append, ih, x_cat_cv]
    show _ = x_cat a + x_cats r
    cases a <;> rfl
/-- a method without handlers that is no law -/
def x_nh (P : xP) (M : Nat) : Prop := P.2.1 M ≤ 8 ∧ ∀ pc k, P.2.2.2.2.2.2 M pc k = none
section X11
variable {cl : List vw_C} {ct : Nat → vw_C} {fk : Nat → Nat → Nat} {ty : Nat → Nat → FieldType} {Ts Nw : List Cond} {mt : Nat → xM} {en : Nat → String × String × String} {P : xP} {l : Launch} {D : va_G} {cA : Nat → ClassId} {scr : Nat × (Nat → Int32)}
set_option maxHeartbeats 4000000 in
/-- a method of the program meets what the small machine says of it -/
theorem x_sound (hok : ∀ M, x_nh P M → ∀ r, r ∈ P.1 M → x_okr cl ct fk ty Ts Nw mt P.2.2.2.1 P.2.2.2.2.1 en M r) (hpl : ∀ M, plainName (mt M).1.cls = true) (hcls : ∀ M, (mt M).1.cls = (mt M).2.2.2.2) (hmx : ∀ M, (mt M).2.2.1 ≤ 14) (hmp : ∀ M, P.2.2.1 M = (mt M).2.2.1)
    (hNk : ∀ q ∈ Nw, (∀ s U : State, s.WarmedH U.vm → va_Nw q s → va_Nw q U) ∧ q.onTables = true) (htx : P.2.2.2.2.2.1 0 = [112] ∧ P.2.2.2.2.2.1 1 = [99, 110, 102]) (hdt : ∀ M r, r ∈ P.1 M → ∀ i, r.2.1 = .invokevirtual i → 2 ≤ r.2.2.2.2.2.1 → 3 ≤ P.2.1 M) (hhn : ∀ M, P.2.1 M < 8 → ∀ pc k, P.2.2.2.2.2.2 M pc k = none) : ∀ (n M : Nat) (as : List Value) (w : xW) (v : Option Value) (w' : xW), x_nh P M → x_cats as ≤ (mt M).2.2.1 →
    x_wp P scr n M 0 (x_pad (P.2.2.1 M) (x_lay as)) [] w (fun o2 w2 => o2 = .inl v ∧ w2 = w') → x_Met cl ct fk Ts Nw mt en P l D cA scr M as w v w' := by
  intro n
  induction n using Nat.strongRecOn with
  | ind n ih =>
    intro M as w v w' hd8 hca h ad sz
    refine Met.ofW (cc := (mt M).2.1) (maxL := (mt M).2.2.1) (ret := (mt M).2.2.2.1) (hpl M) rfl ?_
    intro p e s m args below meth c s₁ B hml hv
    obtain ⟨rfl, hsz, hrep, hK, hNw, hcon, hwa⟩ := hv
    subst hsz
    have hx := B.exec
    have hb := B.bytes
    have hr := B.returns
    have hts0 := atoms_spec (ws := x_ws Ts mt M) B.pre
    have hts : ∀ q ∈ Ts, q.before ((as.map (x_cv ad)).toArray) s = true := fun q hq => hts0 q (List.mem_cons_of_mem _ hq)
    have hown : s.vm.findClass (mt M).2.2.2.2 = some m.cls := by rw [← hcls M]; exact findClass_of_methodNamed B.named
    have hlk := B.notSynchronized
    have hnm : meth.name = (mt M).1.name := (name_of_methodNamed B.named B.method).1
    have hl0 := lv_entry (as.map (x_cv ad)) (n := (mt M).2.2.1) (by rw [x_sl_len]; exact hca)
    rw [lg_entry_eq]
    generalize (lg_sl (as.map (x_cv ad)) ++ List.replicate ((mt M).2.2.1 - (lg_sl (as.map (x_cv ad))).length) Slot.unset).toArray = ls at hl0 ⊢
    have hA : ∀ q, s.heap.size ≤ q → va_A (x_wd cA (fun a => (ct a).2.2) fk ad w) s.heap.size q := fun q hq => Or.inr hq
    have walk : ∀ (k : Nat), k ≤ n → ∀ (pc : Nat) (L : xL) (st : List Value) (w1 : xW), x_wp P scr k M pc L st w1 (fun o2 w2 => o2 = .inl v ∧ w2 = w') →
        x_WW cl ct fk D cA p l e (x_rm (P.2.1 M) (x_C w' - x_C w) (x_S w' - x_S w)) s m (as.map (x_cv ad)).toArray below meth c (va_A (x_wd cA (fun a => (ct a).2.2) fk ad w) s.heap.size) (mt M).2.2.1 ad w (MQ below (x_post cl ct fk D cA ad w v w' (va_A (x_wd cA (fun a => (ct a).2.2) fk ad w) s.heap.size)) (as.map (x_cv ad)).toArray s (x_C w' - x_C w) (x_S w' - x_S w) (va_A (x_wd cA (fun a => (ct a).2.2) fk ad w) s.heap.size)) pc L st w1 := by
      intro k
      induction k with
      | zero => intro _ pc L st w1 h; exact h.elim
      | succ k ihk =>
        intro hk pc L st w1 h
        obtain ⟨r, hr1, h⟩ := x_som_of h
        obtain ⟨hin, rfl⟩ := x_find_in _ _ _ hr1
        have okr := hok M hd8 r hin
        have hdt2 := hdt M r hin
        obtain ⟨pc, ins, len, a, b, c2, v2, u2⟩ := r
        have hfin : ∀ (o : xO) (w2 : xW), (o = .inl v ∧ w2 = w') → x_gr w2 w' := fun o w2 hq => by rw [hq.2]; exact x_gr_rf
        refine x_sound1 (p := p) (l := l) (e := e) (ins := ins) (X := x_aim P M pc (fun o2 w2 => o2 = .inl v ∧ w2 = w') (fun pc L st w => x_wp P scr k M pc L st w (fun o2 w2 => o2 = .inl v ∧ w2 = w')) (fun M' L w Q' => x_wp P scr k M' 0 L [] w Q')) hx hb hown hts hK hcon hA ⟨Nat.le_refl _, Nat.le_refl _, Nat.le_refl _, Nat.le_refl _⟩ hml hNk hNw hmx hnm ?_ ?_ ?_ ?_ htx (fun i e => hdt2 i e) okr h
        · intro pc2 L2 st2 w2 h2
          exact ⟨x_wp_gr _ _ _ _ _ _ _ hfin h2, ihk (by omega) _ _ _ _ h2⟩
        · intro M' as' pc2 L2 st2 w2 h2
          obtain ⟨hb2, h2⟩ := x_if_of h2
          rw [Bool.and_eq_true] at hb2
          obtain ⟨o3, w3, q1, q2⟩ := x_wp_det _ _ _ _ _ _ _ h2
          have hgr := x_wp_gr (w9 := w3) _ _ _ _ _ _ _ (fun o w hq => by rw [hq.2]; exact x_gr_rf) q2
          cases o3 with
          | inl v3 =>
            have hdep : P.2.1 M' < P.2.1 M := by simpa [Nat.blt, Nat.lt_iff_add_one_le] using Nat.le_of_ble_eq_true hb2.1
            refine ⟨hdep, v3, w3, ih k (by omega) M' as' w2 v3 w3 ⟨by have := hd8.1; omega, hhn M' (by have := hd8.1; omega)⟩ (by rw [← hmp]; exact Nat.le_of_ble_eq_true hb2.2) q2, hgr, x_wp_gr _ _ _ _ _ _ _ hfin q1, ihk (by omega) _ _ _ _ q1⟩
          | inr t3 =>
            have q3 : x_som (P.2.2.2.2.2.2 M pc t3) _ := q1
            rw [hd8.2] at q3
            exact q3.elim
        · intro hE
          have hR1 : ∀ (v3 : Option Value) (w3 : xW), x_aim P M pc (fun o2 w2 => o2 = .inl v ∧ w2 = w') (fun pc L st w => x_wp P scr k M pc L st w (fun o2 w2 => o2 = .inl v ∧ w2 = w')) (fun M' L w Q' => x_wp P scr k M' 0 L [] w Q') (.inr (.inr (.inl (v3, w3)))) → v3 = v ∧ w3 = w' := fun v3 w3 h3 => ⟨Sum.inl.inj h3.1, h3.2⟩
          rcases hE with rfl | rfl | rfl | rfl
          · exact xs_ireturn hx hb hr hlk hR1 okr h
          · exact xs_lreturn hx hb hr hlk hR1 okr h
          · exact xs_areturn hx hb hr hlk hR1 okr h
          · exact xs_return_ hx hb hr hlk hR1 okr h
        · intro i _ _ _ h3
          exact absurd h3.1 (fun q => by cases q)
    have k1 := walk n (Nat.le_refl _) 0 _ _ _ h x_gr_rf s.heap [] ls ad x_ext_rf hrep va_S.rf ⟨hl0.1, hl0.2.1, fun i z hz => hl0.2.2 (i, x_cv ad z) (by
      have := (x_at_lay (ad := ad) as 0 i z (x_at_pad _ _ _ _ hz)).1
      rw [Nat.zero_add] at this
      exact this)⟩ (fun _ hv => by cases hv) (fun i z hz => hwa z (x_at_lay (ad := ad) as 0 i z (x_at_pad _ _ _ _ hz)).2)
    rw [Nat.sub_self, Nat.sub_self] at k1
    exact k1
end X11
