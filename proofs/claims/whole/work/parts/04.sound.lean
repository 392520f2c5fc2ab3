/-! Each step of the small machine is a step of the JVM. -/
def x_tys (cA : Nat → ClassId) : List (ClassId × FieldType) := [(cA 0, .int), (cA 1, .boolean), (cA 2, .long)]
/-- a class of the tables: ct a, with the types of its fields -/
def x_cf (cl : List vw_C) (ct : Nat → vw_C) (fk : Nat → Nat → Nat) (ty : Nat → Nat → FieldType) (Ts : List Cond) (a : Nat) : Prop :=
  cl[a]? = some (ct a) ∧ a < 90 ∧ (∀ w ∈ u_ws (ct a).1 (ct a).2.1 (ct a).2.2, w ∈ Ts) ∧ (∀ k, k < (ct a).2.2 → parseFieldDescriptor ((ct a).2.1 k).2.2.1 = some (ty a k)) ∧
  (∀ i, i < (ct a).2.2 → ∀ j, j < (ct a).2.2 → i ≠ j → ((ct a).2.1 i).2.1 ≠ ((ct a).2.1 j).2.1) ∧ ∀ k, k < (ct a).2.2 → (fk a k = 0 ∧ (ty a k = .int ∨ ty a k = .boolean)) ∨ (fk a k = 1 ∧ ty a k = .long) ∨ (fk a k = 2 ∧ ((∃ C, ty a k = .object C) ∨ ∃ t, ty a k = .array t))
/-- a link to field b of class a -/
def x_fl (ct : Nat → vw_C) (Ts : List Cond) (own : String) (idx a b : Nat) : Prop :=
  b < (ct a).2.2 ∧ ∃ ref, Cond.fieldLink own idx ref ((ct a).2.1 b).2.1 ((ct a).2.1 b).2.2.1 ∈ Ts ∧ (((ct a).2.1 b).1 = ref ∨ Cond.sameField ref ((ct a).2.1 b).1 ((ct a).2.1 b).2.1 ((ct a).2.1 b).2.2.1 ∈ Ts)
theorem x_fv_at {ct : Nat → vw_C} {fk : Nat → Nat → Nat} {ad : Nat → Nat} {w : xW} {o a b : Nat} (hb : b < (ct a).2.2) : ((List.range (ct a).2.2).map (x_fv fk ad w o a))[b]? = some (x_fv fk ad w o a b) := by
  simp [hb]
theorem x_fv_set {n : Nat} {fk : Nat → Nat → Nat} {ad : Nat → Nat} {w w' : xW} {o a b : Nat} {v : Value} (hv : x_fv fk ad w' o a b = v) (hne : ∀ k, ¬ k = b → x_fv fk ad w' o a k = x_fv fk ad w o a k) : ((List.range n).map (x_fv fk ad w o a)).set b v = (List.range n).map (x_fv fk ad w' o a) := by
  apply List.ext_getElem?
  intro i
  rw [List.getElem?_set]
  simp only [List.length_map, List.length_range, List.getElem?_map]
  by_cases hi : i < n
  · rw [List.getElem?_range hi]
    by_cases h : b = i
    · subst h
      rw [if_pos rfl, if_pos hi]
      simp [hv]
    · rw [if_neg h]
      simp [hne i (fun q => h q.symm)]
  · have h1 : (List.range n)[i]? = none := by simp; omega
    rw [h1]
    by_cases h : b = i
    · subst h
      rw [if_pos rfl, if_neg hi]
      rfl
    · rw [if_neg h]
      rfl
/-- the kind of a cell tells what it holds -/
theorem x_ce_obj {cA : Nat → ClassId} {nf : Nat → Nat} {fk : Nat → Nat → Nat} {ad : Nat → Nat} {w : xW} {o a : Nat} (h : x_k w o = a + 3) : x_ce cA nf fk ad w o = .inr (a, (List.range (nf a)).map (x_fv fk ad w o a)) := by
  unfold x_ce; rw [h]
theorem x_ce_0 {cA : Nat → ClassId} {nf : Nat → Nat} {fk : Nat → Nat → Nat} {ad : Nat → Nat} {w : xW} {o : Nat} (h : x_k w o = 0) : x_ce cA nf fk ad w o = .inl (cA 0, x_l w o, .inl (x_i w o)) := by
  unfold x_ce; rw [h]
theorem x_ce_1 {cA : Nat → ClassId} {nf : Nat → Nat} {fk : Nat → Nat → Nat} {ad : Nat → Nat} {w : xW} {o : Nat} (h : x_k w o = 1) : x_ce cA nf fk ad w o = .inl (cA 1, x_l w o, .inl (x_i w o)) := by
  unfold x_ce; rw [h]
theorem x_ce_2 {cA : Nat → ClassId} {nf : Nat → Nat} {fk : Nat → Nat → Nat} {ad : Nat → Nat} {w : xW} {o : Nat} (h : x_k w o = 2) : x_ce cA nf fk ad w o = .inl (cA 2, x_l w o, .inr (.inl (x_j w o))) := by
  unfold x_ce; rw [h]
theorem x_up_s {α : Type} {f : Nat → Nat → α} {o k : Nat} {v : α} : x_up f o k v o k = v := by simp [x_up]
theorem x_up_k {α : Type} {f : Nat → Nat → α} {o k k' : Nat} {v : α} (h : ¬ k' = k) : x_up f o k v o k' = f o k' := by simp [x_up, h]
theorem x_up_o {α : Type} {f : Nat → Nat → α} {o o' k : Nat} {v : α} (h : ¬ o' = o) : x_up f o k v o' = f o' := by simp [x_up, h]
section X4
variable {cl : List vw_C} {D : va_G} {cA : Nat → ClassId} {ct : Nat → vw_C} {fk : Nat → Nat → Nat} {ty : Nat → Nat → FieldType} {Ts : List Cond} {A : Nat → Prop} {ad : Nat → Nat} {w : xW} {H H0 : Heap}
variable {p : Program} {l : Launch} {e : Env} {R : Room} {s : State} {m : MethodId} {args : Array Value} {below : List Frame} {meth : Method} {c : Code} {locs : List Loc} {cells slots : Nat} {Q : State → Prop} {cc : ByteArray} {pc : Nat} {ls : Array Slot} {rest : List Value}
theorem x_in (hrep : x_rep cl D cA (fun a => (ct a).2.2) fk A ad w H) {o k : Nat} (h : x_k w o = k) (hk : ¬ k = 99) : o < x_N w := by
  by_cases ho : o < x_N w
  · exact ho
  · exact absurd (h.symm.trans (hrep.2.2.1 o (by omega))) hk
theorem x_getI (hexec : p.tables.exec = Jvm.exec) (hb : c.code = cc) {own : String} {idx a b o : Nat} (hts : ∀ w ∈ Ts, w.before args s = true) (hcf : x_cf cl ct fk ty Ts a) (hfl : x_fl ct Ts own idx a b) (hown : s.vm.findClass own = some m.cls) (hK : va_K D cl (x_tys cA) s) (hrep : x_rep cl D cA (fun a => (ct a).2.2) fk A ad w H) (hk : x_k w o = a + 3) (hdg : decode cc pc = .ok (.getfield idx, 3))
    (kk : W p l e R s m args below meth c H locs cells slots Q (F0 m (pc + 3) ls (x_fv fk ad w o a b :: rest))) : W p l e R s m args below meth c H locs cells slots Q (F0 m pc ls (.ref (ad o) :: rest)) := by
  obtain ⟨h1, h2, h3, h4, h5, h6⟩ := hcf
  obtain ⟨g1, ref, g2, g3⟩ := hfl
  have ho := x_in hrep hk (by omega)
  refine va_get (D := D) (ci := a) (C := (ct a).1) (T := (ct a).2.1) (N := (ct a).2.2) hexec hb hts h3 hown hK hrep.1 o (by rw [x_wd_at ho, x_ce_obj hk]) h1 b g1 (hts _ g2) (fun x hx => ?_) (x_fv_at g1) hdg kk
  rcases g3 with g3 | g3
  · rw [← g3]; exact hx
  · exact u_same (hts _ g3) x hx
theorem x_put (hexec : p.tables.exec = Jvm.exec) (hb : c.code = cc) {own : String} {idx a b o : Nat} {w' : xW} {v : Value} {t : FieldType} (hts : ∀ w ∈ Ts, w.before args s = true) (hcf : x_cf cl ct fk ty Ts a) (hfl : x_fl ct Ts own idx a b) (hfin : ((ct a).2.1 b).2.2.2 = false ∨ (((ct a).2.1 b).2.2.2 = true ∧ meth.name = "<init>" ∧ ((ct a).2.1 b).1 = own)) (hown : s.vm.findClass own = some m.cls) (hK : va_K D cl (x_tys cA) s) (hrep : x_rep cl D cA (fun a => (ct a).2.2) fk A ad w H) (hS : va_S A H0 H locs) (hk : x_k w o = a + 3)
    (hty : ty a b = t) (hn : narrow t v = v) (hfit : fits t v = true) (hN : x_N w' = x_N w) (hkk : x_k w' = x_k w) (hce : ∀ i, ¬ i = o → x_ce cA (fun a => (ct a).2.2) fk ad w' i = x_ce cA (fun a => (ct a).2.2) fk ad w i) (hv : x_fv fk ad w' o a b = v) (hne : ∀ k, ¬ k = b → x_fv fk ad w' o a k = x_fv fk ad w o a k) (hr : ∀ o k, x_r w' o k = 0 ∨ x_r w' o k < x_N w)
    (hdg : decode cc pc = .ok (.putfield idx, 3)) (kk : ∀ (H1 : Heap) (locs1 : List Loc), x_rep cl D cA (fun a => (ct a).2.2) fk A ad w' H1 → va_S A H0 H1 locs1 → W p l e R s m args below meth c H1 locs1 cells slots Q (F0 m (pc + 3) ls rest)) : W p l e R s m args below meth c H locs cells slots Q (F0 m pc ls (v :: .ref (ad o) :: rest)) := by
  obtain ⟨h1, h2, h3, h4, h5, h6⟩ := hcf
  obtain ⟨g1, ref, g2, g3⟩ := hfl
  have ho := x_in hrep hk (by omega)
  have hsame : ∀ x, s.fieldFound? ((ct a).2.1 b).1 ((ct a).2.1 b).2.1 ((ct a).2.1 b).2.2.1 = some x → s.fieldFound? ref ((ct a).2.1 b).2.1 ((ct a).2.1 b).2.2.1 = some x := by
    intro x hx
    rcases g3 with g3 | g3
    · rw [← g3]; exact hx
    · exact u_same (hts _ g3) x hx
  have hd : parseFieldDescriptor ((ct a).2.1 b).2.2.1 = some t := by rw [h4 b g1, hty]
  have hset : (x_wd cA (fun a => (ct a).2.2) fk ad w).set o (ad o, .inr (a, ((List.range (ct a).2.2).map (x_fv fk ad w o a)).set b v)) = x_wd cA (fun a => (ct a).2.2) fk ad w' := by
    refine x_wd_set hN ?_ hce
    rw [x_ce_obj (by rw [hkk]; exact hk), x_fv_set hv hne]
  have hl : b < ((List.range (ct a).2.2).map (x_fv fk ad w o a)).length := by simpa using g1
  have hend : ∀ (H1 : Heap) (locs1 : List Loc), va_P D cl ((x_wd cA (fun a => (ct a).2.2) fk ad w).set o (ad o, .inr (a, ((List.range (ct a).2.2).map (x_fv fk ad w o a)).set b v))) H1 → va_D A ((x_wd cA (fun a => (ct a).2.2) fk ad w).set o (ad o, .inr (a, ((List.range (ct a).2.2).map (x_fv fk ad w o a)).set b v))) → va_S A H0 H1 locs1 → W p l e R s m args below meth c H1 locs1 cells slots Q (F0 m (pc + 3) ls rest) := by
    intro H1 locs1 hP hD hS
    rw [hset] at hP hD
    exact kk H1 locs1 ⟨hP, hD, fun i hi => by rw [hkk]; exact hrep.2.2.1 i (by rw [← hN]; exact hi), fun i k => by rw [hN]; exact hr i k⟩ hS
  rcases hfin with hfin | ⟨hf1, hf2, hf3⟩
  · exact va_put (D := D) (ci := a) (v := v) (ty := t) (C := (ct a).1) (T := (ct a).2.1) (N := (ct a).2.2) hexec hb hts h3 (ty a) h4 h5 hown hK hrep.1 hrep.2.1 hS o (by rw [x_wd_at ho, x_ce_obj hk]) h1 b g1 (hts _ g2) hsame hfin hd hn hfit hl hdg hend
  · exact va_putF (D := D) (ci := a) (v := v) (ty := t) (C := (ct a).1) (T := (ct a).2.1) (N := (ct a).2.2) hexec hb hts h3 (ty a) h4 h5 hown hK hrep.1 hrep.2.1 hS o (by rw [x_wd_at ho, x_ce_obj hk]) h1 b g1 (hts _ g2) hsame hf1 hf2 hf3 hd hn hfit hl hdg hend
end X4
section X5
variable {cl : List vw_C} {D : va_G} {cA : Nat → ClassId} {ct : Nat → vw_C} {fk : Nat → Nat → Nat} {ty : Nat → Nat → FieldType} {Ts : List Cond} {A : Nat → Prop} {ad : Nat → Nat} {w : xW} {H H0 : Heap}
variable {p : Program} {l : Launch} {e : Env} {R : Room} {s : State} {m : MethodId} {args : Array Value} {below : List Frame} {meth : Method} {c : Code} {locs : List Loc} {cells slots : Nat} {Q : State → Prop} {cc : ByteArray} {pc : Nat} {ls : Array Slot} {rest : List Value}
theorem x_i_si {o k : Nat} {v : Int32} : x_i (x_si w o k v) o = upd (x_i w o) k v := by
  funext j
  simp [x_i, x_si, x_up, upd]
theorem x_j_sj {o k : Nat} {v : Int64} : x_j (x_sj w o k v) o = vp_updL (x_j w o) k v := by
  funext j
  simp [x_j, x_sj, x_up, vp_updL]
theorem x_ce_si {nf : Nat → Nat} {o i k : Nat} {v : Int32} (h : ¬ i = o) : x_ce cA nf fk ad (x_si w o k v) i = x_ce cA nf fk ad w i := x_ce_eq rfl rfl (x_up_o h) rfl rfl
theorem x_ce_sj {nf : Nat → Nat} {o i k : Nat} {v : Int64} (h : ¬ i = o) : x_ce cA nf fk ad (x_sj w o k v) i = x_ce cA nf fk ad w i := x_ce_eq rfl rfl rfl (x_up_o h) rfl
theorem x_ce_sr {nf : Nat → Nat} {o i k : Nat} {v : Nat} (h : ¬ i = o) : x_ce cA nf fk ad (x_sr w o k v) i = x_ce cA nf fk ad w i := x_ce_eq rfl rfl rfl rfl (x_up_o h)
/-- an array's cell is written -/
theorem x_stored {o : Nat} {w' : xW} {x : va_E} {H1 : Heap} (hrep : x_rep cl D cA (fun a => (ct a).2.2) fk A ad w H) (hN : x_N w' = x_N w) (hk : x_k w' = x_k w) (hr : x_r w' = x_r w) (he : x_ce cA (fun a => (ct a).2.2) fk ad w' o = x) (hne : ∀ i, ¬ i = o → x_ce cA (fun a => (ct a).2.2) fk ad w' i = x_ce cA (fun a => (ct a).2.2) fk ad w i)
    (hP : va_P D cl ((x_wd cA (fun a => (ct a).2.2) fk ad w).set o (ad o, x)) H1) (hD : va_D A ((x_wd cA (fun a => (ct a).2.2) fk ad w).set o (ad o, x))) : x_rep cl D cA (fun a => (ct a).2.2) fk A ad w' H1 := by
  rw [x_wd_set hN he hne] at hP hD
  exact ⟨hP, hD, fun i hi => by rw [hk]; exact hrep.2.2.1 i (by rw [← hN]; exact hi), fun i k => by rw [hN, hr]; exact hrep.2.2.2 i k⟩
theorem x_iast (hexec : p.tables.exec = Jvm.exec) (hb : c.code = cc) (hK : va_K D cl (x_tys cA) s) (hrep : x_rep cl D cA (fun a => (ct a).2.2) fk A ad w H) (hS : va_S A H0 H locs) {o : Nat} {i x : Int32} (hk : x_k w o = 0) (hin : vp_in i (x_l w o)) (hdg : decode cc pc = .ok (.iastore, 1))
    (kk : ∀ (H1 : Heap) (locs1 : List Loc), x_rep cl D cA (fun a => (ct a).2.2) fk A ad (x_si w o i.toNatClampNeg x) H1 → va_S A H0 H1 locs1 → W p l e R s m args below meth c H1 locs1 cells slots Q (F0 m (pc + 1) ls rest)) : W p l e R s m args below meth c H locs cells slots Q (F0 m pc ls (.int x :: .int i :: .ref (ad o) :: rest)) := by
  have ho := x_in hrep hk (by omega)
  refine va_iast hexec hb hK hrep.1 hrep.2.1 hS o 0 (by rw [x_wd_at ho, x_ce_0 hk]) rfl hin hdg (fun H1 locs1 hP hD hS => kk H1 locs1 (x_stored hrep rfl rfl rfl ?_ (fun i hi => x_ce_si hi) hP hD) hS)
  rw [x_ce_0 (w := x_si w o i.toNatClampNeg x) hk, x_i_si]
  rfl
theorem x_zast (hexec : p.tables.exec = Jvm.exec) (hb : c.code = cc) (hK : va_K D cl (x_tys cA) s) (hrep : x_rep cl D cA (fun a => (ct a).2.2) fk A ad w H) (hS : va_S A H0 H locs) {o : Nat} {i x : Int32} (hk : x_k w o = 1) (hin : vp_in i (x_l w o)) (hx : x = 0 ∨ x = 1) (hdg : decode cc pc = .ok (.bastore, 1))
    (kk : ∀ (H1 : Heap) (locs1 : List Loc), x_rep cl D cA (fun a => (ct a).2.2) fk A ad (x_si w o i.toNatClampNeg x) H1 → va_S A H0 H1 locs1 → W p l e R s m args below meth c H1 locs1 cells slots Q (F0 m (pc + 1) ls rest)) : W p l e R s m args below meth c H locs cells slots Q (F0 m pc ls (.int x :: .int i :: .ref (ad o) :: rest)) := by
  have ho := x_in hrep hk (by omega)
  have hn : vp_nar .boolean x = x := by rcases hx with rfl | rfl <;> decide +kernel
  refine va_zast hexec hb hK hrep.1 hrep.2.1 hS o 1 (by rw [x_wd_at ho, x_ce_1 hk]) rfl hin hdg (fun H1 locs1 hP hD hS => kk H1 locs1 (x_stored hrep rfl rfl rfl ?_ (fun i hi => x_ce_si hi) hP hD) hS)
  rw [x_ce_1 (w := x_si w o i.toNatClampNeg x) hk, x_i_si, hn]
  rfl
theorem x_last (hexec : p.tables.exec = Jvm.exec) (hb : c.code = cc) (hK : va_K D cl (x_tys cA) s) (hrep : x_rep cl D cA (fun a => (ct a).2.2) fk A ad w H) (hS : va_S A H0 H locs) {o : Nat} {i : Int32} {x : Int64} (hk : x_k w o = 2) (hin : vp_in i (x_l w o)) (hdg : decode cc pc = .ok (.lastore, 1))
    (kk : ∀ (H1 : Heap) (locs1 : List Loc), x_rep cl D cA (fun a => (ct a).2.2) fk A ad (x_sj w o i.toNatClampNeg x) H1 → va_S A H0 H1 locs1 → W p l e R s m args below meth c H1 locs1 cells slots Q (F0 m (pc + 1) ls rest)) : W p l e R s m args below meth c H locs cells slots Q (F0 m pc ls (.long x :: .int i :: .ref (ad o) :: rest)) := by
  have ho := x_in hrep hk (by omega)
  refine va_last hexec hb hK hrep.1 hrep.2.1 hS o 2 (by rw [x_wd_at ho, x_ce_2 hk]) rfl hin hdg (fun H1 locs1 hP hD hS => kk H1 locs1 (x_stored hrep rfl rfl rfl ?_ (fun i hi => x_ce_sj hi) hP hD) hS)
  rw [x_ce_2 (w := x_sj w o i.toNatClampNeg x) hk, x_j_sj]
  rfl
/-- a new cell -/
def x_adN (ad : Nat → Nat) (N q : Nat) : Nat → Nat := fun i => if i = N then q else ad i
theorem x_adN_s {ad : Nat → Nat} {N q : Nat} : x_adN ad N q N = q := by simp [x_adN]
theorem x_adN_ext {ad : Nat → Nat} {N q : Nat} (h : N < 1000) : x_ext N ad (x_adN ad N q) := fun i hi => by
  have hne : ¬ i = N := by
    rcases hi with hi | hi
    · omega
    · have : x_sc = 1000000 := rfl
      omega
  simp [x_adN, hne]
theorem x_made {kind len n q : Nat} {x : va_E} {H1 : Heap} (hN : x_N w < 1000) (hrep : x_rep cl D cA (fun a => (ct a).2.2) fk A ad w H) (he : x_ce cA (fun a => (ct a).2.2) fk (x_adN ad (x_N w) q) (x_new w kind len n) (x_N w) = x)
    (hP : va_P D cl (x_wd cA (fun a => (ct a).2.2) fk ad w ++ [(q, x)]) H1) (hD : va_D A (x_wd cA (fun a => (ct a).2.2) fk ad w ++ [(q, x)])) : x_rep cl D cA (fun a => (ct a).2.2) fk A (x_adN ad (x_N w) q) (x_new w kind len n) H1 := by
  rw [x_wd_push (x_adN_ext hN) x_adN_s hrep.2.2.2 he] at hP hD
  refine ⟨hP, hD, fun i hi => ?_, fun i k => ?_⟩
  · have h1 : x_N w + 1 ≤ i := hi
    have hne : ¬ i = x_N w := by omega
    show x_row (x_k w) (x_N w) kind i = 99
    rw [x_row, if_neg hne]
    exact hrep.2.2.1 i (by omega)
  · show x_row (x_r w) (x_N w) (fun _ => 0) i k = 0 ∨ x_row (x_r w) (x_N w) (fun _ => 0) i k < x_N w + 1
    unfold x_row
    by_cases hi : i = x_N w
    · rw [if_pos hi]; exact Or.inl rfl
    · rw [if_neg hi]
      rcases hrep.2.2.2 i k with h | h
      · exact Or.inl h
      · exact Or.inr (by omega)
theorem x_lh_ext {N nL : Nat} {ad ad' : Nat → Nat} {L : xL} (h : x_ext N ad ad') (hl : x_lh ad nL ls L) (hw : ∀ i v, x_at L i = some v → x_wf N v) : x_lh ad' nL ls L := ⟨hl.1, hl.2.1, fun i v hv => by rw [x_cv_ext h (hw i v hv)]; exact hl.2.2 i v hv⟩
theorem x_st_ext {N : Nat} {ad ad' : Nat → Nat} {st : List Value} (h : x_ext N ad ad') (hw : ∀ v ∈ st, x_wf N v) : st.map (x_cv ad') = st.map (x_cv ad) := List.map_congr_left fun v hv => x_cv_ext h (hw v hv)
theorem x_kA {cA : Nat → ClassId} {k : Nat} {t : FieldType} {cN : ClassId} (hK : va_K D cl (x_tys cA) s) (hK2 : va_K D cl (x_tys cA ++ [(cN, t)]) s) (hk : (x_tys cA)[k]? = some (cA k, t)) (ht : ∀ C, ¬ t = .object C) : cN = cA k := by
  have h1 := (hK.2 k _ hk).2
  have h2 := (hK2.2 3 (cN, t) rfl).2
  have h3 : va_RA s (cA k) t := h1
  have h4 : va_RA s cN t := h2
  cases t <;> first | exact absurd rfl (ht _) | exact Option.some.inj (h4.symm.trans h3)
end X5
