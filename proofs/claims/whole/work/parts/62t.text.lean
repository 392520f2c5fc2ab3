/-! Texts: String.length and String.charAt of the two texts. -/
def s_len : MethodName := ⟨"java/lang/String", "length", "()I"⟩
theorem sk_len : Cond.code s_len prog_19_method_54_code 1 (some .int) ∈ x_Ts := x_r2 (List.mem_of_getElem? (i := 223) rfl) rfl
theorem si_len : Cond.initialized s_len.cls ∈ x_Ts := x_r1 (List.mem_of_getElem? (i := 12) rfl) rfl
theorem sm_len : Cond.instanceMethod s_len ∈ x_Ts := x_r2 (List.mem_of_getElem? (i := 221) rfl) rfl
theorem ss_len : Cond.selects s_len.cls s_len s_len ∈ x_Ts := x_r2 (List.mem_of_getElem? (i := 222) rfl) rfl
theorem sl_len_55 : Cond.methodLink "StreamRefuter$Words" 55 s_len ∈ x_Ts := x_r2 (List.mem_of_getElem? (i := 220) rfl) rfl
def s_cod : MethodName := ⟨"java/lang/String", "coder", "()B"⟩
theorem sk_cod : Cond.code s_cod prog_19_method_152_code 1 (some .byte) ∈ x_Ts := x_r2 (List.mem_of_getElem? (i := 227) rfl) rfl
theorem si_cod : Cond.initialized s_cod.cls ∈ x_Ts := x_r1 (List.mem_of_getElem? (i := 12) rfl) rfl
theorem sm_cod : Cond.instanceMethod s_cod ∈ x_Ts := x_r2 (List.mem_of_getElem? (i := 225) rfl) rfl
theorem ss_cod : Cond.selects s_cod.cls s_cod s_cod ∈ x_Ts := x_r2 (List.mem_of_getElem? (i := 226) rfl) rfl
theorem sl_cod_335 : Cond.methodLink "java/lang/String" 335 s_cod ∈ x_Ts := x_r2 (List.mem_of_getElem? (i := 224) rfl) rfl
def s_chr : MethodName := ⟨"java/lang/String", "charAt", "(I)C"⟩
theorem sk_chr : Cond.code s_chr prog_19_method_56_code 2 (some .char) ∈ x_Ts := x_r2 (List.mem_of_getElem? (i := 233) rfl) rfl
theorem si_chr : Cond.initialized s_chr.cls ∈ x_Ts := x_r1 (List.mem_of_getElem? (i := 12) rfl) rfl
theorem sm_chr : Cond.instanceMethod s_chr ∈ x_Ts := x_r2 (List.mem_of_getElem? (i := 231) rfl) rfl
theorem ss_chr : Cond.selects s_chr.cls s_chr s_chr ∈ x_Ts := x_r2 (List.mem_of_getElem? (i := 232) rfl) rfl
theorem sl_chr_63 : Cond.methodLink "StreamRefuter$Words" 63 s_chr ∈ x_Ts := x_r2 (List.mem_of_getElem? (i := 230) rfl) rfl
def s_lat : MethodName := ⟨"java/lang/String", "isLatin1", "()Z"⟩
theorem sk_lat : Cond.code s_lat prog_19_method_154_code 1 (some .boolean) ∈ x_Ts := x_r2 (List.mem_of_getElem? (i := 237) rfl) rfl
theorem si_lat : Cond.initialized s_lat.cls ∈ x_Ts := x_r1 (List.mem_of_getElem? (i := 12) rfl) rfl
theorem sm_lat : Cond.instanceMethod s_lat ∈ x_Ts := x_r2 (List.mem_of_getElem? (i := 235) rfl) rfl
theorem ss_lat : Cond.selects s_lat.cls s_lat s_lat ∈ x_Ts := x_r2 (List.mem_of_getElem? (i := 236) rfl) rfl
theorem sl_lat_492 : Cond.methodLink "java/lang/String" 492 s_lat ∈ x_Ts := x_r2 (List.mem_of_getElem? (i := 234) rfl) rfl
def s_lch : MethodName := ⟨"java/lang/StringLatin1", "charAt", "([BI)C"⟩
theorem sk_lch : Cond.code s_lch prog_20_method_2_code 2 (some .char) ∈ x_Ts := x_r3 (List.mem_of_getElem? (i := 0) rfl) rfl
theorem si_lch : Cond.initialized s_lch.cls ∈ x_Ts := x_r1 (List.mem_of_getElem? (i := 13) rfl) rfl
theorem sm_lch : Cond.static s_lch ∈ x_Ts := x_r2 (List.mem_of_getElem? (i := 239) rfl) rfl
theorem sl_lch_495 : Cond.methodLink "java/lang/String" 495 s_lch ∈ x_Ts := x_r2 (List.mem_of_getElem? (i := 238) rfl) rfl
def s_chk : MethodName := ⟨"java/lang/String", "checkIndex", "(II)V"⟩
theorem sk_chk : Cond.code s_chk prog_19_method_155_code 2 (none) ∈ x_Ts := x_r3 (List.mem_of_getElem? (i := 3) rfl) rfl
theorem si_chk : Cond.initialized s_chk.cls ∈ x_Ts := x_r1 (List.mem_of_getElem? (i := 12) rfl) rfl
theorem sm_chk : Cond.static s_chk ∈ x_Ts := x_r3 (List.mem_of_getElem? (i := 2) rfl) rfl
theorem sl_chk_9 : Cond.methodLink "java/lang/StringLatin1" 9 s_chk ∈ x_Ts := x_r3 (List.mem_of_getElem? (i := 1) rfl) rfl
def s_pre : MethodName := ⟨"jdk/internal/util/Preconditions", "checkIndex", "(IILjava/util/function/BiFunction;)I"⟩
theorem sk_pre : Cond.code s_pre prog_24_method_11_code 3 (some .int) ∈ x_Ts := x_r3 (List.mem_of_getElem? (i := 8) rfl) rfl
theorem si_pre : Cond.initialized s_pre.cls ∈ x_Ts := x_r1 (List.mem_of_getElem? (i := 14) rfl) rfl
theorem sm_pre : Cond.static s_pre ∈ x_Ts := x_r3 (List.mem_of_getElem? (i := 7) rfl) rfl
theorem sl_pre_1059 : Cond.methodLink "java/lang/String" 1059 s_pre ∈ x_Ts := x_r3 (List.mem_of_getElem? (i := 6) rfl) rfl
theorem sf_38 : Cond.fieldLink "java/lang/String" 38 "java/lang/String" "COMPACT_STRINGS" "Z" ∈ x_Ts := x_r2 (List.mem_of_getElem? (i := 228) rfl) rfl
theorem sf_1053 : Cond.fieldLink "java/lang/String" 1053 "jdk/internal/util/Preconditions" "SIOOBE_FORMATTER" "Ljava/util/function/BiFunction;" ∈ x_Ts := x_r3 (List.mem_of_getElem? (i := 4) rfl) rfl
theorem sf_9 : Cond.fieldLink "java/lang/String" 9 "java/lang/String" "value" "[B" ∈ x_Ts := x_r6 (List.mem_of_getElem? (i := 216) rfl) rfl
theorem sf_15 : Cond.fieldLink "java/lang/String" 15 "java/lang/String" "coder" "B" ∈ x_Ts := x_r6 (List.mem_of_getElem? (i := 217) rfl) rfl
/-- the texts and what reading them needs, as a method finds them -/
def s_TT (z : Bool) (ad adV : Nat → Nat) (U : State) (H : Heap) : Prop := vk_S 2 [1, 3] [[112], [99, 110, 102]] ad adV (fun _ => False) U H ∧ va_Z "java/lang/String" "COMPACT_STRINGS" "Z" (.int 1) (fun _ => False) U H ∧ (z = true → va_Zq "jdk/internal/util/Preconditions" "SIOOBE_FORMATTER" "Ljava/util/function/BiFunction;" (fun _ => False) U H)
theorem s_TT_mv {z : Bool} {ad adV : Nat → Nat} {u U : State} {H : Heap} (hvm : u.vm.Alike U.vm) (h : s_TT z ad adV u H) : s_TT z ad adV U H := ⟨h.1.moved hvm, h.2.1.moved hvm, fun q => (h.2.2 q).moved hvm⟩
theorem s_TT_of {z : Bool} {ad adV : Nat → Nat} {A : Nat → Prop} {s U : State} {H : Heap} {locs : List Loc} (h1 : vk_S 2 [1, 3] [[112], [99, 110, 102]] ad adV A s s.heap) (h2 : va_Z "java/lang/String" "COMPACT_STRINGS" "Z" (.int 1) A s s.heap) (h3 : z = true → va_Zq "jdk/internal/util/Preconditions" "SIOOBE_FORMATTER" "Ljava/util/function/BiFunction;" A s s.heap) (hS : va_S A s.heap H locs) (hvm : s.vm.Alike U.vm) : s_TT z ad adV U H :=
  ⟨((h1.kept hS.2.1).moved hvm).narrow (fun _ z => z.elim), ((h2.kept hS.2.1).moved hvm).narrow (fun _ z => z.elim), fun q => (((h3 q).kept hS.2.1).moved hvm).narrow (fun _ z => z.elim)⟩
def s_Qi (r : Option Value) : Array Value → State → Outcome → State → Prop := fun _ st o t => o = .returned r ∧ t.heap = st.heap
section XS
variable {z : Bool} {ad adV : Nat → Nat} {l : Launch}
theorem s_met {y : MethodName} {cc : ByteArray} {maxL : Nat} {ret : Option FieldType} {rm : Room} {as : List Value} {r : Option Value} (hpl : plainName y.cls = true) (hlen : (lg_sl as).length ≤ maxL)
    (body : ∀ (p : Program) (e : Env) (s : State) (m : MethodId) (below : List Frame) (meth : Method) (c : Code) (ls : Array Slot), p.tables.exec = Jvm.exec → c.code = cc → c.maxLocals = maxL → s.vm.findClass y.cls = some m.cls → (∀ q ∈ x_Ts, q.before as.toArray s = true) → s_TT z ad adV s s.heap → lv_has ls maxL (lv_args 0 as) → meth.sig.returnType = ret → meth.locks = false →
      W p l e rm s m as.toArray below meth c s.heap [] 0 0 (MQ below (s_Qi r) as.toArray s 0 0 (fun _ => False)) (F0 m 0 ls [])) :
    Met l y (Cond.code y cc maxL ret :: x_Ts) rm (va_Pc as (fun U => s_TT z ad adV U U.heap)) (s_Qi r) 0 0 (fun _ => False) := by
  refine Met.ofW (cc := cc) (maxL := maxL) (ret := ret) hpl rfl ?_
  intro p e s m args below meth c s₁ B hml hv
  obtain ⟨rfl, hT⟩ := hv
  have hts0 := atoms_spec (ws := Cond.code y cc maxL ret :: x_Ts) B.pre
  have hl0 := lv_entry as (n := maxL) hlen
  rw [lg_entry_eq]
  exact body p e s m below meth c _ B.exec B.bytes hml (findClass_of_methodNamed B.named) (fun q hq => hts0 q (List.mem_cons_of_mem _ hq)) hT hl0 B.returns B.notSynchronized
theorem s_blind {as : List Value} : FrameBlind (va_Pc as (fun U => s_TT z ad adV U U.heap)) := fun _ U g mk q => ⟨q.1, s_TT_mv (u := U) (U := U.calling g mk _) (Vm.Alike.refl U.vm) q.2⟩
variable {p : Program} {e : Env} {R : Room} {s : State} {m : MethodId} {args : Array Value} {below : List Frame} {meth : Method} {c : Code} {H : Heap} {locs : List Loc} {cells slots : Nat} {Q : State → Prop}
/-- behind a call that only reads -/
theorem s_cont {pc : Nat} {ls : Array Slot} {st0 rest : List Value} {r : Option Value} {a : Array Value} (hr : va_Run p l e R s m args below meth c H locs cells slots 0 0 (F0 m pc ls st0) rest (s_Qi r a) (fun _ => False))
    (kk : W p l e R s m args below meth c H locs cells slots Q (F0 m (pc + 3) ls (r.toList ++ rest))) : W p l e R s m args below meth c H locs cells slots Q (F0 m pc ls st0) := by
  intro T hT X
  obtain ⟨v, st₀, t, T', L, h0, X', hL, e1, -, ⟨hv, hh⟩, st⟩ := hr T hT X
  cases hv
  obtain ⟨t2, a1, b1⟩ := kk T' (by rw [e1, hh, h0]) (Stand.forget X' (fun q h => (hL q h).elim))
  exact ⟨t2, st t2 a1, b1⟩
theorem s_run {y : MethodName} {cc bytes : ByteArray} {maxL nL n idx pc : Nat} {ret : Option FieldType} {rm : Room} {As rest : List Value} {r : Option Value} {own : String} {ls : Array Slot} (hC : x_CallS x_Ts ([] : List Cond) own idx y bytes maxL ret n) (S : CallFix p m c cc nL s args x_Ts own) (hM : Met l y (Cond.code y bytes maxL ret :: x_Ts) rm (va_Pc As (fun U => s_TT z ad adV U U.heap)) (s_Qi r) 0 0 (fun _ => False)) (h1 : rm.cells = 0) (h2 : rm.slots = 0) (h3 : rm.frames + 1 ≤ R.frames) (h4 : 8 + (maxL + 11) + rm.locals ≤ R.locals)
    (hT : ∀ U : State, U.heap = H → s.WarmedH U.vm → s_TT z ad adV U U.heap) (hn : As.length = n) (hl : ls.size = nL) (hcat : (rest.map fun v => v.category).sum ≤ 8) (hd : decode cc pc = .ok (.invokestatic idx, 3)) (hc : cells ≤ R.cells) (hs : slots ≤ R.slots)
    (kk : W p l e R s m args below meth c H locs cells slots Q (F0 m (pc + 3) ls (r.toList ++ rest))) : W p l e R s m args below meth c H locs cells slots Q (F0 m pc ls (As.reverse ++ rest)) :=
  s_cont (hC p l e R s m args below meth c H locs cells slots cc nL rm _ _ 0 0 _ As rest (F0 m pc ls (As.reverse ++ rest)) S (fun _ h => by cases h) hM h1 h2 h3 h4 ⟨s_blind, fun U hU hW => ⟨rfl, hT U hU hW⟩⟩ rfl hn hl rfl (lv_room hcat) hd ⟨by omega, by omega⟩) kk
theorem s_runV {y : MethodName} {cc bytes : ByteArray} {maxL nL n idx pc b : Nat} {ret : Option FieldType} {rm : Room} {As rest : List Value} {r : Option Value} {own C : String} {ls : Array Slot} (hC : x_CallV x_Ts ([] : List Cond) own idx C y bytes maxL ret n) (S : CallFix p m c cc nL s args x_Ts own) (hM : Met l y (Cond.code y bytes maxL ret :: x_Ts) rm (va_Pc (.ref b :: As) (fun U => s_TT z ad adV U U.heap)) (s_Qi r) 0 0 (fun _ => False)) (h1 : rm.cells = 0) (h2 : rm.slots = 0) (h3 : rm.frames + 1 ≤ R.frames) (h4 : 8 + (maxL + 11) + rm.locals ≤ R.locals)
    (hT : ∀ U : State, U.heap = H → s.WarmedH U.vm → s_TT z ad adV U U.heap) (hb : ∃ cell : Cell, H[b]? = some cell ∧ cell.vm.isStatics = false ∧ s.vm.findClass C = some cell.cls) (hn : As.length + 1 = n) (hl : ls.size = nL) (hcat : (rest.map fun v => v.category).sum ≤ 8) (hd : decode cc pc = .ok (.invokevirtual idx, 3)) (hc : cells ≤ R.cells) (hs : slots ≤ R.slots)
    (kk : W p l e R s m args below meth c H locs cells slots Q (F0 m (pc + 3) ls (r.toList ++ rest))) : W p l e R s m args below meth c H locs cells slots Q (F0 m pc ls (As.reverse ++ .ref b :: rest)) :=
  s_cont (hC p l e R s m args below meth c H locs cells slots cc nL rm _ _ 0 0 _ b As rest (F0 m pc ls (As.reverse ++ .ref b :: rest)) S (fun _ h => by cases h) hM h1 h2 h3 h4 ⟨s_blind, hb, fun U hU hW => ⟨rfl, hT U hU hW⟩⟩ rfl hn hl rfl (lv_room hcat) hd ⟨by omega, by omega⟩) kk
end XS
section XT
variable {z : Bool} {ad adV : Nat → Nat} {l : Launch}
theorem s_lv {ls : Array Slot} {n i : Nat} {v : Value} {lv : List (Nat × Value)} (h : lv_has ls n lv) (hm : (i, v) ∈ lv) : ls[i]? = some (.val v) := h.2.2 (i, v) hm
theorem s_mcod {k : Nat} (hk : k < 2) : Met l s_cod (Cond.code s_cod prog_19_method_152_code 1 (some .byte) :: x_Ts) {} (va_Pc [.ref (ad k)] (fun U => s_TT z ad adV U U.heap)) (s_Qi (some (.int 0))) 0 0 (fun _ => False) := by
  refine s_met (by decide +kernel) (by show 1 ≤ 1; omega) ?_
  intro p e s m below meth c ls hx hb hml hown hts hT hlv hr hlk
  have l0 := s_lv hlv (i := 0) (v := .ref (ad k)) List.mem_cons_self
  refine va_gets (A := fun _ => False) (own := "java/lang/String") (index := 38) hx hb hT.2.1 va_S.rf hown (hts _ sf_38) (fun _ h => h) (by decide +kernel) ?_
  refine lv_if_eq (off := 10) (tgt := 13) hx hb (by decide +kernel) rfl (fun q => absurd q (by decide)) (fun _ => ?_)
  refine lv_aload_n (k := 0) hx hb (by decide +kernel) rfl l0 ?_
  refine vk_getf (A := fun _ => False) (own := "java/lang/String") (index := 15) hx hb (hT.1.1 k hk).2.1 va_S.rf hown (hts _ sf_15) (fun _ h => h) (by decide +kernel) ?_
  refine lv_goto (off := 4) (tgt := 14) hx hb (by decide +kernel) rfl ?_
  exact W.zret (v := 0) hx hb hr (by decide +kernel) (fun t ht _ => ⟨rfl, ht⟩) (fun _ h => by cases h) (by decide +kernel) hlk
theorem s_mlat {k : Nat} (hk : k < 2) : Met l s_lat (Cond.code s_lat prog_19_method_154_code 1 (some .boolean) :: x_Ts) {} (va_Pc [.ref (ad k)] (fun U => s_TT z ad adV U U.heap)) (s_Qi (some (.int 1))) 0 0 (fun _ => False) := by
  refine s_met (by decide +kernel) (by show 1 ≤ 1; omega) ?_
  intro p e s m below meth c ls hx hb hml hown hts hT hlv hr hlk
  have l0 := s_lv hlv (i := 0) (v := .ref (ad k)) List.mem_cons_self
  refine va_gets (A := fun _ => False) (own := "java/lang/String") (index := 38) hx hb hT.2.1 va_S.rf hown (hts _ sf_38) (fun _ h => h) (by decide +kernel) ?_
  refine lv_if_eq (off := 14) (tgt := 17) hx hb (by decide +kernel) rfl (fun q => absurd q (by decide)) (fun _ => ?_)
  refine lv_aload_n (k := 0) hx hb (by decide +kernel) rfl l0 ?_
  refine vk_getf (A := fun _ => False) (own := "java/lang/String") (index := 15) hx hb (hT.1.1 k hk).2.1 va_S.rf hown (hts _ sf_15) (fun _ h => h) (by decide +kernel) ?_
  refine lv_if_ne (off := 7) (tgt := 17) hx hb (by decide +kernel) rfl (fun q => absurd rfl q) (fun _ => ?_)
  refine lv_iconst (n := 1) (v := 1) hx hb (by decide +kernel) (by decide) ?_
  refine lv_goto (off := 4) (tgt := 18) hx hb (by decide +kernel) rfl ?_
  exact W.zret (v := 1) hx hb hr (by decide +kernel) (fun t ht _ => ⟨rfl, ht⟩) (fun _ h => by cases h) (by decide +kernel) hlk
theorem s_mpre {i n : Int32} {v : Value} (hv : v.category = 1) (h0 : ¬ i < 0) (h1 : i < n) : Met l s_pre (Cond.code s_pre prog_24_method_11_code 3 (some .int) :: x_Ts) {} (va_Pc [.int i, .int n, v] (fun U => s_TT z ad adV U U.heap)) (s_Qi (some (.int i))) 0 0 (fun _ => False) := by
  refine s_met (by decide +kernel) (by
    show (lg_sl [Value.int i, .int n, v]).length ≤ 3
    unfold lg_sl
    have c1 : (Value.int i).category = 1 := rfl
    have c2 : (Value.int n).category = 1 := rfl
    simp [hv, c1, c2]) ?_
  intro p e s m below meth c ls hx hb hml hown hts hT hlv hr hlk
  have l0 := s_lv hlv (i := 0) (v := .int i) List.mem_cons_self
  have l1 := s_lv hlv (i := 1) (v := .int n) (List.mem_cons_of_mem _ List.mem_cons_self)
  refine lv_iload_n (k := 0) hx hb (by decide +kernel) rfl l0 ?_
  refine lv_if_lt (off := 8) (tgt := 9) hx hb (by decide +kernel) rfl (fun q => absurd q h0) (fun _ => ?_)
  refine lv_iload_n (k := 0) hx hb (by decide +kernel) rfl l0 ?_
  refine lv_iload_n (k := 1) hx hb (by decide +kernel) rfl l1 ?_
  refine lv_icmp_lt (off := 10) (tgt := 16) hx hb (by decide +kernel) rfl (fun _ => ?_) (fun q => absurd h1 q)
  refine lv_iload_n (k := 0) hx hb (by decide +kernel) rfl l0 ?_
  exact W.iret (v := i) hx hb hr (fun t ht _ => ⟨rfl, ht⟩) (fun _ h => by cases h) (by decide +kernel) hlk
theorem s_mchk {i n : Int32} (hz1 : z = true) (h0 : ¬ i < 0) (h1 : i < n) : Met l s_chk (Cond.code s_chk prog_19_method_155_code 2 none :: x_Ts) { frames := 1, locals := 22 } (va_Pc [.int i, .int n] (fun U => s_TT z ad adV U U.heap)) (s_Qi none) 0 0 (fun _ => False) := by
  refine s_met (by decide +kernel) (by show 2 ≤ 2; omega) ?_
  intro p e s m below meth c ls hx hb hml hown hts hT hlv hr hlk
  have l0 := s_lv hlv (i := 0) (v := .int i) List.mem_cons_self
  have l1 := s_lv hlv (i := 1) (v := .int n) (List.mem_cons_of_mem _ List.mem_cons_self)
  refine lv_iload_n (k := 0) hx hb (by decide +kernel) rfl l0 ?_
  refine lv_iload_n (k := 1) hx hb (by decide +kernel) rfl l1 ?_
  have main : ∀ v : Value, v.category = 1 → W p l e { frames := 1, locals := 22 } s m [Value.int i, .int n].toArray below meth c s.heap [] 0 0 (MQ below (s_Qi none) [Value.int i, .int n].toArray s 0 0 (fun _ => False)) (F0 m 5 ls (v :: .int n :: .int i :: [])) := by
    intro v hv
    refine s_run (As := [.int i, .int n, v]) (rest := []) (x_CallS_own x_TsG sk_pre sl_pre_1059 sm_pre si_pre ⟨by decide, by decide, by (show _ = some 3); decide +kernel⟩) ⟨hx, hb, hml, hown, hts⟩ (s_mpre hv h0 h1) rfl rfl (by show 0 + 1 ≤ 1; omega) (by show 8 + (3 + 11) + 0 ≤ 22; omega) (fun U hU hW => s_TT_of hT.1 hT.2.1 hT.2.2 (by rw [hU]; exact va_S.rf) hW.alike) rfl hlv.1 (by simp) (by decide +kernel) (Nat.zero_le _) (Nat.zero_le _) ?_
    refine lv_pop hx hb (by decide +kernel) rfl ?_
    exact W.vret hx hb hr (fun t ht _ => ⟨rfl, ht⟩) (fun _ h => by cases h) (by decide +kernel) hlk
  rcases hT.2.2 hz1 with hz | ⟨t, hz⟩
  · exact va_gets (A := fun _ => False) (own := "java/lang/String") (index := 1053) hx hb hz va_S.rf hown (hts _ sf_1053) (fun _ h => h) (by decide +kernel) (main _ rfl)
  · exact va_gets (A := fun _ => False) (own := "java/lang/String") (index := 1053) hx hb hz va_S.rf hown (hts _ sf_1053) (fun _ h => h) (by decide +kernel) (main _ rfl)
def s_L (k : Nat) : Nat := [1, 3].getD k 0
def s_B (k : Nat) (j : Nat) : Int32 := ([[112], [99, 110, 102]].getD k []).getD j 0
theorem s_Llt {k : Nat} : s_L k ≤ 3 := by
  match k with
  | 0 => decide
  | 1 => decide
  | k + 2 => exact Nat.zero_le _
theorem s_in {k : Nat} {i : Int32} (h : vp_in i (s_L k)) : ∃ j, j < s_L k ∧ i = nI j ∧ i.toNatClampNeg = j := by
  obtain ⟨j, hj, rfl⟩ := nI_of (fun q => h (Or.inl q))
  have e := nI_clamp hj
  exact ⟨j, Nat.not_le.mp fun q => h (Or.inr (by rw [e]; exact q)), rfl, e⟩
theorem s_Lof {k : Nat} {i : Int32} (h : vp_in i (s_L k)) : ¬ i < 0 ∧ i < Int32.ofNat (s_L k) := by
  have h3 := s_Llt (k := k)
  obtain ⟨j, hj, rfl, -⟩ := s_in h
  exact ⟨nI_pos (by omega), nI_lt hj (by omega)⟩
theorem s_Bc {k : Nat} {i : Int32} (hk : k < 2) (h : vp_in i (s_L k)) : ((s_B k i.toNatClampNeg &&& 255).toUInt32 % 65536).toInt32 = s_B k i.toNatClampNeg ∧ narrow .char (.int (s_B k i.toNatClampNeg)) = .int (s_B k i.toNatClampNeg) := by
  obtain ⟨j, hj, -, e⟩ := s_in h
  rw [e]
  rcases x_lt2 hk with rfl | rfl
  · have h9 : j < 1 := hj
    obtain rfl : j = 0 := by omega
    exact ⟨by decide +kernel, by decide +kernel⟩
  · have h9 : j < 3 := hj
    have : j = 0 ∨ j = 1 ∨ j = 2 := by omega
    rcases this with rfl | rfl | rfl <;> exact ⟨by decide +kernel, by decide +kernel⟩
theorem s_mlch {k : Nat} {i : Int32} (hz1 : z = true) (hk : k < 2) (hi : vp_in i (s_L k)) : Met l s_lch (Cond.code s_lch prog_20_method_2_code 2 (some .char) :: x_Ts) { frames := 2, locals := 43 } (va_Pc [.ref (adV k), .int i] (fun U => s_TT z ad adV U U.heap)) (s_Qi (some (.int (s_B k i.toNatClampNeg)))) 0 0 (fun _ => False) := by
  refine s_met (by decide +kernel) (by show 2 ≤ 2; omega) ?_
  intro p e s m below meth c ls hx hb hml hown hts hT hlv hr hlk
  have l0 := s_lv hlv (i := 0) (v := .ref (adV k)) List.mem_cons_self
  have l1 := s_lv hlv (i := 1) (v := .int i) (List.mem_cons_of_mem _ List.mem_cons_self)
  obtain ⟨h0, h1⟩ := s_Lof hi
  refine lv_iload_n (k := 1) hx hb (by decide +kernel) rfl l1 ?_
  refine lv_aload_n (k := 0) hx hb (by decide +kernel) rfl l0 ?_
  refine va_tlen (A := fun _ => False) (v := Int32.ofNat (s_L k)) hx hb (hT.1.1 k hk).2.2.2 va_S.rf rfl (by decide +kernel) ?_
  refine s_run (As := [.int i, .int (Int32.ofNat (s_L k))]) (rest := []) (x_CallS_own x_TsG sk_chk sl_chk_9 sm_chk si_chk ⟨by decide, by decide, by (show _ = some 2); decide +kernel⟩) ⟨hx, hb, hml, hown, hts⟩ (s_mchk hz1 h0 h1) rfl rfl (by show 1 + 1 ≤ 2; omega) (by show 8 + (2 + 11) + 22 ≤ 43; omega) (fun U hU hW => s_TT_of hT.1 hT.2.1 hT.2.2 (by rw [hU]; exact va_S.rf) hW.alike) rfl hlv.1 (by simp) (by decide +kernel) (Nat.zero_le _) (Nat.zero_le _) ?_
  refine lv_aload_n (k := 0) hx hb (by decide +kernel) rfl l0 ?_
  refine lv_iload_n (k := 1) hx hb (by decide +kernel) rfl l1 ?_
  refine va_tb (A := fun _ => False) (v := .int (s_B k i.toNatClampNeg)) hx hb (hT.1.1 k hk).2.2.2 va_S.rf hi rfl (by decide +kernel) ?_
  refine lv_sipush (n := 255) (v := 255) hx hb (by decide +kernel) (by decide) ?_
  refine lv_iand hx hb (by decide +kernel) ?_
  refine lv_i2c (v := s_B k i.toNatClampNeg) hx hb (by decide +kernel) (s_Bc hk hi).1 ?_
  exact W.zret (v := s_B k i.toNatClampNeg) hx hb hr (s_Bc hk hi).2 (fun t ht _ => ⟨rfl, ht⟩) (fun _ h => by cases h) (by decide +kernel) hlk
theorem s_mchr {k : Nat} {i : Int32} (hz1 : z = true) (hk : k < 2) (hi : vp_in i (s_L k)) : Met l s_chr (Cond.code s_chr prog_19_method_56_code 2 (some .char) :: x_Ts) { frames := 3, locals := 64 } (va_Pc [.ref (ad k), .int i] (fun U => s_TT z ad adV U U.heap)) (s_Qi (some (.int (s_B k i.toNatClampNeg)))) 0 0 (fun _ => False) := by
  refine s_met (by decide +kernel) (by show 2 ≤ 2; omega) ?_
  intro p e s m below meth c ls hx hb hml hown hts hT hlv hr hlk
  have l0 := s_lv hlv (i := 0) (v := .ref (ad k)) List.mem_cons_self
  have l1 := s_lv hlv (i := 1) (v := .int i) (List.mem_cons_of_mem _ List.mem_cons_self)
  refine lv_aload_n (k := 0) hx hb (by decide +kernel) rfl l0 ?_
  refine s_runV (As := []) (rest := []) (x_CallV_own x_TsG sk_lat sl_lat_492 sm_lat si_lat ss_lat ⟨by decide, by decide, by decide +kernel⟩) ⟨hx, hb, hml, hown, hts⟩ (s_mlat hk) rfl rfl (by show 0 + 1 ≤ 3; omega) (by show 8 + (1 + 11) + 0 ≤ 64; omega) (fun U hU hW => s_TT_of hT.1 hT.2.1 hT.2.2 (by rw [hU]; exact va_S.rf) hW.alike) (vk_recv hT.1 hk va_S.rf) rfl hlv.1 (by simp) (by decide +kernel) (Nat.zero_le _) (Nat.zero_le _) ?_
  refine lv_if_eq (off := 12) (tgt := 16) hx hb (by decide +kernel) rfl (fun q => absurd q (by decide)) (fun _ => ?_)
  refine lv_aload_n (k := 0) hx hb (by decide +kernel) rfl l0 ?_
  refine vk_getf (A := fun _ => False) (own := "java/lang/String") (index := 9) hx hb (hT.1.1 k hk).2.2.1 va_S.rf hown (hts _ sf_9) (fun _ h => h) (by decide +kernel) ?_
  refine lv_iload_n (k := 1) hx hb (by decide +kernel) rfl l1 ?_
  refine s_run (As := [.ref (adV k), .int i]) (rest := []) (x_CallS_own x_TsG sk_lch sl_lch_495 sm_lch si_lch ⟨by decide, by decide, by (show _ = some 2); decide +kernel⟩) ⟨hx, hb, hml, hown, hts⟩ (s_mlch hz1 hk hi) rfl rfl (by show 2 + 1 ≤ 3; omega) (by show 8 + (2 + 11) + 43 ≤ 64; omega) (fun U hU hW => s_TT_of hT.1 hT.2.1 hT.2.2 (by rw [hU]; exact va_S.rf) hW.alike) rfl hlv.1 (by simp) (by decide +kernel) (Nat.zero_le _) (Nat.zero_le _) ?_
  exact W.zret (v := s_B k i.toNatClampNeg) hx hb hr (s_Bc hk hi).2 (fun t ht _ => ⟨rfl, ht⟩) (fun _ h => by cases h) (by decide +kernel) hlk
theorem s_mlen {k : Nat} (hk : k < 2) : Met l s_len (Cond.code s_len prog_19_method_54_code 1 (some .int) :: x_Ts) { frames := 1, locals := 20 } (va_Pc [.ref (ad k)] (fun U => s_TT z ad adV U U.heap)) (s_Qi (some (.int (Int32.ofNat (s_L k))))) 0 0 (fun _ => False) := by
  refine s_met (by decide +kernel) (by show 1 ≤ 1; omega) ?_
  intro p e s m below meth c ls hx hb hml hown hts hT hlv hr hlk
  have l0 := s_lv hlv (i := 0) (v := .ref (ad k)) List.mem_cons_self
  refine lv_aload_n (k := 0) hx hb (by decide +kernel) rfl l0 ?_
  refine vk_getf (A := fun _ => False) (own := "java/lang/String") (index := 9) hx hb (hT.1.1 k hk).2.2.1 va_S.rf hown (hts _ sf_9) (fun _ h => h) (by decide +kernel) ?_
  refine va_tlen (A := fun _ => False) (v := Int32.ofNat (s_L k)) hx hb (hT.1.1 k hk).2.2.2 va_S.rf rfl (by decide +kernel) ?_
  refine lv_aload_n (k := 0) hx hb (by decide +kernel) rfl l0 ?_
  refine s_runV (As := []) (rest := [.int (Int32.ofNat (s_L k))]) (x_CallV_own x_TsG sk_cod sl_cod_335 sm_cod si_cod ss_cod ⟨by decide, by decide, by decide +kernel⟩) ⟨hx, hb, hml, hown, hts⟩ (s_mcod hk) rfl rfl (by show 0 + 1 ≤ 1; omega) (by show 8 + (1 + 11) + 0 ≤ 20; omega) (fun U hU hW => s_TT_of hT.1 hT.2.1 hT.2.2 (by rw [hU]; exact va_S.rf) hW.alike) (vk_recv hT.1 hk va_S.rf) rfl hlv.1 (by simp [Value.category]) (by decide +kernel) (Nat.zero_le _) (Nat.zero_le _) ?_
  refine lv_ishr hx hb (by decide +kernel) ?_
  have e1 : Int32.ofNat (s_L k) >>> ((0 : Int32) &&& 31) = Int32.ofNat (s_L k) := by
    rcases x_lt2 hk with rfl | rfl <;> decide +kernel
  rw [e1]
  exact W.iret (v := Int32.ofNat (s_L k)) hx hb hr (fun t ht _ => ⟨rfl, ht⟩) (fun _ h => by cases h) (by decide +kernel) hlk
theorem x_slen : x_SLen x_Ts "StreamRefuter$Words" 55 := by
  intro p l e R s m args below meth c H locs cells slots cc nL Q A ad adV pc k ls rest S hl h1 h2 hS hk hcat hf hlo hc hs hd kk
  exact s_runV (As := []) (x_CallV_own x_TsG sk_len sl_len_55 sm_len si_len ss_len ⟨by decide, by decide, by decide +kernel⟩) S (s_mlen (z := false) (ad := ad) (adV := adV) hk) rfl rfl (by show 1 + 1 ≤ R.frames; omega) (by show 8 + (1 + 11) + 20 ≤ R.locals; omega) (fun U hU hW => s_TT_of h1 h2 (fun z => by cases z) (by rw [hU]; exact hS) hW.alike) (vk_recv h1 hk hS) rfl hl hcat hd hc hs kk
theorem x_schr : x_SChr x_Ts "StreamRefuter$Words" 63 := by
  intro p l e R s m args below meth c H locs cells slots cc nL Q A ad adV pc k i ls rest S hl h1 h2 h3 hS hk hi hcat hf hlo hc hs hd kk
  exact s_runV (As := [.int i]) (x_CallV_own x_TsG sk_chr sl_chr_63 sm_chr si_chr ss_chr ⟨by decide, by decide, by (show _ = some 1); decide +kernel⟩) S (s_mchr (z := true) (ad := ad) (adV := adV) rfl hk hi) rfl rfl (by show 3 + 1 ≤ R.frames; omega) (by show 8 + (2 + 11) + 64 ≤ R.locals; omega) (fun U hU hW => s_TT_of h1 h2 (fun _ => h3) (by rw [hU]; exact hS) hW.alike) (vk_recv h1 hk hS) rfl hl hcat hd hc hs kk
end XT
