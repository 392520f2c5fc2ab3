/-! Throws: an invocation seen as begun anew where it stands. -/
theorem x_rebase {p : Program} {l : Launch} {e : Env} {R : Room} {s : State} {m : MethodId} {args : Array Value} {below : List Frame} {meth : Method} {c : Code} {T : State} {locs : List Loc} {cells slots : Nat}
    {rc rs : Nat} (X : Stand p l e R s m args below meth c T locs cells slots) (hc : cells + rc ≤ R.cells) (hs : slots + rs ≤ R.slots) :
    Stand p l e { frames := R.frames, cells := rc, slots := rs, locals := R.locals } (T.setFrames (.invoking m args :: below)) m args below meth c T [] 0 0 := by
  obtain ⟨g0, hg0⟩ := Option.isSome_iff_exists.mp X.here.top
  obtain ⟨r, hr⟩ := State.topJava?_eq_some.mp hg0
  have hcur : T.cur < T.threads.size := State.cur_lt_of_frames hr
  have hfr : (T.setFrames (.invoking m args :: below)).frames = .invoking m args :: below := State.frames_setFrames _ hcur
  have hm' : T.vm.method? m = some meth := X.method'
  have hal := X.warmed.alike
  obtain ⟨t, ht, -⟩ := State.frames_cons hr
  have hroom := X.room
  simp only [State.hasRoom, Bool.and_eq_true, decide_eq_true_eq] at hroom
  obtain ⟨⟨⟨⟨r1, r2, r3, r4, r5, r6⟩, r7⟩, r8⟩, r9⟩ := hroom
  have hloc : (T.setFrames (.invoking m args :: below)).localsInUse = s.localsInUse := by
    rw [State.localsInUse_invoking hfr (by exact hm') X.code, State.localsInUse_invoking X.frames X.method X.code]
  refine ⟨X.admits, X.cas, X.clock, hfr, ?_, ?_, hm', X.code, X.here, X.tail, State.WarmedH.refl _, ?_, ?_, ?_⟩
  · simp only [State.hasRoom, Bool.and_eq_true, decide_eq_true_eq]
    rw [hloc, hfr, State.stackLimits_setFrames, State.stackBytes_setFrames, X.limits, X.bytes]
    rw [X.frames] at r2 r3
    have h1 : T.heap.size ≤ s.heap.size + cells := X.heapSize
    have h2 := X.used
    refine ⟨⟨⟨⟨r1, r2, r3, r4, r5, r6⟩, ?_⟩, ?_⟩, X.book⟩
    · show T.heap.size + rc ≤ _
      omega
    · show T.slotsUsed + rs ≤ _
      omega
  · have hh := X.hears
    have e1 : (T.setFrames (.invoking m args :: below)).vm.method? m = s.vm.method? m := hm'.trans X.method.symm
    have e2 : ∀ m2, (T.setFrames (.invoking m args :: below)).code? m2 = s.code? m2 := fun m2 => by
      rw [State.code?_eq, State.code?_eq]
      show (T.vm.method? m2).bind _ = _
      rw [hal.method?]
    unfold State.hears at hh ⊢
    split at hh
    · rw [e2]; exact hh
    · rfl
    · rfl
    · rw [e1]; exact hh
  · rw [State.stackLimits_setFrames]
  · rw [State.stackBytes_setFrames]
  · have h0 : T.setFrames T.frames = T := State.setFrames_self ht
    have hdr : T.heap.toList.drop T.heap.size = [] := List.drop_eq_nil_of_le (by rw [Array.length_toList]; exact Nat.le_refl _)
    refine ⟨?_, Nat.le_refl _, Nat.le_refl _, ?_, ?_, fun a c hc => ⟨c, hc, rfl, rfl, fun _ _ => rfl⟩⟩
    · show T = ({ (T.setFrames (.invoking m args :: below)).setFrames T.frames with heap := T.heap, slotsUsed := T.slotsUsed } : State)
      rw [State.setFrames_setFrames, h0]
    · show T.slotsUsed = T.slotsUsed + ((T.heap.toList.drop T.heap.size).map _).sum
      rw [hdr]; rfl
    · show ((T.heap.toList.drop T.heap.size).map _).sum ≤ 0
      rw [hdr]; exact Nat.le_refl _
/-- an end by a throw -/
def x_QT (below : List Frame) (s : State) (mc ms : Nat) (free : Nat → Prop) (QT : Addr → State → Prop) : State → Prop := fun t =>
  ∃ a, t.status = .running ∧ Ended t below (.threw a) ∧ QT a t ∧ s.WarmedH t.vm ∧ ∃ L, s.sameButNew ({ t with vm := s.vm } : State) L mc ms ∧ ∀ q ∈ L, free q.base
/-- the atoms that stay as tables warm and cells are written outside the statics -/
def x_atoms (own : String) (ic : Nat) (Xc : String) (names : List String) (w : Cond) : Prop :=
  goodWord w = true ∨ w = .castable Xc Xc ∨ w = .laysStatic Bundle.tN "UNASSIGNED_STACK" Bundle.steD ∨ w = .laysStatic Bundle.tN "SUPPRESSED_SENTINEL" Bundle.listD ∨ w = .isRef (.static Bundle.tN "UNASSIGNED_STACK" Bundle.steD) ∨ w = .isRef (.static Bundle.tN "SUPPRESSED_SENTINEL" Bundle.listD) ∨ ∃ (M : MethodName) (bytes : ByteArray) (maxL : Nat) (ret : Option FieldType), w = .declares M ∧ Cond.instanceMethod M ∈ Bundle.ownAtoms0 own ic Xc names ∧ Cond.code M bytes maxL ret ∈ Bundle.ownAtoms0 own ic Xc names
theorem x_decl {args : Array Value} {s : State} {M : MethodName} {bytes : ByteArray} {maxL : Nat} {ret : Option FieldType} (h1 : (Cond.instanceMethod M).before args s = true) (h2 : (Cond.code M bytes maxL ret).before args s = true) : (Cond.declares M).before args s = true := by
  obtain ⟨m, meth, e1, e2, e3, -⟩ := Cond.instanceMethod_spec h1
  obtain ⟨meth2, c, q1, -, -, -, -, -, -, q2⟩ := Cond.code_spec e1 h2
  rw [e2] at q1
  cases q1
  simp [Cond.before, Cond.holds, Cond.value, e1, e2, e3, q2]
section X26
variable {p : Program} {l : Launch} {e : Env} {R : Room} {s : State} {m : MethodId} {args : Array Value} {below : List Frame} {meth : Method} {c : Code} {H : Heap} {locs : List Loc} {cells slots : Nat} {A : Nat → Prop} {cc : ByteArray} {pc : Nat} {ls : Array Slot} {QT : Addr → State → Prop}
set_option maxHeartbeats 2000000 in
theorem x_thrown {own Xc : String} {names : List String} {idx ic : Nat} (hx : p.tables.exec = Jvm.exec) (hb : c.code = cc) (hml : ls.size = c.maxLocals) (hlk : meth.locks = false) (htr : ∀ e, l.admits e → e.platform.stackTraces = false) (hown : s.vm.findClass own = some m.cls)
    (hfit : Bundle.fit Xc = true) (hnames : ∀ n ∈ names, Bundle.fit n = true) (hkind : ∀ w ∈ Bundle.ownAtoms0 own ic Xc names, x_atoms own ic Xc names w)
    (hgood : ∀ w ∈ Bundle.ownAtoms0 own ic Xc names, goodWord w = true → w.before args s = true) (hcast : va_Nw (.castable Xc Xc) s) (hu : x_st Bundle.tN "UNASSIGNED_STACK" Bundle.steD A s s.heap) (hsn : x_st Bundle.tN "SUPPRESSED_SENTINEL" Bundle.listD A s s.heap)
    (hS : va_S A s.heap H locs) (hA : ∀ q, s.heap.size ≤ q → A q) (hcl : (Cond.classLink own idx Xc).before args s = true) (hin : (Cond.instantiable Xc 6).before args s = true) (hini : (Cond.initialized Xc).before args s = true)
    (hout : ∀ x ∈ c.exceptionTable.toList, covers x (pc + 4 + 3) = false)
    (d0 : decode cc pc = .ok (.new idx, 3)) (d3 : decode cc (pc + 3) = .ok (.dup, 1)) (d4 : decode cc (pc + 3 + 1) = .ok (.invokespecial ic, 3)) (d7 : decode cc (pc + 3 + 1 + 3) = .ok (.athrow, 1))
    (hcells : cells + 1 ≤ R.cells) (hslots : slots + 6 ≤ R.slots) (hfr : names.length + 3 < R.frames) (hlo : 13 * (names.length + 1) + 45 ≤ R.locals)
    (hq : ∀ (U : State) (ce : Cell), U.heap[H.size]? = some ce → (∀ q, q < H.size → U.heap[q]? = H[q]?) → ce.vm.isStatics = false → s.vm.findClass Xc = some ce.cls → s.vm.Alike U.vm → QT H.size U) :
    W p l e R s m args below meth c H locs cells slots (x_QT below s (cells + 1) (slots + 6) A QT) (F0 m pc ls []) := by
  intro T0 hT0 X0
  have Y0 := x_rebase (rc := 1) (rs := 6) X0 hcells hslots
  have hW0 : s.WarmedH T0.vm := X0.warmed
  have hal : s.vm.Alike T0.vm := hW0.alike
  generalize hs' : T0.setFrames (.invoking m args :: below) = s' at Y0
  have hvm' : s'.vm = T0.vm := by rw [← hs']; rfl
  have hhp' : s'.heap = H := by rw [← hs', ← hT0]; rfl
  have hW' : s.WarmedH s'.vm := by rw [hvm']; exact hW0
  have hal' : s.vm.Alike s'.vm := hW'.alike
  have hS' : va_S A s.heap s'.heap locs := by rw [hhp']; exact hS
  have word : ∀ w ∈ Bundle.ownAtoms0 own ic Xc names, w.before args s' = true := by
    intro w hw
    rcases hkind w hw with h | rfl | rfl | rfl | rfl | rfl | ⟨M, bytes, maxL, ret, rfl, hi, hc⟩
    · exact word_at hW' (good_of_word h) (hgood w hw h)
    · exact va_Nw.use rfl (va_Nw.warmC hW' hcast)
    · exact x_st_lays (x_st_to hu hS' hal' (fun _ _ h => h))
    · exact x_st_lays (x_st_to hsn hS' hal' (fun _ _ h => h))
    · exact x_st_ref (x_st_to hu hS' hal' (fun _ _ h => h))
    · exact x_st_ref (x_st_to hsn hS' hal' (fun _ _ h => h))
    · exact x_decl (word_at hW' (Or.inl rfl) (hgood _ hi rfl)) (word_at hW' (Or.inl rfl) (hgood _ hc rfl))
  have hown' : s'.vm.findClass own = some m.cls := by rw [hal'.findClass]; exact hown
  have hcl' : (Cond.classLink own idx Xc).before args s' = true := word_at hW' (Or.inl rfl) hcl
  have hin' : (Cond.instantiable Xc 6).before args s' = true := word_at hW' (Or.inl rfl) hin
  have hini' : (Cond.initialized Xc).before args s' = true := word_at hW' (Or.inl rfl) hini
  have K : W p l e { frames := R.frames, cells := 1, slots := 6, locals := R.locals } s' m args below meth c H [] 0 0 (fun t => t.status = .running ∧ Ended t below (.threw H.size) ∧ s'.WarmedH t.vm ∧ s'.sameButNew ({ t with vm := s'.vm } : State) [] 1 6 ∧ ∃ ce, t.heap[H.size]? = some ce ∧ ce.vm.isStatics = false ∧ s'.vm.findClass Xc = some ce.cls) (F0 m pc ls []) := by
    obtain ⟨cX, kX, hfX, hkX, -⟩ := Cond.instantiable_spec hin'
    refine W.newcK hx hb hown' hcl' hin' hini' rfl d0 (by exact Nat.le_refl _) (by exact Nat.le_refl _) hfX rfl fun H1 kC hkC e1 z1 o1 => ?_
    refine lv_dup (va := .ref H.size) hx hb d3 rfl ?_
    intro T hT X
    obtain ⟨U, st, hrun, hend, hW, hsame, ce, hce, hoc⟩ := X.ctorThrow0 hx (htr e X.admits) hown' hfit hnames word (fun x hx => by cases hx) hfX hkC (a := H.size) (by rw [hT]; exact e1) (by rw [hhp']; exact Nat.le_refl _) (g := F0 m (pc + 3 + 1) ls [.ref H.size, .ref H.size]) rfl hml rfl rfl (rest := []) rfl (by rw [hb]; exact d4) (by rw [hb]; exact d7) hout hfr (by
      show 2 * 0 + (([Value.ref H.size]).map fun v => v.category).sum + (13 * (names.length + 1) + 41) ≤ R.locals
      have : (([Value.ref H.size]).map fun v => v.category).sum = 1 := rfl
      omega) hlk
    exact ⟨U, st, hrun, hend, hW, hsame, ce, hce, by rw [hoc.vm]; rfl, hoc.cls⟩
  obtain ⟨t, st, hrun, hend, hW, hsame, ce, hce, hcv, hcc⟩ := K T0 hT0 Y0
  have hsT : T0.sameButNew (t.setVm T0.vm) [] 1 6 := by
    rw [← hs'] at hsame
    obtain ⟨q1, q2⟩ := hsame
    refine ⟨?_, q2⟩
    have e9 : (T0.setFrames (.invoking m args :: below)).setFrames t.frames = T0.setFrames t.frames := State.setFrames_setFrames _ _ _
    have q1' : ({ t with vm := T0.vm } : State) = { (T0.setFrames (.invoking m args :: below)).setFrames t.frames with heap := t.heap, slotsUsed := t.slotsUsed } := q1
    rw [e9] at q1'
    exact q1'
  have hkeep : ∀ q, q < H.size → t.heap[q]? = H[q]? := by
    intro q hq0
    obtain ⟨c9, hq1⟩ : ∃ c9, H[q]? = some c9 := ⟨_, Array.getElem?_eq_getElem hq0⟩
    obtain ⟨c', k1, k2, k3, k4⟩ := hsT.2.2.2.2.2 q c9 (by rw [hT0]; exact hq1)
    have k1 : t.heap[q]? = some c' := k1
    have e8 : c'.slots = c9.slots := Array.ext_getElem? fun i => k4 i (by simp)
    rw [k1, hq1, k2, e8]
  refine ⟨t, st, H.size, hrun, hend, hq t ce hce hkeep hcv (by rw [← hal'.findClass]; exact hcc) (hal'.trans hW.alike), State.WarmedH.trans hW' hW, locs ++ [], ?_, fun q hq1 => ?_⟩
  · exact X0.same.trans (hsT.setVm s.vm)
  · rw [List.append_nil] at hq1
    exact hS.2.2 q hq1
end X26
