/-! Throws: an invocation seen as begun anew where it stands. -/
theorem x_rebase {p : Program} {l : Launch} {e : Env} {R : Room} {s : State} {m : MethodId} {args : Array Value} {below : List Frame} {meth : Method} {c : Code} {T : State} {locs : List Loc} {cells slots : Nat}
    (X : Stand p l e R s m args below meth c T locs cells slots) (hc : cells ≤ R.cells) (hs : slots ≤ R.slots) :
    Stand p l e { frames := R.frames, cells := 0, slots := 0, locals := R.locals } (T.setFrames (.invoking m args :: below)) m args below meth c T [] 0 0 := by
  obtain ⟨g0, hg0⟩ := Option.isSome_iff_exists.mp X.here.top
  obtain ⟨r, hr⟩ := State.topJava?_eq_some.mp hg0
  have hcur : T.cur < T.threads.size := State.cur_lt_of_frames hr
  have hfr : (T.setFrames (.invoking m args :: below)).frames = .invoking m args :: below := State.frames_setFrames _ hcur
  have hm' : T.vm.method? m = some meth := X.method'
  have hal := X.warmed.alike
  obtain ⟨t, ht, -⟩ := State.frames_cons hr
  have hroom := X.room
  simp only [State.hasRoom, Bool.and_eq_true, decide_eq_true_eq] at hroom
  obtain ⟨⟨⟨⟨r1, r2, r3, r4, r5, r6⟩, r7⟩, r8⟩, r9⟩ := hroom
  have hloc : (T.setFrames (.invoking m args :: below)).localsInUse = s.localsInUse := by
    rw [State.localsInUse_invoking hfr (by exact hm') X.code, State.localsInUse_invoking X.frames X.method X.code]
  refine ⟨X.admits, X.cas, X.clock, hfr, ?_, ?_, hm', X.code, X.here, X.tail, State.WarmedH.refl _, ?_, ?_, ?_⟩
  · simp only [State.hasRoom, Bool.and_eq_true, decide_eq_true_eq]
    rw [hloc, hfr, State.stackLimits_setFrames, State.stackBytes_setFrames, X.limits, X.bytes]
    rw [X.frames] at r2 r3
    have h1 : T.heap.size ≤ s.heap.size + cells := X.heapSize
    have h2 := X.used
    refine ⟨⟨⟨⟨r1, r2, r3, r4, r5, r6⟩, ?_⟩, ?_⟩, X.book⟩
    · show T.heap.size + 0 ≤ _
      omega
    · show T.slotsUsed + 0 ≤ _
      omega
  · have hh := X.hears
    have e1 : (T.setFrames (.invoking m args :: below)).vm.method? m = s.vm.method? m := hm'.trans X.method.symm
    have e2 : ∀ m2, (T.setFrames (.invoking m args :: below)).code? m2 = s.code? m2 := fun m2 => by
      rw [State.code?_eq, State.code?_eq]
      show (T.vm.method? m2).bind _ = _
      rw [hal.method?]
    unfold State.hears at hh ⊢
    split at hh
    · rw [e2]; exact hh
    · rfl
    · rfl
    · rw [e1]; exact hh
  · rw [State.stackLimits_setFrames]
  · rw [State.stackBytes_setFrames]
  · have h0 : T.setFrames T.frames = T := State.setFrames_self ht
    have hdr : T.heap.toList.drop T.heap.size = [] := List.drop_eq_nil_of_le (by rw [Array.length_toList]; exact Nat.le_refl _)
    refine ⟨?_, Nat.le_refl _, Nat.le_refl _, ?_, ?_, fun a c hc => ⟨c, hc, rfl, rfl, fun _ _ => rfl⟩⟩
    · show T = ({ (T.setFrames (.invoking m args :: below)).setFrames T.frames with heap := T.heap, slotsUsed := T.slotsUsed } : State)
      rw [State.setFrames_setFrames, h0]
    · show T.slotsUsed = T.slotsUsed + ((T.heap.toList.drop T.heap.size).map _).sum
      rw [hdr]; rfl
    · show ((T.heap.toList.drop T.heap.size).map _).sum ≤ 0
      rw [hdr]; exact Nat.le_refl _
