/-! Calls out of words. -/
section X12
variable {Ts Nw : List Cond} {own : String} {idx : Nat} {y : MethodName} {bytes : ByteArray} {maxL n : Nat} {ret : Option FieldType}
theorem x_goodT (hG : ∀ w ∈ Ts, goodWord w = true) {ws : List Cond} (h : ∀ w ∈ ws, w ∈ Ts) : GoodIn Ts ws := fun w hw => ⟨h w hw, good_of_word (hG w (h w hw))⟩
theorem x_goodC (hG : ∀ w ∈ Ts, goodWord w = true) (hc : Cond.code y bytes maxL ret ∈ Ts) : GoodIn Ts (Cond.code y bytes maxL ret :: Ts) := x_goodT hG fun w hw => by
  rcases List.mem_cons.mp hw with rfl | hw
  · exact hc
  · exact hw
theorem x_CallS_own (hG : ∀ w ∈ Ts, goodWord w = true) (hc : Cond.code y bytes maxL ret ∈ Ts) (hl : Cond.methodLink own idx y ∈ Ts) (hs : Cond.static y ∈ Ts) (hi : Cond.initialized y.cls ∈ Ts)
    (hd : y.cls ≠ "java/lang/invoke/MethodHandle" ∧ y.cls ≠ "java/lang/invoke/VarHandle" ∧ (parseMethodDescriptor y.desc).map (fun d => d.parameters.length) = some n) : x_CallS Ts Nw own idx y bytes maxL ret n := by
  intro p l e R s m args below meth c H locs cells slots cc nL rm Pc Qc mc ms free As rest g S hNw hM h1 h2 h3 h4 hp hg hn hsz hst hW hdg hf
  have ht := S.2.2.2.2
  exact va_runS S hM ⟨callB_of n ht (x_goodC hG hc) rfl h1 h2 (ht _ hi) (ht _ hl) hd ⟨h3, h4⟩, ht _ hs⟩ hp hg hn hsz hst hW hdg hf
theorem x_CallS_nest {host : String} (hG : ∀ w ∈ Ts, goodWord w = true) (hc : Cond.code y bytes maxL ret ∈ Ts) (hl : Cond.methodLinkNest own idx y host ∈ Nw) (hs : Cond.static y ∈ Ts) (hi : Cond.initialized y.cls ∈ Ts)
    (hd : y.cls ≠ "java/lang/invoke/MethodHandle" ∧ y.cls ≠ "java/lang/invoke/VarHandle" ∧ (parseMethodDescriptor y.desc).map (fun d => d.parameters.length) = some n) : x_CallS Ts Nw own idx y bytes maxL ret n := by
  intro p l e R s m args below meth c H locs cells slots cc nL rm Pc Qc mc ms free As rest g S hNw hM h1 h2 h3 h4 hp hg hn hsz hst hW hdg hf
  have ht := S.2.2.2.2
  exact va_runSN S hM ⟨va_cnB n ht (x_goodC hG hc) rfl h1 h2 (hNw _ hl) (ht _ hi) hd ⟨h3, h4⟩, ht _ hs, trivial⟩ hp hg hn hsz hst hW hdg hf
theorem x_CallI_own (hG : ∀ w ∈ Ts, goodWord w = true) (hc : Cond.code y bytes maxL none ∈ Ts) (hl : Cond.methodLink own idx y ∈ Ts) (hs : Cond.instanceMethod y ∈ Ts) (hi : Cond.initialized y.cls ∈ Ts) (hy : y.name = "<init>")
    (hd : y.cls ≠ "java/lang/invoke/MethodHandle" ∧ y.cls ≠ "java/lang/invoke/VarHandle" ∧ (parseMethodDescriptor y.desc).map (fun d => d.parameters.length) = some n) : x_CallI Ts Nw own idx y bytes maxL (n + 1) := by
  intro p l e R s m args below meth c H locs cells slots cc nL rm Pc Qc mc ms free b As rest g S hNw hM h1 h2 h3 h4 hp hg hn hsz hst hW hdg hf
  have ht := S.2.2.2.2
  exact va_runI S hM (cwI n ht (x_goodC hG hc) rfl h1 h2 (ht _ hi) (ht _ hl) (ht _ hs) hy hd ⟨h3, h4⟩) hp hg (by omega) hsz hst hW hdg hf
theorem x_CallI_nest {host : String} (hG : ∀ w ∈ Ts, goodWord w = true) (hc : Cond.code y bytes maxL none ∈ Ts) (hl : Cond.methodLinkNest own idx y host ∈ Nw) (hs : Cond.instanceMethod y ∈ Ts) (hi : Cond.initialized y.cls ∈ Ts) (hy : y.name = "<init>")
    (hd : y.cls ≠ "java/lang/invoke/MethodHandle" ∧ y.cls ≠ "java/lang/invoke/VarHandle" ∧ (parseMethodDescriptor y.desc).map (fun d => d.parameters.length) = some n) : x_CallI Ts Nw own idx y bytes maxL (n + 1) := by
  intro p l e R s m args below meth c H locs cells slots cc nL rm Pc Qc mc ms free b As rest g S hNw hM h1 h2 h3 h4 hp hg hn hsz hst hW hdg hf
  have ht := S.2.2.2.2
  exact va_runIN S hM ⟨va_cnB n ht (x_goodC hG hc) rfl h1 h2 (hNw _ hl) (ht _ hi) hd ⟨h3, h4⟩, hy, ht _ hs⟩ hp hg (by omega) hsz hst hW hdg hf
theorem x_CallV_own (hG : ∀ w ∈ Ts, goodWord w = true) (hc : Cond.code y bytes maxL ret ∈ Ts) (hl : Cond.methodLink own idx y ∈ Ts) (hs : Cond.instanceMethod y ∈ Ts) (hi : Cond.initialized y.cls ∈ Ts) (hse : Cond.selects y.cls y y ∈ Ts)
    (hd : y.cls ≠ "java/lang/invoke/MethodHandle" ∧ y.cls ≠ "java/lang/invoke/VarHandle" ∧ (parseMethodDescriptor y.desc).map (fun d => d.parameters.length) = some n) : x_CallV Ts Nw own idx y.cls y bytes maxL ret (n + 1) := by
  intro p l e R s m args below meth c H locs cells slots cc nL rm Pc Qc mc ms free b As rest g S hNw hM h1 h2 h3 h4 hp hg hn hsz hst hW hdg hf
  have ht := S.2.2.2.2
  exact va_runV S hM ⟨callB_of n ht (x_goodC hG hc) rfl h1 h2 (ht _ hi) (ht _ hl) hd ⟨h3, h4⟩, ht _ hs, ht _ hse⟩ hp hg (by omega) hsz hst hW hdg hf
/-- an inherited method, by its own code's owner -/
theorem x_CallV_up {C : String} {x : MethodName} (hG : ∀ w ∈ Ts, goodWord w = true) (hc : Cond.code y bytes maxL ret ∈ Ts) (hl : Cond.methodLink own idx x ∈ Ts) (hsm : Cond.sameMethod x.cls y.cls x.name x.desc ∈ Ts) (hs : Cond.instanceMethod y ∈ Ts) (hi : Cond.initialized y.cls ∈ Ts) (hse : Cond.selects C x y ∈ Ts) (hyx : y = ⟨y.cls, x.name, x.desc⟩)
    (hd : y.cls ≠ "java/lang/invoke/MethodHandle" ∧ y.cls ≠ "java/lang/invoke/VarHandle" ∧ (parseMethodDescriptor x.desc).map (fun d => d.parameters.length) = some n) : x_CallV Ts Nw own idx C y bytes maxL ret (n + 1) := by
  intro p l e R s m args below meth c H locs cells slots cc nL rm Pc Qc mc ms free b As rest g S hNw hM h1 h2 h3 h4 hp hg hn hsz hst hW hdg hf
  have ht := S.2.2.2.2
  refine va_runU (owner := y.cls) S hM (va_cwU n ht (x_goodT hG fun w hw => ?_) rfl h1 h2 hyx hd ⟨h3, h4⟩) hp hg (by omega) hsz hst hW hdg hf
  simp only [va_wsU, List.mem_append, List.mem_cons, List.not_mem_nil, or_false] at hw
  rcases hw with (rfl | rfl | rfl | rfl | rfl) | rfl | hw
  · exact hl
  · exact hsm
  · exact hse
  · exact hs
  · exact hi
  · exact hc
  · exact hw
/-- a method whose named one is abstract -/
theorem x_CallV_abs {C owner : String} {x : MethodName} (hG : ∀ w ∈ Ts, goodWord w = true) (hc : Cond.code y bytes maxL ret ∈ Ts) (hl : Cond.methodLink own idx x ∈ Ts) (hsm : Cond.sameMethod x.cls owner x.name x.desc ∈ Ts) (hs : Cond.instanceMethod y ∈ Ts) (hi : Cond.initialized y.cls ∈ Ts) (hse : Cond.selects C x y ∈ Ts) (hdc : Cond.declares ⟨owner, x.name, x.desc⟩ ∈ Nw)
    (hd : owner ≠ "java/lang/invoke/MethodHandle" ∧ owner ≠ "java/lang/invoke/VarHandle" ∧ (parseMethodDescriptor x.desc).map (fun d => d.parameters.length) = some n) : x_CallV Ts Nw own idx C y bytes maxL ret (n + 1) := by
  intro p l e R s m args below meth c H locs cells slots cc nL rm Pc Qc mc ms free b As rest g S hNw hM h1 h2 h3 h4 hp hg hn hsz hst hW hdg hf
  have ht := S.2.2.2.2
  refine va_runU (owner := owner) S hM (va_cwA n ht (x_goodT hG fun w hw => ?_) rfl h1 h2 (hNw _ hdc) hd ⟨h3, h4⟩) hp hg (by omega) hsz hst hW hdg hf
  simp only [va_wsU, List.mem_append, List.mem_cons, List.not_mem_nil, or_false] at hw
  rcases hw with (rfl | rfl | rfl | rfl | rfl) | rfl | hw
  · exact hl
  · exact hsm
  · exact hse
  · exact hs
  · exact hi
  · exact hc
  · exact hw
end X12
