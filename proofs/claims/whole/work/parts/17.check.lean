/-! A check of rows by computing, and that it says what is asked of them. -/
def x_h4 (q : Nat × Nat × Nat × Nat) : List (Nat × Nat × Nat × Nat) → Bool
  | [] => false
  | a :: t => (Nat.beq a.1 q.1 && Nat.beq a.2.1 q.2.1 && Nat.beq a.2.2.1 q.2.2.1 && Nat.beq a.2.2.2 q.2.2.2) || x_h4 q t
theorem x_h4_in {q : Nat × Nat × Nat × Nat} : ∀ (l : List (Nat × Nat × Nat × Nat)), x_h4 q l = true → q ∈ l
  | [], h => by cases h
  | a :: t, h => by
    unfold x_h4 at h
    rw [Bool.or_eq_true] at h
    rcases h with h | h
    · simp only [Bool.and_eq_true] at h
      obtain ⟨⟨⟨h1, h2⟩, h3⟩, h4⟩ := h
      obtain ⟨a1, a2, a3, a4⟩ := a
      obtain ⟨q1, q2, q3, q4⟩ := q
      have e1 := Nat.eq_of_beq_eq_true h1
      have e2 := Nat.eq_of_beq_eq_true h2
      have e3 := Nat.eq_of_beq_eq_true h3
      have e4 := Nat.eq_of_beq_eq_true h4
      dsimp only at e1 e2 e3 e4
      subst e1; subst e2; subst e3; subst e4
      exact List.mem_cons_self
    · exact List.mem_cons_of_mem _ (x_h4_in t h)
/-- the rows of the methods that have no handlers -/
def x_okb (M : Nat) (r : xR) : Bool := decide (decode (x_mt M).2.1 r.1 = .ok (r.2.1, r.2.2.1)) && match r with
  | (pc, ins, len, a, b, c, v, u) => match ins with
    | .iconst n => decide (len = 1 ∧ Int32.ofInt n = v)
    | .bipush n => decide (len = 2 ∧ (Int8.ofInt n).toInt32 = v)
    | .sipush n => decide (len = 3 ∧ (Int16.ofInt n).toInt32 = v)
    | .ldc i => decide (len = 2 ∧ c = 1 ∧ (x_mt M).2.2.2.2 = "StreamRefuter$Problem" ∧ ((a = 0 ∧ i = 66) ∨ (a = 1 ∧ i = 75)))
    | .lconst n => decide (len = 1 ∧ Int64.ofNat (n : Nat) = u)
    | .ldc2_w i => decide (len = 3 ∧ (x_oi M, i, u) ∈ x_ldl)
    | .iload _ => decide (len = 2)
    | .lload _ => decide (len = 2)
    | .aload _ => decide (len = 2)
    | .iload_n k => decide (len = 1 ∧ (k : Nat) = a)
    | .lload_n k => decide (len = 1 ∧ (k : Nat) = a)
    | .aload_n k => decide (len = 1 ∧ (k : Nat) = a)
    | .istore i => decide (len = 2 ∧ i < (x_mt M).2.2.1)
    | .astore i => decide (len = 2 ∧ i < (x_mt M).2.2.1)
    | .lstore i => decide (len = 2 ∧ i + 1 < (x_mt M).2.2.1)
    | .istore_n k => decide (len = 1 ∧ (k : Nat) = a ∧ a < (x_mt M).2.2.1)
    | .astore_n k => decide (len = 1 ∧ (k : Nat) = a ∧ a < (x_mt M).2.2.1)
    | .lstore_n k => decide (len = 1 ∧ (k : Nat) = a ∧ a + 1 < (x_mt M).2.2.1)
    | .iinc i n => decide (len = 3 ∧ i < (x_mt M).2.2.1 ∧ Int32.ofInt n = v)
    | .ifCond _ off => decide (len = 3 ∧ (pc : Int) + off = (a : Int))
    | .if_icmp _ off => decide (len = 3 ∧ (pc : Int) + off = (a : Int))
    | .if_acmp _ off => decide (len = 3 ∧ (pc : Int) + off = (a : Int))
    | .goto off => decide (len = 3 ∧ (pc : Int) + off = (a : Int))
    | .tableswitch d _ _ offs => decide (0 ≤ (pc : Int) + d) && offs.toList.all (fun o => decide (0 ≤ (pc : Int) + o))
    | .getfield i => decide (len = 3) && x_h4 (x_oi M, i, a, b) x_fls && decide (∀ a' ∈ x_al a, x_fk a' b = c)
    | .putfield i => decide (len = 3) && x_h4 (x_oi M, i, a, b) x_fls && decide (∀ a' ∈ x_al a, (((x_ct a').2.1 b).2.2.2 = false ∨ (((x_ct a').2.1 b).2.2.2 = true ∧ (x_mt M).1.name = "<init>" ∧ ((x_ct a').2.1 b).1 = (x_mt M).2.2.2.2)) ∧ ((c = 0 ∧ x_ty a' b = .int ∧ x_fk a' b = 0) ∨ (c = 1 ∧ x_ty a' b = .long ∧ x_fk a' b = 1) ∨ (c = 2 ∧ x_fk a' b = 2) ∨ (c = 3 ∧ x_ty a' b = .boolean ∧ x_fk a' b = 0)))
    | .getstatic i => decide (len = 3 ∧ (x_oi M, i, a) ∈ x_gst)
    | .newarray t => decide (len = 2 ∧ ((t = .int ∧ a = 0) ∨ (t = .boolean ∧ a = 1) ∨ (t = .long ∧ a = 2)))
    | .new i => decide (len = 3 ∧ (c = 0 → (x_oi M, i, a) ∈ x_nws ∧ b = (x_ct a).2.2))
    | .invokestatic i => decide (len = 3) && (match c with
      | 0 => x_h4 (x_oi M, i, a, b) x_css
      | _ => decide ((x_oi M, i) ∈ x_acp))
    | .invokespecial i => decide (len = 3) && (match c with
      | 0 => x_h4 (x_oi M, i, a, b) x_cis
      | _ => decide ((x_oi M, i) ∈ x_obi))
    | .invokevirtual i => decide (len = 3) && (match c with
      | 0 => x_h4 (x_oi M, i, a, b) x_cvs
      | 1 => x_h4 (x_oi M, i, a, b) x_cvt
      | _ => false)
    | .ireturn => decide (len = 1 ∧ ((c = 0 ∧ (x_mt M).2.2.2.1 = some .int) ∨ (c = 1 ∧ (x_mt M).2.2.2.1 = some .boolean)))
    | .lreturn => decide (len = 1 ∧ (x_mt M).2.2.2.1 = some .long)
    | .areturn => decide (len = 1 ∧ (x_mt M).2.2.2.1 = some (.object "StreamRefuter$Opening"))
    | .return_ => decide (len = 1 ∧ (x_mt M).2.2.2.1 = none)
    | _ => decide (len = 1)
set_option maxHeartbeats 4000000 in
theorem x_okb_ok {M : Nat} (ho : x_on (x_oi M) = (x_mt M).2.2.2.2) (r : xR) (h : x_okb M r = true) : x_okr x_cts x_ct x_fk x_ty x_Ts x_Nw x_mt x_prog.2.2.2.1 x_prog.2.2.2.2.1 x_enu M r := by
  unfold x_okb at h
  rw [Bool.and_eq_true] at h
  obtain ⟨h0, h⟩ := h
  refine ⟨of_decide_eq_true h0, ?_⟩
  clear h0
  obtain ⟨pc, ins, len, a, b, c, v, u⟩ := r
  cases ins
  case ldc i =>
    obtain ⟨h1, h2, h3, h4⟩ := of_decide_eq_true h
    exact ⟨h1, Or.inr ⟨h2, h3, h4⟩⟩
  case tableswitch d lo hi offs =>
    have h : (decide (0 ≤ (pc : Int) + d) && offs.toList.all (fun o => decide (0 ≤ (pc : Int) + o))) = true := h
    rw [Bool.and_eq_true, List.all_eq_true] at h
    refine ⟨⟨((pc : Int) + d).toNat, (Int.toNat_of_nonneg (of_decide_eq_true h.1)).symm⟩, fun k o ho => ⟨((pc : Int) + o).toNat, (Int.toNat_of_nonneg (of_decide_eq_true (h.2 o ?_))).symm⟩⟩
    exact List.mem_of_getElem? (by rw [Array.getElem?_toList]; exact ho)
  case ldc2_w i =>
    obtain ⟨h1, h2⟩ := of_decide_eq_true h
    exact ⟨h1, ho ▸ x_ldl_ok _ h2⟩
  case getfield i =>
    have h : (decide (len = 3) && x_h4 (x_oi M, i, a, b) x_fls && decide (∀ a' ∈ x_al a, x_fk a' b = c)) = true := h
    simp only [Bool.and_eq_true] at h
    obtain ⟨⟨h1, h2⟩, h3⟩ := h
    refine ⟨of_decide_eq_true h1, fun a' ha => ?_⟩
    obtain ⟨q1, q2⟩ := x_fls_ok _ (x_h4_in _ h2) a' ha
    exact ⟨q1, ho ▸ q2, of_decide_eq_true h3 a' ha⟩
  case putfield i =>
    simp only [Bool.and_eq_true] at h
    obtain ⟨⟨h1, h2⟩, h3⟩ := h
    refine ⟨of_decide_eq_true h1, fun a' ha => ?_⟩
    obtain ⟨q1, q2⟩ := x_fls_ok _ (x_h4_in _ h2) a' ha
    obtain ⟨q3, q4⟩ := of_decide_eq_true h3 a' ha
    exact ⟨q1, ho ▸ q2, q3, q4⟩
  case getstatic i =>
    obtain ⟨h1, h2⟩ := of_decide_eq_true h
    obtain ⟨q1, ref, q2, q3⟩ := x_gst_ok _ h2
    exact ⟨h1, q1, ref, ho ▸ q2, q3⟩
  case newarray t =>
    obtain ⟨h1, h2⟩ := of_decide_eq_true h
    refine ⟨h1, ?_, h2⟩
    rcases h2 with ⟨rfl, -⟩ | ⟨rfl, -⟩ | ⟨rfl, -⟩
    · exact x_ac_int
    · exact x_ac_boolean
    · exact x_ac_long
  case new i =>
    obtain ⟨h1, h2⟩ := of_decide_eq_true h
    refine ⟨h1, fun hc => ?_⟩
    obtain ⟨h3, h4⟩ := h2 hc
    obtain ⟨q1, q2, q3, q4⟩ := x_nws_ok _ h3
    exact ⟨q1, h4, ho ▸ q2, q3, q4⟩
  case invokestatic i =>
    rw [Bool.and_eq_true] at h
    obtain ⟨h1, h2⟩ := h
    refine ⟨of_decide_eq_true h1, fun hc => ?_, fun hc => ?_⟩
    · subst hc
      exact ho ▸ x_css_ok _ (x_h4_in _ h2)
    · obtain ⟨k, rfl⟩ : ∃ k, c = k + 1 := ⟨c - 1, by omega⟩
      obtain ⟨q1, q2⟩ := x_acp_ok _ (of_decide_eq_true h2)
      exact ⟨ho ▸ q1, q2⟩
  case invokespecial i =>
    rw [Bool.and_eq_true] at h
    obtain ⟨h1, h2⟩ := h
    refine ⟨of_decide_eq_true h1, fun hc => ?_, fun hc => ?_⟩
    · subst hc
      obtain ⟨q1, q2⟩ := x_cis_ok _ (x_h4_in _ h2)
      exact ⟨q1, ho ▸ q2⟩
    · obtain ⟨k, rfl⟩ : ∃ k, c = k + 1 := ⟨c - 1, by omega⟩
      obtain ⟨q1, q2⟩ := x_obi_ok _ (of_decide_eq_true h2)
      exact ⟨ho ▸ q1, q2⟩
  case invokevirtual i =>
    rw [Bool.and_eq_true] at h
    obtain ⟨h1, h2⟩ := h
    match c, h2 with
    | 0, h2 =>
      refine ⟨of_decide_eq_true h1, by decide, (fun hc => by cases hc), (fun hc => by cases hc), fun _ => ?_, fun hc => by cases hc⟩
      obtain ⟨q1, q2, q3⟩ := x_cvs_ok _ (x_h4_in _ h2)
      exact ⟨q1, q2, ho ▸ q3⟩
    | 1, h2 =>
      refine ⟨of_decide_eq_true h1, by decide, (fun hc => by cases hc), (fun hc => by cases hc), fun hc => (by cases hc), fun _ => ?_⟩
      obtain ⟨q1, q2, q3, q4, q5, q6⟩ := x_cvt_ok _ (x_h4_in _ h2)
      exact ⟨q1, q2, q3, q4, ho ▸ q5, ho ▸ q6⟩
    | n + 2, h2 => cases h2
  case areturn =>
    obtain ⟨h1, h2⟩ := of_decide_eq_true h
    exact ⟨h1, _, h2⟩
  all_goals exact of_decide_eq_true h
