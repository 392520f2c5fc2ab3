/-! Worlds by their int heap; feed of the reference. -/
def x_wi (w : xW) (f : Nat → Nat → Int32) : xW := (x_N w, x_C w, x_S w, x_k w, x_l w, f, x_j w, x_r w)
theorem x_si_wi (w : xW) (o k : Nat) (v : Int32) : x_si w o k v = x_wi w (x_up (x_i w) o k v) := rfl
theorem x_wi_wi (w : xW) (f g : Nat → Nat → Int32) : x_wi (x_wi w f) g = x_wi w g := rfl
theorem x_i_wi (w : xW) (f : Nat → Nat → Int32) : x_i (x_wi w f) = f := rfl
theorem x_k_wi (w : xW) (f : Nat → Nat → Int32) : x_k (x_wi w f) = x_k w := rfl
theorem x_l_wi (w : xW) (f : Nat → Nat → Int32) : x_l (x_wi w f) = x_l w := rfl
theorem x_r_wi (w : xW) (f : Nat → Nat → Int32) : x_r (x_wi w f) = x_r w := rfl
theorem x_j_wi (w : xW) (f : Nat → Nat → Int32) : x_j (x_wi w f) = x_j w := rfl
theorem x_wi_self (w : xW) : x_wi w (x_i w) = w := rfl
theorem x_up_at {α : Type} (f : Nat → Nat → α) (o k o' k' : Nat) (v : α) : x_up f o k v o' k' = if o' = o ∧ k' = k then v else f o' k' := by
  unfold x_up
  by_cases h : o' = o
  · subst h
    by_cases h2 : k' = k <;> simp [h2]
  · simp [h]
/-- the byte that feed writes at place k of the call -/
def fd_b (bs : Int64) (k : Nat) : Int32 := ((bs >>> ((8 * nI k).toInt64 &&& 63)) &&& 255).toInt32
theorem c14_loop {scr : Nat × (Nat → Int32)} {w : xW} {Q : xO → xW → Prop} {m tx sz n : Nat} {bs : Int64} (hm : x_k w m = 12) (htx : x_r w m 2 = tx) (htx0 : ¬ tx = 0) (hkt : x_k w tx = 0) (hlt : x_l w tx = 900) (hne : ¬ tx = m) (hn : sz + n ≤ 900)
    (hq : ∀ f, (∀ o k, f o k = if o = tx ∧ sz ≤ k ∧ k < sz + n then fd_b bs (k - sz) else if o = m ∧ k = 1 then nI (sz + n) else x_i w o k) → Q (.inl (some (.int 1))) (x_wi w f)) :
    ∀ (d i : Nat) (f : Nat → Nat → Int32) (o3 : Option Value), i + d = n → (∀ o k, f o k = if o = tx ∧ sz ≤ k ∧ k < sz + i then fd_b bs (k - sz) else if o = m ∧ k = 1 then nI (sz + i) else x_i w o k) →
      x_R x_prog scr 14 33 [some (.ref m), some (.int (nI n)), some (.long bs), o3, some (.int (nI i))] [] (x_wi w f) Q := by
  intro d
  induction d with
  | zero =>
    intro i f o3 hi hf
    have hin : i = n := by omega
    subst hin
    refine b14_33 ⟨fun _ => ⟨Or.inr rfl, hq f hf⟩, fun h => absurd (nI_le (Nat.le_refl _) (by omega)) h⟩
  | succ d ih =>
    intro i f o3 hi hf
    have hsz : f m 1 = nI (sz + i) := by rw [hf, if_neg (fun h => hne h.1.symm), if_pos ⟨rfl, rfl⟩]
    refine b14_33 ⟨fun h => absurd h (nI_ge (by omega) (by omega)), fun _ => ?_⟩
    simp only [x_k_wi, x_l_wi, x_r_wi, x_i_wi, x_si_wi, x_wi_wi, htx, hsz, hkt, hlt, hm]
    refine ⟨trivial, htx0, trivial, ⟨trivial, vp_in_nI (by omega) (by omega)⟩, trivial, trivial, ?_⟩
    rw [nI_1 i]
    refine ih (i + 1) _ none (by omega) (fun o k => ?_)
    rw [nI_clamp (by omega)]
    simp only [x_up_at, hf]
    have e1 : nI (sz + i) + 1 = nI (sz + (i + 1)) := by rw [nI_1]; rfl
    have e2 : ((bs >>> ((8 * nI i).toInt64 &&& 63)) &&& 255).toInt32 = fd_b bs i := rfl
    rw [e2]
    grind
