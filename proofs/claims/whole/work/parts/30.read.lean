/-! Problem and Tokens by their cells; what fault, clauses, tokens, token answer. -/
section X30
variable {w : xW} {P T : Nat}
theorem pK (h : SH w) (hp : P = 5 ∨ P = 11) : x_k w P = 7 := by rcases hp with rfl | rfl <;> rw [sh_k h] <;> rfl
theorem pr6 (h : SH w) (hp : P = 5 ∨ P = 11) : x_r w P 6 = P + 1 := by rcases hp with rfl | rfl; exact sr5_6 h; exact sr11_6 h
theorem pr7 (h : SH w) (hp : P = 5 ∨ P = 11) : x_r w P 7 = P + 2 := by rcases hp with rfl | rfl; exact sr5_7 h; exact sr11_7 h
theorem pr8 (h : SH w) (hp : P = 5 ∨ P = 11) : x_r w P 8 = P + 3 := by rcases hp with rfl | rfl; exact sr5_8 h; exact sr11_8 h
theorem pr9 (h : SH w) (hp : P = 5 ∨ P = 11) : x_r w P 9 = P + 4 := by rcases hp with rfl | rfl; exact sr5_9 h; exact sr11_9 h
theorem pr10 (h : SH w) (hp : P = 5 ∨ P = 11) : x_r w P 10 = P + 5 := by rcases hp with rfl | rfl; exact sr5_10 h; exact sr11_10 h
theorem pk1 (h : SH w) (hp : P = 5 ∨ P = 11) : x_k w (P + 1) = 0 ∧ x_l w (P + 1) = 384 := by rcases hp with rfl | rfl <;> rw [sh_k h, sh_l h] <;> exact ⟨rfl, rfl⟩
theorem pk2 (h : SH w) (hp : P = 5 ∨ P = 11) : x_k w (P + 2) = 0 ∧ x_l w (P + 2) = 64 := by rcases hp with rfl | rfl <;> rw [sh_k h, sh_l h] <;> exact ⟨rfl, rfl⟩
theorem pk3 (h : SH w) (hp : P = 5 ∨ P = 11) : x_k w (P + 3) = 0 ∧ x_l w (P + 3) = 64 := by rcases hp with rfl | rfl <;> rw [sh_k h, sh_l h] <;> exact ⟨rfl, rfl⟩
theorem pk4 (h : SH w) (hp : P = 5 ∨ P = 11) : x_k w (P + 4) = 0 ∧ x_l w (P + 4) = 81 := by rcases hp with rfl | rfl <;> rw [sh_k h, sh_l h] <;> exact ⟨rfl, rfl⟩
theorem pk5 (h : SH w) (hp : P = 5 ∨ P = 11) : x_k w (P + 5) = 2 ∧ x_l w (P + 5) = 81 := by rcases hp with rfl | rfl <;> rw [sh_k h, sh_l h] <;> exact ⟨rfl, rfl⟩
theorem p0 (hp : P = 5 ∨ P = 11) : ¬ P = 0 := by omega
theorem tK (h : SH w) (ht : T = 17 ∨ T = 19 ∨ T = 22) : x_k w T = 8 := by rcases ht with rfl | rfl | rfl <;> rw [sh_k h] <;> rfl
theorem tr0 (h : SH w) (ht : T = 17 ∨ T = 19 ∨ T = 22) : x_r w T 0 = T + 1 := by rcases ht with rfl | rfl | rfl; exact sr17_0 h; exact sr19_0 h; exact sr22_0 h
theorem tk1 (h : SH w) (ht : T = 17 ∨ T = 19 ∨ T = 22) : x_k w (T + 1) = 0 ∧ x_l w (T + 1) = 2000 := by rcases ht with rfl | rfl | rfl <;> rw [sh_k h, sh_l h] <;> exact ⟨rfl, rfl⟩
theorem t0 (ht : T = 17 ∨ T = 19 ∨ T = 22) : ¬ T = 0 := by omega
end X30
section X31
variable {scr : Nat × (Nat → Int32)} {w : xW} {Q : xO → xW → Prop} {P T n : Nat} {a : Int32}
/-- the world behind a call of the reference that only sets its code to 0 -/
def x_z (w : xW) : xW := x_wi w (x_up (x_i w) 36 0 0)
theorem x_z_at {o k : Nat} (h : ¬ (o = 36 ∧ k = 0)) : x_i (x_z w) o k = x_i w o k := by show x_up _ _ _ _ o k = _; rw [x_up_at, if_neg h]
theorem sh_z (h : SH w) : SH (x_z w) := h
theorem c56 (h : SH w) (hq : Q (.inl (some (.int (x_i w 36 0)))) w) : x_R x_prog scr 56 0 [some (.ref 36)] [] w Q := b56_0 ⟨by rw [sh_k h]; rfl, hq⟩
theorem c86 (h : SH w) (hq : Q (.inl (some (.int (x_i w 0 9)))) w) : x_R x_prog scr 86 0 [some (.ref 0)] [] w Q := b86_0 ⟨by rw [sh_k h]; rfl, hq⟩
theorem c87 (h : SH w) (hq : Q (.inl (some (.int (x_i w 36 3)))) (x_z w)) : x_R x_prog scr 87 0 [some (.ref 36)] [] w Q := by
  have e : x_i (x_si w 36 0 0) 36 3 = x_i w 36 3 := x_z_at (by omega)
  exact b87_0 ⟨by rw [sh_k h]; rfl, by rw [sh_k h]; rfl, by rw [e]; exact hq⟩
theorem c88 (h : SH w) (hP : x_r w 0 5 = P) (hp : P = 5 ∨ P = 11) (hq : Q (.inl (some (.int (x_i w P 4)))) w) : x_R x_prog scr 88 0 [some (.ref 0)] [] w Q := by
  refine b88_0 ?_
  rw [hP, pK h hp, sh_k h]
  exact ⟨rfl, p0 hp, rfl, hq⟩
theorem c89 (h : SH w) (hq : Q (.inl (some (.int (x_i w 36 7)))) (x_z w)) : x_R x_prog scr 89 0 [some (.ref 36)] [] w Q := by
  have e : x_i (x_si w 36 0 0) 36 7 = x_i w 36 7 := x_z_at (by omega)
  exact b89_0 ⟨by rw [sh_k h]; rfl, by rw [sh_k h]; rfl, by rw [e]; exact hq⟩
theorem c154 (h : SH w) (hT : x_r w 0 7 = T) (ht : T = 17 ∨ T = 19 ∨ T = 22) (hq : Q (.inl (some (.int (x_i w T 1)))) w) : x_R x_prog scr 154 0 [some (.ref 0)] [] w Q := by
  refine b154_0 ?_
  rw [hT, tK h ht, sh_k h]
  exact ⟨rfl, t0 ht, rfl, hq⟩
theorem c155 (h : SH w) (hq : Q (.inl (some (.int (x_i w 36 24)))) (x_z w)) : x_R x_prog scr 155 0 [some (.ref 36)] [] w Q := by
  have e : x_i (x_si w 36 0 0) 36 24 = x_i w 36 24 := x_z_at (by omega)
  exact b155_0 ⟨by rw [sh_k h]; rfl, by rw [sh_k h]; rfl, by rw [e]; exact hq⟩
/-- token i of a row of n tokens, of which at the most 2000 are kept -/
def tk_at (g : Nat → Int32) (n : Nat) (i : Int32) : Int32 := if ¬ i < 0 ∧ ¬ nI n ≤ i ∧ ¬ 2000 ≤ i then g i.toNatClampNeg else 0
theorem c137 (h : SH w) (ht : T = 17 ∨ T = 19 ∨ T = 22) (hn : x_i w T 1 = nI n) (hq : Q (.inl (some (.int (tk_at (x_i w (T + 1)) n a)))) w) : x_R x_prog scr 137 0 [some (.ref T), some (.int a)] [] w Q := by
  refine b137_0 ⟨fun h1 => ?_, fun h1 => ⟨tK h ht, fun h2 => ?_, fun h2 => ⟨fun h3 => ?_, fun h3 => ?_⟩⟩⟩
  · have e : tk_at (x_i w (T + 1)) n a = 0 := if_neg fun z => z.1 h1
    rw [e] at hq; exact hq
  · rw [hn] at h2
    have e : tk_at (x_i w (T + 1)) n a = 0 := if_neg fun z => z.2.1 h2
    rw [e] at hq; exact hq
  · have e : tk_at (x_i w (T + 1)) n a = 0 := if_neg fun z => z.2.2 h3
    rw [e] at hq; exact hq
  · rw [hn] at h2
    have e : tk_at (x_i w (T + 1)) n a = x_i w (T + 1) a.toNatClampNeg := if_pos ⟨h1, h2, h3⟩
    rw [e] at hq
    rw [tr0 h ht, (tk1 h ht).1, (tk1 h ht).2]
    refine ⟨tK h ht, by omega, ⟨rfl, ?_⟩, hq⟩
    obtain ⟨j, hj, rfl, -⟩ := pk_mu (L := 2000) h1 h3 (by decide)
    exact vp_in_nI hj (by decide)
theorem c156 (h : SH w) (hT : x_r w 0 7 = T) (ht : T = 17 ∨ T = 19 ∨ T = 22) (hn : x_i w T 1 = nI n) (hq : Q (.inl (some (.int (tk_at (x_i w (T + 1)) n a)))) w) : x_R x_prog scr 156 0 [some (.ref 0), some (.int a)] [] w Q := by
  refine b156_0 ?_
  rw [hT, tK h ht, sh_k h]
  exact ⟨rfl, t0 ht, rfl, c137 h ht hn (b156_8 hq)⟩
theorem c157 (h : SH w) (hn : x_i w 36 24 = nI n) (hn2 : n ≤ 2000) (hq : Q (.inl (some (.int (tk_at (x_i w 47) n a)))) (x_z w)) : x_R x_prog scr 157 0 [some (.ref 36), some (.int a)] [] w Q := by
  have e0 : x_i (x_si w 36 0 0) 36 24 = nI n := (x_z_at (by omega)).trans hn
  refine b157_0 ⟨by rw [sh_k h]; rfl, fun h1 => ?_, fun h1 => ⟨by rw [sh_k h]; rfl, fun h2 => ?_, fun h2 => ?_⟩⟩
  · have e : tk_at (x_i w 47) n a = 0 := if_neg fun z => z.1 h1
    rw [e] at hq; exact hq
  · rw [e0] at h2
    obtain ⟨j, hj, rfl, -⟩ := pk_mu (L := n) h1 (Int32.not_le.mpr h2) (by omega)
    have h3 : ¬ (2000 : Int32) ≤ nI j := nI_ge (b := 2000) (by omega) (by decide)
    have e : tk_at (x_i w 47) n (nI j) = x_i w 47 (nI j).toNatClampNeg := if_pos ⟨h1, Int32.not_le.mpr h2, h3⟩
    rw [e] at hq
    have e4 : x_i (x_si w 36 0 0) 47 (nI j).toNatClampNeg = x_i w 47 (nI j).toNatClampNeg := x_z_at (by omega)
    rw [sr36_25 h, sh_k h, sh_l h, e4]
    exact ⟨rfl, by decide, ⟨rfl, vp_in_nI (by show j < 2000; omega) (by decide)⟩, hq⟩
  · rw [e0] at h2
    have e : tk_at (x_i w 47) n a = 0 := if_neg fun z => z.2.1 (Int32.not_lt.mp h2)
    rw [e] at hq; exact hq
end X31
