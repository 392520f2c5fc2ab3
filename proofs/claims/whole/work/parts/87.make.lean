/-! The objects are made. -/
def lkR : List (Nat × Nat × Nat) → Nat → Nat → Nat
  | [], _, _ => 0
  | q :: l, a, b => if a = q.1 ∧ b = q.2.1 then q.2.2 else lkR l a b
def lkI : List (Nat × Nat × Int32) → Nat → Nat → Int32
  | [], _, _ => 0
  | q :: l, a, b => if a = q.1 ∧ b = q.2.1 then q.2.2 else lkI l a b
/-- worlds while the objects are made: n cells; ints that are not 0; references -/
def cw (n s : Nat) (il : List (Nat × Nat × Int32)) (l : List (Nat × Nat × Nat)) : xW := (n, n, s, fun o => if o < n then sh_K o else 99, fun o => if o < n then sh_L o else 0, lkI il, fun _ _ => 0, lkR l)
theorem lkI_z {n b : Nat} : ∀ (il : List (Nat × Nat × Int32)), il.all (fun q => decide (q.1 < n)) = true → lkI il n b = 0
  | [], _ => rfl
  | q :: il, h => by
    rw [List.all_cons, Bool.and_eq_true] at h
    have h1 := of_decide_eq_true h.1
    unfold lkI
    rw [if_neg (by omega)]
    exact lkI_z il h.2
theorem lkR_z {n b : Nat} : ∀ (il : List (Nat × Nat × Nat)), il.all (fun q => decide (q.1 < n)) = true → lkR il n b = 0
  | [], _ => rfl
  | q :: il, h => by
    rw [List.all_cons, Bool.and_eq_true] at h
    have h1 := of_decide_eq_true h.1
    unfold lkR
    rw [if_neg (by omega)]
    exact lkR_z il h.2
section X84
variable {n s k ln m a b v : Nat} {il : List (Nat × Nat × Int32)} {l : List (Nat × Nat × Nat)}
theorem cw_N : x_N (cw n s il l) = n := rfl
theorem cw_k : x_k (cw n s il l) a = if a < n then sh_K a else 99 := rfl
theorem cw_r : x_r (cw n s il l) a b = lkR l a b := rfl
theorem cw_new {n' s' : Nat} (hn : n + 1 = n') (hs : s + m = s') (hk : sh_K n = k) (hl : sh_L n = ln) (h1 : il.all (fun q => decide (q.1 < n)) = true) (h2 : l.all (fun q => decide (q.1 < n)) = true) : x_new (cw n s il l) k ln m = cw n' s' il l := by
  subst hn
  subst hs
  have e1 : x_row (fun o => if o < n then sh_K o else 99) n k = fun o => if o < n + 1 then sh_K o else 99 := by
    funext o
    unfold x_row
    by_cases c : o = n
    · rw [if_pos c, if_pos (by omega), c]; exact hk.symm
    · rw [if_neg c]
      dsimp only
      by_cases d : o < n
      · rw [if_pos d, if_pos (by omega)]
      · rw [if_neg d, if_neg (by omega)]
  have e2 : x_row (fun o => if o < n then sh_L o else 0) n ln = fun o => if o < n + 1 then sh_L o else 0 := by
    funext o
    unfold x_row
    by_cases c : o = n
    · rw [if_pos c, if_pos (by omega), c]; exact hl.symm
    · rw [if_neg c]
      dsimp only
      by_cases d : o < n
      · rw [if_pos d, if_pos (by omega)]
      · rw [if_neg d, if_neg (by omega)]
  have e3 : x_row (lkI il) n (fun _ => 0) = lkI il := by
    funext o b
    unfold x_row
    by_cases c : o = n
    · rw [if_pos c, c]; exact (lkI_z il h1).symm
    · rw [if_neg c]
  have e4 : x_row (fun (_ : Nat) (_ : Nat) => (0 : Int64)) n (fun _ => 0) = fun _ _ => 0 := by
    funext o b
    unfold x_row
    by_cases c : o = n
    · rw [if_pos c]
    · rw [if_neg c]
  have e5 : x_row (lkR l) n (fun _ => 0) = lkR l := by
    funext o b
    unfold x_row
    by_cases c : o = n
    · rw [if_pos c, c]; exact (lkR_z l h2).symm
    · rw [if_neg c]
  show (n + 1, n + 1, s + m, x_row (fun o => if o < n then sh_K o else 99) n k, x_row (fun o => if o < n then sh_L o else 0) n ln, x_row (lkI il) n (fun _ => 0), x_row (fun (_ : Nat) (_ : Nat) => (0 : Int64)) n (fun _ => 0), x_row (lkR l) n (fun _ => 0)) = _
  rw [e1, e2, e3, e4, e5]
  rfl
theorem x_r_new {w : xW} : x_r (x_new w k ln m) a b = if a = x_N w then 0 else x_r w a b := by
  show x_row (x_r w) (x_N w) (fun _ => 0) a b = _
  unfold x_row
  split <;> rfl
theorem x_r_sr {w : xW} {o j v : Nat} : x_r (x_sr w o j v) a b = if a = o ∧ b = j then v else x_r w a b := x_up_at _ _ _ _ _ _
theorem cw_si {u : Int32} : x_si (cw n s il l) a b u = cw n s ((a, b, u) :: il) l := by
  have e : x_up (lkI il) a b u = lkI ((a, b, u) :: il) := by
    funext o k
    rw [x_up_at]
    rfl
  show (n, n, s, _, _, x_up (lkI il) a b u, _, _) = _
  rw [e]
  rfl
theorem cw_si0 (h : lkI il a b = 0) : x_si (cw n s il l) a b 0 = cw n s il l := by
  have e : x_up (lkI il) a b 0 = lkI il := by
    funext o k
    rw [x_up_at]
    by_cases c : o = a ∧ k = b
    · rw [if_pos c, c.1, c.2]; exact h.symm
    · rw [if_neg c]
  show (n, n, s, _, _, x_up (lkI il) a b 0, _, _) = _
  rw [e]
  rfl
theorem cw_sj0 : x_sj (cw n s il l) a b 0 = cw n s il l := by
  have e : x_up (fun (_ : Nat) (_ : Nat) => (0 : Int64)) a b 0 = fun _ _ => 0 := by
    funext o k
    rw [x_up_at]
    by_cases c : o = a ∧ k = b
    · rw [if_pos c]
    · rw [if_neg c]
  show (n, n, s, _, _, _, x_up (fun (_ : Nat) (_ : Nat) => (0 : Int64)) a b 0, _) = _
  rw [e]
  rfl
theorem cw_sr : x_sr (cw n s il l) a b v = cw n s il ((a, b, v) :: l) := by
  have e : x_up (lkR l) a b v = lkR ((a, b, v) :: l) := by
    funext o k
    rw [x_up_at]
    rfl
  show (n, n, s, _, _, _, _, x_up (lkR l) a b v) = _
  rw [e]
  rfl
end X84
theorem tn900 : (900 : Int32).toNatClampNeg = 900 := by decide
theorem tn384 : (384 : Int32).toNatClampNeg = 384 := by decide
theorem tn64 : (64 : Int32).toNatClampNeg = 64 := by decide
theorem tn81 : (81 : Int32).toNatClampNeg = 81 := by decide
theorem tn2000 : (2000 : Int32).toNatClampNeg = 2000 := by decide
theorem tn65 : (65 : Int32).toNatClampNeg = 65 := by decide
theorem tn17 : (17 : Int32).toNatClampNeg = 17 := by decide
theorem tn540 : (540 : Int32).toNatClampNeg = 540 := by decide
theorem tn486 : (486 : Int32).toNatClampNeg = 486 := by decide
theorem tn60 : (60 : Int32).toNatClampNeg = 60 := by decide
theorem tn2400 : (2400 : Int32).toNatClampNeg = 2400 := by decide
theorem tn1400 : (1400 : Int32).toNatClampNeg = 1400 := by decide
theorem tn720 : (720 : Int32).toNatClampNeg = 720 := by decide
theorem tn11520 : (11520 : Int32).toNatClampNeg = 11520 := by decide
theorem tn1 : (1 : Int32).toNatClampNeg = 1 := by decide
def x_l0 : List (Nat × Nat × Nat) := [(36, 55, 70), (36, 54, 69), (36, 53, 68), (36, 52, 67), (36, 51, 66), (36, 49, 65), (36, 48, 64), (36, 47, 63), (36, 46, 62), (36, 45, 61), (36, 44, 60), (36, 42, 59), (36, 41, 58), (36, 40, 57), (36, 38, 56), (36, 37, 55), (36, 36, 54), (36, 35, 53), (36, 31, 52), (36, 30, 51), (36, 29, 50), (36, 28, 49), (36, 27, 48), (36, 25, 47), (36, 23, 46), (36, 22, 45), (36, 21, 44), (36, 15, 43), (36, 14, 42), (36, 13, 41), (36, 12, 40), (36, 9, 39), (36, 8, 38), (36, 2, 37), (0, 4, 31), (31, 7, 17), (31, 3, 35), (31, 2, 34), (31, 1, 33), (31, 0, 32), (0, 3, 21), (21, 0, 28), (28, 0, 5), (28, 5, 30), (28, 4, 29), (21, 1, 5), (21, 9, 27), (21, 8, 26), (21, 7, 25), (21, 6, 24), (21, 5, 22), (22, 0, 23), (0, 8, 19), (19, 0, 20), (0, 7, 17), (17, 0, 18), (0, 6, 11), (11, 10, 16), (11, 9, 15), (11, 8, 14), (11, 7, 13), (11, 6, 12), (0, 5, 5), (5, 10, 10), (5, 9, 9), (5, 8, 8), (5, 7, 7), (5, 6, 6), (0, 2, 4), (4, 0, 1), (0, 1, 3), (3, 0, 1), (0, 0, 1), (1, 0, 2)]
set_option maxRecDepth 100000 in
set_option maxHeartbeats 4000000 in
/-- both objects -/
theorem ini {scr : Nat × (Nat → Int32)} {Q : xO → xW → Prop} (h : x_R x_prog scr 0 23 [some (.ref x_sc), some (.ref 0), some (.ref 36), some (.ref 71), some (.int 0), none, none] [] (cw 72 36169 [(4, 3, 20001), (3, 3, 20001)] x_l0) Q) : x_R x_prog scr 0 0 [some (.ref x_sc), none, none, none, none, none, none] [] (cw 0 0 [] []) Q := by
  refine b0_0 ?_
  repeat (refine ⟨by decide, ?_⟩)
  simp only [cw_N]
  rw [cw_new (n' := 1) (s' := 10) (by decide) (by decide) (by decide) (by decide) (by decide) (by decide)]
  refine b1_0 ?_
  repeat (refine ⟨by decide, ?_⟩)
  simp only [cw_N]
  rw [cw_new (n' := 2) (s' := 12) (by decide) (by decide) (by decide) (by decide) (by decide) (by decide)]
  refine b2_0 ?_
  repeat (refine ⟨by decide, ?_⟩)
  simp only [cw_N]
  rw [tn900]
  rw [cw_new (n' := 3) (s' := 912) (by decide) (by decide) (by decide) (by decide) (by decide) (by decide)]
  rw [cw_sr]
  rw [cw_si0 (by decide)]
  refine b2_18 ?_
  repeat (refine ⟨by decide, ?_⟩)
  refine b1_12 ?_
  repeat (refine ⟨by decide, ?_⟩)
  simp (decide := true) only [x_r_new, x_r_sr, cw_r, lkR, cw_N, Nat.reduceEqDiff, and_true, true_and, and_self, and_false, false_and, if_true, if_false, reduceIte]
  rw [cw_sr]
  rw [cw_new (n' := 4) (s' := 916) (by decide) (by decide) (by decide) (by decide) (by decide) (by decide)]
  refine b3_0 ?_
  repeat (refine ⟨by decide, ?_⟩)
  refine b4_0 ?_
  repeat (refine ⟨by decide, ?_⟩)
  rw [cw_si0 (by decide)]
  rw [cw_si0 (by decide)]
  rw [cw_si]
  refine b4_21 ?_
  repeat (refine ⟨by decide, ?_⟩)
  rw [cw_sr]
  refine b3_5 ?_
  repeat (refine ⟨by decide, ?_⟩)
  refine b1_27 ?_
  repeat (refine ⟨by decide, ?_⟩)
  simp (decide := true) only [x_r_new, x_r_sr, cw_r, lkR, cw_N, Nat.reduceEqDiff, and_true, true_and, and_self, and_false, false_and, if_true, if_false, reduceIte]
  rw [cw_sr]
  rw [cw_new (n' := 5) (s' := 920) (by decide) (by decide) (by decide) (by decide) (by decide) (by decide)]
  refine b5_0 ?_
  repeat (refine ⟨by decide, ?_⟩)
  refine b4_0 ?_
  repeat (refine ⟨by decide, ?_⟩)
  rw [cw_si0 (by decide)]
  rw [cw_si0 (by decide)]
  rw [cw_si]
  refine b4_21 ?_
  repeat (refine ⟨by decide, ?_⟩)
  rw [cw_sr]
  refine b5_5 ?_
  repeat (refine ⟨by decide, ?_⟩)
  refine b1_42 ?_
  repeat (refine ⟨by decide, ?_⟩)
  simp only [cw_N]
  rw [cw_sr]
  rw [cw_new (n' := 6) (s' := 933) (by decide) (by decide) (by decide) (by decide) (by decide) (by decide)]
  refine b6_0 ?_
  repeat (refine ⟨by decide, ?_⟩)
  rw [cw_si0 (by decide)]
  rw [cw_si0 (by decide)]
  rw [cw_si0 (by decide)]
  refine b6_19 ?_
  repeat (refine ⟨by decide, ?_⟩)
  rw [cw_si0 (by decide)]
  rw [cw_si0 (by decide)]
  rw [cw_si0 (by decide)]
  refine b6_34 ?_
  repeat (refine ⟨by decide, ?_⟩)
  simp only [cw_N]
  rw [show (6 : Nat) + 1 = 7 from rfl]
  rw [tn384]
  rw [cw_new (n' := 7) (s' := 1317) (by decide) (by decide) (by decide) (by decide) (by decide) (by decide)]
  rw [cw_sr]
  rw [tn64]
  rw [cw_new (n' := 8) (s' := 1381) (by decide) (by decide) (by decide) (by decide) (by decide) (by decide)]
  rw [cw_sr]
  refine b6_51 ?_
  repeat (refine ⟨by decide, ?_⟩)
  simp only [cw_N]
  rw [show (8 : Nat) + 1 = 9 from rfl]
  rw [tn64]
  rw [cw_new (n' := 9) (s' := 1445) (by decide) (by decide) (by decide) (by decide) (by decide) (by decide)]
  rw [cw_sr]
  rw [tn81]
  rw [cw_new (n' := 10) (s' := 1526) (by decide) (by decide) (by decide) (by decide) (by decide) (by decide)]
  rw [cw_sr]
  refine b6_67 ?_
  repeat (refine ⟨by decide, ?_⟩)
  simp only [cw_N]
  rw [tn81]
  rw [cw_new (n' := 11) (s' := 1607) (by decide) (by decide) (by decide) (by decide) (by decide) (by decide)]
  rw [cw_sr]
  rw [cw_sj0]
  refine b6_80 ?_
  repeat (refine ⟨by decide, ?_⟩)
  rw [cw_sj0]
  refine b1_53 ?_
  repeat (refine ⟨by decide, ?_⟩)
  simp only [cw_N]
  rw [cw_sr]
  rw [cw_new (n' := 12) (s' := 1620) (by decide) (by decide) (by decide) (by decide) (by decide) (by decide)]
  refine b6_0 ?_
  repeat (refine ⟨by decide, ?_⟩)
  rw [cw_si0 (by decide)]
  rw [cw_si0 (by decide)]
  rw [cw_si0 (by decide)]
  refine b6_19 ?_
  repeat (refine ⟨by decide, ?_⟩)
  rw [cw_si0 (by decide)]
  rw [cw_si0 (by decide)]
  rw [cw_si0 (by decide)]
  refine b6_34 ?_
  repeat (refine ⟨by decide, ?_⟩)
  simp only [cw_N]
  rw [show (12 : Nat) + 1 = 13 from rfl]
  rw [tn384]
  rw [cw_new (n' := 13) (s' := 2004) (by decide) (by decide) (by decide) (by decide) (by decide) (by decide)]
  rw [cw_sr]
  rw [tn64]
  rw [cw_new (n' := 14) (s' := 2068) (by decide) (by decide) (by decide) (by decide) (by decide) (by decide)]
  rw [cw_sr]
  refine b6_51 ?_
  repeat (refine ⟨by decide, ?_⟩)
  simp only [cw_N]
  rw [show (14 : Nat) + 1 = 15 from rfl]
  rw [tn64]
  rw [cw_new (n' := 15) (s' := 2132) (by decide) (by decide) (by decide) (by decide) (by decide) (by decide)]
  rw [cw_sr]
  rw [tn81]
  rw [cw_new (n' := 16) (s' := 2213) (by decide) (by decide) (by decide) (by decide) (by decide) (by decide)]
  rw [cw_sr]
  refine b6_67 ?_
  repeat (refine ⟨by decide, ?_⟩)
  simp only [cw_N]
  rw [tn81]
  rw [cw_new (n' := 17) (s' := 2294) (by decide) (by decide) (by decide) (by decide) (by decide) (by decide)]
  rw [cw_sr]
  rw [cw_sj0]
  refine b6_80 ?_
  repeat (refine ⟨by decide, ?_⟩)
  rw [cw_sj0]
  refine b1_64 ?_
  repeat (refine ⟨by decide, ?_⟩)
  simp only [cw_N]
  rw [cw_sr]
  rw [cw_new (n' := 18) (s' := 2297) (by decide) (by decide) (by decide) (by decide) (by decide) (by decide)]
  refine b7_0 ?_
  repeat (refine ⟨by decide, ?_⟩)
  simp only [cw_N]
  rw [tn2000]
  rw [cw_new (n' := 19) (s' := 4297) (by decide) (by decide) (by decide) (by decide) (by decide) (by decide)]
  rw [cw_sr]
  rw [cw_si0 (by decide)]
  refine b7_18 ?_
  repeat (refine ⟨by decide, ?_⟩)
  rw [cw_si0 (by decide)]
  refine b1_75 ?_
  repeat (refine ⟨by decide, ?_⟩)
  simp only [cw_N]
  rw [cw_sr]
  rw [cw_new (n' := 20) (s' := 4300) (by decide) (by decide) (by decide) (by decide) (by decide) (by decide)]
  refine b7_0 ?_
  repeat (refine ⟨by decide, ?_⟩)
  simp only [cw_N]
  rw [tn2000]
  rw [cw_new (n' := 21) (s' := 6300) (by decide) (by decide) (by decide) (by decide) (by decide) (by decide)]
  rw [cw_sr]
  rw [cw_si0 (by decide)]
  refine b7_18 ?_
  repeat (refine ⟨by decide, ?_⟩)
  rw [cw_si0 (by decide)]
  refine b1_86 ?_
  repeat (refine ⟨by decide, ?_⟩)
  simp (decide := true) only [x_r_new, x_r_sr, cw_r, lkR, cw_N, Nat.reduceEqDiff, and_true, true_and, and_self, and_false, false_and, if_true, if_false, reduceIte]
  rw [cw_sr]
  rw [cw_new (n' := 22) (s' := 6310) (by decide) (by decide) (by decide) (by decide) (by decide) (by decide)]
  refine b8_0 ?_
  repeat (refine ⟨by decide, ?_⟩)
  rw [cw_sj0]
  rw [cw_sj0]
  rw [cw_si0 (by decide)]
  refine b8_19 ?_
  repeat (refine ⟨by decide, ?_⟩)
  simp only [cw_N]
  rw [cw_new (n' := 23) (s' := 6313) (by decide) (by decide) (by decide) (by decide) (by decide) (by decide)]
  refine b7_0 ?_
  repeat (refine ⟨by decide, ?_⟩)
  simp only [cw_N]
  rw [tn2000]
  rw [cw_new (n' := 24) (s' := 8313) (by decide) (by decide) (by decide) (by decide) (by decide) (by decide)]
  rw [cw_sr]
  rw [cw_si0 (by decide)]
  refine b7_18 ?_
  repeat (refine ⟨by decide, ?_⟩)
  rw [cw_si0 (by decide)]
  refine b8_27 ?_
  repeat (refine ⟨by decide, ?_⟩)
  simp only [cw_N]
  rw [cw_sr]
  rw [tn65]
  rw [cw_new (n' := 25) (s' := 8378) (by decide) (by decide) (by decide) (by decide) (by decide) (by decide)]
  rw [cw_sr]
  refine b8_38 ?_
  repeat (refine ⟨by decide, ?_⟩)
  simp only [cw_N]
  rw [show (25 : Nat) + 1 = 26 from rfl]
  rw [tn65]
  rw [cw_new (n' := 26) (s' := 8443) (by decide) (by decide) (by decide) (by decide) (by decide) (by decide)]
  rw [cw_sr]
  rw [cw_new (n' := 27) (s' := 8508) (by decide) (by decide) (by decide) (by decide) (by decide) (by decide)]
  rw [cw_sr]
  refine b8_54 ?_
  repeat (refine ⟨by decide, ?_⟩)
  simp only [cw_N]
  rw [tn65]
  rw [cw_new (n' := 28) (s' := 8573) (by decide) (by decide) (by decide) (by decide) (by decide) (by decide)]
  rw [cw_sr]
  rw [cw_sr]
  refine b8_67 ?_
  repeat (refine ⟨by decide, ?_⟩)
  simp only [cw_N]
  rw [cw_new (n' := 29) (s' := 8583) (by decide) (by decide) (by decide) (by decide) (by decide) (by decide)]
  refine b9_0 ?_
  repeat (refine ⟨by decide, ?_⟩)
  rw [cw_sj0]
  rw [cw_si0 (by decide)]
  rw [cw_si0 (by decide)]
  refine b9_19 ?_
  repeat (refine ⟨by decide, ?_⟩)
  simp only [cw_N]
  rw [show (29 : Nat) + 1 = 30 from rfl]
  rw [tn17]
  rw [cw_new (n' := 30) (s' := 8600) (by decide) (by decide) (by decide) (by decide) (by decide) (by decide)]
  rw [cw_sr]
  rw [cw_new (n' := 31) (s' := 8617) (by decide) (by decide) (by decide) (by decide) (by decide) (by decide)]
  rw [cw_sr]
  refine b9_35 ?_
  repeat (refine ⟨by decide, ?_⟩)
  rw [cw_si0 (by decide)]
  rw [cw_si0 (by decide)]
  rw [cw_si0 (by decide)]
  refine b9_50 ?_
  repeat (refine ⟨by decide, ?_⟩)
  rw [cw_si0 (by decide)]
  rw [cw_sr]
  refine b8_76 ?_
  repeat (refine ⟨by decide, ?_⟩)
  rw [cw_sr]
  refine b1_101 ?_
  repeat (refine ⟨by decide, ?_⟩)
  simp (decide := true) only [x_r_new, x_r_sr, cw_r, lkR, cw_N, Nat.reduceEqDiff, and_true, true_and, and_self, and_false, false_and, if_true, if_false, reduceIte]
  rw [cw_sr]
  rw [cw_new (n' := 32) (s' := 8629) (by decide) (by decide) (by decide) (by decide) (by decide) (by decide)]
  refine b10_0 ?_
  repeat (refine ⟨by decide, ?_⟩)
  simp only [cw_N]
  rw [show (32 : Nat) + 1 = 33 from rfl]
  rw [tn540]
  rw [cw_new (n' := 33) (s' := 9169) (by decide) (by decide) (by decide) (by decide) (by decide) (by decide)]
  rw [cw_sr]
  rw [cw_new (n' := 34) (s' := 9709) (by decide) (by decide) (by decide) (by decide) (by decide) (by decide)]
  rw [cw_sr]
  refine b10_22 ?_
  repeat (refine ⟨by decide, ?_⟩)
  simp only [cw_N]
  rw [show (34 : Nat) + 1 = 35 from rfl]
  rw [tn540]
  rw [cw_new (n' := 35) (s' := 10249) (by decide) (by decide) (by decide) (by decide) (by decide) (by decide)]
  rw [cw_sr]
  rw [cw_new (n' := 36) (s' := 10789) (by decide) (by decide) (by decide) (by decide) (by decide) (by decide)]
  rw [cw_sr]
  refine b10_40 ?_
  repeat (refine ⟨by decide, ?_⟩)
  rw [cw_si0 (by decide)]
  rw [cw_si0 (by decide)]
  rw [cw_si0 (by decide)]
  refine b10_55 ?_
  repeat (refine ⟨by decide, ?_⟩)
  rw [cw_si0 (by decide)]
  rw [cw_si0 (by decide)]
  rw [cw_si0 (by decide)]
  refine b10_70 ?_
  repeat (refine ⟨by decide, ?_⟩)
  rw [cw_si0 (by decide)]
  rw [cw_sr]
  refine b1_116 ?_
  repeat (refine ⟨by decide, ?_⟩)
  rw [cw_sr]
  rw [cw_si0 (by decide)]
  refine b0_7 ?_
  repeat (refine ⟨by decide, ?_⟩)
  simp only [cw_N]
  rw [cw_new (n' := 37) (s' := 10845) (by decide) (by decide) (by decide) (by decide) (by decide) (by decide)]
  refine b11_0 ?_
  repeat (refine ⟨by decide, ?_⟩)
  simp only [cw_N]
  rw [show (37 : Nat) + 1 = 38 from rfl]
  rw [tn900]
  rw [cw_new (n' := 38) (s' := 11745) (by decide) (by decide) (by decide) (by decide) (by decide) (by decide)]
  rw [cw_sr]
  rw [tn384]
  rw [cw_new (n' := 39) (s' := 12129) (by decide) (by decide) (by decide) (by decide) (by decide) (by decide)]
  rw [cw_sr]
  refine b11_22 ?_
  repeat (refine ⟨by decide, ?_⟩)
  simp only [cw_N]
  rw [show (39 : Nat) + 1 = 40 from rfl]
  rw [tn64]
  rw [cw_new (n' := 40) (s' := 12193) (by decide) (by decide) (by decide) (by decide) (by decide) (by decide)]
  rw [cw_sr]
  rw [tn81]
  rw [cw_new (n' := 41) (s' := 12274) (by decide) (by decide) (by decide) (by decide) (by decide) (by decide)]
  rw [cw_sr]
  refine b11_38 ?_
  repeat (refine ⟨by decide, ?_⟩)
  simp only [cw_N]
  rw [show (41 : Nat) + 1 = 42 from rfl]
  rw [tn81]
  rw [cw_new (n' := 42) (s' := 12355) (by decide) (by decide) (by decide) (by decide) (by decide) (by decide)]
  rw [cw_sr]
  rw [cw_new (n' := 43) (s' := 12436) (by decide) (by decide) (by decide) (by decide) (by decide) (by decide)]
  rw [cw_sr]
  refine b11_54 ?_
  repeat (refine ⟨by decide, ?_⟩)
  simp only [cw_N]
  rw [show (43 : Nat) + 1 = 44 from rfl]
  rw [tn64]
  rw [cw_new (n' := 44) (s' := 12500) (by decide) (by decide) (by decide) (by decide) (by decide) (by decide)]
  rw [cw_sr]
  rw [tn486]
  rw [cw_new (n' := 45) (s' := 12986) (by decide) (by decide) (by decide) (by decide) (by decide) (by decide)]
  rw [cw_sr]
  refine b11_71 ?_
  repeat (refine ⟨by decide, ?_⟩)
  simp only [cw_N]
  rw [show (45 : Nat) + 1 = 46 from rfl]
  rw [tn81]
  rw [cw_new (n' := 46) (s' := 13067) (by decide) (by decide) (by decide) (by decide) (by decide) (by decide)]
  rw [cw_sr]
  rw [cw_new (n' := 47) (s' := 13148) (by decide) (by decide) (by decide) (by decide) (by decide) (by decide)]
  rw [cw_sr]
  refine b11_87 ?_
  repeat (refine ⟨by decide, ?_⟩)
  simp only [cw_N]
  rw [show (47 : Nat) + 1 = 48 from rfl]
  rw [tn2000]
  rw [cw_new (n' := 48) (s' := 15148) (by decide) (by decide) (by decide) (by decide) (by decide) (by decide)]
  rw [cw_sr]
  rw [cw_new (n' := 49) (s' := 17148) (by decide) (by decide) (by decide) (by decide) (by decide) (by decide)]
  rw [cw_sr]
  refine b11_105 ?_
  repeat (refine ⟨by decide, ?_⟩)
  simp only [cw_N]
  rw [show (49 : Nat) + 1 = 50 from rfl]
  rw [tn64]
  rw [cw_new (n' := 50) (s' := 17212) (by decide) (by decide) (by decide) (by decide) (by decide) (by decide)]
  rw [cw_sr]
  rw [cw_new (n' := 51) (s' := 17276) (by decide) (by decide) (by decide) (by decide) (by decide) (by decide)]
  rw [cw_sr]
  refine b11_121 ?_
  repeat (refine ⟨by decide, ?_⟩)
  simp only [cw_N]
  rw [show (51 : Nat) + 1 = 52 from rfl]
  rw [tn17]
  rw [cw_new (n' := 52) (s' := 17293) (by decide) (by decide) (by decide) (by decide) (by decide) (by decide)]
  rw [cw_sr]
  rw [cw_new (n' := 53) (s' := 17310) (by decide) (by decide) (by decide) (by decide) (by decide) (by decide)]
  rw [cw_sr]
  refine b11_137 ?_
  repeat (refine ⟨by decide, ?_⟩)
  simp only [cw_N]
  rw [show (53 : Nat) + 1 = 54 from rfl]
  rw [tn60]
  rw [cw_new (n' := 54) (s' := 17370) (by decide) (by decide) (by decide) (by decide) (by decide) (by decide)]
  rw [cw_sr]
  rw [cw_new (n' := 55) (s' := 17430) (by decide) (by decide) (by decide) (by decide) (by decide) (by decide)]
  rw [cw_sr]
  refine b11_153 ?_
  repeat (refine ⟨by decide, ?_⟩)
  simp only [cw_N]
  rw [show (55 : Nat) + 1 = 56 from rfl]
  rw [tn17]
  rw [cw_new (n' := 56) (s' := 17447) (by decide) (by decide) (by decide) (by decide) (by decide) (by decide)]
  rw [cw_sr]
  rw [tn60]
  rw [cw_new (n' := 57) (s' := 17507) (by decide) (by decide) (by decide) (by decide) (by decide) (by decide)]
  rw [cw_sr]
  refine b11_169 ?_
  repeat (refine ⟨by decide, ?_⟩)
  simp only [cw_N]
  rw [show (57 : Nat) + 1 = 58 from rfl]
  rw [tn2400]
  rw [cw_new (n' := 58) (s' := 19907) (by decide) (by decide) (by decide) (by decide) (by decide) (by decide)]
  rw [cw_sr]
  rw [tn64]
  rw [cw_new (n' := 59) (s' := 19971) (by decide) (by decide) (by decide) (by decide) (by decide) (by decide)]
  rw [cw_sr]
  refine b11_186 ?_
  repeat (refine ⟨by decide, ?_⟩)
  simp only [cw_N]
  rw [show (59 : Nat) + 1 = 60 from rfl]
  rw [tn64]
  rw [cw_new (n' := 60) (s' := 20035) (by decide) (by decide) (by decide) (by decide) (by decide) (by decide)]
  rw [cw_sr]
  rw [tn1400]
  rw [cw_new (n' := 61) (s' := 21435) (by decide) (by decide) (by decide) (by decide) (by decide) (by decide)]
  rw [cw_sr]
  refine b11_203 ?_
  repeat (refine ⟨by decide, ?_⟩)
  simp only [cw_N]
  rw [show (61 : Nat) + 1 = 62 from rfl]
  rw [tn60]
  rw [cw_new (n' := 62) (s' := 21495) (by decide) (by decide) (by decide) (by decide) (by decide) (by decide)]
  rw [cw_sr]
  rw [tn64]
  rw [cw_new (n' := 63) (s' := 21559) (by decide) (by decide) (by decide) (by decide) (by decide) (by decide)]
  rw [cw_sr]
  refine b11_219 ?_
  repeat (refine ⟨by decide, ?_⟩)
  simp only [cw_N]
  rw [show (63 : Nat) + 1 = 64 from rfl]
  rw [tn81]
  rw [cw_new (n' := 64) (s' := 21640) (by decide) (by decide) (by decide) (by decide) (by decide) (by decide)]
  rw [cw_sr]
  rw [tn64]
  rw [cw_new (n' := 65) (s' := 21704) (by decide) (by decide) (by decide) (by decide) (by decide) (by decide)]
  rw [cw_sr]
  refine b11_235 ?_
  repeat (refine ⟨by decide, ?_⟩)
  simp only [cw_N]
  rw [show (65 : Nat) + 1 = 66 from rfl]
  rw [tn64]
  rw [cw_new (n' := 66) (s' := 21768) (by decide) (by decide) (by decide) (by decide) (by decide) (by decide)]
  rw [cw_sr]
  rw [tn720]
  rw [cw_new (n' := 67) (s' := 22488) (by decide) (by decide) (by decide) (by decide) (by decide) (by decide)]
  rw [cw_sr]
  refine b11_252 ?_
  repeat (refine ⟨by decide, ?_⟩)
  simp only [cw_N]
  rw [show (67 : Nat) + 1 = 68 from rfl]
  rw [tn720]
  rw [cw_new (n' := 68) (s' := 23208) (by decide) (by decide) (by decide) (by decide) (by decide) (by decide)]
  rw [cw_sr]
  rw [tn11520]
  rw [cw_new (n' := 69) (s' := 34728) (by decide) (by decide) (by decide) (by decide) (by decide) (by decide)]
  rw [cw_sr]
  refine b11_270 ?_
  repeat (refine ⟨by decide, ?_⟩)
  simp only [cw_N]
  rw [show (69 : Nat) + 1 = 70 from rfl]
  rw [tn720]
  rw [cw_new (n' := 70) (s' := 35448) (by decide) (by decide) (by decide) (by decide) (by decide) (by decide)]
  rw [cw_sr]
  rw [cw_new (n' := 71) (s' := 36168) (by decide) (by decide) (by decide) (by decide) (by decide) (by decide)]
  rw [cw_sr]
  refine b11_288 ?_
  repeat (refine ⟨by decide, ?_⟩)
  refine b0_15 ?_
  repeat (refine ⟨by decide, ?_⟩)
  simp only [cw_N]
  rw [tn1]
  rw [cw_new (n' := 72) (s' := 36169) (by decide) (by decide) (by decide) (by decide) (by decide) (by decide)]
  exact h
theorem x_nth_ge {α : Type} {d : α} : ∀ (l : List α) (i : Nat), l.length ≤ i → x_nth d l i = d
  | [], _, _ => rfl
  | _ :: l, 0, h => by simp at h
  | _ :: l, i + 1, h => x_nth_ge l i (by simp at h; omega)
theorem SH_0 : SH (cw 72 36169 [(4, 3, 20001), (3, 3, 20001)] x_l0) := by
  refine ⟨rfl, ?_, ?_, by decide⟩
  · funext o
    show (if o < 72 then sh_K o else 99) = sh_K o
    by_cases h : o < 72
    · rw [if_pos h]
    · rw [if_neg h]
      exact (x_nth_ge _ o (by simp; omega)).symm
  · funext o
    show (if o < 72 then sh_L o else 0) = sh_L o
    by_cases h : o < 72
    · rw [if_pos h]
    · rw [if_neg h]
      exact (x_nth_ge _ o (by simp; omega)).symm
theorem hc_z : ∀ j, j < 64 → hc 0 j = false := by decide +kernel
theorem alv_z : ∀ j, j < 64 → alv 0 [] 0 j = false := by decide +kernel
theorem IV_0 : IV (cw 72 36169 [(4, 3, 20001), (3, 3, 20001)] x_l0) := by
  refine ⟨SH_0, fun _ => 0, 0, 0, false, false, 0, 0, [], [], nob, nob, [], ⟨by omega, fun k => (by show 0 < 256; omega), rfl, rfl, fun k => rfl, fun k => rfl⟩, ?_, ?_, ?_⟩
  · refine ⟨by omega, by omega, by omega, by simp, by simp, by simp, fun ls h => (by cases h), fun s h => ?_, ⟨[], rfl⟩, fun h => h, fun j h => ?_, by simp, fun v h => (by cases h)⟩
    · have : (sg [] s).1 = false := rfl
      rw [this] at h
      cases h
    · cases h
  · refine ⟨5, 11, 17, 19, Or.inl ⟨rfl, rfl⟩, Or.inl ⟨rfl, rfl⟩, ⟨rfl, rfl, rfl, rfl⟩, rfl, ⟨⟨rfl, rfl, rfl, rfl, rfl, rfl⟩, fun c h => absurd h (by simp), fun s h => absurd h (by simp), fun s hs j hj => ?_, fun j hj => hc_z j hj, fun j hj => hc_z j hj⟩, rfl, fun k h => absurd h (by simp)⟩
    have e : s = 0 := by simpa using hs
    subst e
    rw [alv_z j hj]
    exact hc_z j hj
  · exact ⟨rfl, ⟨⟨rfl, rfl, rfl, rfl, rfl, rfl⟩, fun c h => absurd h (by simp), fun s h => absurd h (by simp)⟩, fun j hj => rfl, fun s h => absurd h (by simp), rfl, fun k h => absurd h (by simp)⟩
/-- the law comes to its end with true -/
theorem law_R {scr : Nat × (Nat → Int32)} (hL : scr.1 ≤ 2048) : x_R x_prog scr 0 0 [some (.ref x_sc), none, none, none, none, none, none] [] (cw 0 0 [] []) (fun o w' => o = .inl (some (.int 1)) ∧ x_C w' ≤ 1104 ∧ x_S w' ≤ 44409) := by
  refine ini ?_
  have go := law_l (scr := scr) (C := 1104) (S := 44409) (Q := fun o w' => o = .inl (some (.int 1)) ∧ x_C w' ≤ 1104 ∧ x_S w' ≤ 44409) hL (fun w' h1 h2 => ⟨rfl, h1, h2⟩) 512 0 _ none none (by omega) (by omega) IV_0 (by show 72 + 512 ≤ 1104; omega) (by show 36169 + 6 * 512 ≤ 44409; omega)
  exact go
