/-! Feeding, wiping and altering, on both sides. -/
theorem fd_lt (bs : Int64) {k : Nat} (hk : k < 8) : (fd_b bs k).toNatClampNeg < 256 ∧ fd_b bs k = nI (fd_b bs k).toNatClampNeg := by
  have : ∃ m, m < 256 ∧ fd_b bs k = nI m := by
    rw [← fd_cb bs k hk]
    unfold fd_c
    generalize ((bs.toUInt64 >>> ((8 * nI k).toInt64.toUInt64 &&& Int64.toUInt64 63)).toInt64).toInt32 = y
    refine ⟨(y &&& 255).toBitVec.toNat, ?_, ?_⟩
    · show (y.toBitVec &&& (255 : Int32).toBitVec).toNat < 256
      rw [BitVec.toNat_and]
      exact Nat.lt_of_le_of_lt Nat.and_le_right (by decide)
    · apply Int32.toBitVec_inj.mp
      show _ = BitVec.ofNat 32 _
      rw [BitVec.ofNat_toNat, BitVec.setWidth_eq]
  obtain ⟨m, h1, h2⟩ := this
  rw [h2, nI_clamp (by omega)]
  exact ⟨h1, rfl⟩
theorem getD_set (l : List Int) (j k : Nat) (x : Int) (hj : j < l.length) : (l.set j x).getD k 0 = if k = j then x else l.getD k 0 := by
  by_cases e : k = j
  · subst e
    rw [if_pos rfl, List.getD_eq_getElem?_getD, List.getElem?_set_self hj]
    rfl
  · rw [if_neg e, List.getD_eq_getElem?_getD, List.getD_eq_getElem?_getD, List.getElem?_set_ne (fun z => e z.symm)]
section X83
variable {scr : Nat × (Nat → Int32)} {w : xW} {Q : xO → xW → Prop} {w1 w2 : xW} {t : Nat → Nat} {sz fa P D T S V g n dc : Nat} {hf hs pk : Bool} {cs : List (List Int)} {st : xSt} {mk sp : Nat → Bool} {tk : List Int} {a b v c : Int32} {bs : Int64} {o1 o2 o3 o4 o5 o6 : Option Value}
theorem CR_e (f : ∀ p k, ((p = 36 ∧ (k = 3 ∨ k = 4 ∨ k = 5 ∨ k = 6 ∨ k = 7 ∨ k = 10 ∨ k = 11 ∨ k = 24)) ∨ (38 ≤ p ∧ p ≤ 47)) → x_i w1 p k = x_i w p k) (hC : CR w fa hf hs V g cs st mk sp tk) : CR w1 fa hf hs V g cs st mk sp tk := by
  obtain ⟨c3, ⟨⟨p4, p5, p6, p7, p10, p11⟩, pR, pS⟩, cM, cW, c24, cT⟩ := hC
  exact ⟨(f 36 3 (by omega)).trans c3, ⟨⟨(f 36 4 (by omega)).trans p4, (f 36 5 (by omega)).trans p5, (f 36 6 (by omega)).trans p6, (f 36 7 (by omega)).trans p7, (f 36 10 (by omega)).trans p10, (f 36 11 (by omega)).trans p11⟩, fun c hc => ⟨(f 39 _ (by omega)).trans (pR c hc).1, fun k hk => (f 38 _ (by omega)).trans ((pR c hc).2 k hk)⟩, fun s hs => ⟨(f 40 _ (by omega)).trans (pS s hs).1, (f 41 _ (by omega)).trans (pS s hs).2⟩⟩, fun j hj => (f 43 j (by omega)).trans (cM j hj), fun s hs => (f 42 _ (by omega)).trans (cW s hs), (f 36 24 (by omega)).trans c24, fun k hk => (f 47 k (by omega)).trans (cT k hk)⟩
theorem CC_e (f : ∀ p k, ((p = 0 ∧ k = 9) ∨ (5 ≤ p ∧ p ≤ 20)) → x_i w1 p k = x_i w p k) (hj : x_j w1 = x_j w) (hr : x_r w1 = x_r w) (hC : CC w fa hf hs V g cs st mk sp tk) : CC w1 fa hf hs V g cs st mk sp tk := by
  obtain ⟨P, D, T, S, hP, hT, hrr, h9, hS, hK⟩ := hC
  exact ⟨P, D, T, S, hP, hT, by rw [hr]; exact hrr, (f 0 9 (by omega)).trans h9, PS_e (fun p h1 h2 => funext fun k => f p k (by omega)) (by rw [hj]) (by rw [hj]) hS, TK_e (funext fun k => f T k (by omega)) (funext fun k => f (T + 1) k (by omega)) hK⟩
/-- feed -/
theorem op0 (hI : IV w) : ∀ o3, x_R x_prog scr 12 0 [some (.ref 0), some (.int a), some (.long bs), o3] [] w (fun o w1 => ∃ c, o = .inl (some (.int c)) ∧ x_k w1 36 = 12 ∧ ∀ o3 o4, x_R x_prog scr 14 0 [some (.ref 36), some (.int a), some (.long bs), o3, o4] [] w1 (OK1 w c)) := by
  intro o3
  obtain ⟨h, t, sz, fa, hf, hs, V, g, cs, st, mk, sp, tk, ht, hA, hC, hR⟩ := id hI
  obtain ⟨h900, ht256, hs1, hs36, hb2, hb37⟩ := ht
  refine c12 h hs1 h900 (fun z => ⟨1, rfl, k36 h, fun o3 o4 => ?_⟩) (fun z => ⟨0, rfl, k36 h, fun o3 o4 => ?_⟩)
  · have hn8 : a.toNatClampNeg ≤ 8 := by
      obtain ⟨j, hj, rfl⟩ : ∃ j : Nat, j ≤ 8 ∧ a = nI j := nI_of2 (M := 8) rfl (fun y => z.1 (Int32.lt_of_lt_of_le y (by decide))) (Int32.not_lt.mp z.2.1)
      rw [nI_clamp (by omega)]
      exact hj
    have hn9 := z.2.2
    have e36 : x_i (x_wi w (fd_f (x_i w) 2 1 1 sz a.toNatClampNeg bs)) 36 1 = nI sz := by
      show fd_f (x_i w) 2 1 1 sz a.toNatClampNeg bs 36 1 = _
      unfold fd_f
      rw [if_neg (by omega), if_neg (by omega)]
      exact hs36
    refine c14 (sh_wi h) e36 h900 (fun _ => ⟨rfl, ?_, GW_rf⟩) (fun y => absurd z y)
    generalize hn : a.toNatClampNeg = n at *
    generalize hw : x_wi (x_wi w (fd_f (x_i w) 2 1 1 sz n bs)) (fd_f (x_up (x_i (x_wi w (fd_f (x_i w) 2 1 1 sz n bs))) 36 0 0) 37 36 1 sz n bs) = w2
    have hx : ∀ p k, x_i w2 p k = if p = 37 ∧ sz ≤ k ∧ k < sz + n then fd_b bs (k - sz) else if p = 36 ∧ k = 1 then nI (sz + n) else if p = 36 ∧ k = 0 then 0 else if p = 2 ∧ sz ≤ k ∧ k < sz + n then fd_b bs (k - sz) else if p = 1 ∧ k = 1 then nI (sz + n) else x_i w p k := by
      intro p k
      rw [← hw]
      show fd_f (x_up (fd_f (x_i w) 2 1 1 sz n bs) 36 0 0) 37 36 1 sz n bs p k = _
      unfold fd_f
      simp only [x_up_at]
    have hsh : SH w2 := by rw [← hw]; exact h
    have hj : x_j w2 = x_j w := by rw [← hw]; rfl
    have hr : x_r w2 = x_r w := by rw [← hw]; rfl
    clear hw
    refine ⟨hsh, fun k => if sz ≤ k ∧ k < sz + n then (fd_b bs (k - sz)).toNatClampNeg else t k, sz + n, fa, hf, hs, V, g, cs, st, mk, sp, tk, ⟨by omega, fun k => ?_, ?_, ?_, fun k => ?_, fun k => ?_⟩, hA, CC_e (fun p k hp => ?_) hj hr hC, CR_e (fun p k hp => ?_) hR⟩
    · dsimp only
      split
      · exact (fd_lt bs (by omega)).1
      · exact ht256 k
    · rw [hx, if_neg (by omega), if_neg (by omega), if_neg (by omega), if_neg (by omega), if_pos ⟨rfl, rfl⟩]
    · rw [hx, if_neg (by omega), if_pos ⟨rfl, rfl⟩]
    · rw [hx, if_neg (by omega), if_neg (by omega), if_neg (by omega)]
      dsimp only
      by_cases c1 : sz ≤ k ∧ k < sz + n
      · rw [if_pos ⟨rfl, c1⟩, if_pos c1]
        exact (fd_lt bs (by omega)).2
      · rw [if_neg (fun u => c1 u.2), if_neg (by omega), if_neg c1]
        exact hb2 k
    · rw [hx]
      dsimp only
      by_cases c1 : sz ≤ k ∧ k < sz + n
      · rw [if_pos ⟨rfl, c1⟩, if_pos c1]
        exact (fd_lt bs (by omega)).2
      · rw [if_neg (fun u => c1 u.2), if_neg (by omega), if_neg (by omega), if_neg (by omega), if_neg (by omega), if_neg c1]
        exact hb37 k
    · rw [hx, if_neg (by omega), if_neg (by omega), if_neg (by omega), if_neg (by omega), if_neg (by omega)]
    · rw [hx, if_neg (by omega), if_neg (by omega), if_neg (by omega), if_neg (by omega), if_neg (by omega)]
  · exact c14 h hs36 h900 (fun y => absurd y z) (fun _ => OK1_z hI)
/-- wipe -/
theorem op1 (hI : IV w) : x_R x_prog scr 15 0 [some (.ref 0)] [] w (fun o w1 => ∃ c, o = .inl (some (.int c)) ∧ x_k w1 36 = 12 ∧ ∀ o1, x_R x_prog scr 17 0 [some (.ref 36), o1] [] w1 (OK1 w c)) := by
  obtain ⟨h, t, sz, fa, hf, hs, V, g, cs, st, mk, sp, tk, ht, hA, hC, hR⟩ := id hI
  obtain ⟨h900, ht256, hs1, hs36, hb2, hb37⟩ := ht
  refine c15 h ⟨_, rfl, k36 h, fun o1 => c17 (sh_wi h) ?_⟩
  have e36 : x_i (x_wi w (x_up (x_i w) 1 1 0)) 36 1 = nI sz := by
    show x_up (x_i w) 1 1 0 36 1 = _
    rw [x_up_at, if_neg (by omega)]
    exact hs36
  rw [e36, hs1]
  refine ⟨rfl, ?_, GW_rf⟩
  generalize hw : x_wi (x_wi w (x_up (x_i w) 1 1 0)) (x_up (x_up (x_i (x_wi w (x_up (x_i w) 1 1 0))) 36 0 0) 36 1 0) = w2
  have hx : ∀ p k, x_i w2 p k = if p = 36 ∧ k = 1 then 0 else if p = 36 ∧ k = 0 then 0 else if p = 1 ∧ k = 1 then 0 else x_i w p k := by
    intro p k
    rw [← hw]
    show x_up (x_up (x_up (x_i w) 1 1 0) 36 0 0) 36 1 0 p k = _
    simp only [x_up_at]
  have hsh : SH w2 := by rw [← hw]; exact h
  have hj : x_j w2 = x_j w := by rw [← hw]; rfl
  have hr : x_r w2 = x_r w := by rw [← hw]; rfl
  clear hw
  refine ⟨hsh, t, 0, fa, hf, hs, V, g, cs, st, mk, sp, tk, ⟨by omega, ht256, ?_, ?_, fun k => ?_, fun k => ?_⟩, hA, CC_e (fun p k hp => ?_) hj hr hC, CR_e (fun p k hp => ?_) hR⟩
  · rw [hx, if_neg (by omega), if_neg (by omega), if_pos ⟨rfl, rfl⟩]; rfl
  · rw [hx, if_pos ⟨rfl, rfl⟩]; rfl
  · rw [hx, if_neg (by omega), if_neg (by omega), if_neg (by omega)]; exact hb2 k
  · rw [hx, if_neg (by omega), if_neg (by omega), if_neg (by omega)]; exact hb37 k
  · rw [hx, if_neg (by omega), if_neg (by omega), if_neg (by omega)]
  · rw [hx, if_neg (by omega), if_neg (by omega), if_neg (by omega)]
/-- alter -/
theorem op15 (hI : IV w) : ∀ o3, x_R x_prog scr 158 0 [some (.ref 0), some (.int a), some (.int v), o3] [] w (fun o w1 => ∃ c, o = .inl (some (.int c)) ∧ x_k w1 36 = 12 ∧ x_R x_prog scr 160 0 [some (.ref 36), some (.int a), some (.int v)] [] w1 (OK1 w c)) := by
  intro o3
  obtain ⟨h, t, sz, fa, hf, hs, V, g, cs, st, mk, sp, tk, ht, hA, hC, hR⟩ := id hI
  obtain ⟨hfa, hV, hg40, hgl, hl63, hst80, hco, hst0, hrs, hsf, hmk, htl, htv⟩ := hA
  obtain ⟨P, D, T, S, hP, hT, ⟨r5, r6, r7, r8⟩, h9, hS, hK⟩ := id hC
  refine c158 h r7 (by omega) hK.1 htl (fun z => ⟨1, rfl, k36 h, ?_⟩) (fun z => ⟨0, rfl, k36 h, c160 h hR.2.2.2.2.1 htl (fun y => absurd y z) (fun _ => OK1_z hI)⟩)
  have e24 : ∀ q, x_i (x_wi w (x_up (x_i w) (T + 1) q v)) 36 24 = nI tk.length := fun q => by
    show x_up (x_i w) (T + 1) q v 36 24 = _
    rw [x_up_at, if_neg (by omega)]
    exact hR.2.2.2.2.1
  refine c160 (sh_wi h) (e24 _) htl (fun _ => ⟨rfl, ?_, GW_rf⟩) (fun y => absurd z y)
  have hvr : -9999 ≤ v.toInt ∧ v.toInt ≤ 10000 := by
    rcases z.2 with y | ⟨y1, y2⟩
    · rw [y]; decide
    · rw [Int32.lt_iff_toInt_lt] at y1 y2
      have e1 : (-9999 : Int32).toInt = -9999 := by decide
      have e2 : (9999 : Int32).toInt = 9999 := by decide
      omega
  have hvi : iI v.toInt = v := Int32.ofInt_toInt v
  obtain ⟨j, hj, rfl, -⟩ := pk_mu (L := tk.length) z.1.1 z.1.2 (by omega)
  rw [nI_clamp (show j < 2 ^ 31 by omega)]
  generalize hw : x_wi (x_z (x_wi w (x_up (x_i w) (T + 1) j v))) (x_up (x_i (x_z (x_wi w (x_up (x_i w) (T + 1) j v)))) 47 j v) = w2
  have hx : ∀ p k, x_i w2 p k = if p = 47 ∧ k = j then v else if p = 36 ∧ k = 0 then 0 else if p = T + 1 ∧ k = j then v else x_i w p k := by
    intro p k
    rw [← hw]
    show x_up (x_up (x_up (x_i w) (T + 1) j v) 36 0 0) 47 j v p k = _
    simp only [x_up_at]
  have hsh : SH w2 := by rw [← hw]; exact h
  have hj2 : x_j w2 = x_j w := by rw [← hw]; rfl
  have hr : x_r w2 = x_r w := by rw [← hw]; rfl
  clear hw
  obtain ⟨h900, ht256, hs1, hs36, hb2, hb37⟩ := ht
  have hA' : AK fa hf hs V g cs st mk sp (tk.set j v.toInt) := by
    refine ⟨hfa, hV, hg40, hgl, hl63, hst80, hco, hst0, hrs, hsf, hmk, by rw [List.length_set]; exact htl, fun x hx => ?_⟩
    rcases List.mem_or_eq_of_mem_set hx with y | y
    · exact htv x y
    · rw [y]; exact hvr
  refine ⟨hsh, t, sz, fa, hf, hs, V, g, cs, st, mk, sp, tk.set j v.toInt, ⟨h900, ht256, ?_, ?_, fun k => ?_, fun k => ?_⟩, hA', ⟨P, D, T, S, hP, hT, by rw [hr]; exact ⟨r5, r6, r7, r8⟩, ?_, PS_e (fun p h1 h2 => funext fun k => ?_) (by rw [hj2]) (by rw [hj2]) hS, ?_, fun k hk => ?_⟩, ?_⟩
  · rw [hx, if_neg (by omega), if_neg (by omega), if_neg (by omega)]; exact hs1
  · rw [hx, if_neg (by omega), if_neg (by omega), if_neg (by omega)]; exact hs36
  · rw [hx, if_neg (by omega), if_neg (by omega), if_neg (by omega)]; exact hb2 k
  · rw [hx, if_neg (by omega), if_neg (by omega), if_neg (by omega)]; exact hb37 k
  · rw [hx, if_neg (by omega), if_neg (by omega), if_neg (by omega)]; exact h9
  · rw [hx, if_neg (by omega), if_neg (by omega), if_neg (by omega)]
  · rw [hx, if_neg (by omega), if_neg (by omega), if_neg (by omega), List.length_set]; exact hK.1
  · rw [List.length_set] at hk
    rw [hx, if_neg (by omega), if_neg (by omega), getD_set tk j k _ hj]
    by_cases e : k = j
    · rw [if_pos ⟨rfl, e⟩, if_pos e, hvi]
    · rw [if_neg (fun u => e u.2), if_neg e]
      exact hK.2 k hk
  · obtain ⟨c3, cP, cM, cW, c24, cT⟩ := hR
    have f : ∀ p k, ((p = 36 ∧ (k = 3 ∨ k = 4 ∨ k = 5 ∨ k = 6 ∨ k = 7 ∨ k = 10 ∨ k = 11 ∨ k = 24)) ∨ (38 ≤ p ∧ p ≤ 46)) → x_i w2 p k = x_i w p k := fun p k hp => by rw [hx, if_neg (by omega), if_neg (by omega), if_neg (by omega)]
    obtain ⟨⟨p4, p5, p6, p7, p10, p11⟩, pR, pS⟩ := cP
    refine ⟨(f 36 3 (by omega)).trans c3, ⟨⟨(f 36 4 (by omega)).trans p4, (f 36 5 (by omega)).trans p5, (f 36 6 (by omega)).trans p6, (f 36 7 (by omega)).trans p7, (f 36 10 (by omega)).trans p10, (f 36 11 (by omega)).trans p11⟩, fun c hc => ⟨(f 39 _ (by omega)).trans (pR c hc).1, fun k hk => (f 38 _ (by omega)).trans ((pR c hc).2 k hk)⟩, fun s hs => ⟨(f 40 _ (by omega)).trans (pS s hs).1, (f 41 _ (by omega)).trans (pS s hs).2⟩⟩, fun j hj => (f 43 j (by omega)).trans (cM j hj), fun s hs => (f 42 _ (by omega)).trans (cW s hs), by rw [f 36 24 (by omega), List.length_set]; exact c24, fun k hk => ?_⟩
    rw [List.length_set] at hk
    rw [hx, getD_set tk j k _ hj]
    by_cases e : k = j
    · rw [if_pos ⟨rfl, e⟩, if_pos e, hvi]
    · rw [if_neg (fun u => e u.2), if_neg (by omega), if_neg (by omega), if_neg e]
      exact cT k hk
end X83
