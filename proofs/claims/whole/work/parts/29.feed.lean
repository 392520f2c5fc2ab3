/-! Worlds by their int heap; feed and wipe. Cells: 36 the reference, 37 its text; 1 the class's Text, 2 its bytes. -/
def x_wi (w : xW) (f : Nat → Nat → Int32) : xW := (x_N w, x_C w, x_S w, x_k w, x_l w, f, x_j w, x_r w)
theorem x_si_wi (w : xW) (o k : Nat) (v : Int32) : x_si w o k v = x_wi w (x_up (x_i w) o k v) := rfl
theorem x_wi_wi (w : xW) (f g : Nat → Nat → Int32) : x_wi (x_wi w f) g = x_wi w g := rfl
theorem x_i_wi (w : xW) (f : Nat → Nat → Int32) : x_i (x_wi w f) = f := rfl
theorem x_k_wi (w : xW) (f : Nat → Nat → Int32) : x_k (x_wi w f) = x_k w := rfl
theorem x_l_wi (w : xW) (f : Nat → Nat → Int32) : x_l (x_wi w f) = x_l w := rfl
theorem x_r_wi (w : xW) (f : Nat → Nat → Int32) : x_r (x_wi w f) = x_r w := rfl
theorem x_j_wi (w : xW) (f : Nat → Nat → Int32) : x_j (x_wi w f) = x_j w := rfl
theorem x_wi_self (w : xW) : x_wi w (x_i w) = w := rfl
theorem sh_wi {w : xW} {f : Nat → Nat → Int32} (h : SH w) : SH (x_wi w f) := h
theorem x_up_at {α : Type} (f : Nat → Nat → α) (o k o' k' : Nat) (v : α) : x_up f o k v o' k' = if o' = o ∧ k' = k then v else f o' k' := by
  unfold x_up
  by_cases h : o' = o
  · subst h
    by_cases h2 : k' = k <;> simp [h2]
  · simp [h]
/-- the byte at place k of a call of feed -/
def fd_b (bs : Int64) (k : Nat) : Int32 := ((bs >>> ((8 * nI k).toInt64 &&& 63)) &&& 255).toInt32
/-- the int heap behind feed: n bytes at the cell tx from place sz on, the size at (o, s) -/
def fd_f (f : Nat → Nat → Int32) (tx o s sz n : Nat) (bs : Int64) : Nat → Nat → Int32 := fun a k => if a = tx ∧ sz ≤ k ∧ k < sz + n then fd_b bs (k - sz) else if a = o ∧ k = s then nI (sz + n) else f a k
theorem c14_loop {scr : Nat × (Nat → Int32)} {w : xW} {Q : xO → xW → Prop} {sz n : Nat} {bs : Int64} (h : SH w) (hn : sz + n ≤ 900)
    (hq : Q (.inl (some (.int 1))) (x_wi w (fd_f (x_i w) 37 36 1 sz n bs))) :
    ∀ (d i : Nat) (o3 : Option Value), i + d = n → x_R x_prog scr 14 33 [some (.ref 36), some (.int (nI n)), some (.long bs), o3, some (.int (nI i))] [] (x_wi w (fd_f (x_i w) 37 36 1 sz i bs)) Q := by
  intro d
  induction d with
  | zero =>
    intro i o3 hi
    have hin : i = n := by omega
    subst hin
    exact b14_33 ⟨fun _ => ⟨Or.inr rfl, hq⟩, fun h => absurd (nI_le (Nat.le_refl _) (by omega)) h⟩
  | succ d ih =>
    intro i o3 hi
    have hsz : fd_f (x_i w) 37 36 1 sz i bs 36 1 = nI (sz + i) := by simp [fd_f]
    refine b14_33 ⟨fun h => absurd h (nI_ge (by omega) (by omega)), fun _ => ?_⟩
    simp only [x_k_wi, x_l_wi, x_r_wi, x_i_wi, x_si_wi, x_wi_wi, hsz, sr36_2 h, sh_k h, sh_l h, kk36, kk37, ll37]
    refine ⟨trivial, by decide, trivial, ⟨trivial, vp_in_nI (by omega) (by omega)⟩, trivial, trivial, ?_⟩
    rw [nI_1 i, nI_clamp (by omega)]
    have e1 : nI (sz + i) + 1 = nI (sz + (i + 1)) := by rw [nI_1]; rfl
    have e2 : ((bs >>> ((8 * nI i).toInt64 &&& 63)) &&& 255).toInt32 = fd_b bs i := rfl
    have e3 : x_up (x_up (fd_f (x_i w) 37 36 1 sz i bs) 37 (sz + i) (fd_b bs i)) 36 1 (x_up (fd_f (x_i w) 37 36 1 sz i bs) 37 (sz + i) (fd_b bs i) 36 1 + 1) = fd_f (x_i w) 37 36 1 sz (i + 1) bs := by
      funext o k
      simp only [x_up_at, fd_f]
      grind
    rw [e2, e3]
    exact ih (i + 1) none (by omega)
/-- may n bytes be fed behind sz? -/
def fd_ok (sz : Nat) (n : Int32) : Prop := ¬ n < 1 ∧ ¬ 8 < n ∧ sz + n.toNatClampNeg ≤ 900
/-- feed of the reference -/
theorem c14 {scr : Nat × (Nat → Int32)} {w : xW} {Q : xO → xW → Prop} {sz : Nat} {n : Int32} {bs : Int64} {o3 o4 : Option Value} (h : SH w) (hs : x_i w 36 1 = nI sz) (hsz : sz ≤ 900)
    (hq1 : fd_ok sz n → Q (.inl (some (.int 1))) (x_wi w (fd_f (x_up (x_i w) 36 0 0) 37 36 1 sz n.toNatClampNeg bs))) (hq0 : ¬ fd_ok sz n → Q (.inl (some (.int 0))) (x_wi w (x_up (x_i w) 36 0 0))) :
    x_R x_prog scr 14 0 [some (.ref 36), some (.int n), some (.long bs), o3, o4] [] w Q := by
  refine b14_0 ⟨by rw [sh_k h]; rfl, fun h1 => ⟨Or.inl rfl, hq0 fun z => z.1 h1⟩, fun h1 => ⟨fun h2 => ⟨Or.inl rfl, hq0 fun z => z.2.1 h2⟩, fun h2 => ⟨by rw [sh_k h]; rfl, ?_⟩⟩⟩
  have e1 : x_i (x_si w 36 0 0) 36 1 = nI sz := by rw [x_si_wi, x_i_wi, x_up_at]; simpa using hs
  obtain ⟨j, hj, rfl⟩ : ∃ j : Nat, j ≤ 8 ∧ n = nI j := nI_of2 (M := 8) rfl (fun z => h1 (Int32.lt_of_lt_of_le z (by decide))) (Int32.not_lt.mp h2)
  have hj2 : (nI j).toNatClampNeg = j := nI_clamp (by omega)
  rw [hj2] at hq1
  rw [e1, nI_add]
  refine ⟨fun h3 => ?_, fun h3 => ⟨Or.inl rfl, hq0 fun z => h3 ?_⟩⟩
  · have h4 : sz + j ≤ 900 := (nI_leI (by omega) (by omega)).mp h3
    have e2 : x_si w 36 0 0 = x_wi (x_wi w (x_up (x_i w) 36 0 0)) (fd_f (x_up (x_i w) 36 0 0) 37 36 1 sz 0 bs) := by
      rw [x_si_wi, x_wi_wi]
      congr 1
      funext o k
      simp only [fd_f, x_up_at]
      have : x_i w 36 1 = nI (sz + 0) := hs
      grind
    rw [e2]
    exact c14_loop (w := x_wi w (x_up (x_i w) 36 0 0)) (sh_wi h) h4 (hq1 ⟨h1, h2, by rw [hj2]; exact h4⟩) j 0 none (by omega)
  · have h5 := z.2.2
    rw [hj2] at h5
    exact nI_le (b := 900) h5 (by decide)
/-- the byte that the class takes: the same -/
def fd_c (bs : Int64) (k : Nat) : Int32 := ((bs.toUInt64 >>> ((8 * nI k).toInt64.toUInt64 &&& Int64.toUInt64 63)).toInt64).toInt32 &&& 255
theorem fd_cb (bs : Int64) : ∀ k, k < 8 → fd_c bs k = fd_b bs k := by
  intro k hk
  have e1 : ((8 * nI k).toInt64.toUInt64 &&& Int64.toUInt64 63).toBitVec.toNat % 64 = 8 * k := by
    have h : k = 0 ∨ k = 1 ∨ k = 2 ∨ k = 3 ∨ k = 4 ∨ k = 5 ∨ k = 6 ∨ k = 7 := by omega
    rcases h with rfl | rfl | rfl | rfl | rfl | rfl | rfl | rfl <;> decide +kernel
  have e2 : (((8 * nI k).toInt64 &&& 63).toBitVec.smod 64).toNat = 8 * k := by
    have h : k = 0 ∨ k = 1 ∨ k = 2 ∨ k = 3 ∨ k = 4 ∨ k = 5 ∨ k = 6 ∨ k = 7 := by omega
    rcases h with rfl | rfl | rfl | rfl | rfl | rfl | rfl | rfl <;> decide +kernel
  unfold fd_c fd_b
  generalize ((8 * nI k).toInt64.toUInt64 &&& Int64.toUInt64 63) = u at e1 ⊢
  generalize ((8 * nI k).toInt64 &&& 63) = v at e2 ⊢
  apply Int32.toBitVec_inj.mp
  apply BitVec.eq_of_getLsbD_eq
  intro i hi
  simp
  have e3 : u.toNat % 64 = 8 * k := e1
  have e4 : (v.toBitVec.smod 64#64).toNat = 8 * k := e2
  rw [e3, e4]
  by_cases h8 : i < 8
  · rw [BitVec.getLsbD_signExtend, BitVec.getLsbD_signExtend, BitVec.getLsbD_ushiftRight, BitVec.getLsbD_sshiftRight]
    have h1 : i < 64 := by omega
    have h2 : 8 * k + i < 64 := by omega
    have h3 : ¬ 64 ≤ i := by omega
    simp [h1, h2, hi, h3]
  · have h9 : (255#32).getLsbD i = false := by
      have h : i = 8 ∨ i = 9 ∨ i = 10 ∨ i = 11 ∨ i = 12 ∨ i = 13 ∨ i = 14 ∨ i = 15 ∨ i = 16 ∨ i = 17 ∨ i = 18 ∨ i = 19 ∨ i = 20 ∨ i = 21 ∨ i = 22 ∨ i = 23 ∨ i = 24 ∨ i = 25 ∨ i = 26 ∨ i = 27 ∨ i = 28 ∨ i = 29 ∨ i = 30 ∨ i = 31 := by omega
      rcases h with rfl | rfl | rfl | rfl | rfl | rfl | rfl | rfl | rfl | rfl | rfl | rfl | rfl | rfl | rfl | rfl | rfl | rfl | rfl | rfl | rfl | rfl | rfl | rfl <;> rfl
    rw [h9, Bool.and_false, Bool.and_false]
/-- the text of the class, the same way: Text.append -/
theorem c13_loop {scr : Nat × (Nat → Int32)} {w : xW} {Q : xO → xW → Prop} {sz n : Nat} {bs : Int64} (h : SH w) (hn : sz + n ≤ 900) (hn8 : n ≤ 8) (hs : x_i w 1 1 = nI sz)
    (hq : Q (.inl (some (.int 1))) (x_wi w (fd_f (x_i w) 2 1 1 sz n bs))) :
    ∀ (d i : Nat) (o3 : Option Value) (f : Nat → Nat → Int32), i + d = n → (∀ a k, f a k = if a = 2 ∧ sz ≤ k ∧ k < sz + i then fd_b bs (k - sz) else x_i w a k) →
      x_R x_prog scr 13 28 [some (.ref 1), some (.int (nI n)), some (.long bs), o3, some (.int (nI i))] [] (x_wi w f) Q := by
  intro d
  induction d with
  | zero =>
    intro i o3 f hi hf
    have hin : i = n := by omega
    subst hin
    refine b13_28 ⟨fun _ => ⟨by rw [x_k_wi, sh_k h]; rfl, by rw [x_k_wi, sh_k h]; rfl, Or.inr rfl, ?_⟩, fun h => absurd (nI_le (Nat.le_refl _) (by omega)) h⟩
    have e1 : f 1 1 = nI sz := by rw [hf]; simpa using hs
    have e2 : x_si (x_wi w f) 1 1 (x_i (x_wi w f) 1 1 + nI i) = x_wi w (fd_f (x_i w) 2 1 1 sz i bs) := by
      rw [x_si_wi, x_i_wi, x_wi_wi, e1, nI_add]
      congr 1
      funext a k
      simp only [x_up_at, fd_f, hf]
      grind
    rw [e2]
    exact hq
  | succ d ih =>
    intro i o3 f hi hf
    have e1 : f 1 1 = nI sz := by rw [hf]; simpa using hs
    refine b13_28 ⟨fun h => absurd h (nI_ge (by omega) (by omega)), fun _ => ?_⟩
    simp only [x_k_wi, x_l_wi, x_r_wi, x_i_wi, x_si_wi, x_wi_wi, e1, sr1_0 h, sh_k h, sh_l h, kk1, kk2, ll2, nI_add]
    refine ⟨trivial, by decide, trivial, ⟨trivial, vp_in_nI (by omega) (by omega)⟩, ?_⟩
    rw [nI_1 i, nI_clamp (by omega)]
    have e2 := fd_cb bs i (by omega)
    unfold fd_c at e2
    rw [e2]
    refine ih (i + 1) none _ (by omega) (fun a k => ?_)
    simp only [x_up_at, hf]
    grind
/-- Text.append -/
theorem c13 {scr : Nat × (Nat → Int32)} {w : xW} {Q : xO → xW → Prop} {sz : Nat} {n : Int32} {bs : Int64} {o3 o4 : Option Value} (h : SH w) (hs : x_i w 1 1 = nI sz) (hsz : sz ≤ 900)
    (hq1 : fd_ok sz n → Q (.inl (some (.int 1))) (x_wi w (fd_f (x_i w) 2 1 1 sz n.toNatClampNeg bs))) (hq0 : ¬ fd_ok sz n → Q (.inl (some (.int 0))) w) :
    x_R x_prog scr 13 0 [some (.ref 1), some (.int n), some (.long bs), o3, o4] [] w Q := by
  refine b13_0 ⟨fun h1 => ⟨Or.inl rfl, hq0 fun z => z.1 h1⟩, fun h1 => ⟨fun h2 => ⟨Or.inl rfl, hq0 fun z => z.2.1 h2⟩, fun h2 => ⟨by rw [sh_k h]; rfl, ?_⟩⟩⟩
  obtain ⟨j, hj, rfl⟩ : ∃ j : Nat, j ≤ 8 ∧ n = nI j := nI_of2 (M := 8) rfl (fun z => h1 (Int32.lt_of_lt_of_le z (by decide))) (Int32.not_lt.mp h2)
  have hj2 : (nI j).toNatClampNeg = j := nI_clamp (by omega)
  rw [hj2] at hq1
  rw [hs, nI_add]
  refine ⟨fun h3 => ?_, fun h3 => ⟨Or.inl rfl, hq0 fun z => h3 ?_⟩⟩
  · have h4 : sz + j ≤ 900 := (nI_leI (by omega) (by omega)).mp h3
    exact c13_loop h h4 hj hs (hq1 ⟨h1, h2, by rw [hj2]; exact h4⟩) j 0 none (x_i w) (by omega) (fun a k => by rw [if_neg (by omega)])
  · have h5 := z.2.2
    rw [hj2] at h5
    exact nI_le (b := 900) h5 (by decide)
/-- feed of the class -/
theorem c12 {scr : Nat × (Nat → Int32)} {w : xW} {Q : xO → xW → Prop} {sz : Nat} {n : Int32} {bs : Int64} {o3 : Option Value} (h : SH w) (hs : x_i w 1 1 = nI sz) (hsz : sz ≤ 900)
    (hq1 : fd_ok sz n → Q (.inl (some (.int 1))) (x_wi w (fd_f (x_i w) 2 1 1 sz n.toNatClampNeg bs))) (hq0 : ¬ fd_ok sz n → Q (.inl (some (.int 0))) w) :
    x_R x_prog scr 12 0 [some (.ref 0), some (.int n), some (.long bs), o3] [] w Q := by
  refine b12_0 ?_
  simp only [sr0_0 h, sh_k h, kk0, kk1]
  refine ⟨trivial, by decide, trivial, c13 h hs hsz (fun z => b12_9 ⟨Or.inr rfl, hq1 z⟩) (fun z => b12_9 ⟨Or.inl rfl, hq0 z⟩)⟩
/-- wipe of the reference -/
theorem c17 {scr : Nat × (Nat → Int32)} {w : xW} {Q : xO → xW → Prop} {o1 : Option Value} (h : SH w) (hq : Q (.inl (some (.int (x_i w 36 1)))) (x_wi w (x_up (x_up (x_i w) 36 0 0) 36 1 0))) : x_R x_prog scr 17 0 [some (.ref 36), o1] [] w Q := by
  refine b17_0 ?_
  have e1 : x_i (x_si w 36 0 0) 36 1 = x_i w 36 1 := by rw [x_si_wi, x_i_wi, x_up_at]; simp
  rw [e1, sh_k h]
  exact ⟨rfl, rfl, rfl, hq⟩
/-- wipe of the class -/
theorem c15 {scr : Nat × (Nat → Int32)} {w : xW} {Q : xO → xW → Prop} (h : SH w) (hq : Q (.inl (some (.int (x_i w 1 1)))) (x_wi w (x_up (x_i w) 1 1 0))) : x_R x_prog scr 15 0 [some (.ref 0)] [] w Q := by
  refine b15_0 ?_
  simp only [sr0_0 h, sh_k h, kk0, kk1]
  refine ⟨trivial, by decide, trivial, b16_0 ?_⟩
  rw [sh_k h]
  exact ⟨rfl, rfl, b15_7 hq⟩
