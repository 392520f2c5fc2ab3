/-! Sets of clauses as longs; marked, way, alter, literal of both sides. (ts_bit, wb_cu: pasted from kit/laws/BITS.to-paste.) -/
theorem ts_bit {w : Int64} {s : UInt64} {j : Nat} (hj : j < 64) (hs : s.toNat = j) : ((w.toUInt64 >>> s).toInt64 &&& 1) = 0 ↔ w.toBitVec.getLsbD j = false := by
  have e : (w.toUInt64 >>> s).toInt64.toBitVec = w.toBitVec >>> j := by
    apply BitVec.eq_of_toNat_eq
    show (w.toUInt64 >>> s).toNat = _
    rw [UInt64.toNat_shiftRight, hs, Nat.mod_eq_of_lt hj, BitVec.toNat_ushiftRight]
    rfl
  rw [← Int64.toBitVec_inj, Int64.toBitVec_and, e]
  show w.toBitVec >>> j &&& 1#64 = 0#64 ↔ _
  constructor
  · intro h
    have t := congrArg (fun x => x.getLsbD 0) h
    simpa using t
  · intro h
    apply BitVec.eq_of_getLsbD_eq
    intro i hi
    cases i with
    | zero => simp [h]
    | succ i => simp
theorem wb_cu : ∀ k, k < 64 → ((nI k).toInt64.toUInt64 &&& Int64.toUInt64 63) = UInt64.ofNat k := by decide +kernel
/-- clause c is in a set of clauses -/
def hc (m : Int64) (c : Nat) : Bool := m.toBitVec.getLsbD c
def b32 (b : Bool) : Int32 := if b = true then 1 else 0
section X32
variable {scr : Nat × (Nat → Int32)} {w : xW} {Q : xO → xW → Prop} {P T n c : Nat} {a v : Int32} {m : Int64} {o1 o2 o3 : Option Value}
theorem c68 (hc64 : c < 64) (hq : Q (.inl (some (.int (b32 (hc m c))))) w) : x_R x_prog scr 68 0 [some (.long m), o1, some (.int (nI c))] [] w Q := by
  have e : lg_cmp (((m.toUInt64 >>> ((nI c).toInt64.toUInt64 &&& Int64.toUInt64 63)).toInt64) &&& 1) 0 = 0 ↔ hc m c = false := by
    rw [lg_cmp_eq, wb_cu c hc64]
    exact ts_bit hc64 (Nat.mod_eq_of_lt (by omega : c < 2 ^ 64))
  refine b68_0 ⟨fun h => ⟨Or.inl rfl, ?_⟩, fun h => ⟨Or.inr rfl, ?_⟩⟩
  · rw [e.mp h] at hq; exact hq
  · have h2 : hc m c = true := by
      cases hz : hc m c with
      | true => rfl
      | false => exact absurd (e.mpr hz) h
    rw [h2] at hq; exact hq
/-- marked: of a set of clauses, n being their number -/
def mk_v (s : Nat → Bool) (n : Nat) (a : Int32) : Int32 := if ¬ a < 1 ∧ ¬ nI n < a then b32 (s a.toNatClampNeg) else 0
theorem c150 (h : SH w) (hP : x_r w 0 5 = P) (hp : P = 5 ∨ P = 11) (hn : x_i w P 4 = nI n) (hn2 : n ≤ 63) (hq : Q (.inl (some (.int (mk_v (hc (x_j w P 11)) n a)))) w) : x_R x_prog scr 150 0 [some (.ref 0), some (.int a)] [] w Q := by
  refine b150_0 ⟨fun h1 => ⟨Or.inl rfl, ?_⟩, fun h1 => ?_⟩
  · have e : mk_v (hc (x_j w P 11)) n a = 0 := if_neg fun z => z.1 h1
    rw [e] at hq; exact hq
  · rw [hP, pK h hp, sh_k h, hn]
    refine ⟨rfl, p0 hp, rfl, fun h2 => ⟨Or.inl rfl, ?_⟩, fun h2 => ⟨rfl, p0 hp, rfl, ?_⟩⟩
    · have e : mk_v (hc (x_j w P 11)) n a = 0 := if_neg fun z => z.2 h2
      rw [e] at hq; exact hq
    · obtain ⟨j, hj, rfl⟩ : ∃ j : Nat, j ≤ n ∧ a = nI j := nI_of2 (M := nI n) (nI_toInt (by omega)) (fun z => h1 (Int32.lt_of_lt_of_le z (by decide))) (Int32.not_lt.mp h2)
      have e : mk_v (hc (x_j w P 11)) n (nI j) = b32 (hc (x_j w P 11) j) := by
        unfold mk_v
        rw [if_pos ⟨h1, h2⟩, nI_clamp (by omega)]
      rw [e] at hq
      refine c68 (by omega) (b150_27 ⟨fun z => ⟨Or.inl rfl, ?_⟩, fun z => ⟨Or.inr rfl, ?_⟩⟩)
      · rw [z] at hq; exact hq
      · have e2 : b32 (hc (x_j w P 11) j) = 1 := by
          unfold b32 at z ⊢
          split
          · rfl
          · rename_i q; rw [if_neg q] at z; exact absurd rfl z
        rw [e2] at hq; exact hq
theorem c151 (h : SH w) (hn : x_i w 36 7 = nI n) (hn2 : n ≤ 63) (hb : ∀ c, c < 64 → x_i w 43 c = 0 ∨ x_i w 43 c = 1) (hq : Q (.inl (some (.int (mk_v (fun c => decide (¬ x_i w 43 c = 0)) n a)))) (x_z w)) : x_R x_prog scr 151 0 [some (.ref 36), some (.int a)] [] w Q := by
  have e0 : x_i (x_si w 36 0 0) 36 7 = nI n := (x_z_at (by omega)).trans hn
  refine b151_0 ⟨by rw [sh_k h]; rfl, fun h1 => ⟨Or.inl rfl, ?_⟩, fun h1 => ⟨by rw [sh_k h]; rfl, fun h2 => ⟨Or.inl rfl, ?_⟩, fun h2 => ?_⟩⟩
  · have e : mk_v (fun c => decide (¬ x_i w 43 c = 0)) n a = 0 := if_neg fun z => z.1 (Int32.lt_of_le_of_lt h1 (by decide))
    rw [e] at hq; exact hq
  · rw [e0] at h2
    have e : mk_v (fun c => decide (¬ x_i w 43 c = 0)) n a = 0 := if_neg fun z => z.2 h2
    rw [e] at hq; exact hq
  · rw [e0] at h2
    obtain ⟨j, hj, rfl⟩ : ∃ j : Nat, j ≤ n ∧ a = nI j := nI_of2 (M := nI n) (nI_toInt (by omega)) (fun z => h1 (Int32.le_of_lt z)) (Int32.not_lt.mp h2)
    have hj0 : ¬ nI j < 1 := by
      intro z
      have : j < 1 := (nI_ltI (b := 1) (by omega) (by decide)).mp z
      have hj00 : j = 0 := by omega
      subst hj00
      exact h1 (by decide)
    have e : mk_v (fun c => decide (¬ x_i w 43 c = 0)) n (nI j) = b32 (decide (¬ x_i w 43 j = 0)) := by
      unfold mk_v
      rw [if_pos ⟨hj0, h2⟩, nI_clamp (by omega)]
    rw [e] at hq
    have e4 : x_i (x_si w 36 0 0) 43 j = x_i w 43 j := x_z_at (by omega)
    rw [sr36_15 h, sh_k h, sh_l h, nI_clamp (by omega), e4]
    refine ⟨rfl, by decide, ⟨rfl, vp_in_nI (by show j < 64; omega) (by decide)⟩, fun z => ⟨Or.inl rfl, ?_⟩, fun z => ⟨Or.inr rfl, ?_⟩⟩
    · have e5 : decide (¬ x_i w 43 j = 0) = false := by simp [z]
      rw [e5] at hq; exact hq
    · have e5 : decide (¬ x_i w 43 j = 0) = true := by simp [z]
      rw [e5] at hq; exact hq
/-- alter: may v be put at place a of n tokens? -/
def al_ok (n : Nat) (a v : Int32) : Prop := (¬ a < 0 ∧ ¬ nI n ≤ a) ∧ (v = 10000 ∨ (¬ v < -9999 ∧ ¬ 9999 < v))
theorem c159 (h : SH w) (ht : T = 17 ∨ T = 19 ∨ T = 22) (hn : x_i w T 1 = nI n) (hn2 : n ≤ 2000) (hq1 : ¬ a < 0 ∧ ¬ nI n ≤ a → Q (.inl (some (.int 1))) (x_wi w (x_up (x_i w) (T + 1) a.toNatClampNeg v))) (hq0 : ¬ (¬ a < 0 ∧ ¬ nI n ≤ a) → Q (.inl (some (.int 0))) w) : x_R x_prog scr 159 0 [some (.ref T), some (.int a), some (.int v)] [] w Q := by
  refine b159_0 ⟨fun h1 => ⟨Or.inl rfl, hq0 fun z => z.1 h1⟩, fun h1 => ⟨tK h ht, fun h2 => ⟨Or.inl rfl, hq0 fun z => z.2 (hn ▸ h2)⟩, fun h2 => ?_⟩⟩
  rw [hn] at h2
  obtain ⟨j, hj, rfl, -⟩ := pk_mu (L := n) h1 h2 (by omega)
  refine ⟨fun h3 => ?_, fun h3 => absurd (nI_lt (b := 2000) (by omega) (by decide)) h3⟩
  rw [tr0 h ht, (tk1 h ht).1, (tk1 h ht).2]
  exact ⟨tK h ht, by omega, ⟨rfl, vp_in_nI (by omega) (by decide)⟩, Or.inr rfl, hq1 ⟨h1, h2⟩⟩
theorem c158 (h : SH w) (hT : x_r w 0 7 = T) (ht : T = 17 ∨ T = 19 ∨ T = 22) (hn : x_i w T 1 = nI n) (hn2 : n ≤ 2000) (hq1 : al_ok n a v → Q (.inl (some (.int 1))) (x_wi w (x_up (x_i w) (T + 1) a.toNatClampNeg v))) (hq0 : ¬ al_ok n a v → Q (.inl (some (.int 0))) w) : x_R x_prog scr 158 0 [some (.ref 0), some (.int a), some (.int v), o3] [] w Q := by
  have go : ∀ s3 : Int32, (v = 10000 ∨ (¬ v < -9999 ∧ ¬ 9999 < v)) → x_R x_prog scr 159 0 [some (.ref T), some (.int a), some (.int v)] [] w (x_back x_prog 158 37 40 [some (.ref 0), some (.int a), some (.int v), some (.int s3)] [] (fun pc L st w => x_R x_prog scr 158 pc L st w Q)) := by
    intro s3 hv
    refine c159 h ht hn hn2 (fun z => b158_40 ⟨fun q => absurd q (by decide), fun _ => ⟨Or.inr rfl, hq1 ⟨z, hv⟩⟩⟩) (fun z => b158_40 ⟨fun _ => ⟨Or.inl rfl, hq0 fun y => z y.1⟩, fun q => absurd rfl q⟩)
  refine b158_0 ?_
  rw [hT, tK h ht, sh_k h]
  refine ⟨fun h1 => ⟨fun q => absurd q (by decide), fun _ => ⟨rfl, t0 ht, rfl, go _ (Or.inl h1)⟩⟩, fun h1 => ⟨fun h2 => ⟨fun _ => ⟨Or.inl rfl, hq0 fun z => ?_⟩, fun q => absurd rfl q⟩, fun h2 => ⟨fun h3 => ⟨fun _ => ⟨Or.inl rfl, hq0 fun z => ?_⟩, fun q => absurd rfl q⟩, fun h3 => ⟨fun q => absurd q (by decide), fun _ => ⟨rfl, t0 ht, rfl, go _ (Or.inr ⟨h2, h3⟩)⟩⟩⟩⟩⟩
  · rcases z.2 with z | z
    · exact h1 z
    · exact z.1 h2
  · rcases z.2 with z | z
    · exact h1 z
    · exact z.2 h3
theorem c160 (h : SH w) (hn : x_i w 36 24 = nI n) (hn2 : n ≤ 2000) (hq1 : al_ok n a v → Q (.inl (some (.int 1))) (x_wi (x_z w) (x_up (x_i (x_z w)) 47 a.toNatClampNeg v))) (hq0 : ¬ al_ok n a v → Q (.inl (some (.int 0))) (x_z w)) : x_R x_prog scr 160 0 [some (.ref 36), some (.int a), some (.int v)] [] w Q := by
  have e0 : x_i (x_si w 36 0 0) 36 24 = nI n := (x_z_at (by omega)).trans hn
  refine b160_0 ?_
  rw [e0, sr36_25 h, sh_k h, sh_l h]
  have put : (¬ a < 0 ∧ ¬ nI n ≤ a) → (v = 10000 ∨ (¬ v < -9999 ∧ ¬ 9999 < v)) → sh_K 36 = 12 ∧ ¬ 47 = 0 ∧ (sh_K 47 = 0 ∧ vp_in a (sh_L 47)) ∧ ((1 : Int32) = 0 ∨ (1 : Int32) = 1) ∧ Q (.inl (some (.int 1))) (x_si (x_si w 36 0 0) 47 a.toNatClampNeg v) := by
    intro h1 h2
    obtain ⟨j, hj, hje, -⟩ := pk_mu (L := n) h1.1 h1.2 (by omega)
    refine ⟨rfl, by decide, ⟨rfl, ?_⟩, Or.inr rfl, hq1 ⟨h1, h2⟩⟩
    rw [hje]
    exact vp_in_nI (by show j < 2000; omega) (by decide)
  refine ⟨rfl, fun h1 => ⟨Or.inl rfl, hq0 fun z => z.1.1 h1⟩, fun h1 => ⟨rfl, fun h2 => ⟨Or.inl rfl, hq0 fun z => z.1.2 h2⟩, fun h2 => ⟨fun h3 => ⟨fun h4 => put ⟨h1, h2⟩ (Or.inl h4), fun h4 => ⟨Or.inl rfl, hq0 fun z => ?_⟩⟩, fun h3 => ⟨fun h4 => put ⟨h1, h2⟩ (Or.inr ⟨h3, Int32.not_lt.mpr h4⟩), fun h4 => ⟨fun h5 => put ⟨h1, h2⟩ (Or.inl h5), fun h5 => ⟨Or.inl rfl, hq0 fun z => ?_⟩⟩⟩⟩⟩⟩
  · rcases z.2 with z | z
    · exact h4 z
    · exact z.1 h3
  · rcases z.2 with z | z
    · exact h5 z
    · exact h4 (Int32.not_lt.mp z.2)
end X32
