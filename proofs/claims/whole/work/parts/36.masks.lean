/-! Sets of literals as ints: bit l - 1 for l, bit l + 15 for -l. -/
def li (l : Int) : Nat := if 0 < l then (l - 1).toNat else (15 - l).toNat
def mm (m : Int32) (i : Nat) : Bool := m.toBitVec.getLsbD i
def sb (i : Nat) : Int32 := (1 : Int32) <<< nI i
def opp (m : Int32) : Int32 := (m <<< (16 &&& 31)) ||| ((m.toUInt32 >>> ((16 : Int32).toUInt32 &&& Int32.toUInt32 31)).toInt32)
def mask (ls : List Int) : Int32 := ls.foldl (fun m l => m ||| sb (li l)) 0
def lok (l : Int) : Prop := ¬ l = 0 ∧ -16 ≤ l ∧ l ≤ 16
def sw (i : Nat) : Nat := if i < 16 then i + 16 else i - 16
theorem mm_ext {a b : Int32} (h : ∀ i, i < 32 → mm a i = mm b i) : a = b := Int32.toBitVec_inj.mp (BitVec.eq_of_getLsbD_eq fun i hi => h i hi)
theorem mm_or (a b : Int32) (i : Nat) : mm (a ||| b) i = (mm a i || mm b i) := by
  unfold mm
  rw [Int32.toBitVec_or, BitVec.getLsbD_or]
theorem mm_and (a b : Int32) (i : Nat) : mm (a &&& b) i = (mm a i && mm b i) := by
  unfold mm
  rw [Int32.toBitVec_and, BitVec.getLsbD_and]
theorem mm_m1 : ∀ i, i < 32 → mm (-1) i = true := by decide +kernel
theorem mm_not (a : Int32) {i : Nat} (hi : i < 32) : mm (a ^^^ (-1)) i = !mm a i := by
  have h := mm_m1 i hi
  unfold mm at h ⊢
  rw [Int32.toBitVec_xor, BitVec.getLsbD_xor, h, Bool.xor_true]
theorem mm_0 (i : Nat) : mm 0 i = false := by
  show (0#32).getLsbD i = false
  exact BitVec.getLsbD_zero
theorem mm_sb : ∀ i, i < 32 → ∀ j, j < 32 → mm (sb i) j = decide (i = j) := by decide +kernel
theorem mm_opp (m : Int32) {i : Nat} (hi : i < 32) : mm (opp m) i = mm m (sw i) := by
  have e1 : (m <<< ((16 : Int32) &&& 31)).toBitVec = m.toBitVec <<< (16 : Nat) := by
    rw [Int32.toBitVec_shiftLeft]
    have h : ((16 : Int32) &&& 31).toBitVec.smod 32 = 16#32 := by decide
    rw [h]
    rfl
  have e2 : ((m.toUInt32 >>> ((16 : Int32).toUInt32 &&& Int32.toUInt32 31)).toInt32).toBitVec = m.toBitVec >>> (16 : Nat) := by
    apply BitVec.eq_of_toNat_eq
    show (m.toUInt32 >>> ((16 : Int32).toUInt32 &&& Int32.toUInt32 31)).toNat = _
    have h : ((16 : Int32).toUInt32 &&& Int32.toUInt32 31) = 16 := by decide
    rw [h, UInt32.toNat_shiftRight, BitVec.toNat_ushiftRight]
    rfl
  unfold opp mm sw
  rw [Int32.toBitVec_or, BitVec.getLsbD_or, e1, e2, BitVec.getLsbD_shiftLeft, BitVec.getLsbD_ushiftRight]
  by_cases h : i < 16
  · simp [h, hi, Nat.add_comm]
  · have h2 : m.toBitVec.getLsbD (16 + i) = false := BitVec.getLsbD_of_ge _ _ (by omega)
    simp [h, hi, h2]
theorem mm_z {a : Int32} : a = 0 ↔ ∀ i, i < 32 → mm a i = false := by
  constructor
  · intro h i _
    rw [h, mm_0]
  · intro h
    exact mm_ext fun i hi => by rw [h i hi, mm_0]
theorem mm_nz {a : Int32} : ¬ a = 0 ↔ ∃ i, i < 32 ∧ mm a i = true := by
  rw [mm_z]
  constructor
  · intro h
    apply Classical.byContradiction
    intro h2
    exact h fun i hi => Bool.eq_false_iff.mpr fun z => h2 ⟨i, hi, z⟩
  · rintro ⟨i, hi, h⟩ h2
    rw [h2 i hi] at h
    cases h
theorem and_sb {m : Int32} {i : Nat} (hi : i < 32) : m &&& sb i = 0 ↔ mm m i = false := by
  rw [mm_z]
  constructor
  · intro h
    have h1 := h i hi
    rw [mm_and, mm_sb i hi i hi, decide_eq_true rfl, Bool.and_true] at h1
    exact h1
  · intro h j hj
    rw [mm_and, mm_sb i hi j hj]
    by_cases e : i = j
    · subst e
      rw [h]; rfl
    · rw [decide_eq_false e, Bool.and_false]
theorem mm_fold (i : Nat) : ∀ (ls : List Int) (m : Int32), mm (ls.foldl (fun m l => m ||| sb (li l)) m) i = (mm m i || ls.any (fun l => mm (sb (li l)) i))
  | [], m => by simp
  | l :: r, m => by
    rw [List.foldl_cons, mm_fold i r, mm_or, List.any_cons, Bool.or_assoc]
theorem mm_mask (ls : List Int) (i : Nat) : mm (mask ls) i = ls.any (fun l => mm (sb (li l)) i) := by
  unfold mask
  rw [mm_fold, mm_0, Bool.false_or]
theorem mask_app (ls : List Int) (l : Int) : mask (ls ++ [l]) = mask ls ||| sb (li l) := by
  unfold mask
  rw [List.foldl_append]
  rfl
theorem li_lt {l : Int} (h : lok l) : li l < 32 := by
  unfold li
  unfold lok at h
  split <;> omega
theorem li_inj {a b : Int} (ha : lok a) (hb : lok b) : li a = li b ↔ a = b := by
  unfold li
  unfold lok at ha hb
  split <;> split <;> omega
theorem li_sw {a : Int} (ha : lok a) : sw (li a) = li (-a) := by
  unfold li sw
  unfold lok at ha
  split <;> split <;> split <;> omega
theorem lok_neg {a : Int} (ha : lok a) : lok (-a) := by
  unfold lok at ha ⊢
  omega
/-- literal l is in the set of a clause iff it is one of its literals -/
theorem mm_in {ls : List Int} (hls : ∀ l ∈ ls, lok l) {a : Int} (ha : lok a) : mm (mask ls) (li a) = true ↔ a ∈ ls := by
  rw [mm_mask, List.any_eq_true]
  constructor
  · rintro ⟨l, hl, h⟩
    rw [mm_sb _ (li_lt (hls l hl)) _ (li_lt ha), decide_eq_true_iff, li_inj (hls l hl) ha] at h
    subst h
    exact hl
  · intro h
    exact ⟨a, h, by rw [mm_sb _ (li_lt ha) _ (li_lt ha), decide_eq_true rfl]⟩
theorem mm_ino {ls : List Int} (hls : ∀ l ∈ ls, lok l) {a : Int} (ha : lok a) : mm (opp (mask ls)) (li a) = true ↔ -a ∈ ls := by
  rw [mm_opp _ (li_lt ha), li_sw ha, mm_in hls (lok_neg ha)]
/-- may v join the literals ls? -/
def jn (V : Nat) (ls : List Int) (v : Int) : Bool := decide (¬ v = 0 ∧ v.natAbs ≤ V ∧ ∀ l ∈ ls, ¬ l.natAbs = v.natAbs)
theorem mask_jn {ls : List Int} (hls : ∀ l ∈ ls, lok l) {v : Int} (hv : lok v) : ((mask ls ||| opp (mask ls)) &&& sb (li v) = 0) ↔ ∀ l ∈ ls, ¬ l.natAbs = v.natAbs := by
  rw [and_sb (li_lt hv), mm_or, Bool.or_eq_false_iff]
  constructor
  · rintro ⟨h1, h2⟩ l hl e
    have : l = v ∨ l = -v := by omega
    rcases this with rfl | rfl
    · rw [(mm_in hls hv).mpr hl] at h1; cases h1
    · rw [(mm_ino hls hv).mpr hl] at h2; cases h2
  · intro h
    constructor
    · apply Bool.eq_false_iff.mpr
      intro z
      exact h v ((mm_in hls hv).mp z) rfl
    · apply Bool.eq_false_iff.mpr
      intro z
      exact h (-v) ((mm_ino hls hv).mp z) (by omega)
theorem sb_neg : ∀ k : Nat, k < 16 → (15 - iI (-((k : Int) + 1))) &&& 31 = nI (16 + k) := by decide +kernel
theorem sb_pos : ∀ k : Nat, k < 16 → (iI ((k : Int) + 1) - 1) &&& 31 = nI k := by decide +kernel
section X37
variable {scr : Nat × (Nat → Int32)} {w : xW} {Q : xO → xW → Prop} {v : Int} {ls : List Int} {V : Nat}
theorem c33 {m : Int32} (hq : Q (.inl (some (.int (opp m)))) w) : x_R x_prog scr 33 0 [some (.int m)] [] w Q := b33_0 hq
theorem c34 (hv : lok v) (hq : Q (.inl (some (.int (sb (li v))))) w) : x_R x_prog scr 34 0 [some (.int (iI v))] [] w Q := by
  unfold lok at hv
  refine b34_0 ?_
  have g : iI v ≤ 0 ↔ v ≤ 0 := by rw [Int32.le_iff_toInt_le, iI_toInt (by omega) (by omega)]; rfl
  rw [g]
  refine ⟨fun z => ?_, fun z => ?_⟩
  · obtain ⟨k, hk, rfl⟩ : ∃ k : Nat, k < 16 ∧ v = -((k : Int) + 1) := ⟨(-v - 1).toNat, by omega, by omega⟩
    rw [sb_neg k hk]
    have e : li (-((k : Int) + 1)) = 16 + k := by unfold li; split <;> omega
    rw [e] at hq
    exact hq
  · obtain ⟨k, hk, rfl⟩ : ∃ k : Nat, k < 16 ∧ v = (k : Int) + 1 := ⟨(v - 1).toNat, by omega, by omega⟩
    rw [sb_pos k hk]
    have e : li ((k : Int) + 1) = k := by unfold li; split <;> omega
    rw [e] at hq
    exact hq
/-- canJoin -/
theorem c32 (hV : V ≤ 16) (hls : ∀ l ∈ ls, lok l) (hv : -9999 ≤ v ∧ v ≤ 20001) (hq : Q (.inl (some (.int (b32 (jn V ls v))))) w) : x_R x_prog scr 32 0 [some (.int (iI v)), some (.int (mask ls)), some (.int (nI V))] [] w Q := by
  have g0 : iI v = 0 ↔ v = 0 := iI_eq (b := 0) (by omega) (by omega) (by omega) (by omega)
  have g1 : nI V < iI v ↔ (V : Int) < v := by rw [Int32.lt_iff_toInt_lt, iI_toInt (by omega) (by omega), nI_toInt (by omega)]
  have g2 : - nI V ≤ iI v ↔ -(V : Int) ≤ v := by rw [iI_neg (by omega), Int32.le_iff_toInt_le, iI_toInt (by omega) (by omega), iI_toInt (by omega) (by omega)]
  have no : ¬ (¬ v = 0 ∧ v.natAbs ≤ V ∧ ∀ l ∈ ls, ¬ l.natAbs = v.natAbs) → Q (.inl (some (.int 0))) w := by
    intro z
    have e : jn V ls v = false := decide_eq_false z
    rw [e] at hq; exact hq
  refine b32_0 ?_
  rw [g0, g1, g2]
  refine ⟨fun z => ⟨Or.inl rfl, no (fun q => q.1 z)⟩, fun z => ⟨fun y => ⟨Or.inl rfl, no (by omega)⟩, fun y => ⟨fun x => ?_, fun x => ⟨Or.inl rfl, no (by omega)⟩⟩⟩⟩
  have hv2 : lok v := by unfold lok; omega
  refine c33 (b32_22 (c34 hv2 (b32_27 ?_)))
  rw [mask_jn hls hv2]
  refine ⟨fun u => ⟨Or.inl rfl, no (fun q => u q.2.2)⟩, fun u => ⟨Or.inr rfl, ?_⟩⟩
  have e : jn V ls v = true := decide_eq_true ⟨z, by omega, Classical.not_not.mp u⟩
  rw [e] at hq; exact hq
end X37
