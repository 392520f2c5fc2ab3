/-! Propagation on the class's side. -/
def pck (rd mk : Nat → Bool) : Nat → Nat → Nat → Nat
  | 0, _, f => f
  | d + 1, c, f => if rd c = true then (if mk c = true then c else pck rd mk d (c + 1) (if f = 0 then c else f)) else pck rd mk d (c + 1) f
def cg (cs : List (List Int)) (c : Nat) : List Int := cs.getD (c - 1) []
def rdc (cs : List (List Int)) (al : Nat → Bool) (tv : Nat → Int) (c : Nat) : Bool := al c && (isr tv (cg cs c)).1
theorem pck_in {rd mk : Nat → Bool} : ∀ (d c f : Nat), 1 ≤ c → (f = 0 ∨ (1 ≤ f ∧ f < c ∧ rd f = true)) → pck rd mk d c f = 0 ∨ (1 ≤ pck rd mk d c f ∧ pck rd mk d c f < c + d ∧ rd (pck rd mk d c f) = true)
  | 0, c, f, hc, h => by
    show f = 0 ∨ (1 ≤ f ∧ f < c + 0 ∧ rd f = true)
    rcases h with h | h
    · exact Or.inl h
    · exact Or.inr ⟨h.1, by omega, h.2.2⟩
  | d + 1, c, f, hc, h => by
    unfold pck
    split
    · rename_i hr
      split
      · exact Or.inr ⟨hc, by omega, hr⟩
      · have := pck_in (rd := rd) (mk := mk) d (c + 1) (if f = 0 then c else f) (by omega) (by
          split
          · exact Or.inr ⟨hc, by omega, hr⟩
          · rcases h with h | h
            · omega
            · exact Or.inr ⟨h.1, by omega, h.2.2⟩)
        rcases this with h2 | h2
        · exact Or.inl h2
        · exact Or.inr ⟨h2.1, by omega, h2.2.2⟩
    · have := pck_in (rd := rd) (mk := mk) d (c + 1) f (by omega) (by
        rcases h with h | h
        · exact Or.inl h
        · exact Or.inr ⟨h.1, by omega, h.2.2⟩)
      rcases this with h2 | h2
      · exact Or.inl h2
      · exact Or.inr ⟨h2.1, by omega, h2.2.2⟩
abbrev xTk : Type := List (Nat × Int)
def tg (tak : xTk) (k : Nat) : Nat × Int := tak.getD k (0, 0)
theorem tg_app {tak : xTk} {x : Nat × Int} (k : Nat) : tg (tak ++ [x]) k = if k < tak.length then tg tak k else if k = tak.length then x else (0, 0) := by
  unfold tg
  simp only [List.getD_eq_getElem?_getD]
  by_cases h : k < tak.length
  · rw [if_pos h, List.getElem?_append_left h]
  · rw [if_neg h, List.getElem?_append_right (by omega)]
    by_cases e : k = tak.length
    · rw [if_pos e, e]; simp
    · rw [if_neg e, List.getElem?_eq_none]
      · rfl
      · simp; omega
/-- the clause that is picked -/
def pkc (cs : List (List Int)) (al mk : Nat → Bool) (tv : Nat → Int) : Nat := pck (rdc cs al tv) mk cs.length 1 0
/-- propagation: values, clauses taken with what they made true, the conflict or 0 -/
def prg (cs : List (List Int)) (al mk : Nat → Bool) : Nat → (Nat → Int) → xTk → (Nat → Int) × xTk × Nat
  | 0, tv, tak => (tv, tak, 0)
  | d + 1, tv, tak => if pkc cs al mk tv = 0 then (tv, tak, 0) else if (isr tv (cg cs (pkc cs al mk tv))).2 = 0 then (tv, tak, pkc cs al mk tv)
    else prg cs al mk d (setT tv (isr tv (cg cs (pkc cs al mk tv))).2) (tak ++ [(pkc cs al mk tv, (isr tv (cg cs (pkc cs al mk tv))).2)])
/-- what is known of the clauses taken -/
def TI (cs : List (List Int)) (tv : Nat → Int) (tak : xTk) : Prop := (∀ k, k < tak.length → 1 ≤ (tg tak k).1 ∧ (tg tak k).1 ≤ cs.length ∧ lok (tg tak k).2 ∧ (tg tak k).2 ∈ cg cs (tg tak k).1 ∧ vl tv (tg tak k).2 = 1 ∧ ∀ m ∈ cg cs (tg tak k).1, m = (tg tak k).2 ∨ vl tv m < 0) ∧ (∀ i j, i < j → j < tak.length → ¬ (tg tak i).2.natAbs = (tg tak j).2.natAbs)
theorem cg_ok {cs : List (List Int)} (h : cok cs) (c : Nat) : cl1 (cg cs c) := cok_getD h _
theorem pkc_in {cs : List (List Int)} {al mk : Nat → Bool} {tv : Nat → Int} (h : ¬ pkc cs al mk tv = 0) : 1 ≤ pkc cs al mk tv ∧ pkc cs al mk tv ≤ cs.length ∧ al (pkc cs al mk tv) = true ∧ (isr tv (cg cs (pkc cs al mk tv))).1 = true := by
  rcases pck_in (rd := rdc cs al tv) (mk := mk) cs.length 1 0 (by omega) (Or.inl rfl) with h1 | ⟨h1, h2, h3⟩
  · exact absurd h1 h
  · have h3 : rdc cs al tv (pkc cs al mk tv) = true := h3
    unfold rdc at h3
    rw [Bool.and_eq_true] at h3
    exact ⟨h1, by unfold pkc; omega, h3.1, h3.2⟩
theorem TI_s {cs : List (List Int)} {al mk : Nat → Bool} {tv : Nat → Int} {tak : xTk} (hco : cok cs) (ht : tok tv) (h : TI cs tv tak) (hp : ¬ pkc cs al mk tv = 0) (hu : ¬ (isr tv (cg cs (pkc cs al mk tv))).2 = 0) : lok (isr tv (cg cs (pkc cs al mk tv))).2 ∧ vl tv (isr tv (cg cs (pkc cs al mk tv))).2 = 0 ∧ TI cs (setT tv (isr tv (cg cs (pkc cs al mk tv))).2) (tak ++ [(pkc cs al mk tv, (isr tv (cg cs (pkc cs al mk tv))).2)]) := by
  obtain ⟨p1, p2, p3, p4⟩ := pkc_in hp
  generalize hc : pkc cs al mk tv = c at *
  generalize hue : (isr tv (cg cs c)).2 = u at *
  have hl := cg_ok hco c
  have hR := (isr_iff ht hl (u := u)).mp ⟨p4, hue⟩
  obtain ⟨hm, hv⟩ := hR.2.resolve_left hu
  have hk := hl.2.1 u hm
  refine ⟨hk, hv, fun k hkl => ?_, fun i j hij hj => ?_⟩
  · rw [tg_app]
    by_cases e : k < tak.length
    · rw [if_pos e]
      obtain ⟨a1, a2, a3, a4, a5, a6⟩ := h.1 k e
      have n1 : ¬ (tg tak k).2 = u := fun z => by rw [z, hv] at a5; omega
      have n2 : ¬ (tg tak k).2 = -u := fun z => by rw [z, vl_neg hk.1, hv] at a5; omega
      refine ⟨a1, a2, a3, a4, ?_, fun m hmm => ?_⟩
      · rw [vl_set hk.1 a3.1, if_neg n1, if_neg n2]; exact a5
      · rcases a6 m hmm with a7 | a7
        · exact Or.inl a7
        · right
          have hmk := (cg_ok hco (tg tak k).1).2.1 m hmm
          rw [vl_set hk.1 hmk.1, if_neg (fun z => by rw [z] at a7; omega)]
          split
          · omega
          · exact a7
    · have e2 : k = tak.length := by simp at hkl; omega
      rw [if_neg e, if_pos e2]
      refine ⟨p1, p2, hk, hm, by rw [vl_set hk.1 hk.1, if_pos rfl], fun m hmm => ?_⟩
      rcases hR.1 m hmm with a7 | a7
      · right
        have hmk := hl.2.1 m hmm
        rw [vl_set hk.1 hmk.1, if_neg (fun z => by rw [z] at a7; omega)]
        split
        · omega
        · exact a7
      · exact Or.inl a7
  · simp at hj
    rw [tg_app, tg_app, if_pos (by omega)]
    by_cases e : j < tak.length
    · rw [if_pos e]; exact h.2 i j hij e
    · rw [if_neg e, if_pos (by omega)]
      obtain ⟨a1, a2, a3, a4, a5, a6⟩ := h.1 i (by omega)
      intro z
      have : (tg tak i).2 = u ∨ (tg tak i).2 = -u := by
        have z : (tg tak i).2.natAbs = u.natAbs := z
        omega
      rcases this with e2 | e2
      · rw [e2, hv] at a5; omega
      · rw [e2, vl_neg hk.1, hv] at a5; omega
theorem TI_nil {cs : List (List Int)} {tv : Nat → Int} : TI cs tv [] := ⟨fun k hk => absurd hk (by simp), fun i j _ hj => absurd hj (by simp)⟩
theorem TI_16 {cs : List (List Int)} {tv : Nat → Int} {tak : xTk} (h : TI cs tv tak) : tak.length ≤ 16 := by
  have hsub := nd_le (tak.map (fun x => (x.2.natAbs : Int))) [1, 2, 3, 4, 5, 6, 7, 8, 9, 10, 11, 12, 13, 14, 15, 16] ?_ ?_
  · simpa using hsub
  · rw [List.nodup_iff_pairwise_ne, List.pairwise_map, List.pairwise_iff_getElem]
    intro i j hi hj hij
    have := h.2 i j hij hj
    unfold tg at this
    rw [List.getD_eq_getElem?_getD, List.getD_eq_getElem?_getD, List.getElem?_eq_getElem hi, List.getElem?_eq_getElem hj] at this
    intro z
    exact this (Int.ofNat_inj.mp z)
  · intro x hx
    obtain ⟨y, hy, rfl⟩ := List.mem_map.mp hx
    obtain ⟨k, hk, rfl⟩ := List.getElem_of_mem hy
    have := (h.1 k hk).2.2.1
    unfold tg at this
    rw [List.getD_eq_getElem?_getD, List.getElem?_eq_getElem hk] at this
    have this : lok (tak[k]).2 := this
    unfold lok at this
    simp only [List.mem_cons, List.not_mem_nil, or_false]
    omega
/-- needs: which variables, then which of the first k clauses taken -/
def nvx (nv : Nat → Bool) (ls : List Int) (u : Int) : Nat → Bool := fun v => nv v || ls.any (fun l => decide (l.natAbs = v) && decide (¬ v = u.natAbs))
def nds (cs : List (List Int)) (tak : xTk) : Nat → (Nat → Bool) → Nat → Bool
  | 0, _ => fun _ => false
  | k + 1, nv => fun i => if i = k then nv (tg tak k).2.natAbs else nds cs tak k (if nv (tg tak k).2.natAbs = true then nvx nv (cg cs (tg tak k).1) (tg tak k).2 else nv) i
/-- the literals that are wanted, as a set -/
def WM (tv : Nat → Int) (nv : Nat → Bool) (m : Int32) : Prop := ∀ l, lok l → mm m (li l) = (nv l.natAbs && decide (0 < vl tv l))
theorem nds_ge {cs : List (List Int)} {tak : xTk} : ∀ (k : Nat) (nv : Nat → Bool) {i : Nat}, k ≤ i → nds cs tak k nv i = false
  | 0, _, _, _ => rfl
  | k + 1, nv, i, h => by
    unfold nds
    rw [if_neg (by omega)]
    exact nds_ge k _ (by omega)
theorem sh31 : ∀ k : Nat, k < 32 → nI k &&& 31 = nI k := by decide +kernel
section X54
variable {scr : Nat × (Nat → Int32)} {w : xW} {Q : xO → xW → Prop} {w1 : xW} {P n c : Nat} {al mk : Nat → Bool} {tv : Nat → Int} {tak : xTk} {cs : List (List Int)} {nv : Nat → Bool} {m : Int32} {o1 o2 o3 o4 o5 o6 o7 : Option Value}
/-- the propagation of the class -/
def PG (P : Nat) (w : xW) (cs : List (List Int)) (al : Nat → Bool) (tv : Nat → Int) (tak : xTk) : Prop := (P = 5 ∨ P = 11) ∧ x_r w 28 0 = P ∧ x_i w P 4 = nI cs.length ∧ cs.length ≤ 63 ∧ (∀ c, c < cs.length → x_i w (P + 3) (c + 1) = mask (cs.getD c [])) ∧ (∀ j, j < 64 → hc (x_j w 28 1) j = al j) ∧ TM tv (x_i w 28 2) ∧ x_i w 28 6 = nI tak.length ∧ (∀ k, k < tak.length → x_i w 29 k = nI (tg tak k).1 ∧ x_i w 30 k = sb (li (tg tak k).2))
theorem PG_set (h : PG P w cs al tv tak) (h1 : 1 ≤ c) (h2 : c ≤ cs.length) : x_i w (P + 3) c = mask (cg cs c) := by
  have := h.2.2.2.2.1 (c - 1) (by omega)
  rw [Nat.sub_add_cancel h1] at this
  exact this
theorem c97_l (h : SH w) (hG : PG P w cs al tv tak) (ht : tok tv) (hco : cok cs) {ma : Int64} (hma : ∀ j, j < 64 → hc ma j = mk j) : ∀ (d c f : Nat) (o2 o6 o7 : Option Value), c + d = cs.length + 1 → 1 ≤ c → f ≤ 63 → Q (.inl (some (.int (nI (pck (rdc cs al tv) mk d c f))))) w → x_R x_prog scr 97 14 [some (.ref 28), some (.long ma), o2, some (.int (opp (x_i w 28 2))), some (.int (nI f)), some (.int (nI c)), o6, o7] [] w Q := by
  obtain ⟨hP, r0, p4, hl, pS, pA, pT, p6, pK'⟩ := id hG
  have k28 : x_k w 28 = 9 := by rw [sh_k h]; rfl
  have kP := pK h hP
  intro d
  induction d with
  | zero =>
    intro c f o2 o6 o7 hc hc1 hf hq
    refine b97_14 ?_
    rw [r0, kP, p4]
    exact ⟨k28, by omega, rfl, fun _ => hq, fun z => absurd (nI_lt (by omega) (by omega)) z⟩
  | succ d ih =>
    intro c f o2 o6 o7 hc hc1 hf hq
    have hset := PG_set hG hc1 (show c ≤ cs.length by omega)
    have e1 : x_i w (P + 3) c &&& (opp (x_i w 28 2) ^^^ (-1)) = opn1 (cg cs c) (x_i w 28 2) := by rw [hset]; rfl
    have hio := opn_iff ht pT (cg_ok hco c)
    unfold pck at hq
    have skip : (isr tv (cg cs c)).1 = false → ∀ o2 o6 o7, x_R x_prog scr 97 14 [some (.ref 28), some (.long ma), o2, some (.int (opp (x_i w 28 2))), some (.int (nI f)), some (.int (nI (c + 1))), o6, o7] [] w Q := by
      intro z o2 o6 o7
      refine ih (c + 1) f o2 o6 o7 (by omega) (by omega) hf ?_
      have : rdc cs al tv c = false := by unfold rdc; rw [z, Bool.and_false]
      rw [this] at hq
      exact hq
    refine b97_14 ?_
    rw [r0, kP, p4, pr8 h hP, (pk3 h hP).1, (pk3 h hP).2, nI_clamp (show c < 2 ^ 31 by omega), e1, nI_1]
    refine ⟨k28, by omega, rfl, fun z => absurd z (nI_nlt (by omega) (by omega)), fun _ => ⟨k28, by omega, rfl, by omega, ⟨rfl, vp_in_nI (by omega) (by omega)⟩, fun z => ⟨fun _ => skip ?_ _ _ _, fun y => absurd rfl y⟩, fun z => ⟨k28, fun y => ⟨fun _ => skip ?_ _ _ _, fun x => absurd rfl x⟩, fun y => ⟨fun x => absurd x (by decide), fun _ => ⟨k28, c68 (by omega) (b97_83 ?_)⟩⟩⟩⟩⟩
    · exact Bool.eq_false_iff.mpr (fun y => z (hio.mpr y).1)
    · exact Bool.eq_false_iff.mpr (fun x => y (hio.mpr x).2)
    · have hr : (isr tv (cg cs c)).1 = true := hio.mp ⟨Classical.not_not.mp z, Classical.not_not.mp y⟩
      rw [pA c (by omega), nI_1]
      have er : rdc cs al tv c = al c := by unfold rdc; rw [hr, Bool.and_true]
      rw [er] at hq
      cases hac : al c with
      | false =>
        rw [hac] at hq
        exact ⟨fun _ => ih (c + 1) f _ _ _ (by omega) (by omega) hf hq, fun x => absurd rfl x⟩
      | true =>
        rw [hac, if_pos rfl] at hq
        refine ⟨fun x => absurd x (by decide), fun _ => c68 (by omega) (b97_92 ?_)⟩
        rw [hma c (by omega), nI_1]
        have g0 : nI f = 0 ↔ f = 0 := by rw [← nI_0]; exact nI_eq (by omega) (by omega)
        rw [g0]
        cases hmc : mk c with
        | true =>
          rw [hmc, if_pos rfl] at hq
          exact ⟨fun x => absurd x (by decide), fun _ => hq⟩
        | false =>
          rw [hmc] at hq
          refine ⟨fun _ => ⟨fun x => ?_, fun x => ?_⟩, fun x => absurd rfl x⟩
          · rw [if_neg x] at hq
            exact ih (c + 1) f _ _ _ (by omega) (by omega) hf hq
          · rw [if_pos (Classical.not_not.mp x)] at hq
            exact ih (c + 1) c _ _ _ (by omega) (by omega) (by omega) hq
/-- pickReady -/
theorem c97 (h : SH w) (hG : PG P w cs al tv tak) (ht : tok tv) (hco : cok cs) {ma : Int64} (hma : ∀ j, j < 64 → hc ma j = mk j) (hq : Q (.inl (some (.int (nI (pkc cs al mk tv))))) w) : x_R x_prog scr 97 0 [some (.ref 28), some (.long ma), o2, o3, o4, o5, o6, o7] [] w Q := by
  refine b97_0 ⟨by rw [sh_k h]; rfl, c33 (b97_7 ?_)⟩
  exact c97_l h hG ht hco hma cs.length 1 0 _ _ _ (by omega) (by omega) (by omega) hq
theorem WM_in (hW : WM tv nv m) {u : Int} (hu : lok u) (hv : vl tv u = 1) : (sb (li u) &&& m = 0) ↔ nv u.natAbs = false := by
  rw [Int32.and_comm, and_sb (li_lt hu), hW u hu, hv]
  simp
theorem cl1_inj {ls : List Int} (h : cl1 ls) {a b : Int} (ha : a ∈ ls) (hb : b ∈ ls) (he : a.natAbs = b.natAbs) : a = b := by
  obtain ⟨i, hi, rfl⟩ := List.getElem_of_mem ha
  obtain ⟨j, hj, rfl⟩ := List.getElem_of_mem hb
  have hp := List.pairwise_iff_getElem.mp h.2.2
  rcases Nat.lt_trichotomy i j with h1 | h1 | h1
  · exact absurd he (hp i j hi hj h1)
  · subst h1; rfl
  · exact absurd he.symm (hp j i hj hi h1)
theorem WM_s (hco : cok cs) (hW : WM tv nv m) {c : Nat} {u : Int} (hu : lok u) (ht : tok tv) (hmem : u ∈ cg cs c) (hv : vl tv u = 1) (hall : ∀ x ∈ cg cs c, x = u ∨ vl tv x < 0) : WM tv (nvx nv (cg cs c) u) (m ||| opp (mask (cg cs c) &&& (sb (li u) ^^^ (-1)))) := by
  intro l hl
  have hcl := cg_ok hco c
  rw [mm_or, hW l hl, mm_opp _ (li_lt hl), li_sw hl, mm_and, mm_not _ (li_lt (lok_neg hl)), mm_sb _ (li_lt hu) _ (li_lt (lok_neg hl)), Bool.eq_iff_iff]
  unfold nvx
  simp only [Bool.or_eq_true, Bool.and_eq_true, Bool.not_eq_true', decide_eq_true_iff, decide_eq_false_iff_not, List.any_eq_true]
  rw [mm_in hcl.2.1 (lok_neg hl), li_inj hu (lok_neg hl)]
  constructor
  · rintro (⟨h1, h2⟩ | ⟨h1, h2⟩)
    · exact ⟨Or.inl h1, h2⟩
    · have h3 : vl tv (-l) < 0 := by
        rcases hall (-l) h1 with h3 | h3
        · exact absurd h3.symm h2
        · exact h3
      have h4 := vl_neg (tv := tv) hl.1
      refine ⟨Or.inr ⟨-l, h1, Int.natAbs_neg l, fun e => ?_⟩, by omega⟩
      have := cl1_inj hcl h1 hmem (by rw [Int.natAbs_neg]; exact e)
      exact h2 this.symm
  · rintro ⟨h1 | ⟨x, hx, h2, h3⟩, h4⟩
    · exact Or.inl ⟨h1, h4⟩
    · right
      have hx2 : x = l ∨ x = -l := by omega
      rcases hx2 with e | e
      · subst e
        rcases hall x hx with h5 | h5
        · exact absurd (by rw [h5]) h3
        · omega
      · refine ⟨by rw [← e]; exact hx, fun z => h3 (by rw [z, Int.natAbs_neg])⟩
/-- neededFor -/
theorem c98_l (h : SH w) (hG : PG P w cs al tv tak) (hco : cok cs) (ht : tok tv) (hI : TI cs tv tak) : ∀ (k : Nat) (nv : Nat → Bool) (m f : Int32) (o1 : Option Value), k ≤ tak.length → WM tv nv m → (∀ r, (∀ i, i < 32 → mm r i = (mm f i || nds cs tak k nv i)) → Q (.inl (some (.int r))) w) → x_R x_prog scr 98 12 [some (.ref 28), o1, some (.int m), some (.int f), some (.int (nI k + (-1)))] [] w Q := by
  obtain ⟨hP, r0, p4, hl, pS, pA, pT, p6, pK'⟩ := id hG
  have k28 : x_k w 28 = 9 := by rw [sh_k h]; rfl
  have kP := pK h hP
  have h16 := TI_16 hI
  intro k
  induction k with
  | zero =>
    intro nv m f o1 hk hW hq
    refine b98_12 ⟨fun _ => hq f (fun i hi => ?_), fun z => absurd (by decide) z⟩
    show mm f i = (mm f i || false)
    rw [Bool.or_false]
  | succ k ih =>
    intro nv m f o1 hk hW hq
    obtain ⟨a1, a2, a3, a4, a5, a6⟩ := hI.1 k (by omega)
    obtain ⟨b1, b2⟩ := pK' k (by omega)
    have hin := WM_in hW a3 a5
    have e1 : x_i w (P + 3) (tg tak k).1 = mask (cg cs (tg tak k).1) := PG_set hG a1 a2
    rw [pk_m1]
    refine b98_12 ⟨fun z => absurd z (nI_pos (by omega)), fun _ => ?_⟩
    rw [sr28_4 h, sr28_5 h, r0, pr8 h hP, kP, (pk3 h hP).1, (pk3 h hP).2, nI_clamp (show k < 2 ^ 31 by omega), b1, b2, nI_clamp (show (tg tak k).1 < 2 ^ 31 by omega), e1, hin, sh_k h, sh_l h]
    have v17 : vp_in (nI k) 17 := vp_in_nI (by omega) (by omega)
    refine ⟨rfl, by decide, ⟨rfl, v17⟩, fun z => ?_, fun z => ?_⟩
    · refine ih nv m f none (by omega) hW (fun r hr => hq r (fun i hi => ?_))
      rw [hr i hi]
      show _ = (mm f i || if i = k then nv (tg tak k).2.natAbs else nds cs tak k (if nv (tg tak k).2.natAbs = true then nvx nv (cg cs (tg tak k).1) (tg tak k).2 else nv) i)
      rw [z]
      by_cases e : i = k
      · rw [if_pos e, e, nds_ge]
        exact Nat.le_refl _
      · rw [if_neg e]; rfl
    · have zt : nv (tg tak k).2.natAbs = true := by
        cases hb : nv (tg tak k).2.natAbs with
        | true => rfl
        | false => exact absurd hb z
      refine ⟨rfl, by omega, rfl, by omega, rfl, by decide, ⟨rfl, v17⟩, ⟨rfl, vp_in_nI (by omega) (by omega)⟩, rfl, by decide, ⟨rfl, v17⟩, c33 (b98_65 ?_)⟩
      have e31 : nI k &&& 31 = nI k := sh31 k (by omega)
      rw [e31]
      refine ih (nvx nv (cg cs (tg tak k).1) (tg tak k).2) _ (f ||| sb k) none (by omega) (WM_s hco hW a3 ht a4 a5 a6) (fun r hr => hq r (fun i hi => ?_))
      rw [hr i hi, mm_or, mm_sb k (by omega) i hi]
      show _ = (mm f i || if i = k then nv (tg tak k).2.natAbs else nds cs tak k (if nv (tg tak k).2.natAbs = true then nvx nv (cg cs (tg tak k).1) (tg tak k).2 else nv) i)
      rw [zt, if_pos rfl]
      by_cases e : i = k
      · rw [if_pos e, decide_eq_true e.symm]; simp
      · rw [if_neg e, decide_eq_false (fun z => e z.symm)]; simp
theorem c98 (h : SH w) (hG : PG P w cs al tv tak) (hco : cok cs) (ht : tok tv) (hI : TI cs tv tak) (hW : WM tv nv m) (hq : ∀ r, (∀ i, i < 32 → mm r i = nds cs tak tak.length nv i) → Q (.inl (some (.int r))) w) : x_R x_prog scr 98 0 [some (.ref 28), some (.int m), o2, o3, o4] [] w Q := by
  refine b98_0 ⟨by rw [sh_k h]; rfl, ?_⟩
  rw [hG.2.2.2.2.2.2.2.1, Int32.sub_eq_add_neg]
  exact c98_l h hG hco ht hI tak.length nv m 0 _ (Nat.le_refl _) hW (fun r hr => hq r (fun i hi => by rw [hr i hi, mm_0, Bool.false_or]))
end X54
