/-! The record on the class's side. -/
def pbh (p : Nat) (v : Int) : Nat := if p = 0 then 1 else if p = 3 then (if v = 0 then 0 else 3) else if v = 0 ∨ v = 10000 then 3 else 2
def cst (p : Nat) (v : Int) : Bool := if v = 10000 then decide (p = 1) else decide (¬ v = 20000)
/-- the lines of a record from position a on, in part p of a line: fault, tokens, lines -/
def lr (t : Nat → Nat) (sz : Nat) : Nat → Nat → Nat → List Int → Nat → Nat × List Int × Nat
  | 0, _, _, tk, ln => (0, tk, ln)
  | d + 1, a, p, tk, ln => if (nxt false t sz a).2.2 = 20001 then (if p = 0 then 0 else (nxt false t sz a).2.1, tk, ln)
    else if cst p (nxt false t sz a).2.2 = true then lr t sz d (nxt false t sz a).1 (pbh p (nxt false t sz a).2.2) (tk ++ [(nxt false t sz a).2.2]) (ln + if pbh p (nxt false t sz a).2.2 = 0 then 1 else 0)
    else ((nxt false t sz a).2.1, tk, ln)
/-- n words were read up to a -/
def wdn (t : Nat → Nat) (sz a n : Nat) : Prop := a ≤ sz ∧ ((n = 0 ∧ a = 0) ∨ (2 * n ≤ a + 1 ∧ (a = sz ∨ gv (t a) = true)))
theorem wdn_s {t : Nat → Nat} {sz a n : Nat} (h : wdn t sz a n) (hv : ¬ (nxt false t sz a).2.2 = 20001) : wdn t sz (nxt false t sz a).1 (n + 1) := by
  obtain ⟨ha, h⟩ := h
  have hge := wN_ge (t := t) (sz := sz) (a := a)
  have hle := wN_le (t := t) ha
  have hlf := wF_le (t := t) ha
  have hfg := wF_ge (t := t) (sz := sz) (a := a)
  have hlt : wF t sz a < wN t sz a := by
    apply Classical.byContradiction
    intro z
    apply hv
    show (if wF t sz a = wN t sz a then (20001 : Int) else wv t (wF t sz a) (wN t sz a)) = 20001
    rw [if_pos (by omega)]
  refine ⟨hle, Or.inr ⟨?_, ?_⟩⟩
  · show 2 * (n + 1) ≤ wN t sz a + 1
    rcases h with ⟨h1, h2⟩ | ⟨h1, h2⟩
    · omega
    · have hF : a + 1 ≤ wF t sz a := by
        rcases h2 with h2 | h2
        · omega
        · have hne : ¬ wF t sz a = a := by
            intro e
            have h3 : gv (t (wF t sz a)) = false := skp_end (fun k => gv (t k)) (sz - a) a (by show wF t sz a < a + (sz - a); omega)
            rw [e, h2] at h3
            cases h3
          omega
      omega
  · show wN t sz a = sz ∨ gv (t (wN t sz a)) = true
    by_cases e : wN t sz a = sz
    · exact Or.inl e
    · right
      have h3 : (!gv (t (wN t sz a))) = false := skp_end (fun k => !gv (t k)) (sz - wF t sz a) (wF t sz a) (by unfold wN at e hle; omega)
      simpa using h3
theorem lr_le {t : Nat → Nat} {sz : Nat} : ∀ (d a p : Nat) (tk : List Int) (ln : Nat), a ≤ sz → (lr t sz d a p tk ln).1 ≤ sz + 1
  | 0, a, p, tk, ln, h => by show 0 ≤ sz + 1; omega
  | d + 1, a, p, tk, ln, h => by
    have hp := nxt_pl (pk := false) (t := t) h
    unfold lr
    split
    · show (if p = 0 then 0 else (nxt false t sz a).2.1) ≤ sz + 1
      split <;> omega
    · split
      · exact lr_le d _ _ _ _ (nxt_le h)
      · exact hp.2
section X50
variable {scr : Nat × (Nat → Int32)} {w : xW} {Q : xO → xW → Prop} {w1 : xW} {t : Nat → Nat} {sz a p P D T S V g n fa dc ln : Nat} {pk hf hs : Bool} {ls : List Int} {cs : List (List Int)} {st : xSt} {mk sp : Nat → Bool} {tk tk2 : List Int} {v : Int} {o1 o2 o3 o4 : Option Value}
theorem c77 (hp : p ≤ 3) (hv : -9999 ≤ v ∧ v ≤ 20001) (hq : Q (.inl (some (.int (b32 (cst p v))))) w) : x_R x_prog scr 77 0 [some (.int (nI p)), some (.int (iI v))] [] w Q := by
  have g1 : iI v = 10000 ↔ v = 10000 := iI_eq (b := 10000) (by omega) (by omega) (by omega) (by omega)
  have g2 : iI v = 20000 ↔ v = 20000 := iI_eq (b := 20000) (by omega) (by omega) (by omega) (by omega)
  have g3 : nI p = 1 ↔ p = 1 := nI_eq (b := 1) (by omega) (by omega)
  unfold cst at hq
  refine b77_0 ?_
  rw [g1, g2, g3]
  refine ⟨fun z => ⟨fun y => ⟨Or.inl rfl, ?_⟩, fun y => ⟨Or.inr rfl, ?_⟩⟩, fun z => ⟨fun y => ⟨Or.inl rfl, ?_⟩, fun y => ⟨Or.inr rfl, ?_⟩⟩⟩
  · rw [if_neg z, decide_eq_false (fun x => x y)] at hq; exact hq
  · rw [if_neg z, decide_eq_true y] at hq; exact hq
  · rw [if_pos (Classical.not_not.mp z), decide_eq_false y] at hq; exact hq
  · rw [if_pos (Classical.not_not.mp z), decide_eq_true (Classical.not_not.mp y)] at hq; exact hq
theorem c79 (hp : p ≤ 3) (hv : -9999 ≤ v ∧ v ≤ 20001) (hq : Q (.inl (some (.int (nI (pbh p v))))) w) : x_R x_prog scr 79 0 [some (.int (nI p)), some (.int (iI v))] [] w Q := by
  have g1 : iI v = 10000 ↔ v = 10000 := iI_eq (b := 10000) (by omega) (by omega) (by omega) (by omega)
  have g2 : iI v = 0 ↔ v = 0 := iI_eq (b := 0) (by omega) (by omega) (by omega) (by omega)
  have g3 : nI p = 0 ↔ p = 0 := by rw [← nI_0]; exact nI_eq (by omega) (by omega)
  have g4 : nI p = 3 ↔ p = 3 := nI_eq (b := 3) (by omega) (by omega)
  unfold pbh at hq
  refine b79_0 ?_
  rw [g1, g2, g3, g4]
  refine ⟨fun z => ⟨fun y => ⟨fun x => ?_, fun x => ⟨fun u => ?_, fun u => ?_⟩⟩, fun y => ⟨fun x => ?_, fun x => ?_⟩⟩, fun z => ?_⟩
  · rw [if_neg z, if_neg y, if_pos (Or.inl x)] at hq; exact hq
  · rw [if_neg z, if_neg y, if_neg (by omega)] at hq; exact hq
  · rw [if_neg z, if_neg y, if_pos (by omega)] at hq; exact hq
  · rw [if_neg z, if_pos (Classical.not_not.mp y), if_neg x] at hq; exact hq
  · rw [if_neg z, if_pos (Classical.not_not.mp y), if_pos (Classical.not_not.mp x)] at hq; exact hq
  · rw [if_pos (Classical.not_not.mp z)] at hq; exact hq
/-- a row of tokens of which 2000 are kept -/
def TG (T : Nat) (w : xW) (tk : List Int) : Prop := x_i w T 1 = nI tk.length ∧ ∀ k, k < tk.length → k < 2000 → x_i w (T + 1) k = iI (tk.getD k 0)
theorem TG_TK (h : TG T w tk) (hl : tk.length ≤ 2000) : TK T w tk := ⟨h.1, fun k hk => h.2 k hk (by omega)⟩
theorem TG_F {mi mj mr : Nat → Nat → Prop} (q : xF mi mj mr w w1) (h : TG T w tk) (h1 : ¬ mi T 1) (h2 : ∀ k, ¬ mi (T + 1) k) : TG T w1 tk := ⟨(q.2.1 T 1 h1).trans h.1, fun k hk hk2 => (q.2.1 (T + 1) k (h2 k)).trans (h.2 k hk hk2)⟩
/-- the places of add -/
def mAd (T : Nat) : Nat → Nat → Prop := fun p k => (p = T ∧ k = 1) ∨ (p = T + 1 ∧ k < 2000)
theorem c78 (hT : T = 17 ∨ T = 19 ∨ T = 22) (h : SH w) (hl : tk.length < 2 ^ 30) (hG : TG T w tk) (hq : ∀ w', xI (mAd T) w w' → TG T w' (tk ++ [v]) → Q (.inl none) w') : x_R x_prog scr 78 0 [some (.ref T), some (.int (iI v))] [] w Q := by
  have kT := tK h hT
  have g1 : (2000 : Int32) ≤ nI tk.length ↔ 2000 ≤ tk.length := nI_leI (a := 2000) (by omega) (by omega)
  have hl1 : (tk ++ [v]).length = tk.length + 1 := by simp
  refine b78_0 ?_
  rw [hG.1, g1, nI_1]
  refine ⟨kT, fun z => ⟨kT, kT, hq _ (xI_si xI_rf (Or.inl ⟨rfl, rfl⟩)) ⟨?_, fun k hk hk2 => ?_⟩⟩, fun z => ?_⟩
  · rw [y_i_si, if_pos ⟨rfl, rfl⟩, hl1]
  · rw [hl1] at hk
    rw [y_i_si, if_neg (by omega), getD_app, if_pos (by omega)]
    exact hG.2 k (by omega) hk2
  · rw [tr0 h hT, (tk1 h hT).1, (tk1 h hT).2, nI_clamp (by omega)]
    have e1 : x_i (x_si w (T + 1) tk.length (iI v)) T 1 = nI tk.length := by rw [y_i_si, if_neg (by omega)]; exact hG.1
    rw [e1, nI_1]
    refine ⟨kT, by omega, kT, ⟨rfl, vp_in_nI (by omega) (by omega)⟩, kT, kT, hq _ (xI_si (xI_si xI_rf (Or.inr ⟨rfl, by omega⟩)) (Or.inl ⟨rfl, rfl⟩)) ⟨?_, fun k hk hk2 => ?_⟩⟩
    · rw [y_i_si, if_pos ⟨rfl, rfl⟩, hl1]
    · rw [hl1] at hk
      rw [y_i_si, if_neg (by omega), y_i_si, getD_app]
      by_cases e : k < tk.length
      · rw [if_neg (by omega), if_pos e]; exact hG.2 k e hk2
      · have e2 : k = tk.length := by omega
        rw [if_pos ⟨rfl, e2⟩, if_neg e, if_pos e2]
def mRl (S : Nat) : Nat → Nat → Prop := fun p k => (p = S ∧ (k = 1 ∨ k = 2)) ∨ (p = S + 1) ∨ (p = 3 ∧ (k = 1 ∨ k = 2 ∨ k = 3))
theorem TT_Rl (hS : S = 17 ∨ S = 19 ∨ S = 22) (q : xI (mRl S) w w1) (ht : TT w t sz) : TT w1 t sz := TT_I q ht (by unfold mRl; omega) (by unfold mRl; omega) (by unfold mRl; omega) (by unfold mRl; omega)
theorem pbh_le {p : Nat} {v : Int} : pbh p v ≤ 3 := by
  unfold pbh
  split
  · omega
  · split
    · split <;> omega
    · split <;> omega
theorem c76_l (hS : S = 17 ∨ S = 19 ∨ S = 22) : ∀ (d a p : Nat) (tk : List Int) (ln : Nat) (w : xW), SH w → TT w t sz → tk.length + d = 900 → p ≤ 3 → wdn t sz a tk.length → x_i w 3 1 = nI a → TG S w tk → x_i w S 2 = nI ln → ln ≤ tk.length → (∀ v ∈ tk, -9999 ≤ v ∧ v ≤ 10000) →
    (∀ w', xI (mRl S) w w' → ((lr t sz d a p tk ln).1 = 0 → TG S w' (lr t sz d a p tk ln).2.1 ∧ x_i w' S 2 = nI (lr t sz d a p tk ln).2.2 ∧ (lr t sz d a p tk ln).2.1.length ≤ 900 ∧ ∀ v ∈ (lr t sz d a p tk ln).2.1, -9999 ≤ v ∧ v ≤ 10000) → Q (.inl (some (.int (nI (lr t sz d a p tk ln).1)))) w') →
    x_R x_prog scr 76 12 [some (.ref S), some (.ref 3), some (.int (nI p)), some (.int (nI (tk.length + 1)))] [] w Q := by
  intro d
  induction d with
  | zero =>
    intro a p tk ln w h ht hd hp hw
    have t1 := ht.1
    obtain ⟨ha, hw⟩ := hw
    omega
  | succ d ih =>
    intro a p tk ln w h ht hd hp hw h1 hG h2 hln hrg hq
    have t1 := ht.1
    have ha := hw.1
    have hpl := nxt_pl (pk := false) (t := t) ha
    have hnr := nxt_rg (pk := false) (t := t) (sz := sz) (a := a) ht.2.1
    have kS := tK h hS
    refine b76_12 ⟨fun z => absurd z (nI_nlt (a := 900) (b := tk.length + 1) (by omega) (by omega)), fun _ => ⟨by rw [sh_k h]; rfl, ?_⟩⟩
    refine c23 h ht ha h1 (fun w1 q1 q2 => b76_23 ?_)
    have hs1 := sh_I q1 h
    have k1 : x_k w1 3 = 5 ∨ x_k w1 3 = 6 := Or.inl (by rw [sh_k hs1]; rfl)
    have F1 : xI (mRl S) w w1 := xI_w q1 (by unfold mA mRl; omega)
    have g1 : iI (nxt false t sz a).2.2 = 20001 ↔ (nxt false t sz a).2.2 = 20001 := iI_eq (b := 20001) (by omega) (by omega) (by omega) (by omega)
    have g2 : nI p = 0 ↔ p = 0 := by rw [← nI_0]; exact nI_eq (by omega) (by omega)
    have G1 : TG S w1 tk := TG_F q1 hG (by unfold mA; omega) (by unfold mA; omega)
    have e2 : x_i w1 S 2 = nI ln := (xI_i q1 S 2 (by unfold mA; omega)).trans h2
    rw [q2.2.2, q2.2.1, g1, g2]
    refine ⟨k1, fun z => ⟨k1, c77 hp hnr (b76_44 ?_)⟩, fun z => ?_⟩
    · cases hc : cst p (nxt false t sz a).2.2 with
      | false =>
        refine ⟨fun y => absurd rfl y, fun _ => ⟨k1, ?_⟩⟩
        have ef : lr t sz (d + 1) a p tk ln = ((nxt false t sz a).2.1, tk, ln) := by unfold lr; rw [if_neg z, hc]; rfl
        rw [ef] at hq
        rw [q2.2.1]
        exact hq w1 F1 (fun y => absurd (show (nxt false t sz a).2.1 = 0 from y) (by omega))
      | true =>
        refine ⟨fun _ => ⟨k1, tK hs1 hS, ?_⟩, fun y => absurd (by decide) y⟩
        rw [q2.2.2]
        refine c78 hS hs1 (by omega) G1 (fun w2 r1 r2 => b76_60 ?_)
        have hs2 := sh_I r1 hs1
        have k2 : x_k w2 3 = 5 ∨ x_k w2 3 = 6 := Or.inl (by rw [sh_k hs2]; rfl)
        have e23 : x_i w2 3 3 = iI (nxt false t sz a).2.2 := (xI_i r1 3 3 (by unfold mAd; omega)).trans q2.2.2
        have e21 : x_i w2 3 1 = nI (nxt false t sz a).1 := (xI_i r1 3 1 (by unfold mAd; omega)).trans q2.1
        have e22 : x_i w2 S 2 = nI ln := (xI_i r1 S 2 (by unfold mAd; omega)).trans e2
        have F2 : xI (mRl S) w w2 := xI_tr F1 (xI_w r1 (by unfold mAd mRl; omega))
        rw [e23]
        refine ⟨k2, c79 hp hnr (b76_68 ?_)⟩
        have hp3 := pbh_le (p := p) (v := (nxt false t sz a).2.2)
        have g3 : nI (pbh p (nxt false t sz a).2.2) = 0 ↔ pbh p (nxt false t sz a).2.2 = 0 := by rw [← nI_0]; exact nI_eq (by omega) (by omega)
        have ef : lr t sz (d + 1) a p tk ln = lr t sz d (nxt false t sz a).1 (pbh p (nxt false t sz a).2.2) (tk ++ [(nxt false t sz a).2.2]) (ln + if pbh p (nxt false t sz a).2.2 = 0 then 1 else 0) := by
          conv => lhs; unfold lr
          rw [if_neg z, if_pos hc]
        rw [ef] at hq
        have hl1 : (tk ++ [(nxt false t sz a).2.2]).length = tk.length + 1 := by simp
        have hvr : (nxt false t sz a).2.2 ≤ 10000 := by
          have := hc
          unfold cst at this
          rcases (show (nxt false t sz a).2.2 = 20000 ∨ (nxt false t sz a).2.2 = 20001 ∨ (nxt false t sz a).2.2 ≤ 10000 from by
            show (if wF t sz a = wN t sz a then (20001 : Int) else wv t (wF t sz a) (wN t sz a)) = 20000 ∨ (if wF t sz a = wN t sz a then (20001 : Int) else wv t (wF t sz a) (wN t sz a)) = 20001 ∨ (if wF t sz a = wN t sz a then (20001 : Int) else wv t (wF t sz a) (wN t sz a)) ≤ 10000
            have := wv_rg (t := t) (f := wF t sz a) (n := wN t sz a)
            split <;> omega) with e | e | e
          · rw [e] at this; simp at this
          · exact absurd e z
          · exact e
        have kS2 := tK hs2 hS
        rw [e22, g3, nI_1]
        have next : ∀ (v' : Int32) (ln' : Nat), v' = nI ln' → ln' = ln + (if pbh p (nxt false t sz a).2.2 = 0 then 1 else 0) → x_R x_prog scr 76 12 [some (.ref S), some (.ref 3), some (.int (nI (pbh p (nxt false t sz a).2.2))), some (.int (nI (tk.length + 1 + 1)))] [] (x_si w2 S 2 v') Q := by
          intro v' ln' hv' hln'
          have F3 : xI (mRl S) w (x_si w2 S 2 v') := xI_si F2 (Or.inl ⟨rfl, Or.inr rfl⟩)
          have G3 : xI (fun p k => p = S ∧ k = 2) w2 (x_si w2 S 2 v') := xI_si xI_rf ⟨rfl, rfl⟩
          rw [← hln'] at hq
          have := ih (nxt false t sz a).1 (pbh p (nxt false t sz a).2.2) (tk ++ [(nxt false t sz a).2.2]) ln' (x_si w2 S 2 v') (sh_I F3 h) (TT_Rl hS F3 ht) (by omega) hp3 (by rw [hl1]; exact wdn_s hw z) ((xI_i G3 3 1 (by omega)).trans e21) (TG_F G3 r2 (by omega) (by omega)) (by rw [y_i_si, if_pos ⟨rfl, rfl⟩]; exact hv') (by rw [hl1]; split at hln' <;> omega) (fun x hx => ?_) (fun w' u1 u2 => hq w' (xI_tr F3 u1) u2)
          · rw [hl1] at this
            exact this
          · rcases List.mem_append.mp hx with hx | hx
            · exact hrg x hx
            · rw [List.mem_singleton] at hx; rw [hx]; omega
        refine ⟨kS2, fun y => ⟨kS2, next _ ln ?_ (by rw [if_neg y]; rfl)⟩, fun y => ⟨kS2, next _ (ln + 1) ?_ (by rw [if_pos (Classical.not_not.mp y)])⟩⟩
        · exact Int32.add_zero _
        · exact nI_1 ln
    · have z0 := Classical.not_not.mp z
      have ef : lr t sz (d + 1) a p tk ln = (if p = 0 then 0 else (nxt false t sz a).2.1, tk, ln) := by unfold lr; rw [if_pos z0]
      rw [ef] at hq
      have fin : (p = 0 → TG S w1 tk ∧ x_i w1 S 2 = nI ln ∧ tk.length ≤ 900 ∧ ∀ v ∈ tk, -9999 ≤ v ∧ v ≤ 10000) := fun _ => ⟨G1, e2, by omega, hrg⟩
      refine ⟨fun y => ⟨k1, ?_⟩, fun y => ?_⟩
      · have := hq w1 F1 (fun x => absurd (show (if p = 0 then 0 else (nxt false t sz a).2.1) = 0 from x) (by rw [if_neg y]; omega))
        rw [if_neg y] at this
        exact this
      · have y0 := Classical.not_not.mp y
        have := hq w1 F1 (fun _ => fin y0)
        rw [if_pos y0] at this
        exact this
/-- readLines -/
theorem c76 (hS : S = 17 ∨ S = 19 ∨ S = 22) (h : SH w) (ht : TT w t sz) (hq : ∀ w', xI (mRl S) w w' → ((lr t sz 900 0 0 [] 0).1 = 0 → TG S w' (lr t sz 900 0 0 [] 0).2.1 ∧ x_i w' S 2 = nI (lr t sz 900 0 0 [] 0).2.2 ∧ (lr t sz 900 0 0 [] 0).2.1.length ≤ 900 ∧ ∀ v ∈ (lr t sz 900 0 0 [] 0).2.1, -9999 ≤ v ∧ v ≤ 10000) → Q (.inl (some (.int (nI (lr t sz 900 0 0 [] 0).1)))) w') : x_R x_prog scr 76 0 [some (.ref S), some (.ref 3), o2, o3] [] w Q := by
  refine b76_0 ⟨tK h hS, c40 hS h (fun w1 q1 q2 q3 => b76_4 ?_)⟩
  have hs1 := sh_I q1 h
  have k5 : x_k w1 3 = 5 := by rw [sh_k hs1]; rfl
  have F1 : xI (mRl S) w w1 := xI_w q1 (by unfold mRl; omega)
  refine ⟨fun _ => c22 (Or.inl rfl) hs1 (fun w2 r1 r2 => b76_8 ?_), fun z => absurd k5 z⟩
  have F2 : xI (mRl S) w w2 := xI_tr F1 (xI_w r1 (by unfold mA mRl; omega))
  exact c76_l hS 900 0 0 [] 0 w2 (sh_I r1 hs1) (TT_Rl hS F2 ht) rfl (by omega) ⟨Nat.zero_le _, Or.inl ⟨rfl, rfl⟩⟩ r2 ⟨(xI_i r1 S 1 (by unfold mA; omega)).trans q2, fun k hk => absurd hk (by simp)⟩ ((xI_i r1 S 2 (by unfold mA; omega)).trans q3) (by simp) (fun v hv => by cases hv) (fun w' u1 u2 => hq w' (xI_tr F2 u1) u2)
theorem c80 (hT : (T = 17 ∧ S = 19) ∨ (T = 19 ∧ S = 17)) (h : SH w) (h7 : x_r w 0 7 = T) (h8 : x_r w 0 8 = S) (hq : ∀ w', xF x_no x_no mrA w w' → x_r w' 0 7 = S → x_r w' 0 8 = T → x_r w' 0 5 = x_r w 0 5 → x_r w' 0 6 = x_r w 0 6 → Q (.inl none) w') : x_R x_prog scr 80 0 [some (.ref 0), o1] [] w Q := by
  have k0 : x_k w 0 = 3 := by rw [sh_k h]; rfl
  refine b80_0 ?_
  rw [h7, h8, sh_n h]
  refine ⟨k0, by omega, k0, by omega, ⟨k0, by omega, by omega⟩, ⟨k0, by omega, by omega⟩, hq _ (xF_sr (xF_sr xF_rf (Or.inl ⟨rfl, by omega, by omega⟩)) (Or.inl ⟨rfl, by omega, by omega⟩)) ?_ ?_ ?_ ?_⟩
  · rw [y_r_sr, if_neg (by omega), y_r_sr, if_pos ⟨rfl, rfl⟩]
  · rw [y_r_sr, if_pos ⟨rfl, rfl⟩]
  · rw [y_r_sr, if_neg (by omega), y_r_sr, if_neg (by omega)]
  · rw [y_r_sr, if_neg (by omega), y_r_sr, if_neg (by omega)]
/-- record of the class -/
theorem c75 (h : SH w) (ht : TT w t sz) (hA : AK fa hf hs V g cs st mk sp tk) (hC : CC w fa hf hs V g cs st mk sp tk)
    (hq1 : (lr t sz 900 0 0 [] 0).1 = 0 → ∀ w', xLo 0 w w' → SH w' → TT w' t sz → AK 0 hf hs V g cs st mk sp (lr t sz 900 0 0 [] 0).2.1 → CC w' 0 hf hs V g cs st mk sp (lr t sz 900 0 0 [] 0).2.1 → Q (.inl (some (.int (nI (lr t sz 900 0 0 [] 0).2.2)))) w')
    (hq0 : ¬ (lr t sz 900 0 0 [] 0).1 = 0 → ∀ w', xLo 1 w w' → SH w' → TT w' t sz → CC w' (lr t sz 900 0 0 [] 0).1 hf hs V g cs st mk sp tk → Q (.inr 1) w') : x_R x_prog scr 75 0 [some (.ref 0)] [] w Q := by
  obtain ⟨hfa, hV, hg40, hgl, hl63, hst80, hco, hst0, hrs, hsf, hmk, htl, htv⟩ := hA
  obtain ⟨P, D, T, S, hP, hT, ⟨r5, r6, r7, r8⟩, h9, hS, hK⟩ := id hC
  have hSS : S = 17 ∨ S = 19 ∨ S = 22 := by omega
  have k0 : x_k w 0 = 3 := by rw [sh_k h]; rfl
  have t1 := ht.1
  have hle := lr_le (t := t) 900 0 0 [] 0 (Nat.zero_le sz)
  refine b75_0 ?_
  rw [r8, sr0_1 h, tK h hSS]
  refine ⟨k0, by omega, k0, by decide, rfl, c76 hSS h ht (fun w1 q1 q2 => b75_12 ?_)⟩
  have h1 := sh_I q1 h
  have k1 : x_k w1 0 = 3 := by rw [sh_k h1]; rfl
  generalize hF : (lr t sz 900 0 0 [] 0).1 = F at *
  have e9 : x_i (x_si w1 0 9 (nI F)) 0 9 = nI F := by rw [y_i_si, if_pos ⟨rfl, rfl⟩]
  have F2 : xI (fun p k => mRl S p k ∨ (p = 0 ∧ k = 9)) w (x_si w1 0 9 (nI F)) := xI_si (xI_w q1 (fun _ _ z => Or.inl z)) (Or.inr ⟨rfl, rfl⟩)
  have h2 := sh_I F2 h
  have eR : ∀ k, x_r (x_si w1 0 9 (nI F)) 0 k = x_r w 0 k := fun k => by rw [xI_r F2]
  have ht2 : TT (x_si w1 0 9 (nI F)) t sz := TT_I F2 ht (by unfold mRl; omega) (by unfold mRl; omega) (by unfold mRl; omega) (by unfold mRl; omega)
  have lo2 : xLo 0 w (x_si w1 0 9 (nI F)) := xLo_F F2 (fun p k hp => ⟨by unfold mRl; omega, fun z => z, fun z => z⟩)
  have hS2 : PS P (x_si w1 0 9 (nI F)) hf hs V g cs st mk sp := PS_e (fun p _ _ => xI_c F2 p (by unfold mRl; omega)) (by rw [xI_j F2]) (by rw [xI_j F2]) hS
  have hK2 : TK T (x_si w1 0 9 (nI F)) tk := TK_e (xI_c F2 T (by unfold mRl; omega)) (xI_c F2 (T + 1) (by unfold mRl; omega)) hK
  rw [e9]
  refine ⟨k1, k1, fun z => ⟨k1, ?_⟩, fun z => ?_⟩
  · have z0 : F = 0 := by
      rw [← nI_0] at z
      exact (nI_eq (by omega) (by omega)).mp z
    obtain ⟨u1, u2, u3, u4⟩ := q2 z0
    refine c80 hT h2 ((eR 7).trans r7) ((eR 8).trans r8) (fun w3 v1 v2 v3 v4 v5 => b75_34 ?_)
    have h3 := sh_A v1 h2
    have k3 : x_k w3 0 = 3 := by rw [sh_k h3]; rfl
    have ui : x_i w3 = x_i (x_si w1 0 9 (nI F)) := funext fun o => funext fun k => v1.2.1 o k fun z => z
    have uj : x_j w3 = x_j (x_si w1 0 9 (nI F)) := funext fun o => funext fun k => v1.2.2.1 o k fun z => z
    have e2 : x_i w3 S 2 = nI (lr t sz 900 0 0 [] 0).2.2 := by rw [ui, y_i_si, if_neg (by omega)]; exact u2
    have hTK : TK S w3 (lr t sz 900 0 0 [] 0).2.1 := by
      refine TK_e (w := w1) ?_ ?_ (TG_TK u1 (by omega))
      · rw [ui]; funext k; rw [y_i_si, if_neg (by omega)]
      · rw [ui]; funext k; rw [y_i_si, if_neg (by omega)]
    rw [v2, tK h3 hSS, e2]
    refine ⟨k3, by omega, rfl, hq1 z0 w3 ?_ h3 ?_ ⟨by omega, hV, hg40, hgl, hl63, hst80, hco, hst0, hrs, hsf, hmk, by omega, u4⟩ ⟨P, D, S, T, hP, by omega, ⟨v4.trans ((eR 5).trans r5), v5.trans ((eR 6).trans r6), v2, v3⟩, ?_, PS_e (fun p _ _ => congrFun ui p) (congrFun uj P) (congrFun uj (P + 5)) hS2, hTK⟩⟩
    · exact xLo_tr (a := 0) (b := 0) lo2 (xLo_F v1 (fun p k hp => ⟨fun z => z, fun z => z, by unfold mrA; omega⟩))
    · exact TT_F v1 ht2 (fun z => z) (fun z => z) (fun _ z => z) (fun _ z => z)
    · rw [ui, e9, z0]
  · have z0 : ¬ F = 0 := fun y => z (by rw [y]; rfl)
    exact hq0 z0 _ (xLo_tr (a := 0) (b := 1) lo2 xLo_lost) h2 ht2 ⟨P, D, T, S, hP, hT, ⟨(eR 5).trans r5, (eR 6).trans r6, (eR 7).trans r7, (eR 8).trans r8⟩, e9, hS2, hK2⟩
end X50
