/-! What is asked of the program's rows: all of it. -/
theorem x_inT {q : Cond} (h : decide (q ∈ lw_tbl) = true) (hg : goodWord q = true) : q ∈ x_Ts := List.mem_filter.mpr ⟨of_decide_eq_true h, hg⟩
theorem x_tl : x_tabs.length = 192 := by decide +kernel
theorem x_t_ge {M : Nat} (h : 192 ≤ M) : x_prog.1 M = [] := x_nth_ge x_tabs M (by rw [x_tl]; exact h)
def x_ms : List Nat := [1, 2, 3, 4, 5, 6, 7, 8, 9, 10, 11, 12, 13, 14, 15, 16, 17, 18, 19, 20, 21, 22, 23, 24, 25, 26, 27, 28, 30, 31, 32, 33, 34, 35, 36, 37, 38, 39, 40, 41, 42, 43, 44, 45, 46, 47, 48, 49, 50, 51, 52, 53, 54, 55, 56, 57, 58, 59, 60, 61, 62, 63, 64, 65, 66, 67, 68, 69, 70, 71, 72, 73, 74, 75, 76, 77, 78, 79, 80, 81, 82, 83, 84, 85, 86, 87, 88, 89, 90, 91, 92, 93, 94, 95, 96, 97, 98, 99, 100, 101, 102, 103, 104, 105, 106, 107, 108, 109, 110, 111, 112, 113, 114, 115, 116, 117, 118, 119, 120, 121, 122, 123, 124, 125, 126, 127, 128, 129, 130, 131, 132, 133, 134, 135, 136, 137, 138, 139, 140, 141, 142, 143, 144, 145, 146, 147, 148, 149, 150, 151, 152, 153, 154, 155, 156, 157, 158, 159, 160, 161, 162, 163, 164, 165, 166, 167, 168, 169, 170, 171, 172, 173, 174, 175, 176, 177, 178, 179, 180, 181, 182, 183, 184, 185, 186, 187, 188, 189, 190, 191]
set_option maxRecDepth 100000 in
theorem x_oall : ∀ M ∈ x_ms, (x_prog.1 M).all (x_okb M) = true := List.forall_mem_cons.mpr ⟨x_o1, List.forall_mem_cons.mpr ⟨x_o2, List.forall_mem_cons.mpr ⟨x_o3, List.forall_mem_cons.mpr ⟨x_o4, List.forall_mem_cons.mpr ⟨x_o5, List.forall_mem_cons.mpr ⟨x_o6, List.forall_mem_cons.mpr ⟨x_o7, List.forall_mem_cons.mpr ⟨x_o8, List.forall_mem_cons.mpr ⟨x_o9, List.forall_mem_cons.mpr ⟨x_o10, List.forall_mem_cons.mpr ⟨x_o11, List.forall_mem_cons.mpr ⟨x_o12, List.forall_mem_cons.mpr ⟨x_o13, List.forall_mem_cons.mpr ⟨x_o14, List.forall_mem_cons.mpr ⟨x_o15, List.forall_mem_cons.mpr ⟨x_o16, List.forall_mem_cons.mpr ⟨x_o17, List.forall_mem_cons.mpr ⟨x_o18, List.forall_mem_cons.mpr ⟨x_o19, List.forall_mem_cons.mpr ⟨x_o20, List.forall_mem_cons.mpr ⟨x_o21, List.forall_mem_cons.mpr ⟨x_o22, List.forall_mem_cons.mpr ⟨x_o23, List.forall_mem_cons.mpr ⟨x_o24, List.forall_mem_cons.mpr ⟨x_o25, List.forall_mem_cons.mpr ⟨x_o26, List.forall_mem_cons.mpr ⟨x_o27, List.forall_mem_cons.mpr ⟨x_o28, List.forall_mem_cons.mpr ⟨x_o30, List.forall_mem_cons.mpr ⟨x_o31, List.forall_mem_cons.mpr ⟨x_o32, List.forall_mem_cons.mpr ⟨x_o33, List.forall_mem_cons.mpr ⟨x_o34, List.forall_mem_cons.mpr ⟨x_o35, List.forall_mem_cons.mpr ⟨x_o36, List.forall_mem_cons.mpr ⟨x_o37, List.forall_mem_cons.mpr ⟨x_o38, List.forall_mem_cons.mpr ⟨x_o39, List.forall_mem_cons.mpr ⟨x_o40, List.forall_mem_cons.mpr ⟨x_o41, List.forall_mem_cons.mpr ⟨x_o42, List.forall_mem_cons.mpr ⟨x_o43, List.forall_mem_cons.mpr ⟨x_o44, List.forall_mem_cons.mpr ⟨x_o45, List.forall_mem_cons.mpr ⟨x_o46, List.forall_mem_cons.mpr ⟨x_o47, List.forall_mem_cons.mpr ⟨x_o48, List.forall_mem_cons.mpr ⟨x_o49, List.forall_mem_cons.mpr ⟨x_o50, List.forall_mem_cons.mpr ⟨x_o51, List.forall_mem_cons.mpr ⟨x_o52, List.forall_mem_cons.mpr ⟨x_o53, List.forall_mem_cons.mpr ⟨x_o54, List.forall_mem_cons.mpr ⟨x_o55, List.forall_mem_cons.mpr ⟨x_o56, List.forall_mem_cons.mpr ⟨x_o57, List.forall_mem_cons.mpr ⟨x_o58, List.forall_mem_cons.mpr ⟨x_o59, List.forall_mem_cons.mpr ⟨x_o60, List.forall_mem_cons.mpr ⟨x_o61, List.forall_mem_cons.mpr ⟨x_o62, List.forall_mem_cons.mpr ⟨x_o63, List.forall_mem_cons.mpr ⟨x_o64, List.forall_mem_cons.mpr ⟨x_o65, List.forall_mem_cons.mpr ⟨x_o66, List.forall_mem_cons.mpr ⟨x_o67, List.forall_mem_cons.mpr ⟨x_o68, List.forall_mem_cons.mpr ⟨x_o69, List.forall_mem_cons.mpr ⟨x_o70, List.forall_mem_cons.mpr ⟨x_o71, List.forall_mem_cons.mpr ⟨x_o72, List.forall_mem_cons.mpr ⟨x_o73, List.forall_mem_cons.mpr ⟨x_o74, List.forall_mem_cons.mpr ⟨x_o75, List.forall_mem_cons.mpr ⟨x_o76, List.forall_mem_cons.mpr ⟨x_o77, List.forall_mem_cons.mpr ⟨x_o78, List.forall_mem_cons.mpr ⟨x_o79, List.forall_mem_cons.mpr ⟨x_o80, List.forall_mem_cons.mpr ⟨x_o81, List.forall_mem_cons.mpr ⟨x_o82, List.forall_mem_cons.mpr ⟨x_o83, List.forall_mem_cons.mpr ⟨x_o84, List.forall_mem_cons.mpr ⟨x_o85, List.forall_mem_cons.mpr ⟨x_o86, List.forall_mem_cons.mpr ⟨x_o87, List.forall_mem_cons.mpr ⟨x_o88, List.forall_mem_cons.mpr ⟨x_o89, List.forall_mem_cons.mpr ⟨x_o90, List.forall_mem_cons.mpr ⟨x_o91, List.forall_mem_cons.mpr ⟨x_o92, List.forall_mem_cons.mpr ⟨x_o93, List.forall_mem_cons.mpr ⟨x_o94, List.forall_mem_cons.mpr ⟨x_o95, List.forall_mem_cons.mpr ⟨x_o96, List.forall_mem_cons.mpr ⟨x_o97, List.forall_mem_cons.mpr ⟨x_o98, List.forall_mem_cons.mpr ⟨x_o99, List.forall_mem_cons.mpr ⟨x_o100, List.forall_mem_cons.mpr ⟨x_o101, List.forall_mem_cons.mpr ⟨x_o102, List.forall_mem_cons.mpr ⟨x_o103, List.forall_mem_cons.mpr ⟨x_o104, List.forall_mem_cons.mpr ⟨x_o105, List.forall_mem_cons.mpr ⟨x_o106, List.forall_mem_cons.mpr ⟨x_o107, List.forall_mem_cons.mpr ⟨x_o108, List.forall_mem_cons.mpr ⟨x_o109, List.forall_mem_cons.mpr ⟨x_o110, List.forall_mem_cons.mpr ⟨x_o111, List.forall_mem_cons.mpr ⟨x_o112, List.forall_mem_cons.mpr ⟨x_o113, List.forall_mem_cons.mpr ⟨x_o114, List.forall_mem_cons.mpr ⟨x_o115, List.forall_mem_cons.mpr ⟨x_o116, List.forall_mem_cons.mpr ⟨x_o117, List.forall_mem_cons.mpr ⟨x_o118, List.forall_mem_cons.mpr ⟨x_o119, List.forall_mem_cons.mpr ⟨x_o120, List.forall_mem_cons.mpr ⟨x_o121, List.forall_mem_cons.mpr ⟨x_o122, List.forall_mem_cons.mpr ⟨x_o123, List.forall_mem_cons.mpr ⟨x_o124, List.forall_mem_cons.mpr ⟨x_o125, List.forall_mem_cons.mpr ⟨x_o126, List.forall_mem_cons.mpr ⟨x_o127, List.forall_mem_cons.mpr ⟨x_o128, List.forall_mem_cons.mpr ⟨x_o129, List.forall_mem_cons.mpr ⟨x_o130, List.forall_mem_cons.mpr ⟨x_o131, List.forall_mem_cons.mpr ⟨x_o132, List.forall_mem_cons.mpr ⟨x_o133, List.forall_mem_cons.mpr ⟨x_o134, List.forall_mem_cons.mpr ⟨x_o135, List.forall_mem_cons.mpr ⟨x_o136, List.forall_mem_cons.mpr ⟨x_o137, List.forall_mem_cons.mpr ⟨x_o138, List.forall_mem_cons.mpr ⟨x_o139, List.forall_mem_cons.mpr ⟨x_o140, List.forall_mem_cons.mpr ⟨x_o141, List.forall_mem_cons.mpr ⟨x_o142, List.forall_mem_cons.mpr ⟨x_o143, List.forall_mem_cons.mpr ⟨x_o144, List.forall_mem_cons.mpr ⟨x_o145, List.forall_mem_cons.mpr ⟨x_o146, List.forall_mem_cons.mpr ⟨x_o147, List.forall_mem_cons.mpr ⟨x_o148, List.forall_mem_cons.mpr ⟨x_o149, List.forall_mem_cons.mpr ⟨x_o150, List.forall_mem_cons.mpr ⟨x_o151, List.forall_mem_cons.mpr ⟨x_o152, List.forall_mem_cons.mpr ⟨x_o153, List.forall_mem_cons.mpr ⟨x_o154, List.forall_mem_cons.mpr ⟨x_o155, List.forall_mem_cons.mpr ⟨x_o156, List.forall_mem_cons.mpr ⟨x_o157, List.forall_mem_cons.mpr ⟨x_o158, List.forall_mem_cons.mpr ⟨x_o159, List.forall_mem_cons.mpr ⟨x_o160, List.forall_mem_cons.mpr ⟨x_o161, List.forall_mem_cons.mpr ⟨x_o162, List.forall_mem_cons.mpr ⟨x_o163, List.forall_mem_cons.mpr ⟨x_o164, List.forall_mem_cons.mpr ⟨x_o165, List.forall_mem_cons.mpr ⟨x_o166, List.forall_mem_cons.mpr ⟨x_o167, List.forall_mem_cons.mpr ⟨x_o168, List.forall_mem_cons.mpr ⟨x_o169, List.forall_mem_cons.mpr ⟨x_o170, List.forall_mem_cons.mpr ⟨x_o171, List.forall_mem_cons.mpr ⟨x_o172, List.forall_mem_cons.mpr ⟨x_o173, List.forall_mem_cons.mpr ⟨x_o174, List.forall_mem_cons.mpr ⟨x_o175, List.forall_mem_cons.mpr ⟨x_o176, List.forall_mem_cons.mpr ⟨x_o177, List.forall_mem_cons.mpr ⟨x_o178, List.forall_mem_cons.mpr ⟨x_o179, List.forall_mem_cons.mpr ⟨x_o180, List.forall_mem_cons.mpr ⟨x_o181, List.forall_mem_cons.mpr ⟨x_o182, List.forall_mem_cons.mpr ⟨x_o183, List.forall_mem_cons.mpr ⟨x_o184, List.forall_mem_cons.mpr ⟨x_o185, List.forall_mem_cons.mpr ⟨x_o186, List.forall_mem_cons.mpr ⟨x_o187, List.forall_mem_cons.mpr ⟨x_o188, List.forall_mem_cons.mpr ⟨x_o189, List.forall_mem_cons.mpr ⟨x_o190, List.forall_mem_cons.mpr ⟨x_o191, fun _ h => absurd h List.not_mem_nil⟩⟩⟩⟩⟩⟩⟩⟩⟩⟩⟩⟩⟩⟩⟩⟩⟩⟩⟩⟩⟩⟩⟩⟩⟩⟩⟩⟩⟩⟩⟩⟩⟩⟩⟩⟩⟩⟩⟩⟩⟩⟩⟩⟩⟩⟩⟩⟩⟩⟩⟩⟩⟩⟩⟩⟩⟩⟩⟩⟩⟩⟩⟩⟩⟩⟩⟩⟩⟩⟩⟩⟩⟩⟩⟩⟩⟩⟩⟩⟩⟩⟩⟩⟩⟩⟩⟩⟩⟩⟩⟩⟩⟩⟩⟩⟩⟩⟩⟩⟩⟩⟩⟩⟩⟩⟩⟩⟩⟩⟩⟩⟩⟩⟩⟩⟩⟩⟩⟩⟩⟩⟩⟩⟩⟩⟩⟩⟩⟩⟩⟩⟩⟩⟩⟩⟩⟩⟩⟩⟩⟩⟩⟩⟩⟩⟩⟩⟩⟩⟩⟩⟩⟩⟩⟩⟩⟩⟩⟩⟩⟩⟩⟩⟩⟩⟩⟩⟩⟩⟩⟩⟩⟩⟩⟩⟩⟩⟩⟩⟩⟩⟩⟩⟩⟩⟩⟩⟩⟩⟩
set_option maxRecDepth 100000 in
theorem x_msm : ∀ M, M < 192 → M = 0 ∨ M = 29 ∨ M ∈ x_ms := by decide +kernel
theorem x_own : ∀ M, x_on (x_oi M) = (x_mt M).2.2.2.2 := by
  intro M
  by_cases h : M < 192
  · have q : ∀ M, M < 192 → x_on (x_oi M) = (x_mt M).2.2.2.2 := by decide +kernel
    exact q M h
  · have e1 : x_oi M = 1 := x_nth_ge x_ois M (by have : x_ois.length = 192 := by decide +kernel
                                                 omega)
    have e2 : x_mt M = x_m0 := x_nth_ge x_mts M (by have : x_mts.length = 192 := by decide +kernel
                                                    omega)
    rw [e1, e2]
    rfl
theorem x_o29o : (x_mt 29).2.2.2.2 = "StreamRefuter$Words" := by decide +kernel
theorem x_ok29 : ∀ r, r ∈ x_t29 → x_okr x_cts x_ct x_fk x_ty x_Ts x_Nw x_mt x_prog.2.2.2.1 x_prog.2.2.2.2.1 x_enu 29 r := by
  unfold x_t29
  refine List.forall_mem_cons.mpr ⟨x_okb_ok (x_own 29) _ (by decide +kernel), ?_⟩
  refine List.forall_mem_cons.mpr ⟨x_okb_ok (x_own 29) _ (by decide +kernel), ?_⟩
  refine List.forall_mem_cons.mpr ⟨x_okb_ok (x_own 29) _ (by decide +kernel), ?_⟩
  refine List.forall_mem_cons.mpr ⟨x_okb_ok (x_own 29) _ (by decide +kernel), ?_⟩
  refine List.forall_mem_cons.mpr ⟨x_okb_ok (x_own 29) _ (by decide +kernel), ?_⟩
  refine List.forall_mem_cons.mpr ⟨x_okb_ok (x_own 29) _ (by decide +kernel), ?_⟩
  refine List.forall_mem_cons.mpr ⟨x_okb_ok (x_own 29) _ (by decide +kernel), ?_⟩
  refine List.forall_mem_cons.mpr ⟨x_okb_ok (x_own 29) _ (by decide +kernel), ?_⟩
  refine List.forall_mem_cons.mpr ⟨x_okb_ok (x_own 29) _ (by decide +kernel), ?_⟩
  refine List.forall_mem_cons.mpr ⟨x_okb_ok (x_own 29) _ (by decide +kernel), ?_⟩
  refine List.forall_mem_cons.mpr ⟨⟨by decide +kernel, rfl, by decide, fun _ => ⟨rfl, by rw [x_o29o]; exact x_slen⟩, fun h => absurd h (by decide), fun h => absurd h (by decide), fun h => absurd h (by decide)⟩, ?_⟩
  refine List.forall_mem_cons.mpr ⟨x_okb_ok (x_own 29) _ (by decide +kernel), ?_⟩
  refine List.forall_mem_cons.mpr ⟨x_okb_ok (x_own 29) _ (by decide +kernel), ?_⟩
  refine List.forall_mem_cons.mpr ⟨x_okb_ok (x_own 29) _ (by decide +kernel), ?_⟩
  refine List.forall_mem_cons.mpr ⟨x_okb_ok (x_own 29) _ (by decide +kernel), ?_⟩
  refine List.forall_mem_cons.mpr ⟨x_okb_ok (x_own 29) _ (by decide +kernel), ?_⟩
  refine List.forall_mem_cons.mpr ⟨x_okb_ok (x_own 29) _ (by decide +kernel), ?_⟩
  refine List.forall_mem_cons.mpr ⟨x_okb_ok (x_own 29) _ (by decide +kernel), ?_⟩
  refine List.forall_mem_cons.mpr ⟨⟨by decide +kernel, rfl, by decide, fun _ => ⟨rfl, by rw [x_o29o]; exact x_slen⟩, fun h => absurd h (by decide), fun h => absurd h (by decide), fun h => absurd h (by decide)⟩, ?_⟩
  refine List.forall_mem_cons.mpr ⟨x_okb_ok (x_own 29) _ (by decide +kernel), ?_⟩
  refine List.forall_mem_cons.mpr ⟨x_okb_ok (x_own 29) _ (by decide +kernel), ?_⟩
  refine List.forall_mem_cons.mpr ⟨x_okb_ok (x_own 29) _ (by decide +kernel), ?_⟩
  refine List.forall_mem_cons.mpr ⟨x_okb_ok (x_own 29) _ (by decide +kernel), ?_⟩
  refine List.forall_mem_cons.mpr ⟨x_okb_ok (x_own 29) _ (by decide +kernel), ?_⟩
  refine List.forall_mem_cons.mpr ⟨x_okb_ok (x_own 29) _ (by decide +kernel), ?_⟩
  refine List.forall_mem_cons.mpr ⟨x_okb_ok (x_own 29) _ (by decide +kernel), ?_⟩
  refine List.forall_mem_cons.mpr ⟨x_okb_ok (x_own 29) _ (by decide +kernel), ?_⟩
  refine List.forall_mem_cons.mpr ⟨x_okb_ok (x_own 29) _ (by decide +kernel), ?_⟩
  refine List.forall_mem_cons.mpr ⟨⟨by decide +kernel, rfl, by decide, fun h => absurd h (by decide), fun _ => ⟨rfl, by rw [x_o29o]; exact x_schr⟩, fun h => absurd h (by decide), fun h => absurd h (by decide)⟩, ?_⟩
  refine List.forall_mem_cons.mpr ⟨x_okb_ok (x_own 29) _ (by decide +kernel), ?_⟩
  refine List.forall_mem_cons.mpr ⟨x_okb_ok (x_own 29) _ (by decide +kernel), ?_⟩
  refine List.forall_mem_cons.mpr ⟨x_okb_ok (x_own 29) _ (by decide +kernel), ?_⟩
  refine List.forall_mem_cons.mpr ⟨x_okb_ok (x_own 29) _ (by decide +kernel), ?_⟩
  refine List.forall_mem_cons.mpr ⟨x_okb_ok (x_own 29) _ (by decide +kernel), ?_⟩
  refine List.forall_mem_cons.mpr ⟨x_okb_ok (x_own 29) _ (by decide +kernel), ?_⟩
  refine List.forall_mem_cons.mpr ⟨x_okb_ok (x_own 29) _ (by decide +kernel), ?_⟩
  exact fun _ h => absurd h List.not_mem_nil
theorem x_hokM : ∀ M, ¬ M = 0 → ∀ r, r ∈ x_prog.1 M → x_okr x_cts x_ct x_fk x_ty x_Ts x_Nw x_mt x_prog.2.2.2.1 x_prog.2.2.2.2.1 x_enu M r := by
  intro M h0 r hr
  by_cases h : M < 192
  · rcases x_msm M h with e | e | e
    · exact absurd e h0
    · subst e; exact x_ok29 r hr
    · exact x_okb_ok (x_own M) r (List.all_eq_true.mp (x_oall M e) r hr)
  · rw [x_t_ge (by omega)] at hr
    cases hr
theorem x_d0 : x_prog.2.1 0 = 9 := rfl
theorem x_hokA : ∀ M, x_nh x_prog M → ∀ r, r ∈ x_prog.1 M → x_okr x_cts x_ct x_fk x_ty x_Ts x_Nw x_mt x_prog.2.2.2.1 x_prog.2.2.2.2.1 x_enu M r := by
  intro M hn
  refine x_hokM M (fun e => ?_)
  subst e
  have := hn.1
  rw [x_d0] at this
  omega
theorem x_mtA {Q : xM → Prop} (h0 : Q x_m0) (h : ∀ a ∈ x_mts, Q a) (M : Nat) : Q (x_mt M) := x_nth_all h0 x_mts h M
theorem x_hpl : ∀ M, plainName (x_mt M).1.cls = true := x_mtA (Q := fun a => plainName a.1.cls = true) (by decide +kernel) (by decide +kernel)
theorem x_hcls : ∀ M, (x_mt M).1.cls = (x_mt M).2.2.2.2 := x_mtA (Q := fun a => a.1.cls = a.2.2.2.2) (by decide +kernel) (by decide +kernel)
theorem x_hmx : ∀ M, (x_mt M).2.2.1 ≤ 14 := x_mtA (Q := fun a => a.2.2.1 ≤ 14) (by decide +kernel) (by decide +kernel)
def x_dtb (M : Nat) (r : xR) : Bool := match r.2.1 with
  | .invokevirtual _ => decide (r.2.2.2.2.2.1 < 2) || decide (3 ≤ x_prog.2.1 M)
  | _ => true
theorem x_hdt : ∀ M r, r ∈ x_prog.1 M → ∀ i, r.2.1 = .invokevirtual i → 2 ≤ r.2.2.2.2.2.1 → 3 ≤ x_prog.2.1 M := by
  intro M r hr i e hc
  by_cases h : M < 192
  · have q : ∀ M, M < 192 → (x_prog.1 M).all (x_dtb M) = true := by decide +kernel
    have := List.all_eq_true.mp (q M h) r hr
    unfold x_dtb at this
    rw [e] at this
    simp only [Bool.or_eq_true, decide_eq_true_eq] at this
    omega
  · rw [x_t_ge (by omega)] at hr
    cases hr
def x_wl : List Nat := [18, 57, 74, 92, 108, 123, 161]
def x_wr (M : Nat) : Bool := decide (M ∈ x_wl)
theorem x_han_no {M : Nat} : ∀ (l : List (Nat × Nat × Nat × Nat × Nat × Nat)), (∀ q ∈ l, ¬ q.1 = M) → ∀ pc k, x_han1 l M pc k = none
  | [], _, _, _ => rfl
  | (i, s, e, k, h, j) :: t, hl, pc, n => by
    have e1 : Nat.beq i M = false := by
      cases hb : Nat.beq i M with
      | false => rfl
      | true => exact absurd (Nat.eq_of_beq_eq_true hb) (hl _ List.mem_cons_self)
    unfold x_han1
    rw [e1]
    exact x_han_no t (fun q hq => hl q (List.mem_cons_of_mem _ hq)) pc n
theorem x_hn1 {M : Nat} (h : x_wr M = false) : ∀ pc k, x_prog.2.2.2.2.2.2 M pc k = none := by
  refine x_han_no x_hans (fun q hq e => ?_)
  have h2 : ¬ M ∈ x_wl := of_decide_eq_false h
  have q2 : ∀ q ∈ x_hans, q.1 ∈ x_wl := by decide
  exact h2 (e ▸ q2 q hq)
theorem x_wd8 : ∀ M, x_wr M = true → x_prog.2.1 M = 8 := by
  intro M h
  have h2 : M ∈ x_wl := of_decide_eq_true h
  have q : ∀ M ∈ x_wl, x_prog.2.1 M = 8 := by decide
  exact q M h2
theorem x_hhn : ∀ M, x_prog.2.1 M < 8 → ∀ pc k, x_prog.2.2.2.2.2.2 M pc k = none := by
  intro M h
  refine x_hn1 ?_
  cases hb : x_wr M with
  | false => rfl
  | true => have := x_wd8 M hb; omega
theorem x_han_k {M pc : Nat} (n : Nat) (h : ∀ s e i j k, (M, s, e, k, i, j) ∈ x_hans → ¬ k = n) : x_prog.2.2.2.2.2.2 M pc n = none := by
  have key : ∀ (l : List (Nat × Nat × Nat × Nat × Nat × Nat)), (∀ s e i j k, (M, s, e, k, i, j) ∈ l → ¬ k = n) → x_han1 l M pc n = none := by
    intro l
    induction l with
    | nil => intro _; rfl
    | cons q t ih =>
      intro hl
      obtain ⟨i, s, e, k, hp, j⟩ := q
      unfold x_han1
      cases hb : Nat.beq i M && (Nat.ble s pc && Nat.blt pc e) && Nat.beq k n with
      | false => exact ih (fun s e i j k hm => hl s e i j k (List.mem_cons_of_mem _ hm))
      | true =>
        rw [Bool.and_eq_true, Bool.and_eq_true] at hb
        have e1 := Nat.eq_of_beq_eq_true hb.1.1
        have e2 := Nat.eq_of_beq_eq_true hb.2
        subst e1
        exact absurd e2 (hl s e hp j k List.mem_cons_self)
  exact key x_hans h
/-- the words of a throw -/
theorem x_oa1 : ∀ q ∈ Bundle.ownAtoms0 "StreamRefuter" 88 (x_exn 1) x_ups, x_atoms "StreamRefuter" 88 (x_exn 1) x_ups q ∧ (goodWord q = true → q ∈ x_Ts) := by
  refine List.forall_mem_cons.mpr ⟨⟨Or.inl rfl, fun _ => x_r1 (List.mem_of_getElem? (i := 17) rfl) rfl⟩, ?_⟩
  refine List.forall_mem_cons.mpr ⟨⟨Or.inl rfl, fun _ => x_r3 (List.mem_of_getElem? (i := 92) rfl) rfl⟩, ?_⟩
  refine List.forall_mem_cons.mpr ⟨⟨Or.inl rfl, fun _ => x_r3 (List.mem_of_getElem? (i := 101) rfl) rfl⟩, ?_⟩
  refine List.forall_mem_cons.mpr ⟨⟨Or.inl rfl, fun _ => x_r3 (List.mem_of_getElem? (i := 104) rfl) rfl⟩, ?_⟩
  refine List.forall_mem_cons.mpr ⟨⟨Or.inl rfl, fun _ => x_r3 (List.mem_of_getElem? (i := 107) rfl) rfl⟩, ?_⟩
  refine List.forall_mem_cons.mpr ⟨⟨Or.inl rfl, fun _ => x_r3 (List.mem_of_getElem? (i := 109) rfl) rfl⟩, ?_⟩
  refine List.forall_mem_cons.mpr ⟨⟨Or.inl rfl, fun _ => x_r3 (List.mem_of_getElem? (i := 93) rfl) rfl⟩, ?_⟩
  refine List.forall_mem_cons.mpr ⟨⟨Or.inl rfl, fun _ => x_r3 (List.mem_of_getElem? (i := 94) rfl) rfl⟩, ?_⟩
  refine List.forall_mem_cons.mpr ⟨⟨Or.inl rfl, fun _ => x_r1 (List.mem_of_getElem? (i := 30) rfl) rfl⟩, ?_⟩
  refine List.forall_mem_cons.mpr ⟨⟨Or.inl rfl, fun _ => x_r1 (List.mem_of_getElem? (i := 31) rfl) rfl⟩, ?_⟩
  refine List.forall_mem_cons.mpr ⟨⟨Or.inl rfl, fun _ => x_r3 (List.mem_of_getElem? (i := 95) rfl) rfl⟩, ?_⟩
  refine List.forall_mem_cons.mpr ⟨⟨Or.inl rfl, fun _ => x_r3 (List.mem_of_getElem? (i := 100) rfl) rfl⟩, ?_⟩
  refine List.forall_mem_cons.mpr ⟨⟨Or.inl rfl, fun _ => x_r3 (List.mem_of_getElem? (i := 105) rfl) rfl⟩, ?_⟩
  refine List.forall_mem_cons.mpr ⟨⟨Or.inl rfl, fun _ => x_r3 (List.mem_of_getElem? (i := 121) rfl) rfl⟩, ?_⟩
  refine List.forall_mem_cons.mpr ⟨⟨Or.inl rfl, fun _ => x_r3 (List.mem_of_getElem? (i := 82) rfl) rfl⟩, ?_⟩
  refine List.forall_mem_cons.mpr ⟨⟨Or.inl rfl, fun _ => x_r3 (List.mem_of_getElem? (i := 122) rfl) rfl⟩, ?_⟩
  refine List.forall_mem_cons.mpr ⟨⟨Or.inl rfl, fun _ => x_r3 (List.mem_of_getElem? (i := 84) rfl) rfl⟩, ?_⟩
  refine List.forall_mem_cons.mpr ⟨⟨Or.inl rfl, fun _ => x_r3 (List.mem_of_getElem? (i := 123) rfl) rfl⟩, ?_⟩
  refine List.forall_mem_cons.mpr ⟨⟨Or.inl rfl, fun _ => x_r3 (List.mem_of_getElem? (i := 86) rfl) rfl⟩, ?_⟩
  refine List.forall_mem_cons.mpr ⟨⟨Or.inl rfl, fun _ => x_r3 (List.mem_of_getElem? (i := 96) rfl) rfl⟩, ?_⟩
  refine List.forall_mem_cons.mpr ⟨⟨Or.inr (Or.inr (Or.inl rfl)), fun h => absurd h (by decide)⟩, ?_⟩
  refine List.forall_mem_cons.mpr ⟨⟨Or.inl rfl, fun _ => x_r3 (List.mem_of_getElem? (i := 98) rfl) rfl⟩, ?_⟩
  refine List.forall_mem_cons.mpr ⟨⟨Or.inr (Or.inr (Or.inr (Or.inl rfl))), fun h => absurd h (by decide)⟩, ?_⟩
  refine List.forall_mem_cons.mpr ⟨⟨Or.inl rfl, fun _ => x_r3 (List.mem_of_getElem? (i := 88) rfl) rfl⟩, ?_⟩
  refine List.forall_mem_cons.mpr ⟨⟨Or.inl rfl, fun _ => x_r3 (List.mem_of_getElem? (i := 111) rfl) rfl⟩, ?_⟩
  refine List.forall_mem_cons.mpr ⟨⟨Or.inl rfl, fun _ => x_r3 (List.mem_of_getElem? (i := 112) rfl) rfl⟩, ?_⟩
  refine List.forall_mem_cons.mpr ⟨⟨Or.inl rfl, fun _ => x_r3 (List.mem_of_getElem? (i := 113) rfl) rfl⟩, ?_⟩
  refine List.forall_mem_cons.mpr ⟨⟨Or.inl rfl, fun _ => x_r3 (List.mem_of_getElem? (i := 114) rfl) rfl⟩, ?_⟩
  refine List.forall_mem_cons.mpr ⟨⟨Or.inr (Or.inr (Or.inr (Or.inr (Or.inr (Or.inr ⟨_, _, _, _, rfl, List.mem_of_getElem? (i := 29) rfl, List.mem_of_getElem? (i := 30) rfl⟩))))), fun h => absurd h (by decide)⟩, ?_⟩
  refine List.forall_mem_cons.mpr ⟨⟨Or.inl rfl, fun _ => x_r3 (List.mem_of_getElem? (i := 114) rfl) rfl⟩, ?_⟩
  refine List.forall_mem_cons.mpr ⟨⟨Or.inl rfl, fun _ => x_r3 (List.mem_of_getElem? (i := 115) rfl) rfl⟩, ?_⟩
  refine List.forall_mem_cons.mpr ⟨⟨Or.inl rfl, fun _ => x_r3 (List.mem_of_getElem? (i := 116) rfl) rfl⟩, ?_⟩
  refine List.forall_mem_cons.mpr ⟨⟨Or.inl rfl, fun _ => x_r3 (List.mem_of_getElem? (i := 117) rfl) rfl⟩, ?_⟩
  refine List.forall_mem_cons.mpr ⟨⟨Or.inr (Or.inr (Or.inr (Or.inr (Or.inr (Or.inr ⟨_, _, _, _, rfl, List.mem_of_getElem? (i := 34) rfl, List.mem_of_getElem? (i := 35) rfl⟩))))), fun h => absurd h (by decide)⟩, ?_⟩
  refine List.forall_mem_cons.mpr ⟨⟨Or.inl rfl, fun _ => x_r3 (List.mem_of_getElem? (i := 117) rfl) rfl⟩, ?_⟩
  refine List.forall_mem_cons.mpr ⟨⟨Or.inl rfl, fun _ => x_r3 (List.mem_of_getElem? (i := 118) rfl) rfl⟩, ?_⟩
  refine List.forall_mem_cons.mpr ⟨⟨Or.inl rfl, fun _ => x_r3 (List.mem_of_getElem? (i := 119) rfl) rfl⟩, ?_⟩
  refine List.forall_mem_cons.mpr ⟨⟨Or.inl rfl, fun _ => x_r3 (List.mem_of_getElem? (i := 93) rfl) rfl⟩, ?_⟩
  refine List.forall_mem_cons.mpr ⟨⟨Or.inr (Or.inr (Or.inr (Or.inr (Or.inr (Or.inr ⟨_, _, _, _, rfl, List.mem_of_getElem? (i := 6) rfl, List.mem_of_getElem? (i := 7) rfl⟩))))), fun h => absurd h (by decide)⟩, ?_⟩
  refine List.forall_mem_cons.mpr ⟨⟨Or.inl rfl, fun _ => x_r3 (List.mem_of_getElem? (i := 110) rfl) rfl⟩, ?_⟩
  refine List.forall_mem_cons.mpr ⟨⟨Or.inl rfl, fun _ => x_r3 (List.mem_of_getElem? (i := 71) rfl) rfl⟩, ?_⟩
  refine List.forall_mem_cons.mpr ⟨⟨Or.inr (Or.inl rfl), fun h => absurd h (by decide)⟩, ?_⟩
  refine List.forall_mem_cons.mpr ⟨⟨Or.inl rfl, fun _ => x_r3 (List.mem_of_getElem? (i := 79) rfl) rfl⟩, ?_⟩
  refine List.forall_mem_cons.mpr ⟨⟨Or.inl rfl, fun _ => x_r3 (List.mem_of_getElem? (i := 80) rfl) rfl⟩, ?_⟩
  refine List.forall_mem_cons.mpr ⟨⟨Or.inl rfl, fun _ => x_r3 (List.mem_of_getElem? (i := 81) rfl) rfl⟩, ?_⟩
  refine List.forall_mem_cons.mpr ⟨⟨Or.inl rfl, fun _ => x_r3 (List.mem_of_getElem? (i := 83) rfl) rfl⟩, ?_⟩
  refine List.forall_mem_cons.mpr ⟨⟨Or.inl rfl, fun _ => x_r3 (List.mem_of_getElem? (i := 85) rfl) rfl⟩, ?_⟩
  refine List.forall_mem_cons.mpr ⟨⟨Or.inl rfl, fun _ => x_r3 (List.mem_of_getElem? (i := 87) rfl) rfl⟩, ?_⟩
  refine List.forall_mem_cons.mpr ⟨⟨Or.inr (Or.inr (Or.inr (Or.inr (Or.inl rfl)))), fun h => absurd h (by decide)⟩, ?_⟩
  refine List.forall_mem_cons.mpr ⟨⟨Or.inr (Or.inr (Or.inr (Or.inr (Or.inr (Or.inl rfl))))), fun h => absurd h (by decide)⟩, ?_⟩
  refine List.forall_mem_cons.mpr ⟨⟨Or.inl rfl, fun _ => x_r3 (List.mem_of_getElem? (i := 91) rfl) rfl⟩, ?_⟩
  refine List.forall_mem_cons.mpr ⟨⟨Or.inl rfl, fun _ => x_r3 (List.mem_of_getElem? (i := 90) rfl) rfl⟩, ?_⟩
  refine List.forall_mem_cons.mpr ⟨⟨Or.inl rfl, fun _ => x_r3 (List.mem_of_getElem? (i := 89) rfl) rfl⟩, ?_⟩
  exact fun _ h => absurd h List.not_mem_nil
theorem x_oa2 : ∀ q ∈ Bundle.ownAtoms0 "StreamRefuter" 104 (x_exn 2) x_ups, x_atoms "StreamRefuter" 104 (x_exn 2) x_ups q ∧ (goodWord q = true → q ∈ x_Ts) := by
  refine List.forall_mem_cons.mpr ⟨⟨Or.inl rfl, fun _ => x_r1 (List.mem_of_getElem? (i := 17) rfl) rfl⟩, ?_⟩
  refine List.forall_mem_cons.mpr ⟨⟨Or.inl rfl, fun _ => x_r3 (List.mem_of_getElem? (i := 92) rfl) rfl⟩, ?_⟩
  refine List.forall_mem_cons.mpr ⟨⟨Or.inl rfl, fun _ => x_r3 (List.mem_of_getElem? (i := 101) rfl) rfl⟩, ?_⟩
  refine List.forall_mem_cons.mpr ⟨⟨Or.inl rfl, fun _ => x_r3 (List.mem_of_getElem? (i := 104) rfl) rfl⟩, ?_⟩
  refine List.forall_mem_cons.mpr ⟨⟨Or.inl rfl, fun _ => x_r3 (List.mem_of_getElem? (i := 107) rfl) rfl⟩, ?_⟩
  refine List.forall_mem_cons.mpr ⟨⟨Or.inl rfl, fun _ => x_r3 (List.mem_of_getElem? (i := 109) rfl) rfl⟩, ?_⟩
  refine List.forall_mem_cons.mpr ⟨⟨Or.inl rfl, fun _ => x_r3 (List.mem_of_getElem? (i := 93) rfl) rfl⟩, ?_⟩
  refine List.forall_mem_cons.mpr ⟨⟨Or.inl rfl, fun _ => x_r3 (List.mem_of_getElem? (i := 94) rfl) rfl⟩, ?_⟩
  refine List.forall_mem_cons.mpr ⟨⟨Or.inl rfl, fun _ => x_r1 (List.mem_of_getElem? (i := 30) rfl) rfl⟩, ?_⟩
  refine List.forall_mem_cons.mpr ⟨⟨Or.inl rfl, fun _ => x_r1 (List.mem_of_getElem? (i := 31) rfl) rfl⟩, ?_⟩
  refine List.forall_mem_cons.mpr ⟨⟨Or.inl rfl, fun _ => x_r3 (List.mem_of_getElem? (i := 95) rfl) rfl⟩, ?_⟩
  refine List.forall_mem_cons.mpr ⟨⟨Or.inl rfl, fun _ => x_r3 (List.mem_of_getElem? (i := 100) rfl) rfl⟩, ?_⟩
  refine List.forall_mem_cons.mpr ⟨⟨Or.inl rfl, fun _ => x_r3 (List.mem_of_getElem? (i := 105) rfl) rfl⟩, ?_⟩
  refine List.forall_mem_cons.mpr ⟨⟨Or.inl rfl, fun _ => x_r3 (List.mem_of_getElem? (i := 121) rfl) rfl⟩, ?_⟩
  refine List.forall_mem_cons.mpr ⟨⟨Or.inl rfl, fun _ => x_r3 (List.mem_of_getElem? (i := 82) rfl) rfl⟩, ?_⟩
  refine List.forall_mem_cons.mpr ⟨⟨Or.inl rfl, fun _ => x_r3 (List.mem_of_getElem? (i := 122) rfl) rfl⟩, ?_⟩
  refine List.forall_mem_cons.mpr ⟨⟨Or.inl rfl, fun _ => x_r3 (List.mem_of_getElem? (i := 84) rfl) rfl⟩, ?_⟩
  refine List.forall_mem_cons.mpr ⟨⟨Or.inl rfl, fun _ => x_r3 (List.mem_of_getElem? (i := 123) rfl) rfl⟩, ?_⟩
  refine List.forall_mem_cons.mpr ⟨⟨Or.inl rfl, fun _ => x_r3 (List.mem_of_getElem? (i := 86) rfl) rfl⟩, ?_⟩
  refine List.forall_mem_cons.mpr ⟨⟨Or.inl rfl, fun _ => x_r3 (List.mem_of_getElem? (i := 96) rfl) rfl⟩, ?_⟩
  refine List.forall_mem_cons.mpr ⟨⟨Or.inr (Or.inr (Or.inl rfl)), fun h => absurd h (by decide)⟩, ?_⟩
  refine List.forall_mem_cons.mpr ⟨⟨Or.inl rfl, fun _ => x_r3 (List.mem_of_getElem? (i := 98) rfl) rfl⟩, ?_⟩
  refine List.forall_mem_cons.mpr ⟨⟨Or.inr (Or.inr (Or.inr (Or.inl rfl))), fun h => absurd h (by decide)⟩, ?_⟩
  refine List.forall_mem_cons.mpr ⟨⟨Or.inl rfl, fun _ => x_r3 (List.mem_of_getElem? (i := 88) rfl) rfl⟩, ?_⟩
  refine List.forall_mem_cons.mpr ⟨⟨Or.inl rfl, fun _ => x_r3 (List.mem_of_getElem? (i := 159) rfl) rfl⟩, ?_⟩
  refine List.forall_mem_cons.mpr ⟨⟨Or.inl rfl, fun _ => x_r3 (List.mem_of_getElem? (i := 160) rfl) rfl⟩, ?_⟩
  refine List.forall_mem_cons.mpr ⟨⟨Or.inl rfl, fun _ => x_r3 (List.mem_of_getElem? (i := 161) rfl) rfl⟩, ?_⟩
  refine List.forall_mem_cons.mpr ⟨⟨Or.inl rfl, fun _ => x_r3 (List.mem_of_getElem? (i := 114) rfl) rfl⟩, ?_⟩
  refine List.forall_mem_cons.mpr ⟨⟨Or.inr (Or.inr (Or.inr (Or.inr (Or.inr (Or.inr ⟨_, _, _, _, rfl, List.mem_of_getElem? (i := 29) rfl, List.mem_of_getElem? (i := 30) rfl⟩))))), fun h => absurd h (by decide)⟩, ?_⟩
  refine List.forall_mem_cons.mpr ⟨⟨Or.inl rfl, fun _ => x_r3 (List.mem_of_getElem? (i := 114) rfl) rfl⟩, ?_⟩
  refine List.forall_mem_cons.mpr ⟨⟨Or.inl rfl, fun _ => x_r3 (List.mem_of_getElem? (i := 115) rfl) rfl⟩, ?_⟩
  refine List.forall_mem_cons.mpr ⟨⟨Or.inl rfl, fun _ => x_r3 (List.mem_of_getElem? (i := 116) rfl) rfl⟩, ?_⟩
  refine List.forall_mem_cons.mpr ⟨⟨Or.inl rfl, fun _ => x_r3 (List.mem_of_getElem? (i := 117) rfl) rfl⟩, ?_⟩
  refine List.forall_mem_cons.mpr ⟨⟨Or.inr (Or.inr (Or.inr (Or.inr (Or.inr (Or.inr ⟨_, _, _, _, rfl, List.mem_of_getElem? (i := 34) rfl, List.mem_of_getElem? (i := 35) rfl⟩))))), fun h => absurd h (by decide)⟩, ?_⟩
  refine List.forall_mem_cons.mpr ⟨⟨Or.inl rfl, fun _ => x_r3 (List.mem_of_getElem? (i := 117) rfl) rfl⟩, ?_⟩
  refine List.forall_mem_cons.mpr ⟨⟨Or.inl rfl, fun _ => x_r3 (List.mem_of_getElem? (i := 118) rfl) rfl⟩, ?_⟩
  refine List.forall_mem_cons.mpr ⟨⟨Or.inl rfl, fun _ => x_r3 (List.mem_of_getElem? (i := 119) rfl) rfl⟩, ?_⟩
  refine List.forall_mem_cons.mpr ⟨⟨Or.inl rfl, fun _ => x_r3 (List.mem_of_getElem? (i := 93) rfl) rfl⟩, ?_⟩
  refine List.forall_mem_cons.mpr ⟨⟨Or.inr (Or.inr (Or.inr (Or.inr (Or.inr (Or.inr ⟨_, _, _, _, rfl, List.mem_of_getElem? (i := 6) rfl, List.mem_of_getElem? (i := 7) rfl⟩))))), fun h => absurd h (by decide)⟩, ?_⟩
  refine List.forall_mem_cons.mpr ⟨⟨Or.inl rfl, fun _ => x_r3 (List.mem_of_getElem? (i := 158) rfl) rfl⟩, ?_⟩
  refine List.forall_mem_cons.mpr ⟨⟨Or.inl rfl, fun _ => x_r3 (List.mem_of_getElem? (i := 150) rfl) rfl⟩, ?_⟩
  refine List.forall_mem_cons.mpr ⟨⟨Or.inr (Or.inl rfl), fun h => absurd h (by decide)⟩, ?_⟩
  refine List.forall_mem_cons.mpr ⟨⟨Or.inl rfl, fun _ => x_r3 (List.mem_of_getElem? (i := 152) rfl) rfl⟩, ?_⟩
  refine List.forall_mem_cons.mpr ⟨⟨Or.inl rfl, fun _ => x_r3 (List.mem_of_getElem? (i := 103) rfl) rfl⟩, ?_⟩
  refine List.forall_mem_cons.mpr ⟨⟨Or.inl rfl, fun _ => x_r3 (List.mem_of_getElem? (i := 153) rfl) rfl⟩, ?_⟩
  refine List.forall_mem_cons.mpr ⟨⟨Or.inl rfl, fun _ => x_r3 (List.mem_of_getElem? (i := 154) rfl) rfl⟩, ?_⟩
  refine List.forall_mem_cons.mpr ⟨⟨Or.inl rfl, fun _ => x_r3 (List.mem_of_getElem? (i := 155) rfl) rfl⟩, ?_⟩
  refine List.forall_mem_cons.mpr ⟨⟨Or.inl rfl, fun _ => x_r3 (List.mem_of_getElem? (i := 156) rfl) rfl⟩, ?_⟩
  refine List.forall_mem_cons.mpr ⟨⟨Or.inr (Or.inr (Or.inr (Or.inr (Or.inl rfl)))), fun h => absurd h (by decide)⟩, ?_⟩
  refine List.forall_mem_cons.mpr ⟨⟨Or.inr (Or.inr (Or.inr (Or.inr (Or.inr (Or.inl rfl))))), fun h => absurd h (by decide)⟩, ?_⟩
  refine List.forall_mem_cons.mpr ⟨⟨Or.inl rfl, fun _ => x_r3 (List.mem_of_getElem? (i := 91) rfl) rfl⟩, ?_⟩
  refine List.forall_mem_cons.mpr ⟨⟨Or.inl rfl, fun _ => x_r3 (List.mem_of_getElem? (i := 90) rfl) rfl⟩, ?_⟩
  refine List.forall_mem_cons.mpr ⟨⟨Or.inl rfl, fun _ => x_r3 (List.mem_of_getElem? (i := 157) rfl) rfl⟩, ?_⟩
  exact fun _ h => absurd h List.not_mem_nil
theorem x_okn1 {bytes : ByteArray} {pc : Nat} (h1 : decode bytes (pc + 3) = .ok (.dup, 1)) (h2 : decode bytes (pc + 3 + 1) = .ok (.invokespecial 88, 3)) (h3 : decode bytes (pc + 3 + 1 + 3) = .ok (.athrow, 1)) : x_okn x_Ts "StreamRefuter" bytes pc 86 1 :=
  ⟨Or.inl rfl, 88, x_oa1, x_r3 (List.mem_of_getElem? (i := 70) rfl) rfl, x_r3 (List.mem_of_getElem? (i := 71) rfl) rfl, x_r1 (List.mem_of_getElem? (i := 20) rfl) rfl, h1, h2, h3⟩
theorem x_okn2 {bytes : ByteArray} {pc : Nat} (h1 : decode bytes (pc + 3) = .ok (.dup, 1)) (h2 : decode bytes (pc + 3 + 1) = .ok (.invokespecial 104, 3)) (h3 : decode bytes (pc + 3 + 1 + 3) = .ok (.athrow, 1)) : x_okn x_Ts "StreamRefuter" bytes pc 102 2 :=
  ⟨Or.inr rfl, 104, x_oa2, x_r3 (List.mem_of_getElem? (i := 149) rfl) rfl, x_r3 (List.mem_of_getElem? (i := 150) rfl) rfl, x_r1 (List.mem_of_getElem? (i := 21) rfl) rfl, h1, h2, h3⟩
def x_onb (M : Nat) (r : xR) : Bool := match r.2.1 with
  | .new i => decide (r.2.2.2.2.2.1 = 0) || (decide (4 ≤ x_prog.2.1 M) && decide ((x_mt M).2.2.2.2 = "StreamRefuter") && decide (decode (x_mt M).2.1 (r.1 + 3) = .ok (.dup, 1)) && decide (decode (x_mt M).2.1 (r.1 + 3 + 1 + 3) = .ok (.athrow, 1)) &&
    ((decide (i = 86) && decide (r.2.2.2.1 = 1) && decide (decode (x_mt M).2.1 (r.1 + 3 + 1) = .ok (.invokespecial 88, 3))) || (decide (i = 102) && decide (r.2.2.2.1 = 2) && decide (decode (x_mt M).2.1 (r.1 + 3 + 1) = .ok (.invokespecial 104, 3)))))
  | _ => true
theorem x_hokn : ∀ M, x_nh x_prog M → ∀ r, r ∈ x_prog.1 M → ∀ i, r.2.1 = .new i → ¬ r.2.2.2.2.2.1 = 0 → 4 ≤ x_prog.2.1 M ∧ x_okn x_Ts (x_mt M).2.2.2.2 (x_mt M).2.1 r.1 i r.2.2.2.1 := by
  intro M _ r hr i e hc
  by_cases h : M < 192
  · have q : ∀ M, M < 192 → (x_prog.1 M).all (x_onb M) = true := by decide +kernel
    have := List.all_eq_true.mp (q M h) r hr
    unfold x_onb at this
    rw [e] at this
    simp only [Bool.or_eq_true, Bool.and_eq_true, decide_eq_true_eq] at this
    rcases this with h1 | ⟨⟨⟨⟨h1, h2⟩, h3⟩, h4⟩, h5⟩
    · exact absurd h1 hc
    · refine ⟨h1, ?_⟩
      rw [h2]
      rcases h5 with ⟨⟨e1, e2⟩, h6⟩ | ⟨⟨e1, e2⟩, h6⟩
      · rw [e1, e2]; exact x_okn1 h3 h6 h4
      · rw [e1, e2]; exact x_okn2 h3 h6 h4
  · rw [x_t_ge (by omega)] at hr
    cases hr
def x_hs (M : Nat) : List (Nat × Nat × Nat × Nat) := if M = 57 then [(0, 9, 12, 19), (0, 9, 15, 13)] else if M = 18 ∨ M = 74 then [(0, 8, 11, 13)] else [(0, 8, 11, 19)]
theorem x_c13 : Cond.classLink "StreamRefuterLaw" 13 x_iae ∈ x_Ts := x_r2 (List.mem_of_getElem? (i := 172) rfl) rfl
theorem x_c19 : Cond.classLink "StreamRefuterLaw" 19 x_ise ∈ x_Ts := x_r3 (List.mem_of_getElem? (i := 144) rfl) rfl
theorem x_oc18 : x_okc x_Ts x_mt (x_mt 18).2.2.2.2 7 19 1 := ⟨x_k19, x_r2 (List.mem_of_getElem? (i := 173) rfl) rfl, x_r2 (List.mem_of_getElem? (i := 174) rfl) rfl, x_r1 (List.mem_of_getElem? (i := 1) rfl) rfl, x_r2 (List.mem_of_getElem? (i := 175) rfl) rfl, ⟨by decide, by decide⟩, by decide +kernel⟩
theorem x_hh18 : ∀ k h, x_prog.2.2.2.2.2.2 18 3 k = some h → ∃ (hp : Nat) (jf : Fin 4), x_hok x_Ts (x_mt 18).2.2.2.2 k 3 (x_hs 18) hp ∧ (jf : Nat) = h.2 ∧ h.2 < (x_mt 18).2.2.1 ∧ decode (x_mt 18).2.1 hp = .ok (.astore_n jf, 1) ∧ h.1 = hp + 1 := by
  intro k h e
  by_cases h1 : k = 1
  · subst h1
    cases e
    exact ⟨11, 2, ⟨⟨by decide, by decide⟩, by decide, x_iae, x_c13, Or.inl ⟨rfl, rfl⟩⟩, rfl, by decide, by decide +kernel, rfl⟩
  · have e2 : x_prog.2.2.2.2.2.2 18 3 k = none := x_han_k k (fun s e i j k' q => by
      have : ∀ q ∈ x_hans, q.1 = 18 → q.2.2.2.1 = 1 := by decide
      exact fun z => h1 (z.symm.trans (this _ q rfl)))
    rw [e2] at e
    cases e
theorem x_oc57 : x_okc x_Ts x_mt (x_mt 57).2.2.2.2 15 58 2 := ⟨x_k58, x_r3 (List.mem_of_getElem? (i := 145) rfl) rfl, x_r3 (List.mem_of_getElem? (i := 146) rfl) rfl, x_r1 (List.mem_of_getElem? (i := 1) rfl) rfl, x_r3 (List.mem_of_getElem? (i := 147) rfl) rfl, ⟨by decide, by decide⟩, by decide +kernel⟩
theorem x_hh57 : ∀ k h, x_prog.2.2.2.2.2.2 57 4 k = some h → ∃ (hp : Nat) (jf : Fin 4), x_hok x_Ts (x_mt 57).2.2.2.2 k 4 (x_hs 57) hp ∧ (jf : Nat) = h.2 ∧ h.2 < (x_mt 57).2.2.1 ∧ decode (x_mt 57).2.1 hp = .ok (.astore_n jf, 1) ∧ h.1 = hp + 1 := by
  intro k h e
  by_cases h2 : k = 2
  · subst h2
    cases e
    exact ⟨12, 3, ⟨⟨by decide, by decide⟩, by decide, x_ise, x_c19, Or.inl ⟨rfl, rfl⟩⟩, rfl, by decide, by decide +kernel, rfl⟩
  · by_cases h1 : k = 1
    · subst h1
      cases e
      exact ⟨15, 3, ⟨⟨by decide, by decide⟩, by decide, x_ise, x_c19, Or.inr ⟨rfl, rfl, ⟨by decide, by decide⟩, by decide, x_iae, x_c13, Or.inl ⟨rfl, rfl⟩⟩⟩, rfl, by decide, by decide +kernel, rfl⟩
    · have e2 : x_prog.2.2.2.2.2.2 57 4 k = none := x_han_k k (fun s e i j k' q => by
        have : ∀ q ∈ x_hans, q.1 = 57 → q.2.2.2.1 = 1 ∨ q.2.2.2.1 = 2 := by decide
        rcases this _ q rfl with y | y
        · exact fun z => h1 (z.symm.trans y)
        · exact fun z => h2 (z.symm.trans y))
      rw [e2] at e
      cases e
theorem x_oc74 : x_okc x_Ts x_mt (x_mt 74).2.2.2.2 21 75 1 := ⟨x_k75, x_r3 (List.mem_of_getElem? (i := 224) rfl) rfl, x_r3 (List.mem_of_getElem? (i := 225) rfl) rfl, x_r1 (List.mem_of_getElem? (i := 1) rfl) rfl, x_r3 (List.mem_of_getElem? (i := 226) rfl) rfl, ⟨by decide, by decide⟩, by decide +kernel⟩
theorem x_hh74 : ∀ k h, x_prog.2.2.2.2.2.2 74 3 k = some h → ∃ (hp : Nat) (jf : Fin 4), x_hok x_Ts (x_mt 74).2.2.2.2 k 3 (x_hs 74) hp ∧ (jf : Nat) = h.2 ∧ h.2 < (x_mt 74).2.2.1 ∧ decode (x_mt 74).2.1 hp = .ok (.astore_n jf, 1) ∧ h.1 = hp + 1 := by
  intro k h e
  by_cases h1 : k = 1
  · subst h1
    cases e
    exact ⟨11, 2, ⟨⟨by decide, by decide⟩, by decide, x_iae, x_c13, Or.inl ⟨rfl, rfl⟩⟩, rfl, by decide, by decide +kernel, rfl⟩
  · have e2 : x_prog.2.2.2.2.2.2 74 3 k = none := x_han_k k (fun s e i j k' q => by
      have : ∀ q ∈ x_hans, q.1 = 74 → q.2.2.2.1 = 1 := by decide
      exact fun z => h1 (z.symm.trans (this _ q rfl)))
    rw [e2] at e
    cases e
theorem x_oc92 : x_okc x_Ts x_mt (x_mt 92).2.2.2.2 24 93 1 := ⟨x_k93, x_r4 (List.mem_of_getElem? (i := 12) rfl) rfl, x_r4 (List.mem_of_getElem? (i := 13) rfl) rfl, x_r1 (List.mem_of_getElem? (i := 1) rfl) rfl, x_r4 (List.mem_of_getElem? (i := 14) rfl) rfl, ⟨by decide, by decide⟩, by decide +kernel⟩
theorem x_hh92 : ∀ k h, x_prog.2.2.2.2.2.2 92 3 k = some h → ∃ (hp : Nat) (jf : Fin 4), x_hok x_Ts (x_mt 92).2.2.2.2 k 3 (x_hs 92) hp ∧ (jf : Nat) = h.2 ∧ h.2 < (x_mt 92).2.2.1 ∧ decode (x_mt 92).2.1 hp = .ok (.astore_n jf, 1) ∧ h.1 = hp + 1 := by
  intro k h e
  by_cases h1 : k = 2
  · subst h1
    cases e
    exact ⟨11, 2, ⟨⟨by decide, by decide⟩, by decide, x_ise, x_c19, Or.inl ⟨rfl, rfl⟩⟩, rfl, by decide, by decide +kernel, rfl⟩
  · have e2 : x_prog.2.2.2.2.2.2 92 3 k = none := x_han_k k (fun s e i j k' q => by
      have : ∀ q ∈ x_hans, q.1 = 92 → q.2.2.2.1 = 2 := by decide
      exact fun z => h1 (z.symm.trans (this _ q rfl)))
    rw [e2] at e
    cases e
theorem x_oc108 : x_okc x_Ts x_mt (x_mt 108).2.2.2.2 27 109 1 := ⟨x_k109, x_r4 (List.mem_of_getElem? (i := 41) rfl) rfl, x_r4 (List.mem_of_getElem? (i := 42) rfl) rfl, x_r1 (List.mem_of_getElem? (i := 1) rfl) rfl, x_r4 (List.mem_of_getElem? (i := 43) rfl) rfl, ⟨by decide, by decide⟩, by decide +kernel⟩
theorem x_hh108 : ∀ k h, x_prog.2.2.2.2.2.2 108 3 k = some h → ∃ (hp : Nat) (jf : Fin 4), x_hok x_Ts (x_mt 108).2.2.2.2 k 3 (x_hs 108) hp ∧ (jf : Nat) = h.2 ∧ h.2 < (x_mt 108).2.2.1 ∧ decode (x_mt 108).2.1 hp = .ok (.astore_n jf, 1) ∧ h.1 = hp + 1 := by
  intro k h e
  by_cases h1 : k = 2
  · subst h1
    cases e
    exact ⟨11, 2, ⟨⟨by decide, by decide⟩, by decide, x_ise, x_c19, Or.inl ⟨rfl, rfl⟩⟩, rfl, by decide, by decide +kernel, rfl⟩
  · have e2 : x_prog.2.2.2.2.2.2 108 3 k = none := x_han_k k (fun s e i j k' q => by
      have : ∀ q ∈ x_hans, q.1 = 108 → q.2.2.2.1 = 2 := by decide
      exact fun z => h1 (z.symm.trans (this _ q rfl)))
    rw [e2] at e
    cases e
theorem x_oc123 : x_okc x_Ts x_mt (x_mt 123).2.2.2.2 30 124 1 := ⟨x_k124, x_r4 (List.mem_of_getElem? (i := 69) rfl) rfl, x_r4 (List.mem_of_getElem? (i := 70) rfl) rfl, x_r1 (List.mem_of_getElem? (i := 1) rfl) rfl, x_r4 (List.mem_of_getElem? (i := 71) rfl) rfl, ⟨by decide, by decide⟩, by decide +kernel⟩
theorem x_hh123 : ∀ k h, x_prog.2.2.2.2.2.2 123 3 k = some h → ∃ (hp : Nat) (jf : Fin 4), x_hok x_Ts (x_mt 123).2.2.2.2 k 3 (x_hs 123) hp ∧ (jf : Nat) = h.2 ∧ h.2 < (x_mt 123).2.2.1 ∧ decode (x_mt 123).2.1 hp = .ok (.astore_n jf, 1) ∧ h.1 = hp + 1 := by
  intro k h e
  by_cases h1 : k = 2
  · subst h1
    cases e
    exact ⟨11, 2, ⟨⟨by decide, by decide⟩, by decide, x_ise, x_c19, Or.inl ⟨rfl, rfl⟩⟩, rfl, by decide, by decide +kernel, rfl⟩
  · have e2 : x_prog.2.2.2.2.2.2 123 3 k = none := x_han_k k (fun s e i j k' q => by
      have : ∀ q ∈ x_hans, q.1 = 123 → q.2.2.2.1 = 2 := by decide
      exact fun z => h1 (z.symm.trans (this _ q rfl)))
    rw [e2] at e
    cases e
theorem x_oc161 : x_okc x_Ts x_mt (x_mt 161).2.2.2.2 33 162 1 := ⟨x_k162, x_r4 (List.mem_of_getElem? (i := 132) rfl) rfl, x_r4 (List.mem_of_getElem? (i := 133) rfl) rfl, x_r1 (List.mem_of_getElem? (i := 1) rfl) rfl, x_r4 (List.mem_of_getElem? (i := 134) rfl) rfl, ⟨by decide, by decide⟩, by decide +kernel⟩
theorem x_hh161 : ∀ k h, x_prog.2.2.2.2.2.2 161 3 k = some h → ∃ (hp : Nat) (jf : Fin 4), x_hok x_Ts (x_mt 161).2.2.2.2 k 3 (x_hs 161) hp ∧ (jf : Nat) = h.2 ∧ h.2 < (x_mt 161).2.2.1 ∧ decode (x_mt 161).2.1 hp = .ok (.astore_n jf, 1) ∧ h.1 = hp + 1 := by
  intro k h e
  by_cases h1 : k = 2
  · subst h1
    cases e
    exact ⟨11, 2, ⟨⟨by decide, by decide⟩, by decide, x_ise, x_c19, Or.inl ⟨rfl, rfl⟩⟩, rfl, by decide, by decide +kernel, rfl⟩
  · have e2 : x_prog.2.2.2.2.2.2 161 3 k = none := x_han_k k (fun s e i j k' q => by
      have : ∀ q ∈ x_hans, q.1 = 161 → q.2.2.2.1 = 2 := by decide
      exact fun z => h1 (z.symm.trans (this _ q rfl)))
    rw [e2] at e
    cases e
theorem x_ow18 : ∀ r, r ∈ x_t18 → x_okw x_Ts x_cts x_ct x_mt x_prog 18 (x_hs 18) r := by
  unfold x_t18
  refine List.forall_mem_cons.mpr ⟨Or.inl rfl, ?_⟩
  refine List.forall_mem_cons.mpr ⟨Or.inl rfl, ?_⟩
  refine List.forall_mem_cons.mpr ⟨Or.inl rfl, ?_⟩
  refine List.forall_mem_cons.mpr ⟨Or.inr ⟨7, rfl, rfl, x_oc18, rfl, by decide +kernel, by decide +kernel, x_hh18⟩, ?_⟩
  refine List.forall_mem_cons.mpr ⟨Or.inl rfl, ?_⟩
  refine List.forall_mem_cons.mpr ⟨Or.inl rfl, ?_⟩
  refine List.forall_mem_cons.mpr ⟨Or.inl rfl, ?_⟩
  refine List.forall_mem_cons.mpr ⟨Or.inl rfl, ?_⟩
  refine List.forall_mem_cons.mpr ⟨Or.inl rfl, ?_⟩
  refine List.forall_mem_cons.mpr ⟨Or.inl rfl, ?_⟩
  refine List.forall_mem_cons.mpr ⟨Or.inl rfl, ?_⟩
  refine List.forall_mem_cons.mpr ⟨Or.inl rfl, ?_⟩
  exact fun _ h => absurd h List.not_mem_nil
theorem x_ol18 : x_okl x_Ts x_mt (x_mt 0).2.2.2.2 x_hs 51 18 2 := ⟨x_r2 (List.mem_of_getElem? (i := 171) rfl) rfl, x_r2 (List.mem_of_getElem? (i := 169) rfl) rfl, x_r2 (List.mem_of_getElem? (i := 170) rfl) rfl, x_r1 (List.mem_of_getElem? (i := 0) rfl) rfl, by decide, by decide, by decide +kernel⟩
theorem x_ow57 : ∀ r, r ∈ x_t57 → x_okw x_Ts x_cts x_ct x_mt x_prog 57 (x_hs 57) r := by
  unfold x_t57
  refine List.forall_mem_cons.mpr ⟨Or.inl rfl, ?_⟩
  refine List.forall_mem_cons.mpr ⟨Or.inl rfl, ?_⟩
  refine List.forall_mem_cons.mpr ⟨Or.inl rfl, ?_⟩
  refine List.forall_mem_cons.mpr ⟨Or.inl rfl, ?_⟩
  refine List.forall_mem_cons.mpr ⟨Or.inr ⟨15, rfl, rfl, x_oc57, rfl, by decide +kernel, by decide +kernel, x_hh57⟩, ?_⟩
  refine List.forall_mem_cons.mpr ⟨Or.inl rfl, ?_⟩
  refine List.forall_mem_cons.mpr ⟨Or.inl rfl, ?_⟩
  refine List.forall_mem_cons.mpr ⟨Or.inl rfl, ?_⟩
  refine List.forall_mem_cons.mpr ⟨Or.inl rfl, ?_⟩
  refine List.forall_mem_cons.mpr ⟨Or.inl rfl, ?_⟩
  refine List.forall_mem_cons.mpr ⟨Or.inl rfl, ?_⟩
  refine List.forall_mem_cons.mpr ⟨Or.inl rfl, ?_⟩
  refine List.forall_mem_cons.mpr ⟨Or.inl rfl, ?_⟩
  refine List.forall_mem_cons.mpr ⟨Or.inl rfl, ?_⟩
  refine List.forall_mem_cons.mpr ⟨Or.inl rfl, ?_⟩
  refine List.forall_mem_cons.mpr ⟨Or.inl rfl, ?_⟩
  exact fun _ h => absurd h List.not_mem_nil
theorem x_ol57 : x_okl x_Ts x_mt (x_mt 0).2.2.2.2 x_hs 60 57 3 := ⟨x_r3 (List.mem_of_getElem? (i := 143) rfl) rfl, x_r3 (List.mem_of_getElem? (i := 141) rfl) rfl, x_r3 (List.mem_of_getElem? (i := 142) rfl) rfl, x_r1 (List.mem_of_getElem? (i := 0) rfl) rfl, by decide, by decide, by decide +kernel⟩
theorem x_ow74 : ∀ r, r ∈ x_t74 → x_okw x_Ts x_cts x_ct x_mt x_prog 74 (x_hs 74) r := by
  unfold x_t74
  refine List.forall_mem_cons.mpr ⟨Or.inl rfl, ?_⟩
  refine List.forall_mem_cons.mpr ⟨Or.inl rfl, ?_⟩
  refine List.forall_mem_cons.mpr ⟨Or.inl rfl, ?_⟩
  refine List.forall_mem_cons.mpr ⟨Or.inr ⟨21, rfl, rfl, x_oc74, rfl, by decide +kernel, by decide +kernel, x_hh74⟩, ?_⟩
  refine List.forall_mem_cons.mpr ⟨Or.inl rfl, ?_⟩
  refine List.forall_mem_cons.mpr ⟨Or.inl rfl, ?_⟩
  refine List.forall_mem_cons.mpr ⟨Or.inl rfl, ?_⟩
  refine List.forall_mem_cons.mpr ⟨Or.inl rfl, ?_⟩
  refine List.forall_mem_cons.mpr ⟨Or.inl rfl, ?_⟩
  refine List.forall_mem_cons.mpr ⟨Or.inl rfl, ?_⟩
  refine List.forall_mem_cons.mpr ⟨Or.inl rfl, ?_⟩
  refine List.forall_mem_cons.mpr ⟨Or.inl rfl, ?_⟩
  exact fun _ h => absurd h List.not_mem_nil
theorem x_ol74 : x_okl x_Ts x_mt (x_mt 0).2.2.2.2 x_hs 64 74 2 := ⟨x_r3 (List.mem_of_getElem? (i := 223) rfl) rfl, x_r3 (List.mem_of_getElem? (i := 221) rfl) rfl, x_r3 (List.mem_of_getElem? (i := 222) rfl) rfl, x_r1 (List.mem_of_getElem? (i := 0) rfl) rfl, by decide, by decide, by decide +kernel⟩
theorem x_ow92 : ∀ r, r ∈ x_t92 → x_okw x_Ts x_cts x_ct x_mt x_prog 92 (x_hs 92) r := by
  unfold x_t92
  refine List.forall_mem_cons.mpr ⟨Or.inl rfl, ?_⟩
  refine List.forall_mem_cons.mpr ⟨Or.inl rfl, ?_⟩
  refine List.forall_mem_cons.mpr ⟨Or.inl rfl, ?_⟩
  refine List.forall_mem_cons.mpr ⟨Or.inr ⟨24, rfl, rfl, x_oc92, rfl, by decide +kernel, by decide +kernel, x_hh92⟩, ?_⟩
  refine List.forall_mem_cons.mpr ⟨Or.inl rfl, ?_⟩
  refine List.forall_mem_cons.mpr ⟨Or.inl rfl, ?_⟩
  refine List.forall_mem_cons.mpr ⟨Or.inl rfl, ?_⟩
  refine List.forall_mem_cons.mpr ⟨Or.inl rfl, ?_⟩
  refine List.forall_mem_cons.mpr ⟨Or.inl rfl, ?_⟩
  refine List.forall_mem_cons.mpr ⟨Or.inl rfl, ?_⟩
  refine List.forall_mem_cons.mpr ⟨Or.inl rfl, ?_⟩
  refine List.forall_mem_cons.mpr ⟨Or.inl rfl, ?_⟩
  exact fun _ h => absurd h List.not_mem_nil
theorem x_ol92 : x_okl x_Ts x_mt (x_mt 0).2.2.2.2 x_hs 80 92 2 := ⟨x_r4 (List.mem_of_getElem? (i := 11) rfl) rfl, x_r4 (List.mem_of_getElem? (i := 9) rfl) rfl, x_r4 (List.mem_of_getElem? (i := 10) rfl) rfl, x_r1 (List.mem_of_getElem? (i := 0) rfl) rfl, by decide, by decide, by decide +kernel⟩
theorem x_ow108 : ∀ r, r ∈ x_t108 → x_okw x_Ts x_cts x_ct x_mt x_prog 108 (x_hs 108) r := by
  unfold x_t108
  refine List.forall_mem_cons.mpr ⟨Or.inl rfl, ?_⟩
  refine List.forall_mem_cons.mpr ⟨Or.inl rfl, ?_⟩
  refine List.forall_mem_cons.mpr ⟨Or.inl rfl, ?_⟩
  refine List.forall_mem_cons.mpr ⟨Or.inr ⟨27, rfl, rfl, x_oc108, rfl, by decide +kernel, by decide +kernel, x_hh108⟩, ?_⟩
  refine List.forall_mem_cons.mpr ⟨Or.inl rfl, ?_⟩
  refine List.forall_mem_cons.mpr ⟨Or.inl rfl, ?_⟩
  refine List.forall_mem_cons.mpr ⟨Or.inl rfl, ?_⟩
  refine List.forall_mem_cons.mpr ⟨Or.inl rfl, ?_⟩
  refine List.forall_mem_cons.mpr ⟨Or.inl rfl, ?_⟩
  refine List.forall_mem_cons.mpr ⟨Or.inl rfl, ?_⟩
  refine List.forall_mem_cons.mpr ⟨Or.inl rfl, ?_⟩
  refine List.forall_mem_cons.mpr ⟨Or.inl rfl, ?_⟩
  exact fun _ h => absurd h List.not_mem_nil
theorem x_ol108 : x_okl x_Ts x_mt (x_mt 0).2.2.2.2 x_hs 83 108 2 := ⟨x_r4 (List.mem_of_getElem? (i := 40) rfl) rfl, x_r4 (List.mem_of_getElem? (i := 38) rfl) rfl, x_r4 (List.mem_of_getElem? (i := 39) rfl) rfl, x_r1 (List.mem_of_getElem? (i := 0) rfl) rfl, by decide, by decide, by decide +kernel⟩
theorem x_ow123 : ∀ r, r ∈ x_t123 → x_okw x_Ts x_cts x_ct x_mt x_prog 123 (x_hs 123) r := by
  unfold x_t123
  refine List.forall_mem_cons.mpr ⟨Or.inl rfl, ?_⟩
  refine List.forall_mem_cons.mpr ⟨Or.inl rfl, ?_⟩
  refine List.forall_mem_cons.mpr ⟨Or.inl rfl, ?_⟩
  refine List.forall_mem_cons.mpr ⟨Or.inr ⟨30, rfl, rfl, x_oc123, rfl, by decide +kernel, by decide +kernel, x_hh123⟩, ?_⟩
  refine List.forall_mem_cons.mpr ⟨Or.inl rfl, ?_⟩
  refine List.forall_mem_cons.mpr ⟨Or.inl rfl, ?_⟩
  refine List.forall_mem_cons.mpr ⟨Or.inl rfl, ?_⟩
  refine List.forall_mem_cons.mpr ⟨Or.inl rfl, ?_⟩
  refine List.forall_mem_cons.mpr ⟨Or.inl rfl, ?_⟩
  refine List.forall_mem_cons.mpr ⟨Or.inl rfl, ?_⟩
  refine List.forall_mem_cons.mpr ⟨Or.inl rfl, ?_⟩
  refine List.forall_mem_cons.mpr ⟨Or.inl rfl, ?_⟩
  exact fun _ h => absurd h List.not_mem_nil
theorem x_ol123 : x_okl x_Ts x_mt (x_mt 0).2.2.2.2 x_hs 86 123 2 := ⟨x_r4 (List.mem_of_getElem? (i := 68) rfl) rfl, x_r4 (List.mem_of_getElem? (i := 66) rfl) rfl, x_r4 (List.mem_of_getElem? (i := 67) rfl) rfl, x_r1 (List.mem_of_getElem? (i := 0) rfl) rfl, by decide, by decide, by decide +kernel⟩
theorem x_ow161 : ∀ r, r ∈ x_t161 → x_okw x_Ts x_cts x_ct x_mt x_prog 161 (x_hs 161) r := by
  unfold x_t161
  refine List.forall_mem_cons.mpr ⟨Or.inl rfl, ?_⟩
  refine List.forall_mem_cons.mpr ⟨Or.inl rfl, ?_⟩
  refine List.forall_mem_cons.mpr ⟨Or.inl rfl, ?_⟩
  refine List.forall_mem_cons.mpr ⟨Or.inr ⟨33, rfl, rfl, x_oc161, rfl, by decide +kernel, by decide +kernel, x_hh161⟩, ?_⟩
  refine List.forall_mem_cons.mpr ⟨Or.inl rfl, ?_⟩
  refine List.forall_mem_cons.mpr ⟨Or.inl rfl, ?_⟩
  refine List.forall_mem_cons.mpr ⟨Or.inl rfl, ?_⟩
  refine List.forall_mem_cons.mpr ⟨Or.inl rfl, ?_⟩
  refine List.forall_mem_cons.mpr ⟨Or.inl rfl, ?_⟩
  refine List.forall_mem_cons.mpr ⟨Or.inl rfl, ?_⟩
  refine List.forall_mem_cons.mpr ⟨Or.inl rfl, ?_⟩
  refine List.forall_mem_cons.mpr ⟨Or.inl rfl, ?_⟩
  exact fun _ h => absurd h List.not_mem_nil
theorem x_ol161 : x_okl x_Ts x_mt (x_mt 0).2.2.2.2 x_hs 112 161 2 := ⟨x_r4 (List.mem_of_getElem? (i := 131) rfl) rfl, x_r4 (List.mem_of_getElem? (i := 129) rfl) rfl, x_r4 (List.mem_of_getElem? (i := 130) rfl) rfl, x_r1 (List.mem_of_getElem? (i := 0) rfl) rfl, by decide, by decide, by decide +kernel⟩
theorem x_hwr : ∀ M, x_wr M = true → (∀ r, r ∈ x_prog.1 M → x_okr x_cts x_ct x_fk x_ty x_Ts x_Nw x_mt x_prog.2.2.2.1 x_prog.2.2.2.2.1 x_enu M r ∧ x_okw x_Ts x_cts x_ct x_mt x_prog M (x_hs M) r) ∧ x_prog.2.1 M = 8 := by
  intro M h
  refine ⟨fun r hr => ⟨x_hokM M (fun e => ?_) r hr, ?_⟩, x_wd8 M h⟩
  · subst e; exact absurd h (by decide)
  · have h2 : M ∈ x_wl := of_decide_eq_true h
    unfold x_wl at h2
    simp only [List.mem_cons, List.not_mem_nil, or_false] at h2
    rcases h2 with rfl | rfl | rfl | rfl | rfl | rfl | rfl
    · exact x_ow18 r hr
    · exact x_ow57 r hr
    · exact x_ow74 r hr
    · exact x_ow92 r hr
    · exact x_ow108 r hr
    · exact x_ow123 r hr
    · exact x_ow161 r hr
def x_rl : List (Nat × Nat × Nat) := [(51, 18, 2), (60, 57, 3), (64, 74, 2), (80, 92, 2), (83, 108, 2), (86, 123, 2), (112, 161, 2)]
def x_okb0 (r : xR) : Bool := match r.2.1 with
  | .invokestatic i => (decide (r.2.2.2.2.2.1 = 0) && decide ((i, r.2.2.2.1, r.2.2.2.2.1) ∈ x_rl) && decide (decode (x_mt 0).2.1 r.1 = .ok (.invokestatic i, 3))) || (x_okb 0 r && !x_wr r.2.2.2.1)
  | .invokevirtual _ => x_okb 0 r && !x_wr r.2.2.2.1 && decide (r.2.2.2.2.2.1 = 0)
  | .ireturn => x_okb 0 r && !x_wr r.2.2.2.1 && decide (r.2.2.1 = 1)
  | _ => x_okb 0 r && !x_wr r.2.2.2.1
set_option maxRecDepth 100000 in
theorem x_o0 : x_t0.all x_okb0 = true := by decide +kernel
theorem x_rlk : ∀ q ∈ x_rl, x_wr q.2.1 = true ∧ x_okl x_Ts x_mt (x_mt 0).2.2.2.2 x_hs q.1 q.2.1 q.2.2 := by
  intro q hq
  unfold x_rl at hq
  simp only [List.mem_cons, List.not_mem_nil, or_false] at hq
  rcases hq with rfl | rfl | rfl | rfl | rfl | rfl | rfl
  · exact ⟨by decide, x_ol18⟩
  · exact ⟨by decide, x_ol57⟩
  · exact ⟨by decide, x_ol74⟩
  · exact ⟨by decide, x_ol92⟩
  · exact ⟨by decide, x_ol108⟩
  · exact ⟨by decide, x_ol123⟩
  · exact ⟨by decide, x_ol161⟩
theorem x_hok0 : ∀ r, r ∈ x_prog.1 0 → (∃ i, r.2.1 = .invokestatic i ∧ r.2.2.2.2.2.1 = 0 ∧ x_wr r.2.2.2.1 = true ∧ decode (x_mt 0).2.1 r.1 = .ok (.invokestatic i, 3) ∧ x_okl x_Ts x_mt (x_mt 0).2.2.2.2 x_hs i r.2.2.2.1 r.2.2.2.2.1) ∨ (x_okr x_cts x_ct x_fk x_ty x_Ts x_Nw x_mt x_prog.2.2.2.1 x_prog.2.2.2.2.1 x_enu 0 r ∧ x_wr r.2.2.2.1 = false ∧ (∀ i, r.2.1 = .invokevirtual i → r.2.2.2.2.2.1 = 0) ∧ (r.2.1 = .ireturn → r.2.2.1 = 1)) := by
  intro r hr
  have h := List.all_eq_true.mp x_o0 r hr
  unfold x_okb0 at h
  have gen : x_okb 0 r = true → (!x_wr r.2.2.2.1) = true → (∀ i, r.2.1 = .invokevirtual i → r.2.2.2.2.2.1 = 0) → (r.2.1 = .ireturn → r.2.2.1 = 1) → x_okr x_cts x_ct x_fk x_ty x_Ts x_Nw x_mt x_prog.2.2.2.1 x_prog.2.2.2.2.1 x_enu 0 r ∧ x_wr r.2.2.2.1 = false ∧ (∀ i, r.2.1 = .invokevirtual i → r.2.2.2.2.2.1 = 0) ∧ (r.2.1 = .ireturn → r.2.2.1 = 1) := fun a b c d => ⟨x_okb_ok (x_own 0) r a, by rw [Bool.not_eq_true'] at b; exact b, c, d⟩
  split at h
  · rename_i i e
    rw [Bool.or_eq_true] at h
    rcases h with h | h
    · simp only [Bool.and_eq_true, decide_eq_true_eq] at h
      obtain ⟨⟨h1, h2⟩, h3⟩ := h
      obtain ⟨k1, k2⟩ := x_rlk _ h2
      exact Or.inl ⟨i, e, h1, k1, h3, k2⟩
    · rw [Bool.and_eq_true] at h
      exact Or.inr (gen h.1 h.2 (fun j q => by rw [e] at q; cases q) (fun q => by rw [e] at q; cases q))
  · rename_i i e
    simp only [Bool.and_eq_true, decide_eq_true_eq] at h
    exact Or.inr (gen h.1.1 h.1.2 (fun _ _ => h.2) (fun q => by rw [e] at q; cases q))
  · rename_i e
    simp only [Bool.and_eq_true, decide_eq_true_eq] at h
    exact Or.inr (gen h.1.1 h.1.2 (fun j q => by rw [e] at q; cases q) (fun _ => h.2))
  · rename_i n1 n2 n3
    rw [Bool.and_eq_true] at h
    exact Or.inr (gen h.1 h.2 (fun j q => absurd q (n2 j)) (fun q => absurd q n3))
