/-! What the words say of calls: printed by gen/gen_tables.py. -/
theorem x_r1 {w : Cond} (hw : w ∈ tables_1_1) (hg : goodWord w = true) : w ∈ x_Ts := List.mem_filter.mpr ⟨List.mem_append_right _ (List.mem_append_left _ hw), hg⟩
theorem x_r2 {w : Cond} (hw : w ∈ tables_1_2) (hg : goodWord w = true) : w ∈ x_Ts := List.mem_filter.mpr ⟨List.mem_append_right _ (List.mem_append_right _ (List.mem_append_left _ hw)), hg⟩
theorem x_r3 {w : Cond} (hw : w ∈ tables_1_3) (hg : goodWord w = true) : w ∈ x_Ts := List.mem_filter.mpr ⟨List.mem_append_right _ (List.mem_append_right _ (List.mem_append_right _ (List.mem_append_left _ hw))), hg⟩
theorem x_r4 {w : Cond} (hw : w ∈ tables_1_4) (hg : goodWord w = true) : w ∈ x_Ts := List.mem_filter.mpr ⟨List.mem_append_right _ (List.mem_append_right _ (List.mem_append_right _ (List.mem_append_right _ (List.mem_append_left _ hw)))), hg⟩
theorem x_r5 {w : Cond} (hw : w ∈ tables_1_5) (hg : goodWord w = true) : w ∈ x_Ts := List.mem_filter.mpr ⟨List.mem_append_right _ (List.mem_append_right _ (List.mem_append_right _ (List.mem_append_right _ (List.mem_append_right _ (List.mem_append_left _ hw))))), hg⟩
theorem x_r6 {w : Cond} (hw : w ∈ tables_1_6) (hg : goodWord w = true) : w ∈ x_Ts := List.mem_filter.mpr ⟨List.mem_append_right _ (List.mem_append_right _ (List.mem_append_right _ (List.mem_append_right _ (List.mem_append_right _ (List.mem_append_right _ (hw)))))), hg⟩
def x_Nw : List Cond := [Cond.methodLinkNest "StreamRefuter" 9 ⟨"StreamRefuter$Text", "<init>", "()V"⟩ "StreamRefuter",
  Cond.methodLinkNest "StreamRefuter" 34 ⟨"StreamRefuter$Problem", "<init>", "()V"⟩ "StreamRefuter",
  Cond.methodLinkNest "StreamRefuter" 44 ⟨"StreamRefuter$Tokens", "<init>", "()V"⟩ "StreamRefuter",
  Cond.methodLinkNest "StreamRefuter$Refuter" 24 ⟨"StreamRefuter$Tokens", "<init>", "()V"⟩ "StreamRefuter",
  Cond.methodLinkNest "StreamRefuter$Problem" 138 ⟨"StreamRefuter", "canJoin", "(III)Z"⟩ "StreamRefuter",
  Cond.methodLinkNest "StreamRefuter$Problem" 142 ⟨"StreamRefuter", "setOf", "(I)I"⟩ "StreamRefuter",
  Cond.methodLinkNest "StreamRefuter$Problem" 133 ⟨"StreamRefuter", "holdsClause", "(JI)Z"⟩ "StreamRefuter",
  Cond.methodLinkNest "StreamRefuter$Propagation" 54 ⟨"StreamRefuter", "opposites", "(I)I"⟩ "StreamRefuter",
  Cond.methodLinkNest "StreamRefuter$Propagation" 72 ⟨"StreamRefuter", "holdsClause", "(JI)Z"⟩ "StreamRefuter",
  Cond.methodLinkNest "StreamRefuter$Refuter" 82 ⟨"StreamRefuter", "opposites", "(I)I"⟩ "StreamRefuter",
  Cond.methodLinkNest "StreamRefuter$Refuter" 92 ⟨"StreamRefuter", "setOf", "(I)I"⟩ "StreamRefuter",
  Cond.methodLinkNest "StreamRefuter$Refuter" 98 ⟨"StreamRefuter", "holdsClause", "(JI)Z"⟩ "StreamRefuter",
  Cond.methodLinkNest "StreamRefuter$Propagation" 82 ⟨"StreamRefuter", "setOf", "(I)I"⟩ "StreamRefuter",
  Cond.methodLinkNest "StreamRefuter$Judge" 101 ⟨"StreamRefuter", "canJoin", "(III)Z"⟩ "StreamRefuter",
  Cond.methodLinkNest "StreamRefuter$Judge" 105 ⟨"StreamRefuter", "setOf", "(I)I"⟩ "StreamRefuter",
  Cond.methodLinkNest "StreamRefuter$Judge" 92 ⟨"StreamRefuter", "opposites", "(I)I"⟩ "StreamRefuter",
  Cond.declares ⟨"StreamRefuter$Numbers", "restart", "()V"⟩,
  Cond.declares ⟨"StreamRefuter$Numbers", "advance", "()V"⟩,
  Cond.declares ⟨"StreamRefuter$Numbers", "openStep", "()LStreamRefuter$Opening;"⟩,
  Cond.declares ⟨"StreamRefuter$Numbers", "enterClause", "(LStreamRefuter$Opening;)V"⟩]
theorem x_Nwk : ∀ q ∈ x_Nw, (∀ s U : State, s.WarmedH U.vm → va_Nw q s → va_Nw q U) ∧ q.onTables = true := by
  unfold x_Nw
  refine List.forall_mem_cons.mpr ⟨⟨fun _ _ hW h => va_Nw.warmM hW h, rfl⟩, ?_⟩
  refine List.forall_mem_cons.mpr ⟨⟨fun _ _ hW h => va_Nw.warmM hW h, rfl⟩, ?_⟩
  refine List.forall_mem_cons.mpr ⟨⟨fun _ _ hW h => va_Nw.warmM hW h, rfl⟩, ?_⟩
  refine List.forall_mem_cons.mpr ⟨⟨fun _ _ hW h => va_Nw.warmM hW h, rfl⟩, ?_⟩
  refine List.forall_mem_cons.mpr ⟨⟨fun _ _ hW h => va_Nw.warmM hW h, rfl⟩, ?_⟩
  refine List.forall_mem_cons.mpr ⟨⟨fun _ _ hW h => va_Nw.warmM hW h, rfl⟩, ?_⟩
  refine List.forall_mem_cons.mpr ⟨⟨fun _ _ hW h => va_Nw.warmM hW h, rfl⟩, ?_⟩
  refine List.forall_mem_cons.mpr ⟨⟨fun _ _ hW h => va_Nw.warmM hW h, rfl⟩, ?_⟩
  refine List.forall_mem_cons.mpr ⟨⟨fun _ _ hW h => va_Nw.warmM hW h, rfl⟩, ?_⟩
  refine List.forall_mem_cons.mpr ⟨⟨fun _ _ hW h => va_Nw.warmM hW h, rfl⟩, ?_⟩
  refine List.forall_mem_cons.mpr ⟨⟨fun _ _ hW h => va_Nw.warmM hW h, rfl⟩, ?_⟩
  refine List.forall_mem_cons.mpr ⟨⟨fun _ _ hW h => va_Nw.warmM hW h, rfl⟩, ?_⟩
  refine List.forall_mem_cons.mpr ⟨⟨fun _ _ hW h => va_Nw.warmM hW h, rfl⟩, ?_⟩
  refine List.forall_mem_cons.mpr ⟨⟨fun _ _ hW h => va_Nw.warmM hW h, rfl⟩, ?_⟩
  refine List.forall_mem_cons.mpr ⟨⟨fun _ _ hW h => va_Nw.warmM hW h, rfl⟩, ?_⟩
  refine List.forall_mem_cons.mpr ⟨⟨fun _ _ hW h => va_Nw.warmM hW h, rfl⟩, ?_⟩
  refine List.forall_mem_cons.mpr ⟨⟨fun _ _ hW h => va_Nw.warmD hW h, rfl⟩, ?_⟩
  refine List.forall_mem_cons.mpr ⟨⟨fun _ _ hW h => va_Nw.warmD hW h, rfl⟩, ?_⟩
  refine List.forall_mem_cons.mpr ⟨⟨fun _ _ hW h => va_Nw.warmD hW h, rfl⟩, ?_⟩
  refine List.forall_mem_cons.mpr ⟨⟨fun _ _ hW h => va_Nw.warmD hW h, rfl⟩, ?_⟩
  exact fun _ h => absurd h List.not_mem_nil
theorem x_Nwt : ∀ q ∈ x_Nw, q ∈ lw_tbl := by
  unfold x_Nw
  refine List.forall_mem_cons.mpr ⟨List.mem_append_right _ (List.mem_of_getElem? (i := 34) (by decide +kernel)), ?_⟩
  refine List.forall_mem_cons.mpr ⟨List.mem_append_right _ (List.mem_of_getElem? (i := 103) (by decide +kernel)), ?_⟩
  refine List.forall_mem_cons.mpr ⟨List.mem_append_right _ (List.mem_of_getElem? (i := 177) (by decide +kernel)), ?_⟩
  refine List.forall_mem_cons.mpr ⟨List.mem_append_right _ (List.mem_of_getElem? (i := 202) (by decide +kernel)), ?_⟩
  refine List.forall_mem_cons.mpr ⟨List.mem_append_right _ (List.mem_of_getElem? (i := 517) (by decide +kernel)), ?_⟩
  refine List.forall_mem_cons.mpr ⟨List.mem_append_right _ (List.mem_of_getElem? (i := 526) (by decide +kernel)), ?_⟩
  refine List.forall_mem_cons.mpr ⟨List.mem_append_right _ (List.mem_of_getElem? (i := 699) (by decide +kernel)), ?_⟩
  refine List.forall_mem_cons.mpr ⟨List.mem_append_right _ (List.mem_of_getElem? (i := 752) (by decide +kernel)), ?_⟩
  refine List.forall_mem_cons.mpr ⟨List.mem_append_right _ (List.mem_of_getElem? (i := 753) (by decide +kernel)), ?_⟩
  refine List.forall_mem_cons.mpr ⟨List.mem_append_right _ (List.mem_of_getElem? (i := 774) (by decide +kernel)), ?_⟩
  refine List.forall_mem_cons.mpr ⟨List.mem_append_right _ (List.mem_of_getElem? (i := 775) (by decide +kernel)), ?_⟩
  refine List.forall_mem_cons.mpr ⟨List.mem_append_right _ (List.mem_of_getElem? (i := 776) (by decide +kernel)), ?_⟩
  refine List.forall_mem_cons.mpr ⟨List.mem_append_right _ (List.mem_of_getElem? (i := 785) (by decide +kernel)), ?_⟩
  refine List.forall_mem_cons.mpr ⟨List.mem_append_right _ (List.mem_of_getElem? (i := 889) (by decide +kernel)), ?_⟩
  refine List.forall_mem_cons.mpr ⟨List.mem_append_right _ (List.mem_of_getElem? (i := 890) (by decide +kernel)), ?_⟩
  refine List.forall_mem_cons.mpr ⟨List.mem_append_right _ (List.mem_of_getElem? (i := 891) (by decide +kernel)), ?_⟩
  refine List.forall_mem_cons.mpr ⟨List.mem_append_right _ (List.mem_of_getElem? (i := 427) (by decide +kernel)), ?_⟩
  refine List.forall_mem_cons.mpr ⟨List.mem_append_right _ (List.mem_of_getElem? (i := 528) (by decide +kernel)), ?_⟩
  refine List.forall_mem_cons.mpr ⟨List.mem_append_right _ (List.mem_of_getElem? (i := 654) (by decide +kernel)), ?_⟩
  refine List.forall_mem_cons.mpr ⟨List.mem_append_right _ (List.mem_of_getElem? (i := 682) (by decide +kernel)), ?_⟩
  exact fun _ h => absurd h List.not_mem_nil
theorem x_k1 : Cond.code (x_mt 1).1 (x_mt 1).2.1 (x_mt 1).2.2.1 (x_mt 1).2.2.2.1 ∈ x_Ts := x_r1 (List.mem_of_getElem? (i := 28) rfl) rfl
theorem x_k2 : Cond.code (x_mt 2).1 (x_mt 2).2.1 (x_mt 2).2.2.1 (x_mt 2).2.2.2.1 ∈ x_Ts := x_r1 (List.mem_of_getElem? (i := 36) rfl) rfl
theorem x_k3 : Cond.code (x_mt 3).1 (x_mt 3).2.1 (x_mt 3).2.2.1 (x_mt 3).2.2.2.1 ∈ x_Ts := x_r1 (List.mem_of_getElem? (i := 50) rfl) rfl
theorem x_k4 : Cond.code (x_mt 4).1 (x_mt 4).2.1 (x_mt 4).2.2.1 (x_mt 4).2.2.2.1 ∈ x_Ts := x_r1 (List.mem_of_getElem? (i := 53) rfl) rfl
theorem x_k5 : Cond.code (x_mt 5).1 (x_mt 5).2.1 (x_mt 5).2.2.1 (x_mt 5).2.2.2.1 ∈ x_Ts := x_r1 (List.mem_of_getElem? (i := 94) rfl) rfl
theorem x_k6 : Cond.code (x_mt 6).1 (x_mt 6).2.1 (x_mt 6).2.2.1 (x_mt 6).2.2.2.1 ∈ x_Ts := x_r1 (List.mem_of_getElem? (i := 105) rfl) rfl
theorem x_k7 : Cond.code (x_mt 7).1 (x_mt 7).2.1 (x_mt 7).2.2.1 (x_mt 7).2.2.2.1 ∈ x_Ts := x_r1 (List.mem_of_getElem? (i := 179) rfl) rfl
theorem x_k8 : Cond.code (x_mt 8).1 (x_mt 8).2.1 (x_mt 8).2.2.1 (x_mt 8).2.2.2.1 ∈ x_Ts := x_r1 (List.mem_of_getElem? (i := 199) rfl) rfl
theorem x_k9 : Cond.code (x_mt 9).1 (x_mt 9).2.1 (x_mt 9).2.2.1 (x_mt 9).2.2.2.1 ∈ x_Ts := x_r1 (List.mem_of_getElem? (i := 207) rfl) rfl
theorem x_k10 : Cond.code (x_mt 10).1 (x_mt 10).2.1 (x_mt 10).2.2.1 (x_mt 10).2.2.2.1 ∈ x_Ts := x_r2 (List.mem_of_getElem? (i := 39) rfl) rfl
theorem x_k11 : Cond.code (x_mt 11).1 (x_mt 11).2.1 (x_mt 11).2.2.1 (x_mt 11).2.2.2.1 ∈ x_Ts := x_r4 (List.mem_of_getElem? (i := 196) rfl) rfl
theorem x_k12 : Cond.code (x_mt 12).1 (x_mt 12).2.1 (x_mt 12).2.2.1 (x_mt 12).2.2.2.1 ∈ x_Ts := x_r2 (List.mem_of_getElem? (i := 113) rfl) rfl
theorem x_k13 : Cond.code (x_mt 13).1 (x_mt 13).2.1 (x_mt 13).2.2.1 (x_mt 13).2.2.2.1 ∈ x_Ts := x_r2 (List.mem_of_getElem? (i := 117) rfl) rfl
theorem x_k14 : Cond.code (x_mt 14).1 (x_mt 14).2.1 (x_mt 14).2.2.1 (x_mt 14).2.2.2.1 ∈ x_Ts := x_r5 (List.mem_of_getElem? (i := 134) rfl) rfl
theorem x_k15 : Cond.code (x_mt 15).1 (x_mt 15).2.1 (x_mt 15).2.2.1 (x_mt 15).2.2.2.1 ∈ x_Ts := x_r2 (List.mem_of_getElem? (i := 121) rfl) rfl
theorem x_k16 : Cond.code (x_mt 16).1 (x_mt 16).2.1 (x_mt 16).2.2.1 (x_mt 16).2.2.2.1 ∈ x_Ts := x_r2 (List.mem_of_getElem? (i := 125) rfl) rfl
theorem x_k17 : Cond.code (x_mt 17).1 (x_mt 17).2.1 (x_mt 17).2.2.1 (x_mt 17).2.2.2.1 ∈ x_Ts := x_r5 (List.mem_of_getElem? (i := 139) rfl) rfl
theorem x_k19 : Cond.code (x_mt 19).1 (x_mt 19).2.1 (x_mt 19).2.2.1 (x_mt 19).2.2.2.1 ∈ x_Ts := x_r2 (List.mem_of_getElem? (i := 176) rfl) rfl
theorem x_k20 : Cond.code (x_mt 20).1 (x_mt 20).2.1 (x_mt 20).2.2.1 (x_mt 20).2.2.2.1 ∈ x_Ts := x_r2 (List.mem_of_getElem? (i := 180) rfl) rfl
theorem x_k21 : Cond.code (x_mt 21).1 (x_mt 21).2.1 (x_mt 21).2.2.1 (x_mt 21).2.2.2.1 ∈ x_Ts := x_r2 (List.mem_of_getElem? (i := 184) rfl) rfl
theorem x_k22 : Cond.code (x_mt 22).1 (x_mt 22).2.1 (x_mt 22).2.2.1 (x_mt 22).2.2.2.1 ∈ x_Ts := x_r2 (List.mem_of_getElem? (i := 190) rfl) rfl
theorem x_k23 : Cond.code (x_mt 23).1 (x_mt 23).2.1 (x_mt 23).2.2.1 (x_mt 23).2.2.2.1 ∈ x_Ts := x_r2 (List.mem_of_getElem? (i := 194) rfl) rfl
theorem x_k24 : Cond.code (x_mt 24).1 (x_mt 24).2.1 (x_mt 24).2.2.1 (x_mt 24).2.2.2.1 ∈ x_Ts := x_r2 (List.mem_of_getElem? (i := 198) rfl) rfl
theorem x_k25 : Cond.code (x_mt 25).1 (x_mt 25).2.1 (x_mt 25).2.2.1 (x_mt 25).2.2.2.1 ∈ x_Ts := x_r2 (List.mem_of_getElem? (i := 202) rfl) rfl
theorem x_k26 : Cond.code (x_mt 26).1 (x_mt 26).2.1 (x_mt 26).2.2.1 (x_mt 26).2.2.2.1 ∈ x_Ts := x_r2 (List.mem_of_getElem? (i := 206) rfl) rfl
theorem x_k27 : Cond.code (x_mt 27).1 (x_mt 27).2.1 (x_mt 27).2.2.1 (x_mt 27).2.2.2.1 ∈ x_Ts := x_r2 (List.mem_of_getElem? (i := 210) rfl) rfl
theorem x_k28 : Cond.code (x_mt 28).1 (x_mt 28).2.1 (x_mt 28).2.2.1 (x_mt 28).2.2.2.1 ∈ x_Ts := x_r2 (List.mem_of_getElem? (i := 214) rfl) rfl
theorem x_k29 : Cond.code (x_mt 29).1 (x_mt 29).2.1 (x_mt 29).2.2.1 (x_mt 29).2.2.2.1 ∈ x_Ts := x_r2 (List.mem_of_getElem? (i := 219) rfl) rfl
theorem x_k30 : Cond.code (x_mt 30).1 (x_mt 30).2.1 (x_mt 30).2.2.1 (x_mt 30).2.2.2.1 ∈ x_Ts := x_r3 (List.mem_of_getElem? (i := 32) rfl) rfl
theorem x_k31 : Cond.code (x_mt 31).1 (x_mt 31).2.1 (x_mt 31).2.2.1 (x_mt 31).2.2.2.1 ∈ x_Ts := x_r3 (List.mem_of_getElem? (i := 36) rfl) rfl
theorem x_k32 : Cond.code (x_mt 32).1 (x_mt 32).2.1 (x_mt 32).2.2.1 (x_mt 32).2.2.2.1 ∈ x_Ts := x_r3 (List.mem_of_getElem? (i := 39) rfl) rfl
theorem x_k33 : Cond.code (x_mt 33).1 (x_mt 33).2.1 (x_mt 33).2.2.1 (x_mt 33).2.2.2.1 ∈ x_Ts := x_r3 (List.mem_of_getElem? (i := 42) rfl) rfl
theorem x_k34 : Cond.code (x_mt 34).1 (x_mt 34).2.1 (x_mt 34).2.2.1 (x_mt 34).2.2.2.1 ∈ x_Ts := x_r3 (List.mem_of_getElem? (i := 45) rfl) rfl
theorem x_k35 : Cond.code (x_mt 35).1 (x_mt 35).2.1 (x_mt 35).2.2.1 (x_mt 35).2.2.2.1 ∈ x_Ts := x_r3 (List.mem_of_getElem? (i := 52) rfl) rfl
theorem x_k36 : Cond.code (x_mt 36).1 (x_mt 36).2.1 (x_mt 36).2.2.1 (x_mt 36).2.2.2.1 ∈ x_Ts := x_r3 (List.mem_of_getElem? (i := 56) rfl) rfl
theorem x_k37 : Cond.code (x_mt 37).1 (x_mt 37).2.1 (x_mt 37).2.2.1 (x_mt 37).2.2.2.1 ∈ x_Ts := x_r3 (List.mem_of_getElem? (i := 60) rfl) rfl
theorem x_k38 : Cond.code (x_mt 38).1 (x_mt 38).2.1 (x_mt 38).2.2.1 (x_mt 38).2.2.2.1 ∈ x_Ts := x_r3 (List.mem_of_getElem? (i := 66) rfl) rfl
theorem x_k39 : Cond.code (x_mt 39).1 (x_mt 39).2.1 (x_mt 39).2.2.1 (x_mt 39).2.2.2.1 ∈ x_Ts := x_r3 (List.mem_of_getElem? (i := 136) rfl) rfl
theorem x_k40 : Cond.code (x_mt 40).1 (x_mt 40).2.1 (x_mt 40).2.2.1 (x_mt 40).2.2.2.1 ∈ x_Ts := x_r3 (List.mem_of_getElem? (i := 140) rfl) rfl
theorem x_k41 : Cond.code (x_mt 41).1 (x_mt 41).2.1 (x_mt 41).2.2.1 (x_mt 41).2.2.2.1 ∈ x_Ts := x_r5 (List.mem_of_getElem? (i := 147) rfl) rfl
theorem x_k42 : Cond.code (x_mt 42).1 (x_mt 42).2.1 (x_mt 42).2.2.1 (x_mt 42).2.2.2.1 ∈ x_Ts := x_r5 (List.mem_of_getElem? (i := 151) rfl) rfl
theorem x_k43 : Cond.code (x_mt 43).1 (x_mt 43).2.1 (x_mt 43).2.2.1 (x_mt 43).2.2.2.1 ∈ x_Ts := x_r5 (List.mem_of_getElem? (i := 155) rfl) rfl
theorem x_k44 : Cond.code (x_mt 44).1 (x_mt 44).2.1 (x_mt 44).2.2.1 (x_mt 44).2.2.2.1 ∈ x_Ts := x_r5 (List.mem_of_getElem? (i := 159) rfl) rfl
theorem x_k45 : Cond.code (x_mt 45).1 (x_mt 45).2.1 (x_mt 45).2.2.1 (x_mt 45).2.2.2.1 ∈ x_Ts := x_r5 (List.mem_of_getElem? (i := 162) rfl) rfl
theorem x_k46 : Cond.code (x_mt 46).1 (x_mt 46).2.1 (x_mt 46).2.2.1 (x_mt 46).2.2.2.1 ∈ x_Ts := x_r5 (List.mem_of_getElem? (i := 166) rfl) rfl
theorem x_k47 : Cond.code (x_mt 47).1 (x_mt 47).2.1 (x_mt 47).2.2.1 (x_mt 47).2.2.2.1 ∈ x_Ts := x_r5 (List.mem_of_getElem? (i := 170) rfl) rfl
theorem x_k48 : Cond.code (x_mt 48).1 (x_mt 48).2.1 (x_mt 48).2.2.1 (x_mt 48).2.2.2.1 ∈ x_Ts := x_r5 (List.mem_of_getElem? (i := 174) rfl) rfl
theorem x_k49 : Cond.code (x_mt 49).1 (x_mt 49).2.1 (x_mt 49).2.2.1 (x_mt 49).2.2.2.1 ∈ x_Ts := x_r5 (List.mem_of_getElem? (i := 178) rfl) rfl
theorem x_k50 : Cond.code (x_mt 50).1 (x_mt 50).2.1 (x_mt 50).2.2.1 (x_mt 50).2.2.2.1 ∈ x_Ts := x_r5 (List.mem_of_getElem? (i := 182) rfl) rfl
theorem x_k51 : Cond.code (x_mt 51).1 (x_mt 51).2.1 (x_mt 51).2.2.1 (x_mt 51).2.2.2.1 ∈ x_Ts := x_r5 (List.mem_of_getElem? (i := 186) rfl) rfl
theorem x_k52 : Cond.code (x_mt 52).1 (x_mt 52).2.1 (x_mt 52).2.2.1 (x_mt 52).2.2.2.1 ∈ x_Ts := x_r5 (List.mem_of_getElem? (i := 190) rfl) rfl
theorem x_k53 : Cond.code (x_mt 53).1 (x_mt 53).2.1 (x_mt 53).2.2.1 (x_mt 53).2.2.2.1 ∈ x_Ts := x_r5 (List.mem_of_getElem? (i := 193) rfl) rfl
theorem x_k54 : Cond.code (x_mt 54).1 (x_mt 54).2.1 (x_mt 54).2.2.1 (x_mt 54).2.2.2.1 ∈ x_Ts := x_r5 (List.mem_of_getElem? (i := 197) rfl) rfl
theorem x_k55 : Cond.code (x_mt 55).1 (x_mt 55).2.1 (x_mt 55).2.2.1 (x_mt 55).2.2.2.1 ∈ x_Ts := x_r5 (List.mem_of_getElem? (i := 201) rfl) rfl
theorem x_k56 : Cond.code (x_mt 56).1 (x_mt 56).2.1 (x_mt 56).2.2.1 (x_mt 56).2.2.2.1 ∈ x_Ts := x_r5 (List.mem_of_getElem? (i := 130) rfl) rfl
theorem x_k58 : Cond.code (x_mt 58).1 (x_mt 58).2.1 (x_mt 58).2.2.1 (x_mt 58).2.2.2.1 ∈ x_Ts := x_r3 (List.mem_of_getElem? (i := 148) rfl) rfl
theorem x_k59 : Cond.code (x_mt 59).1 (x_mt 59).2.1 (x_mt 59).2.2.1 (x_mt 59).2.2.2.1 ∈ x_Ts := x_r3 (List.mem_of_getElem? (i := 167) rfl) rfl
theorem x_k60 : Cond.code (x_mt 60).1 (x_mt 60).2.1 (x_mt 60).2.2.1 (x_mt 60).2.2.2.1 ∈ x_Ts := x_r3 (List.mem_of_getElem? (i := 171) rfl) rfl
theorem x_k61 : Cond.code (x_mt 61).1 (x_mt 61).2.1 (x_mt 61).2.2.1 (x_mt 61).2.2.2.1 ∈ x_Ts := x_r3 (List.mem_of_getElem? (i := 189) rfl) rfl
theorem x_k62 : Cond.code (x_mt 62).1 (x_mt 62).2.1 (x_mt 62).2.2.1 (x_mt 62).2.2.2.1 ∈ x_Ts := x_r3 (List.mem_of_getElem? (i := 178) rfl) rfl
theorem x_k63 : Cond.code (x_mt 63).1 (x_mt 63).2.1 (x_mt 63).2.2.1 (x_mt 63).2.2.2.1 ∈ x_Ts := x_r3 (List.mem_of_getElem? (i := 198) rfl) rfl
theorem x_k64 : Cond.code (x_mt 64).1 (x_mt 64).2.1 (x_mt 64).2.2.1 (x_mt 64).2.2.2.1 ∈ x_Ts := x_r3 (List.mem_of_getElem? (i := 210) rfl) rfl
theorem x_k65 : Cond.code (x_mt 65).1 (x_mt 65).2.1 (x_mt 65).2.2.1 (x_mt 65).2.2.2.1 ∈ x_Ts := x_r3 (List.mem_of_getElem? (i := 206) rfl) rfl
theorem x_k66 : Cond.code (x_mt 66).1 (x_mt 66).2.1 (x_mt 66).2.2.1 (x_mt 66).2.2.2.1 ∈ x_Ts := x_r3 (List.mem_of_getElem? (i := 214) rfl) rfl
theorem x_k67 : Cond.code (x_mt 67).1 (x_mt 67).2.1 (x_mt 67).2.2.1 (x_mt 67).2.2.2.1 ∈ x_Ts := x_r3 (List.mem_of_getElem? (i := 218) rfl) rfl
theorem x_k68 : Cond.code (x_mt 68).1 (x_mt 68).2.1 (x_mt 68).2.2.1 (x_mt 68).2.2.2.1 ∈ x_Ts := x_r2 (List.mem_of_getElem? (i := 144) rfl) rfl
theorem x_k69 : Cond.code (x_mt 69).1 (x_mt 69).2.1 (x_mt 69).2.2.1 (x_mt 69).2.2.2.1 ∈ x_Ts := x_r5 (List.mem_of_getElem? (i := 205) rfl) rfl
theorem x_k70 : Cond.code (x_mt 70).1 (x_mt 70).2.1 (x_mt 70).2.2.1 (x_mt 70).2.2.2.1 ∈ x_Ts := x_r5 (List.mem_of_getElem? (i := 209) rfl) rfl
theorem x_k71 : Cond.code (x_mt 71).1 (x_mt 71).2.1 (x_mt 71).2.2.1 (x_mt 71).2.2.2.1 ∈ x_Ts := x_r5 (List.mem_of_getElem? (i := 213) rfl) rfl
theorem x_k72 : Cond.code (x_mt 72).1 (x_mt 72).2.1 (x_mt 72).2.2.1 (x_mt 72).2.2.2.1 ∈ x_Ts := x_r5 (List.mem_of_getElem? (i := 217) rfl) rfl
theorem x_k73 : Cond.code (x_mt 73).1 (x_mt 73).2.1 (x_mt 73).2.2.1 (x_mt 73).2.2.2.1 ∈ x_Ts := x_r5 (List.mem_of_getElem? (i := 221) rfl) rfl
theorem x_k75 : Cond.code (x_mt 75).1 (x_mt 75).2.1 (x_mt 75).2.2.1 (x_mt 75).2.2.2.1 ∈ x_Ts := x_r3 (List.mem_of_getElem? (i := 227) rfl) rfl
theorem x_k76 : Cond.code (x_mt 76).1 (x_mt 76).2.1 (x_mt 76).2.2.1 (x_mt 76).2.2.2.1 ∈ x_Ts := x_r3 (List.mem_of_getElem? (i := 231) rfl) rfl
theorem x_k77 : Cond.code (x_mt 77).1 (x_mt 77).2.1 (x_mt 77).2.2.1 (x_mt 77).2.2.2.1 ∈ x_Ts := x_r3 (List.mem_of_getElem? (i := 237) rfl) rfl
theorem x_k78 : Cond.code (x_mt 78).1 (x_mt 78).2.1 (x_mt 78).2.2.1 (x_mt 78).2.2.2.1 ∈ x_Ts := x_r4 (List.mem_of_getElem? (i := 1) rfl) rfl
theorem x_k79 : Cond.code (x_mt 79).1 (x_mt 79).2.1 (x_mt 79).2.2.1 (x_mt 79).2.2.2.1 ∈ x_Ts := x_r4 (List.mem_of_getElem? (i := 4) rfl) rfl
theorem x_k80 : Cond.code (x_mt 80).1 (x_mt 80).2.1 (x_mt 80).2.2.1 (x_mt 80).2.2.2.1 ∈ x_Ts := x_r4 (List.mem_of_getElem? (i := 8) rfl) rfl
theorem x_k81 : Cond.code (x_mt 81).1 (x_mt 81).2.1 (x_mt 81).2.2.1 (x_mt 81).2.2.2.1 ∈ x_Ts := x_r5 (List.mem_of_getElem? (i := 225) rfl) rfl
theorem x_k82 : Cond.code (x_mt 82).1 (x_mt 82).2.1 (x_mt 82).2.2.1 (x_mt 82).2.2.2.1 ∈ x_Ts := x_r5 (List.mem_of_getElem? (i := 229) rfl) rfl
theorem x_k83 : Cond.code (x_mt 83).1 (x_mt 83).2.1 (x_mt 83).2.2.1 (x_mt 83).2.2.2.1 ∈ x_Ts := x_r5 (List.mem_of_getElem? (i := 233) rfl) rfl
theorem x_k84 : Cond.code (x_mt 84).1 (x_mt 84).2.1 (x_mt 84).2.2.1 (x_mt 84).2.2.2.1 ∈ x_Ts := x_r5 (List.mem_of_getElem? (i := 237) rfl) rfl
theorem x_k85 : Cond.code (x_mt 85).1 (x_mt 85).2.1 (x_mt 85).2.2.1 (x_mt 85).2.2.2.1 ∈ x_Ts := x_r6 (List.mem_of_getElem? (i := 1) rfl) rfl
theorem x_k86 : Cond.code (x_mt 86).1 (x_mt 86).2.1 (x_mt 86).2.2.1 (x_mt 86).2.2.2.1 ∈ x_Ts := x_r2 (List.mem_of_getElem? (i := 129) rfl) rfl
theorem x_k87 : Cond.code (x_mt 87).1 (x_mt 87).2.1 (x_mt 87).2.2.1 (x_mt 87).2.2.2.1 ∈ x_Ts := x_r5 (List.mem_of_getElem? (i := 143) rfl) rfl
theorem x_k88 : Cond.code (x_mt 88).1 (x_mt 88).2.1 (x_mt 88).2.2.1 (x_mt 88).2.2.2.1 ∈ x_Ts := x_r2 (List.mem_of_getElem? (i := 133) rfl) rfl
theorem x_k89 : Cond.code (x_mt 89).1 (x_mt 89).2.1 (x_mt 89).2.2.1 (x_mt 89).2.2.2.1 ∈ x_Ts := x_r6 (List.mem_of_getElem? (i := 5) rfl) rfl
theorem x_k90 : Cond.code (x_mt 90).1 (x_mt 90).2.1 (x_mt 90).2.2.1 (x_mt 90).2.2.2.1 ∈ x_Ts := x_r2 (List.mem_of_getElem? (i := 137) rfl) rfl
theorem x_k91 : Cond.code (x_mt 91).1 (x_mt 91).2.1 (x_mt 91).2.2.1 (x_mt 91).2.2.2.1 ∈ x_Ts := x_r6 (List.mem_of_getElem? (i := 9) rfl) rfl
theorem x_k93 : Cond.code (x_mt 93).1 (x_mt 93).2.1 (x_mt 93).2.2.1 (x_mt 93).2.2.2.1 ∈ x_Ts := x_r4 (List.mem_of_getElem? (i := 15) rfl) rfl
theorem x_k94 : Cond.code (x_mt 94).1 (x_mt 94).2.1 (x_mt 94).2.2.1 (x_mt 94).2.2.2.1 ∈ x_Ts := x_r4 (List.mem_of_getElem? (i := 19) rfl) rfl
theorem x_k95 : Cond.code (x_mt 95).1 (x_mt 95).2.1 (x_mt 95).2.2.1 (x_mt 95).2.2.2.1 ∈ x_Ts := x_r4 (List.mem_of_getElem? (i := 23) rfl) rfl
theorem x_k96 : Cond.code (x_mt 96).1 (x_mt 96).2.1 (x_mt 96).2.2.1 (x_mt 96).2.2.2.1 ∈ x_Ts := x_r4 (List.mem_of_getElem? (i := 27) rfl) rfl
theorem x_k97 : Cond.code (x_mt 97).1 (x_mt 97).2.1 (x_mt 97).2.2.1 (x_mt 97).2.2.2.1 ∈ x_Ts := x_r4 (List.mem_of_getElem? (i := 31) rfl) rfl
theorem x_k98 : Cond.code (x_mt 98).1 (x_mt 98).2.1 (x_mt 98).2.2.1 (x_mt 98).2.2.2.1 ∈ x_Ts := x_r4 (List.mem_of_getElem? (i := 37) rfl) rfl
theorem x_k99 : Cond.code (x_mt 99).1 (x_mt 99).2.1 (x_mt 99).2.2.1 (x_mt 99).2.2.2.1 ∈ x_Ts := x_r6 (List.mem_of_getElem? (i := 13) rfl) rfl
theorem x_k100 : Cond.code (x_mt 100).1 (x_mt 100).2.1 (x_mt 100).2.2.1 (x_mt 100).2.2.2.1 ∈ x_Ts := x_r6 (List.mem_of_getElem? (i := 17) rfl) rfl
theorem x_k101 : Cond.code (x_mt 101).1 (x_mt 101).2.1 (x_mt 101).2.2.1 (x_mt 101).2.2.2.1 ∈ x_Ts := x_r6 (List.mem_of_getElem? (i := 21) rfl) rfl
theorem x_k102 : Cond.code (x_mt 102).1 (x_mt 102).2.1 (x_mt 102).2.2.1 (x_mt 102).2.2.2.1 ∈ x_Ts := x_r6 (List.mem_of_getElem? (i := 25) rfl) rfl
theorem x_k103 : Cond.code (x_mt 103).1 (x_mt 103).2.1 (x_mt 103).2.2.1 (x_mt 103).2.2.2.1 ∈ x_Ts := x_r6 (List.mem_of_getElem? (i := 29) rfl) rfl
theorem x_k104 : Cond.code (x_mt 104).1 (x_mt 104).2.1 (x_mt 104).2.2.1 (x_mt 104).2.2.2.1 ∈ x_Ts := x_r6 (List.mem_of_getElem? (i := 33) rfl) rfl
theorem x_k105 : Cond.code (x_mt 105).1 (x_mt 105).2.1 (x_mt 105).2.2.1 (x_mt 105).2.2.2.1 ∈ x_Ts := x_r6 (List.mem_of_getElem? (i := 37) rfl) rfl
theorem x_k106 : Cond.code (x_mt 106).1 (x_mt 106).2.1 (x_mt 106).2.2.1 (x_mt 106).2.2.2.1 ∈ x_Ts := x_r6 (List.mem_of_getElem? (i := 41) rfl) rfl
theorem x_k107 : Cond.code (x_mt 107).1 (x_mt 107).2.1 (x_mt 107).2.2.1 (x_mt 107).2.2.2.1 ∈ x_Ts := x_r6 (List.mem_of_getElem? (i := 45) rfl) rfl
theorem x_k109 : Cond.code (x_mt 109).1 (x_mt 109).2.1 (x_mt 109).2.2.1 (x_mt 109).2.2.2.1 ∈ x_Ts := x_r4 (List.mem_of_getElem? (i := 44) rfl) rfl
theorem x_k110 : Cond.code (x_mt 110).1 (x_mt 110).2.1 (x_mt 110).2.2.1 (x_mt 110).2.2.2.1 ∈ x_Ts := x_r4 (List.mem_of_getElem? (i := 48) rfl) rfl
theorem x_k111 : Cond.code (x_mt 111).1 (x_mt 111).2.1 (x_mt 111).2.2.1 (x_mt 111).2.2.2.1 ∈ x_Ts := x_r4 (List.mem_of_getElem? (i := 53) rfl) rfl
theorem x_k112 : Cond.code (x_mt 112).1 (x_mt 112).2.1 (x_mt 112).2.2.1 (x_mt 112).2.2.2.1 ∈ x_Ts := x_r4 (List.mem_of_getElem? (i := 60) rfl) rfl
theorem x_k113 : Cond.code (x_mt 113).1 (x_mt 113).2.1 (x_mt 113).2.2.1 (x_mt 113).2.2.2.1 ∈ x_Ts := x_r4 (List.mem_of_getElem? (i := 64) rfl) rfl
theorem x_k114 : Cond.code (x_mt 114).1 (x_mt 114).2.1 (x_mt 114).2.2.1 (x_mt 114).2.2.2.1 ∈ x_Ts := x_r6 (List.mem_of_getElem? (i := 49) rfl) rfl
theorem x_k115 : Cond.code (x_mt 115).1 (x_mt 115).2.1 (x_mt 115).2.2.1 (x_mt 115).2.2.2.1 ∈ x_Ts := x_r6 (List.mem_of_getElem? (i := 53) rfl) rfl
theorem x_k116 : Cond.code (x_mt 116).1 (x_mt 116).2.1 (x_mt 116).2.2.1 (x_mt 116).2.2.2.1 ∈ x_Ts := x_r6 (List.mem_of_getElem? (i := 57) rfl) rfl
theorem x_k117 : Cond.code (x_mt 117).1 (x_mt 117).2.1 (x_mt 117).2.2.1 (x_mt 117).2.2.2.1 ∈ x_Ts := x_r6 (List.mem_of_getElem? (i := 61) rfl) rfl
theorem x_k118 : Cond.code (x_mt 118).1 (x_mt 118).2.1 (x_mt 118).2.2.1 (x_mt 118).2.2.2.1 ∈ x_Ts := x_r6 (List.mem_of_getElem? (i := 65) rfl) rfl
theorem x_k119 : Cond.code (x_mt 119).1 (x_mt 119).2.1 (x_mt 119).2.2.1 (x_mt 119).2.2.2.1 ∈ x_Ts := x_r6 (List.mem_of_getElem? (i := 69) rfl) rfl
theorem x_k120 : Cond.code (x_mt 120).1 (x_mt 120).2.1 (x_mt 120).2.2.1 (x_mt 120).2.2.2.1 ∈ x_Ts := x_r6 (List.mem_of_getElem? (i := 73) rfl) rfl
theorem x_k121 : Cond.code (x_mt 121).1 (x_mt 121).2.1 (x_mt 121).2.2.1 (x_mt 121).2.2.2.1 ∈ x_Ts := x_r6 (List.mem_of_getElem? (i := 77) rfl) rfl
theorem x_k122 : Cond.code (x_mt 122).1 (x_mt 122).2.1 (x_mt 122).2.2.1 (x_mt 122).2.2.2.1 ∈ x_Ts := x_r6 (List.mem_of_getElem? (i := 81) rfl) rfl
theorem x_k124 : Cond.code (x_mt 124).1 (x_mt 124).2.1 (x_mt 124).2.2.1 (x_mt 124).2.2.2.1 ∈ x_Ts := x_r4 (List.mem_of_getElem? (i := 72) rfl) rfl
theorem x_k125 : Cond.code (x_mt 125).1 (x_mt 125).2.1 (x_mt 125).2.2.1 (x_mt 125).2.2.2.1 ∈ x_Ts := x_r4 (List.mem_of_getElem? (i := 76) rfl) rfl
theorem x_k126 : Cond.code (x_mt 126).1 (x_mt 126).2.1 (x_mt 126).2.2.1 (x_mt 126).2.2.2.1 ∈ x_Ts := x_r4 (List.mem_of_getElem? (i := 80) rfl) rfl
theorem x_k127 : Cond.code (x_mt 127).1 (x_mt 127).2.1 (x_mt 127).2.2.1 (x_mt 127).2.2.2.1 ∈ x_Ts := x_r4 (List.mem_of_getElem? (i := 85) rfl) rfl
theorem x_k128 : Cond.code (x_mt 128).1 (x_mt 128).2.1 (x_mt 128).2.2.1 (x_mt 128).2.2.2.1 ∈ x_Ts := x_r4 (List.mem_of_getElem? (i := 89) rfl) rfl
theorem x_k129 : Cond.code (x_mt 129).1 (x_mt 129).2.1 (x_mt 129).2.2.1 (x_mt 129).2.2.2.1 ∈ x_Ts := x_r4 (List.mem_of_getElem? (i := 93) rfl) rfl
theorem x_k130 : Cond.code (x_mt 130).1 (x_mt 130).2.1 (x_mt 130).2.2.1 (x_mt 130).2.2.2.1 ∈ x_Ts := x_r4 (List.mem_of_getElem? (i := 98) rfl) rfl
theorem x_k131 : Cond.code (x_mt 131).1 (x_mt 131).2.1 (x_mt 131).2.2.1 (x_mt 131).2.2.2.1 ∈ x_Ts := x_r4 (List.mem_of_getElem? (i := 103) rfl) rfl
theorem x_k132 : Cond.code (x_mt 132).1 (x_mt 132).2.1 (x_mt 132).2.2.1 (x_mt 132).2.2.2.1 ∈ x_Ts := x_r4 (List.mem_of_getElem? (i := 107) rfl) rfl
theorem x_k133 : Cond.code (x_mt 133).1 (x_mt 133).2.1 (x_mt 133).2.2.1 (x_mt 133).2.2.2.1 ∈ x_Ts := x_r4 (List.mem_of_getElem? (i := 111) rfl) rfl
theorem x_k134 : Cond.code (x_mt 134).1 (x_mt 134).2.1 (x_mt 134).2.2.1 (x_mt 134).2.2.2.1 ∈ x_Ts := x_r4 (List.mem_of_getElem? (i := 115) rfl) rfl
theorem x_k135 : Cond.code (x_mt 135).1 (x_mt 135).2.1 (x_mt 135).2.2.1 (x_mt 135).2.2.2.1 ∈ x_Ts := x_r4 (List.mem_of_getElem? (i := 119) rfl) rfl
theorem x_k136 : Cond.code (x_mt 136).1 (x_mt 136).2.1 (x_mt 136).2.2.1 (x_mt 136).2.2.2.1 ∈ x_Ts := x_r4 (List.mem_of_getElem? (i := 123) rfl) rfl
theorem x_k137 : Cond.code (x_mt 137).1 (x_mt 137).2.1 (x_mt 137).2.2.1 (x_mt 137).2.2.2.1 ∈ x_Ts := x_r2 (List.mem_of_getElem? (i := 160) rfl) rfl
theorem x_k138 : Cond.code (x_mt 138).1 (x_mt 138).2.1 (x_mt 138).2.2.1 (x_mt 138).2.2.2.1 ∈ x_Ts := x_r4 (List.mem_of_getElem? (i := 128) rfl) rfl
theorem x_k139 : Cond.code (x_mt 139).1 (x_mt 139).2.1 (x_mt 139).2.2.1 (x_mt 139).2.2.2.1 ∈ x_Ts := x_r6 (List.mem_of_getElem? (i := 85) rfl) rfl
theorem x_k140 : Cond.code (x_mt 140).1 (x_mt 140).2.1 (x_mt 140).2.2.1 (x_mt 140).2.2.2.1 ∈ x_Ts := x_r6 (List.mem_of_getElem? (i := 89) rfl) rfl
theorem x_k141 : Cond.code (x_mt 141).1 (x_mt 141).2.1 (x_mt 141).2.2.1 (x_mt 141).2.2.2.1 ∈ x_Ts := x_r6 (List.mem_of_getElem? (i := 93) rfl) rfl
theorem x_k142 : Cond.code (x_mt 142).1 (x_mt 142).2.1 (x_mt 142).2.2.1 (x_mt 142).2.2.2.1 ∈ x_Ts := x_r6 (List.mem_of_getElem? (i := 97) rfl) rfl
theorem x_k143 : Cond.code (x_mt 143).1 (x_mt 143).2.1 (x_mt 143).2.2.1 (x_mt 143).2.2.2.1 ∈ x_Ts := x_r6 (List.mem_of_getElem? (i := 101) rfl) rfl
theorem x_k144 : Cond.code (x_mt 144).1 (x_mt 144).2.1 (x_mt 144).2.2.1 (x_mt 144).2.2.2.1 ∈ x_Ts := x_r6 (List.mem_of_getElem? (i := 105) rfl) rfl
theorem x_k145 : Cond.code (x_mt 145).1 (x_mt 145).2.1 (x_mt 145).2.2.1 (x_mt 145).2.2.2.1 ∈ x_Ts := x_r6 (List.mem_of_getElem? (i := 109) rfl) rfl
theorem x_k146 : Cond.code (x_mt 146).1 (x_mt 146).2.1 (x_mt 146).2.2.1 (x_mt 146).2.2.2.1 ∈ x_Ts := x_r6 (List.mem_of_getElem? (i := 113) rfl) rfl
theorem x_k147 : Cond.code (x_mt 147).1 (x_mt 147).2.1 (x_mt 147).2.2.1 (x_mt 147).2.2.2.1 ∈ x_Ts := x_r6 (List.mem_of_getElem? (i := 117) rfl) rfl
theorem x_k148 : Cond.code (x_mt 148).1 (x_mt 148).2.1 (x_mt 148).2.2.1 (x_mt 148).2.2.2.1 ∈ x_Ts := x_r6 (List.mem_of_getElem? (i := 121) rfl) rfl
theorem x_k149 : Cond.code (x_mt 149).1 (x_mt 149).2.1 (x_mt 149).2.2.1 (x_mt 149).2.2.2.1 ∈ x_Ts := x_r6 (List.mem_of_getElem? (i := 125) rfl) rfl
theorem x_k150 : Cond.code (x_mt 150).1 (x_mt 150).2.1 (x_mt 150).2.2.1 (x_mt 150).2.2.2.1 ∈ x_Ts := x_r2 (List.mem_of_getElem? (i := 141) rfl) rfl
theorem x_k151 : Cond.code (x_mt 151).1 (x_mt 151).2.1 (x_mt 151).2.2.1 (x_mt 151).2.2.2.1 ∈ x_Ts := x_r6 (List.mem_of_getElem? (i := 129) rfl) rfl
theorem x_k152 : Cond.code (x_mt 152).1 (x_mt 152).2.1 (x_mt 152).2.2.1 (x_mt 152).2.2.2.1 ∈ x_Ts := x_r2 (List.mem_of_getElem? (i := 148) rfl) rfl
theorem x_k153 : Cond.code (x_mt 153).1 (x_mt 153).2.1 (x_mt 153).2.2.1 (x_mt 153).2.2.2.1 ∈ x_Ts := x_r6 (List.mem_of_getElem? (i := 133) rfl) rfl
theorem x_k154 : Cond.code (x_mt 154).1 (x_mt 154).2.1 (x_mt 154).2.2.1 (x_mt 154).2.2.2.1 ∈ x_Ts := x_r2 (List.mem_of_getElem? (i := 152) rfl) rfl
theorem x_k155 : Cond.code (x_mt 155).1 (x_mt 155).2.1 (x_mt 155).2.2.1 (x_mt 155).2.2.2.1 ∈ x_Ts := x_r6 (List.mem_of_getElem? (i := 137) rfl) rfl
theorem x_k156 : Cond.code (x_mt 156).1 (x_mt 156).2.1 (x_mt 156).2.2.1 (x_mt 156).2.2.2.1 ∈ x_Ts := x_r2 (List.mem_of_getElem? (i := 156) rfl) rfl
theorem x_k157 : Cond.code (x_mt 157).1 (x_mt 157).2.1 (x_mt 157).2.2.1 (x_mt 157).2.2.2.1 ∈ x_Ts := x_r6 (List.mem_of_getElem? (i := 141) rfl) rfl
theorem x_k158 : Cond.code (x_mt 158).1 (x_mt 158).2.1 (x_mt 158).2.2.1 (x_mt 158).2.2.2.1 ∈ x_Ts := x_r2 (List.mem_of_getElem? (i := 164) rfl) rfl
theorem x_k159 : Cond.code (x_mt 159).1 (x_mt 159).2.1 (x_mt 159).2.2.1 (x_mt 159).2.2.2.1 ∈ x_Ts := x_r2 (List.mem_of_getElem? (i := 168) rfl) rfl
theorem x_k160 : Cond.code (x_mt 160).1 (x_mt 160).2.1 (x_mt 160).2.2.1 (x_mt 160).2.2.2.1 ∈ x_Ts := x_r6 (List.mem_of_getElem? (i := 145) rfl) rfl
theorem x_k162 : Cond.code (x_mt 162).1 (x_mt 162).2.1 (x_mt 162).2.2.1 (x_mt 162).2.2.2.1 ∈ x_Ts := x_r4 (List.mem_of_getElem? (i := 135) rfl) rfl
theorem x_k163 : Cond.code (x_mt 163).1 (x_mt 163).2.1 (x_mt 163).2.2.1 (x_mt 163).2.2.2.1 ∈ x_Ts := x_r4 (List.mem_of_getElem? (i := 139) rfl) rfl
theorem x_k164 : Cond.code (x_mt 164).1 (x_mt 164).2.1 (x_mt 164).2.2.1 (x_mt 164).2.2.2.1 ∈ x_Ts := x_r4 (List.mem_of_getElem? (i := 143) rfl) rfl
theorem x_k165 : Cond.code (x_mt 165).1 (x_mt 165).2.1 (x_mt 165).2.2.1 (x_mt 165).2.2.2.1 ∈ x_Ts := x_r4 (List.mem_of_getElem? (i := 147) rfl) rfl
theorem x_k166 : Cond.code (x_mt 166).1 (x_mt 166).2.1 (x_mt 166).2.2.1 (x_mt 166).2.2.2.1 ∈ x_Ts := x_r4 (List.mem_of_getElem? (i := 151) rfl) rfl
theorem x_k167 : Cond.code (x_mt 167).1 (x_mt 167).2.1 (x_mt 167).2.2.1 (x_mt 167).2.2.2.1 ∈ x_Ts := x_r4 (List.mem_of_getElem? (i := 156) rfl) rfl
theorem x_k168 : Cond.code (x_mt 168).1 (x_mt 168).2.1 (x_mt 168).2.2.1 (x_mt 168).2.2.2.1 ∈ x_Ts := x_r4 (List.mem_of_getElem? (i := 160) rfl) rfl
theorem x_k169 : Cond.code (x_mt 169).1 (x_mt 169).2.1 (x_mt 169).2.2.1 (x_mt 169).2.2.2.1 ∈ x_Ts := x_r4 (List.mem_of_getElem? (i := 164) rfl) rfl
theorem x_k170 : Cond.code (x_mt 170).1 (x_mt 170).2.1 (x_mt 170).2.2.1 (x_mt 170).2.2.2.1 ∈ x_Ts := x_r4 (List.mem_of_getElem? (i := 168) rfl) rfl
theorem x_k171 : Cond.code (x_mt 171).1 (x_mt 171).2.1 (x_mt 171).2.2.1 (x_mt 171).2.2.2.1 ∈ x_Ts := x_r4 (List.mem_of_getElem? (i := 175) rfl) rfl
theorem x_k172 : Cond.code (x_mt 172).1 (x_mt 172).2.1 (x_mt 172).2.2.1 (x_mt 172).2.2.2.1 ∈ x_Ts := x_r4 (List.mem_of_getElem? (i := 179) rfl) rfl
theorem x_k173 : Cond.code (x_mt 173).1 (x_mt 173).2.1 (x_mt 173).2.2.1 (x_mt 173).2.2.2.1 ∈ x_Ts := x_r4 (List.mem_of_getElem? (i := 183) rfl) rfl
theorem x_k174 : Cond.code (x_mt 174).1 (x_mt 174).2.1 (x_mt 174).2.2.1 (x_mt 174).2.2.2.1 ∈ x_Ts := x_r4 (List.mem_of_getElem? (i := 187) rfl) rfl
theorem x_k175 : Cond.code (x_mt 175).1 (x_mt 175).2.1 (x_mt 175).2.2.1 (x_mt 175).2.2.2.1 ∈ x_Ts := x_r4 (List.mem_of_getElem? (i := 191) rfl) rfl
theorem x_k176 : Cond.code (x_mt 176).1 (x_mt 176).2.1 (x_mt 176).2.2.1 (x_mt 176).2.2.2.1 ∈ x_Ts := x_r6 (List.mem_of_getElem? (i := 149) rfl) rfl
theorem x_k177 : Cond.code (x_mt 177).1 (x_mt 177).2.1 (x_mt 177).2.2.1 (x_mt 177).2.2.2.1 ∈ x_Ts := x_r6 (List.mem_of_getElem? (i := 153) rfl) rfl
theorem x_k178 : Cond.code (x_mt 178).1 (x_mt 178).2.1 (x_mt 178).2.2.1 (x_mt 178).2.2.2.1 ∈ x_Ts := x_r6 (List.mem_of_getElem? (i := 157) rfl) rfl
theorem x_k179 : Cond.code (x_mt 179).1 (x_mt 179).2.1 (x_mt 179).2.2.1 (x_mt 179).2.2.2.1 ∈ x_Ts := x_r6 (List.mem_of_getElem? (i := 161) rfl) rfl
theorem x_k180 : Cond.code (x_mt 180).1 (x_mt 180).2.1 (x_mt 180).2.2.1 (x_mt 180).2.2.2.1 ∈ x_Ts := x_r6 (List.mem_of_getElem? (i := 165) rfl) rfl
theorem x_k181 : Cond.code (x_mt 181).1 (x_mt 181).2.1 (x_mt 181).2.2.1 (x_mt 181).2.2.2.1 ∈ x_Ts := x_r6 (List.mem_of_getElem? (i := 169) rfl) rfl
theorem x_k182 : Cond.code (x_mt 182).1 (x_mt 182).2.1 (x_mt 182).2.2.1 (x_mt 182).2.2.2.1 ∈ x_Ts := x_r6 (List.mem_of_getElem? (i := 173) rfl) rfl
theorem x_k183 : Cond.code (x_mt 183).1 (x_mt 183).2.1 (x_mt 183).2.2.1 (x_mt 183).2.2.2.1 ∈ x_Ts := x_r6 (List.mem_of_getElem? (i := 177) rfl) rfl
theorem x_k184 : Cond.code (x_mt 184).1 (x_mt 184).2.1 (x_mt 184).2.2.1 (x_mt 184).2.2.2.1 ∈ x_Ts := x_r6 (List.mem_of_getElem? (i := 181) rfl) rfl
theorem x_k185 : Cond.code (x_mt 185).1 (x_mt 185).2.1 (x_mt 185).2.2.1 (x_mt 185).2.2.2.1 ∈ x_Ts := x_r6 (List.mem_of_getElem? (i := 185) rfl) rfl
theorem x_k186 : Cond.code (x_mt 186).1 (x_mt 186).2.1 (x_mt 186).2.2.1 (x_mt 186).2.2.2.1 ∈ x_Ts := x_r6 (List.mem_of_getElem? (i := 189) rfl) rfl
theorem x_k187 : Cond.code (x_mt 187).1 (x_mt 187).2.1 (x_mt 187).2.2.1 (x_mt 187).2.2.2.1 ∈ x_Ts := x_r6 (List.mem_of_getElem? (i := 193) rfl) rfl
theorem x_k188 : Cond.code (x_mt 188).1 (x_mt 188).2.1 (x_mt 188).2.2.1 (x_mt 188).2.2.2.1 ∈ x_Ts := x_r6 (List.mem_of_getElem? (i := 197) rfl) rfl
theorem x_k189 : Cond.code (x_mt 189).1 (x_mt 189).2.1 (x_mt 189).2.2.1 (x_mt 189).2.2.2.1 ∈ x_Ts := x_r6 (List.mem_of_getElem? (i := 201) rfl) rfl
theorem x_k190 : Cond.code (x_mt 190).1 (x_mt 190).2.1 (x_mt 190).2.2.1 (x_mt 190).2.2.2.1 ∈ x_Ts := x_r6 (List.mem_of_getElem? (i := 205) rfl) rfl
theorem x_k191 : Cond.code (x_mt 191).1 (x_mt 191).2.1 (x_mt 191).2.2.1 (x_mt 191).2.2.2.1 ∈ x_Ts := x_r6 (List.mem_of_getElem? (i := 209) rfl) rfl
def x_css : List (Nat × Nat × Nat × Nat) := [(6, 138, 32, 3), (6, 142, 34, 1), (1, 173, 33, 1), (1, 176, 34, 1), (5, 31, 36, 1), (11, 128, 45, 1), (11, 149, 53, 1), (6, 133, 68, 2), (7, 44, 77, 2), (7, 51, 79, 2), (9, 54, 33, 1), (9, 72, 68, 2), (8, 82, 33, 1), (8, 92, 34, 1), (8, 98, 68, 2), (9, 82, 34, 1), (1, 149, 68, 2), (10, 92, 33, 1), (10, 101, 32, 3), (10, 105, 34, 1)]
def x_cssP (q : Nat × Nat × Nat × Nat) : Prop := x_CallS x_Ts x_Nw (x_on q.1) q.2.1 (x_mt q.2.2.1).1 (x_mt q.2.2.1).2.1 (x_mt q.2.2.1).2.2.1 (x_mt q.2.2.1).2.2.2.1 q.2.2.2
theorem x_css0 : x_cssP (6, 138, 32, 3) := x_CallS_nest x_TsG x_k32 (List.mem_of_getElem? (i := 4) rfl) (x_r3 (List.mem_of_getElem? (i := 38) rfl) rfl) (x_r1 (List.mem_of_getElem? (i := 1) rfl) rfl) ⟨by decide, by decide, by decide +kernel⟩
theorem x_css1 : x_cssP (6, 142, 34, 1) := x_CallS_nest x_TsG x_k34 (List.mem_of_getElem? (i := 5) rfl) (x_r3 (List.mem_of_getElem? (i := 44) rfl) rfl) (x_r1 (List.mem_of_getElem? (i := 1) rfl) rfl) ⟨by decide, by decide, by decide +kernel⟩
theorem x_css2 : x_cssP (1, 173, 33, 1) := x_CallS_own x_TsG x_k33 (x_r3 (List.mem_of_getElem? (i := 40) rfl) rfl) (x_r3 (List.mem_of_getElem? (i := 41) rfl) rfl) (x_r1 (List.mem_of_getElem? (i := 1) rfl) rfl) ⟨by decide, by decide, by decide +kernel⟩
theorem x_css3 : x_cssP (1, 176, 34, 1) := x_CallS_own x_TsG x_k34 (x_r3 (List.mem_of_getElem? (i := 43) rfl) rfl) (x_r3 (List.mem_of_getElem? (i := 44) rfl) rfl) (x_r1 (List.mem_of_getElem? (i := 1) rfl) rfl) ⟨by decide, by decide, by decide +kernel⟩
theorem x_css4 : x_cssP (5, 31, 36, 1) := x_CallS_own x_TsG x_k36 (x_r3 (List.mem_of_getElem? (i := 54) rfl) rfl) (x_r3 (List.mem_of_getElem? (i := 55) rfl) rfl) (x_r1 (List.mem_of_getElem? (i := 5) rfl) rfl) ⟨by decide, by decide, by decide +kernel⟩
theorem x_css5 : x_cssP (11, 128, 45, 1) := x_CallS_own x_TsG x_k45 (x_r5 (List.mem_of_getElem? (i := 160) rfl) rfl) (x_r5 (List.mem_of_getElem? (i := 161) rfl) rfl) (x_r1 (List.mem_of_getElem? (i := 11) rfl) rfl) ⟨by decide, by decide, by decide +kernel⟩
theorem x_css6 : x_cssP (11, 149, 53, 1) := x_CallS_own x_TsG x_k53 (x_r5 (List.mem_of_getElem? (i := 191) rfl) rfl) (x_r5 (List.mem_of_getElem? (i := 192) rfl) rfl) (x_r1 (List.mem_of_getElem? (i := 11) rfl) rfl) ⟨by decide, by decide, by decide +kernel⟩
theorem x_css7 : x_cssP (6, 133, 68, 2) := x_CallS_nest x_TsG x_k68 (List.mem_of_getElem? (i := 6) rfl) (x_r2 (List.mem_of_getElem? (i := 143) rfl) rfl) (x_r1 (List.mem_of_getElem? (i := 1) rfl) rfl) ⟨by decide, by decide, by decide +kernel⟩
theorem x_css8 : x_cssP (7, 44, 77, 2) := x_CallS_own x_TsG x_k77 (x_r3 (List.mem_of_getElem? (i := 235) rfl) rfl) (x_r3 (List.mem_of_getElem? (i := 236) rfl) rfl) (x_r1 (List.mem_of_getElem? (i := 7) rfl) rfl) ⟨by decide, by decide, by decide +kernel⟩
theorem x_css9 : x_cssP (7, 51, 79, 2) := x_CallS_own x_TsG x_k79 (x_r4 (List.mem_of_getElem? (i := 2) rfl) rfl) (x_r4 (List.mem_of_getElem? (i := 3) rfl) rfl) (x_r1 (List.mem_of_getElem? (i := 7) rfl) rfl) ⟨by decide, by decide, by decide +kernel⟩
theorem x_css10 : x_cssP (9, 54, 33, 1) := x_CallS_nest x_TsG x_k33 (List.mem_of_getElem? (i := 7) rfl) (x_r3 (List.mem_of_getElem? (i := 41) rfl) rfl) (x_r1 (List.mem_of_getElem? (i := 1) rfl) rfl) ⟨by decide, by decide, by decide +kernel⟩
theorem x_css11 : x_cssP (9, 72, 68, 2) := x_CallS_nest x_TsG x_k68 (List.mem_of_getElem? (i := 8) rfl) (x_r2 (List.mem_of_getElem? (i := 143) rfl) rfl) (x_r1 (List.mem_of_getElem? (i := 1) rfl) rfl) ⟨by decide, by decide, by decide +kernel⟩
theorem x_css12 : x_cssP (8, 82, 33, 1) := x_CallS_nest x_TsG x_k33 (List.mem_of_getElem? (i := 9) rfl) (x_r3 (List.mem_of_getElem? (i := 41) rfl) rfl) (x_r1 (List.mem_of_getElem? (i := 1) rfl) rfl) ⟨by decide, by decide, by decide +kernel⟩
theorem x_css13 : x_cssP (8, 92, 34, 1) := x_CallS_nest x_TsG x_k34 (List.mem_of_getElem? (i := 10) rfl) (x_r3 (List.mem_of_getElem? (i := 44) rfl) rfl) (x_r1 (List.mem_of_getElem? (i := 1) rfl) rfl) ⟨by decide, by decide, by decide +kernel⟩
theorem x_css14 : x_cssP (8, 98, 68, 2) := x_CallS_nest x_TsG x_k68 (List.mem_of_getElem? (i := 11) rfl) (x_r2 (List.mem_of_getElem? (i := 143) rfl) rfl) (x_r1 (List.mem_of_getElem? (i := 1) rfl) rfl) ⟨by decide, by decide, by decide +kernel⟩
theorem x_css15 : x_cssP (9, 82, 34, 1) := x_CallS_nest x_TsG x_k34 (List.mem_of_getElem? (i := 12) rfl) (x_r3 (List.mem_of_getElem? (i := 44) rfl) rfl) (x_r1 (List.mem_of_getElem? (i := 1) rfl) rfl) ⟨by decide, by decide, by decide +kernel⟩
theorem x_css16 : x_cssP (1, 149, 68, 2) := x_CallS_own x_TsG x_k68 (x_r2 (List.mem_of_getElem? (i := 142) rfl) rfl) (x_r2 (List.mem_of_getElem? (i := 143) rfl) rfl) (x_r1 (List.mem_of_getElem? (i := 1) rfl) rfl) ⟨by decide, by decide, by decide +kernel⟩
theorem x_css17 : x_cssP (10, 92, 33, 1) := x_CallS_nest x_TsG x_k33 (List.mem_of_getElem? (i := 15) rfl) (x_r3 (List.mem_of_getElem? (i := 41) rfl) rfl) (x_r1 (List.mem_of_getElem? (i := 1) rfl) rfl) ⟨by decide, by decide, by decide +kernel⟩
theorem x_css18 : x_cssP (10, 101, 32, 3) := x_CallS_nest x_TsG x_k32 (List.mem_of_getElem? (i := 13) rfl) (x_r3 (List.mem_of_getElem? (i := 38) rfl) rfl) (x_r1 (List.mem_of_getElem? (i := 1) rfl) rfl) ⟨by decide, by decide, by decide +kernel⟩
theorem x_css19 : x_cssP (10, 105, 34, 1) := x_CallS_nest x_TsG x_k34 (List.mem_of_getElem? (i := 14) rfl) (x_r3 (List.mem_of_getElem? (i := 44) rfl) rfl) (x_r1 (List.mem_of_getElem? (i := 1) rfl) rfl) ⟨by decide, by decide, by decide +kernel⟩
theorem x_css_ok : ∀ q ∈ x_css, x_cssP q := by
  unfold x_css
  refine List.forall_mem_cons.mpr ⟨x_css0, ?_⟩
  refine List.forall_mem_cons.mpr ⟨x_css1, ?_⟩
  refine List.forall_mem_cons.mpr ⟨x_css2, ?_⟩
  refine List.forall_mem_cons.mpr ⟨x_css3, ?_⟩
  refine List.forall_mem_cons.mpr ⟨x_css4, ?_⟩
  refine List.forall_mem_cons.mpr ⟨x_css5, ?_⟩
  refine List.forall_mem_cons.mpr ⟨x_css6, ?_⟩
  refine List.forall_mem_cons.mpr ⟨x_css7, ?_⟩
  refine List.forall_mem_cons.mpr ⟨x_css8, ?_⟩
  refine List.forall_mem_cons.mpr ⟨x_css9, ?_⟩
  refine List.forall_mem_cons.mpr ⟨x_css10, ?_⟩
  refine List.forall_mem_cons.mpr ⟨x_css11, ?_⟩
  refine List.forall_mem_cons.mpr ⟨x_css12, ?_⟩
  refine List.forall_mem_cons.mpr ⟨x_css13, ?_⟩
  refine List.forall_mem_cons.mpr ⟨x_css14, ?_⟩
  refine List.forall_mem_cons.mpr ⟨x_css15, ?_⟩
  refine List.forall_mem_cons.mpr ⟨x_css16, ?_⟩
  refine List.forall_mem_cons.mpr ⟨x_css17, ?_⟩
  refine List.forall_mem_cons.mpr ⟨x_css18, ?_⟩
  refine List.forall_mem_cons.mpr ⟨x_css19, ?_⟩
  exact fun _ h => absurd h List.not_mem_nil
def x_cis : List (Nat × Nat × Nat × Nat) := [(0, 36, 1, 1), (0, 39, 11, 1), (1, 9, 2, 1), (1, 18, 3, 2), (1, 27, 5, 2), (1, 34, 6, 1), (1, 44, 7, 1), (1, 54, 8, 2), (1, 63, 10, 2), (3, 3, 4, 2), (5, 3, 4, 2), (8, 24, 7, 1), (8, 49, 9, 2)]
def x_cisP (q : Nat × Nat × Nat × Nat) : Prop := (x_mt q.2.2.1).2.2.2.1 = none ∧ x_CallI x_Ts x_Nw (x_on q.1) q.2.1 (x_mt q.2.2.1).1 (x_mt q.2.2.1).2.1 (x_mt q.2.2.1).2.2.1 q.2.2.2
theorem x_cis0 : x_cisP (0, 36, 1, 1) := ⟨rfl, x_CallI_own x_TsG x_k1 (x_r1 (List.mem_of_getElem? (i := 26) rfl) rfl) (x_r1 (List.mem_of_getElem? (i := 27) rfl) rfl) (x_r1 (List.mem_of_getElem? (i := 1) rfl) rfl) rfl ⟨by decide, by decide, by decide +kernel⟩⟩
theorem x_cis1 : x_cisP (0, 39, 11, 1) := ⟨rfl, x_CallI_own x_TsG x_k11 (x_r4 (List.mem_of_getElem? (i := 194) rfl) rfl) (x_r4 (List.mem_of_getElem? (i := 195) rfl) rfl) (x_r1 (List.mem_of_getElem? (i := 11) rfl) rfl) rfl ⟨by decide, by decide, by decide +kernel⟩⟩
theorem x_cis2 : x_cisP (1, 9, 2, 1) := ⟨rfl, x_CallI_nest x_TsG x_k2 (List.mem_of_getElem? (i := 0) rfl) (x_r1 (List.mem_of_getElem? (i := 35) rfl) rfl) (x_r1 (List.mem_of_getElem? (i := 2) rfl) rfl) rfl ⟨by decide, by decide, by decide +kernel⟩⟩
theorem x_cis3 : x_cisP (1, 18, 3, 2) := ⟨rfl, x_CallI_own x_TsG x_k3 (x_r1 (List.mem_of_getElem? (i := 48) rfl) rfl) (x_r1 (List.mem_of_getElem? (i := 49) rfl) rfl) (x_r1 (List.mem_of_getElem? (i := 4) rfl) rfl) rfl ⟨by decide, by decide, by decide +kernel⟩⟩
theorem x_cis4 : x_cisP (1, 27, 5, 2) := ⟨rfl, x_CallI_own x_TsG x_k5 (x_r1 (List.mem_of_getElem? (i := 92) rfl) rfl) (x_r1 (List.mem_of_getElem? (i := 93) rfl) rfl) (x_r1 (List.mem_of_getElem? (i := 5) rfl) rfl) rfl ⟨by decide, by decide, by decide +kernel⟩⟩
theorem x_cis5 : x_cisP (1, 34, 6, 1) := ⟨rfl, x_CallI_nest x_TsG x_k6 (List.mem_of_getElem? (i := 1) rfl) (x_r1 (List.mem_of_getElem? (i := 104) rfl) rfl) (x_r1 (List.mem_of_getElem? (i := 6) rfl) rfl) rfl ⟨by decide, by decide, by decide +kernel⟩⟩
theorem x_cis6 : x_cisP (1, 44, 7, 1) := ⟨rfl, x_CallI_nest x_TsG x_k7 (List.mem_of_getElem? (i := 2) rfl) (x_r1 (List.mem_of_getElem? (i := 178) rfl) rfl) (x_r1 (List.mem_of_getElem? (i := 7) rfl) rfl) rfl ⟨by decide, by decide, by decide +kernel⟩⟩
theorem x_cis7 : x_cisP (1, 54, 8, 2) := ⟨rfl, x_CallI_own x_TsG x_k8 (x_r1 (List.mem_of_getElem? (i := 197) rfl) rfl) (x_r1 (List.mem_of_getElem? (i := 198) rfl) rfl) (x_r1 (List.mem_of_getElem? (i := 8) rfl) rfl) rfl ⟨by decide, by decide, by decide +kernel⟩⟩
theorem x_cis8 : x_cisP (1, 63, 10, 2) := ⟨rfl, x_CallI_own x_TsG x_k10 (x_r2 (List.mem_of_getElem? (i := 37) rfl) rfl) (x_r2 (List.mem_of_getElem? (i := 38) rfl) rfl) (x_r1 (List.mem_of_getElem? (i := 10) rfl) rfl) rfl ⟨by decide, by decide, by decide +kernel⟩⟩
theorem x_cis9 : x_cisP (3, 3, 4, 2) := ⟨rfl, x_CallI_own x_TsG x_k4 (x_r1 (List.mem_of_getElem? (i := 51) rfl) rfl) (x_r1 (List.mem_of_getElem? (i := 52) rfl) rfl) (x_r1 (List.mem_of_getElem? (i := 3) rfl) rfl) rfl ⟨by decide, by decide, by decide +kernel⟩⟩
theorem x_cis10 : x_cisP (5, 3, 4, 2) := ⟨rfl, x_CallI_own x_TsG x_k4 (x_r1 (List.mem_of_getElem? (i := 95) rfl) rfl) (x_r1 (List.mem_of_getElem? (i := 52) rfl) rfl) (x_r1 (List.mem_of_getElem? (i := 3) rfl) rfl) rfl ⟨by decide, by decide, by decide +kernel⟩⟩
theorem x_cis11 : x_cisP (8, 24, 7, 1) := ⟨rfl, x_CallI_nest x_TsG x_k7 (List.mem_of_getElem? (i := 3) rfl) (x_r1 (List.mem_of_getElem? (i := 178) rfl) rfl) (x_r1 (List.mem_of_getElem? (i := 7) rfl) rfl) rfl ⟨by decide, by decide, by decide +kernel⟩⟩
theorem x_cis12 : x_cisP (8, 49, 9, 2) := ⟨rfl, x_CallI_own x_TsG x_k9 (x_r1 (List.mem_of_getElem? (i := 205) rfl) rfl) (x_r1 (List.mem_of_getElem? (i := 206) rfl) rfl) (x_r1 (List.mem_of_getElem? (i := 9) rfl) rfl) rfl ⟨by decide, by decide, by decide +kernel⟩⟩
theorem x_cis_ok : ∀ q ∈ x_cis, x_cisP q := by
  unfold x_cis
  refine List.forall_mem_cons.mpr ⟨x_cis0, ?_⟩
  refine List.forall_mem_cons.mpr ⟨x_cis1, ?_⟩
  refine List.forall_mem_cons.mpr ⟨x_cis2, ?_⟩
  refine List.forall_mem_cons.mpr ⟨x_cis3, ?_⟩
  refine List.forall_mem_cons.mpr ⟨x_cis4, ?_⟩
  refine List.forall_mem_cons.mpr ⟨x_cis5, ?_⟩
  refine List.forall_mem_cons.mpr ⟨x_cis6, ?_⟩
  refine List.forall_mem_cons.mpr ⟨x_cis7, ?_⟩
  refine List.forall_mem_cons.mpr ⟨x_cis8, ?_⟩
  refine List.forall_mem_cons.mpr ⟨x_cis9, ?_⟩
  refine List.forall_mem_cons.mpr ⟨x_cis10, ?_⟩
  refine List.forall_mem_cons.mpr ⟨x_cis11, ?_⟩
  refine List.forall_mem_cons.mpr ⟨x_cis12, ?_⟩
  exact fun _ h => absurd h List.not_mem_nil
def x_cvs : List (Nat × Nat × Nat × Nat) := [(0, 42, 12, 3), (0, 46, 14, 3), (0, 47, 15, 1), (0, 50, 17, 1), (0, 56, 41, 1), (0, 57, 56, 1), (0, 63, 69, 2), (0, 66, 81, 1), (0, 67, 86, 1), (0, 70, 87, 1), (0, 71, 88, 1), (0, 74, 89, 1), (0, 75, 90, 3), (0, 79, 91, 3), (0, 82, 99, 1), (0, 85, 114, 1), (0, 88, 139, 1), (0, 89, 150, 2), (0, 93, 151, 2), (0, 94, 152, 2), (0, 98, 153, 2), (0, 99, 154, 1), (0, 102, 155, 1), (0, 103, 156, 2), (0, 106, 157, 2), (0, 107, 158, 3), (0, 111, 160, 3), (0, 114, 176, 1), (1, 74, 13, 3), (1, 78, 16, 1), (0, 7, 19, 1), (1, 82, 20, 2), (1, 89, 39, 1), (1, 92, 40, 1), (6, 55, 21, 1), (6, 63, 23, 1), (6, 68, 29, 2), (6, 80, 30, 3), (3, 19, 24, 1), (3, 25, 25, 2), (3, 32, 27, 2), (3, 60, 26, 2), (3, 67, 28, 2), (6, 84, 31, 2), (6, 88, 38, 1), (5, 19, 26, 2), (5, 34, 37, 2), (5, 57, 24, 1), (11, 178, 42, 1), (11, 193, 54, 3), (11, 206, 55, 1), (11, 172, 43, 1), (11, 175, 51, 2), (11, 142, 44, 1), (11, 162, 46, 2), (11, 165, 47, 1), (11, 168, 48, 3), (11, 155, 49, 1), (11, 146, 50, 1), (11, 159, 52, 2), (0, 15, 58, 2), (1, 105, 59, 3), (6, 91, 60, 2), (6, 108, 63, 2), (6, 117, 66, 3), (3, 39, 23, 1), (5, 53, 35, 1), (6, 127, 67, 3), (11, 216, 70, 1), (11, 219, 72, 2), (11, 209, 71, 3), (11, 212, 73, 3), (0, 21, 75, 1), (1, 112, 76, 2), (1, 115, 80, 1), (7, 30, 40, 1), (7, 38, 23, 1), (7, 26, 78, 2), (11, 232, 82, 1), (11, 235, 85, 1), (11, 225, 83, 2), (11, 229, 84, 1), (0, 24, 93, 1), (1, 134, 94, 2), (8, 64, 95, 5), (9, 45, 96, 2), (9, 65, 97, 2), (9, 62, 98, 2), (11, 277, 100, 1), (11, 274, 101, 2), (11, 259, 102, 1), (11, 262, 103, 1), (11, 250, 104, 1), (11, 244, 105, 2), (11, 256, 107, 2), (11, 241, 106, 2), (0, 27, 109, 1), (1, 138, 110, 2), (8, 68, 94, 2), (8, 75, 111, 4), (8, 102, 112, 4), (9, 58, 113, 3), (11, 292, 115, 2), (11, 280, 116, 2), (11, 283, 117, 1), (11, 286, 118, 3), (11, 289, 122, 2), (11, 265, 119, 1), (11, 268, 120, 3), (11, 271, 121, 1), (0, 30, 124, 1), (1, 141, 125, 3), (8, 106, 126, 3), (8, 110, 127, 3), (8, 114, 131, 3), (8, 117, 133, 2), (8, 121, 138, 1), (8, 127, 40, 1), (8, 133, 128, 1), (8, 142, 129, 2), (8, 146, 130, 1), (8, 158, 78, 2), (8, 154, 132, 3), (8, 167, 134, 4), (8, 171, 135, 4), (8, 175, 136, 4), (7, 22, 137, 2), (11, 322, 140, 2), (11, 325, 148, 1), (11, 328, 149, 4), (11, 313, 141, 2), (11, 319, 143, 2), (11, 298, 142, 2), (11, 316, 144, 2), (11, 307, 145, 2), (11, 310, 146, 3), (11, 304, 147, 2), (1, 162, 137, 2), (1, 166, 159, 3), (0, 33, 162, 1), (1, 170, 163, 3), (10, 52, 164, 3), (10, 59, 166, 2), (10, 63, 137, 2), (10, 66, 167, 2), (10, 70, 169, 3), (10, 81, 165, 3), (10, 85, 168, 2), (10, 88, 170, 1), (10, 95, 171, 1), (10, 98, 173, 3), (10, 108, 172, 2), (10, 111, 174, 2), (10, 114, 175, 2), (11, 370, 177, 1), (11, 373, 179, 2), (11, 376, 181, 2), (11, 379, 183, 4), (11, 361, 178, 3), (11, 332, 180, 2), (11, 338, 182, 2), (11, 364, 184, 2), (11, 367, 185, 4), (11, 347, 186, 2), (11, 357, 188, 4), (11, 341, 187, 2), (11, 350, 189, 3), (11, 353, 190, 5), (11, 344, 191, 3)]
def x_cvsP (q : Nat × Nat × Nat × Nat) : Prop := x_prog.2.2.2.1 q.2.2.1 < 90 ∧ x_cts[x_prog.2.2.2.1 q.2.2.1]? = some (x_ct (x_prog.2.2.2.1 q.2.2.1)) ∧ x_CallV x_Ts x_Nw (x_on q.1) q.2.1 (x_ct (x_prog.2.2.2.1 q.2.2.1)).1 (x_mt q.2.2.1).1 (x_mt q.2.2.1).2.1 (x_mt q.2.2.1).2.2.1 (x_mt q.2.2.1).2.2.2.1 q.2.2.2
theorem x_cvs0 : x_cvsP (0, 42, 12, 3) := ⟨by decide, rfl, x_CallV_own x_TsG x_k12 (x_r2 (List.mem_of_getElem? (i := 110) rfl) rfl) (x_r2 (List.mem_of_getElem? (i := 111) rfl) rfl) (x_r1 (List.mem_of_getElem? (i := 1) rfl) rfl) (x_r2 (List.mem_of_getElem? (i := 112) rfl) rfl) ⟨by decide, by decide, by decide +kernel⟩⟩
theorem x_cvs1 : x_cvsP (0, 46, 14, 3) := ⟨by decide, rfl, x_CallV_own x_TsG x_k14 (x_r5 (List.mem_of_getElem? (i := 131) rfl) rfl) (x_r5 (List.mem_of_getElem? (i := 132) rfl) rfl) (x_r1 (List.mem_of_getElem? (i := 11) rfl) rfl) (x_r5 (List.mem_of_getElem? (i := 133) rfl) rfl) ⟨by decide, by decide, by decide +kernel⟩⟩
theorem x_cvs2 : x_cvsP (0, 47, 15, 1) := ⟨by decide, rfl, x_CallV_own x_TsG x_k15 (x_r2 (List.mem_of_getElem? (i := 118) rfl) rfl) (x_r2 (List.mem_of_getElem? (i := 119) rfl) rfl) (x_r1 (List.mem_of_getElem? (i := 1) rfl) rfl) (x_r2 (List.mem_of_getElem? (i := 120) rfl) rfl) ⟨by decide, by decide, by decide +kernel⟩⟩
theorem x_cvs3 : x_cvsP (0, 50, 17, 1) := ⟨by decide, rfl, x_CallV_own x_TsG x_k17 (x_r5 (List.mem_of_getElem? (i := 136) rfl) rfl) (x_r5 (List.mem_of_getElem? (i := 137) rfl) rfl) (x_r1 (List.mem_of_getElem? (i := 11) rfl) rfl) (x_r5 (List.mem_of_getElem? (i := 138) rfl) rfl) ⟨by decide, by decide, by decide +kernel⟩⟩
theorem x_cvs4 : x_cvsP (0, 56, 41, 1) := ⟨by decide, rfl, x_CallV_own x_TsG x_k41 (x_r5 (List.mem_of_getElem? (i := 144) rfl) rfl) (x_r5 (List.mem_of_getElem? (i := 145) rfl) rfl) (x_r1 (List.mem_of_getElem? (i := 11) rfl) rfl) (x_r5 (List.mem_of_getElem? (i := 146) rfl) rfl) ⟨by decide, by decide, by decide +kernel⟩⟩
theorem x_cvs5 : x_cvsP (0, 57, 56, 1) := ⟨by decide, rfl, x_CallV_own x_TsG x_k56 (x_r5 (List.mem_of_getElem? (i := 127) rfl) rfl) (x_r5 (List.mem_of_getElem? (i := 128) rfl) rfl) (x_r1 (List.mem_of_getElem? (i := 11) rfl) rfl) (x_r5 (List.mem_of_getElem? (i := 129) rfl) rfl) ⟨by decide, by decide, by decide +kernel⟩⟩
theorem x_cvs6 : x_cvsP (0, 63, 69, 2) := ⟨by decide, rfl, x_CallV_own x_TsG x_k69 (x_r5 (List.mem_of_getElem? (i := 202) rfl) rfl) (x_r5 (List.mem_of_getElem? (i := 203) rfl) rfl) (x_r1 (List.mem_of_getElem? (i := 11) rfl) rfl) (x_r5 (List.mem_of_getElem? (i := 204) rfl) rfl) ⟨by decide, by decide, by decide +kernel⟩⟩
theorem x_cvs7 : x_cvsP (0, 66, 81, 1) := ⟨by decide, rfl, x_CallV_own x_TsG x_k81 (x_r5 (List.mem_of_getElem? (i := 222) rfl) rfl) (x_r5 (List.mem_of_getElem? (i := 223) rfl) rfl) (x_r1 (List.mem_of_getElem? (i := 11) rfl) rfl) (x_r5 (List.mem_of_getElem? (i := 224) rfl) rfl) ⟨by decide, by decide, by decide +kernel⟩⟩
theorem x_cvs8 : x_cvsP (0, 67, 86, 1) := ⟨by decide, rfl, x_CallV_own x_TsG x_k86 (x_r2 (List.mem_of_getElem? (i := 126) rfl) rfl) (x_r2 (List.mem_of_getElem? (i := 127) rfl) rfl) (x_r1 (List.mem_of_getElem? (i := 1) rfl) rfl) (x_r2 (List.mem_of_getElem? (i := 128) rfl) rfl) ⟨by decide, by decide, by decide +kernel⟩⟩
theorem x_cvs9 : x_cvsP (0, 70, 87, 1) := ⟨by decide, rfl, x_CallV_own x_TsG x_k87 (x_r5 (List.mem_of_getElem? (i := 140) rfl) rfl) (x_r5 (List.mem_of_getElem? (i := 141) rfl) rfl) (x_r1 (List.mem_of_getElem? (i := 11) rfl) rfl) (x_r5 (List.mem_of_getElem? (i := 142) rfl) rfl) ⟨by decide, by decide, by decide +kernel⟩⟩
theorem x_cvs10 : x_cvsP (0, 71, 88, 1) := ⟨by decide, rfl, x_CallV_own x_TsG x_k88 (x_r2 (List.mem_of_getElem? (i := 130) rfl) rfl) (x_r2 (List.mem_of_getElem? (i := 131) rfl) rfl) (x_r1 (List.mem_of_getElem? (i := 1) rfl) rfl) (x_r2 (List.mem_of_getElem? (i := 132) rfl) rfl) ⟨by decide, by decide, by decide +kernel⟩⟩
theorem x_cvs11 : x_cvsP (0, 74, 89, 1) := ⟨by decide, rfl, x_CallV_own x_TsG x_k89 (x_r6 (List.mem_of_getElem? (i := 2) rfl) rfl) (x_r6 (List.mem_of_getElem? (i := 3) rfl) rfl) (x_r1 (List.mem_of_getElem? (i := 11) rfl) rfl) (x_r6 (List.mem_of_getElem? (i := 4) rfl) rfl) ⟨by decide, by decide, by decide +kernel⟩⟩
theorem x_cvs12 : x_cvsP (0, 75, 90, 3) := ⟨by decide, rfl, x_CallV_own x_TsG x_k90 (x_r2 (List.mem_of_getElem? (i := 134) rfl) rfl) (x_r2 (List.mem_of_getElem? (i := 135) rfl) rfl) (x_r1 (List.mem_of_getElem? (i := 1) rfl) rfl) (x_r2 (List.mem_of_getElem? (i := 136) rfl) rfl) ⟨by decide, by decide, by decide +kernel⟩⟩
theorem x_cvs13 : x_cvsP (0, 79, 91, 3) := ⟨by decide, rfl, x_CallV_own x_TsG x_k91 (x_r6 (List.mem_of_getElem? (i := 6) rfl) rfl) (x_r6 (List.mem_of_getElem? (i := 7) rfl) rfl) (x_r1 (List.mem_of_getElem? (i := 11) rfl) rfl) (x_r6 (List.mem_of_getElem? (i := 8) rfl) rfl) ⟨by decide, by decide, by decide +kernel⟩⟩
theorem x_cvs14 : x_cvsP (0, 82, 99, 1) := ⟨by decide, rfl, x_CallV_own x_TsG x_k99 (x_r6 (List.mem_of_getElem? (i := 10) rfl) rfl) (x_r6 (List.mem_of_getElem? (i := 11) rfl) rfl) (x_r1 (List.mem_of_getElem? (i := 11) rfl) rfl) (x_r6 (List.mem_of_getElem? (i := 12) rfl) rfl) ⟨by decide, by decide, by decide +kernel⟩⟩
theorem x_cvs15 : x_cvsP (0, 85, 114, 1) := ⟨by decide, rfl, x_CallV_own x_TsG x_k114 (x_r6 (List.mem_of_getElem? (i := 46) rfl) rfl) (x_r6 (List.mem_of_getElem? (i := 47) rfl) rfl) (x_r1 (List.mem_of_getElem? (i := 11) rfl) rfl) (x_r6 (List.mem_of_getElem? (i := 48) rfl) rfl) ⟨by decide, by decide, by decide +kernel⟩⟩
theorem x_cvs16 : x_cvsP (0, 88, 139, 1) := ⟨by decide, rfl, x_CallV_own x_TsG x_k139 (x_r6 (List.mem_of_getElem? (i := 82) rfl) rfl) (x_r6 (List.mem_of_getElem? (i := 83) rfl) rfl) (x_r1 (List.mem_of_getElem? (i := 11) rfl) rfl) (x_r6 (List.mem_of_getElem? (i := 84) rfl) rfl) ⟨by decide, by decide, by decide +kernel⟩⟩
theorem x_cvs17 : x_cvsP (0, 89, 150, 2) := ⟨by decide, rfl, x_CallV_own x_TsG x_k150 (x_r2 (List.mem_of_getElem? (i := 138) rfl) rfl) (x_r2 (List.mem_of_getElem? (i := 139) rfl) rfl) (x_r1 (List.mem_of_getElem? (i := 1) rfl) rfl) (x_r2 (List.mem_of_getElem? (i := 140) rfl) rfl) ⟨by decide, by decide, by decide +kernel⟩⟩
theorem x_cvs18 : x_cvsP (0, 93, 151, 2) := ⟨by decide, rfl, x_CallV_own x_TsG x_k151 (x_r6 (List.mem_of_getElem? (i := 126) rfl) rfl) (x_r6 (List.mem_of_getElem? (i := 127) rfl) rfl) (x_r1 (List.mem_of_getElem? (i := 11) rfl) rfl) (x_r6 (List.mem_of_getElem? (i := 128) rfl) rfl) ⟨by decide, by decide, by decide +kernel⟩⟩
theorem x_cvs19 : x_cvsP (0, 94, 152, 2) := ⟨by decide, rfl, x_CallV_own x_TsG x_k152 (x_r2 (List.mem_of_getElem? (i := 145) rfl) rfl) (x_r2 (List.mem_of_getElem? (i := 146) rfl) rfl) (x_r1 (List.mem_of_getElem? (i := 1) rfl) rfl) (x_r2 (List.mem_of_getElem? (i := 147) rfl) rfl) ⟨by decide, by decide, by decide +kernel⟩⟩
theorem x_cvs20 : x_cvsP (0, 98, 153, 2) := ⟨by decide, rfl, x_CallV_own x_TsG x_k153 (x_r6 (List.mem_of_getElem? (i := 130) rfl) rfl) (x_r6 (List.mem_of_getElem? (i := 131) rfl) rfl) (x_r1 (List.mem_of_getElem? (i := 11) rfl) rfl) (x_r6 (List.mem_of_getElem? (i := 132) rfl) rfl) ⟨by decide, by decide, by decide +kernel⟩⟩
theorem x_cvs21 : x_cvsP (0, 99, 154, 1) := ⟨by decide, rfl, x_CallV_own x_TsG x_k154 (x_r2 (List.mem_of_getElem? (i := 149) rfl) rfl) (x_r2 (List.mem_of_getElem? (i := 150) rfl) rfl) (x_r1 (List.mem_of_getElem? (i := 1) rfl) rfl) (x_r2 (List.mem_of_getElem? (i := 151) rfl) rfl) ⟨by decide, by decide, by decide +kernel⟩⟩
theorem x_cvs22 : x_cvsP (0, 102, 155, 1) := ⟨by decide, rfl, x_CallV_own x_TsG x_k155 (x_r6 (List.mem_of_getElem? (i := 134) rfl) rfl) (x_r6 (List.mem_of_getElem? (i := 135) rfl) rfl) (x_r1 (List.mem_of_getElem? (i := 11) rfl) rfl) (x_r6 (List.mem_of_getElem? (i := 136) rfl) rfl) ⟨by decide, by decide, by decide +kernel⟩⟩
theorem x_cvs23 : x_cvsP (0, 103, 156, 2) := ⟨by decide, rfl, x_CallV_own x_TsG x_k156 (x_r2 (List.mem_of_getElem? (i := 153) rfl) rfl) (x_r2 (List.mem_of_getElem? (i := 154) rfl) rfl) (x_r1 (List.mem_of_getElem? (i := 1) rfl) rfl) (x_r2 (List.mem_of_getElem? (i := 155) rfl) rfl) ⟨by decide, by decide, by decide +kernel⟩⟩
theorem x_cvs24 : x_cvsP (0, 106, 157, 2) := ⟨by decide, rfl, x_CallV_own x_TsG x_k157 (x_r6 (List.mem_of_getElem? (i := 138) rfl) rfl) (x_r6 (List.mem_of_getElem? (i := 139) rfl) rfl) (x_r1 (List.mem_of_getElem? (i := 11) rfl) rfl) (x_r6 (List.mem_of_getElem? (i := 140) rfl) rfl) ⟨by decide, by decide, by decide +kernel⟩⟩
theorem x_cvs25 : x_cvsP (0, 107, 158, 3) := ⟨by decide, rfl, x_CallV_own x_TsG x_k158 (x_r2 (List.mem_of_getElem? (i := 161) rfl) rfl) (x_r2 (List.mem_of_getElem? (i := 162) rfl) rfl) (x_r1 (List.mem_of_getElem? (i := 1) rfl) rfl) (x_r2 (List.mem_of_getElem? (i := 163) rfl) rfl) ⟨by decide, by decide, by decide +kernel⟩⟩
theorem x_cvs26 : x_cvsP (0, 111, 160, 3) := ⟨by decide, rfl, x_CallV_own x_TsG x_k160 (x_r6 (List.mem_of_getElem? (i := 142) rfl) rfl) (x_r6 (List.mem_of_getElem? (i := 143) rfl) rfl) (x_r1 (List.mem_of_getElem? (i := 11) rfl) rfl) (x_r6 (List.mem_of_getElem? (i := 144) rfl) rfl) ⟨by decide, by decide, by decide +kernel⟩⟩
theorem x_cvs27 : x_cvsP (0, 114, 176, 1) := ⟨by decide, rfl, x_CallV_own x_TsG x_k176 (x_r6 (List.mem_of_getElem? (i := 146) rfl) rfl) (x_r6 (List.mem_of_getElem? (i := 147) rfl) rfl) (x_r1 (List.mem_of_getElem? (i := 11) rfl) rfl) (x_r6 (List.mem_of_getElem? (i := 148) rfl) rfl) ⟨by decide, by decide, by decide +kernel⟩⟩
theorem x_cvs28 : x_cvsP (1, 74, 13, 3) := ⟨by decide, rfl, x_CallV_own x_TsG x_k13 (x_r2 (List.mem_of_getElem? (i := 114) rfl) rfl) (x_r2 (List.mem_of_getElem? (i := 115) rfl) rfl) (x_r1 (List.mem_of_getElem? (i := 2) rfl) rfl) (x_r2 (List.mem_of_getElem? (i := 116) rfl) rfl) ⟨by decide, by decide, by decide +kernel⟩⟩
theorem x_cvs29 : x_cvsP (1, 78, 16, 1) := ⟨by decide, rfl, x_CallV_own x_TsG x_k16 (x_r2 (List.mem_of_getElem? (i := 122) rfl) rfl) (x_r2 (List.mem_of_getElem? (i := 123) rfl) rfl) (x_r1 (List.mem_of_getElem? (i := 2) rfl) rfl) (x_r2 (List.mem_of_getElem? (i := 124) rfl) rfl) ⟨by decide, by decide, by decide +kernel⟩⟩
theorem x_cvs30 : x_cvsP (0, 7, 19, 1) := ⟨by decide, rfl, x_CallV_own x_TsG x_k19 (x_r2 (List.mem_of_getElem? (i := 173) rfl) rfl) (x_r2 (List.mem_of_getElem? (i := 174) rfl) rfl) (x_r1 (List.mem_of_getElem? (i := 1) rfl) rfl) (x_r2 (List.mem_of_getElem? (i := 175) rfl) rfl) ⟨by decide, by decide, by decide +kernel⟩⟩
theorem x_cvs31 : x_cvsP (1, 82, 20, 2) := ⟨by decide, rfl, x_CallV_own x_TsG x_k20 (x_r2 (List.mem_of_getElem? (i := 177) rfl) rfl) (x_r2 (List.mem_of_getElem? (i := 178) rfl) rfl) (x_r1 (List.mem_of_getElem? (i := 6) rfl) rfl) (x_r2 (List.mem_of_getElem? (i := 179) rfl) rfl) ⟨by decide, by decide, by decide +kernel⟩⟩
theorem x_cvs32 : x_cvsP (1, 89, 39, 1) := ⟨by decide, rfl, x_CallV_own x_TsG x_k39 (x_r3 (List.mem_of_getElem? (i := 133) rfl) rfl) (x_r3 (List.mem_of_getElem? (i := 135) rfl) rfl) (x_r1 (List.mem_of_getElem? (i := 1) rfl) rfl) (x_tp (q := (⟨"StreamRefuter", "adoptDraft", "()V"⟩, 10)) (List.mem_of_getElem? (i := 9) (by decide +kernel))) ⟨by decide, by decide, by decide +kernel⟩⟩
theorem x_cvs33 : x_cvsP (1, 92, 40, 1) := ⟨by decide, rfl, x_CallV_own x_TsG x_k40 (x_r3 (List.mem_of_getElem? (i := 137) rfl) rfl) (x_r3 (List.mem_of_getElem? (i := 138) rfl) rfl) (x_r1 (List.mem_of_getElem? (i := 7) rfl) rfl) (x_r3 (List.mem_of_getElem? (i := 139) rfl) rfl) ⟨by decide, by decide, by decide +kernel⟩⟩
theorem x_cvs34 : x_cvsP (6, 55, 21, 1) := ⟨by decide, rfl, x_CallV_own x_TsG x_k21 (x_r2 (List.mem_of_getElem? (i := 181) rfl) rfl) (x_r2 (List.mem_of_getElem? (i := 183) rfl) rfl) (x_r1 (List.mem_of_getElem? (i := 6) rfl) rfl) (x_tp (q := (⟨"StreamRefuter$Problem", "forgetAll", "()V"⟩, 13)) (List.mem_of_getElem? (i := 0) (by decide +kernel))) ⟨by decide, by decide, by decide +kernel⟩⟩
theorem x_cvs35 : x_cvsP (6, 63, 23, 1) := ⟨by decide, rfl, x_CallV_own x_TsG x_k23 (x_r2 (List.mem_of_getElem? (i := 191) rfl) rfl) (x_r2 (List.mem_of_getElem? (i := 192) rfl) rfl) (x_r1 (List.mem_of_getElem? (i := 4) rfl) rfl) (x_r2 (List.mem_of_getElem? (i := 193) rfl) rfl) ⟨by decide, by decide, by decide +kernel⟩⟩
theorem x_cvs36 : x_cvsP (6, 68, 29, 2) := ⟨by decide, rfl, x_CallV_own x_TsG x_k29 (x_r2 (List.mem_of_getElem? (i := 216) rfl) rfl) (x_r2 (List.mem_of_getElem? (i := 217) rfl) rfl) (x_r1 (List.mem_of_getElem? (i := 4) rfl) rfl) (x_r2 (List.mem_of_getElem? (i := 218) rfl) rfl) ⟨by decide, by decide, by decide +kernel⟩⟩
theorem x_cvs37 : x_cvsP (6, 80, 30, 3) := ⟨by decide, rfl, x_CallV_own x_TsG x_k30 (x_r3 (List.mem_of_getElem? (i := 29) rfl) rfl) (x_r3 (List.mem_of_getElem? (i := 31) rfl) rfl) (x_r1 (List.mem_of_getElem? (i := 6) rfl) rfl) (x_tp (q := (⟨"StreamRefuter$Problem", "readFormulaClauses", "(LStreamRefuter$Words;I)I"⟩, 13)) (List.mem_of_getElem? (i := 4) (by decide +kernel))) ⟨by decide, by decide, by decide +kernel⟩⟩
theorem x_cvs38 : x_cvsP (3, 19, 24, 1) := ⟨by decide, rfl, x_CallV_own x_TsG x_k24 (x_r2 (List.mem_of_getElem? (i := 195) rfl) rfl) (x_r2 (List.mem_of_getElem? (i := 196) rfl) rfl) (x_r1 (List.mem_of_getElem? (i := 2) rfl) rfl) (x_r2 (List.mem_of_getElem? (i := 197) rfl) rfl) ⟨by decide, by decide, by decide +kernel⟩⟩
theorem x_cvs39 : x_cvsP (3, 25, 25, 2) := ⟨by decide, rfl, x_CallV_own x_TsG x_k25 (x_r2 (List.mem_of_getElem? (i := 199) rfl) rfl) (x_r2 (List.mem_of_getElem? (i := 201) rfl) rfl) (x_r1 (List.mem_of_getElem? (i := 4) rfl) rfl) (x_tp (q := (⟨"StreamRefuter$Words", "isGap", "(I)Z"⟩, 4)) (List.mem_of_getElem? (i := 1) (by decide +kernel))) ⟨by decide, by decide, by decide +kernel⟩⟩
theorem x_cvs40 : x_cvsP (3, 32, 27, 2) := ⟨by decide, rfl, x_CallV_own x_TsG x_k27 (x_r2 (List.mem_of_getElem? (i := 207) rfl) rfl) (x_r2 (List.mem_of_getElem? (i := 209) rfl) rfl) (x_r1 (List.mem_of_getElem? (i := 4) rfl) rfl) (x_tp (q := (⟨"StreamRefuter$Words", "meaning", "(I)I"⟩, 4)) (List.mem_of_getElem? (i := 2) (by decide +kernel))) ⟨by decide, by decide, by decide +kernel⟩⟩
theorem x_cvs41 : x_cvsP (3, 60, 26, 2) := ⟨by decide, rfl, x_CallV_own x_TsG x_k26 (x_r2 (List.mem_of_getElem? (i := 203) rfl) rfl) (x_r2 (List.mem_of_getElem? (i := 204) rfl) rfl) (x_r1 (List.mem_of_getElem? (i := 2) rfl) rfl) (x_r2 (List.mem_of_getElem? (i := 205) rfl) rfl) ⟨by decide, by decide, by decide +kernel⟩⟩
theorem x_cvs42 : x_cvsP (3, 67, 28, 2) := ⟨by decide, rfl, x_CallV_own x_TsG x_k28 (x_r2 (List.mem_of_getElem? (i := 211) rfl) rfl) (x_r2 (List.mem_of_getElem? (i := 213) rfl) rfl) (x_r1 (List.mem_of_getElem? (i := 4) rfl) rfl) (x_tp (q := (⟨"StreamRefuter$Words", "sizeOfDigits", "(I)I"⟩, 4)) (List.mem_of_getElem? (i := 3) (by decide +kernel))) ⟨by decide, by decide, by decide +kernel⟩⟩
theorem x_cvs43 : x_cvsP (6, 84, 31, 2) := ⟨by decide, rfl, x_CallV_own x_TsG x_k31 (x_r3 (List.mem_of_getElem? (i := 33) rfl) rfl) (x_r3 (List.mem_of_getElem? (i := 35) rfl) rfl) (x_r1 (List.mem_of_getElem? (i := 6) rfl) rfl) (x_tp (q := (⟨"StreamRefuter$Problem", "readClause", "(LStreamRefuter$Numbers;)Z"⟩, 13)) (List.mem_of_getElem? (i := 5) (by decide +kernel))) ⟨by decide, by decide, by decide +kernel⟩⟩
theorem x_cvs44 : x_cvsP (6, 88, 38, 1) := ⟨by decide, rfl, x_CallV_own x_TsG x_k38 (x_r3 (List.mem_of_getElem? (i := 63) rfl) rfl) (x_r3 (List.mem_of_getElem? (i := 65) rfl) rfl) (x_r1 (List.mem_of_getElem? (i := 6) rfl) rfl) (x_tp (q := (⟨"StreamRefuter$Problem", "keepClause", "()V"⟩, 13)) (List.mem_of_getElem? (i := 7) (by decide +kernel))) ⟨by decide, by decide, by decide +kernel⟩⟩
theorem x_cvs45 : x_cvsP (5, 19, 26, 2) := ⟨by decide, rfl, x_CallV_own x_TsG x_k26 (x_r3 (List.mem_of_getElem? (i := 53) rfl) rfl) (x_r2 (List.mem_of_getElem? (i := 204) rfl) rfl) (x_r1 (List.mem_of_getElem? (i := 2) rfl) rfl) (x_r2 (List.mem_of_getElem? (i := 205) rfl) rfl) ⟨by decide, by decide, by decide +kernel⟩⟩
theorem x_cvs46 : x_cvsP (5, 34, 37, 2) := ⟨by decide, rfl, x_CallV_own x_TsG x_k37 (x_r3 (List.mem_of_getElem? (i := 57) rfl) rfl) (x_r3 (List.mem_of_getElem? (i := 59) rfl) rfl) (x_r1 (List.mem_of_getElem? (i := 5) rfl) rfl) (x_tp (q := (⟨"StreamRefuter$PackedNumbers", "takeTwoBytes", "(I)V"⟩, 4)) (List.mem_of_getElem? (i := 6) (by decide +kernel))) ⟨by decide, by decide, by decide +kernel⟩⟩
theorem x_cvs47 : x_cvsP (5, 57, 24, 1) := ⟨by decide, rfl, x_CallV_own x_TsG x_k24 (x_r3 (List.mem_of_getElem? (i := 61) rfl) rfl) (x_r2 (List.mem_of_getElem? (i := 196) rfl) rfl) (x_r1 (List.mem_of_getElem? (i := 2) rfl) rfl) (x_r2 (List.mem_of_getElem? (i := 197) rfl) rfl) ⟨by decide, by decide, by decide +kernel⟩⟩
theorem x_cvs48 : x_cvsP (11, 178, 42, 1) := ⟨by decide, rfl, x_CallV_own x_TsG x_k42 (x_r5 (List.mem_of_getElem? (i := 148) rfl) rfl) (x_r5 (List.mem_of_getElem? (i := 150) rfl) rfl) (x_r1 (List.mem_of_getElem? (i := 11) rfl) rfl) (x_tp (q := (⟨"StreamRefuterModel", "readFormula", "()I"⟩, 56)) (List.mem_of_getElem? (i := 41) (by decide +kernel))) ⟨by decide, by decide, by decide +kernel⟩⟩
theorem x_cvs49 : x_cvsP (11, 193, 54, 3) := ⟨by decide, rfl, x_CallV_own x_TsG x_k54 (x_r5 (List.mem_of_getElem? (i := 194) rfl) rfl) (x_r5 (List.mem_of_getElem? (i := 196) rfl) rfl) (x_r1 (List.mem_of_getElem? (i := 11) rfl) rfl) (x_tp (q := (⟨"StreamRefuterModel", "takeOver", "(II)V"⟩, 56)) (List.mem_of_getElem? (i := 51) (by decide +kernel))) ⟨by decide, by decide, by decide +kernel⟩⟩
theorem x_cvs50 : x_cvsP (11, 206, 55, 1) := ⟨by decide, rfl, x_CallV_own x_TsG x_k55 (x_r5 (List.mem_of_getElem? (i := 198) rfl) rfl) (x_r5 (List.mem_of_getElem? (i := 200) rfl) rfl) (x_r1 (List.mem_of_getElem? (i := 11) rfl) rfl) (x_tp (q := (⟨"StreamRefuterModel", "forget", "()V"⟩, 56)) (List.mem_of_getElem? (i := 52) (by decide +kernel))) ⟨by decide, by decide, by decide +kernel⟩⟩
theorem x_cvs51 : x_cvsP (11, 172, 43, 1) := ⟨by decide, rfl, x_CallV_own x_TsG x_k43 (x_r5 (List.mem_of_getElem? (i := 152) rfl) rfl) (x_r5 (List.mem_of_getElem? (i := 154) rfl) rfl) (x_r1 (List.mem_of_getElem? (i := 11) rfl) rfl) (x_tp (q := (⟨"StreamRefuterModel", "heading", "()I"⟩, 56)) (List.mem_of_getElem? (i := 42) (by decide +kernel))) ⟨by decide, by decide, by decide +kernel⟩⟩
theorem x_cvs52 : x_cvsP (11, 175, 51, 2) := ⟨by decide, rfl, x_CallV_own x_TsG x_k51 (x_r5 (List.mem_of_getElem? (i := 183) rfl) rfl) (x_r5 (List.mem_of_getElem? (i := 185) rfl) rfl) (x_r1 (List.mem_of_getElem? (i := 11) rfl) rfl) (x_tp (q := (⟨"StreamRefuterModel", "clause", "(I)I"⟩, 56)) (List.mem_of_getElem? (i := 49) (by decide +kernel))) ⟨by decide, by decide, by decide +kernel⟩⟩
theorem x_cvs53 : x_cvsP (11, 142, 44, 1) := ⟨by decide, rfl, x_CallV_own x_TsG x_k44 (x_r5 (List.mem_of_getElem? (i := 156) rfl) rfl) (x_r5 (List.mem_of_getElem? (i := 158) rfl) rfl) (x_r1 (List.mem_of_getElem? (i := 11) rfl) rfl) (x_tp (q := (⟨"StreamRefuterModel", "word", "()Z"⟩, 56)) (List.mem_of_getElem? (i := 43) (by decide +kernel))) ⟨by decide, by decide, by decide +kernel⟩⟩
theorem x_cvs54 : x_cvsP (11, 162, 46, 2) := ⟨by decide, rfl, x_CallV_own x_TsG x_k46 (x_r5 (List.mem_of_getElem? (i := 163) rfl) rfl) (x_r5 (List.mem_of_getElem? (i := 165) rfl) rfl) (x_r1 (List.mem_of_getElem? (i := 11) rfl) rfl) (x_tp (q := (⟨"StreamRefuterModel", "isLetter", "(I)Z"⟩, 56)) (List.mem_of_getElem? (i := 44) (by decide +kernel))) ⟨by decide, by decide, by decide +kernel⟩⟩
theorem x_cvs55 : x_cvsP (11, 165, 47, 1) := ⟨by decide, rfl, x_CallV_own x_TsG x_k47 (x_r5 (List.mem_of_getElem? (i := 167) rfl) rfl) (x_r5 (List.mem_of_getElem? (i := 169) rfl) rfl) (x_r1 (List.mem_of_getElem? (i := 11) rfl) rfl) (x_tp (q := (⟨"StreamRefuterModel", "isCnf", "()Z"⟩, 56)) (List.mem_of_getElem? (i := 45) (by decide +kernel))) ⟨by decide, by decide, by decide +kernel⟩⟩
theorem x_cvs56 : x_cvsP (11, 168, 48, 3) := ⟨by decide, rfl, x_CallV_own x_TsG x_k48 (x_r5 (List.mem_of_getElem? (i := 171) rfl) rfl) (x_r5 (List.mem_of_getElem? (i := 173) rfl) rfl) (x_r1 (List.mem_of_getElem? (i := 11) rfl) rfl) (x_tp (q := (⟨"StreamRefuterModel", "within", "(II)I"⟩, 56)) (List.mem_of_getElem? (i := 46) (by decide +kernel))) ⟨by decide, by decide, by decide +kernel⟩⟩
theorem x_cvs57 : x_cvsP (11, 155, 49, 1) := ⟨by decide, rfl, x_CallV_own x_TsG x_k49 (x_r5 (List.mem_of_getElem? (i := 175) rfl) rfl) (x_r5 (List.mem_of_getElem? (i := 177) rfl) rfl) (x_r1 (List.mem_of_getElem? (i := 11) rfl) rfl) (x_tp (q := (⟨"StreamRefuterModel", "next", "()I"⟩, 56)) (List.mem_of_getElem? (i := 47) (by decide +kernel))) ⟨by decide, by decide, by decide +kernel⟩⟩
theorem x_cvs58 : x_cvsP (11, 146, 50, 1) := ⟨by decide, rfl, x_CallV_own x_TsG x_k50 (x_r5 (List.mem_of_getElem? (i := 179) rfl) rfl) (x_r5 (List.mem_of_getElem? (i := 181) rfl) rfl) (x_r1 (List.mem_of_getElem? (i := 11) rfl) rfl) (x_tp (q := (⟨"StreamRefuterModel", "isNumber", "()Z"⟩, 56)) (List.mem_of_getElem? (i := 48) (by decide +kernel))) ⟨by decide, by decide, by decide +kernel⟩⟩
theorem x_cvs59 : x_cvsP (11, 159, 52, 2) := ⟨by decide, rfl, x_CallV_own x_TsG x_k52 (x_r5 (List.mem_of_getElem? (i := 187) rfl) rfl) (x_r5 (List.mem_of_getElem? (i := 189) rfl) rfl) (x_r1 (List.mem_of_getElem? (i := 11) rfl) rfl) (x_tp (q := (⟨"StreamRefuterModel", "fits", "(I)Z"⟩, 56)) (List.mem_of_getElem? (i := 50) (by decide +kernel))) ⟨by decide, by decide, by decide +kernel⟩⟩
theorem x_cvs60 : x_cvsP (0, 15, 58, 2) := ⟨by decide, rfl, x_CallV_own x_TsG x_k58 (x_r3 (List.mem_of_getElem? (i := 145) rfl) rfl) (x_r3 (List.mem_of_getElem? (i := 146) rfl) rfl) (x_r1 (List.mem_of_getElem? (i := 1) rfl) rfl) (x_r3 (List.mem_of_getElem? (i := 147) rfl) rfl) ⟨by decide, by decide, by decide +kernel⟩⟩
theorem x_cvs61 : x_cvsP (1, 105, 59, 3) := ⟨by decide, rfl, x_CallV_own x_TsG x_k59 (x_r3 (List.mem_of_getElem? (i := 164) rfl) rfl) (x_r3 (List.mem_of_getElem? (i := 165) rfl) rfl) (x_r1 (List.mem_of_getElem? (i := 6) rfl) rfl) (x_r3 (List.mem_of_getElem? (i := 166) rfl) rfl) ⟨by decide, by decide, by decide +kernel⟩⟩
theorem x_cvs62 : x_cvsP (6, 91, 60, 2) := ⟨by decide, rfl, x_CallV_own x_TsG x_k60 (x_r3 (List.mem_of_getElem? (i := 168) rfl) rfl) (x_r3 (List.mem_of_getElem? (i := 170) rfl) rfl) (x_r1 (List.mem_of_getElem? (i := 6) rfl) rfl) (x_tp (q := (⟨"StreamRefuter$Problem", "copyFormula", "(LStreamRefuter$Problem;)V"⟩, 13)) (List.mem_of_getElem? (i := 10) (by decide +kernel))) ⟨by decide, by decide, by decide +kernel⟩⟩
theorem x_cvs63 : x_cvsP (6, 108, 63, 2) := ⟨by decide, rfl, x_CallV_own x_TsG x_k63 (x_r3 (List.mem_of_getElem? (i := 195) rfl) rfl) (x_r3 (List.mem_of_getElem? (i := 197) rfl) rfl) (x_r1 (List.mem_of_getElem? (i := 6) rfl) rfl) (x_tp (q := (⟨"StreamRefuter$Problem", "mayOpen", "(LStreamRefuter$Opening;)Z"⟩, 13)) (List.mem_of_getElem? (i := 11) (by decide +kernel))) ⟨by decide, by decide, by decide +kernel⟩⟩
theorem x_cvs64 : x_cvsP (6, 117, 66, 3) := ⟨by decide, rfl, x_CallV_own x_TsG x_k66 (x_r3 (List.mem_of_getElem? (i := 211) rfl) rfl) (x_r3 (List.mem_of_getElem? (i := 213) rfl) rfl) (x_r1 (List.mem_of_getElem? (i := 6) rfl) rfl) (x_tp (q := (⟨"StreamRefuter$Problem", "keepStep", "(ILStreamRefuter$Opening;)V"⟩, 13)) (List.mem_of_getElem? (i := 12) (by decide +kernel))) ⟨by decide, by decide, by decide +kernel⟩⟩
theorem x_cvs65 : x_cvsP (3, 39, 23, 1) := ⟨by decide, rfl, x_CallV_own x_TsG x_k23 (x_r3 (List.mem_of_getElem? (i := 190) rfl) rfl) (x_r2 (List.mem_of_getElem? (i := 192) rfl) rfl) (x_r1 (List.mem_of_getElem? (i := 4) rfl) rfl) (x_r2 (List.mem_of_getElem? (i := 193) rfl) rfl) ⟨by decide, by decide, by decide +kernel⟩⟩
theorem x_cvs66 : x_cvsP (5, 53, 35, 1) := ⟨by decide, rfl, x_CallV_own x_TsG x_k35 (x_r3 (List.mem_of_getElem? (i := 207) rfl) rfl) (x_r3 (List.mem_of_getElem? (i := 51) rfl) rfl) (x_r1 (List.mem_of_getElem? (i := 5) rfl) rfl) (x_r6 (List.mem_of_getElem? (i := 215) rfl) rfl) ⟨by decide, by decide, by decide +kernel⟩⟩
theorem x_cvs67 : x_cvsP (6, 127, 67, 3) := ⟨by decide, rfl, x_CallV_own x_TsG x_k67 (x_r3 (List.mem_of_getElem? (i := 215) rfl) rfl) (x_r3 (List.mem_of_getElem? (i := 217) rfl) rfl) (x_r1 (List.mem_of_getElem? (i := 6) rfl) rfl) (x_tp (q := (⟨"StreamRefuter$Problem", "lowestAlike", "(JI)J"⟩, 13)) (List.mem_of_getElem? (i := 13) (by decide +kernel))) ⟨by decide, by decide, by decide +kernel⟩⟩
theorem x_cvs68 : x_cvsP (11, 216, 70, 1) := ⟨by decide, rfl, x_CallV_own x_TsG x_k70 (x_r5 (List.mem_of_getElem? (i := 206) rfl) rfl) (x_r5 (List.mem_of_getElem? (i := 208) rfl) rfl) (x_r1 (List.mem_of_getElem? (i := 11) rfl) rfl) (x_tp (q := (⟨"StreamRefuterModel", "readStream", "()I"⟩, 56)) (List.mem_of_getElem? (i := 53) (by decide +kernel))) ⟨by decide, by decide, by decide +kernel⟩⟩
theorem x_cvs69 : x_cvsP (11, 219, 72, 2) := ⟨by decide, rfl, x_CallV_own x_TsG x_k72 (x_r5 (List.mem_of_getElem? (i := 214) rfl) rfl) (x_r5 (List.mem_of_getElem? (i := 216) rfl) rfl) (x_r1 (List.mem_of_getElem? (i := 11) rfl) rfl) (x_tp (q := (⟨"StreamRefuterModel", "same", "(I)I"⟩, 56)) (List.mem_of_getElem? (i := 55) (by decide +kernel))) ⟨by decide, by decide, by decide +kernel⟩⟩
theorem x_cvs70 : x_cvsP (11, 209, 71, 3) := ⟨by decide, rfl, x_CallV_own x_TsG x_k71 (x_r5 (List.mem_of_getElem? (i := 210) rfl) rfl) (x_r5 (List.mem_of_getElem? (i := 212) rfl) rfl) (x_r1 (List.mem_of_getElem? (i := 11) rfl) rfl) (x_tp (q := (⟨"StreamRefuterModel", "beginning", "(II)I"⟩, 56)) (List.mem_of_getElem? (i := 54) (by decide +kernel))) ⟨by decide, by decide, by decide +kernel⟩⟩
theorem x_cvs71 : x_cvsP (11, 212, 73, 3) := ⟨by decide, rfl, x_CallV_own x_TsG x_k73 (x_r5 (List.mem_of_getElem? (i := 218) rfl) rfl) (x_r5 (List.mem_of_getElem? (i := 220) rfl) rfl) (x_r1 (List.mem_of_getElem? (i := 11) rfl) rfl) (x_tp (q := (⟨"StreamRefuterModel", "hasLiteral", "(II)Z"⟩, 56)) (List.mem_of_getElem? (i := 56) (by decide +kernel))) ⟨by decide, by decide, by decide +kernel⟩⟩
theorem x_cvs72 : x_cvsP (0, 21, 75, 1) := ⟨by decide, rfl, x_CallV_own x_TsG x_k75 (x_r3 (List.mem_of_getElem? (i := 224) rfl) rfl) (x_r3 (List.mem_of_getElem? (i := 225) rfl) rfl) (x_r1 (List.mem_of_getElem? (i := 1) rfl) rfl) (x_r3 (List.mem_of_getElem? (i := 226) rfl) rfl) ⟨by decide, by decide, by decide +kernel⟩⟩
theorem x_cvs73 : x_cvsP (1, 112, 76, 2) := ⟨by decide, rfl, x_CallV_own x_TsG x_k76 (x_r3 (List.mem_of_getElem? (i := 228) rfl) rfl) (x_r3 (List.mem_of_getElem? (i := 229) rfl) rfl) (x_r1 (List.mem_of_getElem? (i := 7) rfl) rfl) (x_r3 (List.mem_of_getElem? (i := 230) rfl) rfl) ⟨by decide, by decide, by decide +kernel⟩⟩
theorem x_cvs74 : x_cvsP (1, 115, 80, 1) := ⟨by decide, rfl, x_CallV_own x_TsG x_k80 (x_r4 (List.mem_of_getElem? (i := 5) rfl) rfl) (x_r4 (List.mem_of_getElem? (i := 7) rfl) rfl) (x_r1 (List.mem_of_getElem? (i := 1) rfl) rfl) (x_tp (q := (⟨"StreamRefuter", "adoptSpare", "()V"⟩, 10)) (List.mem_of_getElem? (i := 14) (by decide +kernel))) ⟨by decide, by decide, by decide +kernel⟩⟩
theorem x_cvs75 : x_cvsP (7, 30, 40, 1) := ⟨by decide, rfl, x_CallV_own x_TsG x_k40 (x_r3 (List.mem_of_getElem? (i := 232) rfl) rfl) (x_r3 (List.mem_of_getElem? (i := 138) rfl) rfl) (x_r1 (List.mem_of_getElem? (i := 7) rfl) rfl) (x_r3 (List.mem_of_getElem? (i := 139) rfl) rfl) ⟨by decide, by decide, by decide +kernel⟩⟩
theorem x_cvs76 : x_cvsP (7, 38, 23, 1) := ⟨by decide, rfl, x_CallV_own x_TsG x_k23 (x_r3 (List.mem_of_getElem? (i := 234) rfl) rfl) (x_r2 (List.mem_of_getElem? (i := 192) rfl) rfl) (x_r1 (List.mem_of_getElem? (i := 4) rfl) rfl) (x_r2 (List.mem_of_getElem? (i := 193) rfl) rfl) ⟨by decide, by decide, by decide +kernel⟩⟩
theorem x_cvs77 : x_cvsP (7, 26, 78, 2) := ⟨by decide, rfl, x_CallV_own x_TsG x_k78 (x_r3 (List.mem_of_getElem? (i := 238) rfl) rfl) (x_r3 (List.mem_of_getElem? (i := 239) rfl) rfl) (x_r1 (List.mem_of_getElem? (i := 7) rfl) rfl) (x_r4 (List.mem_of_getElem? (i := 0) rfl) rfl) ⟨by decide, by decide, by decide +kernel⟩⟩
theorem x_cvs78 : x_cvsP (11, 232, 82, 1) := ⟨by decide, rfl, x_CallV_own x_TsG x_k82 (x_r5 (List.mem_of_getElem? (i := 226) rfl) rfl) (x_r5 (List.mem_of_getElem? (i := 228) rfl) rfl) (x_r1 (List.mem_of_getElem? (i := 11) rfl) rfl) (x_tp (q := (⟨"StreamRefuterModel", "readLine", "()I"⟩, 56)) (List.mem_of_getElem? (i := 57) (by decide +kernel))) ⟨by decide, by decide, by decide +kernel⟩⟩
theorem x_cvs79 : x_cvsP (11, 235, 85, 1) := ⟨by decide, rfl, x_CallV_own x_TsG x_k85 (x_r5 (List.mem_of_getElem? (i := 238) rfl) rfl) (x_r6 (List.mem_of_getElem? (i := 0) rfl) rfl) (x_r1 (List.mem_of_getElem? (i := 11) rfl) rfl) (x_tp (q := (⟨"StreamRefuterModel", "keepTokens", "()V"⟩, 56)) (List.mem_of_getElem? (i := 60) (by decide +kernel))) ⟨by decide, by decide, by decide +kernel⟩⟩
theorem x_cvs80 : x_cvsP (11, 225, 83, 2) := ⟨by decide, rfl, x_CallV_own x_TsG x_k83 (x_r5 (List.mem_of_getElem? (i := 230) rfl) rfl) (x_r5 (List.mem_of_getElem? (i := 232) rfl) rfl) (x_r1 (List.mem_of_getElem? (i := 11) rfl) rfl) (x_tp (q := (⟨"StreamRefuterModel", "push", "(I)V"⟩, 56)) (List.mem_of_getElem? (i := 58) (by decide +kernel))) ⟨by decide, by decide, by decide +kernel⟩⟩
theorem x_cvs81 : x_cvsP (11, 229, 84, 1) := ⟨by decide, rfl, x_CallV_own x_TsG x_k84 (x_r5 (List.mem_of_getElem? (i := 234) rfl) rfl) (x_r5 (List.mem_of_getElem? (i := 236) rfl) rfl) (x_r1 (List.mem_of_getElem? (i := 11) rfl) rfl) (x_tp (q := (⟨"StreamRefuterModel", "numbers", "()I"⟩, 56)) (List.mem_of_getElem? (i := 59) (by decide +kernel))) ⟨by decide, by decide, by decide +kernel⟩⟩
theorem x_cvs82 : x_cvsP (0, 24, 93, 1) := ⟨by decide, rfl, x_CallV_own x_TsG x_k93 (x_r4 (List.mem_of_getElem? (i := 12) rfl) rfl) (x_r4 (List.mem_of_getElem? (i := 13) rfl) rfl) (x_r1 (List.mem_of_getElem? (i := 1) rfl) rfl) (x_r4 (List.mem_of_getElem? (i := 14) rfl) rfl) ⟨by decide, by decide, by decide +kernel⟩⟩
theorem x_cvs83 : x_cvsP (1, 134, 94, 2) := ⟨by decide, rfl, x_CallV_own x_TsG x_k94 (x_r4 (List.mem_of_getElem? (i := 16) rfl) rfl) (x_r4 (List.mem_of_getElem? (i := 17) rfl) rfl) (x_r1 (List.mem_of_getElem? (i := 8) rfl) rfl) (x_r4 (List.mem_of_getElem? (i := 18) rfl) rfl) ⟨by decide, by decide, by decide +kernel⟩⟩
theorem x_cvs84 : x_cvsP (8, 64, 95, 5) := ⟨by decide, rfl, x_CallV_own x_TsG x_k95 (x_r4 (List.mem_of_getElem? (i := 20) rfl) rfl) (x_r4 (List.mem_of_getElem? (i := 21) rfl) rfl) (x_r1 (List.mem_of_getElem? (i := 9) rfl) rfl) (x_r4 (List.mem_of_getElem? (i := 22) rfl) rfl) ⟨by decide, by decide, by decide +kernel⟩⟩
theorem x_cvs85 : x_cvsP (9, 45, 96, 2) := ⟨by decide, rfl, x_CallV_own x_TsG x_k96 (x_r4 (List.mem_of_getElem? (i := 24) rfl) rfl) (x_r4 (List.mem_of_getElem? (i := 26) rfl) rfl) (x_r1 (List.mem_of_getElem? (i := 9) rfl) rfl) (x_tp (q := (⟨"StreamRefuter$Propagation", "goOn", "(J)Z"⟩, 10)) (List.mem_of_getElem? (i := 15) (by decide +kernel))) ⟨by decide, by decide, by decide +kernel⟩⟩
theorem x_cvs86 : x_cvsP (9, 65, 97, 2) := ⟨by decide, rfl, x_CallV_own x_TsG x_k97 (x_r4 (List.mem_of_getElem? (i := 28) rfl) rfl) (x_r4 (List.mem_of_getElem? (i := 30) rfl) rfl) (x_r1 (List.mem_of_getElem? (i := 9) rfl) rfl) (x_tp (q := (⟨"StreamRefuter$Propagation", "pickReady", "(J)I"⟩, 10)) (List.mem_of_getElem? (i := 16) (by decide +kernel))) ⟨by decide, by decide, by decide +kernel⟩⟩
theorem x_cvs87 : x_cvsP (9, 62, 98, 2) := ⟨by decide, rfl, x_CallV_own x_TsG x_k98 (x_r4 (List.mem_of_getElem? (i := 34) rfl) rfl) (x_r4 (List.mem_of_getElem? (i := 36) rfl) rfl) (x_r1 (List.mem_of_getElem? (i := 9) rfl) rfl) (x_tp (q := (⟨"StreamRefuter$Propagation", "neededFor", "(I)I"⟩, 10)) (List.mem_of_getElem? (i := 17) (by decide +kernel))) ⟨by decide, by decide, by decide +kernel⟩⟩
theorem x_cvs88 : x_cvsP (11, 277, 100, 1) := ⟨by decide, rfl, x_CallV_own x_TsG x_k100 (x_r6 (List.mem_of_getElem? (i := 14) rfl) rfl) (x_r6 (List.mem_of_getElem? (i := 16) rfl) rfl) (x_r1 (List.mem_of_getElem? (i := 11) rfl) rfl) (x_tp (q := (⟨"StreamRefuterModel", "findEnd", "()I"⟩, 56)) (List.mem_of_getElem? (i := 61) (by decide +kernel))) ⟨by decide, by decide, by decide +kernel⟩⟩
theorem x_cvs89 : x_cvsP (11, 274, 101, 2) := ⟨by decide, rfl, x_CallV_own x_TsG x_k101 (x_r6 (List.mem_of_getElem? (i := 18) rfl) rfl) (x_r6 (List.mem_of_getElem? (i := 20) rfl) rfl) (x_r1 (List.mem_of_getElem? (i := 11) rfl) rfl) (x_tp (q := (⟨"StreamRefuterModel", "liveAfter", "(I)V"⟩, 56)) (List.mem_of_getElem? (i := 62) (by decide +kernel))) ⟨by decide, by decide, by decide +kernel⟩⟩
theorem x_cvs90 : x_cvsP (11, 259, 102, 1) := ⟨by decide, rfl, x_CallV_own x_TsG x_k102 (x_r6 (List.mem_of_getElem? (i := 22) rfl) rfl) (x_r6 (List.mem_of_getElem? (i := 24) rfl) rfl) (x_r1 (List.mem_of_getElem? (i := 11) rfl) rfl) (x_tp (q := (⟨"StreamRefuterModel", "beginEmpty", "()V"⟩, 56)) (List.mem_of_getElem? (i := 63) (by decide +kernel))) ⟨by decide, by decide, by decide +kernel⟩⟩
theorem x_cvs91 : x_cvsP (11, 262, 103, 1) := ⟨by decide, rfl, x_CallV_own x_TsG x_k103 (x_r6 (List.mem_of_getElem? (i := 26) rfl) rfl) (x_r6 (List.mem_of_getElem? (i := 28) rfl) rfl) (x_r1 (List.mem_of_getElem? (i := 11) rfl) rfl) (x_tp (q := (⟨"StreamRefuterModel", "propagate", "()V"⟩, 56)) (List.mem_of_getElem? (i := 64) (by decide +kernel))) ⟨by decide, by decide, by decide +kernel⟩⟩
theorem x_cvs92 : x_cvsP (11, 250, 104, 1) := ⟨by decide, rfl, x_CallV_own x_TsG x_k104 (x_r6 (List.mem_of_getElem? (i := 30) rfl) rfl) (x_r6 (List.mem_of_getElem? (i := 32) rfl) rfl) (x_r1 (List.mem_of_getElem? (i := 11) rfl) rfl) (x_tp (q := (⟨"StreamRefuterModel", "pick", "()I"⟩, 56)) (List.mem_of_getElem? (i := 65) (by decide +kernel))) ⟨by decide, by decide, by decide +kernel⟩⟩
theorem x_cvs93 : x_cvsP (11, 244, 105, 2) := ⟨by decide, rfl, x_CallV_own x_TsG x_k105 (x_r6 (List.mem_of_getElem? (i := 34) rfl) rfl) (x_r6 (List.mem_of_getElem? (i := 36) rfl) rfl) (x_r1 (List.mem_of_getElem? (i := 11) rfl) rfl) (x_tp (q := (⟨"StreamRefuterModel", "isReady", "(I)Z"⟩, 56)) (List.mem_of_getElem? (i := 66) (by decide +kernel))) ⟨by decide, by decide, by decide +kernel⟩⟩
theorem x_cvs94 : x_cvsP (11, 256, 107, 2) := ⟨by decide, rfl, x_CallV_own x_TsG x_k107 (x_r6 (List.mem_of_getElem? (i := 42) rfl) rfl) (x_r6 (List.mem_of_getElem? (i := 44) rfl) rfl) (x_r1 (List.mem_of_getElem? (i := 11) rfl) rfl) (x_tp (q := (⟨"StreamRefuterModel", "makeTrue", "(I)V"⟩, 56)) (List.mem_of_getElem? (i := 68) (by decide +kernel))) ⟨by decide, by decide, by decide +kernel⟩⟩
theorem x_cvs95 : x_cvsP (11, 241, 106, 2) := ⟨by decide, rfl, x_CallV_own x_TsG x_k106 (x_r6 (List.mem_of_getElem? (i := 38) rfl) rfl) (x_r6 (List.mem_of_getElem? (i := 40) rfl) rfl) (x_r1 (List.mem_of_getElem? (i := 11) rfl) rfl) (x_tp (q := (⟨"StreamRefuterModel", "value", "(I)I"⟩, 56)) (List.mem_of_getElem? (i := 67) (by decide +kernel))) ⟨by decide, by decide, by decide +kernel⟩⟩
theorem x_cvs96 : x_cvsP (0, 27, 109, 1) := ⟨by decide, rfl, x_CallV_own x_TsG x_k109 (x_r4 (List.mem_of_getElem? (i := 41) rfl) rfl) (x_r4 (List.mem_of_getElem? (i := 42) rfl) rfl) (x_r1 (List.mem_of_getElem? (i := 1) rfl) rfl) (x_r4 (List.mem_of_getElem? (i := 43) rfl) rfl) ⟨by decide, by decide, by decide +kernel⟩⟩
theorem x_cvs97 : x_cvsP (1, 138, 110, 2) := ⟨by decide, rfl, x_CallV_own x_TsG x_k110 (x_r4 (List.mem_of_getElem? (i := 45) rfl) rfl) (x_r4 (List.mem_of_getElem? (i := 46) rfl) rfl) (x_r1 (List.mem_of_getElem? (i := 8) rfl) rfl) (x_r4 (List.mem_of_getElem? (i := 47) rfl) rfl) ⟨by decide, by decide, by decide +kernel⟩⟩
theorem x_cvs98 : x_cvsP (8, 68, 94, 2) := ⟨by decide, rfl, x_CallV_own x_TsG x_k94 (x_r4 (List.mem_of_getElem? (i := 49) rfl) rfl) (x_r4 (List.mem_of_getElem? (i := 17) rfl) rfl) (x_r1 (List.mem_of_getElem? (i := 8) rfl) rfl) (x_r4 (List.mem_of_getElem? (i := 18) rfl) rfl) ⟨by decide, by decide, by decide +kernel⟩⟩
theorem x_cvs99 : x_cvsP (8, 75, 111, 4) := ⟨by decide, rfl, x_CallV_own x_TsG x_k111 (x_r4 (List.mem_of_getElem? (i := 50) rfl) rfl) (x_r4 (List.mem_of_getElem? (i := 52) rfl) rfl) (x_r1 (List.mem_of_getElem? (i := 8) rfl) rfl) (x_tp (q := (⟨"StreamRefuter$Refuter", "isRight", "(LStreamRefuter$Problem;IJ)Z"⟩, 10)) (List.mem_of_getElem? (i := 18) (by decide +kernel))) ⟨by decide, by decide, by decide +kernel⟩⟩
theorem x_cvs100 : x_cvsP (8, 102, 112, 4) := ⟨by decide, rfl, x_CallV_own x_TsG x_k112 (x_r4 (List.mem_of_getElem? (i := 57) rfl) rfl) (x_r4 (List.mem_of_getElem? (i := 58) rfl) rfl) (x_r1 (List.mem_of_getElem? (i := 9) rfl) rfl) (x_r4 (List.mem_of_getElem? (i := 59) rfl) rfl) ⟨by decide, by decide, by decide +kernel⟩⟩
theorem x_cvs101 : x_cvsP (9, 58, 113, 3) := ⟨by decide, rfl, x_CallV_own x_TsG x_k113 (x_r4 (List.mem_of_getElem? (i := 61) rfl) rfl) (x_r4 (List.mem_of_getElem? (i := 63) rfl) rfl) (x_r1 (List.mem_of_getElem? (i := 9) rfl) rfl) (x_tp (q := (⟨"StreamRefuter$Propagation", "firstTrue", "(II)I"⟩, 10)) (List.mem_of_getElem? (i := 19) (by decide +kernel))) ⟨by decide, by decide, by decide +kernel⟩⟩
theorem x_cvs102 : x_cvsP (11, 292, 115, 2) := ⟨by decide, rfl, x_CallV_own x_TsG x_k115 (x_r6 (List.mem_of_getElem? (i := 50) rfl) rfl) (x_r6 (List.mem_of_getElem? (i := 52) rfl) rfl) (x_r1 (List.mem_of_getElem? (i := 11) rfl) rfl) (x_tp (q := (⟨"StreamRefuterModel", "isRight", "(I)Z"⟩, 56)) (List.mem_of_getElem? (i := 69) (by decide +kernel))) ⟨by decide, by decide, by decide +kernel⟩⟩
theorem x_cvs103 : x_cvsP (11, 280, 116, 2) := ⟨by decide, rfl, x_CallV_own x_TsG x_k116 (x_r6 (List.mem_of_getElem? (i := 54) rfl) rfl) (x_r6 (List.mem_of_getElem? (i := 56) rfl) rfl) (x_r1 (List.mem_of_getElem? (i := 11) rfl) rfl) (x_tp (q := (⟨"StreamRefuterModel", "implied", "(I)Z"⟩, 56)) (List.mem_of_getElem? (i := 70) (by decide +kernel))) ⟨by decide, by decide, by decide +kernel⟩⟩
theorem x_cvs104 : x_cvsP (11, 283, 117, 1) := ⟨by decide, rfl, x_CallV_own x_TsG x_k117 (x_r6 (List.mem_of_getElem? (i := 58) rfl) rfl) (x_r6 (List.mem_of_getElem? (i := 60) rfl) rfl) (x_r1 (List.mem_of_getElem? (i := 11) rfl) rfl) (x_tp (q := (⟨"StreamRefuterModel", "keepBase", "()V"⟩, 56)) (List.mem_of_getElem? (i := 71) (by decide +kernel))) ⟨by decide, by decide, by decide +kernel⟩⟩
theorem x_cvs105 : x_cvsP (11, 286, 118, 3) := ⟨by decide, rfl, x_CallV_own x_TsG x_k118 (x_r6 (List.mem_of_getElem? (i := 62) rfl) rfl) (x_r6 (List.mem_of_getElem? (i := 64) rfl) rfl) (x_r1 (List.mem_of_getElem? (i := 11) rfl) rfl) (x_tp (q := (⟨"StreamRefuterModel", "passes", "(II)Z"⟩, 56)) (List.mem_of_getElem? (i := 72) (by decide +kernel))) ⟨by decide, by decide, by decide +kernel⟩⟩
theorem x_cvs106 : x_cvsP (11, 289, 122, 2) := ⟨by decide, rfl, x_CallV_own x_TsG x_k122 (x_r6 (List.mem_of_getElem? (i := 78) rfl) rfl) (x_r6 (List.mem_of_getElem? (i := 80) rfl) rfl) (x_r1 (List.mem_of_getElem? (i := 11) rfl) rfl) (x_tp (q := (⟨"StreamRefuterModel", "backTo", "(I)V"⟩, 56)) (List.mem_of_getElem? (i := 76) (by decide +kernel))) ⟨by decide, by decide, by decide +kernel⟩⟩
theorem x_cvs107 : x_cvsP (11, 265, 119, 1) := ⟨by decide, rfl, x_CallV_own x_TsG x_k119 (x_r6 (List.mem_of_getElem? (i := 66) rfl) rfl) (x_r6 (List.mem_of_getElem? (i := 68) rfl) rfl) (x_r1 (List.mem_of_getElem? (i := 11) rfl) rfl) (x_tp (q := (⟨"StreamRefuterModel", "needNothing", "()V"⟩, 56)) (List.mem_of_getElem? (i := 73) (by decide +kernel))) ⟨by decide, by decide, by decide +kernel⟩⟩
theorem x_cvs108 : x_cvsP (11, 268, 120, 3) := ⟨by decide, rfl, x_CallV_own x_TsG x_k120 (x_r6 (List.mem_of_getElem? (i := 70) rfl) rfl) (x_r6 (List.mem_of_getElem? (i := 72) rfl) rfl) (x_r1 (List.mem_of_getElem? (i := 11) rfl) rfl) (x_tp (q := (⟨"StreamRefuterModel", "firstTrue", "(II)I"⟩, 56)) (List.mem_of_getElem? (i := 74) (by decide +kernel))) ⟨by decide, by decide, by decide +kernel⟩⟩
theorem x_cvs109 : x_cvsP (11, 271, 121, 1) := ⟨by decide, rfl, x_CallV_own x_TsG x_k121 (x_r6 (List.mem_of_getElem? (i := 74) rfl) rfl) (x_r6 (List.mem_of_getElem? (i := 76) rfl) rfl) (x_r1 (List.mem_of_getElem? (i := 11) rfl) rfl) (x_tp (q := (⟨"StreamRefuterModel", "findNeeds", "()V"⟩, 56)) (List.mem_of_getElem? (i := 75) (by decide +kernel))) ⟨by decide, by decide, by decide +kernel⟩⟩
theorem x_cvs110 : x_cvsP (0, 30, 124, 1) := ⟨by decide, rfl, x_CallV_own x_TsG x_k124 (x_r4 (List.mem_of_getElem? (i := 69) rfl) rfl) (x_r4 (List.mem_of_getElem? (i := 70) rfl) rfl) (x_r1 (List.mem_of_getElem? (i := 1) rfl) rfl) (x_r4 (List.mem_of_getElem? (i := 71) rfl) rfl) ⟨by decide, by decide, by decide +kernel⟩⟩
theorem x_cvs111 : x_cvsP (1, 141, 125, 3) := ⟨by decide, rfl, x_CallV_own x_TsG x_k125 (x_r4 (List.mem_of_getElem? (i := 73) rfl) rfl) (x_r4 (List.mem_of_getElem? (i := 74) rfl) rfl) (x_r1 (List.mem_of_getElem? (i := 8) rfl) rfl) (x_r4 (List.mem_of_getElem? (i := 75) rfl) rfl) ⟨by decide, by decide, by decide +kernel⟩⟩
theorem x_cvs112 : x_cvsP (8, 106, 126, 3) := ⟨by decide, rfl, x_CallV_own x_TsG x_k126 (x_r4 (List.mem_of_getElem? (i := 77) rfl) rfl) (x_r4 (List.mem_of_getElem? (i := 79) rfl) rfl) (x_r1 (List.mem_of_getElem? (i := 8) rfl) rfl) (x_tp (q := (⟨"StreamRefuter$Refuter", "begin", "(LStreamRefuter$Problem;I)V"⟩, 10)) (List.mem_of_getElem? (i := 20) (by decide +kernel))) ⟨by decide, by decide, by decide +kernel⟩⟩
theorem x_cvs113 : x_cvsP (8, 110, 127, 3) := ⟨by decide, rfl, x_CallV_own x_TsG x_k127 (x_r4 (List.mem_of_getElem? (i := 82) rfl) rfl) (x_r4 (List.mem_of_getElem? (i := 84) rfl) rfl) (x_r1 (List.mem_of_getElem? (i := 8) rfl) rfl) (x_tp (q := (⟨"StreamRefuter$Refuter", "noteImplied", "(IJ)Z"⟩, 10)) (List.mem_of_getElem? (i := 21) (by decide +kernel))) ⟨by decide, by decide, by decide +kernel⟩⟩
theorem x_cvs114 : x_cvsP (8, 114, 131, 3) := ⟨by decide, rfl, x_CallV_own x_TsG x_k131 (x_r4 (List.mem_of_getElem? (i := 100) rfl) rfl) (x_r4 (List.mem_of_getElem? (i := 102) rfl) rfl) (x_r1 (List.mem_of_getElem? (i := 8) rfl) rfl) (x_tp (q := (⟨"StreamRefuter$Refuter", "noteSpared", "(IJ)Z"⟩, 10)) (List.mem_of_getElem? (i := 25) (by decide +kernel))) ⟨by decide, by decide, by decide +kernel⟩⟩
theorem x_cvs115 : x_cvsP (8, 117, 133, 2) := ⟨by decide, rfl, x_CallV_own x_TsG x_k133 (x_r4 (List.mem_of_getElem? (i := 108) rfl) rfl) (x_r4 (List.mem_of_getElem? (i := 110) rfl) rfl) (x_r1 (List.mem_of_getElem? (i := 8) rfl) rfl) (x_tp (q := (⟨"StreamRefuter$Refuter", "write", "(LStreamRefuter$Tokens;)I"⟩, 10)) (List.mem_of_getElem? (i := 27) (by decide +kernel))) ⟨by decide, by decide, by decide +kernel⟩⟩
theorem x_cvs116 : x_cvsP (8, 121, 138, 1) := ⟨by decide, rfl, x_CallV_own x_TsG x_k138 (x_r4 (List.mem_of_getElem? (i := 125) rfl) rfl) (x_r4 (List.mem_of_getElem? (i := 126) rfl) rfl) (x_r1 (List.mem_of_getElem? (i := 7) rfl) rfl) (x_r4 (List.mem_of_getElem? (i := 127) rfl) rfl) ⟨by decide, by decide, by decide +kernel⟩⟩
theorem x_cvs117 : x_cvsP (8, 127, 40, 1) := ⟨by decide, rfl, x_CallV_own x_TsG x_k40 (x_r4 (List.mem_of_getElem? (i := 81) rfl) rfl) (x_r3 (List.mem_of_getElem? (i := 138) rfl) rfl) (x_r1 (List.mem_of_getElem? (i := 7) rfl) rfl) (x_r3 (List.mem_of_getElem? (i := 139) rfl) rfl) ⟨by decide, by decide, by decide +kernel⟩⟩
theorem x_cvs118 : x_cvsP (8, 133, 128, 1) := ⟨by decide, rfl, x_CallV_own x_TsG x_k128 (x_r4 (List.mem_of_getElem? (i := 86) rfl) rfl) (x_r4 (List.mem_of_getElem? (i := 88) rfl) rfl) (x_r1 (List.mem_of_getElem? (i := 8) rfl) rfl) (x_tp (q := (⟨"StreamRefuter$Refuter", "markNeeded", "()V"⟩, 10)) (List.mem_of_getElem? (i := 22) (by decide +kernel))) ⟨by decide, by decide, by decide +kernel⟩⟩
theorem x_cvs119 : x_cvsP (8, 142, 129, 2) := ⟨by decide, rfl, x_CallV_own x_TsG x_k129 (x_r4 (List.mem_of_getElem? (i := 90) rfl) rfl) (x_r4 (List.mem_of_getElem? (i := 92) rfl) rfl) (x_r1 (List.mem_of_getElem? (i := 8) rfl) rfl) (x_tp (q := (⟨"StreamRefuter$Refuter", "noteReasons", "(I)V"⟩, 10)) (List.mem_of_getElem? (i := 23) (by decide +kernel))) ⟨by decide, by decide, by decide +kernel⟩⟩
theorem x_cvs120 : x_cvsP (8, 146, 130, 1) := ⟨by decide, rfl, x_CallV_own x_TsG x_k130 (x_r4 (List.mem_of_getElem? (i := 95) rfl) rfl) (x_r4 (List.mem_of_getElem? (i := 97) rfl) rfl) (x_r1 (List.mem_of_getElem? (i := 8) rfl) rfl) (x_tp (q := (⟨"StreamRefuter$Refuter", "noteConflict", "()V"⟩, 10)) (List.mem_of_getElem? (i := 24) (by decide +kernel))) ⟨by decide, by decide, by decide +kernel⟩⟩
theorem x_cvs121 : x_cvsP (8, 158, 78, 2) := ⟨by decide, rfl, x_CallV_own x_TsG x_k78 (x_r4 (List.mem_of_getElem? (i := 94) rfl) rfl) (x_r3 (List.mem_of_getElem? (i := 239) rfl) rfl) (x_r1 (List.mem_of_getElem? (i := 7) rfl) rfl) (x_r4 (List.mem_of_getElem? (i := 0) rfl) rfl) ⟨by decide, by decide, by decide +kernel⟩⟩
theorem x_cvs122 : x_cvsP (8, 154, 132, 3) := ⟨by decide, rfl, x_CallV_own x_TsG x_k132 (x_r4 (List.mem_of_getElem? (i := 104) rfl) rfl) (x_r4 (List.mem_of_getElem? (i := 106) rfl) rfl) (x_r1 (List.mem_of_getElem? (i := 8) rfl) rfl) (x_tp (q := (⟨"StreamRefuter$Refuter", "pickCandidate", "(JI)I"⟩, 10)) (List.mem_of_getElem? (i := 26) (by decide +kernel))) ⟨by decide, by decide, by decide +kernel⟩⟩
theorem x_cvs123 : x_cvsP (8, 167, 134, 4) := ⟨by decide, rfl, x_CallV_own x_TsG x_k134 (x_r4 (List.mem_of_getElem? (i := 112) rfl) rfl) (x_r4 (List.mem_of_getElem? (i := 114) rfl) rfl) (x_r1 (List.mem_of_getElem? (i := 8) rfl) rfl) (x_tp (q := (⟨"StreamRefuter$Refuter", "writeDrops", "(LStreamRefuter$Tokens;IJ)V"⟩, 10)) (List.mem_of_getElem? (i := 28) (by decide +kernel))) ⟨by decide, by decide, by decide +kernel⟩⟩
theorem x_cvs124 : x_cvsP (8, 171, 135, 4) := ⟨by decide, rfl, x_CallV_own x_TsG x_k135 (x_r4 (List.mem_of_getElem? (i := 116) rfl) rfl) (x_r4 (List.mem_of_getElem? (i := 118) rfl) rfl) (x_r1 (List.mem_of_getElem? (i := 8) rfl) rfl) (x_tp (q := (⟨"StreamRefuter$Refuter", "writeLine", "(LStreamRefuter$Tokens;II)V"⟩, 10)) (List.mem_of_getElem? (i := 29) (by decide +kernel))) ⟨by decide, by decide, by decide +kernel⟩⟩
theorem x_cvs125 : x_cvsP (8, 175, 136, 4) := ⟨by decide, rfl, x_CallV_own x_TsG x_k136 (x_r4 (List.mem_of_getElem? (i := 120) rfl) rfl) (x_r4 (List.mem_of_getElem? (i := 121) rfl) rfl) (x_r1 (List.mem_of_getElem? (i := 7) rfl) rfl) (x_r4 (List.mem_of_getElem? (i := 122) rfl) rfl) ⟨by decide, by decide, by decide +kernel⟩⟩
theorem x_cvs126 : x_cvsP (7, 22, 137, 2) := ⟨by decide, rfl, x_CallV_own x_TsG x_k137 (x_r4 (List.mem_of_getElem? (i := 124) rfl) rfl) (x_r2 (List.mem_of_getElem? (i := 158) rfl) rfl) (x_r1 (List.mem_of_getElem? (i := 7) rfl) rfl) (x_r2 (List.mem_of_getElem? (i := 159) rfl) rfl) ⟨by decide, by decide, by decide +kernel⟩⟩
theorem x_cvs127 : x_cvsP (11, 322, 140, 2) := ⟨by decide, rfl, x_CallV_own x_TsG x_k140 (x_r6 (List.mem_of_getElem? (i := 86) rfl) rfl) (x_r6 (List.mem_of_getElem? (i := 88) rfl) rfl) (x_r1 (List.mem_of_getElem? (i := 11) rfl) rfl) (x_tp (q := (⟨"StreamRefuterModel", "goBack", "(I)I"⟩, 56)) (List.mem_of_getElem? (i := 77) (by decide +kernel))) ⟨by decide, by decide, by decide +kernel⟩⟩
theorem x_cvs128 : x_cvsP (11, 325, 148, 1) := ⟨by decide, rfl, x_CallV_own x_TsG x_k148 (x_r6 (List.mem_of_getElem? (i := 118) rfl) rfl) (x_r6 (List.mem_of_getElem? (i := 120) rfl) rfl) (x_r1 (List.mem_of_getElem? (i := 11) rfl) rfl) (x_tp (q := (⟨"StreamRefuterModel", "dropUnmarked", "()V"⟩, 56)) (List.mem_of_getElem? (i := 85) (by decide +kernel))) ⟨by decide, by decide, by decide +kernel⟩⟩
theorem x_cvs129 : x_cvsP (11, 328, 149, 4) := ⟨by decide, rfl, x_CallV_own x_TsG x_k149 (x_r6 (List.mem_of_getElem? (i := 122) rfl) rfl) (x_r6 (List.mem_of_getElem? (i := 124) rfl) rfl) (x_r1 (List.mem_of_getElem? (i := 11) rfl) rfl) (x_tp (q := (⟨"StreamRefuterModel", "pushLine", "(IIZ)V"⟩, 56)) (List.mem_of_getElem? (i := 86) (by decide +kernel))) ⟨by decide, by decide, by decide +kernel⟩⟩
theorem x_cvs130 : x_cvsP (11, 313, 141, 2) := ⟨by decide, rfl, x_CallV_own x_TsG x_k141 (x_r6 (List.mem_of_getElem? (i := 90) rfl) rfl) (x_r6 (List.mem_of_getElem? (i := 92) rfl) rfl) (x_r1 (List.mem_of_getElem? (i := 11) rfl) rfl) (x_tp (q := (⟨"StreamRefuterModel", "hintsOf", "(I)V"⟩, 56)) (List.mem_of_getElem? (i := 78) (by decide +kernel))) ⟨by decide, by decide, by decide +kernel⟩⟩
theorem x_cvs131 : x_cvsP (11, 319, 143, 2) := ⟨by decide, rfl, x_CallV_own x_TsG x_k143 (x_r6 (List.mem_of_getElem? (i := 98) rfl) rfl) (x_r6 (List.mem_of_getElem? (i := 100) rfl) rfl) (x_r1 (List.mem_of_getElem? (i := 11) rfl) rfl) (x_tp (q := (⟨"StreamRefuterModel", "wayOf", "(I)I"⟩, 56)) (List.mem_of_getElem? (i := 80) (by decide +kernel))) ⟨by decide, by decide, by decide +kernel⟩⟩
theorem x_cvs132 : x_cvsP (11, 298, 142, 2) := ⟨by decide, rfl, x_CallV_own x_TsG x_k142 (x_r6 (List.mem_of_getElem? (i := 94) rfl) rfl) (x_r6 (List.mem_of_getElem? (i := 96) rfl) rfl) (x_r1 (List.mem_of_getElem? (i := 11) rfl) rfl) (x_tp (q := (⟨"StreamRefuterModel", "addHint", "(I)V"⟩, 56)) (List.mem_of_getElem? (i := 79) (by decide +kernel))) ⟨by decide, by decide, by decide +kernel⟩⟩
theorem x_cvs133 : x_cvsP (11, 316, 144, 2) := ⟨by decide, rfl, x_CallV_own x_TsG x_k144 (x_r6 (List.mem_of_getElem? (i := 102) rfl) rfl) (x_r6 (List.mem_of_getElem? (i := 104) rfl) rfl) (x_r1 (List.mem_of_getElem? (i := 11) rfl) rfl) (x_tp (q := (⟨"StreamRefuterModel", "spared", "(I)Z"⟩, 56)) (List.mem_of_getElem? (i := 81) (by decide +kernel))) ⟨by decide, by decide, by decide +kernel⟩⟩
theorem x_cvs134 : x_cvsP (11, 307, 145, 2) := ⟨by decide, rfl, x_CallV_own x_TsG x_k145 (x_r6 (List.mem_of_getElem? (i := 106) rfl) rfl) (x_r6 (List.mem_of_getElem? (i := 108) rfl) rfl) (x_r1 (List.mem_of_getElem? (i := 11) rfl) rfl) (x_tp (q := (⟨"StreamRefuterModel", "candidate", "(I)I"⟩, 56)) (List.mem_of_getElem? (i := 82) (by decide +kernel))) ⟨by decide, by decide, by decide +kernel⟩⟩
theorem x_cvs135 : x_cvsP (11, 310, 146, 3) := ⟨by decide, rfl, x_CallV_own x_TsG x_k146 (x_r6 (List.mem_of_getElem? (i := 110) rfl) rfl) (x_r6 (List.mem_of_getElem? (i := 112) rfl) rfl) (x_r1 (List.mem_of_getElem? (i := 11) rfl) rfl) (x_tp (q := (⟨"StreamRefuterModel", "takeGroup", "(II)V"⟩, 56)) (List.mem_of_getElem? (i := 83) (by decide +kernel))) ⟨by decide, by decide, by decide +kernel⟩⟩
theorem x_cvs136 : x_cvsP (11, 304, 147, 2) := ⟨by decide, rfl, x_CallV_own x_TsG x_k147 (x_r6 (List.mem_of_getElem? (i := 114) rfl) rfl) (x_r6 (List.mem_of_getElem? (i := 116) rfl) rfl) (x_r1 (List.mem_of_getElem? (i := 11) rfl) rfl) (x_tp (q := (⟨"StreamRefuterModel", "addGroup", "(I)V"⟩, 56)) (List.mem_of_getElem? (i := 84) (by decide +kernel))) ⟨by decide, by decide, by decide +kernel⟩⟩
theorem x_cvs137 : x_cvsP (1, 162, 137, 2) := ⟨by decide, rfl, x_CallV_own x_TsG x_k137 (x_r2 (List.mem_of_getElem? (i := 157) rfl) rfl) (x_r2 (List.mem_of_getElem? (i := 158) rfl) rfl) (x_r1 (List.mem_of_getElem? (i := 7) rfl) rfl) (x_r2 (List.mem_of_getElem? (i := 159) rfl) rfl) ⟨by decide, by decide, by decide +kernel⟩⟩
theorem x_cvs138 : x_cvsP (1, 166, 159, 3) := ⟨by decide, rfl, x_CallV_own x_TsG x_k159 (x_r2 (List.mem_of_getElem? (i := 165) rfl) rfl) (x_r2 (List.mem_of_getElem? (i := 166) rfl) rfl) (x_r1 (List.mem_of_getElem? (i := 7) rfl) rfl) (x_r2 (List.mem_of_getElem? (i := 167) rfl) rfl) ⟨by decide, by decide, by decide +kernel⟩⟩
theorem x_cvs139 : x_cvsP (0, 33, 162, 1) := ⟨by decide, rfl, x_CallV_own x_TsG x_k162 (x_r4 (List.mem_of_getElem? (i := 132) rfl) rfl) (x_r4 (List.mem_of_getElem? (i := 133) rfl) rfl) (x_r1 (List.mem_of_getElem? (i := 1) rfl) rfl) (x_r4 (List.mem_of_getElem? (i := 134) rfl) rfl) ⟨by decide, by decide, by decide +kernel⟩⟩
theorem x_cvs140 : x_cvsP (1, 170, 163, 3) := ⟨by decide, rfl, x_CallV_own x_TsG x_k163 (x_r4 (List.mem_of_getElem? (i := 136) rfl) rfl) (x_r4 (List.mem_of_getElem? (i := 137) rfl) rfl) (x_r1 (List.mem_of_getElem? (i := 10) rfl) rfl) (x_r4 (List.mem_of_getElem? (i := 138) rfl) rfl) ⟨by decide, by decide, by decide +kernel⟩⟩
theorem x_cvs141 : x_cvsP (10, 52, 164, 3) := ⟨by decide, rfl, x_CallV_own x_TsG x_k164 (x_r4 (List.mem_of_getElem? (i := 140) rfl) rfl) (x_r4 (List.mem_of_getElem? (i := 142) rfl) rfl) (x_r1 (List.mem_of_getElem? (i := 10) rfl) rfl) (x_tp (q := (⟨"StreamRefuter$Judge", "begin", "(LStreamRefuter$Problem;LStreamRefuter$Tokens;)V"⟩, 12)) (List.mem_of_getElem? (i := 30) (by decide +kernel))) ⟨by decide, by decide, by decide +kernel⟩⟩
theorem x_cvs142 : x_cvsP (10, 59, 166, 2) := ⟨by decide, rfl, x_CallV_own x_TsG x_k166 (x_r4 (List.mem_of_getElem? (i := 148) rfl) rfl) (x_r4 (List.mem_of_getElem? (i := 149) rfl) rfl) (x_r1 (List.mem_of_getElem? (i := 7) rfl) rfl) (x_r4 (List.mem_of_getElem? (i := 150) rfl) rfl) ⟨by decide, by decide, by decide +kernel⟩⟩
theorem x_cvs143 : x_cvsP (10, 63, 137, 2) := ⟨by decide, rfl, x_CallV_own x_TsG x_k137 (x_r4 (List.mem_of_getElem? (i := 152) rfl) rfl) (x_r2 (List.mem_of_getElem? (i := 158) rfl) rfl) (x_r1 (List.mem_of_getElem? (i := 7) rfl) rfl) (x_r2 (List.mem_of_getElem? (i := 159) rfl) rfl) ⟨by decide, by decide, by decide +kernel⟩⟩
theorem x_cvs144 : x_cvsP (10, 66, 167, 2) := ⟨by decide, rfl, x_CallV_own x_TsG x_k167 (x_r4 (List.mem_of_getElem? (i := 153) rfl) rfl) (x_r4 (List.mem_of_getElem? (i := 155) rfl) rfl) (x_r1 (List.mem_of_getElem? (i := 10) rfl) rfl) (x_tp (q := (⟨"StreamRefuter$Judge", "dropAll", "(I)Z"⟩, 12)) (List.mem_of_getElem? (i := 32) (by decide +kernel))) ⟨by decide, by decide, by decide +kernel⟩⟩
theorem x_cvs145 : x_cvsP (10, 70, 169, 3) := ⟨by decide, rfl, x_CallV_own x_TsG x_k169 (x_r4 (List.mem_of_getElem? (i := 161) rfl) rfl) (x_r4 (List.mem_of_getElem? (i := 163) rfl) rfl) (x_r1 (List.mem_of_getElem? (i := 10) rfl) rfl) (x_tp (q := (⟨"StreamRefuter$Judge", "isGood", "(II)Z"⟩, 12)) (List.mem_of_getElem? (i := 34) (by decide +kernel))) ⟨by decide, by decide, by decide +kernel⟩⟩
theorem x_cvs146 : x_cvsP (10, 81, 165, 3) := ⟨by decide, rfl, x_CallV_own x_TsG x_k165 (x_r4 (List.mem_of_getElem? (i := 144) rfl) rfl) (x_r4 (List.mem_of_getElem? (i := 146) rfl) rfl) (x_r1 (List.mem_of_getElem? (i := 10) rfl) rfl) (x_tp (q := (⟨"StreamRefuter$Judge", "learn", "(II)V"⟩, 12)) (List.mem_of_getElem? (i := 31) (by decide +kernel))) ⟨by decide, by decide, by decide +kernel⟩⟩
theorem x_cvs147 : x_cvsP (10, 85, 168, 2) := ⟨by decide, rfl, x_CallV_own x_TsG x_k168 (x_r4 (List.mem_of_getElem? (i := 157) rfl) rfl) (x_r4 (List.mem_of_getElem? (i := 159) rfl) rfl) (x_r1 (List.mem_of_getElem? (i := 10) rfl) rfl) (x_tp (q := (⟨"StreamRefuter$Judge", "find", "(I)I"⟩, 12)) (List.mem_of_getElem? (i := 33) (by decide +kernel))) ⟨by decide, by decide, by decide +kernel⟩⟩
theorem x_cvs148 : x_cvsP (10, 88, 170, 1) := ⟨by decide, rfl, x_CallV_own x_TsG x_k170 (x_r4 (List.mem_of_getElem? (i := 165) rfl) rfl) (x_r4 (List.mem_of_getElem? (i := 167) rfl) rfl) (x_r1 (List.mem_of_getElem? (i := 10) rfl) rfl) (x_tp (q := (⟨"StreamRefuter$Judge", "readClause", "()Z"⟩, 12)) (List.mem_of_getElem? (i := 35) (by decide +kernel))) ⟨by decide, by decide, by decide +kernel⟩⟩
theorem x_cvs149 : x_cvsP (10, 95, 171, 1) := ⟨by decide, rfl, x_CallV_own x_TsG x_k171 (x_r4 (List.mem_of_getElem? (i := 172) rfl) rfl) (x_r4 (List.mem_of_getElem? (i := 174) rfl) rfl) (x_r1 (List.mem_of_getElem? (i := 10) rfl) rfl) (x_tp (q := (⟨"StreamRefuter$Judge", "followRow", "()Z"⟩, 12)) (List.mem_of_getElem? (i := 36) (by decide +kernel))) ⟨by decide, by decide, by decide +kernel⟩⟩
theorem x_cvs150 : x_cvsP (10, 98, 173, 3) := ⟨by decide, rfl, x_CallV_own x_TsG x_k173 (x_r4 (List.mem_of_getElem? (i := 180) rfl) rfl) (x_r4 (List.mem_of_getElem? (i := 182) rfl) rfl) (x_r1 (List.mem_of_getElem? (i := 10) rfl) rfl) (x_tp (q := (⟨"StreamRefuter$Judge", "isSpared", "(II)Z"⟩, 12)) (List.mem_of_getElem? (i := 38) (by decide +kernel))) ⟨by decide, by decide, by decide +kernel⟩⟩
theorem x_cvs151 : x_cvsP (10, 108, 172, 2) := ⟨by decide, rfl, x_CallV_own x_TsG x_k172 (x_r4 (List.mem_of_getElem? (i := 176) rfl) rfl) (x_r4 (List.mem_of_getElem? (i := 178) rfl) rfl) (x_r1 (List.mem_of_getElem? (i := 10) rfl) rfl) (x_tp (q := (⟨"StreamRefuter$Judge", "follow", "(I)Z"⟩, 12)) (List.mem_of_getElem? (i := 37) (by decide +kernel))) ⟨by decide, by decide, by decide +kernel⟩⟩
theorem x_cvs152 : x_cvsP (10, 111, 174, 2) := ⟨by decide, rfl, x_CallV_own x_TsG x_k174 (x_r4 (List.mem_of_getElem? (i := 184) rfl) rfl) (x_r4 (List.mem_of_getElem? (i := 186) rfl) rfl) (x_r1 (List.mem_of_getElem? (i := 10) rfl) rfl) (x_tp (q := (⟨"StreamRefuter$Judge", "howManyHave", "(I)I"⟩, 12)) (List.mem_of_getElem? (i := 39) (by decide +kernel))) ⟨by decide, by decide, by decide +kernel⟩⟩
theorem x_cvs153 : x_cvsP (10, 114, 175, 2) := ⟨by decide, rfl, x_CallV_own x_TsG x_k175 (x_r4 (List.mem_of_getElem? (i := 188) rfl) rfl) (x_r4 (List.mem_of_getElem? (i := 190) rfl) rfl) (x_r1 (List.mem_of_getElem? (i := 10) rfl) rfl) (x_tp (q := (⟨"StreamRefuter$Judge", "withstands", "(I)Z"⟩, 12)) (List.mem_of_getElem? (i := 40) (by decide +kernel))) ⟨by decide, by decide, by decide +kernel⟩⟩
theorem x_cvs154 : x_cvsP (11, 370, 177, 1) := ⟨by decide, rfl, x_CallV_own x_TsG x_k177 (x_r6 (List.mem_of_getElem? (i := 150) rfl) rfl) (x_r6 (List.mem_of_getElem? (i := 152) rfl) rfl) (x_r1 (List.mem_of_getElem? (i := 11) rfl) rfl) (x_tp (q := (⟨"StreamRefuterModel", "knowFormula", "()V"⟩, 56)) (List.mem_of_getElem? (i := 87) (by decide +kernel))) ⟨by decide, by decide, by decide +kernel⟩⟩
theorem x_cvs155 : x_cvsP (11, 373, 179, 2) := ⟨by decide, rfl, x_CallV_own x_TsG x_k179 (x_r6 (List.mem_of_getElem? (i := 158) rfl) rfl) (x_r6 (List.mem_of_getElem? (i := 160) rfl) rfl) (x_r1 (List.mem_of_getElem? (i := 11) rfl) rfl) (x_tp (q := (⟨"StreamRefuterModel", "lineEnd", "(I)I"⟩, 56)) (List.mem_of_getElem? (i := 89) (by decide +kernel))) ⟨by decide, by decide, by decide +kernel⟩⟩
theorem x_cvs156 : x_cvsP (11, 376, 181, 2) := ⟨by decide, rfl, x_CallV_own x_TsG x_k181 (x_r6 (List.mem_of_getElem? (i := 166) rfl) rfl) (x_r6 (List.mem_of_getElem? (i := 168) rfl) rfl) (x_r1 (List.mem_of_getElem? (i := 11) rfl) rfl) (x_tp (q := (⟨"StreamRefuterModel", "drops", "(I)Z"⟩, 56)) (List.mem_of_getElem? (i := 91) (by decide +kernel))) ⟨by decide, by decide, by decide +kernel⟩⟩
theorem x_cvs157 : x_cvsP (11, 379, 183, 4) := ⟨by decide, rfl, x_CallV_own x_TsG x_k183 (x_r6 (List.mem_of_getElem? (i := 174) rfl) rfl) (x_r6 (List.mem_of_getElem? (i := 176) rfl) rfl) (x_r1 (List.mem_of_getElem? (i := 11) rfl) rfl) (x_tp (q := (⟨"StreamRefuterModel", "goodLine", "(III)I"⟩, 56)) (List.mem_of_getElem? (i := 93) (by decide +kernel))) ⟨by decide, by decide, by decide +kernel⟩⟩
theorem x_cvs158 : x_cvsP (11, 361, 178, 3) := ⟨by decide, rfl, x_CallV_own x_TsG x_k178 (x_r6 (List.mem_of_getElem? (i := 154) rfl) rfl) (x_r6 (List.mem_of_getElem? (i := 156) rfl) rfl) (x_r1 (List.mem_of_getElem? (i := 11) rfl) rfl) (x_tp (q := (⟨"StreamRefuterModel", "know", "(II)V"⟩, 56)) (List.mem_of_getElem? (i := 88) (by decide +kernel))) ⟨by decide, by decide, by decide +kernel⟩⟩
theorem x_cvs159 : x_cvsP (11, 332, 180, 2) := ⟨by decide, rfl, x_CallV_own x_TsG x_k180 (x_r6 (List.mem_of_getElem? (i := 162) rfl) rfl) (x_r6 (List.mem_of_getElem? (i := 164) rfl) rfl) (x_r1 (List.mem_of_getElem? (i := 11) rfl) rfl) (x_tp (q := (⟨"StreamRefuterModel", "behindZero", "(I)I"⟩, 56)) (List.mem_of_getElem? (i := 90) (by decide +kernel))) ⟨by decide, by decide, by decide +kernel⟩⟩
theorem x_cvs160 : x_cvsP (11, 338, 182, 2) := ⟨by decide, rfl, x_CallV_own x_TsG x_k182 (x_r6 (List.mem_of_getElem? (i := 170) rfl) rfl) (x_r6 (List.mem_of_getElem? (i := 172) rfl) rfl) (x_r1 (List.mem_of_getElem? (i := 11) rfl) rfl) (x_tp (q := (⟨"StreamRefuterModel", "find", "(I)I"⟩, 56)) (List.mem_of_getElem? (i := 92) (by decide +kernel))) ⟨by decide, by decide, by decide +kernel⟩⟩
theorem x_cvs161 : x_cvsP (11, 364, 184, 2) := ⟨by decide, rfl, x_CallV_own x_TsG x_k184 (x_r6 (List.mem_of_getElem? (i := 178) rfl) rfl) (x_r6 (List.mem_of_getElem? (i := 180) rfl) rfl) (x_r1 (List.mem_of_getElem? (i := 11) rfl) rfl) (x_tp (q := (⟨"StreamRefuterModel", "beginLine", "(I)I"⟩, 56)) (List.mem_of_getElem? (i := 94) (by decide +kernel))) ⟨by decide, by decide, by decide +kernel⟩⟩
theorem x_cvs162 : x_cvsP (11, 367, 185, 4) := ⟨by decide, rfl, x_CallV_own x_TsG x_k185 (x_r6 (List.mem_of_getElem? (i := 182) rfl) rfl) (x_r6 (List.mem_of_getElem? (i := 184) rfl) rfl) (x_r1 (List.mem_of_getElem? (i := 11) rfl) rfl) (x_tp (q := (⟨"StreamRefuterModel", "isFollowed", "(III)Z"⟩, 56)) (List.mem_of_getElem? (i := 95) (by decide +kernel))) ⟨by decide, by decide, by decide +kernel⟩⟩
theorem x_cvs163 : x_cvsP (11, 347, 186, 2) := ⟨by decide, rfl, x_CallV_own x_TsG x_k186 (x_r6 (List.mem_of_getElem? (i := 186) rfl) rfl) (x_r6 (List.mem_of_getElem? (i := 188) rfl) rfl) (x_r1 (List.mem_of_getElem? (i := 11) rfl) rfl) (x_tp (q := (⟨"StreamRefuterModel", "follow", "(I)I"⟩, 56)) (List.mem_of_getElem? (i := 96) (by decide +kernel))) ⟨by decide, by decide, by decide +kernel⟩⟩
theorem x_cvs164 : x_cvsP (11, 357, 188, 4) := ⟨by decide, rfl, x_CallV_own x_TsG x_k188 (x_r6 (List.mem_of_getElem? (i := 194) rfl) rfl) (x_r6 (List.mem_of_getElem? (i := 196) rfl) rfl) (x_r1 (List.mem_of_getElem? (i := 11) rfl) rfl) (x_tp (q := (⟨"StreamRefuterModel", "names", "(III)Z"⟩, 56)) (List.mem_of_getElem? (i := 98) (by decide +kernel))) ⟨by decide, by decide, by decide +kernel⟩⟩
theorem x_cvs165 : x_cvsP (11, 341, 187, 2) := ⟨by decide, rfl, x_CallV_own x_TsG x_k187 (x_r6 (List.mem_of_getElem? (i := 190) rfl) rfl) (x_r6 (List.mem_of_getElem? (i := 192) rfl) rfl) (x_r1 (List.mem_of_getElem? (i := 11) rfl) rfl) (x_tp (q := (⟨"StreamRefuterModel", "isKnownReady", "(I)Z"⟩, 56)) (List.mem_of_getElem? (i := 97) (by decide +kernel))) ⟨by decide, by decide, by decide +kernel⟩⟩
theorem x_cvs166 : x_cvsP (11, 350, 189, 3) := ⟨by decide, rfl, x_CallV_own x_TsG x_k189 (x_r6 (List.mem_of_getElem? (i := 198) rfl) rfl) (x_r6 (List.mem_of_getElem? (i := 200) rfl) rfl) (x_r1 (List.mem_of_getElem? (i := 11) rfl) rfl) (x_tp (q := (⟨"StreamRefuterModel", "knownHas", "(II)Z"⟩, 56)) (List.mem_of_getElem? (i := 99) (by decide +kernel))) ⟨by decide, by decide, by decide +kernel⟩⟩
theorem x_cvs167 : x_cvsP (11, 353, 190, 5) := ⟨by decide, rfl, x_CallV_own x_TsG x_k190 (x_r6 (List.mem_of_getElem? (i := 202) rfl) rfl) (x_r6 (List.mem_of_getElem? (i := 204) rfl) rfl) (x_r1 (List.mem_of_getElem? (i := 11) rfl) rfl) (x_tp (q := (⟨"StreamRefuterModel", "followGroup", "(IIII)Z"⟩, 56)) (List.mem_of_getElem? (i := 100) (by decide +kernel))) ⟨by decide, by decide, by decide +kernel⟩⟩
theorem x_cvs168 : x_cvsP (11, 344, 191, 3) := ⟨by decide, rfl, x_CallV_own x_TsG x_k191 (x_r6 (List.mem_of_getElem? (i := 206) rfl) rfl) (x_r6 (List.mem_of_getElem? (i := 208) rfl) rfl) (x_r1 (List.mem_of_getElem? (i := 11) rfl) rfl) (x_tp (q := (⟨"StreamRefuterModel", "isMet", "(II)Z"⟩, 56)) (List.mem_of_getElem? (i := 101) (by decide +kernel))) ⟨by decide, by decide, by decide +kernel⟩⟩
theorem x_cvs_ok : ∀ q ∈ x_cvs, x_cvsP q := by
  unfold x_cvs
  refine List.forall_mem_cons.mpr ⟨x_cvs0, ?_⟩
  refine List.forall_mem_cons.mpr ⟨x_cvs1, ?_⟩
  refine List.forall_mem_cons.mpr ⟨x_cvs2, ?_⟩
  refine List.forall_mem_cons.mpr ⟨x_cvs3, ?_⟩
  refine List.forall_mem_cons.mpr ⟨x_cvs4, ?_⟩
  refine List.forall_mem_cons.mpr ⟨x_cvs5, ?_⟩
  refine List.forall_mem_cons.mpr ⟨x_cvs6, ?_⟩
  refine List.forall_mem_cons.mpr ⟨x_cvs7, ?_⟩
  refine List.forall_mem_cons.mpr ⟨x_cvs8, ?_⟩
  refine List.forall_mem_cons.mpr ⟨x_cvs9, ?_⟩
  refine List.forall_mem_cons.mpr ⟨x_cvs10, ?_⟩
  refine List.forall_mem_cons.mpr ⟨x_cvs11, ?_⟩
  refine List.forall_mem_cons.mpr ⟨x_cvs12, ?_⟩
  refine List.forall_mem_cons.mpr ⟨x_cvs13, ?_⟩
  refine List.forall_mem_cons.mpr ⟨x_cvs14, ?_⟩
  refine List.forall_mem_cons.mpr ⟨x_cvs15, ?_⟩
  refine List.forall_mem_cons.mpr ⟨x_cvs16, ?_⟩
  refine List.forall_mem_cons.mpr ⟨x_cvs17, ?_⟩
  refine List.forall_mem_cons.mpr ⟨x_cvs18, ?_⟩
  refine List.forall_mem_cons.mpr ⟨x_cvs19, ?_⟩
  refine List.forall_mem_cons.mpr ⟨x_cvs20, ?_⟩
  refine List.forall_mem_cons.mpr ⟨x_cvs21, ?_⟩
  refine List.forall_mem_cons.mpr ⟨x_cvs22, ?_⟩
  refine List.forall_mem_cons.mpr ⟨x_cvs23, ?_⟩
  refine List.forall_mem_cons.mpr ⟨x_cvs24, ?_⟩
  refine List.forall_mem_cons.mpr ⟨x_cvs25, ?_⟩
  refine List.forall_mem_cons.mpr ⟨x_cvs26, ?_⟩
  refine List.forall_mem_cons.mpr ⟨x_cvs27, ?_⟩
  refine List.forall_mem_cons.mpr ⟨x_cvs28, ?_⟩
  refine List.forall_mem_cons.mpr ⟨x_cvs29, ?_⟩
  refine List.forall_mem_cons.mpr ⟨x_cvs30, ?_⟩
  refine List.forall_mem_cons.mpr ⟨x_cvs31, ?_⟩
  refine List.forall_mem_cons.mpr ⟨x_cvs32, ?_⟩
  refine List.forall_mem_cons.mpr ⟨x_cvs33, ?_⟩
  refine List.forall_mem_cons.mpr ⟨x_cvs34, ?_⟩
  refine List.forall_mem_cons.mpr ⟨x_cvs35, ?_⟩
  refine List.forall_mem_cons.mpr ⟨x_cvs36, ?_⟩
  refine List.forall_mem_cons.mpr ⟨x_cvs37, ?_⟩
  refine List.forall_mem_cons.mpr ⟨x_cvs38, ?_⟩
  refine List.forall_mem_cons.mpr ⟨x_cvs39, ?_⟩
  refine List.forall_mem_cons.mpr ⟨x_cvs40, ?_⟩
  refine List.forall_mem_cons.mpr ⟨x_cvs41, ?_⟩
  refine List.forall_mem_cons.mpr ⟨x_cvs42, ?_⟩
  refine List.forall_mem_cons.mpr ⟨x_cvs43, ?_⟩
  refine List.forall_mem_cons.mpr ⟨x_cvs44, ?_⟩
  refine List.forall_mem_cons.mpr ⟨x_cvs45, ?_⟩
  refine List.forall_mem_cons.mpr ⟨x_cvs46, ?_⟩
  refine List.forall_mem_cons.mpr ⟨x_cvs47, ?_⟩
  refine List.forall_mem_cons.mpr ⟨x_cvs48, ?_⟩
  refine List.forall_mem_cons.mpr ⟨x_cvs49, ?_⟩
  refine List.forall_mem_cons.mpr ⟨x_cvs50, ?_⟩
  refine List.forall_mem_cons.mpr ⟨x_cvs51, ?_⟩
  refine List.forall_mem_cons.mpr ⟨x_cvs52, ?_⟩
  refine List.forall_mem_cons.mpr ⟨x_cvs53, ?_⟩
  refine List.forall_mem_cons.mpr ⟨x_cvs54, ?_⟩
  refine List.forall_mem_cons.mpr ⟨x_cvs55, ?_⟩
  refine List.forall_mem_cons.mpr ⟨x_cvs56, ?_⟩
  refine List.forall_mem_cons.mpr ⟨x_cvs57, ?_⟩
  refine List.forall_mem_cons.mpr ⟨x_cvs58, ?_⟩
  refine List.forall_mem_cons.mpr ⟨x_cvs59, ?_⟩
  refine List.forall_mem_cons.mpr ⟨x_cvs60, ?_⟩
  refine List.forall_mem_cons.mpr ⟨x_cvs61, ?_⟩
  refine List.forall_mem_cons.mpr ⟨x_cvs62, ?_⟩
  refine List.forall_mem_cons.mpr ⟨x_cvs63, ?_⟩
  refine List.forall_mem_cons.mpr ⟨x_cvs64, ?_⟩
  refine List.forall_mem_cons.mpr ⟨x_cvs65, ?_⟩
  refine List.forall_mem_cons.mpr ⟨x_cvs66, ?_⟩
  refine List.forall_mem_cons.mpr ⟨x_cvs67, ?_⟩
  refine List.forall_mem_cons.mpr ⟨x_cvs68, ?_⟩
  refine List.forall_mem_cons.mpr ⟨x_cvs69, ?_⟩
  refine List.forall_mem_cons.mpr ⟨x_cvs70, ?_⟩
  refine List.forall_mem_cons.mpr ⟨x_cvs71, ?_⟩
  refine List.forall_mem_cons.mpr ⟨x_cvs72, ?_⟩
  refine List.forall_mem_cons.mpr ⟨x_cvs73, ?_⟩
  refine List.forall_mem_cons.mpr ⟨x_cvs74, ?_⟩
  refine List.forall_mem_cons.mpr ⟨x_cvs75, ?_⟩
  refine List.forall_mem_cons.mpr ⟨x_cvs76, ?_⟩
  refine List.forall_mem_cons.mpr ⟨x_cvs77, ?_⟩
  refine List.forall_mem_cons.mpr ⟨x_cvs78, ?_⟩
  refine List.forall_mem_cons.mpr ⟨x_cvs79, ?_⟩
  refine List.forall_mem_cons.mpr ⟨x_cvs80, ?_⟩
  refine List.forall_mem_cons.mpr ⟨x_cvs81, ?_⟩
  refine List.forall_mem_cons.mpr ⟨x_cvs82, ?_⟩
  refine List.forall_mem_cons.mpr ⟨x_cvs83, ?_⟩
  refine List.forall_mem_cons.mpr ⟨x_cvs84, ?_⟩
  refine List.forall_mem_cons.mpr ⟨x_cvs85, ?_⟩
  refine List.forall_mem_cons.mpr ⟨x_cvs86, ?_⟩
  refine List.forall_mem_cons.mpr ⟨x_cvs87, ?_⟩
  refine List.forall_mem_cons.mpr ⟨x_cvs88, ?_⟩
  refine List.forall_mem_cons.mpr ⟨x_cvs89, ?_⟩
  refine List.forall_mem_cons.mpr ⟨x_cvs90, ?_⟩
  refine List.forall_mem_cons.mpr ⟨x_cvs91, ?_⟩
  refine List.forall_mem_cons.mpr ⟨x_cvs92, ?_⟩
  refine List.forall_mem_cons.mpr ⟨x_cvs93, ?_⟩
  refine List.forall_mem_cons.mpr ⟨x_cvs94, ?_⟩
  refine List.forall_mem_cons.mpr ⟨x_cvs95, ?_⟩
  refine List.forall_mem_cons.mpr ⟨x_cvs96, ?_⟩
  refine List.forall_mem_cons.mpr ⟨x_cvs97, ?_⟩
  refine List.forall_mem_cons.mpr ⟨x_cvs98, ?_⟩
  refine List.forall_mem_cons.mpr ⟨x_cvs99, ?_⟩
  refine List.forall_mem_cons.mpr ⟨x_cvs100, ?_⟩
  refine List.forall_mem_cons.mpr ⟨x_cvs101, ?_⟩
  refine List.forall_mem_cons.mpr ⟨x_cvs102, ?_⟩
  refine List.forall_mem_cons.mpr ⟨x_cvs103, ?_⟩
  refine List.forall_mem_cons.mpr ⟨x_cvs104, ?_⟩
  refine List.forall_mem_cons.mpr ⟨x_cvs105, ?_⟩
  refine List.forall_mem_cons.mpr ⟨x_cvs106, ?_⟩
  refine List.forall_mem_cons.mpr ⟨x_cvs107, ?_⟩
  refine List.forall_mem_cons.mpr ⟨x_cvs108, ?_⟩
  refine List.forall_mem_cons.mpr ⟨x_cvs109, ?_⟩
  refine List.forall_mem_cons.mpr ⟨x_cvs110, ?_⟩
  refine List.forall_mem_cons.mpr ⟨x_cvs111, ?_⟩
  refine List.forall_mem_cons.mpr ⟨x_cvs112, ?_⟩
  refine List.forall_mem_cons.mpr ⟨x_cvs113, ?_⟩
  refine List.forall_mem_cons.mpr ⟨x_cvs114, ?_⟩
  refine List.forall_mem_cons.mpr ⟨x_cvs115, ?_⟩
  refine List.forall_mem_cons.mpr ⟨x_cvs116, ?_⟩
  refine List.forall_mem_cons.mpr ⟨x_cvs117, ?_⟩
  refine List.forall_mem_cons.mpr ⟨x_cvs118, ?_⟩
  refine List.forall_mem_cons.mpr ⟨x_cvs119, ?_⟩
  refine List.forall_mem_cons.mpr ⟨x_cvs120, ?_⟩
  refine List.forall_mem_cons.mpr ⟨x_cvs121, ?_⟩
  refine List.forall_mem_cons.mpr ⟨x_cvs122, ?_⟩
  refine List.forall_mem_cons.mpr ⟨x_cvs123, ?_⟩
  refine List.forall_mem_cons.mpr ⟨x_cvs124, ?_⟩
  refine List.forall_mem_cons.mpr ⟨x_cvs125, ?_⟩
  refine List.forall_mem_cons.mpr ⟨x_cvs126, ?_⟩
  refine List.forall_mem_cons.mpr ⟨x_cvs127, ?_⟩
  refine List.forall_mem_cons.mpr ⟨x_cvs128, ?_⟩
  refine List.forall_mem_cons.mpr ⟨x_cvs129, ?_⟩
  refine List.forall_mem_cons.mpr ⟨x_cvs130, ?_⟩
  refine List.forall_mem_cons.mpr ⟨x_cvs131, ?_⟩
  refine List.forall_mem_cons.mpr ⟨x_cvs132, ?_⟩
  refine List.forall_mem_cons.mpr ⟨x_cvs133, ?_⟩
  refine List.forall_mem_cons.mpr ⟨x_cvs134, ?_⟩
  refine List.forall_mem_cons.mpr ⟨x_cvs135, ?_⟩
  refine List.forall_mem_cons.mpr ⟨x_cvs136, ?_⟩
  refine List.forall_mem_cons.mpr ⟨x_cvs137, ?_⟩
  refine List.forall_mem_cons.mpr ⟨x_cvs138, ?_⟩
  refine List.forall_mem_cons.mpr ⟨x_cvs139, ?_⟩
  refine List.forall_mem_cons.mpr ⟨x_cvs140, ?_⟩
  refine List.forall_mem_cons.mpr ⟨x_cvs141, ?_⟩
  refine List.forall_mem_cons.mpr ⟨x_cvs142, ?_⟩
  refine List.forall_mem_cons.mpr ⟨x_cvs143, ?_⟩
  refine List.forall_mem_cons.mpr ⟨x_cvs144, ?_⟩
  refine List.forall_mem_cons.mpr ⟨x_cvs145, ?_⟩
  refine List.forall_mem_cons.mpr ⟨x_cvs146, ?_⟩
  refine List.forall_mem_cons.mpr ⟨x_cvs147, ?_⟩
  refine List.forall_mem_cons.mpr ⟨x_cvs148, ?_⟩
  refine List.forall_mem_cons.mpr ⟨x_cvs149, ?_⟩
  refine List.forall_mem_cons.mpr ⟨x_cvs150, ?_⟩
  refine List.forall_mem_cons.mpr ⟨x_cvs151, ?_⟩
  refine List.forall_mem_cons.mpr ⟨x_cvs152, ?_⟩
  refine List.forall_mem_cons.mpr ⟨x_cvs153, ?_⟩
  refine List.forall_mem_cons.mpr ⟨x_cvs154, ?_⟩
  refine List.forall_mem_cons.mpr ⟨x_cvs155, ?_⟩
  refine List.forall_mem_cons.mpr ⟨x_cvs156, ?_⟩
  refine List.forall_mem_cons.mpr ⟨x_cvs157, ?_⟩
  refine List.forall_mem_cons.mpr ⟨x_cvs158, ?_⟩
  refine List.forall_mem_cons.mpr ⟨x_cvs159, ?_⟩
  refine List.forall_mem_cons.mpr ⟨x_cvs160, ?_⟩
  refine List.forall_mem_cons.mpr ⟨x_cvs161, ?_⟩
  refine List.forall_mem_cons.mpr ⟨x_cvs162, ?_⟩
  refine List.forall_mem_cons.mpr ⟨x_cvs163, ?_⟩
  refine List.forall_mem_cons.mpr ⟨x_cvs164, ?_⟩
  refine List.forall_mem_cons.mpr ⟨x_cvs165, ?_⟩
  refine List.forall_mem_cons.mpr ⟨x_cvs166, ?_⟩
  refine List.forall_mem_cons.mpr ⟨x_cvs167, ?_⟩
  refine List.forall_mem_cons.mpr ⟨x_cvs168, ?_⟩
  exact fun _ h => absurd h List.not_mem_nil
def x_cvt : List (Nat × Nat × Nat × Nat) := [(6, 58, 0, 1), (6, 146, 1, 1), (6, 95, 2, 1), (6, 98, 3, 1), (6, 113, 4, 2), (7, 33, 0, 1)]
def x_cvtP (q : Nat × Nat × Nat × Nat) : Prop := (x_prog.2.2.2.2.1 q.2.2.1).1 < 90 ∧ (x_prog.2.2.2.2.1 q.2.2.1).2.2.1 < 90 ∧ x_cts[(x_prog.2.2.2.2.1 q.2.2.1).1]? = some (x_ct (x_prog.2.2.2.2.1 q.2.2.1).1) ∧ x_cts[(x_prog.2.2.2.2.1 q.2.2.1).2.2.1]? = some (x_ct (x_prog.2.2.2.2.1 q.2.2.1).2.2.1) ∧ x_CallV x_Ts x_Nw (x_on q.1) q.2.1 (x_ct (x_prog.2.2.2.2.1 q.2.2.1).1).1 (x_mt (x_prog.2.2.2.2.1 q.2.2.1).2.1).1 (x_mt (x_prog.2.2.2.2.1 q.2.2.1).2.1).2.1 (x_mt (x_prog.2.2.2.2.1 q.2.2.1).2.1).2.2.1 (x_mt (x_prog.2.2.2.2.1 q.2.2.1).2.1).2.2.2.1 q.2.2.2 ∧ x_CallV x_Ts x_Nw (x_on q.1) q.2.1 (x_ct (x_prog.2.2.2.2.1 q.2.2.1).2.2.1).1 (x_mt (x_prog.2.2.2.2.1 q.2.2.1).2.2.2).1 (x_mt (x_prog.2.2.2.2.1 q.2.2.1).2.2.2).2.1 (x_mt (x_prog.2.2.2.2.1 q.2.2.1).2.2.2).2.2.1 (x_mt (x_prog.2.2.2.2.1 q.2.2.1).2.2.2).2.2.2.1 q.2.2.2
theorem x_cvt0 : x_cvtP (6, 58, 0, 1) := ⟨by decide, by decide, rfl, rfl, x_CallV_up (x := ⟨"StreamRefuter$Words", "restart", "()V"⟩) x_TsG x_k22 (x_r2 (List.mem_of_getElem? (i := 185) rfl) rfl) (x_r2 (List.mem_of_getElem? (i := 186) rfl) rfl) (x_r2 (List.mem_of_getElem? (i := 189) rfl) rfl) (x_r1 (List.mem_of_getElem? (i := 3) rfl) rfl) (x_r2 (List.mem_of_getElem? (i := 188) rfl) rfl) rfl ⟨by decide, by decide, by decide +kernel⟩, x_CallV_up (x := ⟨"StreamRefuter$Words", "restart", "()V"⟩) x_TsG x_k22 (x_r2 (List.mem_of_getElem? (i := 185) rfl) rfl) (x_r2 (List.mem_of_getElem? (i := 186) rfl) rfl) (x_r2 (List.mem_of_getElem? (i := 189) rfl) rfl) (x_r1 (List.mem_of_getElem? (i := 3) rfl) rfl) (x_r2 (List.mem_of_getElem? (i := 188) rfl) rfl) rfl ⟨by decide, by decide, by decide +kernel⟩⟩
theorem x_cvt1 : x_cvtP (6, 146, 1, 1) := ⟨by decide, by decide, rfl, rfl, x_CallV_abs (owner := "StreamRefuter$Numbers") (x := ⟨"StreamRefuter$Numbers", "advance", "()V"⟩) x_TsG x_k23 (x_r3 (List.mem_of_getElem? (i := 47) rfl) rfl) (x_r3 (List.mem_of_getElem? (i := 49) rfl) rfl) (x_r2 (List.mem_of_getElem? (i := 192) rfl) rfl) (x_r1 (List.mem_of_getElem? (i := 4) rfl) rfl) (x_r3 (List.mem_of_getElem? (i := 62) rfl) rfl) (List.mem_of_getElem? (i := 17) rfl) ⟨by decide, by decide, by decide +kernel⟩, x_CallV_abs (owner := "StreamRefuter$Numbers") (x := ⟨"StreamRefuter$Numbers", "advance", "()V"⟩) x_TsG x_k35 (x_r3 (List.mem_of_getElem? (i := 47) rfl) rfl) (x_r3 (List.mem_of_getElem? (i := 49) rfl) rfl) (x_r3 (List.mem_of_getElem? (i := 51) rfl) rfl) (x_r1 (List.mem_of_getElem? (i := 5) rfl) rfl) (x_r3 (List.mem_of_getElem? (i := 50) rfl) rfl) (List.mem_of_getElem? (i := 17) rfl) ⟨by decide, by decide, by decide +kernel⟩⟩
theorem x_cvt2 : x_cvtP (6, 95, 2, 1) := ⟨by decide, by decide, rfl, rfl, x_CallV_up (x := ⟨"StreamRefuter$Numbers", "restart", "()V"⟩) x_TsG x_k22 (x_r3 (List.mem_of_getElem? (i := 172) rfl) rfl) (x_r6 (List.mem_of_getElem? (i := 212) rfl) rfl) (x_r2 (List.mem_of_getElem? (i := 189) rfl) rfl) (x_r1 (List.mem_of_getElem? (i := 3) rfl) rfl) (x_r6 (List.mem_of_getElem? (i := 214) rfl) rfl) rfl ⟨by decide, by decide, by decide +kernel⟩, x_CallV_up (x := ⟨"StreamRefuter$Numbers", "restart", "()V"⟩) x_TsG x_k22 (x_r3 (List.mem_of_getElem? (i := 172) rfl) rfl) (x_r6 (List.mem_of_getElem? (i := 212) rfl) rfl) (x_r2 (List.mem_of_getElem? (i := 189) rfl) rfl) (x_r1 (List.mem_of_getElem? (i := 3) rfl) rfl) (x_r6 (List.mem_of_getElem? (i := 213) rfl) rfl) rfl ⟨by decide, by decide, by decide +kernel⟩⟩
theorem x_cvt3 : x_cvtP (6, 98, 3, 1) := ⟨by decide, by decide, rfl, rfl, x_CallV_abs (owner := "StreamRefuter$Numbers") (x := ⟨"StreamRefuter$Numbers", "openStep", "()LStreamRefuter$Opening;"⟩) x_TsG x_k61 (x_r3 (List.mem_of_getElem? (i := 173) rfl) rfl) (x_r3 (List.mem_of_getElem? (i := 175) rfl) rfl) (x_r3 (List.mem_of_getElem? (i := 188) rfl) rfl) (x_r1 (List.mem_of_getElem? (i := 4) rfl) rfl) (x_r3 (List.mem_of_getElem? (i := 187) rfl) rfl) (List.mem_of_getElem? (i := 18) rfl) ⟨by decide, by decide, by decide +kernel⟩, x_CallV_abs (owner := "StreamRefuter$Numbers") (x := ⟨"StreamRefuter$Numbers", "openStep", "()LStreamRefuter$Opening;"⟩) x_TsG x_k62 (x_r3 (List.mem_of_getElem? (i := 173) rfl) rfl) (x_r3 (List.mem_of_getElem? (i := 175) rfl) rfl) (x_r3 (List.mem_of_getElem? (i := 177) rfl) rfl) (x_r1 (List.mem_of_getElem? (i := 5) rfl) rfl) (x_r3 (List.mem_of_getElem? (i := 176) rfl) rfl) (List.mem_of_getElem? (i := 18) rfl) ⟨by decide, by decide, by decide +kernel⟩⟩
theorem x_cvt4 : x_cvtP (6, 113, 4, 2) := ⟨by decide, by decide, rfl, rfl, x_CallV_abs (owner := "StreamRefuter$Numbers") (x := ⟨"StreamRefuter$Numbers", "enterClause", "(LStreamRefuter$Opening;)V"⟩) x_TsG x_k64 (x_r3 (List.mem_of_getElem? (i := 201) rfl) rfl) (x_r3 (List.mem_of_getElem? (i := 203) rfl) rfl) (x_r3 (List.mem_of_getElem? (i := 209) rfl) rfl) (x_r1 (List.mem_of_getElem? (i := 4) rfl) rfl) (x_r3 (List.mem_of_getElem? (i := 208) rfl) rfl) (List.mem_of_getElem? (i := 19) rfl) ⟨by decide, by decide, by decide +kernel⟩, x_CallV_abs (owner := "StreamRefuter$Numbers") (x := ⟨"StreamRefuter$Numbers", "enterClause", "(LStreamRefuter$Opening;)V"⟩) x_TsG x_k65 (x_r3 (List.mem_of_getElem? (i := 201) rfl) rfl) (x_r3 (List.mem_of_getElem? (i := 203) rfl) rfl) (x_r3 (List.mem_of_getElem? (i := 205) rfl) rfl) (x_r1 (List.mem_of_getElem? (i := 5) rfl) rfl) (x_r3 (List.mem_of_getElem? (i := 204) rfl) rfl) (List.mem_of_getElem? (i := 19) rfl) ⟨by decide, by decide, by decide +kernel⟩⟩
theorem x_cvt5 : x_cvtP (7, 33, 0, 1) := ⟨by decide, by decide, rfl, rfl, x_CallV_up (x := ⟨"StreamRefuter$Words", "restart", "()V"⟩) x_TsG x_k22 (x_r3 (List.mem_of_getElem? (i := 233) rfl) rfl) (x_r2 (List.mem_of_getElem? (i := 186) rfl) rfl) (x_r2 (List.mem_of_getElem? (i := 189) rfl) rfl) (x_r1 (List.mem_of_getElem? (i := 3) rfl) rfl) (x_r2 (List.mem_of_getElem? (i := 188) rfl) rfl) rfl ⟨by decide, by decide, by decide +kernel⟩, x_CallV_up (x := ⟨"StreamRefuter$Words", "restart", "()V"⟩) x_TsG x_k22 (x_r3 (List.mem_of_getElem? (i := 233) rfl) rfl) (x_r2 (List.mem_of_getElem? (i := 186) rfl) rfl) (x_r2 (List.mem_of_getElem? (i := 189) rfl) rfl) (x_r1 (List.mem_of_getElem? (i := 3) rfl) rfl) (x_r2 (List.mem_of_getElem? (i := 188) rfl) rfl) rfl ⟨by decide, by decide, by decide +kernel⟩⟩
theorem x_cvt_ok : ∀ q ∈ x_cvt, x_cvtP q := by
  unfold x_cvt
  refine List.forall_mem_cons.mpr ⟨x_cvt0, ?_⟩
  refine List.forall_mem_cons.mpr ⟨x_cvt1, ?_⟩
  refine List.forall_mem_cons.mpr ⟨x_cvt2, ?_⟩
  refine List.forall_mem_cons.mpr ⟨x_cvt3, ?_⟩
  refine List.forall_mem_cons.mpr ⟨x_cvt4, ?_⟩
  refine List.forall_mem_cons.mpr ⟨x_cvt5, ?_⟩
  exact fun _ h => absurd h List.not_mem_nil
def x_nws : List (Nat × Nat × Nat) := [(0, 8, 0), (0, 37, 9), (1, 7, 1), (1, 16, 2), (1, 25, 3), (1, 32, 4), (1, 42, 5), (1, 52, 7), (1, 61, 8), (8, 22, 5), (8, 47, 6)]
def x_nwsP (q : Nat × Nat × Nat) : Prop := x_cf x_cts x_ct x_fk x_ty x_Ts q.2.2 ∧ Cond.classLink (x_on q.1) q.2.1 (x_ct q.2.2).1 ∈ x_Ts ∧ Cond.instantiable (x_ct q.2.2).1 (x_ct q.2.2).2.2 ∈ x_Ts ∧ Cond.initialized (x_ct q.2.2).1 ∈ x_Ts
theorem x_nws0 : x_nwsP (0, 8, 0) := ⟨x_c0, x_r1 (List.mem_of_getElem? (i := 24) rfl) rfl, x_r1 (List.mem_of_getElem? (i := 25) rfl) rfl, x_r1 (List.mem_of_getElem? (i := 1) rfl) rfl⟩
theorem x_nws1 : x_nwsP (0, 37, 9) := ⟨x_c9, x_r4 (List.mem_of_getElem? (i := 192) rfl) rfl, x_r4 (List.mem_of_getElem? (i := 193) rfl) rfl, x_r1 (List.mem_of_getElem? (i := 11) rfl) rfl⟩
theorem x_nws2 : x_nwsP (1, 7, 1) := ⟨x_c1, x_r1 (List.mem_of_getElem? (i := 32) rfl) rfl, x_r1 (List.mem_of_getElem? (i := 33) rfl) rfl, x_r1 (List.mem_of_getElem? (i := 2) rfl) rfl⟩
theorem x_nws3 : x_nwsP (1, 16, 2) := ⟨x_c2, x_r1 (List.mem_of_getElem? (i := 46) rfl) rfl, x_r1 (List.mem_of_getElem? (i := 47) rfl) rfl, x_r1 (List.mem_of_getElem? (i := 4) rfl) rfl⟩
theorem x_nws4 : x_nwsP (1, 25, 3) := ⟨x_c3, x_r1 (List.mem_of_getElem? (i := 90) rfl) rfl, x_r1 (List.mem_of_getElem? (i := 91) rfl) rfl, x_r1 (List.mem_of_getElem? (i := 5) rfl) rfl⟩
theorem x_nws5 : x_nwsP (1, 32, 4) := ⟨x_c4, x_r1 (List.mem_of_getElem? (i := 101) rfl) rfl, x_r1 (List.mem_of_getElem? (i := 102) rfl) rfl, x_r1 (List.mem_of_getElem? (i := 6) rfl) rfl⟩
theorem x_nws6 : x_nwsP (1, 42, 5) := ⟨x_c5, x_r1 (List.mem_of_getElem? (i := 175) rfl) rfl, x_r1 (List.mem_of_getElem? (i := 176) rfl) rfl, x_r1 (List.mem_of_getElem? (i := 7) rfl) rfl⟩
theorem x_nws7 : x_nwsP (1, 52, 7) := ⟨x_c7, x_r1 (List.mem_of_getElem? (i := 195) rfl) rfl, x_r1 (List.mem_of_getElem? (i := 196) rfl) rfl, x_r1 (List.mem_of_getElem? (i := 8) rfl) rfl⟩
theorem x_nws8 : x_nwsP (1, 61, 8) := ⟨x_c8, x_r2 (List.mem_of_getElem? (i := 35) rfl) rfl, x_r2 (List.mem_of_getElem? (i := 36) rfl) rfl, x_r1 (List.mem_of_getElem? (i := 10) rfl) rfl⟩
theorem x_nws9 : x_nwsP (8, 22, 5) := ⟨x_c5, x_r1 (List.mem_of_getElem? (i := 201) rfl) rfl, x_r1 (List.mem_of_getElem? (i := 176) rfl) rfl, x_r1 (List.mem_of_getElem? (i := 7) rfl) rfl⟩
theorem x_nws10 : x_nwsP (8, 47, 6) := ⟨x_c6, x_r1 (List.mem_of_getElem? (i := 203) rfl) rfl, x_r1 (List.mem_of_getElem? (i := 204) rfl) rfl, x_r1 (List.mem_of_getElem? (i := 9) rfl) rfl⟩
theorem x_nws_ok : ∀ q ∈ x_nws, x_nwsP q := by
  unfold x_nws
  refine List.forall_mem_cons.mpr ⟨x_nws0, ?_⟩
  refine List.forall_mem_cons.mpr ⟨x_nws1, ?_⟩
  refine List.forall_mem_cons.mpr ⟨x_nws2, ?_⟩
  refine List.forall_mem_cons.mpr ⟨x_nws3, ?_⟩
  refine List.forall_mem_cons.mpr ⟨x_nws4, ?_⟩
  refine List.forall_mem_cons.mpr ⟨x_nws5, ?_⟩
  refine List.forall_mem_cons.mpr ⟨x_nws6, ?_⟩
  refine List.forall_mem_cons.mpr ⟨x_nws7, ?_⟩
  refine List.forall_mem_cons.mpr ⟨x_nws8, ?_⟩
  refine List.forall_mem_cons.mpr ⟨x_nws9, ?_⟩
  refine List.forall_mem_cons.mpr ⟨x_nws10, ?_⟩
  exact fun _ h => absurd h List.not_mem_nil
def x_ldi : List (Nat × Nat × Int32) := []
def x_ldiP (q : Nat × Nat × Int32) : Prop := Jvm.Cond.constant (x_on q.1) q.2.1 q.2.2 ∈ x_Ts
theorem x_ldi_ok : ∀ q ∈ x_ldi, x_ldiP q := by
  unfold x_ldi
  exact fun _ h => absurd h List.not_mem_nil
def x_ldl : List (Nat × Nat × Int64) := [(0, 40, 4294967295), (11, 120, 255), (6, 131, -1), (8, 149, -1)]
def x_ldlP (q : Nat × Nat × Int64) : Prop := Jvm.Cond.constantLong (x_on q.1) q.2.1 q.2.2 ∈ x_Ts
theorem x_ldl0 : x_ldlP (0, 40, 4294967295) := x_r6 (List.mem_of_getElem? (i := 210) rfl) rfl
theorem x_ldl1 : x_ldlP (11, 120, 255) := x_r5 (List.mem_of_getElem? (i := 135) rfl) rfl
theorem x_ldl2 : x_ldlP (6, 131, -1) := x_r3 (List.mem_of_getElem? (i := 220) rfl) rfl
theorem x_ldl3 : x_ldlP (8, 149, -1) := x_r4 (List.mem_of_getElem? (i := 99) rfl) rfl
theorem x_ldl_ok : ∀ q ∈ x_ldl, x_ldlP q := by
  unfold x_ldl
  refine List.forall_mem_cons.mpr ⟨x_ldl0, ?_⟩
  refine List.forall_mem_cons.mpr ⟨x_ldl1, ?_⟩
  refine List.forall_mem_cons.mpr ⟨x_ldl2, ?_⟩
  refine List.forall_mem_cons.mpr ⟨x_ldl3, ?_⟩
  exact fun _ h => absurd h List.not_mem_nil
def x_gst : List (Nat × Nat × Nat) := [(6, 102, 0), (3, 43, 0), (3, 49, 1), (3, 52, 2), (5, 38, 0), (5, 44, 1), (5, 47, 2), (5, 50, 3), (6, 121, 2), (6, 124, 1)]
def x_gstP (q : Nat × Nat × Nat) : Prop := q.2.2 < 4 ∧ ∃ ref, Cond.fieldLink (x_on q.1) q.2.1 ref (x_enu q.2.2).2.1 (x_enu q.2.2).2.2 ∈ x_Ts ∧ (x_enu q.2.2).1 = ref
theorem x_gst0 : x_gstP (6, 102, 0) := ⟨by decide, "StreamRefuter$Opening", x_r3 (List.mem_of_getElem? (i := 194) rfl) rfl, rfl⟩
theorem x_gst1 : x_gstP (3, 43, 0) := ⟨by decide, "StreamRefuter$Opening", x_r3 (List.mem_of_getElem? (i := 191) rfl) rfl, rfl⟩
theorem x_gst2 : x_gstP (3, 49, 1) := ⟨by decide, "StreamRefuter$Opening", x_r3 (List.mem_of_getElem? (i := 192) rfl) rfl, rfl⟩
theorem x_gst3 : x_gstP (3, 52, 2) := ⟨by decide, "StreamRefuter$Opening", x_r3 (List.mem_of_getElem? (i := 193) rfl) rfl, rfl⟩
theorem x_gst4 : x_gstP (5, 38, 0) := ⟨by decide, "StreamRefuter$Opening", x_r3 (List.mem_of_getElem? (i := 179) rfl) rfl, rfl⟩
theorem x_gst5 : x_gstP (5, 44, 1) := ⟨by decide, "StreamRefuter$Opening", x_r3 (List.mem_of_getElem? (i := 181) rfl) rfl, rfl⟩
theorem x_gst6 : x_gstP (5, 47, 2) := ⟨by decide, "StreamRefuter$Opening", x_r3 (List.mem_of_getElem? (i := 183) rfl) rfl, rfl⟩
theorem x_gst7 : x_gstP (5, 50, 3) := ⟨by decide, "StreamRefuter$Opening", x_r3 (List.mem_of_getElem? (i := 185) rfl) rfl, rfl⟩
theorem x_gst8 : x_gstP (6, 121, 2) := ⟨by decide, "StreamRefuter$Opening", x_r3 (List.mem_of_getElem? (i := 199) rfl) rfl, rfl⟩
theorem x_gst9 : x_gstP (6, 124, 1) := ⟨by decide, "StreamRefuter$Opening", x_r3 (List.mem_of_getElem? (i := 200) rfl) rfl, rfl⟩
theorem x_gst_ok : ∀ q ∈ x_gst, x_gstP q := by
  unfold x_gst
  refine List.forall_mem_cons.mpr ⟨x_gst0, ?_⟩
  refine List.forall_mem_cons.mpr ⟨x_gst1, ?_⟩
  refine List.forall_mem_cons.mpr ⟨x_gst2, ?_⟩
  refine List.forall_mem_cons.mpr ⟨x_gst3, ?_⟩
  refine List.forall_mem_cons.mpr ⟨x_gst4, ?_⟩
  refine List.forall_mem_cons.mpr ⟨x_gst5, ?_⟩
  refine List.forall_mem_cons.mpr ⟨x_gst6, ?_⟩
  refine List.forall_mem_cons.mpr ⟨x_gst7, ?_⟩
  refine List.forall_mem_cons.mpr ⟨x_gst8, ?_⟩
  refine List.forall_mem_cons.mpr ⟨x_gst9, ?_⟩
  exact fun _ h => absurd h List.not_mem_nil
def x_acp : List (Nat × Nat) := [(6, 147)]
def x_acpP (q : Nat × Nat) : Prop := Cond.methodLink (x_on q.1) q.2 arraycopyName ∈ x_Ts ∧ Cond.native arraycopyName ∈ x_Ts ∧ Cond.static arraycopyName ∈ x_Ts ∧ Cond.initialized "java/lang/System" ∈ x_Ts
theorem x_acp0 : x_acpP (6, 147) := ⟨x_r3 (List.mem_of_getElem? (i := 67) rfl) rfl, x_r3 (List.mem_of_getElem? (i := 69) rfl) rfl, x_r3 (List.mem_of_getElem? (i := 68) rfl) rfl, x_r1 (List.mem_of_getElem? (i := 16) rfl) rfl⟩
theorem x_acp_ok : ∀ q ∈ x_acp, x_acpP q := by
  unfold x_acp
  refine List.forall_mem_cons.mpr ⟨x_acp0, ?_⟩
  exact fun _ h => absurd h List.not_mem_nil
def x_obi : List (Nat × Nat) := [(1, 1), (2, 3), (4, 3), (6, 3), (7, 3), (8, 3), (9, 3), (10, 3), (11, 1)]
def x_obiP (q : Nat × Nat) : Prop := Cond.methodLink (x_on q.1) q.2 objectInit ∈ x_Ts ∧ Cond.instanceMethod objectInit ∈ x_Ts ∧ Cond.code objectInit ⟨#[0xb1]⟩ 1 none ∈ x_Ts
theorem x_obi0 : x_obiP (1, 1) := ⟨x_r1 (List.mem_of_getElem? (i := 29) rfl) rfl, x_r1 (List.mem_of_getElem? (i := 30) rfl) rfl, x_r1 (List.mem_of_getElem? (i := 31) rfl) rfl⟩
theorem x_obi1 : x_obiP (2, 3) := ⟨x_r1 (List.mem_of_getElem? (i := 37) rfl) rfl, x_r1 (List.mem_of_getElem? (i := 30) rfl) rfl, x_r1 (List.mem_of_getElem? (i := 31) rfl) rfl⟩
theorem x_obi2 : x_obiP (4, 3) := ⟨x_r1 (List.mem_of_getElem? (i := 54) rfl) rfl, x_r1 (List.mem_of_getElem? (i := 30) rfl) rfl, x_r1 (List.mem_of_getElem? (i := 31) rfl) rfl⟩
theorem x_obi3 : x_obiP (6, 3) := ⟨x_r1 (List.mem_of_getElem? (i := 106) rfl) rfl, x_r1 (List.mem_of_getElem? (i := 30) rfl) rfl, x_r1 (List.mem_of_getElem? (i := 31) rfl) rfl⟩
theorem x_obi4 : x_obiP (7, 3) := ⟨x_r1 (List.mem_of_getElem? (i := 180) rfl) rfl, x_r1 (List.mem_of_getElem? (i := 30) rfl) rfl, x_r1 (List.mem_of_getElem? (i := 31) rfl) rfl⟩
theorem x_obi5 : x_obiP (8, 3) := ⟨x_r1 (List.mem_of_getElem? (i := 200) rfl) rfl, x_r1 (List.mem_of_getElem? (i := 30) rfl) rfl, x_r1 (List.mem_of_getElem? (i := 31) rfl) rfl⟩
theorem x_obi6 : x_obiP (9, 3) := ⟨x_r1 (List.mem_of_getElem? (i := 208) rfl) rfl, x_r1 (List.mem_of_getElem? (i := 30) rfl) rfl, x_r1 (List.mem_of_getElem? (i := 31) rfl) rfl⟩
theorem x_obi7 : x_obiP (10, 3) := ⟨x_r2 (List.mem_of_getElem? (i := 40) rfl) rfl, x_r1 (List.mem_of_getElem? (i := 30) rfl) rfl, x_r1 (List.mem_of_getElem? (i := 31) rfl) rfl⟩
theorem x_obi8 : x_obiP (11, 1) := ⟨x_r4 (List.mem_of_getElem? (i := 197) rfl) rfl, x_r1 (List.mem_of_getElem? (i := 30) rfl) rfl, x_r1 (List.mem_of_getElem? (i := 31) rfl) rfl⟩
theorem x_obi_ok : ∀ q ∈ x_obi, x_obiP q := by
  unfold x_obi
  refine List.forall_mem_cons.mpr ⟨x_obi0, ?_⟩
  refine List.forall_mem_cons.mpr ⟨x_obi1, ?_⟩
  refine List.forall_mem_cons.mpr ⟨x_obi2, ?_⟩
  refine List.forall_mem_cons.mpr ⟨x_obi3, ?_⟩
  refine List.forall_mem_cons.mpr ⟨x_obi4, ?_⟩
  refine List.forall_mem_cons.mpr ⟨x_obi5, ?_⟩
  refine List.forall_mem_cons.mpr ⟨x_obi6, ?_⟩
  refine List.forall_mem_cons.mpr ⟨x_obi7, ?_⟩
  refine List.forall_mem_cons.mpr ⟨x_obi8, ?_⟩
  exact fun _ h => absurd h List.not_mem_nil
theorem x_ac_int : Cond.arrayClass (newarray.typeOf .int) ∈ x_Ts := x_r1 (List.mem_of_getElem? (i := 45) rfl) rfl
theorem x_ac_boolean : Cond.arrayClass (newarray.typeOf .boolean) ∈ x_Ts := x_r2 (List.mem_of_getElem? (i := 78) rfl) rfl
theorem x_ac_long : Cond.arrayClass (newarray.typeOf .long) ∈ x_Ts := x_r1 (List.mem_of_getElem? (i := 174) rfl) rfl
