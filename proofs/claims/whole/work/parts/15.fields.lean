/-! What the words say of classes and links: printed by gen/gen_tables.py. -/
theorem x_w0 : ∀ k, k < 10 → u_lay x_R0 x_T0 k ∈ x_Ts := fun k hk => match k, hk with
  | 0, _ => x_tm 329 (by decide +kernel) rfl
  | 1, _ => x_tm 331 (by decide +kernel) rfl
  | 2, _ => x_tm 333 (by decide +kernel) rfl
  | 3, _ => x_tm 335 (by decide +kernel) rfl
  | 4, _ => x_tm 337 (by decide +kernel) rfl
  | 5, _ => x_tm 339 (by decide +kernel) rfl
  | 6, _ => x_tm 341 (by decide +kernel) rfl
  | 7, _ => x_tm 343 (by decide +kernel) rfl
  | 8, _ => x_tm 345 (by decide +kernel) rfl
  | 9, _ => x_tm 347 (by decide +kernel) rfl
  | n + 10, hk => absurd hk (by omega)
set_option maxRecDepth 20000 in
theorem x_c0 : x_cf x_cts x_ct x_fk x_ty x_Ts 0 := by
  refine ⟨rfl, by decide, fun w hw => ?_, (by decide +kernel : ∀ k, k < 10 → parseFieldDescriptor (x_T0 k).2.2.1 = some (x_ty 0 k)), (by decide +kernel : ∀ i, i < 10 → ∀ j, j < 10 → i ≠ j → (x_T0 i).2.1 ≠ (x_T0 j).2.1), fun k hk => ?_⟩
  · obtain ⟨k, hk, rfl⟩ := List.mem_map.mp hw
    exact x_w0 k (List.mem_range.mp hk)
  · have hk : k < 10 := hk
    match k, hk with
    | 0, _ => exact Or.inr (Or.inr ⟨rfl, Or.inl ⟨_, rfl⟩⟩)
    | 1, _ => exact Or.inr (Or.inr ⟨rfl, Or.inl ⟨_, rfl⟩⟩)
    | 2, _ => exact Or.inr (Or.inr ⟨rfl, Or.inl ⟨_, rfl⟩⟩)
    | 3, _ => exact Or.inr (Or.inr ⟨rfl, Or.inl ⟨_, rfl⟩⟩)
    | 4, _ => exact Or.inr (Or.inr ⟨rfl, Or.inl ⟨_, rfl⟩⟩)
    | 5, _ => exact Or.inr (Or.inr ⟨rfl, Or.inl ⟨_, rfl⟩⟩)
    | 6, _ => exact Or.inr (Or.inr ⟨rfl, Or.inl ⟨_, rfl⟩⟩)
    | 7, _ => exact Or.inr (Or.inr ⟨rfl, Or.inl ⟨_, rfl⟩⟩)
    | 8, _ => exact Or.inr (Or.inr ⟨rfl, Or.inl ⟨_, rfl⟩⟩)
    | 9, _ => exact Or.inl ⟨rfl, Or.inl rfl⟩
    | n + 10, hk => exact absurd hk (by omega)
theorem x_w1 : ∀ k, k < 2 → u_lay x_R1 x_T1 k ∈ x_Ts := fun k hk => match k, hk with
  | 0, _ => x_tm 40 (by decide +kernel) rfl
  | 1, _ => x_tm 42 (by decide +kernel) rfl
  | n + 2, hk => absurd hk (by omega)
set_option maxRecDepth 20000 in
theorem x_c1 : x_cf x_cts x_ct x_fk x_ty x_Ts 1 := by
  refine ⟨rfl, by decide, fun w hw => ?_, (by decide +kernel : ∀ k, k < 2 → parseFieldDescriptor (x_T1 k).2.2.1 = some (x_ty 1 k)), (by decide +kernel : ∀ i, i < 2 → ∀ j, j < 2 → i ≠ j → (x_T1 i).2.1 ≠ (x_T1 j).2.1), fun k hk => ?_⟩
  · obtain ⟨k, hk, rfl⟩ := List.mem_map.mp hw
    exact x_w1 k (List.mem_range.mp hk)
  · have hk : k < 2 := hk
    match k, hk with
    | 0, _ => exact Or.inr (Or.inr ⟨rfl, Or.inr ⟨_, rfl⟩⟩)
    | 1, _ => exact Or.inl ⟨rfl, Or.inl rfl⟩
    | n + 2, hk => exact absurd hk (by omega)
theorem x_w2 : ∀ k, k < 4 → u_lay x_R2 x_T2 k ∈ x_Ts := fun k hk => match k, hk with
  | 0, _ => x_tm 81 (by decide +kernel) rfl
  | 1, _ => x_tm 83 (by decide +kernel) rfl
  | 2, _ => x_tm 85 (by decide +kernel) rfl
  | 3, _ => x_tm 87 (by decide +kernel) rfl
  | n + 4, hk => absurd hk (by omega)
set_option maxRecDepth 20000 in
theorem x_c2 : x_cf x_cts x_ct x_fk x_ty x_Ts 2 := by
  refine ⟨rfl, by decide, fun w hw => ?_, (by decide +kernel : ∀ k, k < 4 → parseFieldDescriptor (x_T2 k).2.2.1 = some (x_ty 2 k)), (by decide +kernel : ∀ i, i < 4 → ∀ j, j < 4 → i ≠ j → (x_T2 i).2.1 ≠ (x_T2 j).2.1), fun k hk => ?_⟩
  · obtain ⟨k, hk, rfl⟩ := List.mem_map.mp hw
    exact x_w2 k (List.mem_range.mp hk)
  · have hk : k < 4 := hk
    match k, hk with
    | 0, _ => exact Or.inr (Or.inr ⟨rfl, Or.inl ⟨_, rfl⟩⟩)
    | 1, _ => exact Or.inl ⟨rfl, Or.inl rfl⟩
    | 2, _ => exact Or.inl ⟨rfl, Or.inl rfl⟩
    | 3, _ => exact Or.inl ⟨rfl, Or.inl rfl⟩
    | n + 4, hk => exact absurd hk (by omega)
theorem x_w3 : ∀ k, k < 4 → u_lay x_R3 x_T3 k ∈ x_Ts := fun k hk => match k, hk with
  | 0, _ => x_tm 96 (by decide +kernel) rfl
  | 1, _ => x_tm 97 (by decide +kernel) rfl
  | 2, _ => x_tm 98 (by decide +kernel) rfl
  | 3, _ => x_tm 99 (by decide +kernel) rfl
  | n + 4, hk => absurd hk (by omega)
set_option maxRecDepth 20000 in
theorem x_c3 : x_cf x_cts x_ct x_fk x_ty x_Ts 3 := by
  refine ⟨rfl, by decide, fun w hw => ?_, (by decide +kernel : ∀ k, k < 4 → parseFieldDescriptor (x_T3 k).2.2.1 = some (x_ty 3 k)), (by decide +kernel : ∀ i, i < 4 → ∀ j, j < 4 → i ≠ j → (x_T3 i).2.1 ≠ (x_T3 j).2.1), fun k hk => ?_⟩
  · obtain ⟨k, hk, rfl⟩ := List.mem_map.mp hw
    exact x_w3 k (List.mem_range.mp hk)
  · have hk : k < 4 := hk
    match k, hk with
    | 0, _ => exact Or.inr (Or.inr ⟨rfl, Or.inl ⟨_, rfl⟩⟩)
    | 1, _ => exact Or.inl ⟨rfl, Or.inl rfl⟩
    | 2, _ => exact Or.inl ⟨rfl, Or.inl rfl⟩
    | 3, _ => exact Or.inl ⟨rfl, Or.inl rfl⟩
    | n + 4, hk => exact absurd hk (by omega)
theorem x_w4 : ∀ k, k < 13 → u_lay x_R4 x_T4 k ∈ x_Ts := fun k hk => match k, hk with
  | 0, _ => x_tm 147 (by decide +kernel) rfl
  | 1, _ => x_tm 149 (by decide +kernel) rfl
  | 2, _ => x_tm 151 (by decide +kernel) rfl
  | 3, _ => x_tm 153 (by decide +kernel) rfl
  | 4, _ => x_tm 155 (by decide +kernel) rfl
  | 5, _ => x_tm 157 (by decide +kernel) rfl
  | 6, _ => x_tm 159 (by decide +kernel) rfl
  | 7, _ => x_tm 161 (by decide +kernel) rfl
  | 8, _ => x_tm 163 (by decide +kernel) rfl
  | 9, _ => x_tm 165 (by decide +kernel) rfl
  | 10, _ => x_tm 167 (by decide +kernel) rfl
  | 11, _ => x_tm 169 (by decide +kernel) rfl
  | 12, _ => x_tm 171 (by decide +kernel) rfl
  | n + 13, hk => absurd hk (by omega)
set_option maxRecDepth 20000 in
theorem x_c4 : x_cf x_cts x_ct x_fk x_ty x_Ts 4 := by
  refine ⟨rfl, by decide, fun w hw => ?_, (by decide +kernel : ∀ k, k < 13 → parseFieldDescriptor (x_T4 k).2.2.1 = some (x_ty 4 k)), (by decide +kernel : ∀ i, i < 13 → ∀ j, j < 13 → i ≠ j → (x_T4 i).2.1 ≠ (x_T4 j).2.1), fun k hk => ?_⟩
  · obtain ⟨k, hk, rfl⟩ := List.mem_map.mp hw
    exact x_w4 k (List.mem_range.mp hk)
  · have hk : k < 13 := hk
    match k, hk with
    | 0, _ => exact Or.inl ⟨rfl, Or.inr rfl⟩
    | 1, _ => exact Or.inl ⟨rfl, Or.inr rfl⟩
    | 2, _ => exact Or.inl ⟨rfl, Or.inl rfl⟩
    | 3, _ => exact Or.inl ⟨rfl, Or.inl rfl⟩
    | 4, _ => exact Or.inl ⟨rfl, Or.inl rfl⟩
    | 5, _ => exact Or.inl ⟨rfl, Or.inl rfl⟩
    | 6, _ => exact Or.inr (Or.inr ⟨rfl, Or.inr ⟨_, rfl⟩⟩)
    | 7, _ => exact Or.inr (Or.inr ⟨rfl, Or.inr ⟨_, rfl⟩⟩)
    | 8, _ => exact Or.inr (Or.inr ⟨rfl, Or.inr ⟨_, rfl⟩⟩)
    | 9, _ => exact Or.inr (Or.inr ⟨rfl, Or.inr ⟨_, rfl⟩⟩)
    | 10, _ => exact Or.inr (Or.inr ⟨rfl, Or.inr ⟨_, rfl⟩⟩)
    | 11, _ => exact Or.inr (Or.inl ⟨rfl, rfl⟩)
    | 12, _ => exact Or.inr (Or.inl ⟨rfl, rfl⟩)
    | n + 13, hk => exact absurd hk (by omega)
theorem x_w5 : ∀ k, k < 3 → u_lay x_R5 x_T5 k ∈ x_Ts := fun k hk => match k, hk with
  | 0, _ => x_tm 188 (by decide +kernel) rfl
  | 1, _ => x_tm 190 (by decide +kernel) rfl
  | 2, _ => x_tm 192 (by decide +kernel) rfl
  | n + 3, hk => absurd hk (by omega)
set_option maxRecDepth 20000 in
theorem x_c5 : x_cf x_cts x_ct x_fk x_ty x_Ts 5 := by
  refine ⟨rfl, by decide, fun w hw => ?_, (by decide +kernel : ∀ k, k < 3 → parseFieldDescriptor (x_T5 k).2.2.1 = some (x_ty 5 k)), (by decide +kernel : ∀ i, i < 3 → ∀ j, j < 3 → i ≠ j → (x_T5 i).2.1 ≠ (x_T5 j).2.1), fun k hk => ?_⟩
  · obtain ⟨k, hk, rfl⟩ := List.mem_map.mp hw
    exact x_w5 k (List.mem_range.mp hk)
  · have hk : k < 3 := hk
    match k, hk with
    | 0, _ => exact Or.inr (Or.inr ⟨rfl, Or.inr ⟨_, rfl⟩⟩)
    | 1, _ => exact Or.inl ⟨rfl, Or.inl rfl⟩
    | 2, _ => exact Or.inl ⟨rfl, Or.inl rfl⟩
    | n + 3, hk => exact absurd hk (by omega)
theorem x_w6 : ∀ k, k < 10 → u_lay x_R6 x_T6 k ∈ x_Ts := fun k hk => match k, hk with
  | 0, _ => x_tm 223 (by decide +kernel) rfl
  | 1, _ => x_tm 225 (by decide +kernel) rfl
  | 2, _ => x_tm 227 (by decide +kernel) rfl
  | 3, _ => x_tm 229 (by decide +kernel) rfl
  | 4, _ => x_tm 231 (by decide +kernel) rfl
  | 5, _ => x_tm 233 (by decide +kernel) rfl
  | 6, _ => x_tm 235 (by decide +kernel) rfl
  | 7, _ => x_tm 237 (by decide +kernel) rfl
  | 8, _ => x_tm 239 (by decide +kernel) rfl
  | 9, _ => x_tm 241 (by decide +kernel) rfl
  | n + 10, hk => absurd hk (by omega)
set_option maxRecDepth 20000 in
theorem x_c6 : x_cf x_cts x_ct x_fk x_ty x_Ts 6 := by
  refine ⟨rfl, by decide, fun w hw => ?_, (by decide +kernel : ∀ k, k < 10 → parseFieldDescriptor (x_T6 k).2.2.1 = some (x_ty 6 k)), (by decide +kernel : ∀ i, i < 10 → ∀ j, j < 10 → i ≠ j → (x_T6 i).2.1 ≠ (x_T6 j).2.1), fun k hk => ?_⟩
  · obtain ⟨k, hk, rfl⟩ := List.mem_map.mp hw
    exact x_w6 k (List.mem_range.mp hk)
  · have hk : k < 10 := hk
    match k, hk with
    | 0, _ => exact Or.inr (Or.inr ⟨rfl, Or.inl ⟨_, rfl⟩⟩)
    | 1, _ => exact Or.inr (Or.inl ⟨rfl, rfl⟩)
    | 2, _ => exact Or.inl ⟨rfl, Or.inl rfl⟩
    | 3, _ => exact Or.inl ⟨rfl, Or.inl rfl⟩
    | 4, _ => exact Or.inr (Or.inr ⟨rfl, Or.inr ⟨_, rfl⟩⟩)
    | 5, _ => exact Or.inr (Or.inr ⟨rfl, Or.inr ⟨_, rfl⟩⟩)
    | 6, _ => exact Or.inl ⟨rfl, Or.inl rfl⟩
    | 7, _ => exact Or.inl ⟨rfl, Or.inl rfl⟩
    | 8, _ => exact Or.inl ⟨rfl, Or.inl rfl⟩
    | 9, _ => exact Or.inl ⟨rfl, Or.inl rfl⟩
    | n + 10, hk => exact absurd hk (by omega)
theorem x_w7 : ∀ k, k < 10 → u_lay x_R7 x_T7 k ∈ x_Ts := fun k hk => match k, hk with
  | 0, _ => x_tm 254 (by decide +kernel) rfl
  | 1, _ => x_tm 256 (by decide +kernel) rfl
  | 2, _ => x_tm 258 (by decide +kernel) rfl
  | 3, _ => x_tm 260 (by decide +kernel) rfl
  | 4, _ => x_tm 262 (by decide +kernel) rfl
  | 5, _ => x_tm 264 (by decide +kernel) rfl
  | 6, _ => x_tm 266 (by decide +kernel) rfl
  | 7, _ => x_tm 268 (by decide +kernel) rfl
  | 8, _ => x_tm 270 (by decide +kernel) rfl
  | 9, _ => x_tm 272 (by decide +kernel) rfl
  | n + 10, hk => absurd hk (by omega)
set_option maxRecDepth 20000 in
theorem x_c7 : x_cf x_cts x_ct x_fk x_ty x_Ts 7 := by
  refine ⟨rfl, by decide, fun w hw => ?_, (by decide +kernel : ∀ k, k < 10 → parseFieldDescriptor (x_T7 k).2.2.1 = some (x_ty 7 k)), (by decide +kernel : ∀ i, i < 10 → ∀ j, j < 10 → i ≠ j → (x_T7 i).2.1 ≠ (x_T7 j).2.1), fun k hk => ?_⟩
  · obtain ⟨k, hk, rfl⟩ := List.mem_map.mp hw
    exact x_w7 k (List.mem_range.mp hk)
  · have hk : k < 10 := hk
    match k, hk with
    | 0, _ => exact Or.inr (Or.inr ⟨rfl, Or.inl ⟨_, rfl⟩⟩)
    | 1, _ => exact Or.inr (Or.inr ⟨rfl, Or.inl ⟨_, rfl⟩⟩)
    | 2, _ => exact Or.inr (Or.inl ⟨rfl, rfl⟩)
    | 3, _ => exact Or.inr (Or.inl ⟨rfl, rfl⟩)
    | 4, _ => exact Or.inl ⟨rfl, Or.inl rfl⟩
    | 5, _ => exact Or.inr (Or.inr ⟨rfl, Or.inl ⟨_, rfl⟩⟩)
    | 6, _ => exact Or.inr (Or.inr ⟨rfl, Or.inr ⟨_, rfl⟩⟩)
    | 7, _ => exact Or.inr (Or.inr ⟨rfl, Or.inr ⟨_, rfl⟩⟩)
    | 8, _ => exact Or.inr (Or.inr ⟨rfl, Or.inr ⟨_, rfl⟩⟩)
    | 9, _ => exact Or.inr (Or.inr ⟨rfl, Or.inr ⟨_, rfl⟩⟩)
    | n + 10, hk => exact absurd hk (by omega)
theorem x_w8 : ∀ k, k < 12 → u_lay x_R8 x_T8 k ∈ x_Ts := fun k hk => match k, hk with
  | 0, _ => x_tm 293 (by decide +kernel) rfl
  | 1, _ => x_tm 295 (by decide +kernel) rfl
  | 2, _ => x_tm 297 (by decide +kernel) rfl
  | 3, _ => x_tm 299 (by decide +kernel) rfl
  | 4, _ => x_tm 301 (by decide +kernel) rfl
  | 5, _ => x_tm 303 (by decide +kernel) rfl
  | 6, _ => x_tm 305 (by decide +kernel) rfl
  | 7, _ => x_tm 307 (by decide +kernel) rfl
  | 8, _ => x_tm 309 (by decide +kernel) rfl
  | 9, _ => x_tm 311 (by decide +kernel) rfl
  | 10, _ => x_tm 313 (by decide +kernel) rfl
  | 11, _ => x_tm 315 (by decide +kernel) rfl
  | n + 12, hk => absurd hk (by omega)
set_option maxRecDepth 20000 in
theorem x_c8 : x_cf x_cts x_ct x_fk x_ty x_Ts 8 := by
  refine ⟨rfl, by decide, fun w hw => ?_, (by decide +kernel : ∀ k, k < 12 → parseFieldDescriptor (x_T8 k).2.2.1 = some (x_ty 8 k)), (by decide +kernel : ∀ i, i < 12 → ∀ j, j < 12 → i ≠ j → (x_T8 i).2.1 ≠ (x_T8 j).2.1), fun k hk => ?_⟩
  · obtain ⟨k, hk, rfl⟩ := List.mem_map.mp hw
    exact x_w8 k (List.mem_range.mp hk)
  · have hk : k < 12 := hk
    match k, hk with
    | 0, _ => exact Or.inr (Or.inr ⟨rfl, Or.inr ⟨_, rfl⟩⟩)
    | 1, _ => exact Or.inr (Or.inr ⟨rfl, Or.inr ⟨_, rfl⟩⟩)
    | 2, _ => exact Or.inr (Or.inr ⟨rfl, Or.inr ⟨_, rfl⟩⟩)
    | 3, _ => exact Or.inr (Or.inr ⟨rfl, Or.inr ⟨_, rfl⟩⟩)
    | 4, _ => exact Or.inl ⟨rfl, Or.inl rfl⟩
    | 5, _ => exact Or.inl ⟨rfl, Or.inl rfl⟩
    | 6, _ => exact Or.inl ⟨rfl, Or.inl rfl⟩
    | 7, _ => exact Or.inr (Or.inr ⟨rfl, Or.inl ⟨_, rfl⟩⟩)
    | 8, _ => exact Or.inl ⟨rfl, Or.inl rfl⟩
    | 9, _ => exact Or.inl ⟨rfl, Or.inl rfl⟩
    | 10, _ => exact Or.inl ⟨rfl, Or.inl rfl⟩
    | 11, _ => exact Or.inl ⟨rfl, Or.inr rfl⟩
    | n + 12, hk => exact absurd hk (by omega)
theorem x_w9 : ∀ k, k < 56 → u_lay x_R9 x_T9 k ∈ x_Ts := fun k hk => match k, hk with
  | 0, _ => x_tm 974 (by decide +kernel) rfl
  | 1, _ => x_tm 976 (by decide +kernel) rfl
  | 2, _ => x_tm 978 (by decide +kernel) rfl
  | 3, _ => x_tm 980 (by decide +kernel) rfl
  | 4, _ => x_tm 982 (by decide +kernel) rfl
  | 5, _ => x_tm 984 (by decide +kernel) rfl
  | 6, _ => x_tm 986 (by decide +kernel) rfl
  | 7, _ => x_tm 988 (by decide +kernel) rfl
  | 8, _ => x_tm 990 (by decide +kernel) rfl
  | 9, _ => x_tm 992 (by decide +kernel) rfl
  | 10, _ => x_tm 994 (by decide +kernel) rfl
  | 11, _ => x_tm 996 (by decide +kernel) rfl
  | 12, _ => x_tm 998 (by decide +kernel) rfl
  | 13, _ => x_tm 1000 (by decide +kernel) rfl
  | 14, _ => x_tm 1002 (by decide +kernel) rfl
  | 15, _ => x_tm 1004 (by decide +kernel) rfl
  | 16, _ => x_tm 1006 (by decide +kernel) rfl
  | 17, _ => x_tm 1008 (by decide +kernel) rfl
  | 18, _ => x_tm 1010 (by decide +kernel) rfl
  | 19, _ => x_tm 1012 (by decide +kernel) rfl
  | 20, _ => x_tm 1014 (by decide +kernel) rfl
  | 21, _ => x_tm 1016 (by decide +kernel) rfl
  | 22, _ => x_tm 1018 (by decide +kernel) rfl
  | 23, _ => x_tm 1020 (by decide +kernel) rfl
  | 24, _ => x_tm 1022 (by decide +kernel) rfl
  | 25, _ => x_tm 1024 (by decide +kernel) rfl
  | 26, _ => x_tm 1026 (by decide +kernel) rfl
  | 27, _ => x_tm 1028 (by decide +kernel) rfl
  | 28, _ => x_tm 1030 (by decide +kernel) rfl
  | 29, _ => x_tm 1032 (by decide +kernel) rfl
  | 30, _ => x_tm 1034 (by decide +kernel) rfl
  | 31, _ => x_tm 1036 (by decide +kernel) rfl
  | 32, _ => x_tm 1038 (by decide +kernel) rfl
  | 33, _ => x_tm 1040 (by decide +kernel) rfl
  | 34, _ => x_tm 1042 (by decide +kernel) rfl
  | 35, _ => x_tm 1044 (by decide +kernel) rfl
  | 36, _ => x_tm 1046 (by decide +kernel) rfl
  | 37, _ => x_tm 1048 (by decide +kernel) rfl
  | 38, _ => x_tm 1050 (by decide +kernel) rfl
  | 39, _ => x_tm 1052 (by decide +kernel) rfl
  | 40, _ => x_tm 1054 (by decide +kernel) rfl
  | 41, _ => x_tm 1056 (by decide +kernel) rfl
  | 42, _ => x_tm 1058 (by decide +kernel) rfl
  | 43, _ => x_tm 1060 (by decide +kernel) rfl
  | 44, _ => x_tm 1062 (by decide +kernel) rfl
  | 45, _ => x_tm 1064 (by decide +kernel) rfl
  | 46, _ => x_tm 1066 (by decide +kernel) rfl
  | 47, _ => x_tm 1068 (by decide +kernel) rfl
  | 48, _ => x_tm 1070 (by decide +kernel) rfl
  | 49, _ => x_tm 1072 (by decide +kernel) rfl
  | 50, _ => x_tm 1074 (by decide +kernel) rfl
  | 51, _ => x_tm 1076 (by decide +kernel) rfl
  | 52, _ => x_tm 1078 (by decide +kernel) rfl
  | 53, _ => x_tm 1080 (by decide +kernel) rfl
  | 54, _ => x_tm 1082 (by decide +kernel) rfl
  | 55, _ => x_tm 1084 (by decide +kernel) rfl
  | n + 56, hk => absurd hk (by omega)
set_option maxRecDepth 20000 in
theorem x_c9 : x_cf x_cts x_ct x_fk x_ty x_Ts 9 := by
  refine ⟨rfl, by decide, fun w hw => ?_, (by decide +kernel : ∀ k, k < 56 → parseFieldDescriptor (x_T9 k).2.2.1 = some (x_ty 9 k)), (by decide +kernel : ∀ i, i < 56 → ∀ j, j < 56 → i ≠ j → (x_T9 i).2.1 ≠ (x_T9 j).2.1), fun k hk => ?_⟩
  · obtain ⟨k, hk, rfl⟩ := List.mem_map.mp hw
    exact x_w9 k (List.mem_range.mp hk)
  · have hk : k < 56 := hk
    match k, hk with
    | 0, _ => exact Or.inl ⟨rfl, Or.inl rfl⟩
    | 1, _ => exact Or.inl ⟨rfl, Or.inl rfl⟩
    | 2, _ => exact Or.inr (Or.inr ⟨rfl, Or.inr ⟨_, rfl⟩⟩)
    | 3, _ => exact Or.inl ⟨rfl, Or.inl rfl⟩
    | 4, _ => exact Or.inl ⟨rfl, Or.inr rfl⟩
    | 5, _ => exact Or.inl ⟨rfl, Or.inl rfl⟩
    | 6, _ => exact Or.inl ⟨rfl, Or.inl rfl⟩
    | 7, _ => exact Or.inl ⟨rfl, Or.inl rfl⟩
    | 8, _ => exact Or.inr (Or.inr ⟨rfl, Or.inr ⟨_, rfl⟩⟩)
    | 9, _ => exact Or.inr (Or.inr ⟨rfl, Or.inr ⟨_, rfl⟩⟩)
    | 10, _ => exact Or.inl ⟨rfl, Or.inr rfl⟩
    | 11, _ => exact Or.inl ⟨rfl, Or.inl rfl⟩
    | 12, _ => exact Or.inr (Or.inr ⟨rfl, Or.inr ⟨_, rfl⟩⟩)
    | 13, _ => exact Or.inr (Or.inr ⟨rfl, Or.inr ⟨_, rfl⟩⟩)
    | 14, _ => exact Or.inr (Or.inr ⟨rfl, Or.inr ⟨_, rfl⟩⟩)
    | 15, _ => exact Or.inr (Or.inr ⟨rfl, Or.inr ⟨_, rfl⟩⟩)
    | 16, _ => exact Or.inl ⟨rfl, Or.inl rfl⟩
    | 17, _ => exact Or.inl ⟨rfl, Or.inl rfl⟩
    | 18, _ => exact Or.inl ⟨rfl, Or.inl rfl⟩
    | 19, _ => exact Or.inl ⟨rfl, Or.inr rfl⟩
    | 20, _ => exact Or.inl ⟨rfl, Or.inl rfl⟩
    | 21, _ => exact Or.inr (Or.inr ⟨rfl, Or.inr ⟨_, rfl⟩⟩)
    | 22, _ => exact Or.inr (Or.inr ⟨rfl, Or.inr ⟨_, rfl⟩⟩)
    | 23, _ => exact Or.inr (Or.inr ⟨rfl, Or.inr ⟨_, rfl⟩⟩)
    | 24, _ => exact Or.inl ⟨rfl, Or.inl rfl⟩
    | 25, _ => exact Or.inr (Or.inr ⟨rfl, Or.inr ⟨_, rfl⟩⟩)
    | 26, _ => exact Or.inl ⟨rfl, Or.inl rfl⟩
    | 27, _ => exact Or.inr (Or.inr ⟨rfl, Or.inr ⟨_, rfl⟩⟩)
    | 28, _ => exact Or.inr (Or.inr ⟨rfl, Or.inr ⟨_, rfl⟩⟩)
    | 29, _ => exact Or.inr (Or.inr ⟨rfl, Or.inr ⟨_, rfl⟩⟩)
    | 30, _ => exact Or.inr (Or.inr ⟨rfl, Or.inr ⟨_, rfl⟩⟩)
    | 31, _ => exact Or.inr (Or.inr ⟨rfl, Or.inr ⟨_, rfl⟩⟩)
    | 32, _ => exact Or.inl ⟨rfl, Or.inl rfl⟩
    | 33, _ => exact Or.inl ⟨rfl, Or.inl rfl⟩
    | 34, _ => exact Or.inl ⟨rfl, Or.inl rfl⟩
    | 35, _ => exact Or.inr (Or.inr ⟨rfl, Or.inr ⟨_, rfl⟩⟩)
    | 36, _ => exact Or.inr (Or.inr ⟨rfl, Or.inr ⟨_, rfl⟩⟩)
    | 37, _ => exact Or.inr (Or.inr ⟨rfl, Or.inr ⟨_, rfl⟩⟩)
    | 38, _ => exact Or.inr (Or.inr ⟨rfl, Or.inr ⟨_, rfl⟩⟩)
    | 39, _ => exact Or.inl ⟨rfl, Or.inl rfl⟩
    | 40, _ => exact Or.inr (Or.inr ⟨rfl, Or.inr ⟨_, rfl⟩⟩)
    | 41, _ => exact Or.inr (Or.inr ⟨rfl, Or.inr ⟨_, rfl⟩⟩)
    | 42, _ => exact Or.inr (Or.inr ⟨rfl, Or.inr ⟨_, rfl⟩⟩)
    | 43, _ => exact Or.inl ⟨rfl, Or.inl rfl⟩
    | 44, _ => exact Or.inr (Or.inr ⟨rfl, Or.inr ⟨_, rfl⟩⟩)
    | 45, _ => exact Or.inr (Or.inr ⟨rfl, Or.inr ⟨_, rfl⟩⟩)
    | 46, _ => exact Or.inr (Or.inr ⟨rfl, Or.inr ⟨_, rfl⟩⟩)
    | 47, _ => exact Or.inr (Or.inr ⟨rfl, Or.inr ⟨_, rfl⟩⟩)
    | 48, _ => exact Or.inr (Or.inr ⟨rfl, Or.inr ⟨_, rfl⟩⟩)
    | 49, _ => exact Or.inr (Or.inr ⟨rfl, Or.inr ⟨_, rfl⟩⟩)
    | 50, _ => exact Or.inl ⟨rfl, Or.inl rfl⟩
    | 51, _ => exact Or.inr (Or.inr ⟨rfl, Or.inr ⟨_, rfl⟩⟩)
    | 52, _ => exact Or.inr (Or.inr ⟨rfl, Or.inr ⟨_, rfl⟩⟩)
    | 53, _ => exact Or.inr (Or.inr ⟨rfl, Or.inr ⟨_, rfl⟩⟩)
    | 54, _ => exact Or.inr (Or.inr ⟨rfl, Or.inr ⟨_, rfl⟩⟩)
    | 55, _ => exact Or.inr (Or.inr ⟨rfl, Or.inr ⟨_, rfl⟩⟩)
    | n + 56, hk => exact absurd hk (by omega)
theorem x_f0_0 : x_fl x_ct x_Ts "StreamRefuter" 10 0 0 := ⟨by decide, "StreamRefuter", x_tm 319 (by decide +kernel) rfl, Or.inl rfl⟩
theorem x_f1_0 : x_fl x_ct x_Ts "StreamRefuter" 21 0 1 := ⟨by decide, "StreamRefuter", x_tm 320 (by decide +kernel) rfl, Or.inl rfl⟩
theorem x_f2_0 : x_fl x_ct x_Ts "StreamRefuter" 28 0 2 := ⟨by decide, "StreamRefuter", x_tm 321 (by decide +kernel) rfl, Or.inl rfl⟩
theorem x_f3_0 : x_fl x_ct x_Ts "StreamRefuter" 35 0 5 := ⟨by decide, "StreamRefuter", x_tm 324 (by decide +kernel) rfl, Or.inl rfl⟩
theorem x_f4_0 : x_fl x_ct x_Ts "StreamRefuter" 39 0 6 := ⟨by decide, "StreamRefuter", x_tm 325 (by decide +kernel) rfl, Or.inl rfl⟩
theorem x_f5_0 : x_fl x_ct x_Ts "StreamRefuter" 45 0 7 := ⟨by decide, "StreamRefuter", x_tm 326 (by decide +kernel) rfl, Or.inl rfl⟩
theorem x_f6_0 : x_fl x_ct x_Ts "StreamRefuter" 49 0 8 := ⟨by decide, "StreamRefuter", x_tm 327 (by decide +kernel) rfl, Or.inl rfl⟩
theorem x_f7_0 : x_fl x_ct x_Ts "StreamRefuter" 57 0 3 := ⟨by decide, "StreamRefuter", x_tm 322 (by decide +kernel) rfl, Or.inl rfl⟩
theorem x_f8_0 : x_fl x_ct x_Ts "StreamRefuter" 66 0 4 := ⟨by decide, "StreamRefuter", x_tm 323 (by decide +kernel) rfl, Or.inl rfl⟩
theorem x_f9_0 : x_fl x_ct x_Ts "StreamRefuter" 70 0 9 := ⟨by decide, "StreamRefuter", x_tm 328 (by decide +kernel) rfl, Or.inl rfl⟩
theorem x_f10_0 : x_fl x_ct x_Ts "StreamRefuter$Text" 9 1 0 := ⟨by decide, "StreamRefuter$Text", x_tm 38 (by decide +kernel) rfl, Or.inl rfl⟩
theorem x_f11_0 : x_fl x_ct x_Ts "StreamRefuter$Text" 15 1 1 := ⟨by decide, "StreamRefuter$Text", x_tm 39 (by decide +kernel) rfl, Or.inl rfl⟩
theorem x_f12_0 : x_fl x_ct x_Ts "StreamRefuter$Numbers" 9 2 1 := ⟨by decide, "StreamRefuter$Numbers", x_tm 60 (by decide +kernel) rfl, Or.inl rfl⟩
theorem x_f12_1 : x_fl x_ct x_Ts "StreamRefuter$Numbers" 9 3 1 := ⟨by decide, "StreamRefuter$Numbers", x_tm 60 (by decide +kernel) rfl, Or.inl rfl⟩
theorem x_f13_0 : x_fl x_ct x_Ts "StreamRefuter$Numbers" 15 2 2 := ⟨by decide, "StreamRefuter$Numbers", x_tm 65 (by decide +kernel) rfl, Or.inl rfl⟩
theorem x_f13_1 : x_fl x_ct x_Ts "StreamRefuter$Numbers" 15 3 2 := ⟨by decide, "StreamRefuter$Numbers", x_tm 65 (by decide +kernel) rfl, Or.inl rfl⟩
theorem x_f14_0 : x_fl x_ct x_Ts "StreamRefuter$Numbers" 18 2 3 := ⟨by decide, "StreamRefuter$Numbers", x_tm 73 (by decide +kernel) rfl, Or.inl rfl⟩
theorem x_f14_1 : x_fl x_ct x_Ts "StreamRefuter$Numbers" 18 3 3 := ⟨by decide, "StreamRefuter$Numbers", x_tm 73 (by decide +kernel) rfl, Or.inl rfl⟩
theorem x_f15_0 : x_fl x_ct x_Ts "StreamRefuter$Numbers" 21 2 0 := ⟨by decide, "StreamRefuter$Numbers", x_tm 55 (by decide +kernel) rfl, Or.inl rfl⟩
theorem x_f15_1 : x_fl x_ct x_Ts "StreamRefuter$Numbers" 21 3 0 := ⟨by decide, "StreamRefuter$Numbers", x_tm 55 (by decide +kernel) rfl, Or.inl rfl⟩
theorem x_f16_0 : x_fl x_ct x_Ts "StreamRefuter$Problem" 9 4 0 := ⟨by decide, "StreamRefuter$Problem", x_tm 107 (by decide +kernel) rfl, Or.inl rfl⟩
theorem x_f17_0 : x_fl x_ct x_Ts "StreamRefuter$Problem" 15 4 1 := ⟨by decide, "StreamRefuter$Problem", x_tm 109 (by decide +kernel) rfl, Or.inl rfl⟩
theorem x_f18_0 : x_fl x_ct x_Ts "StreamRefuter$Problem" 18 4 2 := ⟨by decide, "StreamRefuter$Problem", x_tm 111 (by decide +kernel) rfl, Or.inl rfl⟩
theorem x_f19_0 : x_fl x_ct x_Ts "StreamRefuter$Problem" 22 4 3 := ⟨by decide, "StreamRefuter$Problem", x_tm 113 (by decide +kernel) rfl, Or.inl rfl⟩
theorem x_f20_0 : x_fl x_ct x_Ts "StreamRefuter$Problem" 25 4 4 := ⟨by decide, "StreamRefuter$Problem", x_tm 117 (by decide +kernel) rfl, Or.inl rfl⟩
theorem x_f21_0 : x_fl x_ct x_Ts "StreamRefuter$Problem" 28 4 5 := ⟨by decide, "StreamRefuter$Problem", x_tm 121 (by decide +kernel) rfl, Or.inl rfl⟩
theorem x_f22_0 : x_fl x_ct x_Ts "StreamRefuter$Problem" 31 4 6 := ⟨by decide, "StreamRefuter$Problem", x_tm 124 (by decide +kernel) rfl, Or.inl rfl⟩
theorem x_f23_0 : x_fl x_ct x_Ts "StreamRefuter$Problem" 35 4 7 := ⟨by decide, "StreamRefuter$Problem", x_tm 128 (by decide +kernel) rfl, Or.inl rfl⟩
theorem x_f24_0 : x_fl x_ct x_Ts "StreamRefuter$Problem" 38 4 8 := ⟨by decide, "StreamRefuter$Problem", x_tm 132 (by decide +kernel) rfl, Or.inl rfl⟩
theorem x_f25_0 : x_fl x_ct x_Ts "StreamRefuter$Problem" 41 4 9 := ⟨by decide, "StreamRefuter$Problem", x_tm 136 (by decide +kernel) rfl, Or.inl rfl⟩
theorem x_f26_0 : x_fl x_ct x_Ts "StreamRefuter$Problem" 44 4 10 := ⟨by decide, "StreamRefuter$Problem", x_tm 139 (by decide +kernel) rfl, Or.inl rfl⟩
theorem x_f27_0 : x_fl x_ct x_Ts "StreamRefuter$Problem" 48 4 11 := ⟨by decide, "StreamRefuter$Problem", x_tm 141 (by decide +kernel) rfl, Or.inl rfl⟩
theorem x_f28_0 : x_fl x_ct x_Ts "StreamRefuter$Problem" 52 4 12 := ⟨by decide, "StreamRefuter$Problem", x_tm 144 (by decide +kernel) rfl, Or.inl rfl⟩
theorem x_f29_0 : x_fl x_ct x_Ts "StreamRefuter$Tokens" 9 5 0 := ⟨by decide, "StreamRefuter$Tokens", x_tm 181 (by decide +kernel) rfl, Or.inl rfl⟩
theorem x_f30_0 : x_fl x_ct x_Ts "StreamRefuter$Tokens" 15 5 1 := ⟨by decide, "StreamRefuter$Tokens", x_tm 182 (by decide +kernel) rfl, Or.inl rfl⟩
theorem x_f31_0 : x_fl x_ct x_Ts "StreamRefuter$Tokens" 19 5 2 := ⟨by decide, "StreamRefuter$Tokens", x_tm 186 (by decide +kernel) rfl, Or.inl rfl⟩
theorem x_f32_0 : x_fl x_ct x_Ts "StreamRefuter$Refuter" 9 7 2 := ⟨by decide, "StreamRefuter$Refuter", x_tm 246 (by decide +kernel) rfl, Or.inl rfl⟩
theorem x_f33_0 : x_fl x_ct x_Ts "StreamRefuter$Refuter" 15 7 3 := ⟨by decide, "StreamRefuter$Refuter", x_tm 247 (by decide +kernel) rfl, Or.inl rfl⟩
theorem x_f34_0 : x_fl x_ct x_Ts "StreamRefuter$Refuter" 18 7 4 := ⟨by decide, "StreamRefuter$Refuter", x_tm 248 (by decide +kernel) rfl, Or.inl rfl⟩
theorem x_f35_0 : x_fl x_ct x_Ts "StreamRefuter$Refuter" 25 7 5 := ⟨by decide, "StreamRefuter$Refuter", x_tm 249 (by decide +kernel) rfl, Or.inl rfl⟩
theorem x_f36_0 : x_fl x_ct x_Ts "StreamRefuter$Refuter" 29 7 6 := ⟨by decide, "StreamRefuter$Refuter", x_tm 250 (by decide +kernel) rfl, Or.inl rfl⟩
theorem x_f37_0 : x_fl x_ct x_Ts "StreamRefuter$Refuter" 33 7 7 := ⟨by decide, "StreamRefuter$Refuter", x_tm 251 (by decide +kernel) rfl, Or.inl rfl⟩
theorem x_f38_0 : x_fl x_ct x_Ts "StreamRefuter$Refuter" 36 7 8 := ⟨by decide, "StreamRefuter$Refuter", x_tm 252 (by decide +kernel) rfl, Or.inl rfl⟩
theorem x_f39_0 : x_fl x_ct x_Ts "StreamRefuter$Refuter" 39 7 9 := ⟨by decide, "StreamRefuter$Refuter", x_tm 253 (by decide +kernel) rfl, Or.inl rfl⟩
theorem x_f40_0 : x_fl x_ct x_Ts "StreamRefuter$Refuter" 43 7 1 := ⟨by decide, "StreamRefuter$Refuter", x_tm 245 (by decide +kernel) rfl, Or.inl rfl⟩
theorem x_f41_0 : x_fl x_ct x_Ts "StreamRefuter$Refuter" 52 7 0 := ⟨by decide, "StreamRefuter$Refuter", x_tm 244 (by decide +kernel) rfl, Or.inl rfl⟩
theorem x_f42_0 : x_fl x_ct x_Ts "StreamRefuter$Propagation" 9 6 1 := ⟨by decide, "StreamRefuter$Propagation", x_tm 210 (by decide +kernel) rfl, Or.inl rfl⟩
theorem x_f43_0 : x_fl x_ct x_Ts "StreamRefuter$Propagation" 15 6 2 := ⟨by decide, "StreamRefuter$Propagation", x_tm 211 (by decide +kernel) rfl, Or.inl rfl⟩
theorem x_f44_0 : x_fl x_ct x_Ts "StreamRefuter$Propagation" 19 6 3 := ⟨by decide, "StreamRefuter$Propagation", x_tm 212 (by decide +kernel) rfl, Or.inl rfl⟩
theorem x_f45_0 : x_fl x_ct x_Ts "StreamRefuter$Propagation" 22 6 4 := ⟨by decide, "StreamRefuter$Propagation", x_tm 213 (by decide +kernel) rfl, Or.inl rfl⟩
theorem x_f46_0 : x_fl x_ct x_Ts "StreamRefuter$Propagation" 26 6 5 := ⟨by decide, "StreamRefuter$Propagation", x_tm 215 (by decide +kernel) rfl, Or.inl rfl⟩
theorem x_f47_0 : x_fl x_ct x_Ts "StreamRefuter$Propagation" 29 6 6 := ⟨by decide, "StreamRefuter$Propagation", x_tm 216 (by decide +kernel) rfl, Or.inl rfl⟩
theorem x_f48_0 : x_fl x_ct x_Ts "StreamRefuter$Propagation" 32 6 7 := ⟨by decide, "StreamRefuter$Propagation", x_tm 217 (by decide +kernel) rfl, Or.inl rfl⟩
theorem x_f49_0 : x_fl x_ct x_Ts "StreamRefuter$Propagation" 35 6 8 := ⟨by decide, "StreamRefuter$Propagation", x_tm 219 (by decide +kernel) rfl, Or.inl rfl⟩
theorem x_f50_0 : x_fl x_ct x_Ts "StreamRefuter$Propagation" 38 6 9 := ⟨by decide, "StreamRefuter$Propagation", x_tm 221 (by decide +kernel) rfl, Or.inl rfl⟩
theorem x_f51_0 : x_fl x_ct x_Ts "StreamRefuter$Propagation" 41 6 0 := ⟨by decide, "StreamRefuter$Propagation", x_tm 209 (by decide +kernel) rfl, Or.inl rfl⟩
theorem x_f52_0 : x_fl x_ct x_Ts "StreamRefuter$Judge" 11 8 0 := ⟨by decide, "StreamRefuter$Judge", x_tm 281 (by decide +kernel) rfl, Or.inl rfl⟩
theorem x_f53_0 : x_fl x_ct x_Ts "StreamRefuter$Judge" 15 8 1 := ⟨by decide, "StreamRefuter$Judge", x_tm 282 (by decide +kernel) rfl, Or.inl rfl⟩
theorem x_f54_0 : x_fl x_ct x_Ts "StreamRefuter$Judge" 18 8 2 := ⟨by decide, "StreamRefuter$Judge", x_tm 283 (by decide +kernel) rfl, Or.inl rfl⟩
theorem x_f55_0 : x_fl x_ct x_Ts "StreamRefuter$Judge" 22 8 3 := ⟨by decide, "StreamRefuter$Judge", x_tm 284 (by decide +kernel) rfl, Or.inl rfl⟩
theorem x_f56_0 : x_fl x_ct x_Ts "StreamRefuter$Judge" 25 8 4 := ⟨by decide, "StreamRefuter$Judge", x_tm 285 (by decide +kernel) rfl, Or.inl rfl⟩
theorem x_f57_0 : x_fl x_ct x_Ts "StreamRefuter$Judge" 29 8 5 := ⟨by decide, "StreamRefuter$Judge", x_tm 286 (by decide +kernel) rfl, Or.inl rfl⟩
theorem x_f58_0 : x_fl x_ct x_Ts "StreamRefuter$Judge" 32 8 6 := ⟨by decide, "StreamRefuter$Judge", x_tm 287 (by decide +kernel) rfl, Or.inl rfl⟩
theorem x_f59_0 : x_fl x_ct x_Ts "StreamRefuter$Judge" 35 8 8 := ⟨by decide, "StreamRefuter$Judge", x_tm 289 (by decide +kernel) rfl, Or.inl rfl⟩
theorem x_f60_0 : x_fl x_ct x_Ts "StreamRefuter$Judge" 38 8 9 := ⟨by decide, "StreamRefuter$Judge", x_tm 290 (by decide +kernel) rfl, Or.inl rfl⟩
theorem x_f61_0 : x_fl x_ct x_Ts "StreamRefuter$Judge" 41 8 10 := ⟨by decide, "StreamRefuter$Judge", x_tm 291 (by decide +kernel) rfl, Or.inl rfl⟩
theorem x_f62_0 : x_fl x_ct x_Ts "StreamRefuter$Judge" 44 8 11 := ⟨by decide, "StreamRefuter$Judge", x_tm 292 (by decide +kernel) rfl, Or.inl rfl⟩
theorem x_f63_0 : x_fl x_ct x_Ts "StreamRefuter$Judge" 48 8 7 := ⟨by decide, "StreamRefuter$Judge", x_tm 288 (by decide +kernel) rfl, Or.inl rfl⟩
theorem x_f64_0 : x_fl x_ct x_Ts "StreamRefuterModel" 7 9 2 := ⟨by decide, "StreamRefuterModel", x_tm 920 (by decide +kernel) rfl, Or.inl rfl⟩
theorem x_f65_0 : x_fl x_ct x_Ts "StreamRefuterModel" 13 9 8 := ⟨by decide, "StreamRefuterModel", x_tm 926 (by decide +kernel) rfl, Or.inl rfl⟩
theorem x_f66_0 : x_fl x_ct x_Ts "StreamRefuterModel" 16 9 9 := ⟨by decide, "StreamRefuterModel", x_tm 927 (by decide +kernel) rfl, Or.inl rfl⟩
theorem x_f67_0 : x_fl x_ct x_Ts "StreamRefuterModel" 19 9 12 := ⟨by decide, "StreamRefuterModel", x_tm 930 (by decide +kernel) rfl, Or.inl rfl⟩
theorem x_f68_0 : x_fl x_ct x_Ts "StreamRefuterModel" 23 9 13 := ⟨by decide, "StreamRefuterModel", x_tm 931 (by decide +kernel) rfl, Or.inl rfl⟩
theorem x_f69_0 : x_fl x_ct x_Ts "StreamRefuterModel" 26 9 14 := ⟨by decide, "StreamRefuterModel", x_tm 932 (by decide +kernel) rfl, Or.inl rfl⟩
theorem x_f70_0 : x_fl x_ct x_Ts "StreamRefuterModel" 29 9 15 := ⟨by decide, "StreamRefuterModel", x_tm 933 (by decide +kernel) rfl, Or.inl rfl⟩
theorem x_f71_0 : x_fl x_ct x_Ts "StreamRefuterModel" 32 9 21 := ⟨by decide, "StreamRefuterModel", x_tm 939 (by decide +kernel) rfl, Or.inl rfl⟩
theorem x_f72_0 : x_fl x_ct x_Ts "StreamRefuterModel" 35 9 22 := ⟨by decide, "StreamRefuterModel", x_tm 940 (by decide +kernel) rfl, Or.inl rfl⟩
theorem x_f73_0 : x_fl x_ct x_Ts "StreamRefuterModel" 38 9 23 := ⟨by decide, "StreamRefuterModel", x_tm 941 (by decide +kernel) rfl, Or.inl rfl⟩
theorem x_f74_0 : x_fl x_ct x_Ts "StreamRefuterModel" 41 9 25 := ⟨by decide, "StreamRefuterModel", x_tm 943 (by decide +kernel) rfl, Or.inl rfl⟩
theorem x_f75_0 : x_fl x_ct x_Ts "StreamRefuterModel" 44 9 27 := ⟨by decide, "StreamRefuterModel", x_tm 945 (by decide +kernel) rfl, Or.inl rfl⟩
theorem x_f76_0 : x_fl x_ct x_Ts "StreamRefuterModel" 47 9 28 := ⟨by decide, "StreamRefuterModel", x_tm 946 (by decide +kernel) rfl, Or.inl rfl⟩
theorem x_f77_0 : x_fl x_ct x_Ts "StreamRefuterModel" 50 9 29 := ⟨by decide, "StreamRefuterModel", x_tm 947 (by decide +kernel) rfl, Or.inl rfl⟩
theorem x_f78_0 : x_fl x_ct x_Ts "StreamRefuterModel" 53 9 30 := ⟨by decide, "StreamRefuterModel", x_tm 948 (by decide +kernel) rfl, Or.inl rfl⟩
theorem x_f79_0 : x_fl x_ct x_Ts "StreamRefuterModel" 56 9 31 := ⟨by decide, "StreamRefuterModel", x_tm 949 (by decide +kernel) rfl, Or.inl rfl⟩
theorem x_f80_0 : x_fl x_ct x_Ts "StreamRefuterModel" 59 9 35 := ⟨by decide, "StreamRefuterModel", x_tm 953 (by decide +kernel) rfl, Or.inl rfl⟩
theorem x_f81_0 : x_fl x_ct x_Ts "StreamRefuterModel" 62 9 36 := ⟨by decide, "StreamRefuterModel", x_tm 954 (by decide +kernel) rfl, Or.inl rfl⟩
theorem x_f82_0 : x_fl x_ct x_Ts "StreamRefuterModel" 65 9 37 := ⟨by decide, "StreamRefuterModel", x_tm 955 (by decide +kernel) rfl, Or.inl rfl⟩
theorem x_f83_0 : x_fl x_ct x_Ts "StreamRefuterModel" 68 9 38 := ⟨by decide, "StreamRefuterModel", x_tm 956 (by decide +kernel) rfl, Or.inl rfl⟩
theorem x_f84_0 : x_fl x_ct x_Ts "StreamRefuterModel" 71 9 40 := ⟨by decide, "StreamRefuterModel", x_tm 958 (by decide +kernel) rfl, Or.inl rfl⟩
theorem x_f85_0 : x_fl x_ct x_Ts "StreamRefuterModel" 74 9 41 := ⟨by decide, "StreamRefuterModel", x_tm 959 (by decide +kernel) rfl, Or.inl rfl⟩
theorem x_f86_0 : x_fl x_ct x_Ts "StreamRefuterModel" 77 9 42 := ⟨by decide, "StreamRefuterModel", x_tm 960 (by decide +kernel) rfl, Or.inl rfl⟩
theorem x_f87_0 : x_fl x_ct x_Ts "StreamRefuterModel" 80 9 44 := ⟨by decide, "StreamRefuterModel", x_tm 962 (by decide +kernel) rfl, Or.inl rfl⟩
theorem x_f88_0 : x_fl x_ct x_Ts "StreamRefuterModel" 83 9 45 := ⟨by decide, "StreamRefuterModel", x_tm 963 (by decide +kernel) rfl, Or.inl rfl⟩
theorem x_f89_0 : x_fl x_ct x_Ts "StreamRefuterModel" 86 9 46 := ⟨by decide, "StreamRefuterModel", x_tm 964 (by decide +kernel) rfl, Or.inl rfl⟩
theorem x_f90_0 : x_fl x_ct x_Ts "StreamRefuterModel" 89 9 47 := ⟨by decide, "StreamRefuterModel", x_tm 965 (by decide +kernel) rfl, Or.inl rfl⟩
theorem x_f91_0 : x_fl x_ct x_Ts "StreamRefuterModel" 92 9 48 := ⟨by decide, "StreamRefuterModel", x_tm 966 (by decide +kernel) rfl, Or.inl rfl⟩
theorem x_f92_0 : x_fl x_ct x_Ts "StreamRefuterModel" 95 9 49 := ⟨by decide, "StreamRefuterModel", x_tm 967 (by decide +kernel) rfl, Or.inl rfl⟩
theorem x_f93_0 : x_fl x_ct x_Ts "StreamRefuterModel" 98 9 51 := ⟨by decide, "StreamRefuterModel", x_tm 969 (by decide +kernel) rfl, Or.inl rfl⟩
theorem x_f94_0 : x_fl x_ct x_Ts "StreamRefuterModel" 101 9 52 := ⟨by decide, "StreamRefuterModel", x_tm 970 (by decide +kernel) rfl, Or.inl rfl⟩
theorem x_f95_0 : x_fl x_ct x_Ts "StreamRefuterModel" 104 9 53 := ⟨by decide, "StreamRefuterModel", x_tm 971 (by decide +kernel) rfl, Or.inl rfl⟩
theorem x_f96_0 : x_fl x_ct x_Ts "StreamRefuterModel" 107 9 54 := ⟨by decide, "StreamRefuterModel", x_tm 972 (by decide +kernel) rfl, Or.inl rfl⟩
theorem x_f97_0 : x_fl x_ct x_Ts "StreamRefuterModel" 110 9 55 := ⟨by decide, "StreamRefuterModel", x_tm 973 (by decide +kernel) rfl, Or.inl rfl⟩
theorem x_f98_0 : x_fl x_ct x_Ts "StreamRefuterModel" 113 9 0 := ⟨by decide, "StreamRefuterModel", x_tm 918 (by decide +kernel) rfl, Or.inl rfl⟩
theorem x_f99_0 : x_fl x_ct x_Ts "StreamRefuterModel" 117 9 1 := ⟨by decide, "StreamRefuterModel", x_tm 919 (by decide +kernel) rfl, Or.inl rfl⟩
theorem x_f100_0 : x_fl x_ct x_Ts "StreamRefuter" 95 4 3 := ⟨by decide, "StreamRefuter$Problem", x_tm 115 (by decide +kernel) rfl, Or.inl rfl⟩
theorem x_f101_0 : x_fl x_ct x_Ts "StreamRefuter$Problem" 72 2 2 := ⟨by decide, "StreamRefuter$Words", x_tm 68 (by decide +kernel) rfl, Or.inr (x_tm 69 (by decide +kernel) rfl)⟩
theorem x_f101_1 : x_fl x_ct x_Ts "StreamRefuter$Problem" 72 3 2 := ⟨by decide, "StreamRefuter$Words", x_tm 68 (by decide +kernel) rfl, Or.inr (x_tm 69 (by decide +kernel) rfl)⟩
theorem x_f102_0 : x_fl x_ct x_Ts "StreamRefuter$Problem" 77 2 3 := ⟨by decide, "StreamRefuter$Words", x_tm 76 (by decide +kernel) rfl, Or.inr (x_tm 77 (by decide +kernel) rfl)⟩
theorem x_f102_1 : x_fl x_ct x_Ts "StreamRefuter$Problem" 77 3 3 := ⟨by decide, "StreamRefuter$Words", x_tm 76 (by decide +kernel) rfl, Or.inr (x_tm 77 (by decide +kernel) rfl)⟩
theorem x_f103_0 : x_fl x_ct x_Ts "StreamRefuter$Words" 9 2 1 := ⟨by decide, "StreamRefuter$Words", x_tm 61 (by decide +kernel) rfl, Or.inr (x_tm 62 (by decide +kernel) rfl)⟩
theorem x_f103_1 : x_fl x_ct x_Ts "StreamRefuter$Words" 9 3 1 := ⟨by decide, "StreamRefuter$Words", x_tm 61 (by decide +kernel) rfl, Or.inr (x_tm 62 (by decide +kernel) rfl)⟩
theorem x_f104_0 : x_fl x_ct x_Ts "StreamRefuter$Words" 15 2 0 := ⟨by decide, "StreamRefuter$Words", x_tm 58 (by decide +kernel) rfl, Or.inr (x_tm 59 (by decide +kernel) rfl)⟩
theorem x_f104_1 : x_fl x_ct x_Ts "StreamRefuter$Words" 15 3 0 := ⟨by decide, "StreamRefuter$Words", x_tm 58 (by decide +kernel) rfl, Or.inr (x_tm 59 (by decide +kernel) rfl)⟩
theorem x_f105_0 : x_fl x_ct x_Ts "StreamRefuter$Words" 29 2 2 := ⟨by decide, "StreamRefuter$Words", x_tm 70 (by decide +kernel) rfl, Or.inr (x_tm 69 (by decide +kernel) rfl)⟩
theorem x_f105_1 : x_fl x_ct x_Ts "StreamRefuter$Words" 29 3 2 := ⟨by decide, "StreamRefuter$Words", x_tm 70 (by decide +kernel) rfl, Or.inr (x_tm 69 (by decide +kernel) rfl)⟩
theorem x_f106_0 : x_fl x_ct x_Ts "StreamRefuter$Words" 36 2 3 := ⟨by decide, "StreamRefuter$Words", x_tm 78 (by decide +kernel) rfl, Or.inr (x_tm 77 (by decide +kernel) rfl)⟩
theorem x_f106_1 : x_fl x_ct x_Ts "StreamRefuter$Words" 36 3 3 := ⟨by decide, "StreamRefuter$Words", x_tm 78 (by decide +kernel) rfl, Or.inr (x_tm 77 (by decide +kernel) rfl)⟩
theorem x_f107_0 : x_fl x_ct x_Ts "StreamRefuter$Problem" 137 2 3 := ⟨by decide, "StreamRefuter$Numbers", x_tm 79 (by decide +kernel) rfl, Or.inl rfl⟩
theorem x_f107_1 : x_fl x_ct x_Ts "StreamRefuter$Problem" 137 3 3 := ⟨by decide, "StreamRefuter$Numbers", x_tm 79 (by decide +kernel) rfl, Or.inl rfl⟩
theorem x_f108_0 : x_fl x_ct x_Ts "StreamRefuter$PackedNumbers" 9 3 0 := ⟨by decide, "StreamRefuter$PackedNumbers", x_tm 56 (by decide +kernel) rfl, Or.inr (x_tm 57 (by decide +kernel) rfl)⟩
theorem x_f109_0 : x_fl x_ct x_Ts "StreamRefuter$PackedNumbers" 15 3 1 := ⟨by decide, "StreamRefuter$PackedNumbers", x_tm 63 (by decide +kernel) rfl, Or.inr (x_tm 64 (by decide +kernel) rfl)⟩
theorem x_f110_0 : x_fl x_ct x_Ts "StreamRefuter$PackedNumbers" 25 3 2 := ⟨by decide, "StreamRefuter$PackedNumbers", x_tm 66 (by decide +kernel) rfl, Or.inr (x_tm 67 (by decide +kernel) rfl)⟩
theorem x_f111_0 : x_fl x_ct x_Ts "StreamRefuter$PackedNumbers" 28 3 3 := ⟨by decide, "StreamRefuter$PackedNumbers", x_tm 74 (by decide +kernel) rfl, Or.inr (x_tm 75 (by decide +kernel) rfl)⟩
theorem x_f112_0 : x_fl x_ct x_Ts "StreamRefuterModel" 122 9 3 := ⟨by decide, "StreamRefuterModel", x_tm 921 (by decide +kernel) rfl, Or.inl rfl⟩
theorem x_f113_0 : x_fl x_ct x_Ts "StreamRefuterModel" 181 9 4 := ⟨by decide, "StreamRefuterModel", x_tm 922 (by decide +kernel) rfl, Or.inl rfl⟩
theorem x_f114_0 : x_fl x_ct x_Ts "StreamRefuterModel" 152 9 20 := ⟨by decide, "StreamRefuterModel", x_tm 938 (by decide +kernel) rfl, Or.inl rfl⟩
theorem x_f115_0 : x_fl x_ct x_Ts "StreamRefuterModel" 184 9 5 := ⟨by decide, "StreamRefuterModel", x_tm 923 (by decide +kernel) rfl, Or.inl rfl⟩
theorem x_f116_0 : x_fl x_ct x_Ts "StreamRefuterModel" 135 9 18 := ⟨by decide, "StreamRefuterModel", x_tm 936 (by decide +kernel) rfl, Or.inl rfl⟩
theorem x_f117_0 : x_fl x_ct x_Ts "StreamRefuterModel" 187 9 6 := ⟨by decide, "StreamRefuterModel", x_tm 924 (by decide +kernel) rfl, Or.inl rfl⟩
theorem x_f118_0 : x_fl x_ct x_Ts "StreamRefuterModel" 190 9 7 := ⟨by decide, "StreamRefuterModel", x_tm 925 (by decide +kernel) rfl, Or.inl rfl⟩
theorem x_f119_0 : x_fl x_ct x_Ts "StreamRefuterModel" 197 9 10 := ⟨by decide, "StreamRefuterModel", x_tm 928 (by decide +kernel) rfl, Or.inl rfl⟩
theorem x_f120_0 : x_fl x_ct x_Ts "StreamRefuterModel" 200 9 11 := ⟨by decide, "StreamRefuterModel", x_tm 929 (by decide +kernel) rfl, Or.inl rfl⟩
theorem x_f121_0 : x_fl x_ct x_Ts "StreamRefuterModel" 203 9 24 := ⟨by decide, "StreamRefuterModel", x_tm 942 (by decide +kernel) rfl, Or.inl rfl⟩
theorem x_f122_0 : x_fl x_ct x_Ts "StreamRefuterModel" 125 9 16 := ⟨by decide, "StreamRefuterModel", x_tm 934 (by decide +kernel) rfl, Or.inl rfl⟩
theorem x_f123_0 : x_fl x_ct x_Ts "StreamRefuterModel" 138 9 19 := ⟨by decide, "StreamRefuterModel", x_tm 937 (by decide +kernel) rfl, Or.inl rfl⟩
theorem x_f124_0 : x_fl x_ct x_Ts "StreamRefuterModel" 132 9 17 := ⟨by decide, "StreamRefuterModel", x_tm 935 (by decide +kernel) rfl, Or.inl rfl⟩
theorem x_f125_0 : x_fl x_ct x_Ts "StreamRefuter" 98 4 0 := ⟨by decide, "StreamRefuter$Problem", x_tm 108 (by decide +kernel) rfl, Or.inl rfl⟩
theorem x_f126_0 : x_fl x_ct x_Ts "StreamRefuter" 109 4 5 := ⟨by decide, "StreamRefuter$Problem", x_tm 123 (by decide +kernel) rfl, Or.inl rfl⟩
theorem x_f127_0 : x_fl x_ct x_Ts "StreamRefuter$Problem" 112 2 2 := ⟨by decide, "StreamRefuter$Numbers", x_tm 71 (by decide +kernel) rfl, Or.inl rfl⟩
theorem x_f127_1 : x_fl x_ct x_Ts "StreamRefuter$Problem" 112 3 2 := ⟨by decide, "StreamRefuter$Numbers", x_tm 71 (by decide +kernel) rfl, Or.inl rfl⟩
theorem x_f128_0 : x_fl x_ct x_Ts "StreamRefuter" 118 5 2 := ⟨by decide, "StreamRefuter$Tokens", x_tm 187 (by decide +kernel) rfl, Or.inl rfl⟩
theorem x_f129_0 : x_fl x_ct x_Ts "StreamRefuter$Tokens" 41 2 3 := ⟨by decide, "StreamRefuter$Words", x_tm 80 (by decide +kernel) rfl, Or.inr (x_tm 77 (by decide +kernel) rfl)⟩
theorem x_f129_1 : x_fl x_ct x_Ts "StreamRefuter$Tokens" 41 3 3 := ⟨by decide, "StreamRefuter$Words", x_tm 80 (by decide +kernel) rfl, Or.inr (x_tm 77 (by decide +kernel) rfl)⟩
theorem x_f130_0 : x_fl x_ct x_Ts "StreamRefuter$Tokens" 48 2 2 := ⟨by decide, "StreamRefuter$Words", x_tm 72 (by decide +kernel) rfl, Or.inr (x_tm 69 (by decide +kernel) rfl)⟩
theorem x_f130_1 : x_fl x_ct x_Ts "StreamRefuter$Tokens" 48 3 2 := ⟨by decide, "StreamRefuter$Words", x_tm 72 (by decide +kernel) rfl, Or.inr (x_tm 69 (by decide +kernel) rfl)⟩
theorem x_f131_0 : x_fl x_ct x_Ts "StreamRefuterModel" 222 9 26 := ⟨by decide, "StreamRefuterModel", x_tm 944 (by decide +kernel) rfl, Or.inl rfl⟩
theorem x_f132_0 : x_fl x_ct x_Ts "StreamRefuter" 121 4 4 := ⟨by decide, "StreamRefuter$Problem", x_tm 120 (by decide +kernel) rfl, Or.inl rfl⟩
theorem x_f133_0 : x_fl x_ct x_Ts "StreamRefuter" 124 4 7 := ⟨by decide, "StreamRefuter$Problem", x_tm 131 (by decide +kernel) rfl, Or.inl rfl⟩
theorem x_f134_0 : x_fl x_ct x_Ts "StreamRefuter" 128 4 6 := ⟨by decide, "StreamRefuter$Problem", x_tm 127 (by decide +kernel) rfl, Or.inl rfl⟩
theorem x_f135_0 : x_fl x_ct x_Ts "StreamRefuter" 131 4 1 := ⟨by decide, "StreamRefuter$Problem", x_tm 110 (by decide +kernel) rfl, Or.inl rfl⟩
theorem x_f136_0 : x_fl x_ct x_Ts "StreamRefuter$Refuter" 56 4 5 := ⟨by decide, "StreamRefuter$Problem", x_tm 122 (by decide +kernel) rfl, Or.inl rfl⟩
theorem x_f137_0 : x_fl x_ct x_Ts "StreamRefuter$Refuter" 61 4 10 := ⟨by decide, "StreamRefuter$Problem", x_tm 140 (by decide +kernel) rfl, Or.inl rfl⟩
theorem x_f138_0 : x_fl x_ct x_Ts "StreamRefuter$Propagation" 49 4 8 := ⟨by decide, "StreamRefuter$Problem", x_tm 133 (by decide +kernel) rfl, Or.inl rfl⟩
theorem x_f139_0 : x_fl x_ct x_Ts "StreamRefuter$Propagation" 69 4 4 := ⟨by decide, "StreamRefuter$Problem", x_tm 119 (by decide +kernel) rfl, Or.inl rfl⟩
theorem x_f140_0 : x_fl x_ct x_Ts "StreamRefuterModel" 247 9 33 := ⟨by decide, "StreamRefuterModel", x_tm 951 (by decide +kernel) rfl, Or.inl rfl⟩
theorem x_f141_0 : x_fl x_ct x_Ts "StreamRefuterModel" 253 9 34 := ⟨by decide, "StreamRefuterModel", x_tm 952 (by decide +kernel) rfl, Or.inl rfl⟩
theorem x_f142_0 : x_fl x_ct x_Ts "StreamRefuterModel" 238 9 32 := ⟨by decide, "StreamRefuterModel", x_tm 950 (by decide +kernel) rfl, Or.inl rfl⟩
theorem x_f143_0 : x_fl x_ct x_Ts "StreamRefuter$Refuter" 72 4 9 := ⟨by decide, "StreamRefuter$Problem", x_tm 137 (by decide +kernel) rfl, Or.inl rfl⟩
theorem x_f144_0 : x_fl x_ct x_Ts "StreamRefuter$Refuter" 79 4 8 := ⟨by decide, "StreamRefuter$Problem", x_tm 135 (by decide +kernel) rfl, Or.inl rfl⟩
theorem x_f145_0 : x_fl x_ct x_Ts "StreamRefuter$Refuter" 86 4 7 := ⟨by decide, "StreamRefuter$Problem", x_tm 129 (by decide +kernel) rfl, Or.inl rfl⟩
theorem x_f146_0 : x_fl x_ct x_Ts "StreamRefuter$Refuter" 89 4 6 := ⟨by decide, "StreamRefuter$Problem", x_tm 125 (by decide +kernel) rfl, Or.inl rfl⟩
theorem x_f147_0 : x_fl x_ct x_Ts "StreamRefuter$Refuter" 95 4 4 := ⟨by decide, "StreamRefuter$Problem", x_tm 118 (by decide +kernel) rfl, Or.inl rfl⟩
theorem x_f148_0 : x_fl x_ct x_Ts "StreamRefuter$Propagation" 76 4 7 := ⟨by decide, "StreamRefuter$Problem", x_tm 130 (by decide +kernel) rfl, Or.inl rfl⟩
theorem x_f149_0 : x_fl x_ct x_Ts "StreamRefuter$Propagation" 79 4 6 := ⟨by decide, "StreamRefuter$Problem", x_tm 126 (by decide +kernel) rfl, Or.inl rfl⟩
theorem x_f150_0 : x_fl x_ct x_Ts "StreamRefuter$Refuter" 125 4 11 := ⟨by decide, "StreamRefuter$Problem", x_tm 142 (by decide +kernel) rfl, Or.inl rfl⟩
theorem x_f151_0 : x_fl x_ct x_Ts "StreamRefuter$Refuter" 126 4 12 := ⟨by decide, "StreamRefuter$Problem", x_tm 145 (by decide +kernel) rfl, Or.inl rfl⟩
theorem x_f152_0 : x_fl x_ct x_Ts "StreamRefuter$Refuter" 130 4 3 := ⟨by decide, "StreamRefuter$Problem", x_tm 116 (by decide +kernel) rfl, Or.inl rfl⟩
theorem x_f153_0 : x_fl x_ct x_Ts "StreamRefuter$Refuter" 136 5 1 := ⟨by decide, "StreamRefuter$Tokens", x_tm 184 (by decide +kernel) rfl, Or.inl rfl⟩
theorem x_f154_0 : x_fl x_ct x_Ts "StreamRefuter$Refuter" 139 6 9 := ⟨by decide, "StreamRefuter$Propagation", x_tm 222 (by decide +kernel) rfl, Or.inl rfl⟩
theorem x_f155_0 : x_fl x_ct x_Ts "StreamRefuter$Refuter" 161 6 4 := ⟨by decide, "StreamRefuter$Propagation", x_tm 214 (by decide +kernel) rfl, Or.inl rfl⟩
theorem x_f156_0 : x_fl x_ct x_Ts "StreamRefuter$Refuter" 164 6 8 := ⟨by decide, "StreamRefuter$Propagation", x_tm 220 (by decide +kernel) rfl, Or.inl rfl⟩
theorem x_f157_0 : x_fl x_ct x_Ts "StreamRefuter$Refuter" 151 6 7 := ⟨by decide, "StreamRefuter$Propagation", x_tm 218 (by decide +kernel) rfl, Or.inl rfl⟩
theorem x_f158_0 : x_fl x_ct x_Ts "StreamRefuterModel" 295 9 39 := ⟨by decide, "StreamRefuterModel", x_tm 957 (by decide +kernel) rfl, Or.inl rfl⟩
theorem x_f159_0 : x_fl x_ct x_Ts "StreamRefuterModel" 301 9 43 := ⟨by decide, "StreamRefuterModel", x_tm 961 (by decide +kernel) rfl, Or.inl rfl⟩
theorem x_f160_0 : x_fl x_ct x_Ts "StreamRefuter" 145 4 11 := ⟨by decide, "StreamRefuter$Problem", x_tm 143 (by decide +kernel) rfl, Or.inl rfl⟩
theorem x_f161_0 : x_fl x_ct x_Ts "StreamRefuter" 153 4 9 := ⟨by decide, "StreamRefuter$Problem", x_tm 138 (by decide +kernel) rfl, Or.inl rfl⟩
theorem x_f162_0 : x_fl x_ct x_Ts "StreamRefuter" 156 4 12 := ⟨by decide, "StreamRefuter$Problem", x_tm 146 (by decide +kernel) rfl, Or.inl rfl⟩
theorem x_f163_0 : x_fl x_ct x_Ts "StreamRefuter" 159 5 1 := ⟨by decide, "StreamRefuter$Tokens", x_tm 185 (by decide +kernel) rfl, Or.inl rfl⟩
theorem x_f164_0 : x_fl x_ct x_Ts "StreamRefuter$Judge" 56 5 1 := ⟨by decide, "StreamRefuter$Tokens", x_tm 183 (by decide +kernel) rfl, Or.inl rfl⟩
theorem x_f165_0 : x_fl x_ct x_Ts "StreamRefuter$Judge" 74 4 2 := ⟨by decide, "StreamRefuter$Problem", x_tm 112 (by decide +kernel) rfl, Or.inl rfl⟩
theorem x_f166_0 : x_fl x_ct x_Ts "StreamRefuter$Judge" 77 4 3 := ⟨by decide, "StreamRefuter$Problem", x_tm 114 (by decide +kernel) rfl, Or.inl rfl⟩
theorem x_f167_0 : x_fl x_ct x_Ts "StreamRefuter$Judge" 80 4 8 := ⟨by decide, "StreamRefuter$Problem", x_tm 134 (by decide +kernel) rfl, Or.inl rfl⟩
theorem x_f168_0 : x_fl x_ct x_Ts "StreamRefuterModel" 335 9 50 := ⟨by decide, "StreamRefuterModel", x_tm 968 (by decide +kernel) rfl, Or.inl rfl⟩
theorem x_al1 {a : Nat} {P : Nat → Prop} (h : x_al a = [a]) (hp : P a) : ∀ a' ∈ x_al a, P a' := fun a' ha => by
  rw [h] at ha
  rw [List.mem_singleton.mp ha]
  exact hp
theorem x_al2 {P : Nat → Prop} (h2 : P 2) (h3 : P 3) : ∀ a' ∈ x_al 2, P a' := fun a' ha => by
  have ha : a' ∈ [2, 3] := ha
  rcases List.mem_cons.mp ha with rfl | ha
  · exact h2
  · rw [List.mem_singleton.mp ha]
    exact h3
def x_fls : List (Nat × Nat × Nat × Nat) := [(1, 10, 0, 0), (1, 21, 0, 1), (1, 28, 0, 2), (1, 35, 0, 5), (1, 39, 0, 6), (1, 45, 0, 7), (1, 49, 0, 8), (1, 57, 0, 3), (1, 66, 0, 4), (1, 70, 0, 9), (2, 9, 1, 0), (2, 15, 1, 1), (4, 9, 2, 1), (4, 15, 2, 2), (4, 18, 2, 3), (4, 21, 2, 0), (6, 9, 4, 0), (6, 15, 4, 1), (6, 18, 4, 2), (6, 22, 4, 3), (6, 25, 4, 4), (6, 28, 4, 5), (6, 31, 4, 6), (6, 35, 4, 7), (6, 38, 4, 8), (6, 41, 4, 9), (6, 44, 4, 10), (6, 48, 4, 11), (6, 52, 4, 12), (7, 9, 5, 0), (7, 15, 5, 1), (7, 19, 5, 2), (8, 9, 7, 2), (8, 15, 7, 3), (8, 18, 7, 4), (8, 25, 7, 5), (8, 29, 7, 6), (8, 33, 7, 7), (8, 36, 7, 8), (8, 39, 7, 9), (8, 43, 7, 1), (8, 52, 7, 0), (9, 9, 6, 1), (9, 15, 6, 2), (9, 19, 6, 3), (9, 22, 6, 4), (9, 26, 6, 5), (9, 29, 6, 6), (9, 32, 6, 7), (9, 35, 6, 8), (9, 38, 6, 9), (9, 41, 6, 0), (10, 11, 8, 0), (10, 15, 8, 1), (10, 18, 8, 2), (10, 22, 8, 3), (10, 25, 8, 4), (10, 29, 8, 5), (10, 32, 8, 6), (10, 35, 8, 8), (10, 38, 8, 9), (10, 41, 8, 10), (10, 44, 8, 11), (10, 48, 8, 7), (11, 7, 9, 2), (11, 13, 9, 8), (11, 16, 9, 9), (11, 19, 9, 12), (11, 23, 9, 13), (11, 26, 9, 14), (11, 29, 9, 15), (11, 32, 9, 21), (11, 35, 9, 22), (11, 38, 9, 23), (11, 41, 9, 25), (11, 44, 9, 27), (11, 47, 9, 28), (11, 50, 9, 29), (11, 53, 9, 30), (11, 56, 9, 31), (11, 59, 9, 35), (11, 62, 9, 36), (11, 65, 9, 37), (11, 68, 9, 38), (11, 71, 9, 40), (11, 74, 9, 41), (11, 77, 9, 42), (11, 80, 9, 44), (11, 83, 9, 45), (11, 86, 9, 46), (11, 89, 9, 47), (11, 92, 9, 48), (11, 95, 9, 49), (11, 98, 9, 51), (11, 101, 9, 52), (11, 104, 9, 53), (11, 107, 9, 54), (11, 110, 9, 55), (11, 113, 9, 0), (11, 117, 9, 1), (1, 95, 4, 3), (6, 72, 2, 2), (6, 77, 2, 3), (3, 9, 2, 1), (3, 15, 2, 0), (3, 29, 2, 2), (3, 36, 2, 3), (6, 137, 2, 3), (5, 9, 3, 0), (5, 15, 3, 1), (5, 25, 3, 2), (5, 28, 3, 3), (11, 122, 9, 3), (11, 181, 9, 4), (11, 152, 9, 20), (11, 184, 9, 5), (11, 135, 9, 18), (11, 187, 9, 6), (11, 190, 9, 7), (11, 197, 9, 10), (11, 200, 9, 11), (11, 203, 9, 24), (11, 125, 9, 16), (11, 138, 9, 19), (11, 132, 9, 17), (1, 98, 4, 0), (1, 109, 4, 5), (6, 112, 2, 2), (1, 118, 5, 2), (7, 41, 2, 3), (7, 48, 2, 2), (11, 222, 9, 26), (1, 121, 4, 4), (1, 124, 4, 7), (1, 128, 4, 6), (1, 131, 4, 1), (8, 56, 4, 5), (8, 61, 4, 10), (9, 49, 4, 8), (9, 69, 4, 4), (11, 247, 9, 33), (11, 253, 9, 34), (11, 238, 9, 32), (8, 72, 4, 9), (8, 79, 4, 8), (8, 86, 4, 7), (8, 89, 4, 6), (8, 95, 4, 4), (9, 76, 4, 7), (9, 79, 4, 6), (8, 125, 4, 11), (8, 126, 4, 12), (8, 130, 4, 3), (8, 136, 5, 1), (8, 139, 6, 9), (8, 161, 6, 4), (8, 164, 6, 8), (8, 151, 6, 7), (11, 295, 9, 39), (11, 301, 9, 43), (1, 145, 4, 11), (1, 153, 4, 9), (1, 156, 4, 12), (1, 159, 5, 1), (10, 56, 5, 1), (10, 74, 4, 2), (10, 77, 4, 3), (10, 80, 4, 8), (11, 335, 9, 50)]
theorem x_fls_ok : ∀ q ∈ x_fls, ∀ a' ∈ x_al q.2.2.1, x_cf x_cts x_ct x_fk x_ty x_Ts a' ∧ x_fl x_ct x_Ts (x_on q.1) q.2.1 a' q.2.2.2 := by
  unfold x_fls
  refine List.forall_mem_cons.mpr ⟨x_al1 rfl ⟨x_c0, x_f0_0⟩, ?_⟩
  refine List.forall_mem_cons.mpr ⟨x_al1 rfl ⟨x_c0, x_f1_0⟩, ?_⟩
  refine List.forall_mem_cons.mpr ⟨x_al1 rfl ⟨x_c0, x_f2_0⟩, ?_⟩
  refine List.forall_mem_cons.mpr ⟨x_al1 rfl ⟨x_c0, x_f3_0⟩, ?_⟩
  refine List.forall_mem_cons.mpr ⟨x_al1 rfl ⟨x_c0, x_f4_0⟩, ?_⟩
  refine List.forall_mem_cons.mpr ⟨x_al1 rfl ⟨x_c0, x_f5_0⟩, ?_⟩
  refine List.forall_mem_cons.mpr ⟨x_al1 rfl ⟨x_c0, x_f6_0⟩, ?_⟩
  refine List.forall_mem_cons.mpr ⟨x_al1 rfl ⟨x_c0, x_f7_0⟩, ?_⟩
  refine List.forall_mem_cons.mpr ⟨x_al1 rfl ⟨x_c0, x_f8_0⟩, ?_⟩
  refine List.forall_mem_cons.mpr ⟨x_al1 rfl ⟨x_c0, x_f9_0⟩, ?_⟩
  refine List.forall_mem_cons.mpr ⟨x_al1 rfl ⟨x_c1, x_f10_0⟩, ?_⟩
  refine List.forall_mem_cons.mpr ⟨x_al1 rfl ⟨x_c1, x_f11_0⟩, ?_⟩
  refine List.forall_mem_cons.mpr ⟨x_al2 ⟨x_c2, x_f12_0⟩ ⟨x_c3, x_f12_1⟩, ?_⟩
  refine List.forall_mem_cons.mpr ⟨x_al2 ⟨x_c2, x_f13_0⟩ ⟨x_c3, x_f13_1⟩, ?_⟩
  refine List.forall_mem_cons.mpr ⟨x_al2 ⟨x_c2, x_f14_0⟩ ⟨x_c3, x_f14_1⟩, ?_⟩
  refine List.forall_mem_cons.mpr ⟨x_al2 ⟨x_c2, x_f15_0⟩ ⟨x_c3, x_f15_1⟩, ?_⟩
  refine List.forall_mem_cons.mpr ⟨x_al1 rfl ⟨x_c4, x_f16_0⟩, ?_⟩
  refine List.forall_mem_cons.mpr ⟨x_al1 rfl ⟨x_c4, x_f17_0⟩, ?_⟩
  refine List.forall_mem_cons.mpr ⟨x_al1 rfl ⟨x_c4, x_f18_0⟩, ?_⟩
  refine List.forall_mem_cons.mpr ⟨x_al1 rfl ⟨x_c4, x_f19_0⟩, ?_⟩
  refine List.forall_mem_cons.mpr ⟨x_al1 rfl ⟨x_c4, x_f20_0⟩, ?_⟩
  refine List.forall_mem_cons.mpr ⟨x_al1 rfl ⟨x_c4, x_f21_0⟩, ?_⟩
  refine List.forall_mem_cons.mpr ⟨x_al1 rfl ⟨x_c4, x_f22_0⟩, ?_⟩
  refine List.forall_mem_cons.mpr ⟨x_al1 rfl ⟨x_c4, x_f23_0⟩, ?_⟩
  refine List.forall_mem_cons.mpr ⟨x_al1 rfl ⟨x_c4, x_f24_0⟩, ?_⟩
  refine List.forall_mem_cons.mpr ⟨x_al1 rfl ⟨x_c4, x_f25_0⟩, ?_⟩
  refine List.forall_mem_cons.mpr ⟨x_al1 rfl ⟨x_c4, x_f26_0⟩, ?_⟩
  refine List.forall_mem_cons.mpr ⟨x_al1 rfl ⟨x_c4, x_f27_0⟩, ?_⟩
  refine List.forall_mem_cons.mpr ⟨x_al1 rfl ⟨x_c4, x_f28_0⟩, ?_⟩
  refine List.forall_mem_cons.mpr ⟨x_al1 rfl ⟨x_c5, x_f29_0⟩, ?_⟩
  refine List.forall_mem_cons.mpr ⟨x_al1 rfl ⟨x_c5, x_f30_0⟩, ?_⟩
  refine List.forall_mem_cons.mpr ⟨x_al1 rfl ⟨x_c5, x_f31_0⟩, ?_⟩
  refine List.forall_mem_cons.mpr ⟨x_al1 rfl ⟨x_c7, x_f32_0⟩, ?_⟩
  refine List.forall_mem_cons.mpr ⟨x_al1 rfl ⟨x_c7, x_f33_0⟩, ?_⟩
  refine List.forall_mem_cons.mpr ⟨x_al1 rfl ⟨x_c7, x_f34_0⟩, ?_⟩
  refine List.forall_mem_cons.mpr ⟨x_al1 rfl ⟨x_c7, x_f35_0⟩, ?_⟩
  refine List.forall_mem_cons.mpr ⟨x_al1 rfl ⟨x_c7, x_f36_0⟩, ?_⟩
  refine List.forall_mem_cons.mpr ⟨x_al1 rfl ⟨x_c7, x_f37_0⟩, ?_⟩
  refine List.forall_mem_cons.mpr ⟨x_al1 rfl ⟨x_c7, x_f38_0⟩, ?_⟩
  refine List.forall_mem_cons.mpr ⟨x_al1 rfl ⟨x_c7, x_f39_0⟩, ?_⟩
  refine List.forall_mem_cons.mpr ⟨x_al1 rfl ⟨x_c7, x_f40_0⟩, ?_⟩
  refine List.forall_mem_cons.mpr ⟨x_al1 rfl ⟨x_c7, x_f41_0⟩, ?_⟩
  refine List.forall_mem_cons.mpr ⟨x_al1 rfl ⟨x_c6, x_f42_0⟩, ?_⟩
  refine List.forall_mem_cons.mpr ⟨x_al1 rfl ⟨x_c6, x_f43_0⟩, ?_⟩
  refine List.forall_mem_cons.mpr ⟨x_al1 rfl ⟨x_c6, x_f44_0⟩, ?_⟩
  refine List.forall_mem_cons.mpr ⟨x_al1 rfl ⟨x_c6, x_f45_0⟩, ?_⟩
  refine List.forall_mem_cons.mpr ⟨x_al1 rfl ⟨x_c6, x_f46_0⟩, ?_⟩
  refine List.forall_mem_cons.mpr ⟨x_al1 rfl ⟨x_c6, x_f47_0⟩, ?_⟩
  refine List.forall_mem_cons.mpr ⟨x_al1 rfl ⟨x_c6, x_f48_0⟩, ?_⟩
  refine List.forall_mem_cons.mpr ⟨x_al1 rfl ⟨x_c6, x_f49_0⟩, ?_⟩
  refine List.forall_mem_cons.mpr ⟨x_al1 rfl ⟨x_c6, x_f50_0⟩, ?_⟩
  refine List.forall_mem_cons.mpr ⟨x_al1 rfl ⟨x_c6, x_f51_0⟩, ?_⟩
  refine List.forall_mem_cons.mpr ⟨x_al1 rfl ⟨x_c8, x_f52_0⟩, ?_⟩
  refine List.forall_mem_cons.mpr ⟨x_al1 rfl ⟨x_c8, x_f53_0⟩, ?_⟩
  refine List.forall_mem_cons.mpr ⟨x_al1 rfl ⟨x_c8, x_f54_0⟩, ?_⟩
  refine List.forall_mem_cons.mpr ⟨x_al1 rfl ⟨x_c8, x_f55_0⟩, ?_⟩
  refine List.forall_mem_cons.mpr ⟨x_al1 rfl ⟨x_c8, x_f56_0⟩, ?_⟩
  refine List.forall_mem_cons.mpr ⟨x_al1 rfl ⟨x_c8, x_f57_0⟩, ?_⟩
  refine List.forall_mem_cons.mpr ⟨x_al1 rfl ⟨x_c8, x_f58_0⟩, ?_⟩
  refine List.forall_mem_cons.mpr ⟨x_al1 rfl ⟨x_c8, x_f59_0⟩, ?_⟩
  refine List.forall_mem_cons.mpr ⟨x_al1 rfl ⟨x_c8, x_f60_0⟩, ?_⟩
  refine List.forall_mem_cons.mpr ⟨x_al1 rfl ⟨x_c8, x_f61_0⟩, ?_⟩
  refine List.forall_mem_cons.mpr ⟨x_al1 rfl ⟨x_c8, x_f62_0⟩, ?_⟩
  refine List.forall_mem_cons.mpr ⟨x_al1 rfl ⟨x_c8, x_f63_0⟩, ?_⟩
  refine List.forall_mem_cons.mpr ⟨x_al1 rfl ⟨x_c9, x_f64_0⟩, ?_⟩
  refine List.forall_mem_cons.mpr ⟨x_al1 rfl ⟨x_c9, x_f65_0⟩, ?_⟩
  refine List.forall_mem_cons.mpr ⟨x_al1 rfl ⟨x_c9, x_f66_0⟩, ?_⟩
  refine List.forall_mem_cons.mpr ⟨x_al1 rfl ⟨x_c9, x_f67_0⟩, ?_⟩
  refine List.forall_mem_cons.mpr ⟨x_al1 rfl ⟨x_c9, x_f68_0⟩, ?_⟩
  refine List.forall_mem_cons.mpr ⟨x_al1 rfl ⟨x_c9, x_f69_0⟩, ?_⟩
  refine List.forall_mem_cons.mpr ⟨x_al1 rfl ⟨x_c9, x_f70_0⟩, ?_⟩
  refine List.forall_mem_cons.mpr ⟨x_al1 rfl ⟨x_c9, x_f71_0⟩, ?_⟩
  refine List.forall_mem_cons.mpr ⟨x_al1 rfl ⟨x_c9, x_f72_0⟩, ?_⟩
  refine List.forall_mem_cons.mpr ⟨x_al1 rfl ⟨x_c9, x_f73_0⟩, ?_⟩
  refine List.forall_mem_cons.mpr ⟨x_al1 rfl ⟨x_c9, x_f74_0⟩, ?_⟩
  refine List.forall_mem_cons.mpr ⟨x_al1 rfl ⟨x_c9, x_f75_0⟩, ?_⟩
  refine List.forall_mem_cons.mpr ⟨x_al1 rfl ⟨x_c9, x_f76_0⟩, ?_⟩
  refine List.forall_mem_cons.mpr ⟨x_al1 rfl ⟨x_c9, x_f77_0⟩, ?_⟩
  refine List.forall_mem_cons.mpr ⟨x_al1 rfl ⟨x_c9, x_f78_0⟩, ?_⟩
  refine List.forall_mem_cons.mpr ⟨x_al1 rfl ⟨x_c9, x_f79_0⟩, ?_⟩
  refine List.forall_mem_cons.mpr ⟨x_al1 rfl ⟨x_c9, x_f80_0⟩, ?_⟩
  refine List.forall_mem_cons.mpr ⟨x_al1 rfl ⟨x_c9, x_f81_0⟩, ?_⟩
  refine List.forall_mem_cons.mpr ⟨x_al1 rfl ⟨x_c9, x_f82_0⟩, ?_⟩
  refine List.forall_mem_cons.mpr ⟨x_al1 rfl ⟨x_c9, x_f83_0⟩, ?_⟩
  refine List.forall_mem_cons.mpr ⟨x_al1 rfl ⟨x_c9, x_f84_0⟩, ?_⟩
  refine List.forall_mem_cons.mpr ⟨x_al1 rfl ⟨x_c9, x_f85_0⟩, ?_⟩
  refine List.forall_mem_cons.mpr ⟨x_al1 rfl ⟨x_c9, x_f86_0⟩, ?_⟩
  refine List.forall_mem_cons.mpr ⟨x_al1 rfl ⟨x_c9, x_f87_0⟩, ?_⟩
  refine List.forall_mem_cons.mpr ⟨x_al1 rfl ⟨x_c9, x_f88_0⟩, ?_⟩
  refine List.forall_mem_cons.mpr ⟨x_al1 rfl ⟨x_c9, x_f89_0⟩, ?_⟩
  refine List.forall_mem_cons.mpr ⟨x_al1 rfl ⟨x_c9, x_f90_0⟩, ?_⟩
  refine List.forall_mem_cons.mpr ⟨x_al1 rfl ⟨x_c9, x_f91_0⟩, ?_⟩
  refine List.forall_mem_cons.mpr ⟨x_al1 rfl ⟨x_c9, x_f92_0⟩, ?_⟩
  refine List.forall_mem_cons.mpr ⟨x_al1 rfl ⟨x_c9, x_f93_0⟩, ?_⟩
  refine List.forall_mem_cons.mpr ⟨x_al1 rfl ⟨x_c9, x_f94_0⟩, ?_⟩
  refine List.forall_mem_cons.mpr ⟨x_al1 rfl ⟨x_c9, x_f95_0⟩, ?_⟩
  refine List.forall_mem_cons.mpr ⟨x_al1 rfl ⟨x_c9, x_f96_0⟩, ?_⟩
  refine List.forall_mem_cons.mpr ⟨x_al1 rfl ⟨x_c9, x_f97_0⟩, ?_⟩
  refine List.forall_mem_cons.mpr ⟨x_al1 rfl ⟨x_c9, x_f98_0⟩, ?_⟩
  refine List.forall_mem_cons.mpr ⟨x_al1 rfl ⟨x_c9, x_f99_0⟩, ?_⟩
  refine List.forall_mem_cons.mpr ⟨x_al1 rfl ⟨x_c4, x_f100_0⟩, ?_⟩
  refine List.forall_mem_cons.mpr ⟨x_al2 ⟨x_c2, x_f101_0⟩ ⟨x_c3, x_f101_1⟩, ?_⟩
  refine List.forall_mem_cons.mpr ⟨x_al2 ⟨x_c2, x_f102_0⟩ ⟨x_c3, x_f102_1⟩, ?_⟩
  refine List.forall_mem_cons.mpr ⟨x_al2 ⟨x_c2, x_f103_0⟩ ⟨x_c3, x_f103_1⟩, ?_⟩
  refine List.forall_mem_cons.mpr ⟨x_al2 ⟨x_c2, x_f104_0⟩ ⟨x_c3, x_f104_1⟩, ?_⟩
  refine List.forall_mem_cons.mpr ⟨x_al2 ⟨x_c2, x_f105_0⟩ ⟨x_c3, x_f105_1⟩, ?_⟩
  refine List.forall_mem_cons.mpr ⟨x_al2 ⟨x_c2, x_f106_0⟩ ⟨x_c3, x_f106_1⟩, ?_⟩
  refine List.forall_mem_cons.mpr ⟨x_al2 ⟨x_c2, x_f107_0⟩ ⟨x_c3, x_f107_1⟩, ?_⟩
  refine List.forall_mem_cons.mpr ⟨x_al1 rfl ⟨x_c3, x_f108_0⟩, ?_⟩
  refine List.forall_mem_cons.mpr ⟨x_al1 rfl ⟨x_c3, x_f109_0⟩, ?_⟩
  refine List.forall_mem_cons.mpr ⟨x_al1 rfl ⟨x_c3, x_f110_0⟩, ?_⟩
  refine List.forall_mem_cons.mpr ⟨x_al1 rfl ⟨x_c3, x_f111_0⟩, ?_⟩
  refine List.forall_mem_cons.mpr ⟨x_al1 rfl ⟨x_c9, x_f112_0⟩, ?_⟩
  refine List.forall_mem_cons.mpr ⟨x_al1 rfl ⟨x_c9, x_f113_0⟩, ?_⟩
  refine List.forall_mem_cons.mpr ⟨x_al1 rfl ⟨x_c9, x_f114_0⟩, ?_⟩
  refine List.forall_mem_cons.mpr ⟨x_al1 rfl ⟨x_c9, x_f115_0⟩, ?_⟩
  refine List.forall_mem_cons.mpr ⟨x_al1 rfl ⟨x_c9, x_f116_0⟩, ?_⟩
  refine List.forall_mem_cons.mpr ⟨x_al1 rfl ⟨x_c9, x_f117_0⟩, ?_⟩
  refine List.forall_mem_cons.mpr ⟨x_al1 rfl ⟨x_c9, x_f118_0⟩, ?_⟩
  refine List.forall_mem_cons.mpr ⟨x_al1 rfl ⟨x_c9, x_f119_0⟩, ?_⟩
  refine List.forall_mem_cons.mpr ⟨x_al1 rfl ⟨x_c9, x_f120_0⟩, ?_⟩
  refine List.forall_mem_cons.mpr ⟨x_al1 rfl ⟨x_c9, x_f121_0⟩, ?_⟩
  refine List.forall_mem_cons.mpr ⟨x_al1 rfl ⟨x_c9, x_f122_0⟩, ?_⟩
  refine List.forall_mem_cons.mpr ⟨x_al1 rfl ⟨x_c9, x_f123_0⟩, ?_⟩
  refine List.forall_mem_cons.mpr ⟨x_al1 rfl ⟨x_c9, x_f124_0⟩, ?_⟩
  refine List.forall_mem_cons.mpr ⟨x_al1 rfl ⟨x_c4, x_f125_0⟩, ?_⟩
  refine List.forall_mem_cons.mpr ⟨x_al1 rfl ⟨x_c4, x_f126_0⟩, ?_⟩
  refine List.forall_mem_cons.mpr ⟨x_al2 ⟨x_c2, x_f127_0⟩ ⟨x_c3, x_f127_1⟩, ?_⟩
  refine List.forall_mem_cons.mpr ⟨x_al1 rfl ⟨x_c5, x_f128_0⟩, ?_⟩
  refine List.forall_mem_cons.mpr ⟨x_al2 ⟨x_c2, x_f129_0⟩ ⟨x_c3, x_f129_1⟩, ?_⟩
  refine List.forall_mem_cons.mpr ⟨x_al2 ⟨x_c2, x_f130_0⟩ ⟨x_c3, x_f130_1⟩, ?_⟩
  refine List.forall_mem_cons.mpr ⟨x_al1 rfl ⟨x_c9, x_f131_0⟩, ?_⟩
  refine List.forall_mem_cons.mpr ⟨x_al1 rfl ⟨x_c4, x_f132_0⟩, ?_⟩
  refine List.forall_mem_cons.mpr ⟨x_al1 rfl ⟨x_c4, x_f133_0⟩, ?_⟩
  refine List.forall_mem_cons.mpr ⟨x_al1 rfl ⟨x_c4, x_f134_0⟩, ?_⟩
  refine List.forall_mem_cons.mpr ⟨x_al1 rfl ⟨x_c4, x_f135_0⟩, ?_⟩
  refine List.forall_mem_cons.mpr ⟨x_al1 rfl ⟨x_c4, x_f136_0⟩, ?_⟩
  refine List.forall_mem_cons.mpr ⟨x_al1 rfl ⟨x_c4, x_f137_0⟩, ?_⟩
  refine List.forall_mem_cons.mpr ⟨x_al1 rfl ⟨x_c4, x_f138_0⟩, ?_⟩
  refine List.forall_mem_cons.mpr ⟨x_al1 rfl ⟨x_c4, x_f139_0⟩, ?_⟩
  refine List.forall_mem_cons.mpr ⟨x_al1 rfl ⟨x_c9, x_f140_0⟩, ?_⟩
  refine List.forall_mem_cons.mpr ⟨x_al1 rfl ⟨x_c9, x_f141_0⟩, ?_⟩
  refine List.forall_mem_cons.mpr ⟨x_al1 rfl ⟨x_c9, x_f142_0⟩, ?_⟩
  refine List.forall_mem_cons.mpr ⟨x_al1 rfl ⟨x_c4, x_f143_0⟩, ?_⟩
  refine List.forall_mem_cons.mpr ⟨x_al1 rfl ⟨x_c4, x_f144_0⟩, ?_⟩
  refine List.forall_mem_cons.mpr ⟨x_al1 rfl ⟨x_c4, x_f145_0⟩, ?_⟩
  refine List.forall_mem_cons.mpr ⟨x_al1 rfl ⟨x_c4, x_f146_0⟩, ?_⟩
  refine List.forall_mem_cons.mpr ⟨x_al1 rfl ⟨x_c4, x_f147_0⟩, ?_⟩
  refine List.forall_mem_cons.mpr ⟨x_al1 rfl ⟨x_c4, x_f148_0⟩, ?_⟩
  refine List.forall_mem_cons.mpr ⟨x_al1 rfl ⟨x_c4, x_f149_0⟩, ?_⟩
  refine List.forall_mem_cons.mpr ⟨x_al1 rfl ⟨x_c4, x_f150_0⟩, ?_⟩
  refine List.forall_mem_cons.mpr ⟨x_al1 rfl ⟨x_c4, x_f151_0⟩, ?_⟩
  refine List.forall_mem_cons.mpr ⟨x_al1 rfl ⟨x_c4, x_f152_0⟩, ?_⟩
  refine List.forall_mem_cons.mpr ⟨x_al1 rfl ⟨x_c5, x_f153_0⟩, ?_⟩
  refine List.forall_mem_cons.mpr ⟨x_al1 rfl ⟨x_c6, x_f154_0⟩, ?_⟩
  refine List.forall_mem_cons.mpr ⟨x_al1 rfl ⟨x_c6, x_f155_0⟩, ?_⟩
  refine List.forall_mem_cons.mpr ⟨x_al1 rfl ⟨x_c6, x_f156_0⟩, ?_⟩
  refine List.forall_mem_cons.mpr ⟨x_al1 rfl ⟨x_c6, x_f157_0⟩, ?_⟩
  refine List.forall_mem_cons.mpr ⟨x_al1 rfl ⟨x_c9, x_f158_0⟩, ?_⟩
  refine List.forall_mem_cons.mpr ⟨x_al1 rfl ⟨x_c9, x_f159_0⟩, ?_⟩
  refine List.forall_mem_cons.mpr ⟨x_al1 rfl ⟨x_c4, x_f160_0⟩, ?_⟩
  refine List.forall_mem_cons.mpr ⟨x_al1 rfl ⟨x_c4, x_f161_0⟩, ?_⟩
  refine List.forall_mem_cons.mpr ⟨x_al1 rfl ⟨x_c4, x_f162_0⟩, ?_⟩
  refine List.forall_mem_cons.mpr ⟨x_al1 rfl ⟨x_c5, x_f163_0⟩, ?_⟩
  refine List.forall_mem_cons.mpr ⟨x_al1 rfl ⟨x_c5, x_f164_0⟩, ?_⟩
  refine List.forall_mem_cons.mpr ⟨x_al1 rfl ⟨x_c4, x_f165_0⟩, ?_⟩
  refine List.forall_mem_cons.mpr ⟨x_al1 rfl ⟨x_c4, x_f166_0⟩, ?_⟩
  refine List.forall_mem_cons.mpr ⟨x_al1 rfl ⟨x_c4, x_f167_0⟩, ?_⟩
  refine List.forall_mem_cons.mpr ⟨x_al1 rfl ⟨x_c9, x_f168_0⟩, ?_⟩
  exact fun _ h => absurd h List.not_mem_nil
