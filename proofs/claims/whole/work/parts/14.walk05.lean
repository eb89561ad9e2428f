theorem h_X6_longPaths : yX6_longPaths.cls ≠ "java/lang/invoke/MethodHandle" ∧ yX6_longPaths.cls ≠ "java/lang/invoke/VarHandle" ∧ (parseMethodDescriptor yX6_longPaths.desc).map (fun d => d.parameters.length) = some 1 := by decide +kernel
set_option maxHeartbeats 4000000 in
set_option maxRecDepth 100000 in
theorem t_X6_longPaths_L14 {X : jm_X} {k : jm_C} (C : jm_Cx X k cX6_longPaths 4 RX6 w_X6_longPaths) (r0 : Nat) (v2 : Int32) (M : jm_M) (hr0 : jm_is r0 (3, 4)) : ∀ (m : Nat) (s : Int32 × Int32) (r : Int32), jm_loop (X6_longPaths_B14 r0 v2 M) m s = some r → jm_T X { frames := 3, cells := 0, slots := 0, locals := 120 } k 4 M 50 [(0, .ref (jm_ad k r0)), (1, .int r), (2, .int v2)] [] → (∀ (b0 : Int32) (b1 : Int32), s = (b0, b1) → jm_T X { frames := 3, cells := 0, slots := 0, locals := 120 } k 4 M 14 [(0, .ref (jm_ad k r0)), (1, .int b0), (2, .int v2), (3, .int b1)] []) := by
  refine jm_loop_ind (P := fun (s : Int32 × Int32) => (∀ (b0 : Int32) (b1 : Int32), s = (b0, b1) → jm_T X { frames := 3, cells := 0, slots := 0, locals := 120 } k 4 M 14 [(0, .ref (jm_ad k r0)), (1, .int b0), (2, .int v2), (3, .int b1)] [])) (K := fun (r : Int32) => jm_T X { frames := 3, cells := 0, slots := 0, locals := 120 } k 4 M 50 [(0, .ref (jm_ad k r0)), (1, .int r), (2, .int v2)] []) ?_
  intro s q h h1 h2
  intro b0 b1 hs
  subst hs
  unfold X6_longPaths_B14 at h
  try dsimp only at h
  refine jt_iload_n C dX6_longPaths_14 rfl 3 rfl ?_
  refine jt_iload_n C dX6_longPaths_15 rfl 2 rfl ?_
  refine jt_icmp_ge (tgt := 50) C dX6_longPaths_16 (by decide) (fun c16 => ?_) (fun c16 => ?_)
  · replace h := jm_ift c16 h
    cases h
    exact jt_sub [0, 1, 2] rfl (h2 _ rfl)
  · replace h := jm_iff c16 h
    refine jt_iload_n C dX6_longPaths_19 rfl 1 rfl ?_
    refine jt_aload_n C dX6_longPaths_20 rfl 0 rfl ?_
    refine jt_iload_n C dX6_longPaths_21 rfl 3 rfl ?_
    refine jt_iload_n C dX6_longPaths_22 rfl 2 rfl ?_
    obtain ⟨x1, ex1, h⟩ := jm_bind h
    refine jt_callVi (As := [_, _]) (rest := [_]) C hr0 rfl dX6_longPaths_23 (c_X4_link (jx_l X) k _ _ _ _ hr0 _ ex1) (k_goodIn (g_RX6_64)) rfl h_X4_link ⟨rfl, rfl, Nat.le_of_ble_eq_true rfl, Nat.le_of_ble_eq_true rfl⟩ rfl rfl (Nat.le_of_ble_eq_true rfl) ?_
    refine jt_aload_n C dX6_longPaths_26 rfl 0 rfl ?_
    refine jt_iload_n C dX6_longPaths_27 rfl 3 rfl ?_
    obtain ⟨x2, ex2, h⟩ := jm_bind h
    refine jt_callVi (As := [_]) (rest := [_, _]) C hr0 rfl dX6_longPaths_28 (c_X4_degree (jx_l X) k _ _ _ hr0 _ ex2) (k_goodIn (g_RX6_55)) rfl h_X4_degree ⟨rfl, rfl, Nat.le_of_ble_eq_true rfl, Nat.le_of_ble_eq_true rfl⟩ rfl rfl (Nat.le_of_ble_eq_true rfl) ?_
    refine jt_iconst (v := (1 : Int32)) C dX6_longPaths_31 (by decide) ?_
    refine jt_isub C dX6_longPaths_32 ?_
    refine jt_imul C dX6_longPaths_33 ?_
    refine jt_aload_n C dX6_longPaths_34 rfl 0 rfl ?_
    refine jt_iload_n C dX6_longPaths_35 rfl 2 rfl ?_
    obtain ⟨x3, ex3, h⟩ := jm_bind h
    refine jt_callVi (As := [_]) (rest := [_, _]) C hr0 rfl dX6_longPaths_36 (c_X4_degree (jx_l X) k _ _ _ hr0 _ ex3) (k_goodIn (g_RX6_55)) rfl h_X4_degree ⟨rfl, rfl, Nat.le_of_ble_eq_true rfl, Nat.le_of_ble_eq_true rfl⟩ rfl rfl (Nat.le_of_ble_eq_true rfl) ?_
    refine jt_iconst (v := (1 : Int32)) C dX6_longPaths_39 (by decide) ?_
    refine jt_isub C dX6_longPaths_40 ?_
    refine jt_imul C dX6_longPaths_41 ?_
    refine jt_iadd C dX6_longPaths_42 ?_
    refine jt_istore_n (lv' := [(1, _), (0, _), (2, _), (3, _)]) C dX6_longPaths_43 rfl (by decide) rfl ?_
    refine jt_iinc (v := (1 : Int32)) (lv' := [(3, _), (1, _), (0, _), (2, _)]) C dX6_longPaths_44 3 rfl (by decide) (by decide) rfl ?_
    refine jt_goto (tgt := 14) C dX6_longPaths_47 (by decide) ?_
    cases h
    exact jt_sub [2, 1, 3, 0] rfl (h1 _ rfl _ _ rfl)
set_option maxHeartbeats 4000000 in
set_option maxRecDepth 100000 in
theorem t_X6_longPaths_L4 {X : jm_X} {k : jm_C} (C : jm_Cx X k cX6_longPaths 4 RX6 w_X6_longPaths) (n : Nat) (r0 : Nat) (M : jm_M) (hr0 : jm_is r0 (3, 4)) : ∀ (m : Nat) (s : Int32 × Int32) (r : Int32), jm_loop (X6_longPaths_B4 n r0 M) m s = some r → jm_T X { frames := 3, cells := 0, slots := 0, locals := 120 } k 4 M 56 [(0, .ref (jm_ad k r0)), (1, .int r)] [] → (∀ (b0 : Int32) (b1 : Int32), s = (b0, b1) → jm_T X { frames := 3, cells := 0, slots := 0, locals := 120 } k 4 M 4 [(0, .ref (jm_ad k r0)), (1, .int b0), (2, .int b1)] []) := by
  refine jm_loop_ind (P := fun (s : Int32 × Int32) => (∀ (b0 : Int32) (b1 : Int32), s = (b0, b1) → jm_T X { frames := 3, cells := 0, slots := 0, locals := 120 } k 4 M 4 [(0, .ref (jm_ad k r0)), (1, .int b0), (2, .int b1)] [])) (K := fun (r : Int32) => jm_T X { frames := 3, cells := 0, slots := 0, locals := 120 } k 4 M 56 [(0, .ref (jm_ad k r0)), (1, .int r)] []) ?_
  intro s q h h1 h2
  intro b0 b1 hs
  subst hs
  unfold X6_longPaths_B4 at h
  try dsimp only at h
  refine jt_iload_n C dX6_longPaths_4 rfl 2 rfl ?_
  refine jt_aload_n C dX6_longPaths_5 rfl 0 rfl ?_
  refine jt_callVi (As := []) (rest := [_]) C hr0 rfl dX6_longPaths_6 (c_X4_size (jx_l X) k _ _ hr0 _ rfl) (k_goodIn (g_RX6_52)) rfl h_X4_size ⟨rfl, rfl, Nat.le_of_ble_eq_true rfl, Nat.le_of_ble_eq_true rfl⟩ rfl rfl (Nat.le_of_ble_eq_true rfl) ?_
  refine jt_icmp_ge (tgt := 56) C dX6_longPaths_9 (by decide) (fun c9 => ?_) (fun c9 => ?_)
  · replace h := jm_ift c9 h
    cases h
    exact jt_sub [0, 1] rfl (h2 _ rfl)
  · replace h := jm_iff c9 h
    refine jt_iconst (v := (0 : Int32)) C dX6_longPaths_12 (by decide) ?_
    refine jt_istore_n (lv' := [(3, _), (0, _), (1, _), (2, _)]) C dX6_longPaths_13 rfl (by decide) rfl ?_
    obtain ⟨q4, eq4, h⟩ := jm_bind h
    refine jt_sub [1, 2, 3, 0] rfl ?_
    refine t_X6_longPaths_L14 C _ _ _ hr0 n _ _ eq4 ?_ _ _ rfl
    refine jt_iinc (v := (1 : Int32)) (lv' := [(2, _), (0, _), (1, _)]) C dX6_longPaths_50 2 rfl (by decide) (by decide) rfl ?_
    refine jt_goto (tgt := 4) C dX6_longPaths_53 (by decide) ?_
    cases h
    exact jt_sub [1, 2, 0] rfl (h1 _ rfl _ _ rfl)
set_option maxHeartbeats 4000000 in
set_option maxRecDepth 100000 in
theorem c_X6_longPaths (l : Launch) (k : jm_C) (n : Nat) (r0 : Nat) (M : jm_M) (hr0 : jm_is r0 (3, 4)) (q : Int32) (h : X6_longPaths n r0 M = some q) : jm_Ci l k yX6_longPaths w_X6_longPaths { frames := 3, cells := 0, slots := 0, locals := 120 } [.ref (jm_ad k r0)] M q M := by
  refine jm_entry_i (cc := cX6_longPaths) (nL := 4) (ret := (some .int)) (by decide) rfl (Nat.le_of_ble_eq_true rfl) ?_
  intro X hX C hQ hr
  subst hX
  unfold X6_longPaths at h
  refine jt_iconst (v := (0 : Int32)) C dX6_longPaths_0 (by decide) ?_
  refine jt_istore_n (lv' := [(1, _), (0, _)]) C dX6_longPaths_1 rfl (by decide) rfl ?_
  refine jt_iconst (v := (1 : Int32)) C dX6_longPaths_2 (by decide) ?_
  refine jt_istore_n (lv' := [(2, _), (1, _), (0, _)]) C dX6_longPaths_3 rfl (by decide) rfl ?_
  obtain ⟨q5, eq5, h⟩ := jm_bind h
  refine jt_sub [2, 1, 0] rfl ?_
  refine t_X6_longPaths_L4 C n _ _ hr0 n _ _ eq5 ?_ _ _ rfl
  refine jt_iload_n C dX6_longPaths_56 rfl 1 rfl ?_
  refine jt_iconst (v := (3 : Int32)) C dX6_longPaths_57 (by decide) ?_
  refine jt_aload_n C dX6_longPaths_58 rfl 0 rfl ?_
  obtain ⟨x6, ex6, h⟩ := jm_bind h
  refine jt_callSi (As := [_]) (rest := [_, _]) C dX6_longPaths_59 (c_X6_triangles (jx_l X) k n _ _ hr0 _ ex6) (k_goodIn (g_RX6_27)) rfl h_X6_triangles ⟨rfl, rfl, Nat.le_of_ble_eq_true rfl, Nat.le_of_ble_eq_true rfl⟩ rfl rfl (Nat.le_of_ble_eq_true rfl) ?_
  refine jt_imul C dX6_longPaths_62 ?_
  refine jt_isub C dX6_longPaths_63 ?_
  cases h
  exact jt_iret C dX6_longPaths_64 hQ hr
theorem h_X6_paws : yX6_paws.cls ≠ "java/lang/invoke/MethodHandle" ∧ yX6_paws.cls ≠ "java/lang/invoke/VarHandle" ∧ (parseMethodDescriptor yX6_paws.desc).map (fun d => d.parameters.length) = some 1 := by decide +kernel
set_option maxHeartbeats 4000000 in
set_option maxRecDepth 100000 in
theorem t_X6_paws_L4 {X : jm_X} {k : jm_C} (C : jm_Cx X k cX6_paws 3 RX6 w_X6_paws) (n : Nat) (r0 : Nat) (M : jm_M) (hr0 : jm_is r0 (3, 4)) : ∀ (m : Nat) (s : Int32 × Int32) (r : Int32), jm_loop (X6_paws_B4 n r0 M) m s = some r → jm_T X { frames := 2, cells := 0, slots := 0, locals := 80 } k 3 M 38 [(1, .int r)] [] → (∀ (b0 : Int32) (b1 : Int32), s = (b0, b1) → jm_T X { frames := 2, cells := 0, slots := 0, locals := 80 } k 3 M 4 [(0, .ref (jm_ad k r0)), (1, .int b0), (2, .int b1)] []) := by
  refine jm_loop_ind (P := fun (s : Int32 × Int32) => (∀ (b0 : Int32) (b1 : Int32), s = (b0, b1) → jm_T X { frames := 2, cells := 0, slots := 0, locals := 80 } k 3 M 4 [(0, .ref (jm_ad k r0)), (1, .int b0), (2, .int b1)] [])) (K := fun (r : Int32) => jm_T X { frames := 2, cells := 0, slots := 0, locals := 80 } k 3 M 38 [(1, .int r)] []) ?_
  intro s q h h1 h2
  intro b0 b1 hs
  subst hs
  unfold X6_paws_B4 at h
  try dsimp only at h
  refine jt_iload_n C dX6_paws_4 rfl 2 rfl ?_
  refine jt_aload_n C dX6_paws_5 rfl 0 rfl ?_
  refine jt_callVi (As := []) (rest := [_]) C hr0 rfl dX6_paws_6 (c_X4_size (jx_l X) k _ _ hr0 _ rfl) (k_goodIn (g_RX6_52)) rfl h_X4_size ⟨rfl, rfl, Nat.le_of_ble_eq_true rfl, Nat.le_of_ble_eq_true rfl⟩ rfl rfl (Nat.le_of_ble_eq_true rfl) ?_
  refine jt_icmp_ge (tgt := 38) C dX6_paws_9 (by decide) (fun c9 => ?_) (fun c9 => ?_)
  · replace h := jm_ift c9 h
    cases h
    exact jt_sub [1] rfl (h2 _ rfl)
  · replace h := jm_iff c9 h
    refine jt_iload_n C dX6_paws_12 rfl 1 rfl ?_
    refine jt_aload_n C dX6_paws_13 rfl 0 rfl ?_
    refine jt_aload_n C dX6_paws_14 rfl 0 rfl ?_
    refine jt_iload_n C dX6_paws_15 rfl 2 rfl ?_
    obtain ⟨x1, ex1, h⟩ := jm_bind h
    refine jt_callVi (As := [_]) (rest := [_, _]) C hr0 rfl dX6_paws_16 (c_X4_row (jx_l X) k _ _ _ hr0 _ ex1) (k_goodIn (g_RX6_48)) rfl h_X4_row ⟨rfl, rfl, Nat.le_of_ble_eq_true rfl, Nat.le_of_ble_eq_true rfl⟩ rfl rfl (Nat.le_of_ble_eq_true rfl) ?_
    obtain ⟨x2, ex2, h⟩ := jm_bind h
    refine jt_callVi (As := [_]) (rest := [_]) C hr0 rfl dX6_paws_19 (c_X4_edgesWithin (jx_l X) k n _ _ _ hr0 _ ex2) (k_goodIn (g_RX6_61)) rfl h_X4_edgesWithin ⟨rfl, rfl, Nat.le_of_ble_eq_true rfl, Nat.le_of_ble_eq_true rfl⟩ rfl rfl (Nat.le_of_ble_eq_true rfl) ?_
    refine jt_aload_n C dX6_paws_22 rfl 0 rfl ?_
    refine jt_iload_n C dX6_paws_23 rfl 2 rfl ?_
    obtain ⟨x3, ex3, h⟩ := jm_bind h
    refine jt_callVi (As := [_]) (rest := [_, _]) C hr0 rfl dX6_paws_24 (c_X4_degree (jx_l X) k _ _ _ hr0 _ ex3) (k_goodIn (g_RX6_55)) rfl h_X4_degree ⟨rfl, rfl, Nat.le_of_ble_eq_true rfl, Nat.le_of_ble_eq_true rfl⟩ rfl rfl (Nat.le_of_ble_eq_true rfl) ?_
    refine jt_iconst (v := (2 : Int32)) C dX6_paws_27 (by decide) ?_
    refine jt_isub C dX6_paws_28 ?_
    refine jt_imul C dX6_paws_29 ?_
    refine jt_iadd C dX6_paws_30 ?_
    refine jt_istore_n (lv' := [(1, _), (0, _), (2, _)]) C dX6_paws_31 rfl (by decide) rfl ?_
    refine jt_iinc (v := (1 : Int32)) (lv' := [(2, _), (1, _), (0, _)]) C dX6_paws_32 2 rfl (by decide) (by decide) rfl ?_
    refine jt_goto (tgt := 4) C dX6_paws_35 (by decide) ?_
    cases h
    exact jt_sub [2, 1, 0] rfl (h1 _ rfl _ _ rfl)
set_option maxHeartbeats 4000000 in
set_option maxRecDepth 100000 in
theorem c_X6_paws (l : Launch) (k : jm_C) (n : Nat) (r0 : Nat) (M : jm_M) (hr0 : jm_is r0 (3, 4)) (q : Int32) (h : X6_paws n r0 M = some q) : jm_Ci l k yX6_paws w_X6_paws { frames := 2, cells := 0, slots := 0, locals := 80 } [.ref (jm_ad k r0)] M q M := by
  refine jm_entry_i (cc := cX6_paws) (nL := 3) (ret := (some .int)) (by decide) rfl (Nat.le_of_ble_eq_true rfl) ?_
  intro X hX C hQ hr
  subst hX
  unfold X6_paws at h
  refine jt_iconst (v := (0 : Int32)) C dX6_paws_0 (by decide) ?_
  refine jt_istore_n (lv' := [(1, _), (0, _)]) C dX6_paws_1 rfl (by decide) rfl ?_
  refine jt_iconst (v := (0 : Int32)) C dX6_paws_2 (by decide) ?_
  refine jt_istore_n (lv' := [(2, _), (1, _), (0, _)]) C dX6_paws_3 rfl (by decide) rfl ?_
  obtain ⟨q4, eq4, h⟩ := jm_bind h
  refine jt_sub [2, 1, 0] rfl ?_
  refine t_X6_paws_L4 C n _ _ hr0 n _ _ eq4 ?_ _ _ rfl
  refine jt_iload_n C dX6_paws_38 rfl 0 rfl ?_
  cases h
  exact jt_iret C dX6_paws_39 hQ hr
theorem h_X6_squares : yX6_squares.cls ≠ "java/lang/invoke/MethodHandle" ∧ yX6_squares.cls ≠ "java/lang/invoke/VarHandle" ∧ (parseMethodDescriptor yX6_squares.desc).map (fun d => d.parameters.length) = some 1 := by decide +kernel
set_option maxHeartbeats 4000000 in
set_option maxRecDepth 100000 in
theorem t_X6_squares_L14 {X : jm_X} {k : jm_C} (C : jm_Cx X k cX6_squares 4 RX6 w_X6_squares) (r0 : Nat) (v2 : Int32) (M : jm_M) (hr0 : jm_is r0 (3, 4)) : ∀ (m : Nat) (s : Int32 × Int32) (r : Int32), jm_loop (X6_squares_B14 r0 v2 M) m s = some r → jm_T X { frames := 2, cells := 0, slots := 0, locals := 80 } k 4 M 40 [(0, .ref (jm_ad k r0)), (1, .int r), (2, .int v2)] [] → (∀ (b0 : Int32) (b1 : Int32), s = (b0, b1) → jm_T X { frames := 2, cells := 0, slots := 0, locals := 80 } k 4 M 14 [(0, .ref (jm_ad k r0)), (1, .int b0), (2, .int v2), (3, .int b1)] []) := by
  refine jm_loop_ind (P := fun (s : Int32 × Int32) => (∀ (b0 : Int32) (b1 : Int32), s = (b0, b1) → jm_T X { frames := 2, cells := 0, slots := 0, locals := 80 } k 4 M 14 [(0, .ref (jm_ad k r0)), (1, .int b0), (2, .int v2), (3, .int b1)] [])) (K := fun (r : Int32) => jm_T X { frames := 2, cells := 0, slots := 0, locals := 80 } k 4 M 40 [(0, .ref (jm_ad k r0)), (1, .int r), (2, .int v2)] []) ?_
  intro s q h h1 h2
  intro b0 b1 hs
  subst hs
  unfold X6_squares_B14 at h
  try dsimp only at h
  refine jt_iload_n C dX6_squares_14 rfl 3 rfl ?_
  refine jt_iload_n C dX6_squares_15 rfl 2 rfl ?_
  refine jt_icmp_ge (tgt := 40) C dX6_squares_16 (by decide) (fun c16 => ?_) (fun c16 => ?_)
  · replace h := jm_ift c16 h
    cases h
    exact jt_sub [0, 1, 2] rfl (h2 _ rfl)
  · replace h := jm_iff c16 h
    refine jt_iload_n C dX6_squares_19 rfl 1 rfl ?_
    refine jt_aload_n C dX6_squares_20 rfl 0 rfl ?_
    refine jt_iload_n C dX6_squares_21 rfl 3 rfl ?_
    refine jt_iload_n C dX6_squares_22 rfl 2 rfl ?_
    obtain ⟨x1, ex1, h⟩ := jm_bind h
    refine jt_callSi (As := [_, _, _]) (rest := [_]) C dX6_squares_23 (c_X6_common (jx_l X) k _ _ _ _ hr0 _ ex1) (k_goodIn (g_RX6_68)) rfl h_X6_common ⟨rfl, rfl, Nat.le_of_ble_eq_true rfl, Nat.le_of_ble_eq_true rfl⟩ rfl rfl (Nat.le_of_ble_eq_true rfl) ?_
    refine jt_callSi (As := [_]) (rest := [_]) C dX6_squares_26 (c_J6_bitCount_0f7a4 (jx_l X) k _ _ _ rfl) (k_goodIn (g_RX6_72)) rfl h_J6_bitCount_0f7a4 ⟨rfl, rfl, Nat.le_of_ble_eq_true rfl, Nat.le_of_ble_eq_true rfl⟩ rfl rfl (Nat.le_of_ble_eq_true rfl) ?_
    refine jt_callSi (As := [_]) (rest := [_]) C dX6_squares_29 (c_X6_pairs (jx_l X) k _ _ _ rfl) (k_goodIn (g_RX6_58)) rfl h_X6_pairs ⟨rfl, rfl, Nat.le_of_ble_eq_true rfl, Nat.le_of_ble_eq_true rfl⟩ rfl rfl (Nat.le_of_ble_eq_true rfl) ?_
    refine jt_iadd C dX6_squares_32 ?_
    refine jt_istore_n (lv' := [(1, _), (0, _), (2, _), (3, _)]) C dX6_squares_33 rfl (by decide) rfl ?_
    refine jt_iinc (v := (1 : Int32)) (lv' := [(3, _), (1, _), (0, _), (2, _)]) C dX6_squares_34 3 rfl (by decide) (by decide) rfl ?_
    refine jt_goto (tgt := 14) C dX6_squares_37 (by decide) ?_
    cases h
    exact jt_sub [2, 1, 3, 0] rfl (h1 _ rfl _ _ rfl)
set_option maxHeartbeats 4000000 in
set_option maxRecDepth 100000 in
theorem t_X6_squares_L4 {X : jm_X} {k : jm_C} (C : jm_Cx X k cX6_squares 4 RX6 w_X6_squares) (n : Nat) (r0 : Nat) (M : jm_M) (hr0 : jm_is r0 (3, 4)) : ∀ (m : Nat) (s : Int32 × Int32) (r : Int32), jm_loop (X6_squares_B4 n r0 M) m s = some r → jm_T X { frames := 2, cells := 0, slots := 0, locals := 80 } k 4 M 46 [(1, .int r)] [] → (∀ (b0 : Int32) (b1 : Int32), s = (b0, b1) → jm_T X { frames := 2, cells := 0, slots := 0, locals := 80 } k 4 M 4 [(0, .ref (jm_ad k r0)), (1, .int b0), (2, .int b1)] []) := by
  refine jm_loop_ind (P := fun (s : Int32 × Int32) => (∀ (b0 : Int32) (b1 : Int32), s = (b0, b1) → jm_T X { frames := 2, cells := 0, slots := 0, locals := 80 } k 4 M 4 [(0, .ref (jm_ad k r0)), (1, .int b0), (2, .int b1)] [])) (K := fun (r : Int32) => jm_T X { frames := 2, cells := 0, slots := 0, locals := 80 } k 4 M 46 [(1, .int r)] []) ?_
  intro s q h h1 h2
  intro b0 b1 hs
  subst hs
  unfold X6_squares_B4 at h
  try dsimp only at h
  refine jt_iload_n C dX6_squares_4 rfl 2 rfl ?_
  refine jt_aload_n C dX6_squares_5 rfl 0 rfl ?_
  refine jt_callVi (As := []) (rest := [_]) C hr0 rfl dX6_squares_6 (c_X4_size (jx_l X) k _ _ hr0 _ rfl) (k_goodIn (g_RX6_52)) rfl h_X4_size ⟨rfl, rfl, Nat.le_of_ble_eq_true rfl, Nat.le_of_ble_eq_true rfl⟩ rfl rfl (Nat.le_of_ble_eq_true rfl) ?_
  refine jt_icmp_ge (tgt := 46) C dX6_squares_9 (by decide) (fun c9 => ?_) (fun c9 => ?_)
  · replace h := jm_ift c9 h
    cases h
    exact jt_sub [1] rfl (h2 _ rfl)
  · replace h := jm_iff c9 h
    refine jt_iconst (v := (0 : Int32)) C dX6_squares_12 (by decide) ?_
    refine jt_istore_n (lv' := [(3, _), (0, _), (1, _), (2, _)]) C dX6_squares_13 rfl (by decide) rfl ?_
    obtain ⟨q2, eq2, h⟩ := jm_bind h
    refine jt_sub [1, 2, 3, 0] rfl ?_
    refine t_X6_squares_L14 C _ _ _ hr0 n _ _ eq2 ?_ _ _ rfl
    refine jt_iinc (v := (1 : Int32)) (lv' := [(2, _), (0, _), (1, _)]) C dX6_squares_40 2 rfl (by decide) (by decide) rfl ?_
    refine jt_goto (tgt := 4) C dX6_squares_43 (by decide) ?_
    cases h
    exact jt_sub [1, 2, 0] rfl (h1 _ rfl _ _ rfl)
set_option maxHeartbeats 4000000 in
set_option maxRecDepth 100000 in
theorem c_X6_squares (l : Launch) (k : jm_C) (n : Nat) (r0 : Nat) (M : jm_M) (hr0 : jm_is r0 (3, 4)) (q : Int32) (h : X6_squares n r0 M = some q) : jm_Ci l k yX6_squares w_X6_squares { frames := 2, cells := 0, slots := 0, locals := 80 } [.ref (jm_ad k r0)] M q M := by
  refine jm_entry_i (cc := cX6_squares) (nL := 4) (ret := (some .int)) (by decide) rfl (Nat.le_of_ble_eq_true rfl) ?_
  intro X hX C hQ hr
  subst hX
  unfold X6_squares at h
  refine jt_iconst (v := (0 : Int32)) C dX6_squares_0 (by decide) ?_
  refine jt_istore_n (lv' := [(1, _), (0, _)]) C dX6_squares_1 rfl (by decide) rfl ?_
  refine jt_iconst (v := (1 : Int32)) C dX6_squares_2 (by decide) ?_
  refine jt_istore_n (lv' := [(2, _), (1, _), (0, _)]) C dX6_squares_3 rfl (by decide) rfl ?_
  obtain ⟨q3, eq3, h⟩ := jm_bind h
  refine jt_sub [2, 1, 0] rfl ?_
  refine t_X6_squares_L4 C n _ _ hr0 n _ _ eq3 ?_ _ _ rfl
  refine jt_iload_n C dX6_squares_46 rfl 0 rfl ?_
  refine jt_iconst (v := (2 : Int32)) C dX6_squares_47 (by decide) ?_
  refine jt_idiv C dX6_squares_48 (if_neg (by decide)) ?_
  cases h
  exact jt_iret C dX6_squares_49 hQ hr
theorem h_X6_tetrahedra : yX6_tetrahedra.cls ≠ "java/lang/invoke/MethodHandle" ∧ yX6_tetrahedra.cls ≠ "java/lang/invoke/VarHandle" ∧ (parseMethodDescriptor yX6_tetrahedra.desc).map (fun d => d.parameters.length) = some 1 := by decide +kernel
set_option maxHeartbeats 4000000 in
set_option maxRecDepth 100000 in
theorem t_X6_tetrahedra_L14 {X : jm_X} {k : jm_C} (C : jm_Cx X k cX6_tetrahedra 4 RX6 w_X6_tetrahedra) (n : Nat) (r0 : Nat) (v2 : Int32) (M : jm_M) (hr0 : jm_is r0 (3, 4)) : ∀ (m : Nat) (s : Int32 × Int32) (r : Int32), jm_loop (X6_tetrahedra_B14 n r0 v2 M) m s = some r → jm_T X { frames := 2, cells := 0, slots := 0, locals := 80 } k 4 M 45 [(0, .ref (jm_ad k r0)), (1, .int r), (2, .int v2)] [] → (∀ (b0 : Int32) (b1 : Int32), s = (b0, b1) → jm_T X { frames := 2, cells := 0, slots := 0, locals := 80 } k 4 M 14 [(0, .ref (jm_ad k r0)), (1, .int b0), (2, .int v2), (3, .int b1)] []) := by
  refine jm_loop_ind (P := fun (s : Int32 × Int32) => (∀ (b0 : Int32) (b1 : Int32), s = (b0, b1) → jm_T X { frames := 2, cells := 0, slots := 0, locals := 80 } k 4 M 14 [(0, .ref (jm_ad k r0)), (1, .int b0), (2, .int v2), (3, .int b1)] [])) (K := fun (r : Int32) => jm_T X { frames := 2, cells := 0, slots := 0, locals := 80 } k 4 M 45 [(0, .ref (jm_ad k r0)), (1, .int r), (2, .int v2)] []) ?_
  intro s q h h1 h2
  intro b0 b1 hs
  subst hs
  unfold X6_tetrahedra_B14 at h
  try dsimp only at h
  refine jt_iload_n C dX6_tetrahedra_14 rfl 3 rfl ?_
  refine jt_iload_n C dX6_tetrahedra_15 rfl 2 rfl ?_
  refine jt_icmp_ge (tgt := 45) C dX6_tetrahedra_16 (by decide) (fun c16 => ?_) (fun c16 => ?_)
  · replace h := jm_ift c16 h
    cases h
    exact jt_sub [0, 1, 2] rfl (h2 _ rfl)
  · replace h := jm_iff c16 h
    refine jt_iload_n C dX6_tetrahedra_19 rfl 1 rfl ?_
    refine jt_aload_n C dX6_tetrahedra_20 rfl 0 rfl ?_
    refine jt_iload_n C dX6_tetrahedra_21 rfl 3 rfl ?_
    refine jt_iload_n C dX6_tetrahedra_22 rfl 2 rfl ?_
    obtain ⟨x1, ex1, h⟩ := jm_bind h
    refine jt_callVi (As := [_, _]) (rest := [_]) C hr0 rfl dX6_tetrahedra_23 (c_X4_link (jx_l X) k _ _ _ _ hr0 _ ex1) (k_goodIn (g_RX6_64)) rfl h_X4_link ⟨rfl, rfl, Nat.le_of_ble_eq_true rfl, Nat.le_of_ble_eq_true rfl⟩ rfl rfl (Nat.le_of_ble_eq_true rfl) ?_
    refine jt_aload_n C dX6_tetrahedra_26 rfl 0 rfl ?_
    refine jt_aload_n C dX6_tetrahedra_27 rfl 0 rfl ?_
    refine jt_iload_n C dX6_tetrahedra_28 rfl 3 rfl ?_
    refine jt_iload_n C dX6_tetrahedra_29 rfl 2 rfl ?_
    obtain ⟨x2, ex2, h⟩ := jm_bind h
    refine jt_callSi (As := [_, _, _]) (rest := [_, _, _]) C dX6_tetrahedra_30 (c_X6_common (jx_l X) k _ _ _ _ hr0 _ ex2) (k_goodIn (g_RX6_68)) rfl h_X6_common ⟨rfl, rfl, Nat.le_of_ble_eq_true rfl, Nat.le_of_ble_eq_true rfl⟩ rfl rfl (Nat.le_of_ble_eq_true rfl) ?_
    obtain ⟨x3, ex3, h⟩ := jm_bind h
    refine jt_callVi (As := [_]) (rest := [_, _]) C hr0 rfl dX6_tetrahedra_33 (c_X4_edgesWithin (jx_l X) k n _ _ _ hr0 _ ex3) (k_goodIn (g_RX6_61)) rfl h_X4_edgesWithin ⟨rfl, rfl, Nat.le_of_ble_eq_true rfl, Nat.le_of_ble_eq_true rfl⟩ rfl rfl (Nat.le_of_ble_eq_true rfl) ?_
    refine jt_imul C dX6_tetrahedra_36 ?_
    refine jt_iadd C dX6_tetrahedra_37 ?_
    refine jt_istore_n (lv' := [(1, _), (0, _), (2, _), (3, _)]) C dX6_tetrahedra_38 rfl (by decide) rfl ?_
    refine jt_iinc (v := (1 : Int32)) (lv' := [(3, _), (1, _), (0, _), (2, _)]) C dX6_tetrahedra_39 3 rfl (by decide) (by decide) rfl ?_
    refine jt_goto (tgt := 14) C dX6_tetrahedra_42 (by decide) ?_
    cases h
    exact jt_sub [2, 1, 3, 0] rfl (h1 _ rfl _ _ rfl)
set_option maxHeartbeats 4000000 in
set_option maxRecDepth 100000 in
theorem t_X6_tetrahedra_L4 {X : jm_X} {k : jm_C} (C : jm_Cx X k cX6_tetrahedra 4 RX6 w_X6_tetrahedra) (n : Nat) (r0 : Nat) (M : jm_M) (hr0 : jm_is r0 (3, 4)) : ∀ (m : Nat) (s : Int32 × Int32) (r : Int32), jm_loop (X6_tetrahedra_B4 n r0 M) m s = some r → jm_T X { frames := 2, cells := 0, slots := 0, locals := 80 } k 4 M 51 [(1, .int r)] [] → (∀ (b0 : Int32) (b1 : Int32), s = (b0, b1) → jm_T X { frames := 2, cells := 0, slots := 0, locals := 80 } k 4 M 4 [(0, .ref (jm_ad k r0)), (1, .int b0), (2, .int b1)] []) := by
  refine jm_loop_ind (P := fun (s : Int32 × Int32) => (∀ (b0 : Int32) (b1 : Int32), s = (b0, b1) → jm_T X { frames := 2, cells := 0, slots := 0, locals := 80 } k 4 M 4 [(0, .ref (jm_ad k r0)), (1, .int b0), (2, .int b1)] [])) (K := fun (r : Int32) => jm_T X { frames := 2, cells := 0, slots := 0, locals := 80 } k 4 M 51 [(1, .int r)] []) ?_
  intro s q h h1 h2
  intro b0 b1 hs
  subst hs
  unfold X6_tetrahedra_B4 at h
  try dsimp only at h
  refine jt_iload_n C dX6_tetrahedra_4 rfl 2 rfl ?_
  refine jt_aload_n C dX6_tetrahedra_5 rfl 0 rfl ?_
  refine jt_callVi (As := []) (rest := [_]) C hr0 rfl dX6_tetrahedra_6 (c_X4_size (jx_l X) k _ _ hr0 _ rfl) (k_goodIn (g_RX6_52)) rfl h_X4_size ⟨rfl, rfl, Nat.le_of_ble_eq_true rfl, Nat.le_of_ble_eq_true rfl⟩ rfl rfl (Nat.le_of_ble_eq_true rfl) ?_
  refine jt_icmp_ge (tgt := 51) C dX6_tetrahedra_9 (by decide) (fun c9 => ?_) (fun c9 => ?_)
  · replace h := jm_ift c9 h
    cases h
    exact jt_sub [1] rfl (h2 _ rfl)
  · replace h := jm_iff c9 h
    refine jt_iconst (v := (0 : Int32)) C dX6_tetrahedra_12 (by decide) ?_
    refine jt_istore_n (lv' := [(3, _), (0, _), (1, _), (2, _)]) C dX6_tetrahedra_13 rfl (by decide) rfl ?_
    obtain ⟨q4, eq4, h⟩ := jm_bind h
    refine jt_sub [1, 2, 3, 0] rfl ?_
    refine t_X6_tetrahedra_L14 C n _ _ _ hr0 n _ _ eq4 ?_ _ _ rfl
    refine jt_iinc (v := (1 : Int32)) (lv' := [(2, _), (0, _), (1, _)]) C dX6_tetrahedra_45 2 rfl (by decide) (by decide) rfl ?_
    refine jt_goto (tgt := 4) C dX6_tetrahedra_48 (by decide) ?_
    cases h
    exact jt_sub [1, 2, 0] rfl (h1 _ rfl _ _ rfl)
set_option maxHeartbeats 4000000 in
set_option maxRecDepth 100000 in
theorem c_X6_tetrahedra (l : Launch) (k : jm_C) (n : Nat) (r0 : Nat) (M : jm_M) (hr0 : jm_is r0 (3, 4)) (q : Int32) (h : X6_tetrahedra n r0 M = some q) : jm_Ci l k yX6_tetrahedra w_X6_tetrahedra { frames := 2, cells := 0, slots := 0, locals := 80 } [.ref (jm_ad k r0)] M q M := by
  refine jm_entry_i (cc := cX6_tetrahedra) (nL := 4) (ret := (some .int)) (by decide) rfl (Nat.le_of_ble_eq_true rfl) ?_
  intro X hX C hQ hr
  subst hX
  unfold X6_tetrahedra at h
  refine jt_iconst (v := (0 : Int32)) C dX6_tetrahedra_0 (by decide) ?_
  refine jt_istore_n (lv' := [(1, _), (0, _)]) C dX6_tetrahedra_1 rfl (by decide) rfl ?_
  refine jt_iconst (v := (1 : Int32)) C dX6_tetrahedra_2 (by decide) ?_
  refine jt_istore_n (lv' := [(2, _), (1, _), (0, _)]) C dX6_tetrahedra_3 rfl (by decide) rfl ?_
  obtain ⟨q5, eq5, h⟩ := jm_bind h
  refine jt_sub [2, 1, 0] rfl ?_
  refine t_X6_tetrahedra_L4 C n _ _ hr0 n _ _ eq5 ?_ _ _ rfl
  refine jt_iload_n C dX6_tetrahedra_51 rfl 0 rfl ?_
  refine jt_bipush (v := (6 : Int32)) C dX6_tetrahedra_52 (by decide) ?_
  refine jt_idiv C dX6_tetrahedra_54 (if_neg (by decide)) ?_
  cases h
  exact jt_iret C dX6_tetrahedra_55 hQ hr
theorem h_X6_count : yX6_count.cls ≠ "java/lang/invoke/MethodHandle" ∧ yX6_count.cls ≠ "java/lang/invoke/VarHandle" ∧ (parseMethodDescriptor yX6_count.desc).map (fun d => d.parameters.length) = some 2 := by decide +kernel
set_option maxHeartbeats 4000000 in
set_option maxRecDepth 100000 in
theorem c_X6_count (l : Launch) (k : jm_C) (n : Nat) (r0 : Nat) (v1 : Int32) (M : jm_M) (hr0 : jm_is r0 (3, 4)) (q : Int32) (h : X6_count n r0 v1 M = some q) : jm_Ci l k yX6_count w_X6_count { frames := 4, cells := 0, slots := 0, locals := 160 } [.ref (jm_ad k r0), .int v1] M q M := by
  refine jm_entry_i (cc := cX6_count) (nL := 2) (ret := (some .int)) (by decide) rfl (Nat.le_of_ble_eq_true rfl) ?_
  intro X hX C hQ hr
  subst hX
  unfold X6_count at h
  refine jt_iload_n C dX6_count_0 rfl 1 rfl ?_
  by_cases c1_0 : v1 = (0 : Int32)
  · replace h := jm_ift c1_0 h
    refine jt_tblIn (v := 0) (tgt := 52) C dX6_count_1 c1_0 (by decide) (by decide) rfl (by decide) ?_
    refine jt_aload_n C dX6_count_52 rfl 0 rfl ?_
    obtain ⟨x1, ex1, h⟩ := jm_bind h
    refine jt_callVi (As := []) (rest := []) C hr0 rfl dX6_count_53 (c_X4_edges (jx_l X) k n _ _ hr0 _ ex1) (k_goodIn (g_RX6_17)) rfl h_X4_edges ⟨rfl, rfl, Nat.le_of_ble_eq_true rfl, Nat.le_of_ble_eq_true rfl⟩ rfl rfl (Nat.le_of_ble_eq_true rfl) ?_
    cases h
    exact jt_iret C dX6_count_56 hQ hr
  replace h := jm_iff c1_0 h
  by_cases c1_1 : v1 = (1 : Int32)
  · replace h := jm_ift c1_1 h
    refine jt_tblIn (v := 1) (tgt := 57) C dX6_count_1 c1_1 (by decide) (by decide) rfl (by decide) ?_
    refine jt_aload_n C dX6_count_57 rfl 0 rfl ?_
    obtain ⟨x2, ex2, h⟩ := jm_bind h
    refine jt_callSi (As := [_]) (rest := []) C dX6_count_58 (c_X6_cherries (jx_l X) k n _ _ hr0 _ ex2) (k_goodIn (g_RX6_23)) rfl h_X6_cherries ⟨rfl, rfl, Nat.le_of_ble_eq_true rfl, Nat.le_of_ble_eq_true rfl⟩ rfl rfl (Nat.le_of_ble_eq_true rfl) ?_
    cases h
    exact jt_iret C dX6_count_61 hQ hr
  replace h := jm_iff c1_1 h
  by_cases c1_2 : v1 = (2 : Int32)
  · replace h := jm_ift c1_2 h
    refine jt_tblIn (v := 2) (tgt := 62) C dX6_count_1 c1_2 (by decide) (by decide) rfl (by decide) ?_
    refine jt_aload_n C dX6_count_62 rfl 0 rfl ?_
    obtain ⟨x3, ex3, h⟩ := jm_bind h
    refine jt_callSi (As := [_]) (rest := []) C dX6_count_63 (c_X6_triangles (jx_l X) k n _ _ hr0 _ ex3) (k_goodIn (g_RX6_27)) rfl h_X6_triangles ⟨rfl, rfl, Nat.le_of_ble_eq_true rfl, Nat.le_of_ble_eq_true rfl⟩ rfl rfl (Nat.le_of_ble_eq_true rfl) ?_
    cases h
    exact jt_iret C dX6_count_66 hQ hr
  replace h := jm_iff c1_2 h
  by_cases c1_3 : v1 = (3 : Int32)
  · replace h := jm_ift c1_3 h
    refine jt_tblIn (v := 3) (tgt := 67) C dX6_count_1 c1_3 (by decide) (by decide) rfl (by decide) ?_
    refine jt_aload_n C dX6_count_67 rfl 0 rfl ?_
    obtain ⟨x4, ex4, h⟩ := jm_bind h
    refine jt_callSi (As := [_]) (rest := []) C dX6_count_68 (c_X6_claws (jx_l X) k n _ _ hr0 _ ex4) (k_goodIn (g_RX6_30)) rfl h_X6_claws ⟨rfl, rfl, Nat.le_of_ble_eq_true rfl, Nat.le_of_ble_eq_true rfl⟩ rfl rfl (Nat.le_of_ble_eq_true rfl) ?_
    cases h
    exact jt_iret C dX6_count_71 hQ hr
  replace h := jm_iff c1_3 h
  by_cases c1_4 : v1 = (4 : Int32)
  · replace h := jm_ift c1_4 h
    refine jt_tblIn (v := 4) (tgt := 72) C dX6_count_1 c1_4 (by decide) (by decide) rfl (by decide) ?_
    refine jt_aload_n C dX6_count_72 rfl 0 rfl ?_
    obtain ⟨x5, ex5, h⟩ := jm_bind h
    refine jt_callSi (As := [_]) (rest := []) C dX6_count_73 (c_X6_longPaths (jx_l X) k n _ _ hr0 _ ex5) (k_goodIn (g_RX6_33)) rfl h_X6_longPaths ⟨rfl, rfl, Nat.le_of_ble_eq_true rfl, Nat.le_of_ble_eq_true rfl⟩ rfl rfl (Nat.le_of_ble_eq_true rfl) ?_
    cases h
    exact jt_iret C dX6_count_76 hQ hr
  replace h := jm_iff c1_4 h
  by_cases c1_5 : v1 = (5 : Int32)
  · replace h := jm_ift c1_5 h
    refine jt_tblIn (v := 5) (tgt := 77) C dX6_count_1 c1_5 (by decide) (by decide) rfl (by decide) ?_
    refine jt_aload_n C dX6_count_77 rfl 0 rfl ?_
    obtain ⟨x6, ex6, h⟩ := jm_bind h
    refine jt_callSi (As := [_]) (rest := []) C dX6_count_78 (c_X6_squares (jx_l X) k n _ _ hr0 _ ex6) (k_goodIn (g_RX6_36)) rfl h_X6_squares ⟨rfl, rfl, Nat.le_of_ble_eq_true rfl, Nat.le_of_ble_eq_true rfl⟩ rfl rfl (Nat.le_of_ble_eq_true rfl) ?_
    cases h
    exact jt_iret C dX6_count_81 hQ hr
  replace h := jm_iff c1_5 h
  by_cases c1_6 : v1 = (6 : Int32)
  · replace h := jm_ift c1_6 h
    refine jt_tblIn (v := 6) (tgt := 82) C dX6_count_1 c1_6 (by decide) (by decide) rfl (by decide) ?_
    refine jt_aload_n C dX6_count_82 rfl 0 rfl ?_
    obtain ⟨x7, ex7, h⟩ := jm_bind h
    refine jt_callSi (As := [_]) (rest := []) C dX6_count_83 (c_X6_paws (jx_l X) k n _ _ hr0 _ ex7) (k_goodIn (g_RX6_39)) rfl h_X6_paws ⟨rfl, rfl, Nat.le_of_ble_eq_true rfl, Nat.le_of_ble_eq_true rfl⟩ rfl rfl (Nat.le_of_ble_eq_true rfl) ?_
    cases h
    exact jt_iret C dX6_count_86 hQ hr
  replace h := jm_iff c1_6 h
  by_cases c1_7 : v1 = (7 : Int32)
  · replace h := jm_ift c1_7 h
    refine jt_tblIn (v := 7) (tgt := 87) C dX6_count_1 c1_7 (by decide) (by decide) rfl (by decide) ?_
    refine jt_aload_n C dX6_count_87 rfl 0 rfl ?_
    obtain ⟨x8, ex8, h⟩ := jm_bind h
    refine jt_callSi (As := [_]) (rest := []) C dX6_count_88 (c_X6_diamonds (jx_l X) k n _ _ hr0 _ ex8) (k_goodIn (g_RX6_42)) rfl h_X6_diamonds ⟨rfl, rfl, Nat.le_of_ble_eq_true rfl, Nat.le_of_ble_eq_true rfl⟩ rfl rfl (Nat.le_of_ble_eq_true rfl) ?_
    cases h
    exact jt_iret C dX6_count_91 hQ hr
  replace h := jm_iff c1_7 h
  by_cases c1_8 : v1 = (8 : Int32)
  · replace h := jm_ift c1_8 h
    refine jt_tblIn (v := 8) (tgt := 92) C dX6_count_1 c1_8 (by decide) (by decide) rfl (by decide) ?_
    refine jt_aload_n C dX6_count_92 rfl 0 rfl ?_
    obtain ⟨x9, ex9, h⟩ := jm_bind h
    refine jt_callSi (As := [_]) (rest := []) C dX6_count_93 (c_X6_tetrahedra (jx_l X) k n _ _ hr0 _ ex9) (k_goodIn (g_RX6_45)) rfl h_X6_tetrahedra ⟨rfl, rfl, Nat.le_of_ble_eq_true rfl, Nat.le_of_ble_eq_true rfl⟩ rfl rfl (Nat.le_of_ble_eq_true rfl) ?_
    cases h
    exact jt_iret C dX6_count_96 hQ hr
  replace h := jm_iff c1_8 h
  refine jt_tblOut (tgt := 97) C dX6_count_1 (by have a0 := jm_nei 0 c1_0; simp at a0; have a1 := jm_nei 1 c1_1; simp at a1; have a2 := jm_nei 2 c1_2; simp at a2; have a3 := jm_nei 3 c1_3; simp at a3; have a4 := jm_nei 4 c1_4; simp at a4; have a5 := jm_nei 5 c1_5; simp at a5; have a6 := jm_nei 6 c1_6; simp at a6; have a7 := jm_nei 7 c1_7; simp at a7; have a8 := jm_nei 8 c1_8; simp at a8; omega) (by decide) ?_
  refine jt_iconst (v := (0 : Int32)) C dX6_count_97 (by decide) ?_
  cases h
  exact jt_iret C dX6_count_98 hQ hr
theorem h_X6_isPattern : yX6_isPattern.cls ≠ "java/lang/invoke/MethodHandle" ∧ yX6_isPattern.cls ≠ "java/lang/invoke/VarHandle" ∧ (parseMethodDescriptor yX6_isPattern.desc).map (fun d => d.parameters.length) = some 1 := by decide +kernel
set_option maxHeartbeats 4000000 in
set_option maxRecDepth 100000 in
theorem c_X6_isPattern (l : Launch) (k : jm_C) (v0 : Int32) (M : jm_M)  (q : Int32) (h : X6_isPattern v0 = q) : jm_Ci l k yX6_isPattern w_X6_isPattern { frames := 0, cells := 0, slots := 0, locals := 0 } [.int v0] M q M := by
  refine jm_entry_i (cc := cX6_isPattern) (nL := 1) (ret := (some .boolean)) (by decide) rfl (Nat.le_of_ble_eq_true rfl) ?_
  intro X hX C hQ hr
  subst hX
  unfold X6_isPattern at h
  refine jt_iload_n C dX6_isPattern_0 rfl 0 rfl ?_
  refine jt_if_lt (tgt := 16) C dX6_isPattern_1 (by decide) (fun c1 => ?_) (fun c1 => ?_)
  · replace h := jm_ift c1 h
    refine jt_iconst (v := (0 : Int32)) C dX6_isPattern_16 (by decide) ?_
    subst h
    exact jt_zret C dX6_isPattern_17 hQ hr (Or.inl rfl)
  · replace h := jm_iff c1 h
    refine jt_iload_n C dX6_isPattern_4 rfl 0 rfl ?_
    refine jt_gets C dX6_isPattern_5 (List.mem_cons_of_mem _ k_fl_RX6_7) ?_
    refine jt_tlen C dX6_isPattern_8 ?_
    refine jt_icmp_ge (tgt := 16) C dX6_isPattern_9 (by decide) (fun c9 => ?_) (fun c9 => ?_)
    · replace h := jm_ift c9 h
      refine jt_iconst (v := (0 : Int32)) C dX6_isPattern_16 (by decide) ?_
      subst h
      exact jt_zret C dX6_isPattern_17 hQ hr (Or.inl rfl)
    · replace h := jm_iff c9 h
      refine jt_iconst (v := (1 : Int32)) C dX6_isPattern_12 (by decide) ?_
      refine jt_goto (tgt := 17) C dX6_isPattern_13 (by decide) ?_
      subst h
      exact jt_zret C dX6_isPattern_17 hQ hr (Or.inr rfl)
theorem h_X8_copies : yX8_copies.cls = RX8 ∧ yX8_copies.cls ≠ "java/lang/invoke/MethodHandle" ∧ yX8_copies.cls ≠ "java/lang/invoke/VarHandle" ∧ (parseMethodDescriptor yX8_copies.desc).map (fun d => d.parameters.length) = some 1 := by decide +kernel
set_option maxHeartbeats 4000000 in
set_option maxRecDepth 100000 in
theorem c_X8_copies (l : Launch) (k : jm_C) (n : Nat) (r0 : Nat) (v1 : Int32) (M : jm_M) (hr0 : jm_is r0 (3, 7)) (q : Int32) (h : X8_copies n r0 v1 M = some q) : jm_Ci l k yX8_copies w_X8_copies { frames := 5, cells := 0, slots := 0, locals := 200 } [.ref (jm_ad k r0), .int v1] M q M := by
  refine jm_entry_i (cc := cX8_copies) (nL := 2) (ret := (some .int)) (by decide) rfl (Nat.le_of_ble_eq_true rfl) ?_
  intro X hX C hQ hr
  subst hX
  unfold X8_copies at h
  refine jt_iload_n C dX8_copies_0 rfl 1 rfl ?_
  refine jt_callSi (As := [_]) (rest := []) C dX8_copies_1 (c_X6_isPattern (jx_l X) k _ _ _ rfl) (k_goodIn (g_RX8_142)) rfl h_X6_isPattern ⟨rfl, rfl, Nat.le_of_ble_eq_true rfl, Nat.le_of_ble_eq_true rfl⟩ rfl rfl (Nat.le_of_ble_eq_true rfl) ?_
  refine jt_if_eq (tgt := 18) C dX8_copies_4 (by decide) (fun c4 => ?_) (fun c4 => ?_)
  · replace h := jm_ift c4 h
    refine jt_iconst (v := (-1 : Int32)) C dX8_copies_18 (by decide) ?_
    cases h
    exact jt_iret C dX8_copies_19 hQ hr
  · replace h := jm_iff c4 h
    refine jt_aload_n C dX8_copies_7 rfl 0 rfl ?_
    refine jt_getR (Tf := TX8) (N := 8) C dX8_copies_8 hr0 rfl i_8 0 (by decide) rfl m_RX8_10 rfl ?_
    refine jt_iload_n C dX8_copies_11 rfl 1 rfl ?_
    obtain ⟨x1, ex1, h⟩ := jm_bind h
    refine jt_callSi (As := [_, _]) (rest := []) C dX8_copies_12 (c_X6_count (jx_l X) k n _ _ _ (jm_f7_0 hr0) _ ex1) (k_goodIn (g_RX8_147)) rfl h_X6_count ⟨rfl, rfl, Nat.le_of_ble_eq_true rfl, Nat.le_of_ble_eq_true rfl⟩ rfl rfl (Nat.le_of_ble_eq_true rfl) ?_
    refine jt_goto (tgt := 19) C dX8_copies_15 (by decide) ?_
    cases h
    exact jt_iret C dX8_copies_19 hQ hr
theorem h_X8_hold : yX8_hold.cls = RX8 ∧ yX8_hold.cls ≠ "java/lang/invoke/MethodHandle" ∧ yX8_hold.cls ≠ "java/lang/invoke/VarHandle" ∧ (parseMethodDescriptor yX8_hold.desc).map (fun d => d.parameters.length) = some 1 := by decide +kernel
set_option maxHeartbeats 4000000 in
set_option maxRecDepth 100000 in
theorem c_X8_hold (l : Launch) (k : jm_C) (n : Nat) (r0 : Nat) (v1 : Int32) (M : jm_M) (hr0 : jm_is r0 (3, 7)) (q1 : Int32) (q2 : jm_M) (h : X8_hold n r0 v1 M = some (q1, q2)) : jm_Ci l k yX8_hold w_X8_hold { frames := 3, cells := 0, slots := 0, locals := 120 } [.ref (jm_ad k r0), .int v1] M q1 q2 := by
  refine jm_entry_i (cc := cX8_hold) (nL := 3) (ret := (some .int)) (by decide) rfl (Nat.le_of_ble_eq_true rfl) ?_
  intro X hX C hQ hr
  subst hX
  unfold X8_hold at h
  refine jt_iload_n C dX8_hold_0 rfl 1 rfl ?_
  refine jt_iconst (v := (3 : Int32)) C dX8_hold_1 (by decide) ?_
  refine jt_icmp_lt (tgt := 11) C dX8_hold_2 (by decide) (fun c2 => ?_) (fun c2 => ?_)
  · replace h := jm_ift c2 h
    refine jt_iconst (v := (-1 : Int32)) C dX8_hold_11 (by decide) ?_
    cases h
    exact jt_iret C dX8_hold_12 hQ hr
  · replace h := jm_iff c2 h
    refine jt_iload_n C dX8_hold_5 rfl 1 rfl ?_
    refine jt_bipush (v := (6 : Int32)) C dX8_hold_6 (by decide) ?_
    refine jt_icmp_le (tgt := 13) C dX8_hold_8 (by decide) (fun c8 => ?_) (fun c8 => ?_)
    · replace h := jm_ift c8 h
      refine jt_aload_n C dX8_hold_13 rfl 0 rfl ?_
      refine jt_getR (Tf := TX8) (N := 8) C dX8_hold_14 hr0 rfl i_8 1 (by decide) rfl m_RX8_19 rfl ?_
      refine jt_callVi (As := []) (rest := []) C (jm_f7_1 hr0) rfl dX8_hold_17 (c_X3_size (jx_l X) k _ _ (jm_f7_1 hr0) _ rfl) (k_goodIn (g_RX8_150)) rfl h_X3_size ⟨rfl, rfl, Nat.le_of_ble_eq_true rfl, Nat.le_of_ble_eq_true rfl⟩ rfl rfl (Nat.le_of_ble_eq_true rfl) ?_
      refine jt_istore_n (lv' := [(2, _), (0, _), (1, _)]) C dX8_hold_20 rfl (by decide) rfl ?_
      refine jt_aload_n C dX8_hold_21 rfl 1 rfl ?_
      refine jt_getR (Tf := TX8) (N := 8) C dX8_hold_22 hr0 rfl i_8 2 (by decide) rfl m_RX8_26 rfl ?_
      refine jt_aload_n C dX8_hold_25 rfl 1 rfl ?_
      refine jt_getR (Tf := TX8) (N := 8) C dX8_hold_26 hr0 rfl i_8 0 (by decide) rfl m_RX8_10 rfl ?_
      refine jt_aload_n C dX8_hold_29 rfl 1 rfl ?_
      refine jt_getR (Tf := TX8) (N := 8) C dX8_hold_30 hr0 rfl i_8 1 (by decide) rfl m_RX8_19 rfl ?_
      obtain ⟨M1, eM1, h⟩ := jm_bind h
      refine jt_callVv (As := [_, _]) (rest := []) C (jm_f7_2 hr0) rfl dX8_hold_33 (c_X5_save (jx_l X) k n _ _ _ _ (jm_f7_2 hr0) (jm_f7_0 hr0) (jm_f7_1 hr0) _ eM1) (k_goodIn (g_RX8_65)) rfl h_X5_save ⟨rfl, rfl, Nat.le_of_ble_eq_true rfl, Nat.le_of_ble_eq_true rfl⟩ rfl rfl (Nat.le_of_ble_eq_true rfl) ?_
      refine jt_aload_n C dX8_hold_36 rfl 1 rfl ?_
      refine jt_getR (Tf := TX8) (N := 8) C dX8_hold_37 hr0 rfl i_8 1 (by decide) rfl m_RX8_19 rfl ?_
      refine jt_iload_n C dX8_hold_40 rfl 2 rfl ?_
      obtain ⟨M2, eM2, h⟩ := jm_bind h
      refine jt_callVv (As := [_]) (rest := []) C (jm_f7_1 hr0) rfl dX8_hold_41 (c_X3_start (jx_l X) k _ _ _ (jm_f7_1 hr0) _ eM2) (k_goodIn (g_RX8_151)) rfl h_X3_start ⟨rfl, rfl, Nat.le_of_ble_eq_true rfl, Nat.le_of_ble_eq_true rfl⟩ rfl rfl (Nat.le_of_ble_eq_true rfl) ?_
      refine jt_iload_n C dX8_hold_44 rfl 0 rfl ?_
      cases h
      exact jt_iret C dX8_hold_45 hQ hr
    · replace h := jm_iff c8 h
      refine jt_iconst (v := (-1 : Int32)) C dX8_hold_11 (by decide) ?_
      cases h
      exact jt_iret C dX8_hold_12 hQ hr
theorem h_X8_keepDeck : yX8_keepDeck.cls = RX8 ∧ yX8_keepDeck.cls ≠ "java/lang/invoke/MethodHandle" ∧ yX8_keepDeck.cls ≠ "java/lang/invoke/VarHandle" ∧ (parseMethodDescriptor yX8_keepDeck.desc).map (fun d => d.parameters.length) = some 0 := by decide +kernel
set_option maxHeartbeats 4000000 in
set_option maxRecDepth 100000 in
theorem c_X8_keepDeck (l : Launch) (k : jm_C) (n : Nat) (r0 : Nat) (M : jm_M) (hr0 : jm_is r0 (3, 7)) (q1 : Int32) (q2 : jm_M) (h : X8_keepDeck n r0 M = some (q1, q2)) : jm_Ci l k yX8_keepDeck w_X8_keepDeck { frames := 17, cells := 0, slots := 0, locals := 680 } [.ref (jm_ad k r0)] M q1 q2 := by
  refine jm_entry_i (cc := cX8_keepDeck) (nL := 1) (ret := (some .int)) (by decide) rfl (Nat.le_of_ble_eq_true rfl) ?_
  intro X hX C hQ hr
  subst hX
  unfold X8_keepDeck at h
  refine jt_aload_n C dX8_keepDeck_0 rfl 0 rfl ?_
  refine jt_getR (Tf := TX8) (N := 8) C dX8_keepDeck_1 hr0 rfl i_8 0 (by decide) rfl m_RX8_10 rfl ?_
  refine jt_callVi (As := []) (rest := []) C (jm_f7_0 hr0) rfl dX8_keepDeck_4 (c_X4_size (jx_l X) k _ _ (jm_f7_0 hr0) _ rfl) (k_goodIn (g_RX8_61)) rfl h_X4_size ⟨rfl, rfl, Nat.le_of_ble_eq_true rfl, Nat.le_of_ble_eq_true rfl⟩ rfl rfl (Nat.le_of_ble_eq_true rfl) ?_
  refine jt_iconst (v := (3 : Int32)) C dX8_keepDeck_7 (by decide) ?_
  refine jt_icmp_lt (tgt := 23) C dX8_keepDeck_8 (by decide) (fun c8 => ?_) (fun c8 => ?_)
  · replace h := jm_ift c8 h
    refine jt_bipush (v := (-2 : Int32)) C dX8_keepDeck_23 (by decide) ?_
    cases h
    exact jt_iret C dX8_keepDeck_25 hQ hr
  · replace h := jm_iff c8 h
    refine jt_aload_n C dX8_keepDeck_11 rfl 0 rfl ?_
    refine jt_getR (Tf := TX8) (N := 8) C dX8_keepDeck_12 hr0 rfl i_8 0 (by decide) rfl m_RX8_10 rfl ?_
    refine jt_callVi (As := []) (rest := []) C (jm_f7_0 hr0) rfl dX8_keepDeck_15 (c_X4_size (jx_l X) k _ _ (jm_f7_0 hr0) _ rfl) (k_goodIn (g_RX8_61)) rfl h_X4_size ⟨rfl, rfl, Nat.le_of_ble_eq_true rfl, Nat.le_of_ble_eq_true rfl⟩ rfl rfl (Nat.le_of_ble_eq_true rfl) ?_
    refine jt_bipush (v := (6 : Int32)) C dX8_keepDeck_18 (by decide) ?_
    refine jt_icmp_le (tgt := 26) C dX8_keepDeck_20 (by decide) (fun c20 => ?_) (fun c20 => ?_)
    · replace h := jm_ift c20 h
      refine jt_aload_n C dX8_keepDeck_26 rfl 0 rfl ?_
      refine jt_getR (Tf := TX8) (N := 8) C dX8_keepDeck_27 hr0 rfl i_8 2 (by decide) rfl m_RX8_26 rfl ?_
      refine jt_aload_n C dX8_keepDeck_30 rfl 0 rfl ?_
      refine jt_getR (Tf := TX8) (N := 8) C dX8_keepDeck_31 hr0 rfl i_8 0 (by decide) rfl m_RX8_10 rfl ?_
      refine jt_aload_n C dX8_keepDeck_34 rfl 0 rfl ?_
      refine jt_getR (Tf := TX8) (N := 8) C dX8_keepDeck_35 hr0 rfl i_8 1 (by decide) rfl m_RX8_19 rfl ?_
      obtain ⟨M1, eM1, h⟩ := jm_bind h
      refine jt_callVv (As := [_, _]) (rest := []) C (jm_f7_2 hr0) rfl dX8_keepDeck_38 (c_X5_save (jx_l X) k n _ _ _ _ (jm_f7_2 hr0) (jm_f7_0 hr0) (jm_f7_1 hr0) _ eM1) (k_goodIn (g_RX8_65)) rfl h_X5_save ⟨rfl, rfl, Nat.le_of_ble_eq_true rfl, Nat.le_of_ble_eq_true rfl⟩ rfl rfl (Nat.le_of_ble_eq_true rfl) ?_
      refine jt_aload_n C dX8_keepDeck_41 rfl 0 rfl ?_
      refine jt_getR (Tf := TX8) (N := 8) C dX8_keepDeck_42 hr0 rfl i_8 1 (by decide) rfl m_RX8_19 rfl ?_
      refine jt_aload_n C dX8_keepDeck_45 rfl 0 rfl ?_
      refine jt_getR (Tf := TX8) (N := 8) C dX8_keepDeck_46 hr0 rfl i_8 0 (by decide) rfl m_RX8_10 rfl ?_
      refine jt_aload_n C dX8_keepDeck_49 rfl 0 rfl ?_
      refine jt_getR (Tf := TX8) (N := 8) C dX8_keepDeck_50 hr0 rfl i_8 3 (by decide) rfl m_RX8_33 rfl ?_
      obtain ⟨M2, eM2, h⟩ := jm_bind h
      refine jt_callVv (As := [_, _]) (rest := []) C (jm_f7_1 hr0) rfl dX8_keepDeck_53 (c_X3_fill (jx_l X) k n _ _ _ _ (jm_f7_1 hr0) (jm_f7_0 hr0) (jm_f7_3 hr0) _ eM2) (k_goodIn (g_RX8_155)) rfl h_X3_fill ⟨rfl, rfl, Nat.le_of_ble_eq_true rfl, Nat.le_of_ble_eq_true rfl⟩ rfl rfl (Nat.le_of_ble_eq_true rfl) ?_
      refine jt_aload_n C dX8_keepDeck_56 rfl 0 rfl ?_
      refine jt_getR (Tf := TX8) (N := 8) C dX8_keepDeck_57 hr0 rfl i_8 1 (by decide) rfl m_RX8_19 rfl ?_
      refine jt_callVi (As := []) (rest := []) C (jm_f7_1 hr0) rfl dX8_keepDeck_60 (c_X3_size (jx_l X) k _ _ (jm_f7_1 hr0) _ rfl) (k_goodIn (g_RX8_150)) rfl h_X3_size ⟨rfl, rfl, Nat.le_of_ble_eq_true rfl, Nat.le_of_ble_eq_true rfl⟩ rfl rfl (Nat.le_of_ble_eq_true rfl) ?_
      cases h
      exact jt_iret C dX8_keepDeck_63 hQ hr
    · replace h := jm_iff c20 h
      refine jt_bipush (v := (-2 : Int32)) C dX8_keepDeck_23 (by decide) ?_
      cases h
      exact jt_iret C dX8_keepDeck_25 hQ hr
theorem h_X3_lost : yX3_lost.cls = RX3 ∧ yX3_lost.cls ≠ "java/lang/invoke/MethodHandle" ∧ yX3_lost.cls ≠ "java/lang/invoke/VarHandle" ∧ (parseMethodDescriptor yX3_lost.desc).map (fun d => d.parameters.length) = some 0 := by decide +kernel
set_option maxHeartbeats 4000000 in
set_option maxRecDepth 100000 in
theorem c_X3_lost (l : Launch) (k : jm_C) (r0 : Nat) (M : jm_M) (hr0 : jm_is r0 (3, 3)) (q : Int32) (h : X3_lost r0 M = q) : jm_Ci l k yX3_lost w_X3_lost { frames := 0, cells := 0, slots := 0, locals := 0 } [.ref (jm_ad k r0)] M q M := by
  refine jm_entry_i (cc := cX3_lost) (nL := 1) (ret := (some .int)) (by decide) rfl (Nat.le_of_ble_eq_true rfl) ?_
  intro X hX C hQ hr
  subst hX
  unfold X3_lost at h
  refine jt_aload_n C dX3_lost_0 rfl 0 rfl ?_
  refine jt_getI (Tf := TX3) (N := 3) C dX3_lost_1 hr0 rfl i_3 1 (by decide) rfl m_RX3_15 rfl ?_
  refine jt_aload_n C dX3_lost_4 rfl 0 rfl ?_
  refine jt_getI (Tf := TX3) (N := 3) C dX3_lost_5 hr0 rfl i_3 2 (by decide) rfl m_RX3_19 rfl ?_
  refine jt_isub C dX3_lost_8 ?_
  subst h
  exact jt_iret C dX3_lost_9 hQ hr
theorem h_X8_addCard : yX8_addCard.cls = RX8 ∧ yX8_addCard.cls ≠ "java/lang/invoke/MethodHandle" ∧ yX8_addCard.cls ≠ "java/lang/invoke/VarHandle" ∧ (parseMethodDescriptor yX8_addCard.desc).map (fun d => d.parameters.length) = some 1 := by decide +kernel
set_option maxHeartbeats 4000000 in
set_option maxRecDepth 100000 in
theorem c_X8_addCard (l : Launch) (k : jm_C) (n : Nat) (r0 : Nat) (v1 : Int32) (M : jm_M) (hr0 : jm_is r0 (3, 7)) (q1 : Int32) (q2 : jm_M) (h : X8_addCard n r0 v1 M = some (q1, q2)) : jm_Ci l k yX8_addCard w_X8_addCard { frames := 16, cells := 0, slots := 0, locals := 640 } [.ref (jm_ad k r0), .int v1] M q1 q2 := by
  refine jm_entry_i (cc := cX8_addCard) (nL := 2) (ret := (some .int)) (by decide) rfl (Nat.le_of_ble_eq_true rfl) ?_
  intro X hX C hQ hr
  subst hX
  unfold X8_addCard at h
  refine jt_aload_n C dX8_addCard_0 rfl 0 rfl ?_
  refine jt_getR (Tf := TX8) (N := 8) C dX8_addCard_1 hr0 rfl i_8 1 (by decide) rfl m_RX8_19 rfl ?_
  refine jt_callVi (As := []) (rest := []) C (jm_f7_1 hr0) rfl dX8_addCard_4 (c_X3_h (jx_l X) k _ _ (jm_f7_1 hr0) _ rfl) (k_goodIn (g_RX8_159)) rfl h_X3_h ⟨rfl, rfl, Nat.le_of_ble_eq_true rfl, Nat.le_of_ble_eq_true rfl⟩ rfl rfl (Nat.le_of_ble_eq_true rfl) ?_
  refine jt_iconst (v := (1 : Int32)) C dX8_addCard_7 (by decide) ?_
  refine jt_isub C dX8_addCard_8 ?_
  refine jt_iload_n C dX8_addCard_9 rfl 1 rfl ?_
  refine jt_callSi (As := [_, _]) (rest := []) C dX8_addCard_10 (c_X8_isCode (jx_l X) k _ _ _ _ rfl) (k_goodIn (g_RX8_85)) rfl h_X8_isCode ⟨rfl, rfl, Nat.le_of_ble_eq_true rfl, Nat.le_of_ble_eq_true rfl⟩ rfl rfl (Nat.le_of_ble_eq_true rfl) ?_
  refine jt_if_ne (tgt := 18) C dX8_addCard_13 (by decide) (fun c13 => ?_) (fun c13 => ?_)
  · replace h := jm_iff c13 h
    refine jt_aload_n C dX8_addCard_18 rfl 0 rfl ?_
    refine jt_getR (Tf := TX8) (N := 8) C dX8_addCard_19 hr0 rfl i_8 1 (by decide) rfl m_RX8_19 rfl ?_
    refine jt_callVi (As := []) (rest := []) C (jm_f7_1 hr0) rfl dX8_addCard_22 (c_X3_lost (jx_l X) k _ _ (jm_f7_1 hr0) _ rfl) (k_goodIn (g_RX8_162)) rfl h_X3_lost ⟨rfl, rfl, Nat.le_of_ble_eq_true rfl, Nat.le_of_ble_eq_true rfl⟩ rfl rfl (Nat.le_of_ble_eq_true rfl) ?_
    refine jt_if_ne (tgt := 31) C dX8_addCard_25 (by decide) (fun c25 => ?_) (fun c25 => ?_)
    · replace h := jm_iff c25 h
      refine jt_aload_n C dX8_addCard_31 rfl 0 rfl ?_
      refine jt_getR (Tf := TX8) (N := 8) C dX8_addCard_32 hr0 rfl i_8 2 (by decide) rfl m_RX8_26 rfl ?_
      refine jt_aload_n C dX8_addCard_35 rfl 0 rfl ?_
      refine jt_getR (Tf := TX8) (N := 8) C dX8_addCard_36 hr0 rfl i_8 0 (by decide) rfl m_RX8_10 rfl ?_
      refine jt_aload_n C dX8_addCard_39 rfl 0 rfl ?_
      refine jt_getR (Tf := TX8) (N := 8) C dX8_addCard_40 hr0 rfl i_8 1 (by decide) rfl m_RX8_19 rfl ?_
      obtain ⟨M1, eM1, h⟩ := jm_bind h
      refine jt_callVv (As := [_, _]) (rest := []) C (jm_f7_2 hr0) rfl dX8_addCard_43 (c_X5_save (jx_l X) k n _ _ _ _ (jm_f7_2 hr0) (jm_f7_0 hr0) (jm_f7_1 hr0) _ eM1) (k_goodIn (g_RX8_65)) rfl h_X5_save ⟨rfl, rfl, Nat.le_of_ble_eq_true rfl, Nat.le_of_ble_eq_true rfl⟩ rfl rfl (Nat.le_of_ble_eq_true rfl) ?_
      refine jt_aload_n C dX8_addCard_46 rfl 0 rfl ?_
      refine jt_getR (Tf := TX8) (N := 8) C dX8_addCard_47 hr0 rfl i_8 1 (by decide) rfl m_RX8_19 rfl ?_
      refine jt_aload_n C dX8_addCard_50 rfl 0 rfl ?_
      refine jt_getR (Tf := TX8) (N := 8) C dX8_addCard_51 hr0 rfl i_8 3 (by decide) rfl m_RX8_33 rfl ?_
      refine jt_aload_n C dX8_addCard_54 rfl 0 rfl ?_
      refine jt_getR (Tf := TX8) (N := 8) C dX8_addCard_55 hr0 rfl i_8 1 (by decide) rfl m_RX8_19 rfl ?_
      refine jt_callVi (As := []) (rest := [_, _]) C (jm_f7_1 hr0) rfl dX8_addCard_58 (c_X3_h (jx_l X) k _ _ (jm_f7_1 hr0) _ rfl) (k_goodIn (g_RX8_159)) rfl h_X3_h ⟨rfl, rfl, Nat.le_of_ble_eq_true rfl, Nat.le_of_ble_eq_true rfl⟩ rfl rfl (Nat.le_of_ble_eq_true rfl) ?_
      refine jt_iconst (v := (1 : Int32)) C dX8_addCard_61 (by decide) ?_
      refine jt_isub C dX8_addCard_62 ?_
      refine jt_iload_n C dX8_addCard_63 rfl 1 rfl ?_
      obtain ⟨⟨x2a, x2b⟩, ex2, h⟩ := jm_bind h
      try dsimp only at h
      refine jt_callVi (As := [_, _]) (rest := [_]) C (jm_f7_3 hr0) rfl dX8_addCard_64 (c_X1_of (jx_l X) k n _ _ _ _ (jm_f7_3 hr0) _ _ ex2) (k_goodIn (g_RX8_99)) rfl h_X1_of ⟨rfl, rfl, Nat.le_of_ble_eq_true rfl, Nat.le_of_ble_eq_true rfl⟩ rfl rfl (Nat.le_of_ble_eq_true rfl) ?_
      obtain ⟨⟨x3a, x3b⟩, ex3, h⟩ := jm_bind h
      try dsimp only at h
      refine jt_callVi (As := [_]) (rest := []) C (jm_f7_1 hr0) rfl dX8_addCard_67 (c_X3_put (jx_l X) k n _ _ _ (jm_f7_1 hr0) _ _ ex3) (k_goodIn (g_RX8_165)) rfl h_X3_put ⟨rfl, rfl, Nat.le_of_ble_eq_true rfl, Nat.le_of_ble_eq_true rfl⟩ rfl rfl (Nat.le_of_ble_eq_true rfl) ?_
      cases h
      exact jt_iret C dX8_addCard_70 hQ hr
    · replace h := jm_ift c25 h
      refine jt_bipush (v := (-3 : Int32)) C dX8_addCard_28 (by decide) ?_
      cases h
      exact jt_iret C dX8_addCard_30 hQ hr
  · replace h := jm_ift c13 h
    refine jt_iconst (v := (-1 : Int32)) C dX8_addCard_16 (by decide) ?_
    cases h
    exact jt_iret C dX8_addCard_17 hQ hr
theorem h_X3_removeAt : yX3_removeAt.cls = RX3 ∧ yX3_removeAt.cls ≠ "java/lang/invoke/MethodHandle" ∧ yX3_removeAt.cls ≠ "java/lang/invoke/VarHandle" ∧ (parseMethodDescriptor yX3_removeAt.desc).map (fun d => d.parameters.length) = some 1 := by decide +kernel
set_option maxHeartbeats 4000000 in
set_option maxRecDepth 100000 in
theorem t_X3_removeAt_L21 {X : jm_X} {k : jm_C} (C : jm_Cx X k cX3_removeAt 3 RX3 w_X3_removeAt) (r0 : Nat) (hr0 : jm_is r0 (3, 3)) : ∀ (m : Nat) (s : Int32 × jm_M) (r : jm_M), jm_loop (X3_removeAt_B21 r0) m s = some r → jm_T X { frames := 1, cells := 0, slots := 0, locals := 40 } k 3 r 49 [] [] → (∀ (b0 : Int32) (b1 : jm_M), s = (b0, b1) → jm_T X { frames := 1, cells := 0, slots := 0, locals := 40 } k 3 b1 21 [(0, .ref (jm_ad k r0)), (2, .int b0)] []) := by
  refine jm_loop_ind (P := fun (s : Int32 × jm_M) => (∀ (b0 : Int32) (b1 : jm_M), s = (b0, b1) → jm_T X { frames := 1, cells := 0, slots := 0, locals := 40 } k 3 b1 21 [(0, .ref (jm_ad k r0)), (2, .int b0)] [])) (K := fun (r : jm_M) => jm_T X { frames := 1, cells := 0, slots := 0, locals := 40 } k 3 r 49 [] []) ?_
  intro s q h h1 h2
  intro b0 b1 hs
  subst hs
  unfold X3_removeAt_B21 at h
  try dsimp only at h
  refine jt_iload_n C dX3_removeAt_21 rfl 1 rfl ?_
  refine jt_aload_n C dX3_removeAt_22 rfl 0 rfl ?_
  refine jt_getI (Tf := TX3) (N := 3) C dX3_removeAt_23 hr0 rfl i_3 2 (by decide) rfl m_RX3_19 rfl ?_
  refine jt_icmp_ge (tgt := 49) C dX3_removeAt_26 (by decide) (fun c26 => ?_) (fun c26 => ?_)
  · replace h := jm_ift c26 h
    cases h
    exact jt_sub [] rfl (h2 _ rfl)
  · replace h := jm_iff c26 h
    refine jt_aload_n C dX3_removeAt_29 rfl 0 rfl ?_
    refine jt_getR (Tf := TX3) (N := 3) C dX3_removeAt_30 hr0 rfl i_3 0 (by decide) rfl m_RX3_9 rfl ?_
    refine jt_iload_n C dX3_removeAt_33 rfl 1 rfl ?_
    refine jt_aload_n C dX3_removeAt_34 rfl 0 rfl ?_
    refine jt_getR (Tf := TX3) (N := 3) C dX3_removeAt_35 hr0 rfl i_3 0 (by decide) rfl m_RX3_9 rfl ?_
    refine jt_iload_n C dX3_removeAt_38 rfl 1 rfl ?_
    refine jt_iconst (v := (1 : Int32)) C dX3_removeAt_39 (by decide) ?_
    refine jt_iadd C dX3_removeAt_40 ?_
    obtain ⟨x1, ex1, h⟩ := jm_bind h
    refine jt_iald C dX3_removeAt_41 (jm_f3_0 hr0) ex1 ?_
    obtain ⟨M2, eM2, h⟩ := jm_bind h
    refine jt_iast C dX3_removeAt_42 (jm_f3_0 hr0) eM2 ?_
    refine jt_iinc (v := (1 : Int32)) (lv' := [(2, _), (0, _)]) C dX3_removeAt_43 1 rfl (by decide) (by decide) rfl ?_
    refine jt_goto (tgt := 21) C dX3_removeAt_46 (by decide) ?_
    cases h
    exact jt_sub [1, 0] rfl (h1 _ rfl _ _ rfl)
set_option maxHeartbeats 4000000 in
set_option maxRecDepth 100000 in
theorem c_X3_removeAt (l : Launch) (k : jm_C) (n : Nat) (r0 : Nat) (v1 : Int32) (M : jm_M) (hr0 : jm_is r0 (3, 3)) (q : jm_M) (h : X3_removeAt n r0 v1 M = some q) : jm_Cv l k yX3_removeAt w_X3_removeAt { frames := 1, cells := 0, slots := 0, locals := 40 } [.ref (jm_ad k r0), .int v1] M q := by
  refine jm_entry_v (cc := cX3_removeAt) (nL := 3) (ret := none) (by decide) rfl (Nat.le_of_ble_eq_true rfl) ?_
  intro X hX C hQ hr
  subst hX
  unfold X3_removeAt at h
  refine jt_aload_n C dX3_removeAt_0 rfl 0 rfl ?_
  refine jt_iload_n C dX3_removeAt_1 rfl 1 rfl ?_
  refine jt_callVi (As := [_]) (rest := []) C hr0 rfl dX3_removeAt_2 (c_X3_has (jx_l X) k _ _ _ hr0 _ rfl) (k_goodIn (g_RX3_22)) rfl h_X3_has ⟨rfl, rfl, Nat.le_of_ble_eq_true rfl, Nat.le_of_ble_eq_true rfl⟩ rfl rfl (Nat.le_of_ble_eq_true rfl) ?_
  refine jt_if_ne (tgt := 9) C dX3_removeAt_5 (by decide) (fun c5 => ?_) (fun c5 => ?_)
  · replace h := jm_iff c5 h
    refine jt_aload_n C dX3_removeAt_9 rfl 0 rfl ?_
    refine jt_dup C dX3_removeAt_10 rfl ?_
    refine jt_getI (Tf := TX3) (N := 3) C dX3_removeAt_11 hr0 rfl i_3 2 (by decide) rfl m_RX3_19 rfl ?_
    refine jt_iconst (v := (1 : Int32)) C dX3_removeAt_14 (by decide) ?_
    refine jt_isub C dX3_removeAt_15 ?_
    refine jt_putI (Tf := TX3) (N := 3) C dX3_removeAt_16 hr0 rfl i_3 tyX3 tyX3_ok nmX3 2 (by decide) rfl m_RX3_19 rfl rfl (by decide +kernel) ?_
    refine jt_iload_n C dX3_removeAt_19 rfl 1 rfl ?_
    refine jt_istore_n (lv' := [(2, _), (0, _), (1, _)]) C dX3_removeAt_20 rfl (by decide) rfl ?_
    obtain ⟨q3, eq3, h⟩ := jm_bind h
    refine jt_sub [1, 0] rfl ?_
    refine t_X3_removeAt_L21 C _ hr0 n _ _ eq3 ?_ _ _ rfl
    cases h
    exact jt_vret C dX3_removeAt_49 hQ hr
  · replace h := jm_ift c5 h
    cases h
    exact jt_vret C dX3_removeAt_8 hQ hr
theorem h_X8_dropCard : yX8_dropCard.cls = RX8 ∧ yX8_dropCard.cls ≠ "java/lang/invoke/MethodHandle" ∧ yX8_dropCard.cls ≠ "java/lang/invoke/VarHandle" ∧ (parseMethodDescriptor yX8_dropCard.desc).map (fun d => d.parameters.length) = some 1 := by decide +kernel
set_option maxHeartbeats 4000000 in
set_option maxRecDepth 100000 in
theorem c_X8_dropCard (l : Launch) (k : jm_C) (n : Nat) (r0 : Nat) (v1 : Int32) (M : jm_M) (hr0 : jm_is r0 (3, 7)) (q1 : Int32) (q2 : jm_M) (h : X8_dropCard n r0 v1 M = some (q1, q2)) : jm_Ci l k yX8_dropCard w_X8_dropCard { frames := 3, cells := 0, slots := 0, locals := 120 } [.ref (jm_ad k r0), .int v1] M q1 q2 := by
  refine jm_entry_i (cc := cX8_dropCard) (nL := 2) (ret := (some .int)) (by decide) rfl (Nat.le_of_ble_eq_true rfl) ?_
  intro X hX C hQ hr
  subst hX
  unfold X8_dropCard at h
  refine jt_aload_n C dX8_dropCard_0 rfl 0 rfl ?_
  refine jt_getR (Tf := TX8) (N := 8) C dX8_dropCard_1 hr0 rfl i_8 1 (by decide) rfl m_RX8_19 rfl ?_
  refine jt_iload_n C dX8_dropCard_4 rfl 1 rfl ?_
  refine jt_callVi (As := [_]) (rest := []) C (jm_f7_1 hr0) rfl dX8_dropCard_5 (c_X3_has (jx_l X) k _ _ _ (jm_f7_1 hr0) _ rfl) (k_goodIn (g_RX8_168)) rfl h_X3_has ⟨rfl, rfl, Nat.le_of_ble_eq_true rfl, Nat.le_of_ble_eq_true rfl⟩ rfl rfl (Nat.le_of_ble_eq_true rfl) ?_
  refine jt_if_ne (tgt := 13) C dX8_dropCard_8 (by decide) (fun c8 => ?_) (fun c8 => ?_)
  · replace h := jm_iff c8 h
    refine jt_aload_n C dX8_dropCard_13 rfl 0 rfl ?_
    refine jt_getR (Tf := TX8) (N := 8) C dX8_dropCard_14 hr0 rfl i_8 2 (by decide) rfl m_RX8_26 rfl ?_
    refine jt_aload_n C dX8_dropCard_17 rfl 0 rfl ?_
    refine jt_getR (Tf := TX8) (N := 8) C dX8_dropCard_18 hr0 rfl i_8 0 (by decide) rfl m_RX8_10 rfl ?_
    refine jt_aload_n C dX8_dropCard_21 rfl 0 rfl ?_
    refine jt_getR (Tf := TX8) (N := 8) C dX8_dropCard_22 hr0 rfl i_8 1 (by decide) rfl m_RX8_19 rfl ?_
    obtain ⟨M1, eM1, h⟩ := jm_bind h
    refine jt_callVv (As := [_, _]) (rest := []) C (jm_f7_2 hr0) rfl dX8_dropCard_25 (c_X5_save (jx_l X) k n _ _ _ _ (jm_f7_2 hr0) (jm_f7_0 hr0) (jm_f7_1 hr0) _ eM1) (k_goodIn (g_RX8_65)) rfl h_X5_save ⟨rfl, rfl, Nat.le_of_ble_eq_true rfl, Nat.le_of_ble_eq_true rfl⟩ rfl rfl (Nat.le_of_ble_eq_true rfl) ?_
    refine jt_aload_n C dX8_dropCard_28 rfl 0 rfl ?_
    refine jt_getR (Tf := TX8) (N := 8) C dX8_dropCard_29 hr0 rfl i_8 1 (by decide) rfl m_RX8_19 rfl ?_
    refine jt_iload_n C dX8_dropCard_32 rfl 1 rfl ?_
    obtain ⟨M2, eM2, h⟩ := jm_bind h
    refine jt_callVv (As := [_]) (rest := []) C (jm_f7_1 hr0) rfl dX8_dropCard_33 (c_X3_removeAt (jx_l X) k n _ _ _ (jm_f7_1 hr0) _ eM2) (k_goodIn (g_RX8_169)) rfl h_X3_removeAt ⟨rfl, rfl, Nat.le_of_ble_eq_true rfl, Nat.le_of_ble_eq_true rfl⟩ rfl rfl (Nat.le_of_ble_eq_true rfl) ?_
    refine jt_aload_n C dX8_dropCard_36 rfl 0 rfl ?_
    refine jt_getR (Tf := TX8) (N := 8) C dX8_dropCard_37 hr0 rfl i_8 1 (by decide) rfl m_RX8_19 rfl ?_
    refine jt_callVi (As := []) (rest := []) C (jm_f7_1 hr0) rfl dX8_dropCard_40 (c_X3_size (jx_l X) k _ _ (jm_f7_1 hr0) _ rfl) (k_goodIn (g_RX8_150)) rfl h_X3_size ⟨rfl, rfl, Nat.le_of_ble_eq_true rfl, Nat.le_of_ble_eq_true rfl⟩ rfl rfl (Nat.le_of_ble_eq_true rfl) ?_
    cases h
    exact jt_iret C dX8_dropCard_43 hQ hr
  · replace h := jm_ift c8 h
    refine jt_iconst (v := (-1 : Int32)) C dX8_dropCard_11 (by decide) ?_
    cases h
    exact jt_iret C dX8_dropCard_12 hQ hr
theorem h_X6_vertices : yX6_vertices.cls ≠ "java/lang/invoke/MethodHandle" ∧ yX6_vertices.cls ≠ "java/lang/invoke/VarHandle" ∧ (parseMethodDescriptor yX6_vertices.desc).map (fun d => d.parameters.length) = some 1 := by decide +kernel
set_option maxHeartbeats 4000000 in
set_option maxRecDepth 100000 in
theorem c_X6_vertices (l : Launch) (k : jm_C) (v0 : Int32) (M : jm_M)  (q : Int32) (h : X6_vertices v0 M = some q) : jm_Ci l k yX6_vertices w_X6_vertices { frames := 1, cells := 0, slots := 0, locals := 40 } [.int v0] M q M := by
  refine jm_entry_i (cc := cX6_vertices) (nL := 1) (ret := (some .int)) (by decide) rfl (Nat.le_of_ble_eq_true rfl) ?_
  intro X hX C hQ hr
  subst hX
  unfold X6_vertices at h
  refine jt_iload_n C dX6_vertices_0 rfl 0 rfl ?_
  refine jt_callSi (As := [_]) (rest := []) C dX6_vertices_1 (c_X6_isPattern (jx_l X) k _ _ _ rfl) (k_goodIn (g_RX6_13)) rfl h_X6_isPattern ⟨rfl, rfl, Nat.le_of_ble_eq_true rfl, Nat.le_of_ble_eq_true rfl⟩ rfl rfl (Nat.le_of_ble_eq_true rfl) ?_
  refine jt_if_eq (tgt := 15) C dX6_vertices_4 (by decide) (fun c4 => ?_) (fun c4 => ?_)
  · replace h := jm_ift c4 h
    refine jt_iconst (v := (0 : Int32)) C dX6_vertices_15 (by decide) ?_
    cases h
    exact jt_iret C dX6_vertices_16 hQ hr
  · replace h := jm_iff c4 h
    refine jt_gets C dX6_vertices_7 (List.mem_cons_of_mem _ k_fl_RX6_7) ?_
    refine jt_iload_n C dX6_vertices_10 rfl 0 rfl ?_
    obtain ⟨x1, ex1, h⟩ := jm_bind h
    refine jt_tald C dX6_vertices_11 ex1 ?_
    refine jt_goto (tgt := 16) C dX6_vertices_12 (by decide) ?_
    cases h
    exact jt_iret C dX6_vertices_16 hQ hr
theorem h_X2_patterns : yX2_patterns.cls = RX2 ∧ yX2_patterns.cls ≠ "java/lang/invoke/MethodHandle" ∧ yX2_patterns.cls ≠ "java/lang/invoke/VarHandle" ∧ (parseMethodDescriptor yX2_patterns.desc).map (fun d => d.parameters.length) = some 2 := by decide +kernel
set_option maxHeartbeats 4000000 in
set_option maxRecDepth 100000 in
theorem t_X2_patterns_L30 {X : jm_X} {k : jm_C} (C : jm_Cx X k cX2_patterns 6 RX2 w_X2_patterns) (n : Nat) (r0 : Nat) (r1 : Nat) (v2 : Int32) (v3 : Int32) (hr0 : jm_is r0 (3, 2)) (hr1 : jm_is r1 (3, 3)) : ∀ (m : Nat) (s : Int32 × Int32 × jm_M) (r : Int32 × jm_M), jm_loop (X2_patterns_B30 n r0 r1 v2 v3) m s = some r → (∀ (b0 : Int32) (b1 : jm_M), r = (b0, b1) → jm_T X { frames := 5, cells := 0, slots := 0, locals := 200 } k 6 b1 77 [(3, .int v3), (4, .int b0)] []) → (∀ (b0 : Int32) (b1 : Int32) (b2 : jm_M), s = (b0, b1, b2) → jm_T X { frames := 5, cells := 0, slots := 0, locals := 200 } k 6 b2 30 [(0, .ref (jm_ad k r0)), (1, .ref (jm_ad k r1)), (2, .int v2), (3, .int v3), (4, .int b0), (5, .int b1)] []) := by
  refine jm_loop_ind (P := fun (s : Int32 × Int32 × jm_M) => (∀ (b0 : Int32) (b1 : Int32) (b2 : jm_M), s = (b0, b1, b2) → jm_T X { frames := 5, cells := 0, slots := 0, locals := 200 } k 6 b2 30 [(0, .ref (jm_ad k r0)), (1, .ref (jm_ad k r1)), (2, .int v2), (3, .int v3), (4, .int b0), (5, .int b1)] [])) (K := fun (r : Int32 × jm_M) => ∀ (b0 : Int32) (b1 : jm_M), r = (b0, b1) → jm_T X { frames := 5, cells := 0, slots := 0, locals := 200 } k 6 b1 77 [(3, .int v3), (4, .int b0)] []) ?_
  intro s q h h1 h2
  intro b0 b1 b2 hs
  subst hs
  unfold X2_patterns_B30 at h
  try dsimp only at h
  refine jt_iload C dX2_patterns_30 5 rfl ?_
  refine jt_aload_n C dX2_patterns_32 rfl 1 rfl ?_
  refine jt_callVi (As := []) (rest := [_]) C hr1 rfl dX2_patterns_33 (c_X3_size (jx_l X) k _ _ hr1 _ rfl) (k_goodIn (g_RX2_37)) rfl h_X3_size ⟨rfl, rfl, Nat.le_of_ble_eq_true rfl, Nat.le_of_ble_eq_true rfl⟩ rfl rfl (Nat.le_of_ble_eq_true rfl) ?_
  refine jt_icmp_ge (tgt := 77) C dX2_patterns_36 (by decide) (fun c36 => ?_) (fun c36 => ?_)
  · replace h := jm_ift c36 h
    cases h
    exact jt_sub [3, 4] rfl (h2 _ rfl _ _ rfl)
  · replace h := jm_iff c36 h
    refine jt_aload_n C dX2_patterns_39 rfl 0 rfl ?_
    refine jt_getR (Tf := TX2) (N := 2) C dX2_patterns_40 hr0 rfl i_2 0 (by decide) rfl m_RX2_12 rfl ?_
    refine jt_aload_n C dX2_patterns_43 rfl 1 rfl ?_
    refine jt_callVi (As := []) (rest := [_]) C hr1 rfl dX2_patterns_44 (c_X3_h (jx_l X) k _ _ hr1 _ rfl) (k_goodIn (g_RX2_22)) rfl h_X3_h ⟨rfl, rfl, Nat.le_of_ble_eq_true rfl, Nat.le_of_ble_eq_true rfl⟩ rfl rfl (Nat.le_of_ble_eq_true rfl) ?_
    refine jt_iconst (v := (1 : Int32)) C dX2_patterns_47 (by decide) ?_
    refine jt_isub C dX2_patterns_48 ?_
    refine jt_aload_n C dX2_patterns_49 rfl 1 rfl ?_
    refine jt_iload C dX2_patterns_50 5 rfl ?_
    obtain ⟨x2, ex2, h⟩ := jm_bind h
    refine jt_callVi (As := [_]) (rest := [_, _]) C hr1 rfl dX2_patterns_52 (c_X3_codeAt (jx_l X) k _ _ _ hr1 _ ex2) (k_goodIn (g_RX2_40)) rfl h_X3_codeAt ⟨rfl, rfl, Nat.le_of_ble_eq_true rfl, Nat.le_of_ble_eq_true rfl⟩ rfl rfl (Nat.le_of_ble_eq_true rfl) ?_
    obtain ⟨M3, eM3, h⟩ := jm_bind h
    refine jt_callVv (As := [_, _]) (rest := []) C (jm_f2_0 hr0) rfl dX2_patterns_55 (c_X4_load (jx_l X) k n _ _ _ _ (jm_f2_0 hr0) _ eM3) (k_goodIn (g_RX2_43)) rfl h_X4_load ⟨rfl, rfl, Nat.le_of_ble_eq_true rfl, Nat.le_of_ble_eq_true rfl⟩ rfl rfl (Nat.le_of_ble_eq_true rfl) ?_
    refine jt_iload C dX2_patterns_58 4 rfl ?_
    refine jt_aload_n C dX2_patterns_60 rfl 0 rfl ?_
    refine jt_getR (Tf := TX2) (N := 2) C dX2_patterns_61 hr0 rfl i_2 0 (by decide) rfl m_RX2_12 rfl ?_
    refine jt_iload_n C dX2_patterns_64 rfl 2 rfl ?_
    obtain ⟨x4, ex4, h⟩ := jm_bind h
    refine jt_callSi (As := [_, _]) (rest := [_]) C dX2_patterns_65 (c_X6_count (jx_l X) k n _ _ _ (jm_f2_0 hr0) _ ex4) (k_goodIn (g_RX2_47)) rfl h_X6_count ⟨rfl, rfl, Nat.le_of_ble_eq_true rfl, Nat.le_of_ble_eq_true rfl⟩ rfl rfl (Nat.le_of_ble_eq_true rfl) ?_
    refine jt_iadd C dX2_patterns_68 ?_
    refine jt_istore (lv' := [(4, _), (0, _), (1, _), (2, _), (3, _), (5, _)]) C dX2_patterns_69 (by decide) rfl ?_
    refine jt_iinc (v := (1 : Int32)) (lv' := [(5, _), (4, _), (0, _), (1, _), (2, _), (3, _)]) C dX2_patterns_71 5 rfl (by decide) (by decide) rfl ?_
    refine jt_goto (tgt := 30) C dX2_patterns_74 (by decide) ?_
    cases h
    exact jt_sub [2, 3, 4, 5, 1, 0] rfl (h1 _ rfl _ _ _ rfl)
set_option maxHeartbeats 4000000 in
set_option maxRecDepth 100000 in
theorem c_X2_patterns (l : Launch) (k : jm_C) (n : Nat) (r0 : Nat) (r1 : Nat) (v2 : Int32) (M : jm_M) (hr0 : jm_is r0 (3, 2)) (hr1 : jm_is r1 (3, 3)) (q1 : Int32) (q2 : jm_M) (h : X2_patterns n r0 r1 v2 M = some (q1, q2)) : jm_Ci l k yX2_patterns w_X2_patterns { frames := 5, cells := 0, slots := 0, locals := 200 } [.ref (jm_ad k r0), .ref (jm_ad k r1), .int v2] M q1 q2 := by
  refine jm_entry_i (cc := cX2_patterns) (nL := 6) (ret := (some .int)) (by decide) rfl (Nat.le_of_ble_eq_true rfl) ?_
  intro X hX C hQ hr
  subst hX
  unfold X2_patterns at h
  refine jt_aload_n C dX2_patterns_0 rfl 1 rfl ?_
  refine jt_callVi (As := []) (rest := []) C hr1 rfl dX2_patterns_1 (c_X3_h (jx_l X) k _ _ hr1 _ rfl) (k_goodIn (g_RX2_22)) rfl h_X3_h ⟨rfl, rfl, Nat.le_of_ble_eq_true rfl, Nat.le_of_ble_eq_true rfl⟩ rfl rfl (Nat.le_of_ble_eq_true rfl) ?_
  refine jt_iload_n C dX2_patterns_4 rfl 2 rfl ?_
  obtain ⟨x1, ex1, h⟩ := jm_bind h
  refine jt_callSi (As := [_]) (rest := [_]) C dX2_patterns_5 (c_X6_vertices (jx_l X) k _ _ _ ex1) (k_goodIn (g_RX2_28)) rfl h_X6_vertices ⟨rfl, rfl, Nat.le_of_ble_eq_true rfl, Nat.le_of_ble_eq_true rfl⟩ rfl rfl (Nat.le_of_ble_eq_true rfl) ?_
  refine jt_isub C dX2_patterns_8 ?_
  refine jt_istore_n (lv' := [(3, _), (0, _), (1, _), (2, _)]) C dX2_patterns_9 rfl (by decide) rfl ?_
  refine jt_aload_n C dX2_patterns_10 rfl 2 rfl ?_
  refine jt_callVi (As := []) (rest := []) C hr1 rfl dX2_patterns_11 (c_X3_lost (jx_l X) k _ _ hr1 _ rfl) (k_goodIn (g_RX2_34)) rfl h_X3_lost ⟨rfl, rfl, Nat.le_of_ble_eq_true rfl, Nat.le_of_ble_eq_true rfl⟩ rfl rfl (Nat.le_of_ble_eq_true rfl) ?_
  refine jt_if_ne (tgt := 21) C dX2_patterns_14 (by decide) (fun c14 => ?_) (fun c14 => ?_)
  · replace h := jm_iff c14 h
    refine jt_bipush (v := (-9 : Int32)) C dX2_patterns_21 (by decide) ?_
    cases h
    exact jt_iret C dX2_patterns_23 hQ hr
  · replace h := jm_ift c14 h
    refine jt_iload_n C dX2_patterns_17 rfl 0 rfl ?_
    refine jt_if_gt (tgt := 24) C dX2_patterns_18 (by decide) (fun c18 => ?_) (fun c18 => ?_)
    · replace h := jm_ift c18 h
      refine jt_iconst (v := (0 : Int32)) C dX2_patterns_24 (by decide) ?_
      refine jt_istore (lv' := [(4, _), (3, _), (0, _), (1, _), (2, _)]) C dX2_patterns_25 (by decide) rfl ?_
      refine jt_iconst (v := (0 : Int32)) C dX2_patterns_27 (by decide) ?_
      refine jt_istore (lv' := [(5, _), (4, _), (3, _), (0, _), (1, _), (2, _)]) C dX2_patterns_28 (by decide) rfl ?_
      obtain ⟨q5, eq5, h⟩ := jm_bind h
      refine jt_sub [3, 4, 5, 2, 1, 0] rfl ?_
      refine t_X2_patterns_L30 C n _ _ _ _ hr0 hr1 n _ _ eq5 ?_ _ _ _ rfl
      intro y6_0 y6_1 hq6
      subst hq6
      try dsimp only at h
      refine jt_iload C dX2_patterns_77 1 rfl ?_
      refine jt_iload_n C dX2_patterns_79 rfl 0 rfl ?_
      obtain ⟨x7, ex7, h⟩ := jm_bind h
      refine jt_irem C dX2_patterns_80 ex7 ?_
      refine jt_if_ne (tgt := 91) C dX2_patterns_81 (by decide) (fun c81 => ?_) (fun c81 => ?_)
      · replace h := jm_iff c81 h
        refine jt_bipush (v := (-9 : Int32)) C dX2_patterns_91 (by decide) ?_
        cases h
        exact jt_iret C dX2_patterns_93 hQ hr
      · replace h := jm_ift c81 h
        refine jt_iload C dX2_patterns_84 1 rfl ?_
        refine jt_iload_n C dX2_patterns_86 rfl 0 rfl ?_
        obtain ⟨x8, ex8, h⟩ := jm_bind h
        refine jt_idiv C dX2_patterns_87 ex8 ?_
        refine jt_goto (tgt := 93) C dX2_patterns_88 (by decide) ?_
        cases h
        exact jt_iret C dX2_patterns_93 hQ hr
    · replace h := jm_iff c18 h
      refine jt_bipush (v := (-9 : Int32)) C dX2_patterns_21 (by decide) ?_
      cases h
      exact jt_iret C dX2_patterns_23 hQ hr
theorem h_X2_edges : yX2_edges.cls = RX2 ∧ yX2_edges.cls ≠ "java/lang/invoke/MethodHandle" ∧ yX2_edges.cls ≠ "java/lang/invoke/VarHandle" ∧ (parseMethodDescriptor yX2_edges.desc).map (fun d => d.parameters.length) = some 1 := by decide +kernel
set_option maxHeartbeats 4000000 in
set_option maxRecDepth 100000 in
theorem c_X2_edges (l : Launch) (k : jm_C) (n : Nat) (r0 : Nat) (r1 : Nat) (M : jm_M) (hr0 : jm_is r0 (3, 2)) (hr1 : jm_is r1 (3, 3)) (q1 : Int32) (q2 : jm_M) (h : X2_edges n r0 r1 M = some (q1, q2)) : jm_Ci l k yX2_edges w_X2_edges { frames := 6, cells := 0, slots := 0, locals := 240 } [.ref (jm_ad k r0), .ref (jm_ad k r1)] M q1 q2 := by
  refine jm_entry_i (cc := cX2_edges) (nL := 2) (ret := (some .int)) (by decide) rfl (Nat.le_of_ble_eq_true rfl) ?_
  intro X hX C hQ hr
  subst hX
  unfold X2_edges at h
  refine jt_aload_n C dX2_edges_0 rfl 0 rfl ?_
  refine jt_aload_n C dX2_edges_1 rfl 1 rfl ?_
  refine jt_iconst (v := (0 : Int32)) C dX2_edges_2 (by decide) ?_
  obtain ⟨⟨x1a, x1b⟩, ex1, h⟩ := jm_bind h
  try dsimp only at h
  refine jt_callVi (As := [_, _]) (rest := []) C hr0 rfl dX2_edges_3 (c_X2_patterns (jx_l X) k n _ _ _ _ hr0 hr1 _ _ ex1) (k_goodIn (g_RX2_51)) rfl h_X2_patterns ⟨rfl, rfl, Nat.le_of_ble_eq_true rfl, Nat.le_of_ble_eq_true rfl⟩ rfl rfl (Nat.le_of_ble_eq_true rfl) ?_
  cases h
  exact jt_iret C dX2_edges_6 hQ hr
theorem h_X2_degree : yX2_degree.cls = RX2 ∧ yX2_degree.cls ≠ "java/lang/invoke/MethodHandle" ∧ yX2_degree.cls ≠ "java/lang/invoke/VarHandle" ∧ (parseMethodDescriptor yX2_degree.desc).map (fun d => d.parameters.length) = some 2 := by decide +kernel
set_option maxHeartbeats 4000000 in
set_option maxRecDepth 100000 in
theorem c_X2_degree (l : Launch) (k : jm_C) (n : Nat) (r0 : Nat) (r1 : Nat) (v2 : Int32) (M : jm_M) (hr0 : jm_is r0 (3, 2)) (hr1 : jm_is r1 (3, 3)) (q1 : Int32) (q2 : jm_M) (h : X2_degree n r0 r1 v2 M = some (q1, q2)) : jm_Ci l k yX2_degree w_X2_degree { frames := 7, cells := 0, slots := 0, locals := 280 } [.ref (jm_ad k r0), .ref (jm_ad k r1), .int v2] M q1 q2 := by
  refine jm_entry_i (cc := cX2_degree) (nL := 4) (ret := (some .int)) (by decide) rfl (Nat.le_of_ble_eq_true rfl) ?_
  intro X hX C hQ hr
  subst hX
  unfold X2_degree at h
  refine jt_aload_n C dX2_degree_0 rfl 0 rfl ?_
  refine jt_aload_n C dX2_degree_1 rfl 1 rfl ?_
  obtain ⟨⟨x1a, x1b⟩, ex1, h⟩ := jm_bind h
  try dsimp only at h
  refine jt_callVi (As := [_]) (rest := []) C hr0 rfl dX2_degree_2 (c_X2_edges (jx_l X) k n _ _ _ hr0 hr1 _ _ ex1) (k_goodIn (g_RX2_55)) rfl h_X2_edges ⟨rfl, rfl, Nat.le_of_ble_eq_true rfl, Nat.le_of_ble_eq_true rfl⟩ rfl rfl (Nat.le_of_ble_eq_true rfl) ?_
  refine jt_istore_n (lv' := [(3, _), (0, _), (1, _), (2, _)]) C dX2_degree_5 rfl (by decide) rfl ?_
  refine jt_iload_n C dX2_degree_6 rfl 0 rfl ?_
  refine jt_bipush (v := (-9 : Int32)) C dX2_degree_7 (by decide) ?_
  refine jt_icmp_ne (tgt := 17) C dX2_degree_9 (by decide) (fun c9 => ?_) (fun c9 => ?_)
  · replace h := jm_iff c9 h
    refine jt_iload_n C dX2_degree_17 rfl 0 rfl ?_
    refine jt_aload_n C dX2_degree_18 rfl 2 rfl ?_
    refine jt_iload_n C dX2_degree_19 rfl 3 rfl ?_
    obtain ⟨x2, ex2, h⟩ := jm_bind h
    refine jt_callVi (As := [_]) (rest := [_]) C hr1 rfl dX2_degree_20 (c_X3_codeAt (jx_l X) k _ _ _ hr1 _ ex2) (k_goodIn (g_RX2_40)) rfl h_X3_codeAt ⟨rfl, rfl, Nat.le_of_ble_eq_true rfl, Nat.le_of_ble_eq_true rfl⟩ rfl rfl (Nat.le_of_ble_eq_true rfl) ?_
    refine jt_callSi (As := [_]) (rest := [_]) C dX2_degree_23 (c_J6_bitCount_0f7a4 (jx_l X) k _ _ _ rfl) (k_goodIn (g_RX2_59)) rfl h_J6_bitCount_0f7a4 ⟨rfl, rfl, Nat.le_of_ble_eq_true rfl, Nat.le_of_ble_eq_true rfl⟩ rfl rfl (Nat.le_of_ble_eq_true rfl) ?_
    refine jt_isub C dX2_degree_26 ?_
    cases h
    exact jt_iret C dX2_degree_27 hQ hr
  · replace h := jm_ift c9 h
    refine jt_bipush (v := (-9 : Int32)) C dX2_degree_12 (by decide) ?_
    refine jt_goto (tgt := 27) C dX2_degree_14 (by decide) ?_
    cases h
    exact jt_iret C dX2_degree_27 hQ hr
theorem h_X3_howOften : yX3_howOften.cls = RX3 ∧ yX3_howOften.cls ≠ "java/lang/invoke/MethodHandle" ∧ yX3_howOften.cls ≠ "java/lang/invoke/VarHandle" ∧ (parseMethodDescriptor yX3_howOften.desc).map (fun d => d.parameters.length) = some 1 := by decide +kernel
set_option maxHeartbeats 4000000 in
set_option maxRecDepth 100000 in
theorem t_X3_howOften_L4 {X : jm_X} {k : jm_C} (C : jm_Cx X k cX3_howOften 4 RX3 w_X3_howOften) (r0 : Nat) (v1 : Int32) (M : jm_M) (hr0 : jm_is r0 (3, 3)) : ∀ (m : Nat) (s : Int32 × Int32) (r : Int32), jm_loop (X3_howOften_B4 r0 v1 M) m s = some r → jm_T X { frames := 0, cells := 0, slots := 0, locals := 0 } k 4 M 31 [(2, .int r)] [] → (∀ (b0 : Int32) (b1 : Int32), s = (b0, b1) → jm_T X { frames := 0, cells := 0, slots := 0, locals := 0 } k 4 M 4 [(0, .ref (jm_ad k r0)), (1, .int v1), (2, .int b0), (3, .int b1)] []) := by
  refine jm_loop_ind (P := fun (s : Int32 × Int32) => (∀ (b0 : Int32) (b1 : Int32), s = (b0, b1) → jm_T X { frames := 0, cells := 0, slots := 0, locals := 0 } k 4 M 4 [(0, .ref (jm_ad k r0)), (1, .int v1), (2, .int b0), (3, .int b1)] [])) (K := fun (r : Int32) => jm_T X { frames := 0, cells := 0, slots := 0, locals := 0 } k 4 M 31 [(2, .int r)] []) ?_
  intro s q h h1 h2
  intro b0 b1 hs
  subst hs
  unfold X3_howOften_B4 at h
  try dsimp only at h
  refine jt_iload_n C dX3_howOften_4 rfl 3 rfl ?_
  refine jt_aload_n C dX3_howOften_5 rfl 0 rfl ?_
  refine jt_getI (Tf := TX3) (N := 3) C dX3_howOften_6 hr0 rfl i_3 2 (by decide) rfl m_RX3_19 rfl ?_
  refine jt_icmp_ge (tgt := 31) C dX3_howOften_9 (by decide) (fun c9 => ?_) (fun c9 => ?_)
  · replace h := jm_ift c9 h
    cases h
    exact jt_sub [2] rfl (h2 _ rfl)
  · replace h := jm_iff c9 h
    refine jt_aload_n C dX3_howOften_12 rfl 0 rfl ?_
    refine jt_getR (Tf := TX3) (N := 3) C dX3_howOften_13 hr0 rfl i_3 0 (by decide) rfl m_RX3_9 rfl ?_
    refine jt_iload_n C dX3_howOften_16 rfl 3 rfl ?_
    obtain ⟨x1, ex1, h⟩ := jm_bind h
    refine jt_iald C dX3_howOften_17 (jm_f3_0 hr0) ex1 ?_
    refine jt_iload_n C dX3_howOften_18 rfl 1 rfl ?_
    refine jt_icmp_ne (tgt := 25) C dX3_howOften_19 (by decide) (fun c19 => ?_) (fun c19 => ?_)
    · replace h := jm_iff c19 h
      refine jt_iinc (v := (1 : Int32)) (lv' := [(3, _), (0, _), (1, _), (2, _)]) C dX3_howOften_25 3 rfl (by decide) (by decide) rfl ?_
      refine jt_goto (tgt := 4) C dX3_howOften_28 (by decide) ?_
      cases h
      exact jt_sub [1, 2, 3, 0] rfl (h1 _ rfl _ _ rfl)
    · replace h := jm_ift c19 h
      refine jt_iinc (v := (1 : Int32)) (lv' := [(2, _), (0, _), (1, _), (3, _)]) C dX3_howOften_22 2 rfl (by decide) (by decide) rfl ?_
      refine jt_iinc (v := (1 : Int32)) (lv' := [(3, _), (2, _), (0, _), (1, _)]) C dX3_howOften_25 3 rfl (by decide) (by decide) rfl ?_
      refine jt_goto (tgt := 4) C dX3_howOften_28 (by decide) ?_
      cases h
      exact jt_sub [2, 3, 1, 0] rfl (h1 _ rfl _ _ rfl)
set_option maxHeartbeats 4000000 in
set_option maxRecDepth 100000 in
theorem c_X3_howOften (l : Launch) (k : jm_C) (n : Nat) (r0 : Nat) (v1 : Int32) (M : jm_M) (hr0 : jm_is r0 (3, 3)) (q : Int32) (h : X3_howOften n r0 v1 M = some q) : jm_Ci l k yX3_howOften w_X3_howOften { frames := 0, cells := 0, slots := 0, locals := 0 } [.ref (jm_ad k r0), .int v1] M q M := by
  refine jm_entry_i (cc := cX3_howOften) (nL := 4) (ret := (some .int)) (by decide) rfl (Nat.le_of_ble_eq_true rfl) ?_
  intro X hX C hQ hr
  subst hX
  unfold X3_howOften at h
  refine jt_iconst (v := (0 : Int32)) C dX3_howOften_0 (by decide) ?_
  refine jt_istore_n (lv' := [(2, _), (0, _), (1, _)]) C dX3_howOften_1 rfl (by decide) rfl ?_
  refine jt_iconst (v := (0 : Int32)) C dX3_howOften_2 (by decide) ?_
  refine jt_istore_n (lv' := [(3, _), (2, _), (0, _), (1, _)]) C dX3_howOften_3 rfl (by decide) rfl ?_
  obtain ⟨q2, eq2, h⟩ := jm_bind h
  refine jt_sub [2, 3, 1, 0] rfl ?_
  refine t_X3_howOften_L4 C _ _ _ hr0 n _ _ eq2 ?_ _ _ rfl
  refine jt_iload_n C dX3_howOften_31 rfl 0 rfl ?_
  cases h
  exact jt_iret C dX3_howOften_32 hQ hr
theorem h_X0_choose : yX0_choose.cls = RX0 ∧ yX0_choose.cls ≠ "java/lang/invoke/MethodHandle" ∧ yX0_choose.cls ≠ "java/lang/invoke/VarHandle" ∧ (parseMethodDescriptor yX0_choose.desc).map (fun d => d.parameters.length) = some 2 := by decide +kernel
set_option maxHeartbeats 4000000 in
set_option maxRecDepth 100000 in
theorem t_X0_choose_L13 {X : jm_X} {k : jm_C} (C : jm_Cx X k cX0_choose 4 RX0 w_X0_choose) (n : Nat) (r0 : Nat) (r1 : Nat) (v2 : Int32) (hr0 : jm_is r0 (3, 0)) (hr1 : jm_is r1 (3, 3)) : ∀ (m : Nat) (s : Int32 × jm_M) (r : jm_M), jm_loop (X0_choose_B13 n r0 r1 v2) m s = some r → jm_T X { frames := 2, cells := 0, slots := 0, locals := 80 } k 4 r 49 [] [] → (∀ (b0 : Int32) (b1 : jm_M), s = (b0, b1) → jm_T X { frames := 2, cells := 0, slots := 0, locals := 80 } k 4 b1 13 [(0, .ref (jm_ad k r0)), (1, .ref (jm_ad k r1)), (2, .int v2), (3, .int b0)] []) := by
  refine jm_loop_ind (P := fun (s : Int32 × jm_M) => (∀ (b0 : Int32) (b1 : jm_M), s = (b0, b1) → jm_T X { frames := 2, cells := 0, slots := 0, locals := 80 } k 4 b1 13 [(0, .ref (jm_ad k r0)), (1, .ref (jm_ad k r1)), (2, .int v2), (3, .int b0)] [])) (K := fun (r : jm_M) => jm_T X { frames := 2, cells := 0, slots := 0, locals := 80 } k 4 r 49 [] []) ?_
  intro s q h h1 h2
  intro b0 b1 hs
  subst hs
  unfold X0_choose_B13 at h
  try dsimp only at h
  refine jt_iload_n C dX0_choose_13 rfl 3 rfl ?_
  refine jt_aload_n C dX0_choose_14 rfl 1 rfl ?_
  refine jt_callVi (As := []) (rest := [_]) C hr1 rfl dX0_choose_15 (c_X3_size (jx_l X) k _ _ hr1 _ rfl) (k_goodIn (g_RX0_40)) rfl h_X3_size ⟨rfl, rfl, Nat.le_of_ble_eq_true rfl, Nat.le_of_ble_eq_true rfl⟩ rfl rfl (Nat.le_of_ble_eq_true rfl) ?_
  refine jt_icmp_ge (tgt := 49) C dX0_choose_18 (by decide) (fun c18 => ?_) (fun c18 => ?_)
  · replace h := jm_ift c18 h
    cases h
    exact jt_sub [] rfl (h2 _ rfl)
  · replace h := jm_iff c18 h
    refine jt_iload_n C dX0_choose_21 rfl 2 rfl ?_
    refine jt_iload_n C dX0_choose_22 rfl 3 rfl ?_
    refine jt_ishr C dX0_choose_23 ?_
    refine jt_iconst (v := (1 : Int32)) C dX0_choose_24 (by decide) ?_
    refine jt_iand C dX0_choose_25 ?_
    refine jt_iconst (v := (1 : Int32)) C dX0_choose_26 (by decide) ?_
    refine jt_icmp_ne (tgt := 43) C dX0_choose_27 (by decide) (fun c27 => ?_) (fun c27 => ?_)
    · replace h := jm_iff c27 h
      refine jt_iinc (v := (1 : Int32)) (lv' := [(3, _), (0, _), (1, _), (2, _)]) C dX0_choose_43 3 rfl (by decide) (by decide) rfl ?_
      refine jt_goto (tgt := 13) C dX0_choose_46 (by decide) ?_
      cases h
      exact jt_sub [1, 2, 3, 0] rfl (h1 _ rfl _ _ rfl)
    · replace h := jm_ift c27 h
      refine jt_aload_n C dX0_choose_30 rfl 0 rfl ?_
      refine jt_getR (Tf := TX0) (N := 5) C dX0_choose_31 hr0 rfl i_0 1 (by decide) rfl m_RX0_21 rfl ?_
      refine jt_aload_n C dX0_choose_34 rfl 1 rfl ?_
      refine jt_iload_n C dX0_choose_35 rfl 3 rfl ?_
      obtain ⟨x2, ex2, h⟩ := jm_bind h
      refine jt_callVi (As := [_]) (rest := [_]) C hr1 rfl dX0_choose_36 (c_X3_codeAt (jx_l X) k _ _ _ hr1 _ ex2) (k_goodIn (g_RX0_46)) rfl h_X3_codeAt ⟨rfl, rfl, Nat.le_of_ble_eq_true rfl, Nat.le_of_ble_eq_true rfl⟩ rfl rfl (Nat.le_of_ble_eq_true rfl) ?_
      obtain ⟨⟨x3a, x3b⟩, ex3, h⟩ := jm_bind h
      try dsimp only at h
      refine jt_callVi (As := [_]) (rest := []) C (jm_f0_1 hr0) rfl dX0_choose_39 (c_X3_put (jx_l X) k n _ _ _ (jm_f0_1 hr0) _ _ ex3) (k_goodIn (g_RX0_75)) rfl h_X3_put ⟨rfl, rfl, Nat.le_of_ble_eq_true rfl, Nat.le_of_ble_eq_true rfl⟩ rfl rfl (Nat.le_of_ble_eq_true rfl) ?_
      refine jt_pop C dX0_choose_42 rfl ?_
      refine jt_iinc (v := (1 : Int32)) (lv' := [(3, _), (0, _), (1, _), (2, _)]) C dX0_choose_43 3 rfl (by decide) (by decide) rfl ?_
      refine jt_goto (tgt := 13) C dX0_choose_46 (by decide) ?_
      cases h
      exact jt_sub [1, 2, 3, 0] rfl (h1 _ rfl _ _ rfl)
set_option maxHeartbeats 4000000 in
set_option maxRecDepth 100000 in
theorem c_X0_choose (l : Launch) (k : jm_C) (n : Nat) (r0 : Nat) (r1 : Nat) (v2 : Int32) (M : jm_M) (hr0 : jm_is r0 (3, 0)) (hr1 : jm_is r1 (3, 3)) (q : jm_M) (h : X0_choose n r0 r1 v2 M = some q) : jm_Cv l k yX0_choose w_X0_choose { frames := 2, cells := 0, slots := 0, locals := 80 } [.ref (jm_ad k r0), .ref (jm_ad k r1), .int v2] M q := by
  refine jm_entry_v (cc := cX0_choose) (nL := 4) (ret := none) (by decide) rfl (Nat.le_of_ble_eq_true rfl) ?_
  intro X hX C hQ hr
  subst hX
  unfold X0_choose at h
  refine jt_aload_n C dX0_choose_0 rfl 0 rfl ?_
  refine jt_getR (Tf := TX0) (N := 5) C dX0_choose_1 hr0 rfl i_0 1 (by decide) rfl m_RX0_21 rfl ?_
  refine jt_aload_n C dX0_choose_4 rfl 1 rfl ?_
  refine jt_callVi (As := []) (rest := [_]) C hr1 rfl dX0_choose_5 (c_X3_h (jx_l X) k _ _ hr1 _ rfl) (k_goodIn (g_RX0_43)) rfl h_X3_h ⟨rfl, rfl, Nat.le_of_ble_eq_true rfl, Nat.le_of_ble_eq_true rfl⟩ rfl rfl (Nat.le_of_ble_eq_true rfl) ?_
  obtain ⟨M1, eM1, h⟩ := jm_bind h
  refine jt_callVv (As := [_]) (rest := []) C (jm_f0_1 hr0) rfl dX0_choose_8 (c_X3_start (jx_l X) k _ _ _ (jm_f0_1 hr0) _ eM1) (k_goodIn (g_RX0_72)) rfl h_X3_start ⟨rfl, rfl, Nat.le_of_ble_eq_true rfl, Nat.le_of_ble_eq_true rfl⟩ rfl rfl (Nat.le_of_ble_eq_true rfl) ?_
  refine jt_iconst (v := (0 : Int32)) C dX0_choose_11 (by decide) ?_
  refine jt_istore_n (lv' := [(3, _), (0, _), (1, _), (2, _)]) C dX0_choose_12 rfl (by decide) rfl ?_
  obtain ⟨q4, eq4, h⟩ := jm_bind h
  refine jt_sub [1, 2, 3, 0] rfl ?_
  refine t_X0_choose_L13 C n _ _ _ hr0 hr1 n _ _ eq4 ?_ _ _ rfl
  cases h
  exact jt_vret C dX0_choose_49 hQ hr
