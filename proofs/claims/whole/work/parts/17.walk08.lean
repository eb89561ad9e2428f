theorem h_X9_bitOf : yX9_bitOf.cls ≠ "java/lang/invoke/MethodHandle" ∧ yX9_bitOf.cls ≠ "java/lang/invoke/VarHandle" ∧ (parseMethodDescriptor yX9_bitOf.desc).map (fun d => d.parameters.length) = some 3 := by decide +kernel
set_option maxHeartbeats 4000000 in
set_option maxRecDepth 100000 in
theorem c_X9_bitOf (l : Launch) (k : jm_C) (v0 : Int32) (v1 : Int32) (v2 : Int32) (M : jm_M)  (q : Int32) (h : X9_bitOf v0 v1 v2 = q) : jm_Ci l k yX9_bitOf w_X9_bitOf { frames := 1, cells := 0, slots := 0, locals := 40 } [.int v0, .int v1, .int v2] M q M := by
  refine jm_entry_i (cc := cX9_bitOf) (nL := 5) (ret := (some .int)) (by decide) rfl (Nat.le_of_ble_eq_true rfl) ?_
  intro X hX C hQ hr
  subst hX
  unfold X9_bitOf at h
  refine jt_iload_n C dX9_bitOf_0 rfl 1 rfl ?_
  refine jt_iload_n C dX9_bitOf_1 rfl 2 rfl ?_
  refine jt_icmp_ge (tgt := 9) C dX9_bitOf_2 (by decide) (fun c2 => ?_) (fun c2 => ?_)
  · replace h := jm_ift c2 h
    refine jt_iload_n C dX9_bitOf_9 rfl 2 rfl ?_
    refine jt_istore_n (lv' := [(3, _), (0, _), (1, _), (2, _)]) C dX9_bitOf_10 rfl (by decide) rfl ?_
    refine jt_iload_n C dX9_bitOf_11 rfl 2 rfl ?_
    refine jt_iload_n C dX9_bitOf_12 rfl 3 rfl ?_
    refine jt_icmp_ge (tgt := 20) C dX9_bitOf_13 (by decide) (fun c13 => ?_) (fun c13 => ?_)
    · replace h := jm_ift c13 h
      refine jt_iload_n C dX9_bitOf_20 rfl 2 rfl ?_
      refine jt_istore (lv' := [(4, _), (3, _), (0, _), (1, _), (2, _)]) C dX9_bitOf_21 (by decide) rfl ?_
      refine jt_iload_n C dX9_bitOf_23 rfl 2 rfl ?_
      refine jt_callSi (As := [_]) (rest := []) C dX9_bitOf_24 (c_X9_pairs (jx_l X) k _ _ _ rfl) (k_goodIn (g_RX9_58)) rfl h_X9_pairs ⟨rfl, rfl, Nat.le_of_ble_eq_true rfl, Nat.le_of_ble_eq_true rfl⟩ rfl rfl (Nat.le_of_ble_eq_true rfl) ?_
      refine jt_iconst (v := (1 : Int32)) C dX9_bitOf_27 (by decide) ?_
      refine jt_isub C dX9_bitOf_28 ?_
      refine jt_iload C dX9_bitOf_29 0 rfl ?_
      refine jt_callSi (As := [_]) (rest := [_]) C dX9_bitOf_31 (c_X9_pairs (jx_l X) k _ _ _ rfl) (k_goodIn (g_RX9_58)) rfl h_X9_pairs ⟨rfl, rfl, Nat.le_of_ble_eq_true rfl, Nat.le_of_ble_eq_true rfl⟩ rfl rfl (Nat.le_of_ble_eq_true rfl) ?_
      refine jt_isub C dX9_bitOf_34 ?_
      refine jt_iload_n C dX9_bitOf_35 rfl 1 rfl ?_
      refine jt_isub C dX9_bitOf_36 ?_
      subst h
      exact jt_iret C dX9_bitOf_37 hQ hr
    · replace h := jm_iff c13 h
      refine jt_iload_n C dX9_bitOf_16 rfl 3 rfl ?_
      refine jt_goto (tgt := 21) C dX9_bitOf_17 (by decide) ?_
      refine jt_istore (lv' := [(4, _), (3, _), (0, _), (1, _), (2, _)]) C dX9_bitOf_21 (by decide) rfl ?_
      refine jt_iload_n C dX9_bitOf_23 rfl 2 rfl ?_
      refine jt_callSi (As := [_]) (rest := []) C dX9_bitOf_24 (c_X9_pairs (jx_l X) k _ _ _ rfl) (k_goodIn (g_RX9_58)) rfl h_X9_pairs ⟨rfl, rfl, Nat.le_of_ble_eq_true rfl, Nat.le_of_ble_eq_true rfl⟩ rfl rfl (Nat.le_of_ble_eq_true rfl) ?_
      refine jt_iconst (v := (1 : Int32)) C dX9_bitOf_27 (by decide) ?_
      refine jt_isub C dX9_bitOf_28 ?_
      refine jt_iload C dX9_bitOf_29 0 rfl ?_
      refine jt_callSi (As := [_]) (rest := [_]) C dX9_bitOf_31 (c_X9_pairs (jx_l X) k _ _ _ rfl) (k_goodIn (g_RX9_58)) rfl h_X9_pairs ⟨rfl, rfl, Nat.le_of_ble_eq_true rfl, Nat.le_of_ble_eq_true rfl⟩ rfl rfl (Nat.le_of_ble_eq_true rfl) ?_
      refine jt_isub C dX9_bitOf_34 ?_
      refine jt_iload_n C dX9_bitOf_35 rfl 1 rfl ?_
      refine jt_isub C dX9_bitOf_36 ?_
      subst h
      exact jt_iret C dX9_bitOf_37 hQ hr
  · replace h := jm_iff c2 h
    refine jt_iload_n C dX9_bitOf_5 rfl 1 rfl ?_
    refine jt_goto (tgt := 10) C dX9_bitOf_6 (by decide) ?_
    refine jt_istore_n (lv' := [(3, _), (0, _), (1, _), (2, _)]) C dX9_bitOf_10 rfl (by decide) rfl ?_
    refine jt_iload_n C dX9_bitOf_11 rfl 2 rfl ?_
    refine jt_iload_n C dX9_bitOf_12 rfl 3 rfl ?_
    refine jt_icmp_ge (tgt := 20) C dX9_bitOf_13 (by decide) (fun c13 => ?_) (fun c13 => ?_)
    · replace h := jm_ift c13 h
      refine jt_iload_n C dX9_bitOf_20 rfl 2 rfl ?_
      refine jt_istore (lv' := [(4, _), (3, _), (0, _), (1, _), (2, _)]) C dX9_bitOf_21 (by decide) rfl ?_
      refine jt_iload_n C dX9_bitOf_23 rfl 2 rfl ?_
      refine jt_callSi (As := [_]) (rest := []) C dX9_bitOf_24 (c_X9_pairs (jx_l X) k _ _ _ rfl) (k_goodIn (g_RX9_58)) rfl h_X9_pairs ⟨rfl, rfl, Nat.le_of_ble_eq_true rfl, Nat.le_of_ble_eq_true rfl⟩ rfl rfl (Nat.le_of_ble_eq_true rfl) ?_
      refine jt_iconst (v := (1 : Int32)) C dX9_bitOf_27 (by decide) ?_
      refine jt_isub C dX9_bitOf_28 ?_
      refine jt_iload C dX9_bitOf_29 0 rfl ?_
      refine jt_callSi (As := [_]) (rest := [_]) C dX9_bitOf_31 (c_X9_pairs (jx_l X) k _ _ _ rfl) (k_goodIn (g_RX9_58)) rfl h_X9_pairs ⟨rfl, rfl, Nat.le_of_ble_eq_true rfl, Nat.le_of_ble_eq_true rfl⟩ rfl rfl (Nat.le_of_ble_eq_true rfl) ?_
      refine jt_isub C dX9_bitOf_34 ?_
      refine jt_iload_n C dX9_bitOf_35 rfl 1 rfl ?_
      refine jt_isub C dX9_bitOf_36 ?_
      subst h
      exact jt_iret C dX9_bitOf_37 hQ hr
    · replace h := jm_iff c13 h
      refine jt_iload_n C dX9_bitOf_16 rfl 3 rfl ?_
      refine jt_goto (tgt := 21) C dX9_bitOf_17 (by decide) ?_
      refine jt_istore (lv' := [(4, _), (3, _), (0, _), (1, _), (2, _)]) C dX9_bitOf_21 (by decide) rfl ?_
      refine jt_iload_n C dX9_bitOf_23 rfl 2 rfl ?_
      refine jt_callSi (As := [_]) (rest := []) C dX9_bitOf_24 (c_X9_pairs (jx_l X) k _ _ _ rfl) (k_goodIn (g_RX9_58)) rfl h_X9_pairs ⟨rfl, rfl, Nat.le_of_ble_eq_true rfl, Nat.le_of_ble_eq_true rfl⟩ rfl rfl (Nat.le_of_ble_eq_true rfl) ?_
      refine jt_iconst (v := (1 : Int32)) C dX9_bitOf_27 (by decide) ?_
      refine jt_isub C dX9_bitOf_28 ?_
      refine jt_iload C dX9_bitOf_29 0 rfl ?_
      refine jt_callSi (As := [_]) (rest := [_]) C dX9_bitOf_31 (c_X9_pairs (jx_l X) k _ _ _ rfl) (k_goodIn (g_RX9_58)) rfl h_X9_pairs ⟨rfl, rfl, Nat.le_of_ble_eq_true rfl, Nat.le_of_ble_eq_true rfl⟩ rfl rfl (Nat.le_of_ble_eq_true rfl) ?_
      refine jt_isub C dX9_bitOf_34 ?_
      refine jt_iload_n C dX9_bitOf_35 rfl 1 rfl ?_
      refine jt_isub C dX9_bitOf_36 ?_
      subst h
      exact jt_iret C dX9_bitOf_37 hQ hr
theorem h_X9_isEdge : yX9_isEdge.cls ≠ "java/lang/invoke/MethodHandle" ∧ yX9_isEdge.cls ≠ "java/lang/invoke/VarHandle" ∧ (parseMethodDescriptor yX9_isEdge.desc).map (fun d => d.parameters.length) = some 4 := by decide +kernel
set_option maxHeartbeats 4000000 in
set_option maxRecDepth 100000 in
theorem c_X9_isEdge (l : Launch) (k : jm_C) (v0 : Int32) (v1 : Int32) (v2 : Int32) (v3 : Int32) (M : jm_M)  (q : Int32) (h : X9_isEdge v0 v1 v2 v3 = q) : jm_Ci l k yX9_isEdge w_X9_isEdge { frames := 2, cells := 0, slots := 0, locals := 80 } [.int v0, .int v1, .int v2, .int v3] M q M := by
  refine jm_entry_i (cc := cX9_isEdge) (nL := 4) (ret := (some .int)) (by decide) rfl (Nat.le_of_ble_eq_true rfl) ?_
  intro X hX C hQ hr
  subst hX
  unfold X9_isEdge at h
  refine jt_iload_n C dX9_isEdge_0 rfl 2 rfl ?_
  refine jt_iload_n C dX9_isEdge_1 rfl 3 rfl ?_
  refine jt_icmp_ne (tgt := 9) C dX9_isEdge_2 (by decide) (fun c2 => ?_) (fun c2 => ?_)
  · replace h := jm_iff c2 h
    refine jt_iload_n C dX9_isEdge_9 rfl 1 rfl ?_
    refine jt_iload_n C dX9_isEdge_10 rfl 0 rfl ?_
    refine jt_iload_n C dX9_isEdge_11 rfl 2 rfl ?_
    refine jt_iload_n C dX9_isEdge_12 rfl 3 rfl ?_
    refine jt_callSi (As := [_, _, _]) (rest := [_]) C dX9_isEdge_13 (c_X9_bitOf (jx_l X) k _ _ _ _ _ rfl) (k_goodIn (g_RX9_62)) rfl h_X9_bitOf ⟨rfl, rfl, Nat.le_of_ble_eq_true rfl, Nat.le_of_ble_eq_true rfl⟩ rfl rfl (Nat.le_of_ble_eq_true rfl) ?_
    refine jt_ishr C dX9_isEdge_16 ?_
    refine jt_iconst (v := (1 : Int32)) C dX9_isEdge_17 (by decide) ?_
    refine jt_iand C dX9_isEdge_18 ?_
    subst h
    exact jt_iret C dX9_isEdge_19 hQ hr
  · replace h := jm_ift c2 h
    refine jt_iconst (v := (0 : Int32)) C dX9_isEdge_5 (by decide) ?_
    refine jt_goto (tgt := 19) C dX9_isEdge_6 (by decide) ?_
    subst h
    exact jt_iret C dX9_isEdge_19 hQ hr
theorem h_X9_bits : yX9_bits.cls ≠ "java/lang/invoke/MethodHandle" ∧ yX9_bits.cls ≠ "java/lang/invoke/VarHandle" ∧ (parseMethodDescriptor yX9_bits.desc).map (fun d => d.parameters.length) = some 1 := by decide +kernel
set_option maxHeartbeats 4000000 in
set_option maxRecDepth 100000 in
theorem t_X9_bits_L4 {X : jm_X} {k : jm_C} (C : jm_Cx X k cX9_bits 3 RX9 w_X9_bits) (v0 : Int32) (M : jm_M)  : ∀ (m : Nat) (s : Int32 × Int32) (r : Int32), jm_loop (X9_bits_B4 v0) m s = some r → jm_T X { frames := 0, cells := 0, slots := 0, locals := 0 } k 3 M 24 [(1, .int r)] [] → (∀ (b0 : Int32) (b1 : Int32), s = (b0, b1) → jm_T X { frames := 0, cells := 0, slots := 0, locals := 0 } k 3 M 4 [(0, .int v0), (1, .int b0), (2, .int b1)] []) := by
  refine jm_loop_ind (P := fun (s : Int32 × Int32) => (∀ (b0 : Int32) (b1 : Int32), s = (b0, b1) → jm_T X { frames := 0, cells := 0, slots := 0, locals := 0 } k 3 M 4 [(0, .int v0), (1, .int b0), (2, .int b1)] [])) (K := fun (r : Int32) => jm_T X { frames := 0, cells := 0, slots := 0, locals := 0 } k 3 M 24 [(1, .int r)] []) ?_
  intro s q h h1 h2
  intro b0 b1 hs
  subst hs
  unfold X9_bits_B4 at h
  try dsimp only at h
  refine jt_iload_n C dX9_bits_4 rfl 2 rfl ?_
  refine jt_bipush (v := (30 : Int32)) C dX9_bits_5 (by decide) ?_
  refine jt_icmp_ge (tgt := 24) C dX9_bits_7 (by decide) (fun c7 => ?_) (fun c7 => ?_)
  · replace h := jm_ift c7 h
    cases h
    exact jt_sub [1] rfl (h2 _ rfl)
  · replace h := jm_iff c7 h
    refine jt_iload_n C dX9_bits_10 rfl 1 rfl ?_
    refine jt_iload_n C dX9_bits_11 rfl 0 rfl ?_
    refine jt_iload_n C dX9_bits_12 rfl 2 rfl ?_
    refine jt_ishr C dX9_bits_13 ?_
    refine jt_iconst (v := (1 : Int32)) C dX9_bits_14 (by decide) ?_
    refine jt_iand C dX9_bits_15 ?_
    refine jt_iadd C dX9_bits_16 ?_
    refine jt_istore_n (lv' := [(1, _), (0, _), (2, _)]) C dX9_bits_17 rfl (by decide) rfl ?_
    refine jt_iinc (v := (1 : Int32)) (lv' := [(2, _), (1, _), (0, _)]) C dX9_bits_18 2 rfl (by decide) (by decide) rfl ?_
    refine jt_goto (tgt := 4) C dX9_bits_21 (by decide) ?_
    cases h
    exact jt_sub [2, 1, 0] rfl (h1 _ rfl _ _ rfl)
set_option maxHeartbeats 4000000 in
set_option maxRecDepth 100000 in
theorem c_X9_bits (l : Launch) (k : jm_C) (n : Nat) (v0 : Int32) (M : jm_M)  (q : Int32) (h : X9_bits n v0 = some q) : jm_Ci l k yX9_bits w_X9_bits { frames := 0, cells := 0, slots := 0, locals := 0 } [.int v0] M q M := by
  refine jm_entry_i (cc := cX9_bits) (nL := 3) (ret := (some .int)) (by decide) rfl (Nat.le_of_ble_eq_true rfl) ?_
  intro X hX C hQ hr
  subst hX
  unfold X9_bits at h
  refine jt_iconst (v := (0 : Int32)) C dX9_bits_0 (by decide) ?_
  refine jt_istore_n (lv' := [(1, _), (0, _)]) C dX9_bits_1 rfl (by decide) rfl ?_
  refine jt_iconst (v := (0 : Int32)) C dX9_bits_2 (by decide) ?_
  refine jt_istore_n (lv' := [(2, _), (1, _), (0, _)]) C dX9_bits_3 rfl (by decide) rfl ?_
  obtain ⟨q1, eq1, h⟩ := jm_bind h
  refine jt_sub [2, 1, 0] rfl ?_
  refine t_X9_bits_L4 C _ _ n _ _ eq1 ?_ _ _ rfl
  refine jt_iload_n C dX9_bits_24 rfl 0 rfl ?_
  cases h
  exact jt_iret C dX9_bits_25 hQ hr
theorem h_X9_neighbours : yX9_neighbours.cls ≠ "java/lang/invoke/MethodHandle" ∧ yX9_neighbours.cls ≠ "java/lang/invoke/VarHandle" ∧ (parseMethodDescriptor yX9_neighbours.desc).map (fun d => d.parameters.length) = some 3 := by decide +kernel
set_option maxHeartbeats 4000000 in
set_option maxRecDepth 100000 in
theorem t_X9_neighbours_L5 {X : jm_X} {k : jm_C} (C : jm_Cx X k cX9_neighbours 5 RX9 w_X9_neighbours) (v0 : Int32) (v1 : Int32) (v2 : Int32) (M : jm_M)  : ∀ (m : Nat) (s : Int32 × Int32) (r : Int32), jm_loop (X9_neighbours_B5 v0 v1 v2) m s = some r → jm_T X { frames := 3, cells := 0, slots := 0, locals := 120 } k 5 M 31 [(3, .int r)] [] → (∀ (b0 : Int32) (b1 : Int32), s = (b0, b1) → jm_T X { frames := 3, cells := 0, slots := 0, locals := 120 } k 5 M 5 [(0, .int v0), (1, .int v1), (2, .int v2), (3, .int b0), (4, .int b1)] []) := by
  refine jm_loop_ind (P := fun (s : Int32 × Int32) => (∀ (b0 : Int32) (b1 : Int32), s = (b0, b1) → jm_T X { frames := 3, cells := 0, slots := 0, locals := 120 } k 5 M 5 [(0, .int v0), (1, .int v1), (2, .int v2), (3, .int b0), (4, .int b1)] [])) (K := fun (r : Int32) => jm_T X { frames := 3, cells := 0, slots := 0, locals := 120 } k 5 M 31 [(3, .int r)] []) ?_
  intro s q h h1 h2
  intro b0 b1 hs
  subst hs
  unfold X9_neighbours_B5 at h
  try dsimp only at h
  refine jt_iload C dX9_neighbours_5 4 rfl ?_
  refine jt_iload_n C dX9_neighbours_7 rfl 0 rfl ?_
  refine jt_icmp_ge (tgt := 31) C dX9_neighbours_8 (by decide) (fun c8 => ?_) (fun c8 => ?_)
  · replace h := jm_ift c8 h
    cases h
    exact jt_sub [3] rfl (h2 _ rfl)
  · replace h := jm_iff c8 h
    refine jt_iload_n C dX9_neighbours_11 rfl 3 rfl ?_
    refine jt_iload_n C dX9_neighbours_12 rfl 0 rfl ?_
    refine jt_iload_n C dX9_neighbours_13 rfl 1 rfl ?_
    refine jt_iload C dX9_neighbours_14 4 rfl ?_
    refine jt_iload_n C dX9_neighbours_16 rfl 2 rfl ?_
    refine jt_callSi (As := [_, _, _, _]) (rest := [_]) C dX9_neighbours_17 (c_X9_isEdge (jx_l X) k _ _ _ _ _ _ rfl) (k_goodIn (g_RX9_66)) rfl h_X9_isEdge ⟨rfl, rfl, Nat.le_of_ble_eq_true rfl, Nat.le_of_ble_eq_true rfl⟩ rfl rfl (Nat.le_of_ble_eq_true rfl) ?_
    refine jt_iload C dX9_neighbours_20 4 rfl ?_
    refine jt_ishl C dX9_neighbours_22 ?_
    refine jt_ior C dX9_neighbours_23 ?_
    refine jt_istore_n (lv' := [(3, _), (0, _), (1, _), (2, _), (4, _)]) C dX9_neighbours_24 rfl (by decide) rfl ?_
    refine jt_iinc (v := (1 : Int32)) (lv' := [(4, _), (3, _), (0, _), (1, _), (2, _)]) C dX9_neighbours_25 4 rfl (by decide) (by decide) rfl ?_
    refine jt_goto (tgt := 5) C dX9_neighbours_28 (by decide) ?_
    cases h
    exact jt_sub [2, 3, 4, 1, 0] rfl (h1 _ rfl _ _ rfl)
set_option maxHeartbeats 4000000 in
set_option maxRecDepth 100000 in
theorem c_X9_neighbours (l : Launch) (k : jm_C) (n : Nat) (v0 : Int32) (v1 : Int32) (v2 : Int32) (M : jm_M)  (q : Int32) (h : X9_neighbours n v0 v1 v2 = some q) : jm_Ci l k yX9_neighbours w_X9_neighbours { frames := 3, cells := 0, slots := 0, locals := 120 } [.int v0, .int v1, .int v2] M q M := by
  refine jm_entry_i (cc := cX9_neighbours) (nL := 5) (ret := (some .int)) (by decide) rfl (Nat.le_of_ble_eq_true rfl) ?_
  intro X hX C hQ hr
  subst hX
  unfold X9_neighbours at h
  refine jt_iconst (v := (0 : Int32)) C dX9_neighbours_0 (by decide) ?_
  refine jt_istore_n (lv' := [(3, _), (0, _), (1, _), (2, _)]) C dX9_neighbours_1 rfl (by decide) rfl ?_
  refine jt_iconst (v := (0 : Int32)) C dX9_neighbours_2 (by decide) ?_
  refine jt_istore (lv' := [(4, _), (3, _), (0, _), (1, _), (2, _)]) C dX9_neighbours_3 (by decide) rfl ?_
  obtain ⟨q1, eq1, h⟩ := jm_bind h
  refine jt_sub [2, 3, 4, 1, 0] rfl ?_
  refine t_X9_neighbours_L5 C _ _ _ _ n _ _ eq1 ?_ _ _ rfl
  refine jt_iload_n C dX9_neighbours_31 rfl 0 rfl ?_
  cases h
  exact jt_iret C dX9_neighbours_32 hQ hr
theorem h_X9_begin : yX9_begin.cls = RX9 ∧ yX9_begin.cls ≠ "java/lang/invoke/MethodHandle" ∧ yX9_begin.cls ≠ "java/lang/invoke/VarHandle" ∧ (parseMethodDescriptor yX9_begin.desc).map (fun d => d.parameters.length) = some 1 := by decide +kernel
set_option maxHeartbeats 4000000 in
set_option maxRecDepth 100000 in
theorem c_X9_begin (l : Launch) (k : jm_C) (n : Nat) (r0 : Nat) (v1 : Int32) (M : jm_M) (hr0 : jm_is r0 (3, 8)) (q1 : Int32) (q2 : jm_M) (h : X9_begin n r0 v1 M = some (q1, q2)) : jm_Ci l k yX9_begin w_X9_begin { frames := 1, cells := 0, slots := 0, locals := 40 } [.ref (jm_ad k r0), .int v1] M q1 q2 := by
  refine jm_entry_i (cc := cX9_begin) (nL := 3) (ret := (some .int)) (by decide) rfl (Nat.le_of_ble_eq_true rfl) ?_
  intro X hX C hQ hr
  subst hX
  unfold X9_begin at h
  refine jt_iload_n C dX9_begin_0 rfl 1 rfl ?_
  refine jt_iconst (v := (1 : Int32)) C dX9_begin_1 (by decide) ?_
  refine jt_bipush (v := (8 : Int32)) C dX9_begin_2 (by decide) ?_
  refine jt_callSi (As := [_, _, _]) (rest := []) C dX9_begin_4 (c_X9_isIn (jx_l X) k _ _ _ _ _ rfl) (k_goodIn (g_RX9_50)) rfl h_X9_isIn ⟨rfl, rfl, Nat.le_of_ble_eq_true rfl, Nat.le_of_ble_eq_true rfl⟩ rfl rfl (Nat.le_of_ble_eq_true rfl) ?_
  refine jt_if_ne (tgt := 12) C dX9_begin_7 (by decide) (fun c7 => ?_) (fun c7 => ?_)
  · replace h := jm_iff c7 h
    refine jt_aload_n C dX9_begin_12 rfl 0 rfl ?_
    obtain ⟨M1, eM1, h⟩ := jm_bind h
    refine jt_callVv (As := []) (rest := []) C hr0 rfl dX9_begin_13 (c_X9_remember (jx_l X) k n _ _ hr0 _ eM1) (k_goodIn (g_RX9_70)) rfl h_X9_remember ⟨rfl, rfl, Nat.le_of_ble_eq_true rfl, Nat.le_of_ble_eq_true rfl⟩ rfl rfl (Nat.le_of_ble_eq_true rfl) ?_
    refine jt_aload_n C dX9_begin_16 rfl 0 rfl ?_
    refine jt_getR (Tf := TX9) (N := 17) C dX9_begin_17 hr0 rfl i_9 0 (by decide) rfl m_RX9_7 rfl ?_
    refine jt_iconst (v := (0 : Int32)) C dX9_begin_20 (by decide) ?_
    obtain ⟨x2, ex2, h⟩ := jm_bind h
    refine jt_iald C dX9_begin_21 (jm_f8_0 hr0) ex2 ?_
    refine jt_istore_n (lv' := [(2, _), (0, _), (1, _)]) C dX9_begin_22 rfl (by decide) rfl ?_
    refine jt_aload_n C dX9_begin_23 rfl 1 rfl ?_
    refine jt_getR (Tf := TX9) (N := 17) C dX9_begin_24 hr0 rfl i_9 0 (by decide) rfl m_RX9_7 rfl ?_
    refine jt_iconst (v := (0 : Int32)) C dX9_begin_27 (by decide) ?_
    refine jt_iload_n C dX9_begin_28 rfl 2 rfl ?_
    obtain ⟨M3, eM3, h⟩ := jm_bind h
    refine jt_iast C dX9_begin_29 (jm_f8_0 hr0) eM3 ?_
    refine jt_aload_n C dX9_begin_30 rfl 1 rfl ?_
    refine jt_getR (Tf := TX9) (N := 17) C dX9_begin_31 hr0 rfl i_9 0 (by decide) rfl m_RX9_7 rfl ?_
    refine jt_iconst (v := (1 : Int32)) C dX9_begin_34 (by decide) ?_
    refine jt_iconst (v := (0 : Int32)) C dX9_begin_35 (by decide) ?_
    obtain ⟨M4, eM4, h⟩ := jm_bind h
    refine jt_iast C dX9_begin_36 (jm_f8_0 hr0) eM4 ?_
    refine jt_iload_n C dX9_begin_37 rfl 0 rfl ?_
    cases h
    exact jt_iret C dX9_begin_38 hQ hr
  · replace h := jm_ift c7 h
    refine jt_iconst (v := (-1 : Int32)) C dX9_begin_10 (by decide) ?_
    cases h
    exact jt_iret C dX9_begin_11 hQ hr
theorem h_X9_edge : yX9_edge.cls = RX9 ∧ yX9_edge.cls ≠ "java/lang/invoke/MethodHandle" ∧ yX9_edge.cls ≠ "java/lang/invoke/VarHandle" ∧ (parseMethodDescriptor yX9_edge.desc).map (fun d => d.parameters.length) = some 3 := by decide +kernel
set_option maxHeartbeats 4000000 in
set_option maxRecDepth 100000 in
theorem c_X9_edge (l : Launch) (k : jm_C) (n : Nat) (r0 : Nat) (v1 : Int32) (v2 : Int32) (v3 : Int32) (M : jm_M) (hr0 : jm_is r0 (3, 8)) (q1 : Int32) (q2 : jm_M) (h : X9_edge n r0 v1 v2 v3 M = some (q1, q2)) : jm_Ci l k yX9_edge w_X9_edge { frames := 2, cells := 0, slots := 0, locals := 80 } [.ref (jm_ad k r0), .int v1, .int v2, .int v3] M q1 q2 := by
  refine jm_entry_i (cc := cX9_edge) (nL := 6) (ret := (some .int)) (by decide) rfl (Nat.le_of_ble_eq_true rfl) ?_
  intro X hX C hQ hr
  subst hX
  unfold X9_edge at h
  refine jt_aload_n C dX9_edge_0 rfl 0 rfl ?_
  refine jt_iload_n C dX9_edge_1 rfl 1 rfl ?_
  obtain ⟨x1, ex1, h⟩ := jm_bind h
  refine jt_callVi (As := [_]) (rest := []) C hr0 rfl dX9_edge_2 (c_X9_isVertex (jx_l X) k _ _ _ hr0 _ ex1) (k_goodIn (g_RX9_73)) rfl h_X9_isVertex ⟨rfl, rfl, Nat.le_of_ble_eq_true rfl, Nat.le_of_ble_eq_true rfl⟩ rfl rfl (Nat.le_of_ble_eq_true rfl) ?_
  refine jt_if_eq (tgt := 30) C dX9_edge_5 (by decide) (fun c5 => ?_) (fun c5 => ?_)
  · replace h := jm_ift c5 h
    refine jt_iconst (v := (-1 : Int32)) C dX9_edge_30 (by decide) ?_
    cases h
    exact jt_iret C dX9_edge_31 hQ hr
  · replace h := jm_iff c5 h
    refine jt_aload_n C dX9_edge_8 rfl 0 rfl ?_
    refine jt_iload_n C dX9_edge_9 rfl 2 rfl ?_
    obtain ⟨x2, ex2, h⟩ := jm_bind h
    refine jt_callVi (As := [_]) (rest := []) C hr0 rfl dX9_edge_10 (c_X9_isVertex (jx_l X) k _ _ _ hr0 _ ex2) (k_goodIn (g_RX9_73)) rfl h_X9_isVertex ⟨rfl, rfl, Nat.le_of_ble_eq_true rfl, Nat.le_of_ble_eq_true rfl⟩ rfl rfl (Nat.le_of_ble_eq_true rfl) ?_
    refine jt_if_eq (tgt := 30) C dX9_edge_13 (by decide) (fun c13 => ?_) (fun c13 => ?_)
    · replace h := jm_ift c13 h
      refine jt_iconst (v := (-1 : Int32)) C dX9_edge_30 (by decide) ?_
      cases h
      exact jt_iret C dX9_edge_31 hQ hr
    · replace h := jm_iff c13 h
      refine jt_iload_n C dX9_edge_16 rfl 1 rfl ?_
      refine jt_iload_n C dX9_edge_17 rfl 2 rfl ?_
      refine jt_icmp_eq (tgt := 30) C dX9_edge_18 (by decide) (fun c18 => ?_) (fun c18 => ?_)
      · replace h := jm_ift c18 h
        refine jt_iconst (v := (-1 : Int32)) C dX9_edge_30 (by decide) ?_
        cases h
        exact jt_iret C dX9_edge_31 hQ hr
      · replace h := jm_iff c18 h
        refine jt_iload_n C dX9_edge_21 rfl 3 rfl ?_
        refine jt_iconst (v := (0 : Int32)) C dX9_edge_22 (by decide) ?_
        refine jt_iconst (v := (1 : Int32)) C dX9_edge_23 (by decide) ?_
        refine jt_callSi (As := [_, _, _]) (rest := []) C dX9_edge_24 (c_X9_isIn (jx_l X) k _ _ _ _ _ rfl) (k_goodIn (g_RX9_50)) rfl h_X9_isIn ⟨rfl, rfl, Nat.le_of_ble_eq_true rfl, Nat.le_of_ble_eq_true rfl⟩ rfl rfl (Nat.le_of_ble_eq_true rfl) ?_
        refine jt_if_ne (tgt := 32) C dX9_edge_27 (by decide) (fun c27 => ?_) (fun c27 => ?_)
        · replace h := jm_iff c27 h
          refine jt_aload_n C dX9_edge_32 rfl 0 rfl ?_
          obtain ⟨M3, eM3, h⟩ := jm_bind h
          refine jt_callVv (As := []) (rest := []) C hr0 rfl dX9_edge_33 (c_X9_remember (jx_l X) k n _ _ hr0 _ eM3) (k_goodIn (g_RX9_70)) rfl h_X9_remember ⟨rfl, rfl, Nat.le_of_ble_eq_true rfl, Nat.le_of_ble_eq_true rfl⟩ rfl rfl (Nat.le_of_ble_eq_true rfl) ?_
          refine jt_aload_n C dX9_edge_36 rfl 0 rfl ?_
          refine jt_getR (Tf := TX9) (N := 17) C dX9_edge_37 hr0 rfl i_9 0 (by decide) rfl m_RX9_7 rfl ?_
          refine jt_iconst (v := (0 : Int32)) C dX9_edge_40 (by decide) ?_
          obtain ⟨x4, ex4, h⟩ := jm_bind h
          refine jt_iald C dX9_edge_41 (jm_f8_0 hr0) ex4 ?_
          refine jt_iload_n C dX9_edge_42 rfl 1 rfl ?_
          refine jt_iload_n C dX9_edge_43 rfl 2 rfl ?_
          refine jt_callSi (As := [_, _, _]) (rest := []) C dX9_edge_44 (c_X9_bitOf (jx_l X) k _ _ _ _ _ rfl) (k_goodIn (g_RX9_62)) rfl h_X9_bitOf ⟨rfl, rfl, Nat.le_of_ble_eq_true rfl, Nat.le_of_ble_eq_true rfl⟩ rfl rfl (Nat.le_of_ble_eq_true rfl) ?_
          refine jt_istore (lv' := [(4, _), (0, _), (1, _), (2, _), (3, _)]) C dX9_edge_47 (by decide) rfl ?_
          refine jt_aload_n C dX9_edge_49 rfl 1 rfl ?_
          refine jt_getR (Tf := TX9) (N := 17) C dX9_edge_50 hr0 rfl i_9 0 (by decide) rfl m_RX9_7 rfl ?_
          refine jt_iconst (v := (1 : Int32)) C dX9_edge_53 (by decide) ?_
          obtain ⟨x5, ex5, h⟩ := jm_bind h
          refine jt_iald C dX9_edge_54 (jm_f8_0 hr0) ex5 ?_
          refine jt_iload C dX9_edge_55 0 rfl ?_
          refine jt_ishr C dX9_edge_57 ?_
          refine jt_iconst (v := (1 : Int32)) C dX9_edge_58 (by decide) ?_
          refine jt_iand C dX9_edge_59 ?_
          refine jt_istore (lv' := [(5, _), (4, _), (0, _), (1, _), (2, _), (3, _)]) C dX9_edge_60 (by decide) rfl ?_
          refine jt_aload_n C dX9_edge_62 rfl 2 rfl ?_
          refine jt_getR (Tf := TX9) (N := 17) C dX9_edge_63 hr0 rfl i_9 0 (by decide) rfl m_RX9_7 rfl ?_
          refine jt_iconst (v := (1 : Int32)) C dX9_edge_66 (by decide) ?_
          refine jt_aload_n C dX9_edge_67 rfl 2 rfl ?_
          refine jt_getR (Tf := TX9) (N := 17) C dX9_edge_68 hr0 rfl i_9 0 (by decide) rfl m_RX9_7 rfl ?_
          refine jt_iconst (v := (1 : Int32)) C dX9_edge_71 (by decide) ?_
          obtain ⟨x6, ex6, h⟩ := jm_bind h
          refine jt_iald C dX9_edge_72 (jm_f8_0 hr0) ex6 ?_
          refine jt_iconst (v := (1 : Int32)) C dX9_edge_73 (by decide) ?_
          refine jt_iload C dX9_edge_74 1 rfl ?_
          refine jt_ishl C dX9_edge_76 ?_
          refine jt_iconst (v := (-1 : Int32)) C dX9_edge_77 (by decide) ?_
          refine jt_ixor C dX9_edge_78 ?_
          refine jt_iand C dX9_edge_79 ?_
          refine jt_iload_n C dX9_edge_80 rfl 5 rfl ?_
          refine jt_iload C dX9_edge_81 1 rfl ?_
          refine jt_ishl C dX9_edge_83 ?_
          refine jt_ior C dX9_edge_84 ?_
          obtain ⟨M7, eM7, h⟩ := jm_bind h
          refine jt_iast C dX9_edge_85 (jm_f8_0 hr0) eM7 ?_
          refine jt_iload C dX9_edge_86 0 rfl ?_
          cases h
          exact jt_iret C dX9_edge_88 hQ hr
        · replace h := jm_ift c27 h
          refine jt_iconst (v := (-1 : Int32)) C dX9_edge_30 (by decide) ?_
          cases h
          exact jt_iret C dX9_edge_31 hQ hr
theorem h_X9_become : yX9_become.cls = RX9 ∧ yX9_become.cls ≠ "java/lang/invoke/MethodHandle" ∧ yX9_become.cls ≠ "java/lang/invoke/VarHandle" ∧ (parseMethodDescriptor yX9_become.desc).map (fun d => d.parameters.length) = some 1 := by decide +kernel
set_option maxHeartbeats 4000000 in
set_option maxRecDepth 100000 in
theorem c_X9_become (l : Launch) (k : jm_C) (n : Nat) (r0 : Nat) (v1 : Int32) (M : jm_M) (hr0 : jm_is r0 (3, 8)) (q1 : Int32) (q2 : jm_M) (h : X9_become n r0 v1 M = some (q1, q2)) : jm_Ci l k yX9_become w_X9_become { frames := 1, cells := 0, slots := 0, locals := 40 } [.ref (jm_ad k r0), .int v1] M q1 q2 := by
  refine jm_entry_i (cc := cX9_become) (nL := 3) (ret := (some .int)) (by decide) rfl (Nat.le_of_ble_eq_true rfl) ?_
  intro X hX C hQ hr
  subst hX
  unfold X9_become at h
  refine jt_iload_n C dX9_become_0 rfl 1 rfl ?_
  refine jt_if_lt (tgt := 19) C dX9_become_1 (by decide) (fun c1 => ?_) (fun c1 => ?_)
  · replace h := jm_ift c1 h
    refine jt_iconst (v := (-1 : Int32)) C dX9_become_19 (by decide) ?_
    cases h
    exact jt_iret C dX9_become_20 hQ hr
  · replace h := jm_iff c1 h
    refine jt_iload_n C dX9_become_4 rfl 1 rfl ?_
    refine jt_iconst (v := (1 : Int32)) C dX9_become_5 (by decide) ?_
    refine jt_aload_n C dX9_become_6 rfl 0 rfl ?_
    refine jt_getR (Tf := TX9) (N := 17) C dX9_become_7 hr0 rfl i_9 0 (by decide) rfl m_RX9_7 rfl ?_
    refine jt_iconst (v := (0 : Int32)) C dX9_become_10 (by decide) ?_
    obtain ⟨x1, ex1, h⟩ := jm_bind h
    refine jt_iald C dX9_become_11 (jm_f8_0 hr0) ex1 ?_
    refine jt_callSi (As := [_]) (rest := [_, _]) C dX9_become_12 (c_X9_pairs (jx_l X) k _ _ _ rfl) (k_goodIn (g_RX9_58)) rfl h_X9_pairs ⟨rfl, rfl, Nat.le_of_ble_eq_true rfl, Nat.le_of_ble_eq_true rfl⟩ rfl rfl (Nat.le_of_ble_eq_true rfl) ?_
    refine jt_ishl C dX9_become_15 ?_
    refine jt_icmp_lt (tgt := 21) C dX9_become_16 (by decide) (fun c16 => ?_) (fun c16 => ?_)
    · replace h := jm_ift c16 h
      refine jt_aload_n C dX9_become_21 rfl 0 rfl ?_
      obtain ⟨M2, eM2, h⟩ := jm_bind h
      refine jt_callVv (As := []) (rest := []) C hr0 rfl dX9_become_22 (c_X9_remember (jx_l X) k n _ _ hr0 _ eM2) (k_goodIn (g_RX9_70)) rfl h_X9_remember ⟨rfl, rfl, Nat.le_of_ble_eq_true rfl, Nat.le_of_ble_eq_true rfl⟩ rfl rfl (Nat.le_of_ble_eq_true rfl) ?_
      refine jt_aload_n C dX9_become_25 rfl 0 rfl ?_
      refine jt_getR (Tf := TX9) (N := 17) C dX9_become_26 hr0 rfl i_9 0 (by decide) rfl m_RX9_7 rfl ?_
      refine jt_iconst (v := (1 : Int32)) C dX9_become_29 (by decide) ?_
      obtain ⟨x3, ex3, h⟩ := jm_bind h
      refine jt_iald C dX9_become_30 (jm_f8_0 hr0) ex3 ?_
      refine jt_istore_n (lv' := [(2, _), (0, _), (1, _)]) C dX9_become_31 rfl (by decide) rfl ?_
      refine jt_aload_n C dX9_become_32 rfl 1 rfl ?_
      refine jt_getR (Tf := TX9) (N := 17) C dX9_become_33 hr0 rfl i_9 0 (by decide) rfl m_RX9_7 rfl ?_
      refine jt_iconst (v := (1 : Int32)) C dX9_become_36 (by decide) ?_
      refine jt_iload_n C dX9_become_37 rfl 2 rfl ?_
      obtain ⟨M4, eM4, h⟩ := jm_bind h
      refine jt_iast C dX9_become_38 (jm_f8_0 hr0) eM4 ?_
      refine jt_iload_n C dX9_become_39 rfl 0 rfl ?_
      cases h
      exact jt_iret C dX9_become_40 hQ hr
    · replace h := jm_iff c16 h
      refine jt_iconst (v := (-1 : Int32)) C dX9_become_19 (by decide) ?_
      cases h
      exact jt_iret C dX9_become_20 hQ hr
theorem h_X9_undo : yX9_undo.cls = RX9 ∧ yX9_undo.cls ≠ "java/lang/invoke/MethodHandle" ∧ yX9_undo.cls ≠ "java/lang/invoke/VarHandle" ∧ (parseMethodDescriptor yX9_undo.desc).map (fun d => d.parameters.length) = some 0 := by decide +kernel
set_option maxHeartbeats 4000000 in
set_option maxRecDepth 100000 in
theorem t_X9_undo_L22 {X : jm_X} {k : jm_C} (C : jm_Cx X k cX9_undo 2 RX9 w_X9_undo) (r0 : Nat) (hr0 : jm_is r0 (3, 8)) : ∀ (m : Nat) (s : Int32 × jm_M) (r : jm_M), jm_loop (X9_undo_B22 r0) m s = some r → jm_T X { frames := 0, cells := 0, slots := 0, locals := 0 } k 2 r 54 [(0, .ref (jm_ad k r0))] [] → (∀ (b0 : Int32) (b1 : jm_M), s = (b0, b1) → jm_T X { frames := 0, cells := 0, slots := 0, locals := 0 } k 2 b1 22 [(0, .ref (jm_ad k r0)), (1, .int b0)] []) := by
  refine jm_loop_ind (P := fun (s : Int32 × jm_M) => (∀ (b0 : Int32) (b1 : jm_M), s = (b0, b1) → jm_T X { frames := 0, cells := 0, slots := 0, locals := 0 } k 2 b1 22 [(0, .ref (jm_ad k r0)), (1, .int b0)] [])) (K := fun (r : jm_M) => jm_T X { frames := 0, cells := 0, slots := 0, locals := 0 } k 2 r 54 [(0, .ref (jm_ad k r0))] []) ?_
  intro s q h h1 h2
  intro b0 b1 hs
  subst hs
  unfold X9_undo_B22 at h
  try dsimp only at h
  refine jt_iload_n C dX9_undo_22 rfl 1 rfl ?_
  refine jt_bipush (v := (10 : Int32)) C dX9_undo_23 (by decide) ?_
  refine jt_icmp_ge (tgt := 54) C dX9_undo_25 (by decide) (fun c25 => ?_) (fun c25 => ?_)
  · replace h := jm_ift c25 h
    cases h
    exact jt_sub [0] rfl (h2 _ rfl)
  · replace h := jm_iff c25 h
    refine jt_aload_n C dX9_undo_28 rfl 0 rfl ?_
    refine jt_getR (Tf := TX9) (N := 17) C dX9_undo_29 hr0 rfl i_9 0 (by decide) rfl m_RX9_7 rfl ?_
    refine jt_iload_n C dX9_undo_32 rfl 1 rfl ?_
    refine jt_aload_n C dX9_undo_33 rfl 0 rfl ?_
    refine jt_getR (Tf := TX9) (N := 17) C dX9_undo_34 hr0 rfl i_9 1 (by decide) rfl m_RX9_13 rfl ?_
    refine jt_bipush (v := (10 : Int32)) C dX9_undo_37 (by decide) ?_
    refine jt_aload_n C dX9_undo_39 rfl 0 rfl ?_
    refine jt_getI (Tf := TX9) (N := 17) C dX9_undo_40 hr0 rfl i_9 2 (by decide) rfl m_RX9_54 rfl ?_
    refine jt_imul C dX9_undo_43 ?_
    refine jt_iload_n C dX9_undo_44 rfl 1 rfl ?_
    refine jt_iadd C dX9_undo_45 ?_
    obtain ⟨x1, ex1, h⟩ := jm_bind h
    refine jt_iald C dX9_undo_46 (jm_f8_1 hr0) ex1 ?_
    obtain ⟨M2, eM2, h⟩ := jm_bind h
    refine jt_iast C dX9_undo_47 (jm_f8_0 hr0) eM2 ?_
    refine jt_iinc (v := (1 : Int32)) (lv' := [(1, _), (0, _)]) C dX9_undo_48 1 rfl (by decide) (by decide) rfl ?_
    refine jt_goto (tgt := 22) C dX9_undo_51 (by decide) ?_
    cases h
    exact jt_sub [1, 0] rfl (h1 _ rfl _ _ rfl)
set_option maxHeartbeats 4000000 in
set_option maxRecDepth 100000 in
theorem c_X9_undo (l : Launch) (k : jm_C) (n : Nat) (r0 : Nat) (M : jm_M) (hr0 : jm_is r0 (3, 8)) (q1 : Int32) (q2 : jm_M) (h : X9_undo n r0 M = some (q1, q2)) : jm_Ci l k yX9_undo w_X9_undo { frames := 0, cells := 0, slots := 0, locals := 0 } [.ref (jm_ad k r0)] M q1 q2 := by
  refine jm_entry_i (cc := cX9_undo) (nL := 2) (ret := (some .int)) (by decide) rfl (Nat.le_of_ble_eq_true rfl) ?_
  intro X hX C hQ hr
  subst hX
  unfold X9_undo at h
  refine jt_aload_n C dX9_undo_0 rfl 0 rfl ?_
  refine jt_getI (Tf := TX9) (N := 17) C dX9_undo_1 hr0 rfl i_9 2 (by decide) rfl m_RX9_54 rfl ?_
  refine jt_if_ne (tgt := 10) C dX9_undo_4 (by decide) (fun c4 => ?_) (fun c4 => ?_)
  · replace h := jm_iff c4 h
    refine jt_aload_n C dX9_undo_10 rfl 0 rfl ?_
    refine jt_dup C dX9_undo_11 rfl ?_
    refine jt_getI (Tf := TX9) (N := 17) C dX9_undo_12 hr0 rfl i_9 2 (by decide) rfl m_RX9_54 rfl ?_
    refine jt_iconst (v := (1 : Int32)) C dX9_undo_15 (by decide) ?_
    refine jt_isub C dX9_undo_16 ?_
    refine jt_putI (Tf := TX9) (N := 17) C dX9_undo_17 hr0 rfl i_9 tyX9 tyX9_ok nmX9 2 (by decide) rfl m_RX9_54 rfl rfl (by decide +kernel) ?_
    refine jt_iconst (v := (0 : Int32)) C dX9_undo_20 (by decide) ?_
    refine jt_istore_n (lv' := [(1, _), (0, _)]) C dX9_undo_21 rfl (by decide) rfl ?_
    obtain ⟨q3, eq3, h⟩ := jm_bind h
    refine jt_sub [1, 0] rfl ?_
    refine t_X9_undo_L22 C _ hr0 n _ _ eq3 ?_ _ _ rfl
    refine jt_aload_n C dX9_undo_54 rfl 0 rfl ?_
    refine jt_getI (Tf := TX9) (N := 17) C dX9_undo_55 hr0 rfl i_9 2 (by decide) rfl m_RX9_54 rfl ?_
    cases h
    exact jt_iret C dX9_undo_58 hQ hr
  · replace h := jm_ift c4 h
    refine jt_bipush (v := (-2 : Int32)) C dX9_undo_7 (by decide) ?_
    cases h
    exact jt_iret C dX9_undo_9 hQ hr
theorem h_X9_digits : yX9_digits.cls = RX9 ∧ yX9_digits.cls ≠ "java/lang/invoke/MethodHandle" ∧ yX9_digits.cls ≠ "java/lang/invoke/VarHandle" ∧ (parseMethodDescriptor yX9_digits.desc).map (fun d => d.parameters.length) = some 2 := by decide +kernel
set_option maxHeartbeats 4000000 in
set_option maxRecDepth 100000 in
theorem t_X9_digits_L5 {X : jm_X} {k : jm_C} (C : jm_Cx X k cX9_digits 5 RX9 w_X9_digits) (r0 : Nat) (v1 : Int32) (v2 : Int32) (M : jm_M) (hr0 : jm_is r0 (3, 8)) : ∀ (m : Nat) (s : Int32 × Int32) (r : Int32), jm_loop (X9_digits_B5 r0 v1 v2 M) m s = some r → jm_T X { frames := 0, cells := 0, slots := 0, locals := 0 } k 5 M 38 [(3, .int r)] [] → (∀ (b0 : Int32) (b1 : Int32), s = (b0, b1) → jm_T X { frames := 0, cells := 0, slots := 0, locals := 0 } k 5 M 5 [(0, .ref (jm_ad k r0)), (1, .int v1), (2, .int v2), (3, .int b0), (4, .int b1)] []) := by
  refine jm_loop_ind (P := fun (s : Int32 × Int32) => (∀ (b0 : Int32) (b1 : Int32), s = (b0, b1) → jm_T X { frames := 0, cells := 0, slots := 0, locals := 0 } k 5 M 5 [(0, .ref (jm_ad k r0)), (1, .int v1), (2, .int v2), (3, .int b0), (4, .int b1)] [])) (K := fun (r : Int32) => jm_T X { frames := 0, cells := 0, slots := 0, locals := 0 } k 5 M 38 [(3, .int r)] []) ?_
  intro s q h h1 h2
  intro b0 b1 hs
  subst hs
  unfold X9_digits_B5 at h
  try dsimp only at h
  refine jt_iload C dX9_digits_5 4 rfl ?_
  refine jt_iload_n C dX9_digits_7 rfl 1 rfl ?_
  refine jt_icmp_ge (tgt := 38) C dX9_digits_8 (by decide) (fun c8 => ?_) (fun c8 => ?_)
  · replace h := jm_ift c8 h
    cases h
    exact jt_sub [3] rfl (h2 _ rfl)
  · replace h := jm_iff c8 h
    refine jt_iconst (v := (2 : Int32)) C dX9_digits_11 (by decide) ?_
    refine jt_iload_n C dX9_digits_12 rfl 3 rfl ?_
    refine jt_imul C dX9_digits_13 ?_
    refine jt_aload_n C dX9_digits_14 rfl 0 rfl ?_
    refine jt_getR (Tf := TX9) (N := 17) C dX9_digits_15 hr0 rfl i_9 3 (by decide) rfl m_RX9_16 rfl ?_
    refine jt_iload_n C dX9_digits_18 rfl 2 rfl ?_
    obtain ⟨x1, ex1, h⟩ := jm_bind h
    refine jt_iald C dX9_digits_19 (jm_f8_3 hr0) ex1 ?_
    refine jt_aload_n C dX9_digits_20 rfl 0 rfl ?_
    refine jt_getR (Tf := TX9) (N := 17) C dX9_digits_21 hr0 rfl i_9 4 (by decide) rfl m_RX9_19 rfl ?_
    refine jt_iload C dX9_digits_24 4 rfl ?_
    obtain ⟨x2, ex2, h⟩ := jm_bind h
    refine jt_iald C dX9_digits_26 (jm_f8_4 hr0) ex2 ?_
    refine jt_ishr C dX9_digits_27 ?_
    refine jt_iconst (v := (1 : Int32)) C dX9_digits_28 (by decide) ?_
    refine jt_iand C dX9_digits_29 ?_
    refine jt_iadd C dX9_digits_30 ?_
    refine jt_istore_n (lv' := [(3, _), (0, _), (1, _), (2, _), (4, _)]) C dX9_digits_31 rfl (by decide) rfl ?_
    refine jt_iinc (v := (1 : Int32)) (lv' := [(4, _), (3, _), (0, _), (1, _), (2, _)]) C dX9_digits_32 4 rfl (by decide) (by decide) rfl ?_
    refine jt_goto (tgt := 5) C dX9_digits_35 (by decide) ?_
    cases h
    exact jt_sub [2, 3, 4, 1, 0] rfl (h1 _ rfl _ _ rfl)
set_option maxHeartbeats 4000000 in
set_option maxRecDepth 100000 in
theorem c_X9_digits (l : Launch) (k : jm_C) (n : Nat) (r0 : Nat) (v1 : Int32) (v2 : Int32) (M : jm_M) (hr0 : jm_is r0 (3, 8)) (q : Int32) (h : X9_digits n r0 v1 v2 M = some q) : jm_Ci l k yX9_digits w_X9_digits { frames := 0, cells := 0, slots := 0, locals := 0 } [.ref (jm_ad k r0), .int v1, .int v2] M q M := by
  refine jm_entry_i (cc := cX9_digits) (nL := 5) (ret := (some .int)) (by decide) rfl (Nat.le_of_ble_eq_true rfl) ?_
  intro X hX C hQ hr
  subst hX
  unfold X9_digits at h
  refine jt_iconst (v := (0 : Int32)) C dX9_digits_0 (by decide) ?_
  refine jt_istore_n (lv' := [(3, _), (0, _), (1, _), (2, _)]) C dX9_digits_1 rfl (by decide) rfl ?_
  refine jt_iconst (v := (0 : Int32)) C dX9_digits_2 (by decide) ?_
  refine jt_istore (lv' := [(4, _), (3, _), (0, _), (1, _), (2, _)]) C dX9_digits_3 (by decide) rfl ?_
  obtain ⟨q3, eq3, h⟩ := jm_bind h
  refine jt_sub [2, 3, 4, 1, 0] rfl ?_
  refine t_X9_digits_L5 C _ _ _ _ hr0 n _ _ eq3 ?_ _ _ rfl
  refine jt_iload_n C dX9_digits_38 rfl 0 rfl ?_
  cases h
  exact jt_iret C dX9_digits_39 hQ hr
theorem h_X9_usedBefore : yX9_usedBefore.cls = RX9 ∧ yX9_usedBefore.cls ≠ "java/lang/invoke/MethodHandle" ∧ yX9_usedBefore.cls ≠ "java/lang/invoke/VarHandle" ∧ (parseMethodDescriptor yX9_usedBefore.desc).map (fun d => d.parameters.length) = some 1 := by decide +kernel
set_option maxHeartbeats 4000000 in
set_option maxRecDepth 100000 in
theorem t_X9_usedBefore_L4 {X : jm_X} {k : jm_C} (C : jm_Cx X k cX9_usedBefore 4 RX9 w_X9_usedBefore) (r0 : Nat) (v1 : Int32) (M : jm_M) (hr0 : jm_is r0 (3, 8)) : ∀ (m : Nat) (s : Int32 × Int32) (r : Int32), jm_loop (X9_usedBefore_B4 r0 v1 M) m s = some r → jm_T X { frames := 0, cells := 0, slots := 0, locals := 0 } k 4 M 26 [(2, .int r)] [] → (∀ (b0 : Int32) (b1 : Int32), s = (b0, b1) → jm_T X { frames := 0, cells := 0, slots := 0, locals := 0 } k 4 M 4 [(0, .ref (jm_ad k r0)), (1, .int v1), (2, .int b0), (3, .int b1)] []) := by
  refine jm_loop_ind (P := fun (s : Int32 × Int32) => (∀ (b0 : Int32) (b1 : Int32), s = (b0, b1) → jm_T X { frames := 0, cells := 0, slots := 0, locals := 0 } k 4 M 4 [(0, .ref (jm_ad k r0)), (1, .int v1), (2, .int b0), (3, .int b1)] [])) (K := fun (r : Int32) => jm_T X { frames := 0, cells := 0, slots := 0, locals := 0 } k 4 M 26 [(2, .int r)] []) ?_
  intro s q h h1 h2
  intro b0 b1 hs
  subst hs
  unfold X9_usedBefore_B4 at h
  try dsimp only at h
  refine jt_iload_n C dX9_usedBefore_4 rfl 3 rfl ?_
  refine jt_iload_n C dX9_usedBefore_5 rfl 1 rfl ?_
  refine jt_icmp_ge (tgt := 26) C dX9_usedBefore_6 (by decide) (fun c6 => ?_) (fun c6 => ?_)
  · replace h := jm_ift c6 h
    cases h
    exact jt_sub [2] rfl (h2 _ rfl)
  · replace h := jm_iff c6 h
    refine jt_iload_n C dX9_usedBefore_9 rfl 2 rfl ?_
    refine jt_iconst (v := (1 : Int32)) C dX9_usedBefore_10 (by decide) ?_
    refine jt_aload_n C dX9_usedBefore_11 rfl 0 rfl ?_
    refine jt_getR (Tf := TX9) (N := 17) C dX9_usedBefore_12 hr0 rfl i_9 4 (by decide) rfl m_RX9_19 rfl ?_
    refine jt_iload_n C dX9_usedBefore_15 rfl 3 rfl ?_
    obtain ⟨x1, ex1, h⟩ := jm_bind h
    refine jt_iald C dX9_usedBefore_16 (jm_f8_4 hr0) ex1 ?_
    refine jt_ishl C dX9_usedBefore_17 ?_
    refine jt_ior C dX9_usedBefore_18 ?_
    refine jt_istore_n (lv' := [(2, _), (0, _), (1, _), (3, _)]) C dX9_usedBefore_19 rfl (by decide) rfl ?_
    refine jt_iinc (v := (1 : Int32)) (lv' := [(3, _), (2, _), (0, _), (1, _)]) C dX9_usedBefore_20 3 rfl (by decide) (by decide) rfl ?_
    refine jt_goto (tgt := 4) C dX9_usedBefore_23 (by decide) ?_
    cases h
    exact jt_sub [2, 3, 1, 0] rfl (h1 _ rfl _ _ rfl)
set_option maxHeartbeats 4000000 in
set_option maxRecDepth 100000 in
theorem c_X9_usedBefore (l : Launch) (k : jm_C) (n : Nat) (r0 : Nat) (v1 : Int32) (M : jm_M) (hr0 : jm_is r0 (3, 8)) (q : Int32) (h : X9_usedBefore n r0 v1 M = some q) : jm_Ci l k yX9_usedBefore w_X9_usedBefore { frames := 0, cells := 0, slots := 0, locals := 0 } [.ref (jm_ad k r0), .int v1] M q M := by
  refine jm_entry_i (cc := cX9_usedBefore) (nL := 4) (ret := (some .int)) (by decide) rfl (Nat.le_of_ble_eq_true rfl) ?_
  intro X hX C hQ hr
  subst hX
  unfold X9_usedBefore at h
  refine jt_iconst (v := (0 : Int32)) C dX9_usedBefore_0 (by decide) ?_
  refine jt_istore_n (lv' := [(2, _), (0, _), (1, _)]) C dX9_usedBefore_1 rfl (by decide) rfl ?_
  refine jt_iconst (v := (0 : Int32)) C dX9_usedBefore_2 (by decide) ?_
  refine jt_istore_n (lv' := [(3, _), (2, _), (0, _), (1, _)]) C dX9_usedBefore_3 rfl (by decide) rfl ?_
  obtain ⟨q2, eq2, h⟩ := jm_bind h
  refine jt_sub [2, 3, 1, 0] rfl ?_
  refine t_X9_usedBefore_L4 C _ _ _ hr0 n _ _ eq2 ?_ _ _ rfl
  refine jt_iload_n C dX9_usedBefore_26 rfl 0 rfl ?_
  cases h
  exact jt_iret C dX9_usedBefore_27 hQ hr
theorem h_X9_canonical : yX9_canonical.cls = RX9 ∧ yX9_canonical.cls ≠ "java/lang/invoke/MethodHandle" ∧ yX9_canonical.cls ≠ "java/lang/invoke/VarHandle" ∧ (parseMethodDescriptor yX9_canonical.desc).map (fun d => d.parameters.length) = some 2 := by decide +kernel
set_option maxHeartbeats 4000000 in
set_option maxRecDepth 100000 in
theorem t_X9_canonical_L2 {X : jm_X} {k : jm_C} (C : jm_Cx X k cX9_canonical 9 RX9 w_X9_canonical) (n : Nat) (r0 : Nat) (v1 : Int32) (v2 : Int32) (hr0 : jm_is r0 (3, 8)) : ∀ (m : Nat) (s : Int32 × jm_M) (r : jm_M), jm_loop (X9_canonical_B2 n r0 v1 v2) m s = some r → jm_T X { frames := 4, cells := 0, slots := 0, locals := 160 } k 9 r 25 [(0, .ref (jm_ad k r0)), (1, .int v1), (2, .int v2)] [] → (∀ (b0 : Int32) (b1 : jm_M), s = (b0, b1) → jm_T X { frames := 4, cells := 0, slots := 0, locals := 160 } k 9 b1 2 [(0, .ref (jm_ad k r0)), (1, .int v1), (2, .int v2), (3, .int b0)] []) := by
  refine jm_loop_ind (P := fun (s : Int32 × jm_M) => (∀ (b0 : Int32) (b1 : jm_M), s = (b0, b1) → jm_T X { frames := 4, cells := 0, slots := 0, locals := 160 } k 9 b1 2 [(0, .ref (jm_ad k r0)), (1, .int v1), (2, .int v2), (3, .int b0)] [])) (K := fun (r : jm_M) => jm_T X { frames := 4, cells := 0, slots := 0, locals := 160 } k 9 r 25 [(0, .ref (jm_ad k r0)), (1, .int v1), (2, .int v2)] []) ?_
  intro s q h h1 h2
  intro b0 b1 hs
  subst hs
  unfold X9_canonical_B2 at h
  try dsimp only at h
  refine jt_iload_n C dX9_canonical_2 rfl 3 rfl ?_
  refine jt_iload_n C dX9_canonical_3 rfl 1 rfl ?_
  refine jt_icmp_ge (tgt := 25) C dX9_canonical_4 (by decide) (fun c4 => ?_) (fun c4 => ?_)
  · replace h := jm_ift c4 h
    cases h
    exact jt_sub [0, 1, 2] rfl (h2 _ rfl)
  · replace h := jm_iff c4 h
    refine jt_aload_n C dX9_canonical_7 rfl 0 rfl ?_
    refine jt_getR (Tf := TX9) (N := 17) C dX9_canonical_8 hr0 rfl i_9 3 (by decide) rfl m_RX9_16 rfl ?_
    refine jt_iload_n C dX9_canonical_11 rfl 3 rfl ?_
    refine jt_iload_n C dX9_canonical_12 rfl 1 rfl ?_
    refine jt_iload_n C dX9_canonical_13 rfl 2 rfl ?_
    refine jt_iload_n C dX9_canonical_14 rfl 3 rfl ?_
    obtain ⟨x1, ex1, h⟩ := jm_bind h
    refine jt_callSi (As := [_, _, _]) (rest := [_, _]) C dX9_canonical_15 (c_X9_neighbours (jx_l X) k n _ _ _ _ _ ex1) (k_goodIn (g_RX9_77)) rfl h_X9_neighbours ⟨rfl, rfl, Nat.le_of_ble_eq_true rfl, Nat.le_of_ble_eq_true rfl⟩ rfl rfl (Nat.le_of_ble_eq_true rfl) ?_
    obtain ⟨M2, eM2, h⟩ := jm_bind h
    refine jt_iast C dX9_canonical_18 (jm_f8_3 hr0) eM2 ?_
    refine jt_iinc (v := (1 : Int32)) (lv' := [(3, _), (0, _), (1, _), (2, _)]) C dX9_canonical_19 3 rfl (by decide) (by decide) rfl ?_
    refine jt_goto (tgt := 2) C dX9_canonical_22 (by decide) ?_
    cases h
    exact jt_sub [1, 2, 3, 0] rfl (h1 _ rfl _ _ rfl)
set_option maxHeartbeats 4000000 in
set_option maxRecDepth 100000 in
theorem t_X9_canonical_L68 {X : jm_X} {k : jm_C} (C : jm_Cx X k cX9_canonical 9 RX9 w_X9_canonical) (r0 : Nat) (v1 : Int32) (v3 : Int32) (v4 : Int32) (v5 : Int32) (M : jm_M) (hr0 : jm_is r0 (3, 8)) : ∀ (m : Nat) (s : Int32) (r : Int32), jm_loop (X9_canonical_B68 r0 v1 v3 v4 v5) m s = some r → jm_T X { frames := 4, cells := 0, slots := 0, locals := 160 } k 9 M 91 [(0, .ref (jm_ad k r0)), (1, .int v1), (3, .int v3), (4, .int v4), (6, .int r)] [] → jm_T X { frames := 4, cells := 0, slots := 0, locals := 160 } k 9 M 68 [(0, .ref (jm_ad k r0)), (1, .int v1), (3, .int v3), (4, .int v4), (5, .int v5), (6, .int s)] [] := by
  refine jm_loop_ind (P := fun (s : Int32) => jm_T X { frames := 4, cells := 0, slots := 0, locals := 160 } k 9 M 68 [(0, .ref (jm_ad k r0)), (1, .int v1), (3, .int v3), (4, .int v4), (5, .int v5), (6, .int s)] []) (K := fun (r : Int32) => jm_T X { frames := 4, cells := 0, slots := 0, locals := 160 } k 9 M 91 [(0, .ref (jm_ad k r0)), (1, .int v1), (3, .int v3), (4, .int v4), (6, .int r)] []) ?_
  intro s q h h1 h2
  unfold X9_canonical_B68 at h
  try dsimp only at h
  refine jt_iload C dX9_canonical_68 5 rfl ?_
  refine jt_iload_n C dX9_canonical_70 rfl 1 rfl ?_
  refine jt_icmp_ge (tgt := 91) C dX9_canonical_71 (by decide) (fun c71 => ?_) (fun c71 => ?_)
  · replace h := jm_ift c71 h
    cases h
    exact jt_sub [0, 1, 2, 3, 5] rfl (h2 _ rfl)
  · replace h := jm_iff c71 h
    refine jt_iload C dX9_canonical_74 4 rfl ?_
    refine jt_iload C dX9_canonical_76 5 rfl ?_
    refine jt_ishr C dX9_canonical_78 ?_
    refine jt_iconst (v := (1 : Int32)) C dX9_canonical_79 (by decide) ?_
    refine jt_iand C dX9_canonical_80 ?_
    refine jt_iconst (v := (1 : Int32)) C dX9_canonical_81 (by decide) ?_
    refine jt_icmp_ne (tgt := 91) C dX9_canonical_82 (by decide) (fun c82 => ?_) (fun c82 => ?_)
    · replace h := jm_iff c82 h
      cases h
      exact jt_sub [0, 1, 2, 3, 5] rfl (h2 _ rfl)
    · replace h := jm_ift c82 h
      refine jt_iinc (v := (1 : Int32)) (lv' := [(6, _), (0, _), (1, _), (3, _), (4, _), (5, _)]) C dX9_canonical_85 5 rfl (by decide) (by decide) rfl ?_
      refine jt_goto (tgt := 68) C dX9_canonical_88 (by decide) ?_
      cases h
      exact jt_sub [1, 2, 3, 4, 5, 0] rfl (h1 _ rfl)
set_option maxHeartbeats 4000000 in
set_option maxRecDepth 100000 in
theorem t_X9_canonical_L44 {X : jm_X} {k : jm_C} (C : jm_Cx X k cX9_canonical 9 RX9 w_X9_canonical) (n : Nat) (r0 : Nat) (v1 : Int32) (hr0 : jm_is r0 (3, 8)) : ∀ (m : Nat) (s : Int32 × Int32 × jm_M) (r : Int32 × jm_M), jm_loop (X9_canonical_B44 n r0 v1) m s = some r → (∀ (b0 : Int32) (b1 : jm_M), r = (b0, b1) → jm_T X { frames := 4, cells := 0, slots := 0, locals := 160 } k 9 b1 200 [(3, .int b0)] []) → (∀ (b0 : Int32) (b1 : Int32) (b2 : jm_M), s = (b0, b1, b2) → jm_T X { frames := 4, cells := 0, slots := 0, locals := 160 } k 9 b2 44 [(0, .ref (jm_ad k r0)), (1, .int v1), (3, .int b0), (4, .int b1)] []) := by
  refine jm_loop_ind (P := fun (s : Int32 × Int32 × jm_M) => (∀ (b0 : Int32) (b1 : Int32) (b2 : jm_M), s = (b0, b1, b2) → jm_T X { frames := 4, cells := 0, slots := 0, locals := 160 } k 9 b2 44 [(0, .ref (jm_ad k r0)), (1, .int v1), (3, .int b0), (4, .int b1)] [])) (K := fun (r : Int32 × jm_M) => ∀ (b0 : Int32) (b1 : jm_M), r = (b0, b1) → jm_T X { frames := 4, cells := 0, slots := 0, locals := 160 } k 9 b1 200 [(3, .int b0)] []) ?_
  intro s q h h1 h2
  intro b0 b1 b2 hs
  subst hs
  unfold X9_canonical_B44 at h
  try dsimp only at h
  refine jt_iload C dX9_canonical_44 3 rfl ?_
  refine jt_if_lt (tgt := 200) C dX9_canonical_46 (by decide) (fun c46 => ?_) (fun c46 => ?_)
  · replace h := jm_ift c46 h
    cases h
    exact jt_sub [2] rfl (h2 _ rfl _ _ rfl)
  · replace h := jm_iff c46 h
    refine jt_aload_n C dX9_canonical_49 rfl 0 rfl ?_
    refine jt_iload C dX9_canonical_50 3 rfl ?_
    obtain ⟨x6, ex6, h⟩ := jm_bind h
    refine jt_callVi (As := [_]) (rest := []) C hr0 rfl dX9_canonical_52 (c_X9_usedBefore (jx_l X) k n _ _ _ hr0 _ ex6) (k_goodIn (g_RX9_80)) rfl h_X9_usedBefore ⟨rfl, rfl, Nat.le_of_ble_eq_true rfl, Nat.le_of_ble_eq_true rfl⟩ rfl rfl (Nat.le_of_ble_eq_true rfl) ?_
    refine jt_istore (lv' := [(5, _), (0, _), (1, _), (3, _), (4, _)]) C dX9_canonical_55 (by decide) rfl ?_
    refine jt_aload_n C dX9_canonical_57 rfl 1 rfl ?_
    refine jt_getR (Tf := TX9) (N := 17) C dX9_canonical_58 hr0 rfl i_9 4 (by decide) rfl m_RX9_19 rfl ?_
    refine jt_iload C dX9_canonical_61 4 rfl ?_
    obtain ⟨x7, ex7, h⟩ := jm_bind h
    refine jt_iald C dX9_canonical_63 (jm_f8_4 hr0) ex7 ?_
    refine jt_iconst (v := (1 : Int32)) C dX9_canonical_64 (by decide) ?_
    refine jt_iadd C dX9_canonical_65 ?_
    refine jt_istore (lv' := [(6, _), (5, _), (0, _), (1, _), (3, _), (4, _)]) C dX9_canonical_66 (by decide) rfl ?_
    obtain ⟨q8, eq8, h⟩ := jm_bind h
    refine jt_sub [2, 3, 4, 5, 1, 0] rfl ?_
    refine t_X9_canonical_L68 C _ _ _ _ _ _ hr0 n _ _ eq8 ?_
    refine jt_aload_n C dX9_canonical_91 rfl 0 rfl ?_
    refine jt_getR (Tf := TX9) (N := 17) C dX9_canonical_92 hr0 rfl i_9 4 (by decide) rfl m_RX9_19 rfl ?_
    refine jt_iload C dX9_canonical_95 3 rfl ?_
    refine jt_iload C dX9_canonical_97 4 rfl ?_
    obtain ⟨M9, eM9, h⟩ := jm_bind h
    refine jt_iast C dX9_canonical_99 (jm_f8_4 hr0) eM9 ?_
    refine jt_iload C dX9_canonical_100 4 rfl ?_
    refine jt_iload_n C dX9_canonical_102 rfl 1 rfl ?_
    refine jt_icmp_lt (tgt := 112) C dX9_canonical_103 (by decide) (fun c103 => ?_) (fun c103 => ?_)
    · replace h := jm_ift c103 h
      refine jt_aload_n C dX9_canonical_112 rfl 0 rfl ?_
      refine jt_getR (Tf := TX9) (N := 17) C dX9_canonical_113 hr0 rfl i_9 5 (by decide) rfl m_RX9_22 rfl ?_
      refine jt_iload C dX9_canonical_116 3 rfl ?_
      obtain ⟨x10, ex10, h⟩ := jm_bind h
      refine jt_iald C dX9_canonical_118 (jm_f8_5 hr0) ex10 ?_
      refine jt_iload C dX9_canonical_119 3 rfl ?_
      refine jt_ishl C dX9_canonical_121 ?_
      refine jt_aload_n C dX9_canonical_122 rfl 0 rfl ?_
      refine jt_iload C dX9_canonical_123 3 rfl ?_
      refine jt_iload C dX9_canonical_125 4 rfl ?_
      obtain ⟨x11, ex11, h⟩ := jm_bind h
      refine jt_callVi (As := [_, _]) (rest := [_]) C hr0 rfl dX9_canonical_127 (c_X9_digits (jx_l X) k n _ _ _ _ hr0 _ ex11) (k_goodIn (g_RX9_83)) rfl h_X9_digits ⟨rfl, rfl, Nat.le_of_ble_eq_true rfl, Nat.le_of_ble_eq_true rfl⟩ rfl rfl (Nat.le_of_ble_eq_true rfl) ?_
      refine jt_ior C dX9_canonical_130 ?_
      refine jt_istore (lv' := [(7, _), (0, _), (1, _), (3, _), (4, _), (6, _)]) C dX9_canonical_131 (by decide) rfl ?_
      refine jt_iload_n C dX9_canonical_133 rfl 3 rfl ?_
      refine jt_iload_n C dX9_canonical_134 rfl 2 rfl ?_
      refine jt_callSi (As := [_]) (rest := [_]) C dX9_canonical_135 (c_X9_pairs (jx_l X) k _ _ _ rfl) (k_goodIn (g_RX9_58)) rfl h_X9_pairs ⟨rfl, rfl, Nat.le_of_ble_eq_true rfl, Nat.le_of_ble_eq_true rfl⟩ rfl rfl (Nat.le_of_ble_eq_true rfl) ?_
      refine jt_iload C dX9_canonical_138 4 rfl ?_
      refine jt_iconst (v := (1 : Int32)) C dX9_canonical_140 (by decide) ?_
      refine jt_iadd C dX9_canonical_141 ?_
      refine jt_callSi (As := [_]) (rest := [_, _]) C dX9_canonical_142 (c_X9_pairs (jx_l X) k _ _ _ rfl) (k_goodIn (g_RX9_58)) rfl h_X9_pairs ⟨rfl, rfl, Nat.le_of_ble_eq_true rfl, Nat.le_of_ble_eq_true rfl⟩ rfl rfl (Nat.le_of_ble_eq_true rfl) ?_
      refine jt_isub C dX9_canonical_145 ?_
      refine jt_ishr C dX9_canonical_146 ?_
      refine jt_istore (lv' := [(8, _), (7, _), (0, _), (1, _), (3, _), (4, _), (6, _)]) C dX9_canonical_147 (by decide) rfl ?_
      refine jt_iload C dX9_canonical_149 1 rfl ?_
      refine jt_iload C dX9_canonical_151 0 rfl ?_
      refine jt_icmp_gt (tgt := 170) C dX9_canonical_153 (by decide) (fun c153 => ?_) (fun c153 => ?_)
      · replace h := jm_ift c153 h
        refine jt_iload C dX9_canonical_170 1 rfl ?_
        refine jt_iload C dX9_canonical_172 0 rfl ?_
        refine jt_icmp_gt (tgt := 197) C dX9_canonical_174 (by decide) (fun c174 => ?_) (fun c174 => ?_)
        · replace h := jm_ift c174 h
          refine jt_goto (tgt := 44) C dX9_canonical_197 (by decide) ?_
          cases h
          exact jt_sub [2, 3, 4, 5] rfl (h1 _ rfl _ _ _ rfl)
        · replace h := jm_iff c174 h
          refine jt_iinc (v := (1 : Int32)) (lv' := [(4, _), (8, _), (7, _), (0, _), (1, _), (3, _), (6, _)]) C dX9_canonical_177 5 rfl (by decide) (by decide) rfl ?_
          refine jt_aload_n C dX9_canonical_180 rfl 3 rfl ?_
          refine jt_getR (Tf := TX9) (N := 17) C dX9_canonical_181 hr0 rfl i_9 5 (by decide) rfl m_RX9_22 rfl ?_
          refine jt_iload C dX9_canonical_184 0 rfl ?_
          refine jt_iload C dX9_canonical_186 2 rfl ?_
          obtain ⟨M12, eM12, h⟩ := jm_bind h
          refine jt_iast C dX9_canonical_188 (jm_f8_5 hr0) eM12 ?_
          refine jt_aload_n C dX9_canonical_189 rfl 3 rfl ?_
          refine jt_getR (Tf := TX9) (N := 17) C dX9_canonical_190 hr0 rfl i_9 4 (by decide) rfl m_RX9_19 rfl ?_
          refine jt_iload C dX9_canonical_193 0 rfl ?_
          refine jt_iconst (v := (-1 : Int32)) C dX9_canonical_195 (by decide) ?_
          obtain ⟨M13, eM13, h⟩ := jm_bind h
          refine jt_iast C dX9_canonical_196 (jm_f8_4 hr0) eM13 ?_
          refine jt_goto (tgt := 44) C dX9_canonical_197 (by decide) ?_
          cases h
          exact jt_sub [3, 4, 5, 0] rfl (h1 _ rfl _ _ _ rfl)
      · replace h := jm_iff c153 h
        refine jt_iload C dX9_canonical_156 5 rfl ?_
        refine jt_iload_n C dX9_canonical_158 rfl 3 rfl ?_
        refine jt_iconst (v := (1 : Int32)) C dX9_canonical_159 (by decide) ?_
        refine jt_isub C dX9_canonical_160 ?_
        refine jt_icmp_ne (tgt := 170) C dX9_canonical_161 (by decide) (fun c161 => ?_) (fun c161 => ?_)
        · replace h := jm_iff c161 h
          refine jt_iload C dX9_canonical_170 1 rfl ?_
          refine jt_iload C dX9_canonical_172 0 rfl ?_
          refine jt_icmp_gt (tgt := 197) C dX9_canonical_174 (by decide) (fun c174 => ?_) (fun c174 => ?_)
          · replace h := jm_ift c174 h
            refine jt_goto (tgt := 44) C dX9_canonical_197 (by decide) ?_
            cases h
            exact jt_sub [2, 3, 4, 5] rfl (h1 _ rfl _ _ _ rfl)
          · replace h := jm_iff c174 h
            refine jt_iinc (v := (1 : Int32)) (lv' := [(4, _), (8, _), (7, _), (0, _), (1, _), (3, _), (6, _)]) C dX9_canonical_177 5 rfl (by decide) (by decide) rfl ?_
            refine jt_aload_n C dX9_canonical_180 rfl 3 rfl ?_
            refine jt_getR (Tf := TX9) (N := 17) C dX9_canonical_181 hr0 rfl i_9 5 (by decide) rfl m_RX9_22 rfl ?_
            refine jt_iload C dX9_canonical_184 0 rfl ?_
            refine jt_iload C dX9_canonical_186 2 rfl ?_
            obtain ⟨M14, eM14, h⟩ := jm_bind h
            refine jt_iast C dX9_canonical_188 (jm_f8_5 hr0) eM14 ?_
            refine jt_aload_n C dX9_canonical_189 rfl 3 rfl ?_
            refine jt_getR (Tf := TX9) (N := 17) C dX9_canonical_190 hr0 rfl i_9 4 (by decide) rfl m_RX9_19 rfl ?_
            refine jt_iload C dX9_canonical_193 0 rfl ?_
            refine jt_iconst (v := (-1 : Int32)) C dX9_canonical_195 (by decide) ?_
            obtain ⟨M15, eM15, h⟩ := jm_bind h
            refine jt_iast C dX9_canonical_196 (jm_f8_4 hr0) eM15 ?_
            refine jt_goto (tgt := 44) C dX9_canonical_197 (by decide) ?_
            cases h
            exact jt_sub [3, 4, 5, 0] rfl (h1 _ rfl _ _ _ rfl)
        · replace h := jm_ift c161 h
          refine jt_iload C dX9_canonical_164 1 rfl ?_
          refine jt_istore_n (lv' := [(3, _), (8, _), (7, _), (0, _), (1, _), (4, _), (6, _)]) C dX9_canonical_166 rfl (by decide) rfl ?_
          refine jt_goto (tgt := 197) C dX9_canonical_167 (by decide) ?_
          refine jt_goto (tgt := 44) C dX9_canonical_197 (by decide) ?_
          cases h
          exact jt_sub [3, 4, 0, 5] rfl (h1 _ rfl _ _ _ rfl)
    · replace h := jm_iff c103 h
      refine jt_iinc (v := (-1 : Int32)) (lv' := [(4, _), (0, _), (1, _), (3, _), (6, _)]) C dX9_canonical_106 3 rfl (by decide) (by decide) rfl ?_
      refine jt_goto (tgt := 197) C dX9_canonical_109 (by decide) ?_
      refine jt_goto (tgt := 44) C dX9_canonical_197 (by decide) ?_
      cases h
      exact jt_sub [1, 2, 3, 0] rfl (h1 _ rfl _ _ _ rfl)
set_option maxHeartbeats 4000000 in
set_option maxRecDepth 100000 in
theorem c_X9_canonical (l : Launch) (k : jm_C) (n : Nat) (r0 : Nat) (v1 : Int32) (v2 : Int32) (M : jm_M) (hr0 : jm_is r0 (3, 8)) (q1 : Int32) (q2 : jm_M) (h : X9_canonical n r0 v1 v2 M = some (q1, q2)) : jm_Ci l k yX9_canonical w_X9_canonical { frames := 4, cells := 0, slots := 0, locals := 160 } [.ref (jm_ad k r0), .int v1, .int v2] M q1 q2 := by
  refine jm_entry_i (cc := cX9_canonical) (nL := 9) (ret := (some .int)) (by decide) rfl (Nat.le_of_ble_eq_true rfl) ?_
  intro X hX C hQ hr
  subst hX
  unfold X9_canonical at h
  refine jt_iconst (v := (0 : Int32)) C dX9_canonical_0 (by decide) ?_
  refine jt_istore_n (lv' := [(3, _), (0, _), (1, _), (2, _)]) C dX9_canonical_1 rfl (by decide) rfl ?_
  obtain ⟨q3, eq3, h⟩ := jm_bind h
  refine jt_sub [1, 2, 3, 0] rfl ?_
  refine t_X9_canonical_L2 C n _ _ _ hr0 n _ _ eq3 ?_ _ _ rfl
  refine jt_iload_n C dX9_canonical_25 rfl 2 rfl ?_
  refine jt_istore_n (lv' := [(3, _), (0, _), (1, _), (2, _)]) C dX9_canonical_26 rfl (by decide) rfl ?_
  refine jt_iconst (v := (0 : Int32)) C dX9_canonical_27 (by decide) ?_
  refine jt_istore (lv' := [(4, _), (3, _), (0, _), (1, _), (2, _)]) C dX9_canonical_28 (by decide) rfl ?_
  refine jt_aload_n C dX9_canonical_30 rfl 2 rfl ?_
  refine jt_getR (Tf := TX9) (N := 17) C dX9_canonical_31 hr0 rfl i_9 4 (by decide) rfl m_RX9_19 rfl ?_
  refine jt_iconst (v := (0 : Int32)) C dX9_canonical_34 (by decide) ?_
  refine jt_iconst (v := (-1 : Int32)) C dX9_canonical_35 (by decide) ?_
  obtain ⟨M4, eM4, h⟩ := jm_bind h
  refine jt_iast C dX9_canonical_36 (jm_f8_4 hr0) eM4 ?_
  refine jt_aload_n C dX9_canonical_37 rfl 2 rfl ?_
  refine jt_getR (Tf := TX9) (N := 17) C dX9_canonical_38 hr0 rfl i_9 5 (by decide) rfl m_RX9_22 rfl ?_
  refine jt_iconst (v := (0 : Int32)) C dX9_canonical_41 (by decide) ?_
  refine jt_iconst (v := (0 : Int32)) C dX9_canonical_42 (by decide) ?_
  obtain ⟨M5, eM5, h⟩ := jm_bind h
  refine jt_iast C dX9_canonical_43 (jm_f8_5 hr0) eM5 ?_
  obtain ⟨q16, eq16, h⟩ := jm_bind h
  refine jt_sub [2, 3, 1, 0] rfl ?_
  refine t_X9_canonical_L44 C n _ _ hr0 n _ _ eq16 ?_ _ _ _ rfl
  intro y17_0 y17_1 hq17
  subst hq17
  try dsimp only at h
  refine jt_iload_n C dX9_canonical_200 rfl 0 rfl ?_
  cases h
  exact jt_iret C dX9_canonical_201 hQ hr
theorem h_X9_without : yX9_without.cls ≠ "java/lang/invoke/MethodHandle" ∧ yX9_without.cls ≠ "java/lang/invoke/VarHandle" ∧ (parseMethodDescriptor yX9_without.desc).map (fun d => d.parameters.length) = some 3 := by decide +kernel
set_option maxHeartbeats 4000000 in
set_option maxRecDepth 100000 in
theorem t_X9_without_L14 {X : jm_X} {k : jm_C} (C : jm_Cx X k cX9_without 6 RX9 w_X9_without) (v0 : Int32) (v1 : Int32) (v2 : Int32) (v4 : Int32) (M : jm_M)  : ∀ (m : Nat) (s : Int32 × Int32) (r : Int32), jm_loop (X9_without_B14 v0 v1 v2 v4) m s = some r → jm_T X { frames := 3, cells := 0, slots := 0, locals := 120 } k 6 M 53 [(0, .int v0), (1, .int v1), (2, .int v2), (3, .int r), (4, .int v4)] [] → (∀ (b0 : Int32) (b1 : Int32), s = (b0, b1) → jm_T X { frames := 3, cells := 0, slots := 0, locals := 120 } k 6 M 14 [(0, .int v0), (1, .int v1), (2, .int v2), (3, .int b0), (4, .int v4), (5, .int b1)] []) := by
  refine jm_loop_ind (P := fun (s : Int32 × Int32) => (∀ (b0 : Int32) (b1 : Int32), s = (b0, b1) → jm_T X { frames := 3, cells := 0, slots := 0, locals := 120 } k 6 M 14 [(0, .int v0), (1, .int v1), (2, .int v2), (3, .int b0), (4, .int v4), (5, .int b1)] [])) (K := fun (r : Int32) => jm_T X { frames := 3, cells := 0, slots := 0, locals := 120 } k 6 M 53 [(0, .int v0), (1, .int v1), (2, .int v2), (3, .int r), (4, .int v4)] []) ?_
  intro s q h h1 h2
  intro b0 b1 hs
  subst hs
  unfold X9_without_B14 at h
  try dsimp only at h
  refine jt_iload C dX9_without_14 5 rfl ?_
  refine jt_iload C dX9_without_16 4 rfl ?_
  refine jt_icmp_ge (tgt := 53) C dX9_without_18 (by decide) (fun c18 => ?_) (fun c18 => ?_)
  · replace h := jm_ift c18 h
    cases h
    exact jt_sub [0, 1, 2, 3, 4] rfl (h2 _ rfl)
  · replace h := jm_iff c18 h
    refine jt_iload C dX9_without_21 5 rfl ?_
    refine jt_iload_n C dX9_without_23 rfl 2 rfl ?_
    refine jt_icmp_eq (tgt := 47) C dX9_without_24 (by decide) (fun c24 => ?_) (fun c24 => ?_)
    · replace h := jm_ift c24 h
      refine jt_iinc (v := (1 : Int32)) (lv' := [(5, _), (0, _), (1, _), (2, _), (3, _), (4, _)]) C dX9_without_47 5 rfl (by decide) (by decide) rfl ?_
      refine jt_goto (tgt := 14) C dX9_without_50 (by decide) ?_
      cases h
      exact jt_sub [1, 2, 3, 4, 5, 0] rfl (h1 _ rfl _ _ rfl)
    · replace h := jm_iff c24 h
      refine jt_iload C dX9_without_27 4 rfl ?_
      refine jt_iload_n C dX9_without_29 rfl 2 rfl ?_
      refine jt_icmp_eq (tgt := 47) C dX9_without_30 (by decide) (fun c30 => ?_) (fun c30 => ?_)
      · replace h := jm_ift c30 h
        refine jt_iinc (v := (1 : Int32)) (lv' := [(5, _), (0, _), (1, _), (2, _), (3, _), (4, _)]) C dX9_without_47 5 rfl (by decide) (by decide) rfl ?_
        refine jt_goto (tgt := 14) C dX9_without_50 (by decide) ?_
        cases h
        exact jt_sub [1, 2, 3, 4, 5, 0] rfl (h1 _ rfl _ _ rfl)
      · replace h := jm_iff c30 h
        refine jt_iconst (v := (2 : Int32)) C dX9_without_33 (by decide) ?_
        refine jt_iload_n C dX9_without_34 rfl 3 rfl ?_
        refine jt_imul C dX9_without_35 ?_
        refine jt_iload_n C dX9_without_36 rfl 0 rfl ?_
        refine jt_iload_n C dX9_without_37 rfl 1 rfl ?_
        refine jt_iload C dX9_without_38 5 rfl ?_
        refine jt_iload C dX9_without_40 4 rfl ?_
        refine jt_callSi (As := [_, _, _, _]) (rest := [_]) C dX9_without_42 (c_X9_isEdge (jx_l X) k _ _ _ _ _ _ rfl) (k_goodIn (g_RX9_66)) rfl h_X9_isEdge ⟨rfl, rfl, Nat.le_of_ble_eq_true rfl, Nat.le_of_ble_eq_true rfl⟩ rfl rfl (Nat.le_of_ble_eq_true rfl) ?_
        refine jt_iadd C dX9_without_45 ?_
        refine jt_istore_n (lv' := [(3, _), (0, _), (1, _), (2, _), (4, _), (5, _)]) C dX9_without_46 rfl (by decide) rfl ?_
        refine jt_iinc (v := (1 : Int32)) (lv' := [(5, _), (3, _), (0, _), (1, _), (2, _), (4, _)]) C dX9_without_47 5 rfl (by decide) (by decide) rfl ?_
        refine jt_goto (tgt := 14) C dX9_without_50 (by decide) ?_
        cases h
        exact jt_sub [2, 3, 4, 1, 5, 0] rfl (h1 _ rfl _ _ rfl)
set_option maxHeartbeats 4000000 in
set_option maxRecDepth 100000 in
theorem t_X9_without_L5 {X : jm_X} {k : jm_C} (C : jm_Cx X k cX9_without 6 RX9 w_X9_without) (n : Nat) (v0 : Int32) (v1 : Int32) (v2 : Int32) (M : jm_M)  : ∀ (m : Nat) (s : Int32 × Int32) (r : Int32), jm_loop (X9_without_B5 n v0 v1 v2) m s = some r → jm_T X { frames := 3, cells := 0, slots := 0, locals := 120 } k 6 M 59 [(3, .int r)] [] → (∀ (b0 : Int32) (b1 : Int32), s = (b0, b1) → jm_T X { frames := 3, cells := 0, slots := 0, locals := 120 } k 6 M 5 [(0, .int v0), (1, .int v1), (2, .int v2), (3, .int b0), (4, .int b1)] []) := by
  refine jm_loop_ind (P := fun (s : Int32 × Int32) => (∀ (b0 : Int32) (b1 : Int32), s = (b0, b1) → jm_T X { frames := 3, cells := 0, slots := 0, locals := 120 } k 6 M 5 [(0, .int v0), (1, .int v1), (2, .int v2), (3, .int b0), (4, .int b1)] [])) (K := fun (r : Int32) => jm_T X { frames := 3, cells := 0, slots := 0, locals := 120 } k 6 M 59 [(3, .int r)] []) ?_
  intro s q h h1 h2
  intro b0 b1 hs
  subst hs
  unfold X9_without_B5 at h
  try dsimp only at h
  refine jt_iload C dX9_without_5 4 rfl ?_
  refine jt_iload_n C dX9_without_7 rfl 0 rfl ?_
  refine jt_icmp_ge (tgt := 59) C dX9_without_8 (by decide) (fun c8 => ?_) (fun c8 => ?_)
  · replace h := jm_ift c8 h
    cases h
    exact jt_sub [3] rfl (h2 _ rfl)
  · replace h := jm_iff c8 h
    refine jt_iconst (v := (0 : Int32)) C dX9_without_11 (by decide) ?_
    refine jt_istore (lv' := [(5, _), (0, _), (1, _), (2, _), (3, _), (4, _)]) C dX9_without_12 (by decide) rfl ?_
    obtain ⟨q1, eq1, h⟩ := jm_bind h
    refine jt_sub [1, 2, 3, 4, 5, 0] rfl ?_
    refine t_X9_without_L14 C _ _ _ _ _ n _ _ eq1 ?_ _ _ rfl
    refine jt_iinc (v := (1 : Int32)) (lv' := [(4, _), (0, _), (1, _), (2, _), (3, _)]) C dX9_without_53 4 rfl (by decide) (by decide) rfl ?_
    refine jt_goto (tgt := 5) C dX9_without_56 (by decide) ?_
    cases h
    exact jt_sub [1, 2, 3, 4, 0] rfl (h1 _ rfl _ _ rfl)
set_option maxHeartbeats 4000000 in
set_option maxRecDepth 100000 in
theorem c_X9_without (l : Launch) (k : jm_C) (n : Nat) (v0 : Int32) (v1 : Int32) (v2 : Int32) (M : jm_M)  (q : Int32) (h : X9_without n v0 v1 v2 = some q) : jm_Ci l k yX9_without w_X9_without { frames := 3, cells := 0, slots := 0, locals := 120 } [.int v0, .int v1, .int v2] M q M := by
  refine jm_entry_i (cc := cX9_without) (nL := 6) (ret := (some .int)) (by decide) rfl (Nat.le_of_ble_eq_true rfl) ?_
  intro X hX C hQ hr
  subst hX
  unfold X9_without at h
  refine jt_iconst (v := (0 : Int32)) C dX9_without_0 (by decide) ?_
  refine jt_istore_n (lv' := [(3, _), (0, _), (1, _), (2, _)]) C dX9_without_1 rfl (by decide) rfl ?_
  refine jt_iconst (v := (1 : Int32)) C dX9_without_2 (by decide) ?_
  refine jt_istore (lv' := [(4, _), (3, _), (0, _), (1, _), (2, _)]) C dX9_without_3 (by decide) rfl ?_
  obtain ⟨q2, eq2, h⟩ := jm_bind h
  refine jt_sub [2, 3, 4, 1, 0] rfl ?_
  refine t_X9_without_L5 C n _ _ _ _ n _ _ eq2 ?_ _ _ rfl
  refine jt_iload_n C dX9_without_59 rfl 0 rfl ?_
  cases h
  exact jt_iret C dX9_without_60 hQ hr
