theorem h_X4_components : yX4_components.cls = RX4 ∧ yX4_components.cls ≠ "java/lang/invoke/MethodHandle" ∧ yX4_components.cls ≠ "java/lang/invoke/VarHandle" ∧ (parseMethodDescriptor yX4_components.desc).map (fun d => d.parameters.length) = some 0 := by decide +kernel
set_option maxHeartbeats 4000000 in
set_option maxRecDepth 100000 in
theorem t_X4_components_L13 {X : jm_X} {k : jm_C} (C : jm_Cx X k cX4_components 4 RX4 w_X4_components) (n : Nat) (r0 : Nat) (M : jm_M) (hr0 : jm_is r0 (3, 4)) : ∀ (m : Nat) (s : Int32 × Int32 × Int32) (r : Int32), jm_loop (X4_components_B13 n r0 M) m s = some r → jm_T X { frames := 2, cells := 0, slots := 0, locals := 80 } k 4 M 49 [(2, .int r)] [] → (∀ (b0 : Int32) (b1 : Int32) (b2 : Int32), s = (b0, b1, b2) → jm_T X { frames := 2, cells := 0, slots := 0, locals := 80 } k 4 M 13 [(0, .ref (jm_ad k r0)), (1, .int b0), (2, .int b1), (3, .int b2)] []) := by
  refine jm_loop_ind (P := fun (s : Int32 × Int32 × Int32) => (∀ (b0 : Int32) (b1 : Int32) (b2 : Int32), s = (b0, b1, b2) → jm_T X { frames := 2, cells := 0, slots := 0, locals := 80 } k 4 M 13 [(0, .ref (jm_ad k r0)), (1, .int b0), (2, .int b1), (3, .int b2)] [])) (K := fun (r : Int32) => jm_T X { frames := 2, cells := 0, slots := 0, locals := 80 } k 4 M 49 [(2, .int r)] []) ?_
  intro s q h h1 h2
  intro b0 b1 b2 hs
  subst hs
  unfold X4_components_B13 at h
  try dsimp only at h
  refine jt_iload_n C dX4_components_13 rfl 3 rfl ?_
  refine jt_aload_n C dX4_components_14 rfl 0 rfl ?_
  refine jt_getI (Tf := TX4) (N := 2) C dX4_components_15 hr0 rfl i_4 1 (by decide) rfl m_RX4_15 rfl ?_
  refine jt_icmp_ge (tgt := 49) C dX4_components_18 (by decide) (fun c18 => ?_) (fun c18 => ?_)
  · replace h := jm_ift c18 h
    cases h
    exact jt_sub [2] rfl (h2 _ rfl)
  · replace h := jm_iff c18 h
    refine jt_iload_n C dX4_components_21 rfl 1 rfl ?_
    refine jt_iload_n C dX4_components_22 rfl 3 rfl ?_
    refine jt_ishr C dX4_components_23 ?_
    refine jt_iconst (v := (1 : Int32)) C dX4_components_24 (by decide) ?_
    refine jt_iand C dX4_components_25 ?_
    refine jt_iconst (v := (1 : Int32)) C dX4_components_26 (by decide) ?_
    refine jt_icmp_ne (tgt := 43) C dX4_components_27 (by decide) (fun c27 => ?_) (fun c27 => ?_)
    · replace h := jm_iff c27 h
      refine jt_iinc (v := (1 : Int32)) (lv' := [(3, _), (0, _), (1, _), (2, _)]) C dX4_components_43 3 rfl (by decide) (by decide) rfl ?_
      refine jt_goto (tgt := 13) C dX4_components_46 (by decide) ?_
      cases h
      exact jt_sub [1, 2, 3, 0] rfl (h1 _ rfl _ _ _ rfl)
    · replace h := jm_ift c27 h
      refine jt_iinc (v := (1 : Int32)) (lv' := [(2, _), (0, _), (1, _), (3, _)]) C dX4_components_30 2 rfl (by decide) (by decide) rfl ?_
      refine jt_iload_n C dX4_components_33 rfl 2 rfl ?_
      refine jt_aload_n C dX4_components_34 rfl 1 rfl ?_
      refine jt_iload_n C dX4_components_35 rfl 3 rfl ?_
      obtain ⟨x1, ex1, h⟩ := jm_bind h
      refine jt_callVi (As := [_]) (rest := [_]) C hr0 rfl dX4_components_36 (c_X4_reachedFrom (jx_l X) k n _ _ _ hr0 _ ex1) (k_goodIn (g_RX4_35)) rfl h_X4_reachedFrom ⟨rfl, rfl, Nat.le_of_ble_eq_true rfl, Nat.le_of_ble_eq_true rfl⟩ rfl rfl (Nat.le_of_ble_eq_true rfl) ?_
      refine jt_iconst (v := (-1 : Int32)) C dX4_components_39 (by decide) ?_
      refine jt_ixor C dX4_components_40 ?_
      refine jt_iand C dX4_components_41 ?_
      refine jt_istore_n (lv' := [(1, _), (2, _), (0, _), (3, _)]) C dX4_components_42 rfl (by decide) rfl ?_
      refine jt_iinc (v := (1 : Int32)) (lv' := [(3, _), (1, _), (2, _), (0, _)]) C dX4_components_43 3 rfl (by decide) (by decide) rfl ?_
      refine jt_goto (tgt := 13) C dX4_components_46 (by decide) ?_
      cases h
      exact jt_sub [3, 1, 2, 0] rfl (h1 _ rfl _ _ _ rfl)
set_option maxHeartbeats 4000000 in
set_option maxRecDepth 100000 in
theorem c_X4_components (l : Launch) (k : jm_C) (n : Nat) (r0 : Nat) (M : jm_M) (hr0 : jm_is r0 (3, 4)) (q : Int32) (h : X4_components n r0 M = some q) : jm_Ci l k yX4_components w_X4_components { frames := 2, cells := 0, slots := 0, locals := 80 } [.ref (jm_ad k r0)] M q M := by
  refine jm_entry_i (cc := cX4_components) (nL := 4) (ret := (some .int)) (by decide) rfl (Nat.le_of_ble_eq_true rfl) ?_
  intro X hX C hQ hr
  subst hX
  unfold X4_components at h
  refine jt_iconst (v := (1 : Int32)) C dX4_components_0 (by decide) ?_
  refine jt_aload_n C dX4_components_1 rfl 0 rfl ?_
  refine jt_getI (Tf := TX4) (N := 2) C dX4_components_2 hr0 rfl i_4 1 (by decide) rfl m_RX4_15 rfl ?_
  refine jt_ishl C dX4_components_5 ?_
  refine jt_iconst (v := (1 : Int32)) C dX4_components_6 (by decide) ?_
  refine jt_isub C dX4_components_7 ?_
  refine jt_istore_n (lv' := [(1, _), (0, _)]) C dX4_components_8 rfl (by decide) rfl ?_
  refine jt_iconst (v := (0 : Int32)) C dX4_components_9 (by decide) ?_
  refine jt_istore_n (lv' := [(2, _), (1, _), (0, _)]) C dX4_components_10 rfl (by decide) rfl ?_
  refine jt_iconst (v := (0 : Int32)) C dX4_components_11 (by decide) ?_
  refine jt_istore_n (lv' := [(3, _), (2, _), (1, _), (0, _)]) C dX4_components_12 rfl (by decide) rfl ?_
  obtain ⟨q2, eq2, h⟩ := jm_bind h
  refine jt_sub [3, 2, 1, 0] rfl ?_
  refine t_X4_components_L13 C n _ _ hr0 n _ _ eq2 ?_ _ _ _ rfl
  refine jt_iload_n C dX4_components_49 rfl 0 rfl ?_
  cases h
  exact jt_iret C dX4_components_50 hQ hr
theorem h_J6_bitCount_0f7a4 : yJ6_bitCount_0f7a4.cls ≠ "java/lang/invoke/MethodHandle" ∧ yJ6_bitCount_0f7a4.cls ≠ "java/lang/invoke/VarHandle" ∧ (parseMethodDescriptor yJ6_bitCount_0f7a4.desc).map (fun d => d.parameters.length) = some 1 := by decide +kernel
set_option maxHeartbeats 4000000 in
set_option maxRecDepth 100000 in
theorem c_J6_bitCount_0f7a4 (l : Launch) (k : jm_C) (v0 : Int32) (M : jm_M)  (q : Int32) (h : J6_bitCount_0f7a4 v0 = q) : jm_Ci l k yJ6_bitCount_0f7a4 w_J6_bitCount_0f7a4 { frames := 0, cells := 0, slots := 0, locals := 0 } [.int v0] M q M := by
  refine jm_entry_i (cc := cJ6_bitCount_0f7a4) (nL := 1) (ret := (some .int)) (by decide) rfl (Nat.le_of_ble_eq_true rfl) ?_
  intro X hX C hQ hr
  subst hX
  unfold J6_bitCount_0f7a4 at h
  refine jt_iload_n C dJ6_bitCount_0f7a4_0 rfl 0 rfl ?_
  refine jt_iload_n C dJ6_bitCount_0f7a4_1 rfl 0 rfl ?_
  refine jt_iconst (v := (1 : Int32)) C dJ6_bitCount_0f7a4_2 (by decide) ?_
  refine jt_iushr C dJ6_bitCount_0f7a4_3 ?_
  refine jt_ldcw (v := (1431655765 : Int32)) C dJ6_bitCount_0f7a4_4 (List.mem_cons_of_mem _ k_c_RJ6_265) ?_
  refine jt_iand C dJ6_bitCount_0f7a4_7 ?_
  refine jt_isub C dJ6_bitCount_0f7a4_8 ?_
  refine jt_istore_n (lv' := [(0, _)]) C dJ6_bitCount_0f7a4_9 rfl (by decide) rfl ?_
  refine jt_iload_n C dJ6_bitCount_0f7a4_10 rfl 0 rfl ?_
  refine jt_ldcw (v := (858993459 : Int32)) C dJ6_bitCount_0f7a4_11 (List.mem_cons_of_mem _ k_c_RJ6_266) ?_
  refine jt_iand C dJ6_bitCount_0f7a4_14 ?_
  refine jt_iload_n C dJ6_bitCount_0f7a4_15 rfl 0 rfl ?_
  refine jt_iconst (v := (2 : Int32)) C dJ6_bitCount_0f7a4_16 (by decide) ?_
  refine jt_iushr C dJ6_bitCount_0f7a4_17 ?_
  refine jt_ldcw (v := (858993459 : Int32)) C dJ6_bitCount_0f7a4_18 (List.mem_cons_of_mem _ k_c_RJ6_266) ?_
  refine jt_iand C dJ6_bitCount_0f7a4_21 ?_
  refine jt_iadd C dJ6_bitCount_0f7a4_22 ?_
  refine jt_istore_n (lv' := [(0, _)]) C dJ6_bitCount_0f7a4_23 rfl (by decide) rfl ?_
  refine jt_iload_n C dJ6_bitCount_0f7a4_24 rfl 0 rfl ?_
  refine jt_iload_n C dJ6_bitCount_0f7a4_25 rfl 0 rfl ?_
  refine jt_iconst (v := (4 : Int32)) C dJ6_bitCount_0f7a4_26 (by decide) ?_
  refine jt_iushr C dJ6_bitCount_0f7a4_27 ?_
  refine jt_iadd C dJ6_bitCount_0f7a4_28 ?_
  refine jt_ldcw (v := (252645135 : Int32)) C dJ6_bitCount_0f7a4_29 (List.mem_cons_of_mem _ k_c_RJ6_267) ?_
  refine jt_iand C dJ6_bitCount_0f7a4_32 ?_
  refine jt_istore_n (lv' := [(0, _)]) C dJ6_bitCount_0f7a4_33 rfl (by decide) rfl ?_
  refine jt_iload_n C dJ6_bitCount_0f7a4_34 rfl 0 rfl ?_
  refine jt_iload_n C dJ6_bitCount_0f7a4_35 rfl 0 rfl ?_
  refine jt_bipush (v := (8 : Int32)) C dJ6_bitCount_0f7a4_36 (by decide) ?_
  refine jt_iushr C dJ6_bitCount_0f7a4_38 ?_
  refine jt_iadd C dJ6_bitCount_0f7a4_39 ?_
  refine jt_istore_n (lv' := [(0, _)]) C dJ6_bitCount_0f7a4_40 rfl (by decide) rfl ?_
  refine jt_iload_n C dJ6_bitCount_0f7a4_41 rfl 0 rfl ?_
  refine jt_iload_n C dJ6_bitCount_0f7a4_42 rfl 0 rfl ?_
  refine jt_bipush (v := (16 : Int32)) C dJ6_bitCount_0f7a4_43 (by decide) ?_
  refine jt_iushr C dJ6_bitCount_0f7a4_45 ?_
  refine jt_iadd C dJ6_bitCount_0f7a4_46 ?_
  refine jt_istore_n (lv' := [(0, _)]) C dJ6_bitCount_0f7a4_47 rfl (by decide) rfl ?_
  refine jt_iload_n C dJ6_bitCount_0f7a4_48 rfl 0 rfl ?_
  refine jt_bipush (v := (63 : Int32)) C dJ6_bitCount_0f7a4_49 (by decide) ?_
  refine jt_iand C dJ6_bitCount_0f7a4_51 ?_
  subst h
  exact jt_iret C dJ6_bitCount_0f7a4_52 hQ hr
theorem h_X4_edges : yX4_edges.cls = RX4 ∧ yX4_edges.cls ≠ "java/lang/invoke/MethodHandle" ∧ yX4_edges.cls ≠ "java/lang/invoke/VarHandle" ∧ (parseMethodDescriptor yX4_edges.desc).map (fun d => d.parameters.length) = some 0 := by decide +kernel
set_option maxHeartbeats 4000000 in
set_option maxRecDepth 100000 in
theorem t_X4_edges_L4 {X : jm_X} {k : jm_C} (C : jm_Cx X k cX4_edges 3 RX4 w_X4_edges) (r0 : Nat) (M : jm_M) (hr0 : jm_is r0 (3, 4)) : ∀ (m : Nat) (s : Int32 × Int32) (r : Int32), jm_loop (X4_edges_B4 r0 M) m s = some r → jm_T X { frames := 1, cells := 0, slots := 0, locals := 40 } k 3 M 30 [(1, .int r)] [] → (∀ (b0 : Int32) (b1 : Int32), s = (b0, b1) → jm_T X { frames := 1, cells := 0, slots := 0, locals := 40 } k 3 M 4 [(0, .ref (jm_ad k r0)), (1, .int b0), (2, .int b1)] []) := by
  refine jm_loop_ind (P := fun (s : Int32 × Int32) => (∀ (b0 : Int32) (b1 : Int32), s = (b0, b1) → jm_T X { frames := 1, cells := 0, slots := 0, locals := 40 } k 3 M 4 [(0, .ref (jm_ad k r0)), (1, .int b0), (2, .int b1)] [])) (K := fun (r : Int32) => jm_T X { frames := 1, cells := 0, slots := 0, locals := 40 } k 3 M 30 [(1, .int r)] []) ?_
  intro s q h h1 h2
  intro b0 b1 hs
  subst hs
  unfold X4_edges_B4 at h
  try dsimp only at h
  refine jt_iload_n C dX4_edges_4 rfl 2 rfl ?_
  refine jt_aload_n C dX4_edges_5 rfl 0 rfl ?_
  refine jt_getI (Tf := TX4) (N := 2) C dX4_edges_6 hr0 rfl i_4 1 (by decide) rfl m_RX4_15 rfl ?_
  refine jt_icmp_ge (tgt := 30) C dX4_edges_9 (by decide) (fun c9 => ?_) (fun c9 => ?_)
  · replace h := jm_ift c9 h
    cases h
    exact jt_sub [1] rfl (h2 _ rfl)
  · replace h := jm_iff c9 h
    refine jt_iload_n C dX4_edges_12 rfl 1 rfl ?_
    refine jt_aload_n C dX4_edges_13 rfl 0 rfl ?_
    refine jt_getR (Tf := TX4) (N := 2) C dX4_edges_14 hr0 rfl i_4 0 (by decide) rfl m_RX4_9 rfl ?_
    refine jt_iload_n C dX4_edges_17 rfl 2 rfl ?_
    obtain ⟨x1, ex1, h⟩ := jm_bind h
    refine jt_iald C dX4_edges_18 (jm_f4_0 hr0) ex1 ?_
    refine jt_callSi (As := [_]) (rest := [_]) C dX4_edges_19 (c_J6_bitCount_0f7a4 (jx_l X) k _ _ _ rfl) (k_goodIn (g_RX4_27)) rfl h_J6_bitCount_0f7a4 ⟨rfl, rfl, Nat.le_of_ble_eq_true rfl, Nat.le_of_ble_eq_true rfl⟩ rfl rfl (Nat.le_of_ble_eq_true rfl) ?_
    refine jt_iadd C dX4_edges_22 ?_
    refine jt_istore_n (lv' := [(1, _), (0, _), (2, _)]) C dX4_edges_23 rfl (by decide) rfl ?_
    refine jt_iinc (v := (1 : Int32)) (lv' := [(2, _), (1, _), (0, _)]) C dX4_edges_24 2 rfl (by decide) (by decide) rfl ?_
    refine jt_goto (tgt := 4) C dX4_edges_27 (by decide) ?_
    cases h
    exact jt_sub [2, 1, 0] rfl (h1 _ rfl _ _ rfl)
set_option maxHeartbeats 4000000 in
set_option maxRecDepth 100000 in
theorem c_X4_edges (l : Launch) (k : jm_C) (n : Nat) (r0 : Nat) (M : jm_M) (hr0 : jm_is r0 (3, 4)) (q : Int32) (h : X4_edges n r0 M = some q) : jm_Ci l k yX4_edges w_X4_edges { frames := 1, cells := 0, slots := 0, locals := 40 } [.ref (jm_ad k r0)] M q M := by
  refine jm_entry_i (cc := cX4_edges) (nL := 3) (ret := (some .int)) (by decide) rfl (Nat.le_of_ble_eq_true rfl) ?_
  intro X hX C hQ hr
  subst hX
  unfold X4_edges at h
  refine jt_iconst (v := (0 : Int32)) C dX4_edges_0 (by decide) ?_
  refine jt_istore_n (lv' := [(1, _), (0, _)]) C dX4_edges_1 rfl (by decide) rfl ?_
  refine jt_iconst (v := (0 : Int32)) C dX4_edges_2 (by decide) ?_
  refine jt_istore_n (lv' := [(2, _), (1, _), (0, _)]) C dX4_edges_3 rfl (by decide) rfl ?_
  obtain ⟨q2, eq2, h⟩ := jm_bind h
  refine jt_sub [2, 1, 0] rfl ?_
  refine t_X4_edges_L4 C _ _ hr0 n _ _ eq2 ?_ _ _ rfl
  refine jt_iload_n C dX4_edges_30 rfl 0 rfl ?_
  refine jt_iconst (v := (2 : Int32)) C dX4_edges_31 (by decide) ?_
  refine jt_idiv C dX4_edges_32 (if_neg (by decide)) ?_
  cases h
  exact jt_iret C dX4_edges_33 hQ hr
theorem h_X7_fits : yX7_fits.cls = RX7 ∧ yX7_fits.cls ≠ "java/lang/invoke/MethodHandle" ∧ yX7_fits.cls ≠ "java/lang/invoke/VarHandle" ∧ (parseMethodDescriptor yX7_fits.desc).map (fun d => d.parameters.length) = some 3 := by decide +kernel
set_option maxHeartbeats 4000000 in
set_option maxRecDepth 100000 in
theorem t_X7_fits_L84 {X : jm_X} {k : jm_C} (C : jm_Cx X k cX7_fits 7 RX7 w_X7_fits) (r0 : Nat) (v2 : Int32) (v4 : Int32) (v5 : Int32) (M : jm_M) (hr0 : jm_is r0 (3, 6)) : ∀ (m : Nat) (s : Int32) (r : (Int32) ⊕ (Unit)), jm_loop (X7_fits_B84 r0 v2 v4 v5 M) m s = some r → (match r with | .inl z => ∀ (pc1 : Nat) (lv1 : List (Nat × Value)), (decode cX7_fits pc1 = .ok (.ireturn, 1) ∧ (z = 0 ∨ z = 1)) → jm_T X { frames := 1, cells := 0, slots := 0, locals := 40 } k 7 M pc1 lv1 [.int z] | .inr w => jm_T X { frames := 1, cells := 0, slots := 0, locals := 40 } k 7 M 127 [] []) → jm_T X { frames := 1, cells := 0, slots := 0, locals := 40 } k 7 M 84 [(0, .ref (jm_ad k r0)), (2, .int v2), (4, .int v4), (5, .int v5), (6, .int s)] [] := by
  refine jm_loop_ind (P := fun (s : Int32) => jm_T X { frames := 1, cells := 0, slots := 0, locals := 40 } k 7 M 84 [(0, .ref (jm_ad k r0)), (2, .int v2), (4, .int v4), (5, .int v5), (6, .int s)] []) (K := fun (r : (Int32) ⊕ (Unit)) => match r with | .inl z => ∀ (pc1 : Nat) (lv1 : List (Nat × Value)), (decode cX7_fits pc1 = .ok (.ireturn, 1) ∧ (z = 0 ∨ z = 1)) → jm_T X { frames := 1, cells := 0, slots := 0, locals := 40 } k 7 M pc1 lv1 [.int z] | .inr w => jm_T X { frames := 1, cells := 0, slots := 0, locals := 40 } k 7 M 127 [] []) ?_
  intro s q h h1 h2
  unfold X7_fits_B84 at h
  try dsimp only at h
  refine jt_iload C dX7_fits_84 4 rfl ?_
  refine jt_iload_n C dX7_fits_86 rfl 1 rfl ?_
  refine jt_icmp_ge (tgt := 127) C dX7_fits_87 (by decide) (fun c87 => ?_) (fun c87 => ?_)
  · replace h := jm_ift c87 h
    cases h
    exact jt_sub [] rfl (h2 _ rfl)
  · replace h := jm_iff c87 h
    refine jt_iload C dX7_fits_90 4 rfl ?_
    refine jt_bipush (v := (8 : Int32)) C dX7_fits_92 (by decide) ?_
    refine jt_icmp_ge (tgt := 127) C dX7_fits_94 (by decide) (fun c94 => ?_) (fun c94 => ?_)
    · replace h := jm_ift c94 h
      cases h
      exact jt_sub [] rfl (h2 _ rfl)
    · replace h := jm_iff c94 h
      refine jt_iload C dX7_fits_97 2 rfl ?_
      refine jt_iload C dX7_fits_99 4 rfl ?_
      refine jt_ishr C dX7_fits_101 ?_
      refine jt_iconst (v := (1 : Int32)) C dX7_fits_102 (by decide) ?_
      refine jt_iand C dX7_fits_103 ?_
      refine jt_iload C dX7_fits_104 3 rfl ?_
      refine jt_aload_n C dX7_fits_106 rfl 0 rfl ?_
      refine jt_getR (Tf := TX7) (N := 3) C dX7_fits_107 hr0 rfl i_7 0 (by decide) rfl m_RX7_9 rfl ?_
      refine jt_iload C dX7_fits_110 4 rfl ?_
      obtain ⟨x3, ex3, h⟩ := jm_bind h
      refine jt_iald C dX7_fits_112 (jm_f6_0 hr0) ex3 ?_
      refine jt_ishr C dX7_fits_113 ?_
      refine jt_iconst (v := (1 : Int32)) C dX7_fits_114 (by decide) ?_
      refine jt_iand C dX7_fits_115 ?_
      refine jt_icmp_eq (tgt := 121) C dX7_fits_116 (by decide) (fun c116 => ?_) (fun c116 => ?_)
      · replace h := jm_ift c116 h
        refine jt_iinc (v := (1 : Int32)) (lv' := [(6, _), (0, _), (2, _), (4, _), (5, _)]) C dX7_fits_121 4 rfl (by decide) (by decide) rfl ?_
        refine jt_goto (tgt := 84) C dX7_fits_124 (by decide) ?_
        cases h
        exact jt_sub [1, 2, 3, 4, 0] rfl (h1 _ rfl)
      · replace h := jm_iff c116 h
        refine jt_iconst (v := (0 : Int32)) C dX7_fits_119 (by decide) ?_
        cases h
        exact h2 _ rfl _ _ ⟨dX7_fits_120, (Or.inl rfl)⟩
set_option maxHeartbeats 4000000 in
set_option maxRecDepth 100000 in
theorem c_X7_fits (l : Launch) (k : jm_C) (n : Nat) (r0 : Nat) (r1 : Nat) (v2 : Int32) (v3 : Int32) (M : jm_M) (hr0 : jm_is r0 (3, 6)) (hr1 : jm_is r1 (3, 4)) (q : Int32) (h : X7_fits n r0 r1 v2 v3 M = some q) : jm_Ci l k yX7_fits w_X7_fits { frames := 1, cells := 0, slots := 0, locals := 40 } [.ref (jm_ad k r0), .ref (jm_ad k r1), .int v2, .int v3] M q M := by
  refine jm_entry_i (cc := cX7_fits) (nL := 7) (ret := (some .boolean)) (by decide) rfl (Nat.le_of_ble_eq_true rfl) ?_
  intro X hX C hQ hr
  subst hX
  unfold X7_fits at h
  refine jt_aload_n C dX7_fits_0 rfl 1 rfl ?_
  refine jt_iload_n C dX7_fits_1 rfl 2 rfl ?_
  obtain ⟨x1, ex1, h⟩ := jm_bind h
  refine jt_callVi (As := [_]) (rest := []) C hr1 rfl dX7_fits_2 (c_X4_row (jx_l X) k _ _ _ hr1 _ ex1) (k_goodIn (g_RX7_40)) rfl h_X4_row ⟨rfl, rfl, Nat.le_of_ble_eq_true rfl, Nat.le_of_ble_eq_true rfl⟩ rfl rfl (Nat.le_of_ble_eq_true rfl) ?_
  refine jt_istore (lv' := [(4, _), (0, _), (1, _), (2, _), (3, _)]) C dX7_fits_5 (by decide) rfl ?_
  refine jt_aload_n C dX7_fits_7 rfl 2 rfl ?_
  refine jt_iload_n C dX7_fits_8 rfl 4 rfl ?_
  obtain ⟨x2, ex2, h⟩ := jm_bind h
  refine jt_callVi (As := [_]) (rest := []) C hr1 rfl dX7_fits_9 (c_X4_row (jx_l X) k _ _ _ hr1 _ ex2) (k_goodIn (g_RX7_40)) rfl h_X4_row ⟨rfl, rfl, Nat.le_of_ble_eq_true rfl, Nat.le_of_ble_eq_true rfl⟩ rfl rfl (Nat.le_of_ble_eq_true rfl) ?_
  refine jt_istore (lv' := [(5, _), (4, _), (0, _), (1, _), (2, _), (3, _)]) C dX7_fits_12 (by decide) rfl ?_
  refine jt_iload_n C dX7_fits_14 rfl 4 rfl ?_
  refine jt_aload_n C dX7_fits_15 rfl 2 rfl ?_
  refine jt_getI (Tf := TX7) (N := 3) C dX7_fits_16 hr0 rfl i_7 1 (by decide) rfl m_RX7_15 rfl ?_
  refine jt_icmp_ne (tgt := 26) C dX7_fits_19 (by decide) (fun c19 => ?_) (fun c19 => ?_)
  · replace h := jm_iff c19 h
    refine jt_iconst (v := (0 : Int32)) C dX7_fits_26 (by decide) ?_
    refine jt_iload_n C dX7_fits_27 rfl 5 rfl ?_
    refine jt_aload_n C dX7_fits_28 rfl 2 rfl ?_
    refine jt_getI (Tf := TX7) (N := 3) C dX7_fits_29 hr0 rfl i_7 2 (by decide) rfl m_RX7_19 rfl ?_
    refine jt_icmp_ne (tgt := 39) C dX7_fits_32 (by decide) (fun c32 => ?_) (fun c32 => ?_)
    · replace h := jm_iff c32 h
      refine jt_iconst (v := (0 : Int32)) C dX7_fits_39 (by decide) ?_
      refine jt_icmp_ne (tgt := 56) C dX7_fits_40 (by decide) (fun c => absurd c (by decide)) (fun _ => ?_)
      refine jt_iload C dX7_fits_43 1 rfl ?_
      refine jt_callSi (As := [_]) (rest := []) C dX7_fits_45 (c_J6_bitCount_0f7a4 (jx_l X) k _ _ _ rfl) (k_goodIn (g_RX7_44)) rfl h_J6_bitCount_0f7a4 ⟨rfl, rfl, Nat.le_of_ble_eq_true rfl, Nat.le_of_ble_eq_true rfl⟩ rfl rfl (Nat.le_of_ble_eq_true rfl) ?_
      refine jt_iload C dX7_fits_48 0 rfl ?_
      refine jt_callSi (As := [_]) (rest := [_]) C dX7_fits_50 (c_J6_bitCount_0f7a4 (jx_l X) k _ _ _ rfl) (k_goodIn (g_RX7_44)) rfl h_J6_bitCount_0f7a4 ⟨rfl, rfl, Nat.le_of_ble_eq_true rfl, Nat.le_of_ble_eq_true rfl⟩ rfl rfl (Nat.le_of_ble_eq_true rfl) ?_
      refine jt_icmp_eq (tgt := 58) C dX7_fits_53 (by decide) (fun c53 => ?_) (fun c53 => ?_)
      · replace h := jm_ift c53 h
        refine jt_iload C dX7_fits_58 1 rfl ?_
        refine jt_aload_n C dX7_fits_60 rfl 2 rfl ?_
        refine jt_getI (Tf := TX7) (N := 3) C dX7_fits_61 hr0 rfl i_7 1 (by decide) rfl m_RX7_15 rfl ?_
        refine jt_ishr C dX7_fits_64 ?_
        refine jt_iconst (v := (1 : Int32)) C dX7_fits_65 (by decide) ?_
        refine jt_iand C dX7_fits_66 ?_
        refine jt_iload C dX7_fits_67 0 rfl ?_
        refine jt_aload_n C dX7_fits_69 rfl 2 rfl ?_
        refine jt_getI (Tf := TX7) (N := 3) C dX7_fits_70 hr0 rfl i_7 2 (by decide) rfl m_RX7_19 rfl ?_
        refine jt_ishr C dX7_fits_73 ?_
        refine jt_iconst (v := (1 : Int32)) C dX7_fits_74 (by decide) ?_
        refine jt_iand C dX7_fits_75 ?_
        refine jt_icmp_eq (tgt := 81) C dX7_fits_76 (by decide) (fun c76 => ?_) (fun c76 => ?_)
        · replace h := jm_ift c76 h
          refine jt_iconst (v := (0 : Int32)) C dX7_fits_81 (by decide) ?_
          refine jt_istore (lv' := [(6, _), (5, _), (4, _), (0, _), (1, _), (2, _), (3, _)]) C dX7_fits_82 (by decide) rfl ?_
          obtain ⟨q4, eq4, h⟩ := jm_bind h
          refine jt_sub [3, 5, 2, 1, 0] rfl ?_
          refine t_X7_fits_L84 C _ _ _ _ _ hr0 n _ _ eq4 ?_
          rcases q4 with z5 | w6
          · replace h := jm_inl h
            intro pc1 lv1 hp1
            cases h
            exact jt_zret C hp1.1 hQ hr hp1.2
          · replace h := jm_inr h
            show jm_T _ _ _ _ _ _ _ _
            refine jt_iconst (v := (1 : Int32)) C dX7_fits_127 (by decide) ?_
            cases h
            exact jt_zret C dX7_fits_128 hQ hr (Or.inr rfl)
        · replace h := jm_iff c76 h
          refine jt_iconst (v := (0 : Int32)) C dX7_fits_79 (by decide) ?_
          cases h
          exact jt_zret C dX7_fits_80 hQ hr (Or.inl rfl)
      · replace h := jm_iff c53 h
        refine jt_iconst (v := (0 : Int32)) C dX7_fits_56 (by decide) ?_
        cases h
        exact jt_zret C dX7_fits_57 hQ hr (Or.inl rfl)
    · replace h := jm_ift c32 h
      refine jt_iconst (v := (1 : Int32)) C dX7_fits_35 (by decide) ?_
      refine jt_goto (tgt := 40) C dX7_fits_36 (by decide) ?_
      refine jt_icmp_ne (tgt := 56) C dX7_fits_40 (by decide) (fun _ => ?_) (fun c => absurd c (by decide))
      refine jt_iconst (v := (0 : Int32)) C dX7_fits_56 (by decide) ?_
      cases h
      exact jt_zret C dX7_fits_57 hQ hr (Or.inl rfl)
  · replace h := jm_ift c19 h
    refine jt_iconst (v := (1 : Int32)) C dX7_fits_22 (by decide) ?_
    refine jt_goto (tgt := 27) C dX7_fits_23 (by decide) ?_
    refine jt_iload_n C dX7_fits_27 rfl 5 rfl ?_
    refine jt_aload_n C dX7_fits_28 rfl 2 rfl ?_
    refine jt_getI (Tf := TX7) (N := 3) C dX7_fits_29 hr0 rfl i_7 2 (by decide) rfl m_RX7_19 rfl ?_
    refine jt_icmp_ne (tgt := 39) C dX7_fits_32 (by decide) (fun c32 => ?_) (fun c32 => ?_)
    · replace h := jm_iff c32 h
      refine jt_iconst (v := (0 : Int32)) C dX7_fits_39 (by decide) ?_
      refine jt_icmp_ne (tgt := 56) C dX7_fits_40 (by decide) (fun _ => ?_) (fun c => absurd c (by decide))
      refine jt_iconst (v := (0 : Int32)) C dX7_fits_56 (by decide) ?_
      cases h
      exact jt_zret C dX7_fits_57 hQ hr (Or.inl rfl)
    · replace h := jm_ift c32 h
      refine jt_iconst (v := (1 : Int32)) C dX7_fits_35 (by decide) ?_
      refine jt_goto (tgt := 40) C dX7_fits_36 (by decide) ?_
      refine jt_icmp_ne (tgt := 56) C dX7_fits_40 (by decide) (fun c => absurd c (by decide)) (fun _ => ?_)
      refine jt_iload C dX7_fits_43 1 rfl ?_
      refine jt_callSi (As := [_]) (rest := []) C dX7_fits_45 (c_J6_bitCount_0f7a4 (jx_l X) k _ _ _ rfl) (k_goodIn (g_RX7_44)) rfl h_J6_bitCount_0f7a4 ⟨rfl, rfl, Nat.le_of_ble_eq_true rfl, Nat.le_of_ble_eq_true rfl⟩ rfl rfl (Nat.le_of_ble_eq_true rfl) ?_
      refine jt_iload C dX7_fits_48 0 rfl ?_
      refine jt_callSi (As := [_]) (rest := [_]) C dX7_fits_50 (c_J6_bitCount_0f7a4 (jx_l X) k _ _ _ rfl) (k_goodIn (g_RX7_44)) rfl h_J6_bitCount_0f7a4 ⟨rfl, rfl, Nat.le_of_ble_eq_true rfl, Nat.le_of_ble_eq_true rfl⟩ rfl rfl (Nat.le_of_ble_eq_true rfl) ?_
      refine jt_icmp_eq (tgt := 58) C dX7_fits_53 (by decide) (fun c53 => ?_) (fun c53 => ?_)
      · replace h := jm_ift c53 h
        refine jt_iload C dX7_fits_58 1 rfl ?_
        refine jt_aload_n C dX7_fits_60 rfl 2 rfl ?_
        refine jt_getI (Tf := TX7) (N := 3) C dX7_fits_61 hr0 rfl i_7 1 (by decide) rfl m_RX7_15 rfl ?_
        refine jt_ishr C dX7_fits_64 ?_
        refine jt_iconst (v := (1 : Int32)) C dX7_fits_65 (by decide) ?_
        refine jt_iand C dX7_fits_66 ?_
        refine jt_iload C dX7_fits_67 0 rfl ?_
        refine jt_aload_n C dX7_fits_69 rfl 2 rfl ?_
        refine jt_getI (Tf := TX7) (N := 3) C dX7_fits_70 hr0 rfl i_7 2 (by decide) rfl m_RX7_19 rfl ?_
        refine jt_ishr C dX7_fits_73 ?_
        refine jt_iconst (v := (1 : Int32)) C dX7_fits_74 (by decide) ?_
        refine jt_iand C dX7_fits_75 ?_
        refine jt_icmp_eq (tgt := 81) C dX7_fits_76 (by decide) (fun c76 => ?_) (fun c76 => ?_)
        · replace h := jm_ift c76 h
          refine jt_iconst (v := (0 : Int32)) C dX7_fits_81 (by decide) ?_
          refine jt_istore (lv' := [(6, _), (5, _), (4, _), (0, _), (1, _), (2, _), (3, _)]) C dX7_fits_82 (by decide) rfl ?_
          obtain ⟨q7, eq7, h⟩ := jm_bind h
          refine jt_sub [3, 5, 2, 1, 0] rfl ?_
          refine t_X7_fits_L84 C _ _ _ _ _ hr0 n _ _ eq7 ?_
          rcases q7 with z8 | w9
          · replace h := jm_inl h
            intro pc1 lv1 hp1
            cases h
            exact jt_zret C hp1.1 hQ hr hp1.2
          · replace h := jm_inr h
            show jm_T _ _ _ _ _ _ _ _
            refine jt_iconst (v := (1 : Int32)) C dX7_fits_127 (by decide) ?_
            cases h
            exact jt_zret C dX7_fits_128 hQ hr (Or.inr rfl)
        · replace h := jm_iff c76 h
          refine jt_iconst (v := (0 : Int32)) C dX7_fits_79 (by decide) ?_
          cases h
          exact jt_zret C dX7_fits_80 hQ hr (Or.inl rfl)
      · replace h := jm_iff c53 h
        refine jt_iconst (v := (0 : Int32)) C dX7_fits_56 (by decide) ?_
        cases h
        exact jt_zret C dX7_fits_57 hQ hr (Or.inl rfl)
theorem h_X7_extend : yX7_extend.cls ≠ "java/lang/invoke/MethodHandle" ∧ yX7_extend.cls ≠ "java/lang/invoke/VarHandle" ∧ (parseMethodDescriptor yX7_extend.desc).map (fun d => d.parameters.length) = some 4 := by decide +kernel
set_option maxHeartbeats 4000000 in
set_option maxRecDepth 100000 in
theorem t_X7_extend_L13 {X : jm_X} {k : jm_C} (C : jm_Cx X k cX7_extend 5 RX7 w_X7_extend) (d : Nat) (rec : Nat → Nat → Int32 → Int32 → jm_M → Option (Int32 × jm_M)) (hrec : ∀ (r0 : Nat) (r1 : Nat) (v2 : Int32) (v3 : Int32) (M : jm_M) (_ : jm_is r0 (3, 6)) (_ : jm_is r1 (3, 4)) (q1 : Int32) (q2 : jm_M), rec r0 r1 v2 v3 M = some (q1, q2) → jm_Ci (jx_l X) k yX7_extend w_X7_extend { frames := 2 + d, cells := 0, slots := 0, locals := 40 * (2 + d) } [.ref (jm_ad k r0), .ref (jm_ad k r1), .int v2, .int v3] M q1 q2) (n : Nat) (r0 : Nat) (r1 : Nat) (v2 : Int32) (v3 : Int32) (hr0 : jm_is r0 (3, 6)) (hr1 : jm_is r1 (3, 4)) : ∀ (m : Nat) (s : Int32 × jm_M) (r : (Int32 × jm_M) ⊕ (jm_M)), jm_loop (X7_extend_B13 rec n r0 r1 v2 v3) m s = some r → (match r with | .inl z => ∀ (z1 : Int32) (z2 : jm_M), z = (z1, z2) → ∀ (pc1 : Nat) (lv1 : List (Nat × Value)), (decode cX7_extend pc1 = .ok (.ireturn, 1) ∧ (z1 = 0 ∨ z1 = 1)) → jm_T X { frames := 2 + (d + 1), cells := 0, slots := 0, locals := 40 * (2 + (d + 1)) } k 5 z2 pc1 lv1 [.int z1] | .inr w => jm_T X { frames := 2 + (d + 1), cells := 0, slots := 0, locals := 40 * (2 + (d + 1)) } k 5 w 75 [] []) → (∀ (b0 : Int32) (b1 : jm_M), s = (b0, b1) → jm_T X { frames := 2 + (d + 1), cells := 0, slots := 0, locals := 40 * (2 + (d + 1)) } k 5 b1 13 [(0, .ref (jm_ad k r0)), (1, .ref (jm_ad k r1)), (2, .int v2), (3, .int v3), (4, .int b0)] []) := by
  refine jm_loop_ind (P := fun (s : Int32 × jm_M) => (∀ (b0 : Int32) (b1 : jm_M), s = (b0, b1) → jm_T X { frames := 2 + (d + 1), cells := 0, slots := 0, locals := 40 * (2 + (d + 1)) } k 5 b1 13 [(0, .ref (jm_ad k r0)), (1, .ref (jm_ad k r1)), (2, .int v2), (3, .int v3), (4, .int b0)] [])) (K := fun (r : (Int32 × jm_M) ⊕ (jm_M)) => match r with | .inl z => ∀ (z1 : Int32) (z2 : jm_M), z = (z1, z2) → ∀ (pc1 : Nat) (lv1 : List (Nat × Value)), (decode cX7_extend pc1 = .ok (.ireturn, 1) ∧ (z1 = 0 ∨ z1 = 1)) → jm_T X { frames := 2 + (d + 1), cells := 0, slots := 0, locals := 40 * (2 + (d + 1)) } k 5 z2 pc1 lv1 [.int z1] | .inr w => jm_T X { frames := 2 + (d + 1), cells := 0, slots := 0, locals := 40 * (2 + (d + 1)) } k 5 w 75 [] []) ?_
  intro s q h h1 h2
  intro b0 b1 hs
  subst hs
  unfold X7_extend_B13 at h
  try dsimp only at h
  refine jt_iload C dX7_extend_13 4 rfl ?_
  refine jt_aload_n C dX7_extend_15 rfl 1 rfl ?_
  refine jt_callVi (As := []) (rest := [_]) C hr1 rfl dX7_extend_16 (c_X4_size (jx_l X) k _ _ hr1 _ rfl) (k_goodIn (g_RX7_22)) rfl h_X4_size ⟨rfl, rfl, by simp only []; omega, by simp only []; omega⟩ rfl rfl (Nat.le_of_ble_eq_true rfl) ?_
  refine jt_icmp_ge (tgt := 75) C dX7_extend_19 (by decide) (fun c19 => ?_) (fun c19 => ?_)
  · replace h := jm_ift c19 h
    cases h
    exact jt_sub [] rfl (h2 _ rfl)
  · replace h := jm_iff c19 h
    refine jt_iload_n C dX7_extend_22 rfl 3 rfl ?_
    refine jt_iload C dX7_extend_23 4 rfl ?_
    refine jt_ishr C dX7_extend_25 ?_
    refine jt_iconst (v := (1 : Int32)) C dX7_extend_26 (by decide) ?_
    refine jt_iand C dX7_extend_27 ?_
    refine jt_if_ne (tgt := 69) C dX7_extend_28 (by decide) (fun c28 => ?_) (fun c28 => ?_)
    · replace h := jm_iff c28 h
      refine jt_iinc (v := (1 : Int32)) (lv' := [(4, _), (0, _), (1, _), (2, _), (3, _)]) C dX7_extend_69 4 rfl (by decide) (by decide) rfl ?_
      refine jt_goto (tgt := 13) C dX7_extend_72 (by decide) ?_
      cases h
      exact jt_sub [1, 2, 3, 4, 0] rfl (h1 _ rfl _ _ rfl)
    · replace h := jm_ift c28 h
      refine jt_aload_n C dX7_extend_31 rfl 0 rfl ?_
      refine jt_aload_n C dX7_extend_32 rfl 1 rfl ?_
      refine jt_iload_n C dX7_extend_33 rfl 2 rfl ?_
      refine jt_iload C dX7_extend_34 4 rfl ?_
      obtain ⟨x1, ex1, h⟩ := jm_bind h
      refine jt_callVi (As := [_, _, _]) (rest := []) C hr0 rfl dX7_extend_36 (c_X7_fits (jx_l X) k n _ _ _ _ _ hr0 hr1 _ ex1) (k_goodIn (g_RX7_36)) rfl h_X7_fits ⟨rfl, rfl, by simp only []; omega, by simp only []; omega⟩ rfl rfl (Nat.le_of_ble_eq_true rfl) ?_
      refine jt_if_eq (tgt := 69) C dX7_extend_39 (by decide) (fun c39 => ?_) (fun c39 => ?_)
      · replace h := jm_ift c39 h
        refine jt_iinc (v := (1 : Int32)) (lv' := [(4, _), (0, _), (1, _), (2, _), (3, _)]) C dX7_extend_69 4 rfl (by decide) (by decide) rfl ?_
        refine jt_goto (tgt := 13) C dX7_extend_72 (by decide) ?_
        cases h
        exact jt_sub [1, 2, 3, 4, 0] rfl (h1 _ rfl _ _ rfl)
      · replace h := jm_iff c39 h
        refine jt_aload_n C dX7_extend_42 rfl 0 rfl ?_
        refine jt_getR (Tf := TX7) (N := 3) C dX7_extend_43 hr0 rfl i_7 0 (by decide) rfl m_RX7_9 rfl ?_
        refine jt_iload_n C dX7_extend_46 rfl 2 rfl ?_
        refine jt_iload C dX7_extend_47 4 rfl ?_
        obtain ⟨M2, eM2, h⟩ := jm_bind h
        refine jt_iast C dX7_extend_49 (jm_f6_0 hr0) eM2 ?_
        refine jt_aload_n C dX7_extend_50 rfl 0 rfl ?_
        refine jt_aload_n C dX7_extend_51 rfl 1 rfl ?_
        refine jt_iload_n C dX7_extend_52 rfl 2 rfl ?_
        refine jt_iconst (v := (1 : Int32)) C dX7_extend_53 (by decide) ?_
        refine jt_iadd C dX7_extend_54 ?_
        refine jt_iload_n C dX7_extend_55 rfl 3 rfl ?_
        refine jt_iconst (v := (1 : Int32)) C dX7_extend_56 (by decide) ?_
        refine jt_iload C dX7_extend_57 4 rfl ?_
        refine jt_ishl C dX7_extend_59 ?_
        refine jt_ior C dX7_extend_60 ?_
        obtain ⟨⟨x3a, x3b⟩, ex3, h⟩ := jm_bind h
        try dsimp only at h
        refine jt_callSi (As := [_, _, _, _]) (rest := []) C dX7_extend_61 (hrec _ _ _ _ _ hr0 hr1 _ _ ex3) (k_goodIn (g_RX7_28)) rfl h_X7_extend ⟨rfl, rfl, by simp only []; omega, by simp only []; omega⟩ rfl rfl (Nat.le_of_ble_eq_true rfl) ?_
        refine jt_if_eq (tgt := 69) C dX7_extend_64 (by decide) (fun c64 => ?_) (fun c64 => ?_)
        · replace h := jm_ift c64 h
          refine jt_iinc (v := (1 : Int32)) (lv' := [(4, _), (0, _), (1, _), (2, _), (3, _)]) C dX7_extend_69 4 rfl (by decide) (by decide) rfl ?_
          refine jt_goto (tgt := 13) C dX7_extend_72 (by decide) ?_
          cases h
          exact jt_sub [1, 2, 3, 4, 0] rfl (h1 _ rfl _ _ rfl)
        · replace h := jm_iff c64 h
          refine jt_iconst (v := (1 : Int32)) C dX7_extend_67 (by decide) ?_
          cases h
          exact h2 _ rfl _ _ rfl _ _ ⟨dX7_extend_68, (Or.inr rfl)⟩
set_option maxHeartbeats 4000000 in
set_option maxRecDepth 100000 in
theorem s_X7_extend (l : Launch) (k : jm_C) (d : Nat) (rec : Nat → Nat → Int32 → Int32 → jm_M → Option (Int32 × jm_M)) (hrec : ∀ (r0 : Nat) (r1 : Nat) (v2 : Int32) (v3 : Int32) (M : jm_M) (_ : jm_is r0 (3, 6)) (_ : jm_is r1 (3, 4)) (q1 : Int32) (q2 : jm_M), rec r0 r1 v2 v3 M = some (q1, q2) → jm_Ci l k yX7_extend w_X7_extend { frames := 2 + d, cells := 0, slots := 0, locals := 40 * (2 + d) } [.ref (jm_ad k r0), .ref (jm_ad k r1), .int v2, .int v3] M q1 q2) (n : Nat) (r0 : Nat) (r1 : Nat) (v2 : Int32) (v3 : Int32) (M : jm_M) (hr0 : jm_is r0 (3, 6)) (hr1 : jm_is r1 (3, 4)) (q1 : Int32) (q2 : jm_M) (h : X7_extend_R rec n r0 r1 v2 v3 M = some (q1, q2)) : jm_Ci l k yX7_extend w_X7_extend { frames := 2 + (d + 1), cells := 0, slots := 0, locals := 40 * (2 + (d + 1)) } [.ref (jm_ad k r0), .ref (jm_ad k r1), .int v2, .int v3] M q1 q2 := by
  refine jm_entry_i (cc := cX7_extend) (nL := 5) (ret := (some .boolean)) (by decide) rfl (Nat.le_of_ble_eq_true rfl) ?_
  intro X hX C hQ hr
  subst hX
  unfold X7_extend_R at h
  refine jt_aload_n C dX7_extend_0 rfl 1 rfl ?_
  refine jt_iload_n C dX7_extend_1 rfl 2 rfl ?_
  refine jt_callVi (As := [_]) (rest := []) C hr1 rfl dX7_extend_2 (c_X4_has (jx_l X) k _ _ _ hr1 _ rfl) (k_goodIn (g_RX7_32)) rfl h_X4_has ⟨rfl, rfl, by simp only []; omega, by simp only []; omega⟩ rfl rfl (Nat.le_of_ble_eq_true rfl) ?_
  refine jt_if_ne (tgt := 10) C dX7_extend_5 (by decide) (fun c5 => ?_) (fun c5 => ?_)
  · replace h := jm_iff c5 h
    refine jt_iconst (v := (0 : Int32)) C dX7_extend_10 (by decide) ?_
    refine jt_istore (lv' := [(4, _), (0, _), (1, _), (2, _), (3, _)]) C dX7_extend_11 (by decide) rfl ?_
    obtain ⟨q4, eq4, h⟩ := jm_bind h
    refine jt_sub [1, 2, 3, 4, 0] rfl ?_
    refine t_X7_extend_L13 C d rec hrec n _ _ _ _ hr0 hr1 n _ _ eq4 ?_ _ _ rfl
    rcases q4 with z5 | w6
    · replace h := jm_inl h
      intro z1 z2 hz pc1 lv1 hp1
      subst hz
      cases h
      exact jt_zret C hp1.1 hQ hr hp1.2
    · replace h := jm_inr h
      show jm_T _ _ _ _ _ _ _ _
      refine jt_iconst (v := (0 : Int32)) C dX7_extend_75 (by decide) ?_
      cases h
      exact jt_zret C dX7_extend_76 hQ hr (Or.inl rfl)
  · replace h := jm_ift c5 h
    refine jt_iconst (v := (1 : Int32)) C dX7_extend_8 (by decide) ?_
    cases h
    exact jt_zret C dX7_extend_9 hQ hr (Or.inr rfl)
theorem c_X7_extend_d (l : Launch) (k : jm_C) (n : Nat) : ∀ (d : Nat) (r0 : Nat) (r1 : Nat) (v2 : Int32) (v3 : Int32) (M : jm_M) (hr0 : jm_is r0 (3, 6)) (hr1 : jm_is r1 (3, 4)) (q1 : Int32) (q2 : jm_M), X7_extend d n r0 r1 v2 v3 M = some (q1, q2) → jm_Ci l k yX7_extend w_X7_extend { frames := 2 + d, cells := 0, slots := 0, locals := 40 * (2 + d) } [.ref (jm_ad k r0), .ref (jm_ad k r1), .int v2, .int v3] M q1 q2
  | 0, _, _, _, _, _, _, _, _, _, h => by cases h
  | d + 1, r0, r1, v2, v3, M, h0, h1, _, _, h => s_X7_extend l k d (X7_extend d n) (c_X7_extend_d l k n d) n r0 r1 v2 v3 M h0 h1 _ _ h
theorem c_X7_extend (l : Launch) (k : jm_C) (n : Nat) (r0 : Nat) (r1 : Nat) (v2 : Int32) (v3 : Int32) (M : jm_M) (hr0 : jm_is r0 (3, 6)) (hr1 : jm_is r1 (3, 4)) (q1 : Int32) (q2 : jm_M) (h : X7_extend 12 n r0 r1 v2 v3 M = some (q1, q2)) : jm_Ci l k yX7_extend w_X7_extend { frames := 14, cells := 0, slots := 0, locals := 560 } [.ref (jm_ad k r0), .ref (jm_ad k r1), .int v2, .int v3] M q1 q2 := c_X7_extend_d l k n 12 r0 r1 v2 v3 M hr0 hr1 q1 q2 h
theorem h_X7_find : yX7_find.cls = RX7 ∧ yX7_find.cls ≠ "java/lang/invoke/MethodHandle" ∧ yX7_find.cls ≠ "java/lang/invoke/VarHandle" ∧ (parseMethodDescriptor yX7_find.desc).map (fun d => d.parameters.length) = some 4 := by decide +kernel
set_option maxHeartbeats 4000000 in
set_option maxRecDepth 100000 in
theorem t_X7_find_L17 {X : jm_X} {k : jm_C} (C : jm_Cx X k cX7_find 7 RX7 w_X7_find) (r0 : Nat) (r1 : Nat) (v2 : Int32) (hr0 : jm_is r0 (3, 6)) (hr1 : jm_is r1 (3, 4)) : ∀ (m : Nat) (s : Int32 × Int32 × jm_M) (r : Int32 × jm_M), jm_loop (X7_find_B17 r0 r1 v2) m s = some r → (∀ (b0 : Int32) (b1 : jm_M), r = (b0, b1) → jm_T X { frames := 15, cells := 0, slots := 0, locals := 600 } k 7 b1 56 [(0, .ref (jm_ad k r0)), (1, .ref (jm_ad k r1)), (2, .int v2), (5, .int b0)] []) → (∀ (b0 : Int32) (b1 : Int32) (b2 : jm_M), s = (b0, b1, b2) → jm_T X { frames := 15, cells := 0, slots := 0, locals := 600 } k 7 b2 17 [(0, .ref (jm_ad k r0)), (1, .ref (jm_ad k r1)), (2, .int v2), (5, .int b0), (6, .int b1)] []) := by
  refine jm_loop_ind (P := fun (s : Int32 × Int32 × jm_M) => (∀ (b0 : Int32) (b1 : Int32) (b2 : jm_M), s = (b0, b1, b2) → jm_T X { frames := 15, cells := 0, slots := 0, locals := 600 } k 7 b2 17 [(0, .ref (jm_ad k r0)), (1, .ref (jm_ad k r1)), (2, .int v2), (5, .int b0), (6, .int b1)] [])) (K := fun (r : Int32 × jm_M) => ∀ (b0 : Int32) (b1 : jm_M), r = (b0, b1) → jm_T X { frames := 15, cells := 0, slots := 0, locals := 600 } k 7 b1 56 [(0, .ref (jm_ad k r0)), (1, .ref (jm_ad k r1)), (2, .int v2), (5, .int b0)] []) ?_
  intro s q h h1 h2
  intro b0 b1 b2 hs
  subst hs
  unfold X7_find_B17 at h
  try dsimp only at h
  refine jt_iload C dX7_find_17 4 rfl ?_
  refine jt_iload_n C dX7_find_19 rfl 2 rfl ?_
  refine jt_icmp_ge (tgt := 56) C dX7_find_20 (by decide) (fun c20 => ?_) (fun c20 => ?_)
  · replace h := jm_ift c20 h
    cases h
    exact jt_sub [0, 1, 2, 3] rfl (h2 _ rfl _ _ rfl)
  · replace h := jm_iff c20 h
    refine jt_iload C dX7_find_23 4 rfl ?_
    refine jt_aload_n C dX7_find_25 rfl 1 rfl ?_
    refine jt_callVi (As := []) (rest := [_]) C hr1 rfl dX7_find_26 (c_X4_size (jx_l X) k _ _ hr1 _ rfl) (k_goodIn (g_RX7_22)) rfl h_X4_size ⟨rfl, rfl, Nat.le_of_ble_eq_true rfl, Nat.le_of_ble_eq_true rfl⟩ rfl rfl (Nat.le_of_ble_eq_true rfl) ?_
    refine jt_icmp_ge (tgt := 56) C dX7_find_29 (by decide) (fun c29 => ?_) (fun c29 => ?_)
    · replace h := jm_ift c29 h
      cases h
      exact jt_sub [0, 1, 2, 3] rfl (h2 _ rfl _ _ rfl)
    · replace h := jm_iff c29 h
      refine jt_aload_n C dX7_find_32 rfl 0 rfl ?_
      refine jt_getR (Tf := TX7) (N := 3) C dX7_find_33 hr0 rfl i_7 0 (by decide) rfl m_RX7_9 rfl ?_
      refine jt_iload C dX7_find_36 4 rfl ?_
      refine jt_iload C dX7_find_38 4 rfl ?_
      obtain ⟨M1, eM1, h⟩ := jm_bind h
      refine jt_iast C dX7_find_40 (jm_f6_0 hr0) eM1 ?_
      refine jt_iload C dX7_find_41 3 rfl ?_
      refine jt_iconst (v := (1 : Int32)) C dX7_find_43 (by decide) ?_
      refine jt_iload C dX7_find_44 4 rfl ?_
      refine jt_ishl C dX7_find_46 ?_
      refine jt_ior C dX7_find_47 ?_
      refine jt_istore (lv' := [(5, _), (0, _), (1, _), (2, _), (6, _)]) C dX7_find_48 (by decide) rfl ?_
      refine jt_iinc (v := (1 : Int32)) (lv' := [(6, _), (5, _), (0, _), (1, _), (2, _)]) C dX7_find_50 4 rfl (by decide) (by decide) rfl ?_
      refine jt_goto (tgt := 17) C dX7_find_53 (by decide) ?_
      cases h
      exact jt_sub [2, 3, 4, 1, 0] rfl (h1 _ rfl _ _ _ rfl)
set_option maxHeartbeats 4000000 in
set_option maxRecDepth 100000 in
theorem c_X7_find (l : Launch) (k : jm_C) (n : Nat) (r0 : Nat) (r1 : Nat) (v2 : Int32) (v3 : Int32) (v4 : Int32) (M : jm_M) (hr0 : jm_is r0 (3, 6)) (hr1 : jm_is r1 (3, 4)) (q1 : Int32) (q2 : jm_M) (h : X7_find n r0 r1 v2 v3 v4 M = some (q1, q2)) : jm_Ci l k yX7_find w_X7_find { frames := 15, cells := 0, slots := 0, locals := 600 } [.ref (jm_ad k r0), .ref (jm_ad k r1), .int v2, .int v3, .int v4] M q1 q2 := by
  refine jm_entry_i (cc := cX7_find) (nL := 7) (ret := (some .boolean)) (by decide) rfl (Nat.le_of_ble_eq_true rfl) ?_
  intro X hX C hQ hr
  subst hX
  unfold X7_find at h
  refine jt_aload_n C dX7_find_0 rfl 0 rfl ?_
  refine jt_iload_n C dX7_find_1 rfl 3 rfl ?_
  refine jt_putI (Tf := TX7) (N := 3) C dX7_find_2 hr0 rfl i_7 tyX7 tyX7_ok nmX7 1 (by decide) rfl m_RX7_15 rfl rfl (by decide +kernel) ?_
  refine jt_aload_n C dX7_find_5 rfl 0 rfl ?_
  refine jt_iload C dX7_find_6 4 rfl ?_
  refine jt_putI (Tf := TX7) (N := 3) C dX7_find_8 hr0 rfl i_7 tyX7 tyX7_ok nmX7 2 (by decide) rfl m_RX7_19 rfl rfl (by decide +kernel) ?_
  refine jt_iconst (v := (0 : Int32)) C dX7_find_11 (by decide) ?_
  refine jt_istore (lv' := [(5, _), (0, _), (1, _), (2, _), (3, _), (4, _)]) C dX7_find_12 (by decide) rfl ?_
  refine jt_iconst (v := (0 : Int32)) C dX7_find_14 (by decide) ?_
  refine jt_istore (lv' := [(6, _), (5, _), (0, _), (1, _), (2, _), (3, _), (4, _)]) C dX7_find_15 (by decide) rfl ?_
  obtain ⟨q2, eq2, h⟩ := jm_bind h
  refine jt_sub [2, 3, 4, 1, 0] rfl ?_
  refine t_X7_find_L17 C _ _ _ hr0 hr1 n _ _ eq2 ?_ _ _ _ rfl
  intro y3_0 y3_1 hq3
  subst hq3
  try dsimp only at h
  refine jt_aload_n C dX7_find_56 rfl 0 rfl ?_
  refine jt_aload_n C dX7_find_57 rfl 1 rfl ?_
  refine jt_iload_n C dX7_find_58 rfl 2 rfl ?_
  refine jt_iload C dX7_find_59 3 rfl ?_
  obtain ⟨⟨x4a, x4b⟩, ex4, h⟩ := jm_bind h
  try dsimp only at h
  refine jt_callSi (As := [_, _, _, _]) (rest := []) C dX7_find_61 (c_X7_extend (jx_l X) k n _ _ _ _ _ hr0 hr1 _ _ ex4) (k_goodIn (g_RX7_28)) rfl h_X7_extend ⟨rfl, rfl, Nat.le_of_ble_eq_true rfl, Nat.le_of_ble_eq_true rfl⟩ rfl rfl (Nat.le_of_ble_eq_true rfl) ?_
  obtain ⟨x5, ex5, h⟩ := jm_bind h
  cases h
  obtain ⟨hz, rfl⟩ := jm_zb_s ex5
  exact jt_zret C dX7_find_64 hQ hr hz
theorem h_X7_automorphisms : yX7_automorphisms.cls = RX7 ∧ yX7_automorphisms.cls ≠ "java/lang/invoke/MethodHandle" ∧ yX7_automorphisms.cls ≠ "java/lang/invoke/VarHandle" ∧ (parseMethodDescriptor yX7_automorphisms.desc).map (fun d => d.parameters.length) = some 1 := by decide +kernel
set_option maxHeartbeats 4000000 in
set_option maxRecDepth 100000 in
theorem t_X7_automorphisms_L18 {X : jm_X} {k : jm_C} (C : jm_Cx X k cX7_automorphisms 6 RX7 w_X7_automorphisms) (n : Nat) (r0 : Nat) (r1 : Nat) (v2 : Int32) (v3 : Int32) (hr0 : jm_is r0 (3, 6)) (hr1 : jm_is r1 (3, 4)) : ∀ (m : Nat) (s : Int32 × Int32 × jm_M) (r : Int32 × jm_M), jm_loop (X7_automorphisms_B18 n r0 r1 v2 v3) m s = some r → (∀ (b0 : Int32) (b1 : jm_M), r = (b0, b1) → jm_T X { frames := 16, cells := 0, slots := 0, locals := 640 } k 6 b1 48 [(0, .ref (jm_ad k r0)), (1, .ref (jm_ad k r1)), (2, .int v2), (3, .int v3), (4, .int b0)] []) → (∀ (b0 : Int32) (b1 : Int32) (b2 : jm_M), s = (b0, b1, b2) → jm_T X { frames := 16, cells := 0, slots := 0, locals := 640 } k 6 b2 18 [(0, .ref (jm_ad k r0)), (1, .ref (jm_ad k r1)), (2, .int v2), (3, .int v3), (4, .int b0), (5, .int b1)] []) := by
  refine jm_loop_ind (P := fun (s : Int32 × Int32 × jm_M) => (∀ (b0 : Int32) (b1 : Int32) (b2 : jm_M), s = (b0, b1, b2) → jm_T X { frames := 16, cells := 0, slots := 0, locals := 640 } k 6 b2 18 [(0, .ref (jm_ad k r0)), (1, .ref (jm_ad k r1)), (2, .int v2), (3, .int v3), (4, .int b0), (5, .int b1)] [])) (K := fun (r : Int32 × jm_M) => ∀ (b0 : Int32) (b1 : jm_M), r = (b0, b1) → jm_T X { frames := 16, cells := 0, slots := 0, locals := 640 } k 6 b1 48 [(0, .ref (jm_ad k r0)), (1, .ref (jm_ad k r1)), (2, .int v2), (3, .int v3), (4, .int b0)] []) ?_
  intro s q h h1 h2
  intro b0 b1 b2 hs
  subst hs
  unfold X7_automorphisms_B18 at h
  try dsimp only at h
  refine jt_iload C dX7_automorphisms_18 5 rfl ?_
  refine jt_aload_n C dX7_automorphisms_20 rfl 1 rfl ?_
  refine jt_callVi (As := []) (rest := [_]) C hr1 rfl dX7_automorphisms_21 (c_X4_size (jx_l X) k _ _ hr1 _ rfl) (k_goodIn (g_RX7_22)) rfl h_X4_size ⟨rfl, rfl, Nat.le_of_ble_eq_true rfl, Nat.le_of_ble_eq_true rfl⟩ rfl rfl (Nat.le_of_ble_eq_true rfl) ?_
  refine jt_icmp_ge (tgt := 48) C dX7_automorphisms_24 (by decide) (fun c24 => ?_) (fun c24 => ?_)
  · replace h := jm_ift c24 h
    cases h
    exact jt_sub [0, 1, 2, 3, 4] rfl (h2 _ rfl _ _ rfl)
  · replace h := jm_iff c24 h
    refine jt_aload_n C dX7_automorphisms_27 rfl 0 rfl ?_
    refine jt_aload_n C dX7_automorphisms_28 rfl 1 rfl ?_
    refine jt_iload_n C dX7_automorphisms_29 rfl 3 rfl ?_
    refine jt_iload_n C dX7_automorphisms_30 rfl 3 rfl ?_
    refine jt_iload C dX7_automorphisms_31 5 rfl ?_
    obtain ⟨⟨x1a, x1b⟩, ex1, h⟩ := jm_bind h
    try dsimp only at h
    refine jt_callVi (As := [_, _, _, _]) (rest := []) C hr0 rfl dX7_automorphisms_33 (c_X7_find (jx_l X) k n _ _ _ _ _ _ hr0 hr1 _ _ ex1) (k_goodIn (g_RX7_49)) rfl h_X7_find ⟨rfl, rfl, Nat.le_of_ble_eq_true rfl, Nat.le_of_ble_eq_true rfl⟩ rfl rfl (Nat.le_of_ble_eq_true rfl) ?_
    refine jt_if_eq (tgt := 42) C dX7_automorphisms_36 (by decide) (fun c36 => ?_) (fun c36 => ?_)
    · replace h := jm_ift c36 h
      refine jt_iinc (v := (1 : Int32)) (lv' := [(5, _), (0, _), (1, _), (2, _), (3, _), (4, _)]) C dX7_automorphisms_42 5 rfl (by decide) (by decide) rfl ?_
      refine jt_goto (tgt := 18) C dX7_automorphisms_45 (by decide) ?_
      cases h
      exact jt_sub [1, 2, 3, 4, 5, 0] rfl (h1 _ rfl _ _ _ rfl)
    · replace h := jm_iff c36 h
      refine jt_iinc (v := (1 : Int32)) (lv' := [(4, _), (0, _), (1, _), (2, _), (3, _), (5, _)]) C dX7_automorphisms_39 4 rfl (by decide) (by decide) rfl ?_
      refine jt_iinc (v := (1 : Int32)) (lv' := [(5, _), (4, _), (0, _), (1, _), (2, _), (3, _)]) C dX7_automorphisms_42 5 rfl (by decide) (by decide) rfl ?_
      refine jt_goto (tgt := 18) C dX7_automorphisms_45 (by decide) ?_
      cases h
      exact jt_sub [2, 3, 4, 5, 1, 0] rfl (h1 _ rfl _ _ _ rfl)
set_option maxHeartbeats 4000000 in
set_option maxRecDepth 100000 in
theorem t_X7_automorphisms_L4 {X : jm_X} {k : jm_C} (C : jm_Cx X k cX7_automorphisms 6 RX7 w_X7_automorphisms) (n : Nat) (r0 : Nat) (r1 : Nat) (hr0 : jm_is r0 (3, 6)) (hr1 : jm_is r1 (3, 4)) : ∀ (m : Nat) (s : Int32 × Int32 × jm_M) (r : Int32 × jm_M), jm_loop (X7_automorphisms_B4 n r0 r1) m s = some r → (∀ (b0 : Int32) (b1 : jm_M), r = (b0, b1) → jm_T X { frames := 16, cells := 0, slots := 0, locals := 640 } k 6 b1 59 [(2, .int b0)] []) → (∀ (b0 : Int32) (b1 : Int32) (b2 : jm_M), s = (b0, b1, b2) → jm_T X { frames := 16, cells := 0, slots := 0, locals := 640 } k 6 b2 4 [(0, .ref (jm_ad k r0)), (1, .ref (jm_ad k r1)), (2, .int b0), (3, .int b1)] []) := by
  refine jm_loop_ind (P := fun (s : Int32 × Int32 × jm_M) => (∀ (b0 : Int32) (b1 : Int32) (b2 : jm_M), s = (b0, b1, b2) → jm_T X { frames := 16, cells := 0, slots := 0, locals := 640 } k 6 b2 4 [(0, .ref (jm_ad k r0)), (1, .ref (jm_ad k r1)), (2, .int b0), (3, .int b1)] [])) (K := fun (r : Int32 × jm_M) => ∀ (b0 : Int32) (b1 : jm_M), r = (b0, b1) → jm_T X { frames := 16, cells := 0, slots := 0, locals := 640 } k 6 b1 59 [(2, .int b0)] []) ?_
  intro s q h h1 h2
  intro b0 b1 b2 hs
  subst hs
  unfold X7_automorphisms_B4 at h
  try dsimp only at h
  refine jt_iload_n C dX7_automorphisms_4 rfl 3 rfl ?_
  refine jt_aload_n C dX7_automorphisms_5 rfl 1 rfl ?_
  refine jt_callVi (As := []) (rest := [_]) C hr1 rfl dX7_automorphisms_6 (c_X4_size (jx_l X) k _ _ hr1 _ rfl) (k_goodIn (g_RX7_22)) rfl h_X4_size ⟨rfl, rfl, Nat.le_of_ble_eq_true rfl, Nat.le_of_ble_eq_true rfl⟩ rfl rfl (Nat.le_of_ble_eq_true rfl) ?_
  refine jt_icmp_ge (tgt := 59) C dX7_automorphisms_9 (by decide) (fun c9 => ?_) (fun c9 => ?_)
  · replace h := jm_ift c9 h
    cases h
    exact jt_sub [2] rfl (h2 _ rfl _ _ rfl)
  · replace h := jm_iff c9 h
    refine jt_iconst (v := (0 : Int32)) C dX7_automorphisms_12 (by decide) ?_
    refine jt_istore (lv' := [(4, _), (0, _), (1, _), (2, _), (3, _)]) C dX7_automorphisms_13 (by decide) rfl ?_
    refine jt_iload_n C dX7_automorphisms_15 rfl 4 rfl ?_
    refine jt_istore (lv' := [(5, _), (4, _), (0, _), (1, _), (2, _), (3, _)]) C dX7_automorphisms_16 (by decide) rfl ?_
    obtain ⟨q2, eq2, h⟩ := jm_bind h
    refine jt_sub [2, 3, 4, 5, 1, 0] rfl ?_
    refine t_X7_automorphisms_L18 C n _ _ _ _ hr0 hr1 n _ _ eq2 ?_ _ _ _ rfl
    intro y3_0 y3_1 hq3
    subst hq3
    try dsimp only at h
    refine jt_iload_n C dX7_automorphisms_48 rfl 2 rfl ?_
    refine jt_iload C dX7_automorphisms_49 4 rfl ?_
    refine jt_imul C dX7_automorphisms_51 ?_
    refine jt_istore_n (lv' := [(2, _), (0, _), (1, _), (3, _), (4, _)]) C dX7_automorphisms_52 rfl (by decide) rfl ?_
    refine jt_iinc (v := (1 : Int32)) (lv' := [(3, _), (2, _), (0, _), (1, _), (4, _)]) C dX7_automorphisms_53 3 rfl (by decide) (by decide) rfl ?_
    refine jt_goto (tgt := 4) C dX7_automorphisms_56 (by decide) ?_
    cases h
    exact jt_sub [2, 3, 1, 0] rfl (h1 _ rfl _ _ _ rfl)
set_option maxHeartbeats 4000000 in
set_option maxRecDepth 100000 in
theorem c_X7_automorphisms (l : Launch) (k : jm_C) (n : Nat) (r0 : Nat) (r1 : Nat) (M : jm_M) (hr0 : jm_is r0 (3, 6)) (hr1 : jm_is r1 (3, 4)) (q1 : Int32) (q2 : jm_M) (h : X7_automorphisms n r0 r1 M = some (q1, q2)) : jm_Ci l k yX7_automorphisms w_X7_automorphisms { frames := 16, cells := 0, slots := 0, locals := 640 } [.ref (jm_ad k r0), .ref (jm_ad k r1)] M q1 q2 := by
  refine jm_entry_i (cc := cX7_automorphisms) (nL := 6) (ret := (some .int)) (by decide) rfl (Nat.le_of_ble_eq_true rfl) ?_
  intro X hX C hQ hr
  subst hX
  unfold X7_automorphisms at h
  refine jt_iconst (v := (1 : Int32)) C dX7_automorphisms_0 (by decide) ?_
  refine jt_istore_n (lv' := [(2, _), (0, _), (1, _)]) C dX7_automorphisms_1 rfl (by decide) rfl ?_
  refine jt_iconst (v := (0 : Int32)) C dX7_automorphisms_2 (by decide) ?_
  refine jt_istore_n (lv' := [(3, _), (2, _), (0, _), (1, _)]) C dX7_automorphisms_3 rfl (by decide) rfl ?_
  obtain ⟨q4, eq4, h⟩ := jm_bind h
  refine jt_sub [2, 3, 1, 0] rfl ?_
  refine t_X7_automorphisms_L4 C n _ _ hr0 hr1 n _ _ eq4 ?_ _ _ _ rfl
  intro y5_0 y5_1 hq5
  subst hq5
  try dsimp only at h
  refine jt_iload_n C dX7_automorphisms_59 rfl 0 rfl ?_
  cases h
  exact jt_iret C dX7_automorphisms_60 hQ hr
theorem h_X7_similarTo : yX7_similarTo.cls = RX7 ∧ yX7_similarTo.cls ≠ "java/lang/invoke/MethodHandle" ∧ yX7_similarTo.cls ≠ "java/lang/invoke/VarHandle" ∧ (parseMethodDescriptor yX7_similarTo.desc).map (fun d => d.parameters.length) = some 2 := by decide +kernel
set_option maxHeartbeats 4000000 in
set_option maxRecDepth 100000 in
theorem t_X7_similarTo_L5 {X : jm_X} {k : jm_C} (C : jm_Cx X k cX7_similarTo 5 RX7 w_X7_similarTo) (n : Nat) (r0 : Nat) (r1 : Nat) (v2 : Int32) (hr0 : jm_is r0 (3, 6)) (hr1 : jm_is r1 (3, 4)) : ∀ (m : Nat) (s : Int32 × Int32 × jm_M) (r : Int32 × jm_M), jm_loop (X7_similarTo_B5 n r0 r1 v2) m s = some r → (∀ (b0 : Int32) (b1 : jm_M), r = (b0, b1) → jm_T X { frames := 16, cells := 0, slots := 0, locals := 640 } k 5 b1 45 [(3, .int b0)] []) → (∀ (b0 : Int32) (b1 : Int32) (b2 : jm_M), s = (b0, b1, b2) → jm_T X { frames := 16, cells := 0, slots := 0, locals := 640 } k 5 b2 5 [(0, .ref (jm_ad k r0)), (1, .ref (jm_ad k r1)), (2, .int v2), (3, .int b0), (4, .int b1)] []) := by
  refine jm_loop_ind (P := fun (s : Int32 × Int32 × jm_M) => (∀ (b0 : Int32) (b1 : Int32) (b2 : jm_M), s = (b0, b1, b2) → jm_T X { frames := 16, cells := 0, slots := 0, locals := 640 } k 5 b2 5 [(0, .ref (jm_ad k r0)), (1, .ref (jm_ad k r1)), (2, .int v2), (3, .int b0), (4, .int b1)] [])) (K := fun (r : Int32 × jm_M) => ∀ (b0 : Int32) (b1 : jm_M), r = (b0, b1) → jm_T X { frames := 16, cells := 0, slots := 0, locals := 640 } k 5 b1 45 [(3, .int b0)] []) ?_
  intro s q h h1 h2
  intro b0 b1 b2 hs
  subst hs
  unfold X7_similarTo_B5 at h
  try dsimp only at h
  refine jt_iload C dX7_similarTo_5 4 rfl ?_
  refine jt_aload_n C dX7_similarTo_7 rfl 1 rfl ?_
  refine jt_callVi (As := []) (rest := [_]) C hr1 rfl dX7_similarTo_8 (c_X4_size (jx_l X) k _ _ hr1 _ rfl) (k_goodIn (g_RX7_22)) rfl h_X4_size ⟨rfl, rfl, Nat.le_of_ble_eq_true rfl, Nat.le_of_ble_eq_true rfl⟩ rfl rfl (Nat.le_of_ble_eq_true rfl) ?_
  refine jt_icmp_ge (tgt := 45) C dX7_similarTo_11 (by decide) (fun c11 => ?_) (fun c11 => ?_)
  · replace h := jm_ift c11 h
    cases h
    exact jt_sub [3] rfl (h2 _ rfl _ _ rfl)
  · replace h := jm_iff c11 h
    refine jt_iload C dX7_similarTo_14 4 rfl ?_
    refine jt_iload_n C dX7_similarTo_16 rfl 2 rfl ?_
    refine jt_icmp_eq (tgt := 39) C dX7_similarTo_17 (by decide) (fun c17 => ?_) (fun c17 => ?_)
    · replace h := jm_ift c17 h
      refine jt_iinc (v := (1 : Int32)) (lv' := [(4, _), (0, _), (1, _), (2, _), (3, _)]) C dX7_similarTo_39 4 rfl (by decide) (by decide) rfl ?_
      refine jt_goto (tgt := 5) C dX7_similarTo_42 (by decide) ?_
      cases h
      exact jt_sub [1, 2, 3, 4, 0] rfl (h1 _ rfl _ _ _ rfl)
    · replace h := jm_iff c17 h
      refine jt_aload_n C dX7_similarTo_20 rfl 0 rfl ?_
      refine jt_aload_n C dX7_similarTo_21 rfl 1 rfl ?_
      refine jt_iconst (v := (0 : Int32)) C dX7_similarTo_22 (by decide) ?_
      refine jt_iload_n C dX7_similarTo_23 rfl 2 rfl ?_
      refine jt_iload C dX7_similarTo_24 4 rfl ?_
      obtain ⟨⟨x1a, x1b⟩, ex1, h⟩ := jm_bind h
      try dsimp only at h
      refine jt_callVi (As := [_, _, _, _]) (rest := []) C hr0 rfl dX7_similarTo_26 (c_X7_find (jx_l X) k n _ _ _ _ _ _ hr0 hr1 _ _ ex1) (k_goodIn (g_RX7_49)) rfl h_X7_find ⟨rfl, rfl, Nat.le_of_ble_eq_true rfl, Nat.le_of_ble_eq_true rfl⟩ rfl rfl (Nat.le_of_ble_eq_true rfl) ?_
      refine jt_if_eq (tgt := 39) C dX7_similarTo_29 (by decide) (fun c29 => ?_) (fun c29 => ?_)
      · replace h := jm_ift c29 h
        refine jt_iinc (v := (1 : Int32)) (lv' := [(4, _), (0, _), (1, _), (2, _), (3, _)]) C dX7_similarTo_39 4 rfl (by decide) (by decide) rfl ?_
        refine jt_goto (tgt := 5) C dX7_similarTo_42 (by decide) ?_
        cases h
        exact jt_sub [1, 2, 3, 4, 0] rfl (h1 _ rfl _ _ _ rfl)
      · replace h := jm_iff c29 h
        refine jt_iload_n C dX7_similarTo_32 rfl 3 rfl ?_
        refine jt_iconst (v := (1 : Int32)) C dX7_similarTo_33 (by decide) ?_
        refine jt_iload C dX7_similarTo_34 4 rfl ?_
        refine jt_ishl C dX7_similarTo_36 ?_
        refine jt_ior C dX7_similarTo_37 ?_
        refine jt_istore_n (lv' := [(3, _), (0, _), (1, _), (2, _), (4, _)]) C dX7_similarTo_38 rfl (by decide) rfl ?_
        refine jt_iinc (v := (1 : Int32)) (lv' := [(4, _), (3, _), (0, _), (1, _), (2, _)]) C dX7_similarTo_39 4 rfl (by decide) (by decide) rfl ?_
        refine jt_goto (tgt := 5) C dX7_similarTo_42 (by decide) ?_
        cases h
        exact jt_sub [2, 3, 4, 1, 0] rfl (h1 _ rfl _ _ _ rfl)
set_option maxHeartbeats 4000000 in
set_option maxRecDepth 100000 in
theorem c_X7_similarTo (l : Launch) (k : jm_C) (n : Nat) (r0 : Nat) (r1 : Nat) (v2 : Int32) (M : jm_M) (hr0 : jm_is r0 (3, 6)) (hr1 : jm_is r1 (3, 4)) (q1 : Int32) (q2 : jm_M) (h : X7_similarTo n r0 r1 v2 M = some (q1, q2)) : jm_Ci l k yX7_similarTo w_X7_similarTo { frames := 16, cells := 0, slots := 0, locals := 640 } [.ref (jm_ad k r0), .ref (jm_ad k r1), .int v2] M q1 q2 := by
  refine jm_entry_i (cc := cX7_similarTo) (nL := 5) (ret := (some .int)) (by decide) rfl (Nat.le_of_ble_eq_true rfl) ?_
  intro X hX C hQ hr
  subst hX
  unfold X7_similarTo at h
  refine jt_iconst (v := (0 : Int32)) C dX7_similarTo_0 (by decide) ?_
  refine jt_istore_n (lv' := [(3, _), (0, _), (1, _), (2, _)]) C dX7_similarTo_1 rfl (by decide) rfl ?_
  refine jt_iconst (v := (0 : Int32)) C dX7_similarTo_2 (by decide) ?_
  refine jt_istore (lv' := [(4, _), (3, _), (0, _), (1, _), (2, _)]) C dX7_similarTo_3 (by decide) rfl ?_
  obtain ⟨q2, eq2, h⟩ := jm_bind h
  refine jt_sub [2, 3, 4, 1, 0] rfl ?_
  refine t_X7_similarTo_L5 C n _ _ _ hr0 hr1 n _ _ eq2 ?_ _ _ _ rfl
  intro y3_0 y3_1 hq3
  subst hq3
  try dsimp only at h
  refine jt_iload_n C dX7_similarTo_45 rfl 0 rfl ?_
  cases h
  exact jt_iret C dX7_similarTo_46 hQ hr
theorem h_X7_classes : yX7_classes.cls = RX7 ∧ yX7_classes.cls ≠ "java/lang/invoke/MethodHandle" ∧ yX7_classes.cls ≠ "java/lang/invoke/VarHandle" ∧ (parseMethodDescriptor yX7_classes.desc).map (fun d => d.parameters.length) = some 1 := by decide +kernel
set_option maxHeartbeats 4000000 in
set_option maxRecDepth 100000 in
theorem t_X7_classes_L14 {X : jm_X} {k : jm_C} (C : jm_Cx X k cX7_classes 5 RX7 w_X7_classes) (n : Nat) (r0 : Nat) (r1 : Nat) (hr0 : jm_is r0 (3, 6)) (hr1 : jm_is r1 (3, 4)) : ∀ (m : Nat) (s : Int32 × Int32 × Int32 × jm_M) (r : Int32 × jm_M), jm_loop (X7_classes_B14 n r0 r1) m s = some r → (∀ (b0 : Int32) (b1 : jm_M), r = (b0, b1) → jm_T X { frames := 17, cells := 0, slots := 0, locals := 680 } k 5 b1 54 [(2, .int b0)] []) → (∀ (b0 : Int32) (b1 : Int32) (b2 : Int32) (b3 : jm_M), s = (b0, b1, b2, b3) → jm_T X { frames := 17, cells := 0, slots := 0, locals := 680 } k 5 b3 14 [(0, .ref (jm_ad k r0)), (1, .ref (jm_ad k r1)), (2, .int b0), (3, .int b1), (4, .int b2)] []) := by
  refine jm_loop_ind (P := fun (s : Int32 × Int32 × Int32 × jm_M) => (∀ (b0 : Int32) (b1 : Int32) (b2 : Int32) (b3 : jm_M), s = (b0, b1, b2, b3) → jm_T X { frames := 17, cells := 0, slots := 0, locals := 680 } k 5 b3 14 [(0, .ref (jm_ad k r0)), (1, .ref (jm_ad k r1)), (2, .int b0), (3, .int b1), (4, .int b2)] [])) (K := fun (r : Int32 × jm_M) => ∀ (b0 : Int32) (b1 : jm_M), r = (b0, b1) → jm_T X { frames := 17, cells := 0, slots := 0, locals := 680 } k 5 b1 54 [(2, .int b0)] []) ?_
  intro s q h h1 h2
  intro b0 b1 b2 b3 hs
  subst hs
  unfold X7_classes_B14 at h
  try dsimp only at h
  refine jt_iload C dX7_classes_14 4 rfl ?_
  refine jt_aload_n C dX7_classes_16 rfl 1 rfl ?_
  refine jt_callVi (As := []) (rest := [_]) C hr1 rfl dX7_classes_17 (c_X4_size (jx_l X) k _ _ hr1 _ rfl) (k_goodIn (g_RX7_22)) rfl h_X4_size ⟨rfl, rfl, Nat.le_of_ble_eq_true rfl, Nat.le_of_ble_eq_true rfl⟩ rfl rfl (Nat.le_of_ble_eq_true rfl) ?_
  refine jt_icmp_ge (tgt := 54) C dX7_classes_20 (by decide) (fun c20 => ?_) (fun c20 => ?_)
  · replace h := jm_ift c20 h
    cases h
    exact jt_sub [2] rfl (h2 _ rfl _ _ rfl)
  · replace h := jm_iff c20 h
    refine jt_iload_n C dX7_classes_23 rfl 3 rfl ?_
    refine jt_iload C dX7_classes_24 4 rfl ?_
    refine jt_ishr C dX7_classes_26 ?_
    refine jt_iconst (v := (1 : Int32)) C dX7_classes_27 (by decide) ?_
    refine jt_iand C dX7_classes_28 ?_
    refine jt_iconst (v := (1 : Int32)) C dX7_classes_29 (by decide) ?_
    refine jt_icmp_ne (tgt := 48) C dX7_classes_30 (by decide) (fun c30 => ?_) (fun c30 => ?_)
    · replace h := jm_iff c30 h
      refine jt_iinc (v := (1 : Int32)) (lv' := [(4, _), (0, _), (1, _), (2, _), (3, _)]) C dX7_classes_48 4 rfl (by decide) (by decide) rfl ?_
      refine jt_goto (tgt := 14) C dX7_classes_51 (by decide) ?_
      cases h
      exact jt_sub [1, 2, 3, 4, 0] rfl (h1 _ rfl _ _ _ _ rfl)
    · replace h := jm_ift c30 h
      refine jt_iinc (v := (1 : Int32)) (lv' := [(2, _), (0, _), (1, _), (3, _), (4, _)]) C dX7_classes_33 2 rfl (by decide) (by decide) rfl ?_
      refine jt_iload_n C dX7_classes_36 rfl 3 rfl ?_
      refine jt_aload_n C dX7_classes_37 rfl 1 rfl ?_
      refine jt_aload_n C dX7_classes_38 rfl 2 rfl ?_
      refine jt_iload C dX7_classes_39 4 rfl ?_
      obtain ⟨⟨x1a, x1b⟩, ex1, h⟩ := jm_bind h
      try dsimp only at h
      refine jt_callVi (As := [_, _]) (rest := [_]) C hr0 rfl dX7_classes_41 (c_X7_similarTo (jx_l X) k n _ _ _ _ hr0 hr1 _ _ ex1) (k_goodIn (g_RX7_53)) rfl h_X7_similarTo ⟨rfl, rfl, Nat.le_of_ble_eq_true rfl, Nat.le_of_ble_eq_true rfl⟩ rfl rfl (Nat.le_of_ble_eq_true rfl) ?_
      refine jt_iconst (v := (-1 : Int32)) C dX7_classes_44 (by decide) ?_
      refine jt_ixor C dX7_classes_45 ?_
      refine jt_iand C dX7_classes_46 ?_
      refine jt_istore_n (lv' := [(3, _), (2, _), (0, _), (1, _), (4, _)]) C dX7_classes_47 rfl (by decide) rfl ?_
      refine jt_iinc (v := (1 : Int32)) (lv' := [(4, _), (3, _), (2, _), (0, _), (1, _)]) C dX7_classes_48 4 rfl (by decide) (by decide) rfl ?_
      refine jt_goto (tgt := 14) C dX7_classes_51 (by decide) ?_
      cases h
      exact jt_sub [3, 4, 2, 1, 0] rfl (h1 _ rfl _ _ _ _ rfl)
set_option maxHeartbeats 4000000 in
set_option maxRecDepth 100000 in
theorem c_X7_classes (l : Launch) (k : jm_C) (n : Nat) (r0 : Nat) (r1 : Nat) (M : jm_M) (hr0 : jm_is r0 (3, 6)) (hr1 : jm_is r1 (3, 4)) (q1 : Int32) (q2 : jm_M) (h : X7_classes n r0 r1 M = some (q1, q2)) : jm_Ci l k yX7_classes w_X7_classes { frames := 17, cells := 0, slots := 0, locals := 680 } [.ref (jm_ad k r0), .ref (jm_ad k r1)] M q1 q2 := by
  refine jm_entry_i (cc := cX7_classes) (nL := 5) (ret := (some .int)) (by decide) rfl (Nat.le_of_ble_eq_true rfl) ?_
  intro X hX C hQ hr
  subst hX
  unfold X7_classes at h
  refine jt_iconst (v := (0 : Int32)) C dX7_classes_0 (by decide) ?_
  refine jt_istore_n (lv' := [(2, _), (0, _), (1, _)]) C dX7_classes_1 rfl (by decide) rfl ?_
  refine jt_iconst (v := (1 : Int32)) C dX7_classes_2 (by decide) ?_
  refine jt_aload_n C dX7_classes_3 rfl 2 rfl ?_
  refine jt_callVi (As := []) (rest := [_]) C hr1 rfl dX7_classes_4 (c_X4_size (jx_l X) k _ _ hr1 _ rfl) (k_goodIn (g_RX7_22)) rfl h_X4_size ⟨rfl, rfl, Nat.le_of_ble_eq_true rfl, Nat.le_of_ble_eq_true rfl⟩ rfl rfl (Nat.le_of_ble_eq_true rfl) ?_
  refine jt_ishl C dX7_classes_7 ?_
  refine jt_iconst (v := (1 : Int32)) C dX7_classes_8 (by decide) ?_
  refine jt_isub C dX7_classes_9 ?_
  refine jt_istore_n (lv' := [(3, _), (2, _), (0, _), (1, _)]) C dX7_classes_10 rfl (by decide) rfl ?_
  refine jt_iconst (v := (0 : Int32)) C dX7_classes_11 (by decide) ?_
  refine jt_istore (lv' := [(4, _), (3, _), (2, _), (0, _), (1, _)]) C dX7_classes_12 (by decide) rfl ?_
  obtain ⟨q2, eq2, h⟩ := jm_bind h
  refine jt_sub [3, 4, 2, 1, 0] rfl ?_
  refine t_X7_classes_L14 C n _ _ hr0 hr1 n _ _ eq2 ?_ _ _ _ _ rfl
  intro y3_0 y3_1 hq3
  subst hq3
  try dsimp only at h
  refine jt_iload_n C dX7_classes_54 rfl 0 rfl ?_
  cases h
  exact jt_iret C dX7_classes_55 hQ hr
theorem h_X3_different : yX3_different.cls = RX3 ∧ yX3_different.cls ≠ "java/lang/invoke/MethodHandle" ∧ yX3_different.cls ≠ "java/lang/invoke/VarHandle" ∧ (parseMethodDescriptor yX3_different.desc).map (fun d => d.parameters.length) = some 0 := by decide +kernel
set_option maxHeartbeats 4000000 in
set_option maxRecDepth 100000 in
theorem t_X3_different_L4 {X : jm_X} {k : jm_C} (C : jm_Cx X k cX3_different 3 RX3 w_X3_different) (r0 : Nat) (M : jm_M) (hr0 : jm_is r0 (3, 3)) : ∀ (m : Nat) (s : Int32 × Int32) (r : Int32), jm_loop (X3_different_B4 r0 M) m s = some r → jm_T X { frames := 0, cells := 0, slots := 0, locals := 0 } k 3 M 42 [(1, .int r)] [] → (∀ (b0 : Int32) (b1 : Int32), s = (b0, b1) → jm_T X { frames := 0, cells := 0, slots := 0, locals := 0 } k 3 M 4 [(0, .ref (jm_ad k r0)), (1, .int b0), (2, .int b1)] []) := by
  refine jm_loop_ind (P := fun (s : Int32 × Int32) => (∀ (b0 : Int32) (b1 : Int32), s = (b0, b1) → jm_T X { frames := 0, cells := 0, slots := 0, locals := 0 } k 3 M 4 [(0, .ref (jm_ad k r0)), (1, .int b0), (2, .int b1)] [])) (K := fun (r : Int32) => jm_T X { frames := 0, cells := 0, slots := 0, locals := 0 } k 3 M 42 [(1, .int r)] []) ?_
  intro s q h h1 h2
  intro b0 b1 hs
  subst hs
  unfold X3_different_B4 at h
  try dsimp only at h
  refine jt_iload_n C dX3_different_4 rfl 2 rfl ?_
  refine jt_aload_n C dX3_different_5 rfl 0 rfl ?_
  refine jt_getI (Tf := TX3) (N := 3) C dX3_different_6 hr0 rfl i_3 2 (by decide) rfl m_RX3_19 rfl ?_
  refine jt_icmp_ge (tgt := 42) C dX3_different_9 (by decide) (fun c9 => ?_) (fun c9 => ?_)
  · replace h := jm_ift c9 h
    cases h
    exact jt_sub [1] rfl (h2 _ rfl)
  · replace h := jm_iff c9 h
    refine jt_iload_n C dX3_different_12 rfl 2 rfl ?_
    refine jt_if_eq (tgt := 33) C dX3_different_13 (by decide) (fun c13 => ?_) (fun c13 => ?_)
    · replace h := jm_ift c13 h
      refine jt_iinc (v := (1 : Int32)) (lv' := [(1, _), (0, _), (2, _)]) C dX3_different_33 1 rfl (by decide) (by decide) rfl ?_
      refine jt_iinc (v := (1 : Int32)) (lv' := [(2, _), (1, _), (0, _)]) C dX3_different_36 2 rfl (by decide) (by decide) rfl ?_
      refine jt_goto (tgt := 4) C dX3_different_39 (by decide) ?_
      cases h
      exact jt_sub [2, 1, 0] rfl (h1 _ rfl _ _ rfl)
    · replace h := jm_iff c13 h
      refine jt_aload_n C dX3_different_16 rfl 0 rfl ?_
      refine jt_getR (Tf := TX3) (N := 3) C dX3_different_17 hr0 rfl i_3 0 (by decide) rfl m_RX3_9 rfl ?_
      refine jt_iload_n C dX3_different_20 rfl 2 rfl ?_
      obtain ⟨x1, ex1, h⟩ := jm_bind h
      refine jt_iald C dX3_different_21 (jm_f3_0 hr0) ex1 ?_
      refine jt_aload_n C dX3_different_22 rfl 0 rfl ?_
      refine jt_getR (Tf := TX3) (N := 3) C dX3_different_23 hr0 rfl i_3 0 (by decide) rfl m_RX3_9 rfl ?_
      refine jt_iload_n C dX3_different_26 rfl 2 rfl ?_
      refine jt_iconst (v := (1 : Int32)) C dX3_different_27 (by decide) ?_
      refine jt_isub C dX3_different_28 ?_
      obtain ⟨x2, ex2, h⟩ := jm_bind h
      refine jt_iald C dX3_different_29 (jm_f3_0 hr0) ex2 ?_
      refine jt_icmp_eq (tgt := 36) C dX3_different_30 (by decide) (fun c30 => ?_) (fun c30 => ?_)
      · replace h := jm_ift c30 h
        refine jt_iinc (v := (1 : Int32)) (lv' := [(2, _), (0, _), (1, _)]) C dX3_different_36 2 rfl (by decide) (by decide) rfl ?_
        refine jt_goto (tgt := 4) C dX3_different_39 (by decide) ?_
        cases h
        exact jt_sub [1, 2, 0] rfl (h1 _ rfl _ _ rfl)
      · replace h := jm_iff c30 h
        refine jt_iinc (v := (1 : Int32)) (lv' := [(1, _), (0, _), (2, _)]) C dX3_different_33 1 rfl (by decide) (by decide) rfl ?_
        refine jt_iinc (v := (1 : Int32)) (lv' := [(2, _), (1, _), (0, _)]) C dX3_different_36 2 rfl (by decide) (by decide) rfl ?_
        refine jt_goto (tgt := 4) C dX3_different_39 (by decide) ?_
        cases h
        exact jt_sub [2, 1, 0] rfl (h1 _ rfl _ _ rfl)
set_option maxHeartbeats 4000000 in
set_option maxRecDepth 100000 in
theorem c_X3_different (l : Launch) (k : jm_C) (n : Nat) (r0 : Nat) (M : jm_M) (hr0 : jm_is r0 (3, 3)) (q : Int32) (h : X3_different n r0 M = some q) : jm_Ci l k yX3_different w_X3_different { frames := 0, cells := 0, slots := 0, locals := 0 } [.ref (jm_ad k r0)] M q M := by
  refine jm_entry_i (cc := cX3_different) (nL := 3) (ret := (some .int)) (by decide) rfl (Nat.le_of_ble_eq_true rfl) ?_
  intro X hX C hQ hr
  subst hX
  unfold X3_different at h
  refine jt_iconst (v := (0 : Int32)) C dX3_different_0 (by decide) ?_
  refine jt_istore_n (lv' := [(1, _), (0, _)]) C dX3_different_1 rfl (by decide) rfl ?_
  refine jt_iconst (v := (0 : Int32)) C dX3_different_2 (by decide) ?_
  refine jt_istore_n (lv' := [(2, _), (1, _), (0, _)]) C dX3_different_3 rfl (by decide) rfl ?_
  obtain ⟨q3, eq3, h⟩ := jm_bind h
  refine jt_sub [2, 1, 0] rfl ?_
  refine t_X3_different_L4 C _ _ hr0 n _ _ eq3 ?_ _ _ rfl
  refine jt_iload_n C dX3_different_42 rfl 0 rfl ?_
  cases h
  exact jt_iret C dX3_different_43 hQ hr
theorem h_X3_fill : yX3_fill.cls = RX3 ∧ yX3_fill.cls ≠ "java/lang/invoke/MethodHandle" ∧ yX3_fill.cls ≠ "java/lang/invoke/VarHandle" ∧ (parseMethodDescriptor yX3_fill.desc).map (fun d => d.parameters.length) = some 2 := by decide +kernel
set_option maxHeartbeats 4000000 in
set_option maxRecDepth 100000 in
theorem t_X3_fill_L10 {X : jm_X} {k : jm_C} (C : jm_Cx X k cX3_fill 4 RX3 w_X3_fill) (n : Nat) (r0 : Nat) (r1 : Nat) (r2 : Nat) (hr0 : jm_is r0 (3, 3)) (hr1 : jm_is r1 (3, 4)) (hr2 : jm_is r2 (3, 1)) : ∀ (m : Nat) (s : Int32 × jm_M) (r : jm_M), jm_loop (X3_fill_B10 n r0 r1 r2) m s = some r → jm_T X { frames := 16, cells := 0, slots := 0, locals := 640 } k 4 r 44 [] [] → (∀ (b0 : Int32) (b1 : jm_M), s = (b0, b1) → jm_T X { frames := 16, cells := 0, slots := 0, locals := 640 } k 4 b1 10 [(0, .ref (jm_ad k r0)), (1, .ref (jm_ad k r1)), (2, .ref (jm_ad k r2)), (3, .int b0)] []) := by
  refine jm_loop_ind (P := fun (s : Int32 × jm_M) => (∀ (b0 : Int32) (b1 : jm_M), s = (b0, b1) → jm_T X { frames := 16, cells := 0, slots := 0, locals := 640 } k 4 b1 10 [(0, .ref (jm_ad k r0)), (1, .ref (jm_ad k r1)), (2, .ref (jm_ad k r2)), (3, .int b0)] [])) (K := fun (r : jm_M) => jm_T X { frames := 16, cells := 0, slots := 0, locals := 640 } k 4 r 44 [] []) ?_
  intro s q h h1 h2
  intro b0 b1 hs
  subst hs
  unfold X3_fill_B10 at h
  try dsimp only at h
  refine jt_iload_n C dX3_fill_10 rfl 3 rfl ?_
  refine jt_aload_n C dX3_fill_11 rfl 1 rfl ?_
  refine jt_callVi (As := []) (rest := [_]) C hr1 rfl dX3_fill_12 (c_X4_size (jx_l X) k _ _ hr1 _ rfl) (k_goodIn (g_RX3_26)) rfl h_X4_size ⟨rfl, rfl, Nat.le_of_ble_eq_true rfl, Nat.le_of_ble_eq_true rfl⟩ rfl rfl (Nat.le_of_ble_eq_true rfl) ?_
  refine jt_icmp_ge (tgt := 44) C dX3_fill_15 (by decide) (fun c15 => ?_) (fun c15 => ?_)
  · replace h := jm_ift c15 h
    cases h
    exact jt_sub [] rfl (h2 _ rfl)
  · replace h := jm_iff c15 h
    refine jt_aload_n C dX3_fill_18 rfl 0 rfl ?_
    refine jt_aload_n C dX3_fill_19 rfl 2 rfl ?_
    refine jt_aload_n C dX3_fill_20 rfl 1 rfl ?_
    refine jt_callVi (As := []) (rest := [_, _]) C hr1 rfl dX3_fill_21 (c_X4_size (jx_l X) k _ _ hr1 _ rfl) (k_goodIn (g_RX3_26)) rfl h_X4_size ⟨rfl, rfl, Nat.le_of_ble_eq_true rfl, Nat.le_of_ble_eq_true rfl⟩ rfl rfl (Nat.le_of_ble_eq_true rfl) ?_
    refine jt_iconst (v := (1 : Int32)) C dX3_fill_24 (by decide) ?_
    refine jt_isub C dX3_fill_25 ?_
    refine jt_aload_n C dX3_fill_26 rfl 1 rfl ?_
    refine jt_iload_n C dX3_fill_27 rfl 3 rfl ?_
    obtain ⟨x2, ex2, h⟩ := jm_bind h
    refine jt_callVi (As := [_]) (rest := [_, _, _]) C hr1 rfl dX3_fill_28 (c_X4_codeWithout (jx_l X) k n _ _ _ hr1 _ ex2) (k_goodIn (g_RX3_35)) rfl h_X4_codeWithout ⟨rfl, rfl, Nat.le_of_ble_eq_true rfl, Nat.le_of_ble_eq_true rfl⟩ rfl rfl (Nat.le_of_ble_eq_true rfl) ?_
    obtain ⟨⟨x3a, x3b⟩, ex3, h⟩ := jm_bind h
    try dsimp only at h
    refine jt_callVi (As := [_, _]) (rest := [_]) C hr2 rfl dX3_fill_31 (c_X1_of (jx_l X) k n _ _ _ _ hr2 _ _ ex3) (k_goodIn (g_RX3_39)) rfl h_X1_of ⟨rfl, rfl, Nat.le_of_ble_eq_true rfl, Nat.le_of_ble_eq_true rfl⟩ rfl rfl (Nat.le_of_ble_eq_true rfl) ?_
    obtain ⟨⟨x4a, x4b⟩, ex4, h⟩ := jm_bind h
    try dsimp only at h
    refine jt_callVi (As := [_]) (rest := []) C hr0 rfl dX3_fill_34 (c_X3_put (jx_l X) k n _ _ _ hr0 _ _ ex4) (k_goodIn (g_RX3_45)) rfl h_X3_put ⟨rfl, rfl, Nat.le_of_ble_eq_true rfl, Nat.le_of_ble_eq_true rfl⟩ rfl rfl (Nat.le_of_ble_eq_true rfl) ?_
    refine jt_pop C dX3_fill_37 rfl ?_
    refine jt_iinc (v := (1 : Int32)) (lv' := [(3, _), (0, _), (1, _), (2, _)]) C dX3_fill_38 3 rfl (by decide) (by decide) rfl ?_
    refine jt_goto (tgt := 10) C dX3_fill_41 (by decide) ?_
    cases h
    exact jt_sub [1, 2, 3, 0] rfl (h1 _ rfl _ _ rfl)
set_option maxHeartbeats 4000000 in
set_option maxRecDepth 100000 in
theorem c_X3_fill (l : Launch) (k : jm_C) (n : Nat) (r0 : Nat) (r1 : Nat) (r2 : Nat) (M : jm_M) (hr0 : jm_is r0 (3, 3)) (hr1 : jm_is r1 (3, 4)) (hr2 : jm_is r2 (3, 1)) (q : jm_M) (h : X3_fill n r0 r1 r2 M = some q) : jm_Cv l k yX3_fill w_X3_fill { frames := 16, cells := 0, slots := 0, locals := 640 } [.ref (jm_ad k r0), .ref (jm_ad k r1), .ref (jm_ad k r2)] M q := by
  refine jm_entry_v (cc := cX3_fill) (nL := 4) (ret := none) (by decide) rfl (Nat.le_of_ble_eq_true rfl) ?_
  intro X hX C hQ hr
  subst hX
  unfold X3_fill at h
  refine jt_aload_n C dX3_fill_0 rfl 0 rfl ?_
  refine jt_aload_n C dX3_fill_1 rfl 1 rfl ?_
  refine jt_callVi (As := []) (rest := [_]) C hr1 rfl dX3_fill_2 (c_X4_size (jx_l X) k _ _ hr1 _ rfl) (k_goodIn (g_RX3_26)) rfl h_X4_size ⟨rfl, rfl, Nat.le_of_ble_eq_true rfl, Nat.le_of_ble_eq_true rfl⟩ rfl rfl (Nat.le_of_ble_eq_true rfl) ?_
  obtain ⟨M1, eM1, h⟩ := jm_bind h
  refine jt_callVv (As := [_]) (rest := []) C hr0 rfl dX3_fill_5 (c_X3_start (jx_l X) k _ _ _ hr0 _ eM1) (k_goodIn (g_RX3_31)) rfl h_X3_start ⟨rfl, rfl, Nat.le_of_ble_eq_true rfl, Nat.le_of_ble_eq_true rfl⟩ rfl rfl (Nat.le_of_ble_eq_true rfl) ?_
  refine jt_iconst (v := (0 : Int32)) C dX3_fill_8 (by decide) ?_
  refine jt_istore_n (lv' := [(3, _), (0, _), (1, _), (2, _)]) C dX3_fill_9 rfl (by decide) rfl ?_
  obtain ⟨q5, eq5, h⟩ := jm_bind h
  refine jt_sub [1, 2, 3, 0] rfl ?_
  refine t_X3_fill_L10 C n _ _ _ hr0 hr1 hr2 n _ _ eq5 ?_ _ _ rfl
  cases h
  exact jt_vret C dX3_fill_44 hQ hr
