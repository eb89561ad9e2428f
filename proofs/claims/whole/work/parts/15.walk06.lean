theorem h_X0_keep : yX0_keep.cls = RX0 ∧ yX0_keep.cls ≠ "java/lang/invoke/MethodHandle" ∧ yX0_keep.cls ≠ "java/lang/invoke/VarHandle" ∧ (parseMethodDescriptor yX0_keep.desc).map (fun d => d.parameters.length) = some 1 := by decide +kernel
set_option maxHeartbeats 4000000 in
set_option maxRecDepth 100000 in
theorem t_X0_keep_L2 {X : jm_X} {k : jm_C} (C : jm_Cx X k cX0_keep 5 RX0 w_X0_keep) (r0 : Nat) (v1 : Int32) (M : jm_M) (hr0 : jm_is r0 (3, 0)) : ∀ (m : Nat) (s : Int32) (r : Int32), jm_loop (X0_keep_B2 r0 v1 M) m s = some r → jm_T X { frames := 0, cells := 0, slots := 0, locals := 0 } k 5 M 26 [(0, .ref (jm_ad k r0)), (1, .int v1), (2, .int r)] [] → jm_T X { frames := 0, cells := 0, slots := 0, locals := 0 } k 5 M 2 [(0, .ref (jm_ad k r0)), (1, .int v1), (2, .int s)] [] := by
  refine jm_loop_ind (P := fun (s : Int32) => jm_T X { frames := 0, cells := 0, slots := 0, locals := 0 } k 5 M 2 [(0, .ref (jm_ad k r0)), (1, .int v1), (2, .int s)] []) (K := fun (r : Int32) => jm_T X { frames := 0, cells := 0, slots := 0, locals := 0 } k 5 M 26 [(0, .ref (jm_ad k r0)), (1, .int v1), (2, .int r)] []) ?_
  intro s q h h1 h2
  unfold X0_keep_B2 at h
  try dsimp only at h
  refine jt_iload_n C dX0_keep_2 rfl 2 rfl ?_
  refine jt_aload_n C dX0_keep_3 rfl 0 rfl ?_
  refine jt_getI (Tf := TX0) (N := 5) C dX0_keep_4 hr0 rfl i_0 4 (by decide) rfl m_RX0_32 rfl ?_
  refine jt_icmp_ge (tgt := 26) C dX0_keep_7 (by decide) (fun c7 => ?_) (fun c7 => ?_)
  · replace h := jm_ift c7 h
    cases h
    exact jt_sub [0, 1, 2] rfl (h2 _ rfl)
  · replace h := jm_iff c7 h
    refine jt_aload_n C dX0_keep_10 rfl 0 rfl ?_
    refine jt_getR (Tf := TX0) (N := 5) C dX0_keep_11 hr0 rfl i_0 3 (by decide) rfl m_RX0_28 rfl ?_
    refine jt_iload_n C dX0_keep_14 rfl 2 rfl ?_
    obtain ⟨x1, ex1, h⟩ := jm_bind h
    refine jt_iald C dX0_keep_15 (jm_f0_3 hr0) ex1 ?_
    refine jt_iload_n C dX0_keep_16 rfl 1 rfl ?_
    refine jt_icmp_ge (tgt := 26) C dX0_keep_17 (by decide) (fun c17 => ?_) (fun c17 => ?_)
    · replace h := jm_ift c17 h
      cases h
      exact jt_sub [0, 1, 2] rfl (h2 _ rfl)
    · replace h := jm_iff c17 h
      refine jt_iinc (v := (1 : Int32)) (lv' := [(2, _), (0, _), (1, _)]) C dX0_keep_20 2 rfl (by decide) (by decide) rfl ?_
      refine jt_goto (tgt := 2) C dX0_keep_23 (by decide) ?_
      cases h
      exact jt_sub [1, 2, 0] rfl (h1 _ rfl)
set_option maxHeartbeats 4000000 in
set_option maxRecDepth 100000 in
theorem t_X0_keep_L73 {X : jm_X} {k : jm_C} (C : jm_Cx X k cX0_keep 5 RX0 w_X0_keep) (r0 : Nat) (v1 : Int32) (v2 : Int32) (hr0 : jm_is r0 (3, 0)) : ∀ (m : Nat) (s : Int32 × jm_M) (r : jm_M), jm_loop (X0_keep_B73 r0 v1 v2) m s = some r → jm_T X { frames := 0, cells := 0, slots := 0, locals := 0 } k 5 r 101 [(0, .ref (jm_ad k r0)), (1, .int v1), (2, .int v2)] [] → (∀ (b0 : Int32) (b1 : jm_M), s = (b0, b1) → jm_T X { frames := 0, cells := 0, slots := 0, locals := 0 } k 5 b1 73 [(0, .ref (jm_ad k r0)), (1, .int v1), (2, .int v2), (4, .int b0)] []) := by
  refine jm_loop_ind (P := fun (s : Int32 × jm_M) => (∀ (b0 : Int32) (b1 : jm_M), s = (b0, b1) → jm_T X { frames := 0, cells := 0, slots := 0, locals := 0 } k 5 b1 73 [(0, .ref (jm_ad k r0)), (1, .int v1), (2, .int v2), (4, .int b0)] [])) (K := fun (r : jm_M) => jm_T X { frames := 0, cells := 0, slots := 0, locals := 0 } k 5 r 101 [(0, .ref (jm_ad k r0)), (1, .int v1), (2, .int v2)] []) ?_
  intro s q h h1 h2
  intro b0 b1 hs
  subst hs
  unfold X0_keep_B73 at h
  try dsimp only at h
  refine jt_iload C dX0_keep_73 3 rfl ?_
  refine jt_iload_n C dX0_keep_75 rfl 2 rfl ?_
  refine jt_icmp_le (tgt := 101) C dX0_keep_76 (by decide) (fun c76 => ?_) (fun c76 => ?_)
  · replace h := jm_ift c76 h
    cases h
    exact jt_sub [0, 1, 2] rfl (h2 _ rfl)
  · replace h := jm_iff c76 h
    refine jt_aload_n C dX0_keep_79 rfl 0 rfl ?_
    refine jt_getR (Tf := TX0) (N := 5) C dX0_keep_80 hr0 rfl i_0 3 (by decide) rfl m_RX0_28 rfl ?_
    refine jt_iload C dX0_keep_83 3 rfl ?_
    refine jt_aload_n C dX0_keep_85 rfl 0 rfl ?_
    refine jt_getR (Tf := TX0) (N := 5) C dX0_keep_86 hr0 rfl i_0 3 (by decide) rfl m_RX0_28 rfl ?_
    refine jt_iload C dX0_keep_89 3 rfl ?_
    refine jt_iconst (v := (1 : Int32)) C dX0_keep_91 (by decide) ?_
    refine jt_isub C dX0_keep_92 ?_
    obtain ⟨x3, ex3, h⟩ := jm_bind h
    refine jt_iald C dX0_keep_93 (jm_f0_3 hr0) ex3 ?_
    obtain ⟨M4, eM4, h⟩ := jm_bind h
    refine jt_iast C dX0_keep_94 (jm_f0_3 hr0) eM4 ?_
    refine jt_iinc (v := (-1 : Int32)) (lv' := [(4, _), (0, _), (1, _), (2, _)]) C dX0_keep_95 3 rfl (by decide) (by decide) rfl ?_
    refine jt_goto (tgt := 73) C dX0_keep_98 (by decide) ?_
    cases h
    exact jt_sub [1, 2, 3, 0] rfl (h1 _ rfl _ _ rfl)
set_option maxHeartbeats 4000000 in
set_option maxRecDepth 100000 in
theorem c_X0_keep (l : Launch) (k : jm_C) (n : Nat) (r0 : Nat) (v1 : Int32) (M : jm_M) (hr0 : jm_is r0 (3, 0)) (q : jm_M) (h : X0_keep n r0 v1 M = some q) : jm_Cv l k yX0_keep w_X0_keep { frames := 0, cells := 0, slots := 0, locals := 0 } [.ref (jm_ad k r0), .int v1] M q := by
  refine jm_entry_v (cc := cX0_keep) (nL := 5) (ret := none) (by decide) rfl (Nat.le_of_ble_eq_true rfl) ?_
  intro X hX C hQ hr
  subst hX
  unfold X0_keep at h
  refine jt_iconst (v := (0 : Int32)) C dX0_keep_0 (by decide) ?_
  refine jt_istore_n (lv' := [(2, _), (0, _), (1, _)]) C dX0_keep_1 rfl (by decide) rfl ?_
  obtain ⟨q2, eq2, h⟩ := jm_bind h
  refine jt_sub [1, 2, 0] rfl ?_
  refine t_X0_keep_L2 C _ _ _ hr0 n _ _ eq2 ?_
  refine jt_iload_n C dX0_keep_26 rfl 2 rfl ?_
  refine jt_aload_n C dX0_keep_27 rfl 0 rfl ?_
  refine jt_getI (Tf := TX0) (N := 5) C dX0_keep_28 hr0 rfl i_0 4 (by decide) rfl m_RX0_32 rfl ?_
  refine jt_icmp_ge (tgt := 48) C dX0_keep_31 (by decide) (fun c31 => ?_) (fun c31 => ?_)
  · replace h := jm_ift c31 h
    refine jt_iconst (v := (0 : Int32)) C dX0_keep_48 (by decide) ?_
    refine jt_istore_n (lv' := [(3, _), (0, _), (1, _), (2, _)]) C dX0_keep_49 rfl (by decide) rfl ?_
    refine jt_iload_n C dX0_keep_50 rfl 0 rfl ?_
    refine jt_if_ne (tgt := 66) C dX0_keep_51 (by decide) (fun c => absurd c (by decide)) (fun _ => ?_)
    refine jt_aload_n C dX0_keep_54 rfl 1 rfl ?_
    refine jt_getI (Tf := TX0) (N := 5) C dX0_keep_55 hr0 rfl i_0 4 (by decide) rfl m_RX0_32 rfl ?_
    refine jt_aload_n C dX0_keep_58 rfl 1 rfl ?_
    refine jt_getR (Tf := TX0) (N := 5) C dX0_keep_59 hr0 rfl i_0 3 (by decide) rfl m_RX0_28 rfl ?_
    refine jt_alen (v := 32) C dX0_keep_62 (jm_f0_3 hr0) (by decide) ?_
    refine jt_icmp_lt (tgt := 67) C dX0_keep_63 (by decide) (fun c63 => ?_) (fun c63 => ?_)
    · replace h := jm_ift c63 h
      refine jt_aload_n C dX0_keep_67 rfl 1 rfl ?_
      refine jt_getI (Tf := TX0) (N := 5) C dX0_keep_68 hr0 rfl i_0 4 (by decide) rfl m_RX0_32 rfl ?_
      refine jt_istore (lv' := [(4, _), (3, _), (0, _), (1, _), (2, _)]) C dX0_keep_71 (by decide) rfl ?_
      obtain ⟨q5, eq5, h⟩ := jm_bind h
      refine jt_sub [2, 3, 4, 0] rfl ?_
      refine t_X0_keep_L73 C _ _ _ hr0 n _ _ eq5 ?_ _ _ rfl
      refine jt_aload_n C dX0_keep_101 rfl 0 rfl ?_
      refine jt_getR (Tf := TX0) (N := 5) C dX0_keep_102 hr0 rfl i_0 3 (by decide) rfl m_RX0_28 rfl ?_
      refine jt_iload_n C dX0_keep_105 rfl 2 rfl ?_
      refine jt_iload_n C dX0_keep_106 rfl 1 rfl ?_
      obtain ⟨M6, eM6, h⟩ := jm_bind h
      refine jt_iast C dX0_keep_107 (jm_f0_3 hr0) eM6 ?_
      refine jt_aload_n C dX0_keep_108 rfl 0 rfl ?_
      refine jt_dup C dX0_keep_109 rfl ?_
      refine jt_getI (Tf := TX0) (N := 5) C dX0_keep_110 hr0 rfl i_0 4 (by decide) rfl m_RX0_32 rfl ?_
      refine jt_iconst (v := (1 : Int32)) C dX0_keep_113 (by decide) ?_
      refine jt_iadd C dX0_keep_114 ?_
      refine jt_putI (Tf := TX0) (N := 5) C dX0_keep_115 hr0 rfl i_0 tyX0 tyX0_ok nmX0 4 (by decide) rfl m_RX0_32 rfl rfl (by decide +kernel) ?_
      cases h
      exact jt_vret C dX0_keep_118 hQ hr
    · replace h := jm_iff c63 h
      cases h
      exact jt_vret C dX0_keep_66 hQ hr
  · replace h := jm_iff c31 h
    refine jt_aload_n C dX0_keep_34 rfl 0 rfl ?_
    refine jt_getR (Tf := TX0) (N := 5) C dX0_keep_35 hr0 rfl i_0 3 (by decide) rfl m_RX0_28 rfl ?_
    refine jt_iload_n C dX0_keep_38 rfl 2 rfl ?_
    obtain ⟨x7, ex7, h⟩ := jm_bind h
    refine jt_iald C dX0_keep_39 (jm_f0_3 hr0) ex7 ?_
    refine jt_iload_n C dX0_keep_40 rfl 1 rfl ?_
    refine jt_icmp_ne (tgt := 48) C dX0_keep_41 (by decide) (fun c41 => ?_) (fun c41 => ?_)
    · replace h := jm_iff c41 h
      refine jt_iconst (v := (0 : Int32)) C dX0_keep_48 (by decide) ?_
      refine jt_istore_n (lv' := [(3, _), (0, _), (1, _), (2, _)]) C dX0_keep_49 rfl (by decide) rfl ?_
      refine jt_iload_n C dX0_keep_50 rfl 0 rfl ?_
      refine jt_if_ne (tgt := 66) C dX0_keep_51 (by decide) (fun c => absurd c (by decide)) (fun _ => ?_)
      refine jt_aload_n C dX0_keep_54 rfl 1 rfl ?_
      refine jt_getI (Tf := TX0) (N := 5) C dX0_keep_55 hr0 rfl i_0 4 (by decide) rfl m_RX0_32 rfl ?_
      refine jt_aload_n C dX0_keep_58 rfl 1 rfl ?_
      refine jt_getR (Tf := TX0) (N := 5) C dX0_keep_59 hr0 rfl i_0 3 (by decide) rfl m_RX0_28 rfl ?_
      refine jt_alen (v := 32) C dX0_keep_62 (jm_f0_3 hr0) (by decide) ?_
      refine jt_icmp_lt (tgt := 67) C dX0_keep_63 (by decide) (fun c63 => ?_) (fun c63 => ?_)
      · replace h := jm_ift c63 h
        refine jt_aload_n C dX0_keep_67 rfl 1 rfl ?_
        refine jt_getI (Tf := TX0) (N := 5) C dX0_keep_68 hr0 rfl i_0 4 (by decide) rfl m_RX0_32 rfl ?_
        refine jt_istore (lv' := [(4, _), (3, _), (0, _), (1, _), (2, _)]) C dX0_keep_71 (by decide) rfl ?_
        obtain ⟨q8, eq8, h⟩ := jm_bind h
        refine jt_sub [2, 3, 4, 0] rfl ?_
        refine t_X0_keep_L73 C _ _ _ hr0 n _ _ eq8 ?_ _ _ rfl
        refine jt_aload_n C dX0_keep_101 rfl 0 rfl ?_
        refine jt_getR (Tf := TX0) (N := 5) C dX0_keep_102 hr0 rfl i_0 3 (by decide) rfl m_RX0_28 rfl ?_
        refine jt_iload_n C dX0_keep_105 rfl 2 rfl ?_
        refine jt_iload_n C dX0_keep_106 rfl 1 rfl ?_
        obtain ⟨M9, eM9, h⟩ := jm_bind h
        refine jt_iast C dX0_keep_107 (jm_f0_3 hr0) eM9 ?_
        refine jt_aload_n C dX0_keep_108 rfl 0 rfl ?_
        refine jt_dup C dX0_keep_109 rfl ?_
        refine jt_getI (Tf := TX0) (N := 5) C dX0_keep_110 hr0 rfl i_0 4 (by decide) rfl m_RX0_32 rfl ?_
        refine jt_iconst (v := (1 : Int32)) C dX0_keep_113 (by decide) ?_
        refine jt_iadd C dX0_keep_114 ?_
        refine jt_putI (Tf := TX0) (N := 5) C dX0_keep_115 hr0 rfl i_0 tyX0 tyX0_ok nmX0 4 (by decide) rfl m_RX0_32 rfl rfl (by decide +kernel) ?_
        cases h
        exact jt_vret C dX0_keep_118 hQ hr
      · replace h := jm_iff c63 h
        cases h
        exact jt_vret C dX0_keep_66 hQ hr
    · replace h := jm_ift c41 h
      refine jt_iconst (v := (1 : Int32)) C dX0_keep_44 (by decide) ?_
      refine jt_goto (tgt := 49) C dX0_keep_45 (by decide) ?_
      refine jt_istore_n (lv' := [(3, _), (0, _), (1, _), (2, _)]) C dX0_keep_49 rfl (by decide) rfl ?_
      refine jt_iload_n C dX0_keep_50 rfl 0 rfl ?_
      refine jt_if_ne (tgt := 66) C dX0_keep_51 (by decide) (fun _ => ?_) (fun c => absurd c (by decide))
      cases h
      exact jt_vret C dX0_keep_66 hQ hr
theorem h_X3_contains : yX3_contains.cls = RX3 ∧ yX3_contains.cls ≠ "java/lang/invoke/MethodHandle" ∧ yX3_contains.cls ≠ "java/lang/invoke/VarHandle" ∧ (parseMethodDescriptor yX3_contains.desc).map (fun d => d.parameters.length) = some 1 := by decide +kernel
set_option maxHeartbeats 4000000 in
set_option maxRecDepth 100000 in
theorem t_X3_contains_L2 {X : jm_X} {k : jm_C} (C : jm_Cx X k cX3_contains 4 RX3 w_X3_contains) (n : Nat) (r0 : Nat) (r1 : Nat) (M : jm_M) (hr0 : jm_is r0 (3, 3)) (hr1 : jm_is r1 (3, 3)) : ∀ (m : Nat) (s : Int32) (r : (Int32) ⊕ (Unit)), jm_loop (X3_contains_B2 n r0 r1 M) m s = some r → (match r with | .inl z => ∀ (pc1 : Nat) (lv1 : List (Nat × Value)), (decode cX3_contains pc1 = .ok (.ireturn, 1) ∧ (z = 0 ∨ z = 1)) → jm_T X { frames := 2, cells := 0, slots := 0, locals := 80 } k 4 M pc1 lv1 [.int z] | .inr w => jm_T X { frames := 2, cells := 0, slots := 0, locals := 80 } k 4 M 37 [] []) → jm_T X { frames := 2, cells := 0, slots := 0, locals := 80 } k 4 M 2 [(0, .ref (jm_ad k r0)), (1, .ref (jm_ad k r1)), (2, .int s)] [] := by
  refine jm_loop_ind (P := fun (s : Int32) => jm_T X { frames := 2, cells := 0, slots := 0, locals := 80 } k 4 M 2 [(0, .ref (jm_ad k r0)), (1, .ref (jm_ad k r1)), (2, .int s)] []) (K := fun (r : (Int32) ⊕ (Unit)) => match r with | .inl z => ∀ (pc1 : Nat) (lv1 : List (Nat × Value)), (decode cX3_contains pc1 = .ok (.ireturn, 1) ∧ (z = 0 ∨ z = 1)) → jm_T X { frames := 2, cells := 0, slots := 0, locals := 80 } k 4 M pc1 lv1 [.int z] | .inr w => jm_T X { frames := 2, cells := 0, slots := 0, locals := 80 } k 4 M 37 [] []) ?_
  intro s q h h1 h2
  unfold X3_contains_B2 at h
  try dsimp only at h
  refine jt_iload_n C dX3_contains_2 rfl 2 rfl ?_
  refine jt_aload_n C dX3_contains_3 rfl 1 rfl ?_
  refine jt_callVi (As := []) (rest := [_]) C hr1 rfl dX3_contains_4 (c_X3_size (jx_l X) k _ _ hr1 _ rfl) (k_goodIn (g_RX3_48)) rfl h_X3_size ⟨rfl, rfl, Nat.le_of_ble_eq_true rfl, Nat.le_of_ble_eq_true rfl⟩ rfl rfl (Nat.le_of_ble_eq_true rfl) ?_
  refine jt_icmp_ge (tgt := 37) C dX3_contains_7 (by decide) (fun c7 => ?_) (fun c7 => ?_)
  · replace h := jm_ift c7 h
    cases h
    exact jt_sub [] rfl (h2 _ rfl)
  · replace h := jm_iff c7 h
    refine jt_aload_n C dX3_contains_10 rfl 1 rfl ?_
    refine jt_iload_n C dX3_contains_11 rfl 2 rfl ?_
    obtain ⟨x1, ex1, h⟩ := jm_bind h
    refine jt_callVi (As := [_]) (rest := []) C hr1 rfl dX3_contains_12 (c_X3_codeAt (jx_l X) k _ _ _ hr1 _ ex1) (k_goodIn (g_RX3_49)) rfl h_X3_codeAt ⟨rfl, rfl, Nat.le_of_ble_eq_true rfl, Nat.le_of_ble_eq_true rfl⟩ rfl rfl (Nat.le_of_ble_eq_true rfl) ?_
    refine jt_istore_n (lv' := [(3, _), (0, _), (1, _), (2, _)]) C dX3_contains_15 rfl (by decide) rfl ?_
    refine jt_aload_n C dX3_contains_16 rfl 1 rfl ?_
    refine jt_iload_n C dX3_contains_17 rfl 0 rfl ?_
    obtain ⟨x2, ex2, h⟩ := jm_bind h
    refine jt_callVi (As := [_]) (rest := []) C hr0 rfl dX3_contains_18 (c_X3_howOften (jx_l X) k n _ _ _ hr0 _ ex2) (k_goodIn (g_RX3_52)) rfl h_X3_howOften ⟨rfl, rfl, Nat.le_of_ble_eq_true rfl, Nat.le_of_ble_eq_true rfl⟩ rfl rfl (Nat.le_of_ble_eq_true rfl) ?_
    refine jt_aload_n C dX3_contains_21 rfl 2 rfl ?_
    refine jt_iload_n C dX3_contains_22 rfl 0 rfl ?_
    obtain ⟨x3, ex3, h⟩ := jm_bind h
    refine jt_callVi (As := [_]) (rest := [_]) C hr1 rfl dX3_contains_23 (c_X3_howOften (jx_l X) k n _ _ _ hr1 _ ex3) (k_goodIn (g_RX3_52)) rfl h_X3_howOften ⟨rfl, rfl, Nat.le_of_ble_eq_true rfl, Nat.le_of_ble_eq_true rfl⟩ rfl rfl (Nat.le_of_ble_eq_true rfl) ?_
    refine jt_icmp_ge (tgt := 31) C dX3_contains_26 (by decide) (fun c26 => ?_) (fun c26 => ?_)
    · replace h := jm_ift c26 h
      refine jt_iinc (v := (1 : Int32)) (lv' := [(2, _), (3, _), (0, _), (1, _)]) C dX3_contains_31 3 rfl (by decide) (by decide) rfl ?_
      refine jt_goto (tgt := 2) C dX3_contains_34 (by decide) ?_
      cases h
      exact jt_sub [2, 3, 0] rfl (h1 _ rfl)
    · replace h := jm_iff c26 h
      refine jt_iconst (v := (0 : Int32)) C dX3_contains_29 (by decide) ?_
      cases h
      exact h2 _ rfl _ _ ⟨dX3_contains_30, (Or.inl rfl)⟩
set_option maxHeartbeats 4000000 in
set_option maxRecDepth 100000 in
theorem c_X3_contains (l : Launch) (k : jm_C) (n : Nat) (r0 : Nat) (r1 : Nat) (M : jm_M) (hr0 : jm_is r0 (3, 3)) (hr1 : jm_is r1 (3, 3)) (q : Int32) (h : X3_contains n r0 r1 M = some q) : jm_Ci l k yX3_contains w_X3_contains { frames := 2, cells := 0, slots := 0, locals := 80 } [.ref (jm_ad k r0), .ref (jm_ad k r1)] M q M := by
  refine jm_entry_i (cc := cX3_contains) (nL := 4) (ret := (some .boolean)) (by decide) rfl (Nat.le_of_ble_eq_true rfl) ?_
  intro X hX C hQ hr
  subst hX
  unfold X3_contains at h
  refine jt_iconst (v := (0 : Int32)) C dX3_contains_0 (by decide) ?_
  refine jt_istore_n (lv' := [(2, _), (0, _), (1, _)]) C dX3_contains_1 rfl (by decide) rfl ?_
  obtain ⟨q4, eq4, h⟩ := jm_bind h
  refine jt_sub [1, 2, 0] rfl ?_
  refine t_X3_contains_L2 C n _ _ _ hr0 hr1 n _ _ eq4 ?_
  rcases q4 with z5 | w6
  · replace h := jm_inl h
    intro pc1 lv1 hp1
    cases h
    exact jt_zret C hp1.1 hQ hr hp1.2
  · replace h := jm_inr h
    show jm_T _ _ _ _ _ _ _ _
    refine jt_iconst (v := (1 : Int32)) C dX3_contains_37 (by decide) ?_
    cases h
    exact jt_zret C dX3_contains_38 hQ hr (Or.inr rfl)
theorem h_X0_find : yX0_find.cls = RX0 ∧ yX0_find.cls ≠ "java/lang/invoke/MethodHandle" ∧ yX0_find.cls ≠ "java/lang/invoke/VarHandle" ∧ (parseMethodDescriptor yX0_find.desc).map (fun d => d.parameters.length) = some 3 := by decide +kernel
set_option maxHeartbeats 4000000 in
set_option maxRecDepth 100000 in
theorem t_X0_find_L37 {X : jm_X} {k : jm_C} (C : jm_Cx X k cX0_find 7 RX0 w_X0_find) (n : Nat) (r0 : Nat) (r3 : Nat) (v4 : Int32) (hr0 : jm_is r0 (3, 0)) (hr3 : jm_is r3 (3, 1)) : ∀ (m : Nat) (s : Int32 × jm_M) (r : jm_M), jm_loop (X0_find_B37 n r0 r3 v4) m s = some r → jm_T X { frames := 17, cells := 0, slots := 0, locals := 680 } k 7 r 127 [(0, .ref (jm_ad k r0))] [] → (∀ (b0 : Int32) (b1 : jm_M), s = (b0, b1) → jm_T X { frames := 17, cells := 0, slots := 0, locals := 680 } k 7 b1 37 [(0, .ref (jm_ad k r0)), (3, .ref (jm_ad k r3)), (4, .int v4), (5, .int b0)] []) := by
  refine jm_loop_ind (P := fun (s : Int32 × jm_M) => (∀ (b0 : Int32) (b1 : jm_M), s = (b0, b1) → jm_T X { frames := 17, cells := 0, slots := 0, locals := 680 } k 7 b1 37 [(0, .ref (jm_ad k r0)), (3, .ref (jm_ad k r3)), (4, .int v4), (5, .int b0)] [])) (K := fun (r : jm_M) => jm_T X { frames := 17, cells := 0, slots := 0, locals := 680 } k 7 r 127 [(0, .ref (jm_ad k r0))] []) ?_
  intro s q h h1 h2
  intro b0 b1 hs
  subst hs
  unfold X0_find_B37 at h
  try dsimp only at h
  refine jt_iload C dX0_find_37 3 rfl ?_
  refine jt_iconst (v := (1 : Int32)) C dX0_find_39 (by decide) ?_
  refine jt_iload C dX0_find_40 2 rfl ?_
  refine jt_ishl C dX0_find_42 ?_
  refine jt_icmp_ge (tgt := 127) C dX0_find_43 (by decide) (fun c43 => ?_) (fun c43 => ?_)
  · replace h := jm_ift c43 h
    cases h
    exact jt_sub [0] rfl (h2 _ rfl)
  · replace h := jm_iff c43 h
    refine jt_aload_n C dX0_find_46 rfl 0 rfl ?_
    refine jt_getR (Tf := TX0) (N := 5) C dX0_find_47 hr0 rfl i_0 1 (by decide) rfl m_RX0_21 rfl ?_
    refine jt_iconst (v := (0 : Int32)) C dX0_find_50 (by decide) ?_
    obtain ⟨x2, ex2, h⟩ := jm_bind h
    refine jt_callVi (As := [_]) (rest := []) C (jm_f0_1 hr0) rfl dX0_find_51 (c_X3_codeAt (jx_l X) k _ _ _ (jm_f0_1 hr0) _ ex2) (k_goodIn (g_RX0_46)) rfl h_X3_codeAt ⟨rfl, rfl, Nat.le_of_ble_eq_true rfl, Nat.le_of_ble_eq_true rfl⟩ rfl rfl (Nat.le_of_ble_eq_true rfl) ?_
    refine jt_iload C dX0_find_54 2 rfl ?_
    refine jt_ishl C dX0_find_56 ?_
    refine jt_iload C dX0_find_57 3 rfl ?_
    refine jt_ior C dX0_find_59 ?_
    refine jt_istore (lv' := [(6, _), (0, _), (3, _), (4, _), (5, _)]) C dX0_find_60 (by decide) rfl ?_
    refine jt_aload_n C dX0_find_62 rfl 1 rfl ?_
    refine jt_getR (Tf := TX0) (N := 5) C dX0_find_63 hr0 rfl i_0 0 (by decide) rfl m_RX0_12 rfl ?_
    refine jt_aload_n C dX0_find_66 rfl 1 rfl ?_
    refine jt_getR (Tf := TX0) (N := 5) C dX0_find_67 hr0 rfl i_0 1 (by decide) rfl m_RX0_21 rfl ?_
    refine jt_callVi (As := []) (rest := [_]) C (jm_f0_1 hr0) rfl dX0_find_70 (c_X3_h (jx_l X) k _ _ (jm_f0_1 hr0) _ rfl) (k_goodIn (g_RX0_43)) rfl h_X3_h ⟨rfl, rfl, Nat.le_of_ble_eq_true rfl, Nat.le_of_ble_eq_true rfl⟩ rfl rfl (Nat.le_of_ble_eq_true rfl) ?_
    refine jt_iload C dX0_find_73 0 rfl ?_
    obtain ⟨M3, eM3, h⟩ := jm_bind h
    refine jt_callVv (As := [_, _]) (rest := []) C (jm_f0_0 hr0) rfl dX0_find_75 (c_X4_load (jx_l X) k n _ _ _ _ (jm_f0_0 hr0) _ eM3) (k_goodIn (g_RX0_50)) rfl h_X4_load ⟨rfl, rfl, Nat.le_of_ble_eq_true rfl, Nat.le_of_ble_eq_true rfl⟩ rfl rfl (Nat.le_of_ble_eq_true rfl) ?_
    refine jt_aload_n C dX0_find_78 rfl 1 rfl ?_
    refine jt_getR (Tf := TX0) (N := 5) C dX0_find_79 hr0 rfl i_0 2 (by decide) rfl m_RX0_25 rfl ?_
    refine jt_aload_n C dX0_find_82 rfl 1 rfl ?_
    refine jt_getR (Tf := TX0) (N := 5) C dX0_find_83 hr0 rfl i_0 0 (by decide) rfl m_RX0_12 rfl ?_
    refine jt_aload_n C dX0_find_86 rfl 2 rfl ?_
    obtain ⟨M4, eM4, h⟩ := jm_bind h
    refine jt_callVv (As := [_, _]) (rest := []) C (jm_f0_2 hr0) rfl dX0_find_87 (c_X3_fill (jx_l X) k n _ _ _ _ (jm_f0_2 hr0) (jm_f0_0 hr0) hr3 _ eM4) (k_goodIn (g_RX0_54)) rfl h_X3_fill ⟨rfl, rfl, Nat.le_of_ble_eq_true rfl, Nat.le_of_ble_eq_true rfl⟩ rfl rfl (Nat.le_of_ble_eq_true rfl) ?_
    refine jt_aload_n C dX0_find_90 rfl 1 rfl ?_
    refine jt_getR (Tf := TX0) (N := 5) C dX0_find_91 hr0 rfl i_0 2 (by decide) rfl m_RX0_25 rfl ?_
    refine jt_aload_n C dX0_find_94 rfl 1 rfl ?_
    refine jt_getR (Tf := TX0) (N := 5) C dX0_find_95 hr0 rfl i_0 1 (by decide) rfl m_RX0_21 rfl ?_
    obtain ⟨x5, ex5, h⟩ := jm_bind h
    refine jt_callVi (As := [_]) (rest := []) C (jm_f0_2 hr0) rfl dX0_find_98 (c_X3_contains (jx_l X) k n _ _ _ (jm_f0_2 hr0) (jm_f0_1 hr0) _ ex5) (k_goodIn (g_RX0_58)) rfl h_X3_contains ⟨rfl, rfl, Nat.le_of_ble_eq_true rfl, Nat.le_of_ble_eq_true rfl⟩ rfl rfl (Nat.le_of_ble_eq_true rfl) ?_
    refine jt_if_eq (tgt := 121) C dX0_find_101 (by decide) (fun c101 => ?_) (fun c101 => ?_)
    · replace h := jm_ift c101 h
      refine jt_iinc (v := (1 : Int32)) (lv' := [(5, _), (6, _), (0, _), (3, _), (4, _)]) C dX0_find_121 4 rfl (by decide) (by decide) rfl ?_
      refine jt_goto (tgt := 37) C dX0_find_124 (by decide) ?_
      cases h
      exact jt_sub [2, 3, 4, 0] rfl (h1 _ rfl _ _ rfl)
    · replace h := jm_iff c101 h
      refine jt_aload_n C dX0_find_104 rfl 1 rfl ?_
      refine jt_aload_n C dX0_find_105 rfl 2 rfl ?_
      refine jt_aload_n C dX0_find_106 rfl 1 rfl ?_
      refine jt_getR (Tf := TX0) (N := 5) C dX0_find_107 hr0 rfl i_0 1 (by decide) rfl m_RX0_21 rfl ?_
      refine jt_callVi (As := []) (rest := [_, _]) C (jm_f0_1 hr0) rfl dX0_find_110 (c_X3_h (jx_l X) k _ _ (jm_f0_1 hr0) _ rfl) (k_goodIn (g_RX0_43)) rfl h_X3_h ⟨rfl, rfl, Nat.le_of_ble_eq_true rfl, Nat.le_of_ble_eq_true rfl⟩ rfl rfl (Nat.le_of_ble_eq_true rfl) ?_
      refine jt_iload C dX0_find_113 0 rfl ?_
      obtain ⟨⟨x6a, x6b⟩, ex6, h⟩ := jm_bind h
      try dsimp only at h
      refine jt_callVi (As := [_, _]) (rest := [_]) C hr3 rfl dX0_find_115 (c_X1_of (jx_l X) k n _ _ _ _ hr3 _ _ ex6) (k_goodIn (g_RX0_62)) rfl h_X1_of ⟨rfl, rfl, Nat.le_of_ble_eq_true rfl, Nat.le_of_ble_eq_true rfl⟩ rfl rfl (Nat.le_of_ble_eq_true rfl) ?_
      obtain ⟨M7, eM7, h⟩ := jm_bind h
      refine jt_callVv (As := [_]) (rest := []) C hr0 rfl dX0_find_118 (c_X0_keep (jx_l X) k n _ _ _ hr0 _ eM7) (k_goodIn (g_RX0_68)) rfl h_X0_keep ⟨rfl, rfl, Nat.le_of_ble_eq_true rfl, Nat.le_of_ble_eq_true rfl⟩ rfl rfl (Nat.le_of_ble_eq_true rfl) ?_
      refine jt_iinc (v := (1 : Int32)) (lv' := [(5, _), (6, _), (0, _), (3, _), (4, _)]) C dX0_find_121 4 rfl (by decide) (by decide) rfl ?_
      refine jt_goto (tgt := 37) C dX0_find_124 (by decide) ?_
      cases h
      exact jt_sub [2, 3, 4, 0] rfl (h1 _ rfl _ _ rfl)
set_option maxHeartbeats 4000000 in
set_option maxRecDepth 100000 in
theorem c_X0_find (l : Launch) (k : jm_C) (n : Nat) (r0 : Nat) (r1 : Nat) (v2 : Int32) (r3 : Nat) (M : jm_M) (hr0 : jm_is r0 (3, 0)) (hr1 : jm_is r1 (3, 3)) (hr3 : jm_is r3 (3, 1)) (q1 : Int32) (q2 : jm_M) (h : X0_find n r0 r1 v2 r3 M = some (q1, q2)) : jm_Ci l k yX0_find w_X0_find { frames := 17, cells := 0, slots := 0, locals := 680 } [.ref (jm_ad k r0), .ref (jm_ad k r1), .int v2, .ref (jm_ad k r3)] M q1 q2 := by
  refine jm_entry_i (cc := cX0_find) (nL := 7) (ret := (some .int)) (by decide) rfl (Nat.le_of_ble_eq_true rfl) ?_
  intro X hX C hQ hr
  subst hX
  unfold X0_find at h
  refine jt_aload_n C dX0_find_0 rfl 0 rfl ?_
  refine jt_iconst (v := (0 : Int32)) C dX0_find_1 (by decide) ?_
  refine jt_putI (Tf := TX0) (N := 5) C dX0_find_2 hr0 rfl i_0 tyX0 tyX0_ok nmX0 4 (by decide) rfl m_RX0_32 rfl rfl (by decide +kernel) ?_
  refine jt_aload_n C dX0_find_5 rfl 0 rfl ?_
  refine jt_aload_n C dX0_find_6 rfl 1 rfl ?_
  refine jt_iload_n C dX0_find_7 rfl 2 rfl ?_
  obtain ⟨M1, eM1, h⟩ := jm_bind h
  refine jt_callVv (As := [_, _]) (rest := []) C hr0 rfl dX0_find_8 (c_X0_choose (jx_l X) k n _ _ _ _ hr0 hr1 _ eM1) (k_goodIn (g_RX0_36)) rfl h_X0_choose ⟨rfl, rfl, Nat.le_of_ble_eq_true rfl, Nat.le_of_ble_eq_true rfl⟩ rfl rfl (Nat.le_of_ble_eq_true rfl) ?_
  refine jt_aload_n C dX0_find_11 rfl 0 rfl ?_
  refine jt_getR (Tf := TX0) (N := 5) C dX0_find_12 hr0 rfl i_0 1 (by decide) rfl m_RX0_21 rfl ?_
  refine jt_callVi (As := []) (rest := []) C (jm_f0_1 hr0) rfl dX0_find_15 (c_X3_size (jx_l X) k _ _ (jm_f0_1 hr0) _ rfl) (k_goodIn (g_RX0_40)) rfl h_X3_size ⟨rfl, rfl, Nat.le_of_ble_eq_true rfl, Nat.le_of_ble_eq_true rfl⟩ rfl rfl (Nat.le_of_ble_eq_true rfl) ?_
  refine jt_if_ne (tgt := 23) C dX0_find_18 (by decide) (fun c18 => ?_) (fun c18 => ?_)
  · replace h := jm_iff c18 h
    refine jt_aload_n C dX0_find_23 rfl 0 rfl ?_
    refine jt_getR (Tf := TX0) (N := 5) C dX0_find_24 hr0 rfl i_0 1 (by decide) rfl m_RX0_21 rfl ?_
    refine jt_callVi (As := []) (rest := []) C (jm_f0_1 hr0) rfl dX0_find_27 (c_X3_h (jx_l X) k _ _ (jm_f0_1 hr0) _ rfl) (k_goodIn (g_RX0_43)) rfl h_X3_h ⟨rfl, rfl, Nat.le_of_ble_eq_true rfl, Nat.le_of_ble_eq_true rfl⟩ rfl rfl (Nat.le_of_ble_eq_true rfl) ?_
    refine jt_iconst (v := (1 : Int32)) C dX0_find_30 (by decide) ?_
    refine jt_isub C dX0_find_31 ?_
    refine jt_istore (lv' := [(4, _), (0, _), (1, _), (2, _), (3, _)]) C dX0_find_32 (by decide) rfl ?_
    refine jt_iconst (v := (0 : Int32)) C dX0_find_34 (by decide) ?_
    refine jt_istore (lv' := [(5, _), (4, _), (0, _), (1, _), (2, _), (3, _)]) C dX0_find_35 (by decide) rfl ?_
    obtain ⟨q8, eq8, h⟩ := jm_bind h
    refine jt_sub [2, 5, 1, 0] rfl ?_
    refine t_X0_find_L37 C n _ _ _ hr0 hr3 n _ _ eq8 ?_ _ _ rfl
    refine jt_aload_n C dX0_find_127 rfl 0 rfl ?_
    refine jt_getI (Tf := TX0) (N := 5) C dX0_find_128 hr0 rfl i_0 4 (by decide) rfl m_RX0_32 rfl ?_
    cases h
    exact jt_iret C dX0_find_131 hQ hr
  · replace h := jm_ift c18 h
    refine jt_iconst (v := (0 : Int32)) C dX0_find_21 (by decide) ?_
    cases h
    exact jt_iret C dX0_find_22 hQ hr
theorem h_X3_everyCard : yX3_everyCard.cls = RX3 ∧ yX3_everyCard.cls ≠ "java/lang/invoke/MethodHandle" ∧ yX3_everyCard.cls ≠ "java/lang/invoke/VarHandle" ∧ (parseMethodDescriptor yX3_everyCard.desc).map (fun d => d.parameters.length) = some 0 := by decide +kernel
set_option maxHeartbeats 4000000 in
set_option maxRecDepth 100000 in
theorem c_X3_everyCard (l : Launch) (k : jm_C) (r0 : Nat) (M : jm_M) (hr0 : jm_is r0 (3, 3)) (q : Int32) (h : X3_everyCard r0 M = q) : jm_Ci l k yX3_everyCard w_X3_everyCard { frames := 0, cells := 0, slots := 0, locals := 0 } [.ref (jm_ad k r0)] M q M := by
  refine jm_entry_i (cc := cX3_everyCard) (nL := 1) (ret := (some .int)) (by decide) rfl (Nat.le_of_ble_eq_true rfl) ?_
  intro X hX C hQ hr
  subst hX
  unfold X3_everyCard at h
  refine jt_iconst (v := (1 : Int32)) C dX3_everyCard_0 (by decide) ?_
  refine jt_aload_n C dX3_everyCard_1 rfl 0 rfl ?_
  refine jt_getI (Tf := TX3) (N := 3) C dX3_everyCard_2 hr0 rfl i_3 2 (by decide) rfl m_RX3_19 rfl ?_
  refine jt_ishl C dX3_everyCard_5 ?_
  refine jt_iconst (v := (1 : Int32)) C dX3_everyCard_6 (by decide) ?_
  refine jt_isub C dX3_everyCard_7 ?_
  subst h
  exact jt_iret C dX3_everyCard_8 hQ hr
theorem h_X8_answersWithout : yX8_answersWithout.cls = RX8 ∧ yX8_answersWithout.cls ≠ "java/lang/invoke/MethodHandle" ∧ yX8_answersWithout.cls ≠ "java/lang/invoke/VarHandle" ∧ (parseMethodDescriptor yX8_answersWithout.desc).map (fun d => d.parameters.length) = some 1 := by decide +kernel
set_option maxHeartbeats 4000000 in
set_option maxRecDepth 100000 in
theorem c_X8_answersWithout (l : Launch) (k : jm_C) (n : Nat) (r0 : Nat) (v1 : Int32) (M : jm_M) (hr0 : jm_is r0 (3, 7)) (q1 : Int32) (q2 : jm_M) (h : X8_answersWithout n r0 v1 M = some (q1, q2)) : jm_Ci l k yX8_answersWithout w_X8_answersWithout { frames := 18, cells := 0, slots := 0, locals := 720 } [.ref (jm_ad k r0), .int v1] M q1 q2 := by
  refine jm_entry_i (cc := cX8_answersWithout) (nL := 2) (ret := (some .int)) (by decide) rfl (Nat.le_of_ble_eq_true rfl) ?_
  intro X hX C hQ hr
  subst hX
  unfold X8_answersWithout at h
  refine jt_aload_n C dX8_answersWithout_0 rfl 0 rfl ?_
  refine jt_getR (Tf := TX8) (N := 8) C dX8_answersWithout_1 hr0 rfl i_8 1 (by decide) rfl m_RX8_19 rfl ?_
  refine jt_callVi (As := []) (rest := []) C (jm_f7_1 hr0) rfl dX8_answersWithout_4 (c_X3_size (jx_l X) k _ _ (jm_f7_1 hr0) _ rfl) (k_goodIn (g_RX8_150)) rfl h_X3_size ⟨rfl, rfl, Nat.le_of_ble_eq_true rfl, Nat.le_of_ble_eq_true rfl⟩ rfl rfl (Nat.le_of_ble_eq_true rfl) ?_
  refine jt_iconst (v := (1 : Int32)) C dX8_answersWithout_7 (by decide) ?_
  refine jt_icmp_ne (tgt := 14) C dX8_answersWithout_8 (by decide) (fun c8 => ?_) (fun c8 => ?_)
  · replace h := jm_iff c8 h
    refine jt_aload_n C dX8_answersWithout_14 rfl 0 rfl ?_
    refine jt_getR (Tf := TX8) (N := 8) C dX8_answersWithout_15 hr0 rfl i_8 6 (by decide) rfl m_RX8_54 rfl ?_
    refine jt_aload_n C dX8_answersWithout_18 rfl 0 rfl ?_
    refine jt_getR (Tf := TX8) (N := 8) C dX8_answersWithout_19 hr0 rfl i_8 1 (by decide) rfl m_RX8_19 rfl ?_
    refine jt_aload_n C dX8_answersWithout_22 rfl 0 rfl ?_
    refine jt_getR (Tf := TX8) (N := 8) C dX8_answersWithout_23 hr0 rfl i_8 1 (by decide) rfl m_RX8_19 rfl ?_
    refine jt_callVi (As := []) (rest := [_, _]) C (jm_f7_1 hr0) rfl dX8_answersWithout_26 (c_X3_everyCard (jx_l X) k _ _ (jm_f7_1 hr0) _ rfl) (k_goodIn (g_RX8_198)) rfl h_X3_everyCard ⟨rfl, rfl, Nat.le_of_ble_eq_true rfl, Nat.le_of_ble_eq_true rfl⟩ rfl rfl (Nat.le_of_ble_eq_true rfl) ?_
    refine jt_iconst (v := (1 : Int32)) C dX8_answersWithout_29 (by decide) ?_
    refine jt_iload_n C dX8_answersWithout_30 rfl 1 rfl ?_
    refine jt_ishl C dX8_answersWithout_31 ?_
    refine jt_iconst (v := (-1 : Int32)) C dX8_answersWithout_32 (by decide) ?_
    refine jt_ixor C dX8_answersWithout_33 ?_
    refine jt_iand C dX8_answersWithout_34 ?_
    refine jt_aload_n C dX8_answersWithout_35 rfl 0 rfl ?_
    refine jt_getR (Tf := TX8) (N := 8) C dX8_answersWithout_36 hr0 rfl i_8 3 (by decide) rfl m_RX8_33 rfl ?_
    obtain ⟨⟨x1a, x1b⟩, ex1, h⟩ := jm_bind h
    try dsimp only at h
    refine jt_callVi (As := [_, _, _]) (rest := []) C (jm_f7_6 hr0) rfl dX8_answersWithout_39 (c_X0_find (jx_l X) k n _ _ _ _ _ (jm_f7_6 hr0) (jm_f7_1 hr0) (jm_f7_3 hr0) _ _ ex1) (k_goodIn (g_RX8_201)) rfl h_X0_find ⟨rfl, rfl, Nat.le_of_ble_eq_true rfl, Nat.le_of_ble_eq_true rfl⟩ rfl rfl (Nat.le_of_ble_eq_true rfl) ?_
    cases h
    exact jt_iret C dX8_answersWithout_42 hQ hr
  · replace h := jm_ift c8 h
    refine jt_bipush (v := (-9 : Int32)) C dX8_answersWithout_11 (by decide) ?_
    cases h
    exact jt_iret C dX8_answersWithout_13 hQ hr
theorem h_X8_card : yX8_card.cls = RX8 ∧ yX8_card.cls ≠ "java/lang/invoke/MethodHandle" ∧ yX8_card.cls ≠ "java/lang/invoke/VarHandle" ∧ (parseMethodDescriptor yX8_card.desc).map (fun d => d.parameters.length) = some 2 := by decide +kernel
set_option maxHeartbeats 4000000 in
set_option maxRecDepth 100000 in
theorem c_X8_card (l : Launch) (k : jm_C) (n : Nat) (r0 : Nat) (v1 : Int32) (v2 : Int32) (M : jm_M) (hr0 : jm_is r0 (3, 7)) (q1 : Int32) (q2 : jm_M) (h : X8_card n r0 v1 v2 M = some (q1, q2)) : jm_Ci l k yX8_card w_X8_card { frames := 19, cells := 0, slots := 0, locals := 760 } [.ref (jm_ad k r0), .int v1, .int v2] M q1 q2 := by
  refine jm_entry_i (cc := cX8_card) (nL := 3) (ret := (some .int)) (by decide) rfl (Nat.le_of_ble_eq_true rfl) ?_
  intro X hX C hQ hr
  subst hX
  unfold X8_card at h
  refine jt_aload_n C dX8_card_0 rfl 0 rfl ?_
  refine jt_getR (Tf := TX8) (N := 8) C dX8_card_1 hr0 rfl i_8 1 (by decide) rfl m_RX8_19 rfl ?_
  refine jt_iload_n C dX8_card_4 rfl 1 rfl ?_
  refine jt_callVi (As := [_]) (rest := []) C (jm_f7_1 hr0) rfl dX8_card_5 (c_X3_has (jx_l X) k _ _ _ (jm_f7_1 hr0) _ rfl) (k_goodIn (g_RX8_168)) rfl h_X3_has ⟨rfl, rfl, Nat.le_of_ble_eq_true rfl, Nat.le_of_ble_eq_true rfl⟩ rfl rfl (Nat.le_of_ble_eq_true rfl) ?_
  refine jt_if_ne (tgt := 13) C dX8_card_8 (by decide) (fun c8 => ?_) (fun c8 => ?_)
  · replace h := jm_iff c8 h
    refine jt_iload_n C dX8_card_13 rfl 2 rfl ?_
    by_cases c14_0 : v2 = (0 : Int32)
    · replace h := jm_ift c14_0 h
      refine jt_tblIn (v := 0) (tgt := 48) C dX8_card_14 c14_0 (by decide) (by decide) rfl (by decide) ?_
      refine jt_aload_n C dX8_card_48 rfl 0 rfl ?_
      refine jt_getR (Tf := TX8) (N := 8) C dX8_card_49 hr0 rfl i_8 1 (by decide) rfl m_RX8_19 rfl ?_
      refine jt_iload_n C dX8_card_52 rfl 1 rfl ?_
      obtain ⟨x1, ex1, h⟩ := jm_bind h
      refine jt_callVi (As := [_]) (rest := []) C (jm_f7_1 hr0) rfl dX8_card_53 (c_X3_codeAt (jx_l X) k _ _ _ (jm_f7_1 hr0) _ ex1) (k_goodIn (g_RX8_172)) rfl h_X3_codeAt ⟨rfl, rfl, Nat.le_of_ble_eq_true rfl, Nat.le_of_ble_eq_true rfl⟩ rfl rfl (Nat.le_of_ble_eq_true rfl) ?_
      cases h
      exact jt_iret C dX8_card_56 hQ hr
    replace h := jm_iff c14_0 h
    by_cases c14_1 : v2 = (1 : Int32)
    · replace h := jm_ift c14_1 h
      refine jt_tblIn (v := 1) (tgt := 57) C dX8_card_14 c14_1 (by decide) (by decide) rfl (by decide) ?_
      refine jt_aload_n C dX8_card_57 rfl 0 rfl ?_
      refine jt_getR (Tf := TX8) (N := 8) C dX8_card_58 hr0 rfl i_8 1 (by decide) rfl m_RX8_19 rfl ?_
      refine jt_iload_n C dX8_card_61 rfl 1 rfl ?_
      obtain ⟨x2, ex2, h⟩ := jm_bind h
      refine jt_callVi (As := [_]) (rest := []) C (jm_f7_1 hr0) rfl dX8_card_62 (c_X3_codeAt (jx_l X) k _ _ _ (jm_f7_1 hr0) _ ex2) (k_goodIn (g_RX8_172)) rfl h_X3_codeAt ⟨rfl, rfl, Nat.le_of_ble_eq_true rfl, Nat.le_of_ble_eq_true rfl⟩ rfl rfl (Nat.le_of_ble_eq_true rfl) ?_
      refine jt_callSi (As := [_]) (rest := []) C dX8_card_65 (c_J6_bitCount_0f7a4 (jx_l X) k _ _ _ rfl) (k_goodIn (g_RX8_175)) rfl h_J6_bitCount_0f7a4 ⟨rfl, rfl, Nat.le_of_ble_eq_true rfl, Nat.le_of_ble_eq_true rfl⟩ rfl rfl (Nat.le_of_ble_eq_true rfl) ?_
      cases h
      exact jt_iret C dX8_card_68 hQ hr
    replace h := jm_iff c14_1 h
    by_cases c14_2 : v2 = (2 : Int32)
    · replace h := jm_ift c14_2 h
      refine jt_tblIn (v := 2) (tgt := 69) C dX8_card_14 c14_2 (by decide) (by decide) rfl (by decide) ?_
      refine jt_aload_n C dX8_card_69 rfl 0 rfl ?_
      refine jt_getR (Tf := TX8) (N := 8) C dX8_card_70 hr0 rfl i_8 1 (by decide) rfl m_RX8_19 rfl ?_
      refine jt_aload_n C dX8_card_73 rfl 0 rfl ?_
      refine jt_getR (Tf := TX8) (N := 8) C dX8_card_74 hr0 rfl i_8 1 (by decide) rfl m_RX8_19 rfl ?_
      refine jt_iload_n C dX8_card_77 rfl 1 rfl ?_
      obtain ⟨x3, ex3, h⟩ := jm_bind h
      refine jt_callVi (As := [_]) (rest := [_]) C (jm_f7_1 hr0) rfl dX8_card_78 (c_X3_codeAt (jx_l X) k _ _ _ (jm_f7_1 hr0) _ ex3) (k_goodIn (g_RX8_172)) rfl h_X3_codeAt ⟨rfl, rfl, Nat.le_of_ble_eq_true rfl, Nat.le_of_ble_eq_true rfl⟩ rfl rfl (Nat.le_of_ble_eq_true rfl) ?_
      obtain ⟨x4, ex4, h⟩ := jm_bind h
      refine jt_callVi (As := [_]) (rest := []) C (jm_f7_1 hr0) rfl dX8_card_81 (c_X3_howOften (jx_l X) k n _ _ _ (jm_f7_1 hr0) _ ex4) (k_goodIn (g_RX8_180)) rfl h_X3_howOften ⟨rfl, rfl, Nat.le_of_ble_eq_true rfl, Nat.le_of_ble_eq_true rfl⟩ rfl rfl (Nat.le_of_ble_eq_true rfl) ?_
      cases h
      exact jt_iret C dX8_card_84 hQ hr
    replace h := jm_iff c14_2 h
    by_cases c14_3 : v2 = (3 : Int32)
    · replace h := jm_ift c14_3 h
      refine jt_tblIn (v := 3) (tgt := 85) C dX8_card_14 c14_3 (by decide) (by decide) rfl (by decide) ?_
      refine jt_aload_n C dX8_card_85 rfl 0 rfl ?_
      refine jt_getR (Tf := TX8) (N := 8) C dX8_card_86 hr0 rfl i_8 5 (by decide) rfl m_RX8_47 rfl ?_
      refine jt_aload_n C dX8_card_89 rfl 0 rfl ?_
      refine jt_getR (Tf := TX8) (N := 8) C dX8_card_90 hr0 rfl i_8 1 (by decide) rfl m_RX8_19 rfl ?_
      refine jt_iload_n C dX8_card_93 rfl 1 rfl ?_
      obtain ⟨⟨x5a, x5b⟩, ex5, h⟩ := jm_bind h
      try dsimp only at h
      refine jt_callVi (As := [_, _]) (rest := []) C (jm_f7_5 hr0) rfl dX8_card_94 (c_X2_degree (jx_l X) k n _ _ _ _ (jm_f7_5 hr0) (jm_f7_1 hr0) _ _ ex5) (k_goodIn (g_RX8_183)) rfl h_X2_degree ⟨rfl, rfl, Nat.le_of_ble_eq_true rfl, Nat.le_of_ble_eq_true rfl⟩ rfl rfl (Nat.le_of_ble_eq_true rfl) ?_
      cases h
      exact jt_iret C dX8_card_97 hQ hr
    replace h := jm_iff c14_3 h
    by_cases c14_4 : v2 = (4 : Int32)
    · replace h := jm_ift c14_4 h
      refine jt_tblIn (v := 4) (tgt := 98) C dX8_card_14 c14_4 (by decide) (by decide) rfl (by decide) ?_
      refine jt_aload_n C dX8_card_98 rfl 0 rfl ?_
      refine jt_iload_n C dX8_card_99 rfl 1 rfl ?_
      obtain ⟨⟨x6a, x6b⟩, ex6, h⟩ := jm_bind h
      try dsimp only at h
      refine jt_callVi (As := [_]) (rest := []) C hr0 rfl dX8_card_100 (c_X8_answersWithout (jx_l X) k n _ _ _ hr0 _ _ ex6) (k_goodIn (g_RX8_186)) rfl h_X8_answersWithout ⟨rfl, rfl, Nat.le_of_ble_eq_true rfl, Nat.le_of_ble_eq_true rfl⟩ rfl rfl (Nat.le_of_ble_eq_true rfl) ?_
      cases h
      exact jt_iret C dX8_card_103 hQ hr
    replace h := jm_iff c14_4 h
    refine jt_tblOut (tgt := 104) C dX8_card_14 (by have a0 := jm_nei 0 c14_0; simp at a0; have a1 := jm_nei 1 c14_1; simp at a1; have a2 := jm_nei 2 c14_2; simp at a2; have a3 := jm_nei 3 c14_3; simp at a3; have a4 := jm_nei 4 c14_4; simp at a4; omega) (by decide) ?_
    refine jt_iconst (v := (-1 : Int32)) C dX8_card_104 (by decide) ?_
    cases h
    exact jt_iret C dX8_card_105 hQ hr
  · replace h := jm_ift c8 h
    refine jt_iconst (v := (-1 : Int32)) C dX8_card_11 (by decide) ?_
    cases h
    exact jt_iret C dX8_card_12 hQ hr
theorem h_X2_areInRange : yX2_areInRange.cls = RX2 ∧ yX2_areInRange.cls ≠ "java/lang/invoke/MethodHandle" ∧ yX2_areInRange.cls ≠ "java/lang/invoke/VarHandle" ∧ (parseMethodDescriptor yX2_areInRange.desc).map (fun d => d.parameters.length) = some 1 := by decide +kernel
set_option maxHeartbeats 4000000 in
set_option maxRecDepth 100000 in
theorem t_X2_areInRange_L2 {X : jm_X} {k : jm_C} (C : jm_Cx X k cX2_areInRange 3 RX2 w_X2_areInRange) (r0 : Nat) (v1 : Int32) (M : jm_M) (hr0 : jm_is r0 (3, 2)) : ∀ (m : Nat) (s : Int32) (r : (Int32) ⊕ (Unit)), jm_loop (X2_areInRange_B2 r0 v1 M) m s = some r → (match r with | .inl z => ∀ (pc1 : Nat) (lv1 : List (Nat × Value)), (decode cX2_areInRange pc1 = .ok (.ireturn, 1) ∧ (z = 0 ∨ z = 1)) → jm_T X { frames := 0, cells := 0, slots := 0, locals := 0 } k 3 M pc1 lv1 [.int z] | .inr w => jm_T X { frames := 0, cells := 0, slots := 0, locals := 0 } k 3 M 42 [] []) → jm_T X { frames := 0, cells := 0, slots := 0, locals := 0 } k 3 M 2 [(0, .ref (jm_ad k r0)), (1, .int v1), (2, .int s)] [] := by
  refine jm_loop_ind (P := fun (s : Int32) => jm_T X { frames := 0, cells := 0, slots := 0, locals := 0 } k 3 M 2 [(0, .ref (jm_ad k r0)), (1, .int v1), (2, .int s)] []) (K := fun (r : (Int32) ⊕ (Unit)) => match r with | .inl z => ∀ (pc1 : Nat) (lv1 : List (Nat × Value)), (decode cX2_areInRange pc1 = .ok (.ireturn, 1) ∧ (z = 0 ∨ z = 1)) → jm_T X { frames := 0, cells := 0, slots := 0, locals := 0 } k 3 M pc1 lv1 [.int z] | .inr w => jm_T X { frames := 0, cells := 0, slots := 0, locals := 0 } k 3 M 42 [] []) ?_
  intro s q h h1 h2
  unfold X2_areInRange_B2 at h
  try dsimp only at h
  refine jt_iload_n C dX2_areInRange_2 rfl 2 rfl ?_
  refine jt_iload_n C dX2_areInRange_3 rfl 1 rfl ?_
  refine jt_icmp_ge (tgt := 42) C dX2_areInRange_4 (by decide) (fun c4 => ?_) (fun c4 => ?_)
  · replace h := jm_ift c4 h
    cases h
    exact jt_sub [] rfl (h2 _ rfl)
  · replace h := jm_iff c4 h
    refine jt_iload_n C dX2_areInRange_7 rfl 2 rfl ?_
    refine jt_bipush (v := (6 : Int32)) C dX2_areInRange_8 (by decide) ?_
    refine jt_icmp_ge (tgt := 42) C dX2_areInRange_10 (by decide) (fun c10 => ?_) (fun c10 => ?_)
    · replace h := jm_ift c10 h
      cases h
      exact jt_sub [] rfl (h2 _ rfl)
    · replace h := jm_iff c10 h
      refine jt_aload_n C dX2_areInRange_13 rfl 0 rfl ?_
      refine jt_getR (Tf := TX2) (N := 2) C dX2_areInRange_14 hr0 rfl i_2 1 (by decide) rfl m_RX2_18 rfl ?_
      refine jt_iload_n C dX2_areInRange_17 rfl 2 rfl ?_
      obtain ⟨x1, ex1, h⟩ := jm_bind h
      refine jt_iald C dX2_areInRange_18 (jm_f2_1 hr0) ex1 ?_
      refine jt_if_lt (tgt := 34) C dX2_areInRange_19 (by decide) (fun c19 => ?_) (fun c19 => ?_)
      · replace h := jm_ift c19 h
        refine jt_iconst (v := (0 : Int32)) C dX2_areInRange_34 (by decide) ?_
        cases h
        exact h2 _ rfl _ _ ⟨dX2_areInRange_35, (Or.inl rfl)⟩
      · replace h := jm_iff c19 h
        refine jt_aload_n C dX2_areInRange_22 rfl 0 rfl ?_
        refine jt_getR (Tf := TX2) (N := 2) C dX2_areInRange_23 hr0 rfl i_2 1 (by decide) rfl m_RX2_18 rfl ?_
        refine jt_iload_n C dX2_areInRange_26 rfl 2 rfl ?_
        obtain ⟨x2, ex2, h⟩ := jm_bind h
        refine jt_iald C dX2_areInRange_27 (jm_f2_1 hr0) ex2 ?_
        refine jt_iload_n C dX2_areInRange_28 rfl 1 rfl ?_
        refine jt_iconst (v := (1 : Int32)) C dX2_areInRange_29 (by decide) ?_
        refine jt_isub C dX2_areInRange_30 ?_
        refine jt_icmp_le (tgt := 36) C dX2_areInRange_31 (by decide) (fun c31 => ?_) (fun c31 => ?_)
        · replace h := jm_ift c31 h
          refine jt_iinc (v := (1 : Int32)) (lv' := [(2, _), (0, _), (1, _)]) C dX2_areInRange_36 2 rfl (by decide) (by decide) rfl ?_
          refine jt_goto (tgt := 2) C dX2_areInRange_39 (by decide) ?_
          cases h
          exact jt_sub [1, 2, 0] rfl (h1 _ rfl)
        · replace h := jm_iff c31 h
          refine jt_iconst (v := (0 : Int32)) C dX2_areInRange_34 (by decide) ?_
          cases h
          exact h2 _ rfl _ _ ⟨dX2_areInRange_35, (Or.inl rfl)⟩
set_option maxHeartbeats 4000000 in
set_option maxRecDepth 100000 in
theorem c_X2_areInRange (l : Launch) (k : jm_C) (n : Nat) (r0 : Nat) (v1 : Int32) (M : jm_M) (hr0 : jm_is r0 (3, 2)) (q : Int32) (h : X2_areInRange n r0 v1 M = some q) : jm_Ci l k yX2_areInRange w_X2_areInRange { frames := 0, cells := 0, slots := 0, locals := 0 } [.ref (jm_ad k r0), .int v1] M q M := by
  refine jm_entry_i (cc := cX2_areInRange) (nL := 3) (ret := (some .boolean)) (by decide) rfl (Nat.le_of_ble_eq_true rfl) ?_
  intro X hX C hQ hr
  subst hX
  unfold X2_areInRange at h
  refine jt_iconst (v := (0 : Int32)) C dX2_areInRange_0 (by decide) ?_
  refine jt_istore_n (lv' := [(2, _), (0, _), (1, _)]) C dX2_areInRange_1 rfl (by decide) rfl ?_
  obtain ⟨q3, eq3, h⟩ := jm_bind h
  refine jt_sub [1, 2, 0] rfl ?_
  refine t_X2_areInRange_L2 C _ _ _ hr0 n _ _ eq3 ?_
  rcases q3 with z4 | w5
  · replace h := jm_inl h
    intro pc1 lv1 hp1
    cases h
    exact jt_zret C hp1.1 hQ hr hp1.2
  · replace h := jm_inr h
    show jm_T _ _ _ _ _ _ _ _
    refine jt_iconst (v := (1 : Int32)) C dX2_areInRange_42 (by decide) ?_
    cases h
    exact jt_zret C dX2_areInRange_43 hQ hr (Or.inr rfl)
theorem h_X2_hasGraph : yX2_hasGraph.cls = RX2 ∧ yX2_hasGraph.cls ≠ "java/lang/invoke/MethodHandle" ∧ yX2_hasGraph.cls ≠ "java/lang/invoke/VarHandle" ∧ (parseMethodDescriptor yX2_hasGraph.desc).map (fun d => d.parameters.length) = some 1 := by decide +kernel
set_option maxHeartbeats 4000000 in
set_option maxRecDepth 100000 in
theorem t_X2_hasGraph_L36 {X : jm_X} {k : jm_C} (C : jm_Cx X k cX2_hasGraph 6 RX2 w_X2_hasGraph) (r0 : Nat) (v1 : Int32) (v2 : Int32) (v3 : Int32) (M : jm_M) (hr0 : jm_is r0 (3, 2)) : ∀ (m : Nat) (s : Int32 × Int32) (r : Int32), jm_loop (X2_hasGraph_B36 r0 v1 v2 v3 M) m s = some r → jm_T X { frames := 1, cells := 0, slots := 0, locals := 40 } k 6 M 71 [(0, .ref (jm_ad k r0)), (1, .int v1), (2, .int v2), (3, .int v3), (4, .int r)] [] → (∀ (b0 : Int32) (b1 : Int32), s = (b0, b1) → jm_T X { frames := 1, cells := 0, slots := 0, locals := 40 } k 6 M 36 [(0, .ref (jm_ad k r0)), (1, .int v1), (2, .int v2), (3, .int v3), (4, .int b0), (5, .int b1)] []) := by
  refine jm_loop_ind (P := fun (s : Int32 × Int32) => (∀ (b0 : Int32) (b1 : Int32), s = (b0, b1) → jm_T X { frames := 1, cells := 0, slots := 0, locals := 40 } k 6 M 36 [(0, .ref (jm_ad k r0)), (1, .int v1), (2, .int v2), (3, .int v3), (4, .int b0), (5, .int b1)] [])) (K := fun (r : Int32) => jm_T X { frames := 1, cells := 0, slots := 0, locals := 40 } k 6 M 71 [(0, .ref (jm_ad k r0)), (1, .int v1), (2, .int v2), (3, .int v3), (4, .int r)] []) ?_
  intro s q h h1 h2
  intro b0 b1 hs
  subst hs
  unfold X2_hasGraph_B36 at h
  try dsimp only at h
  refine jt_iload C dX2_hasGraph_36 5 rfl ?_
  refine jt_iload_n C dX2_hasGraph_38 rfl 1 rfl ?_
  refine jt_icmp_ge (tgt := 71) C dX2_hasGraph_39 (by decide) (fun c39 => ?_) (fun c39 => ?_)
  · replace h := jm_ift c39 h
    cases h
    exact jt_sub [0, 1, 2, 3, 4] rfl (h2 _ rfl)
  · replace h := jm_iff c39 h
    refine jt_iload C dX2_hasGraph_42 5 rfl ?_
    refine jt_bipush (v := (6 : Int32)) C dX2_hasGraph_44 (by decide) ?_
    refine jt_icmp_ge (tgt := 71) C dX2_hasGraph_46 (by decide) (fun c46 => ?_) (fun c46 => ?_)
    · replace h := jm_ift c46 h
      cases h
      exact jt_sub [0, 1, 2, 3, 4] rfl (h2 _ rfl)
    · replace h := jm_iff c46 h
      refine jt_iload C dX2_hasGraph_49 4 rfl ?_
      refine jt_aload_n C dX2_hasGraph_51 rfl 0 rfl ?_
      refine jt_getR (Tf := TX2) (N := 2) C dX2_hasGraph_52 hr0 rfl i_2 1 (by decide) rfl m_RX2_18 rfl ?_
      refine jt_iload C dX2_hasGraph_55 5 rfl ?_
      obtain ⟨x2, ex2, h⟩ := jm_bind h
      refine jt_iald C dX2_hasGraph_57 (jm_f2_1 hr0) ex2 ?_
      refine jt_iload_n C dX2_hasGraph_58 rfl 3 rfl ?_
      refine jt_mmin C dX2_hasGraph_59 (List.mem_cons_of_mem _ k_ml_RX2_75) (List.mem_cons_of_mem _ k_st_Lib_Math_min_name) (List.mem_cons_of_mem _ k_ini_java_lang_Math) (List.mem_cons_of_mem _ k_code_min) (Nat.le_of_ble_eq_true rfl) (Nat.le_of_ble_eq_true rfl) ?_
      refine jt_iadd C dX2_hasGraph_62 ?_
      refine jt_istore (lv' := [(4, _), (0, _), (1, _), (2, _), (3, _), (5, _)]) C dX2_hasGraph_63 (by decide) rfl ?_
      refine jt_iinc (v := (1 : Int32)) (lv' := [(5, _), (4, _), (0, _), (1, _), (2, _), (3, _)]) C dX2_hasGraph_65 5 rfl (by decide) (by decide) rfl ?_
      refine jt_goto (tgt := 36) C dX2_hasGraph_68 (by decide) ?_
      cases h
      exact jt_sub [2, 3, 4, 5, 1, 0] rfl (h1 _ rfl _ _ rfl)
set_option maxHeartbeats 4000000 in
set_option maxRecDepth 100000 in
theorem t_X2_hasGraph_L4 {X : jm_X} {k : jm_C} (C : jm_Cx X k cX2_hasGraph 6 RX2 w_X2_hasGraph) (n : Nat) (r0 : Nat) (v1 : Int32) (M : jm_M) (hr0 : jm_is r0 (3, 2)) : ∀ (m : Nat) (s : Int32 × Int32) (r : (Int32) ⊕ (Unit)), jm_loop (X2_hasGraph_B4 n r0 v1 M) m s = some r → (match r with | .inl z => ∀ (pc1 : Nat) (lv1 : List (Nat × Value)), (decode cX2_hasGraph pc1 = .ok (.ireturn, 1) ∧ (z = 0 ∨ z = 1)) → jm_T X { frames := 1, cells := 0, slots := 0, locals := 40 } k 6 M pc1 lv1 [.int z] | .inr w => jm_T X { frames := 1, cells := 0, slots := 0, locals := 40 } k 6 M 85 [] []) → (∀ (b0 : Int32) (b1 : Int32), s = (b0, b1) → jm_T X { frames := 1, cells := 0, slots := 0, locals := 40 } k 6 M 4 [(0, .ref (jm_ad k r0)), (1, .int v1), (2, .int b0), (3, .int b1)] []) := by
  refine jm_loop_ind (P := fun (s : Int32 × Int32) => (∀ (b0 : Int32) (b1 : Int32), s = (b0, b1) → jm_T X { frames := 1, cells := 0, slots := 0, locals := 40 } k 6 M 4 [(0, .ref (jm_ad k r0)), (1, .int v1), (2, .int b0), (3, .int b1)] [])) (K := fun (r : (Int32) ⊕ (Unit)) => match r with | .inl z => ∀ (pc1 : Nat) (lv1 : List (Nat × Value)), (decode cX2_hasGraph pc1 = .ok (.ireturn, 1) ∧ (z = 0 ∨ z = 1)) → jm_T X { frames := 1, cells := 0, slots := 0, locals := 40 } k 6 M pc1 lv1 [.int z] | .inr w => jm_T X { frames := 1, cells := 0, slots := 0, locals := 40 } k 6 M 85 [] []) ?_
  intro s q h h1 h2
  intro b0 b1 hs
  subst hs
  unfold X2_hasGraph_B4 at h
  try dsimp only at h
  refine jt_iload_n C dX2_hasGraph_4 rfl 3 rfl ?_
  refine jt_iload_n C dX2_hasGraph_5 rfl 1 rfl ?_
  refine jt_icmp_gt (tgt := 85) C dX2_hasGraph_6 (by decide) (fun c6 => ?_) (fun c6 => ?_)
  · replace h := jm_ift c6 h
    cases h
    exact jt_sub [] rfl (h2 _ rfl)
  · replace h := jm_iff c6 h
    refine jt_iload_n C dX2_hasGraph_9 rfl 3 rfl ?_
    refine jt_bipush (v := (6 : Int32)) C dX2_hasGraph_10 (by decide) ?_
    refine jt_icmp_gt (tgt := 85) C dX2_hasGraph_12 (by decide) (fun c12 => ?_) (fun c12 => ?_)
    · replace h := jm_ift c12 h
      cases h
      exact jt_sub [] rfl (h2 _ rfl)
    · replace h := jm_iff c12 h
      refine jt_iload_n C dX2_hasGraph_15 rfl 2 rfl ?_
      refine jt_aload_n C dX2_hasGraph_16 rfl 0 rfl ?_
      refine jt_getR (Tf := TX2) (N := 2) C dX2_hasGraph_17 hr0 rfl i_2 1 (by decide) rfl m_RX2_18 rfl ?_
      refine jt_iload_n C dX2_hasGraph_20 rfl 3 rfl ?_
      refine jt_iconst (v := (1 : Int32)) C dX2_hasGraph_21 (by decide) ?_
      refine jt_isub C dX2_hasGraph_22 ?_
      obtain ⟨x1, ex1, h⟩ := jm_bind h
      refine jt_iald C dX2_hasGraph_23 (jm_f2_1 hr0) ex1 ?_
      refine jt_iadd C dX2_hasGraph_24 ?_
      refine jt_istore_n (lv' := [(2, _), (0, _), (1, _), (3, _)]) C dX2_hasGraph_25 rfl (by decide) rfl ?_
      refine jt_iload_n C dX2_hasGraph_26 rfl 3 rfl ?_
      refine jt_iload_n C dX2_hasGraph_27 rfl 3 rfl ?_
      refine jt_iconst (v := (1 : Int32)) C dX2_hasGraph_28 (by decide) ?_
      refine jt_isub C dX2_hasGraph_29 ?_
      refine jt_imul C dX2_hasGraph_30 ?_
      refine jt_istore (lv' := [(4, _), (2, _), (0, _), (1, _), (3, _)]) C dX2_hasGraph_31 (by decide) rfl ?_
      refine jt_iload_n C dX2_hasGraph_33 rfl 4 rfl ?_
      refine jt_istore (lv' := [(5, _), (4, _), (2, _), (0, _), (1, _), (3, _)]) C dX2_hasGraph_34 (by decide) rfl ?_
      obtain ⟨q3, eq3, h⟩ := jm_bind h
      refine jt_sub [3, 4, 2, 5, 1, 0] rfl ?_
      refine t_X2_hasGraph_L36 C _ _ _ _ _ hr0 n _ _ eq3 ?_ _ _ rfl
      refine jt_iload_n C dX2_hasGraph_71 rfl 2 rfl ?_
      refine jt_iload C dX2_hasGraph_72 4 rfl ?_
      refine jt_icmp_le (tgt := 79) C dX2_hasGraph_74 (by decide) (fun c74 => ?_) (fun c74 => ?_)
      · replace h := jm_ift c74 h
        refine jt_iinc (v := (1 : Int32)) (lv' := [(3, _), (0, _), (1, _), (2, _), (4, _)]) C dX2_hasGraph_79 3 rfl (by decide) (by decide) rfl ?_
        refine jt_goto (tgt := 4) C dX2_hasGraph_82 (by decide) ?_
        cases h
        exact jt_sub [1, 2, 3, 0] rfl (h1 _ rfl _ _ rfl)
      · replace h := jm_iff c74 h
        refine jt_iconst (v := (0 : Int32)) C dX2_hasGraph_77 (by decide) ?_
        cases h
        exact h2 _ rfl _ _ ⟨dX2_hasGraph_78, (Or.inl rfl)⟩
set_option maxHeartbeats 4000000 in
set_option maxRecDepth 100000 in
theorem c_X2_hasGraph (l : Launch) (k : jm_C) (n : Nat) (r0 : Nat) (v1 : Int32) (M : jm_M) (hr0 : jm_is r0 (3, 2)) (q : Int32) (h : X2_hasGraph n r0 v1 M = some q) : jm_Ci l k yX2_hasGraph w_X2_hasGraph { frames := 1, cells := 0, slots := 0, locals := 40 } [.ref (jm_ad k r0), .int v1] M q M := by
  refine jm_entry_i (cc := cX2_hasGraph) (nL := 6) (ret := (some .boolean)) (by decide) rfl (Nat.le_of_ble_eq_true rfl) ?_
  intro X hX C hQ hr
  subst hX
  unfold X2_hasGraph at h
  refine jt_iconst (v := (0 : Int32)) C dX2_hasGraph_0 (by decide) ?_
  refine jt_istore_n (lv' := [(2, _), (0, _), (1, _)]) C dX2_hasGraph_1 rfl (by decide) rfl ?_
  refine jt_iconst (v := (1 : Int32)) C dX2_hasGraph_2 (by decide) ?_
  refine jt_istore_n (lv' := [(3, _), (2, _), (0, _), (1, _)]) C dX2_hasGraph_3 rfl (by decide) rfl ?_
  obtain ⟨q4, eq4, h⟩ := jm_bind h
  refine jt_sub [2, 3, 1, 0] rfl ?_
  refine t_X2_hasGraph_L4 C n _ _ _ hr0 n _ _ eq4 ?_ _ _ rfl
  rcases q4 with z5 | w6
  · replace h := jm_inl h
    intro pc1 lv1 hp1
    cases h
    exact jt_zret C hp1.1 hQ hr hp1.2
  · replace h := jm_inr h
    show jm_T _ _ _ _ _ _ _ _
    refine jt_iconst (v := (1 : Int32)) C dX2_hasGraph_85 (by decide) ?_
    cases h
    exact jt_zret C dX2_hasGraph_86 hQ hr (Or.inr rfl)
theorem h_X2_sortDegrees : yX2_sortDegrees.cls = RX2 ∧ yX2_sortDegrees.cls ≠ "java/lang/invoke/MethodHandle" ∧ yX2_sortDegrees.cls ≠ "java/lang/invoke/VarHandle" ∧ (parseMethodDescriptor yX2_sortDegrees.desc).map (fun d => d.parameters.length) = some 2 := by decide +kernel
set_option maxHeartbeats 4000000 in
set_option maxRecDepth 100000 in
theorem t_X2_sortDegrees_L31 {X : jm_X} {k : jm_C} (C : jm_Cx X k cX2_sortDegrees 6 RX2 w_X2_sortDegrees) (r0 : Nat) (r1 : Nat) (v2 : Int32) (v3 : Int32) (v4 : Int32) (hr0 : jm_is r0 (3, 2)) (hr1 : jm_is r1 (3, 3)) : ∀ (m : Nat) (s : Int32 × jm_M) (r : Int32 × jm_M), jm_loop (X2_sortDegrees_B31 r0 r1 v2 v3 v4) m s = some r → (∀ (b0 : Int32) (b1 : jm_M), r = (b0, b1) → jm_T X { frames := 2, cells := 0, slots := 0, locals := 80 } k 6 b1 72 [(0, .ref (jm_ad k r0)), (1, .ref (jm_ad k r1)), (2, .int v2), (3, .int v3), (4, .int v4), (5, .int b0)] []) → (∀ (b0 : Int32) (b1 : jm_M), s = (b0, b1) → jm_T X { frames := 2, cells := 0, slots := 0, locals := 80 } k 6 b1 31 [(0, .ref (jm_ad k r0)), (1, .ref (jm_ad k r1)), (2, .int v2), (3, .int v3), (4, .int v4), (5, .int b0)] []) := by
  refine jm_loop_ind (P := fun (s : Int32 × jm_M) => (∀ (b0 : Int32) (b1 : jm_M), s = (b0, b1) → jm_T X { frames := 2, cells := 0, slots := 0, locals := 80 } k 6 b1 31 [(0, .ref (jm_ad k r0)), (1, .ref (jm_ad k r1)), (2, .int v2), (3, .int v3), (4, .int v4), (5, .int b0)] [])) (K := fun (r : Int32 × jm_M) => ∀ (b0 : Int32) (b1 : jm_M), r = (b0, b1) → jm_T X { frames := 2, cells := 0, slots := 0, locals := 80 } k 6 b1 72 [(0, .ref (jm_ad k r0)), (1, .ref (jm_ad k r1)), (2, .int v2), (3, .int v3), (4, .int v4), (5, .int b0)] []) ?_
  intro s q h h1 h2
  intro b0 b1 hs
  subst hs
  unfold X2_sortDegrees_B31 at h
  try dsimp only at h
  refine jt_iload C dX2_sortDegrees_31 5 rfl ?_
  refine jt_if_le (tgt := 72) C dX2_sortDegrees_33 (by decide) (fun c33 => ?_) (fun c33 => ?_)
  · replace h := jm_ift c33 h
    cases h
    exact jt_sub [0, 1, 2, 3, 4, 5] rfl (h2 _ rfl _ _ rfl)
  · replace h := jm_iff c33 h
    refine jt_aload_n C dX2_sortDegrees_36 rfl 0 rfl ?_
    refine jt_getR (Tf := TX2) (N := 2) C dX2_sortDegrees_37 hr0 rfl i_2 1 (by decide) rfl m_RX2_18 rfl ?_
    refine jt_iload C dX2_sortDegrees_40 5 rfl ?_
    refine jt_iconst (v := (1 : Int32)) C dX2_sortDegrees_42 (by decide) ?_
    refine jt_isub C dX2_sortDegrees_43 ?_
    obtain ⟨x2, ex2, h⟩ := jm_bind h
    refine jt_iald C dX2_sortDegrees_44 (jm_f2_1 hr0) ex2 ?_
    refine jt_iload C dX2_sortDegrees_45 4 rfl ?_
    refine jt_icmp_ge (tgt := 72) C dX2_sortDegrees_47 (by decide) (fun c47 => ?_) (fun c47 => ?_)
    · replace h := jm_ift c47 h
      cases h
      exact jt_sub [0, 1, 2, 3, 4, 5] rfl (h2 _ rfl _ _ rfl)
    · replace h := jm_iff c47 h
      refine jt_aload_n C dX2_sortDegrees_50 rfl 0 rfl ?_
      refine jt_getR (Tf := TX2) (N := 2) C dX2_sortDegrees_51 hr0 rfl i_2 1 (by decide) rfl m_RX2_18 rfl ?_
      refine jt_iload C dX2_sortDegrees_54 5 rfl ?_
      refine jt_aload_n C dX2_sortDegrees_56 rfl 0 rfl ?_
      refine jt_getR (Tf := TX2) (N := 2) C dX2_sortDegrees_57 hr0 rfl i_2 1 (by decide) rfl m_RX2_18 rfl ?_
      refine jt_iload C dX2_sortDegrees_60 5 rfl ?_
      refine jt_iconst (v := (1 : Int32)) C dX2_sortDegrees_62 (by decide) ?_
      refine jt_isub C dX2_sortDegrees_63 ?_
      obtain ⟨x3, ex3, h⟩ := jm_bind h
      refine jt_iald C dX2_sortDegrees_64 (jm_f2_1 hr0) ex3 ?_
      obtain ⟨M4, eM4, h⟩ := jm_bind h
      refine jt_iast C dX2_sortDegrees_65 (jm_f2_1 hr0) eM4 ?_
      refine jt_iinc (v := (-1 : Int32)) (lv' := [(5, _), (0, _), (1, _), (2, _), (3, _), (4, _)]) C dX2_sortDegrees_66 5 rfl (by decide) (by decide) rfl ?_
      refine jt_goto (tgt := 31) C dX2_sortDegrees_69 (by decide) ?_
      cases h
      exact jt_sub [1, 2, 3, 4, 5, 0] rfl (h1 _ rfl _ _ rfl)
set_option maxHeartbeats 4000000 in
set_option maxRecDepth 100000 in
theorem t_X2_sortDegrees_L2 {X : jm_X} {k : jm_C} (C : jm_Cx X k cX2_sortDegrees 6 RX2 w_X2_sortDegrees) (n : Nat) (r0 : Nat) (r1 : Nat) (v2 : Int32) (hr0 : jm_is r0 (3, 2)) (hr1 : jm_is r1 (3, 3)) : ∀ (m : Nat) (s : Int32 × jm_M) (r : jm_M), jm_loop (X2_sortDegrees_B2 n r0 r1 v2) m s = some r → jm_T X { frames := 2, cells := 0, slots := 0, locals := 80 } k 6 r 87 [] [] → (∀ (b0 : Int32) (b1 : jm_M), s = (b0, b1) → jm_T X { frames := 2, cells := 0, slots := 0, locals := 80 } k 6 b1 2 [(0, .ref (jm_ad k r0)), (1, .ref (jm_ad k r1)), (2, .int v2), (3, .int b0)] []) := by
  refine jm_loop_ind (P := fun (s : Int32 × jm_M) => (∀ (b0 : Int32) (b1 : jm_M), s = (b0, b1) → jm_T X { frames := 2, cells := 0, slots := 0, locals := 80 } k 6 b1 2 [(0, .ref (jm_ad k r0)), (1, .ref (jm_ad k r1)), (2, .int v2), (3, .int b0)] [])) (K := fun (r : jm_M) => jm_T X { frames := 2, cells := 0, slots := 0, locals := 80 } k 6 r 87 [] []) ?_
  intro s q h h1 h2
  intro b0 b1 hs
  subst hs
  unfold X2_sortDegrees_B2 at h
  try dsimp only at h
  refine jt_iload_n C dX2_sortDegrees_2 rfl 3 rfl ?_
  refine jt_aload_n C dX2_sortDegrees_3 rfl 1 rfl ?_
  refine jt_callVi (As := []) (rest := [_]) C hr1 rfl dX2_sortDegrees_4 (c_X3_size (jx_l X) k _ _ hr1 _ rfl) (k_goodIn (g_RX2_37)) rfl h_X3_size ⟨rfl, rfl, Nat.le_of_ble_eq_true rfl, Nat.le_of_ble_eq_true rfl⟩ rfl rfl (Nat.le_of_ble_eq_true rfl) ?_
  refine jt_icmp_ge (tgt := 87) C dX2_sortDegrees_7 (by decide) (fun c7 => ?_) (fun c7 => ?_)
  · replace h := jm_ift c7 h
    cases h
    exact jt_sub [] rfl (h2 _ rfl)
  · replace h := jm_iff c7 h
    refine jt_iload_n C dX2_sortDegrees_10 rfl 3 rfl ?_
    refine jt_bipush (v := (6 : Int32)) C dX2_sortDegrees_11 (by decide) ?_
    refine jt_icmp_ge (tgt := 87) C dX2_sortDegrees_13 (by decide) (fun c13 => ?_) (fun c13 => ?_)
    · replace h := jm_ift c13 h
      cases h
      exact jt_sub [] rfl (h2 _ rfl)
    · replace h := jm_iff c13 h
      refine jt_iload_n C dX2_sortDegrees_16 rfl 2 rfl ?_
      refine jt_aload_n C dX2_sortDegrees_17 rfl 1 rfl ?_
      refine jt_iload_n C dX2_sortDegrees_18 rfl 3 rfl ?_
      obtain ⟨x1, ex1, h⟩ := jm_bind h
      refine jt_callVi (As := [_]) (rest := [_]) C hr1 rfl dX2_sortDegrees_19 (c_X3_codeAt (jx_l X) k _ _ _ hr1 _ ex1) (k_goodIn (g_RX2_40)) rfl h_X3_codeAt ⟨rfl, rfl, Nat.le_of_ble_eq_true rfl, Nat.le_of_ble_eq_true rfl⟩ rfl rfl (Nat.le_of_ble_eq_true rfl) ?_
      refine jt_callSi (As := [_]) (rest := [_]) C dX2_sortDegrees_22 (c_J6_bitCount_0f7a4 (jx_l X) k _ _ _ rfl) (k_goodIn (g_RX2_59)) rfl h_J6_bitCount_0f7a4 ⟨rfl, rfl, Nat.le_of_ble_eq_true rfl, Nat.le_of_ble_eq_true rfl⟩ rfl rfl (Nat.le_of_ble_eq_true rfl) ?_
      refine jt_isub C dX2_sortDegrees_25 ?_
      refine jt_istore (lv' := [(4, _), (0, _), (1, _), (2, _), (3, _)]) C dX2_sortDegrees_26 (by decide) rfl ?_
      refine jt_iload_n C dX2_sortDegrees_28 rfl 4 rfl ?_
      refine jt_istore (lv' := [(5, _), (4, _), (0, _), (1, _), (2, _), (3, _)]) C dX2_sortDegrees_29 (by decide) rfl ?_
      obtain ⟨q5, eq5, h⟩ := jm_bind h
      refine jt_sub [2, 3, 4, 5, 1, 0] rfl ?_
      refine t_X2_sortDegrees_L31 C _ _ _ _ _ hr0 hr1 n _ _ eq5 ?_ _ _ rfl
      intro y6_0 y6_1 hq6
      subst hq6
      try dsimp only at h
      refine jt_aload_n C dX2_sortDegrees_72 rfl 0 rfl ?_
      refine jt_getR (Tf := TX2) (N := 2) C dX2_sortDegrees_73 hr0 rfl i_2 1 (by decide) rfl m_RX2_18 rfl ?_
      refine jt_iload C dX2_sortDegrees_76 5 rfl ?_
      refine jt_iload C dX2_sortDegrees_78 4 rfl ?_
      obtain ⟨M7, eM7, h⟩ := jm_bind h
      refine jt_iast C dX2_sortDegrees_80 (jm_f2_1 hr0) eM7 ?_
      refine jt_iinc (v := (1 : Int32)) (lv' := [(3, _), (0, _), (1, _), (2, _), (4, _), (5, _)]) C dX2_sortDegrees_81 3 rfl (by decide) (by decide) rfl ?_
      refine jt_goto (tgt := 2) C dX2_sortDegrees_84 (by decide) ?_
      cases h
      exact jt_sub [1, 2, 3, 0] rfl (h1 _ rfl _ _ rfl)
set_option maxHeartbeats 4000000 in
set_option maxRecDepth 100000 in
theorem c_X2_sortDegrees (l : Launch) (k : jm_C) (n : Nat) (r0 : Nat) (r1 : Nat) (v2 : Int32) (M : jm_M) (hr0 : jm_is r0 (3, 2)) (hr1 : jm_is r1 (3, 3)) (q : jm_M) (h : X2_sortDegrees n r0 r1 v2 M = some q) : jm_Cv l k yX2_sortDegrees w_X2_sortDegrees { frames := 2, cells := 0, slots := 0, locals := 80 } [.ref (jm_ad k r0), .ref (jm_ad k r1), .int v2] M q := by
  refine jm_entry_v (cc := cX2_sortDegrees) (nL := 6) (ret := none) (by decide) rfl (Nat.le_of_ble_eq_true rfl) ?_
  intro X hX C hQ hr
  subst hX
  unfold X2_sortDegrees at h
  refine jt_iconst (v := (0 : Int32)) C dX2_sortDegrees_0 (by decide) ?_
  refine jt_istore_n (lv' := [(3, _), (0, _), (1, _), (2, _)]) C dX2_sortDegrees_1 rfl (by decide) rfl ?_
  obtain ⟨q8, eq8, h⟩ := jm_bind h
  refine jt_sub [1, 2, 3, 0] rfl ?_
  refine t_X2_sortDegrees_L2 C n _ _ _ hr0 hr1 n _ _ eq8 ?_ _ _ rfl
  cases h
  exact jt_vret C dX2_sortDegrees_87 hQ hr
theorem h_X2_firstFailed : yX2_firstFailed.cls = RX2 ∧ yX2_firstFailed.cls ≠ "java/lang/invoke/MethodHandle" ∧ yX2_firstFailed.cls ≠ "java/lang/invoke/VarHandle" ∧ (parseMethodDescriptor yX2_firstFailed.desc).map (fun d => d.parameters.length) = some 1 := by decide +kernel
set_option maxHeartbeats 4000000 in
set_option maxRecDepth 100000 in
theorem c_X2_firstFailed (l : Launch) (k : jm_C) (n : Nat) (r0 : Nat) (r1 : Nat) (M : jm_M) (hr0 : jm_is r0 (3, 2)) (hr1 : jm_is r1 (3, 3)) (q1 : Int32) (q2 : jm_M) (h : X2_firstFailed n r0 r1 M = some (q1, q2)) : jm_Ci l k yX2_firstFailed w_X2_firstFailed { frames := 7, cells := 0, slots := 0, locals := 280 } [.ref (jm_ad k r0), .ref (jm_ad k r1)] M q1 q2 := by
  refine jm_entry_i (cc := cX2_firstFailed) (nL := 3) (ret := (some .int)) (by decide) rfl (Nat.le_of_ble_eq_true rfl) ?_
  intro X hX C hQ hr
  subst hX
  unfold X2_firstFailed at h
  refine jt_aload_n C dX2_firstFailed_0 rfl 1 rfl ?_
  refine jt_callVi (As := []) (rest := []) C hr1 rfl dX2_firstFailed_1 (c_X3_lost (jx_l X) k _ _ hr1 _ rfl) (k_goodIn (g_RX2_34)) rfl h_X3_lost ⟨rfl, rfl, Nat.le_of_ble_eq_true rfl, Nat.le_of_ble_eq_true rfl⟩ rfl rfl (Nat.le_of_ble_eq_true rfl) ?_
  refine jt_if_eq (tgt := 10) C dX2_firstFailed_4 (by decide) (fun c4 => ?_) (fun c4 => ?_)
  · replace h := jm_ift c4 h
    refine jt_aload_n C dX2_firstFailed_10 rfl 0 rfl ?_
    refine jt_aload_n C dX2_firstFailed_11 rfl 1 rfl ?_
    obtain ⟨⟨x1a, x1b⟩, ex1, h⟩ := jm_bind h
    try dsimp only at h
    refine jt_callVi (As := [_]) (rest := []) C hr0 rfl dX2_firstFailed_12 (c_X2_edges (jx_l X) k n _ _ _ hr0 hr1 _ _ ex1) (k_goodIn (g_RX2_55)) rfl h_X2_edges ⟨rfl, rfl, Nat.le_of_ble_eq_true rfl, Nat.le_of_ble_eq_true rfl⟩ rfl rfl (Nat.le_of_ble_eq_true rfl) ?_
    refine jt_istore_n (lv' := [(2, _), (0, _), (1, _)]) C dX2_firstFailed_15 rfl (by decide) rfl ?_
    refine jt_iload_n C dX2_firstFailed_16 rfl 0 rfl ?_
    refine jt_bipush (v := (-9 : Int32)) C dX2_firstFailed_17 (by decide) ?_
    refine jt_icmp_ne (tgt := 24) C dX2_firstFailed_19 (by decide) (fun c19 => ?_) (fun c19 => ?_)
    · replace h := jm_iff c19 h
      refine jt_aload_n C dX2_firstFailed_24 rfl 1 rfl ?_
      refine jt_aload_n C dX2_firstFailed_25 rfl 2 rfl ?_
      refine jt_iload_n C dX2_firstFailed_26 rfl 0 rfl ?_
      obtain ⟨M2, eM2, h⟩ := jm_bind h
      refine jt_callVv (As := [_, _]) (rest := []) C hr0 rfl dX2_firstFailed_27 (c_X2_sortDegrees (jx_l X) k n _ _ _ _ hr0 hr1 _ eM2) (k_goodIn (g_RX2_64)) rfl h_X2_sortDegrees ⟨rfl, rfl, Nat.le_of_ble_eq_true rfl, Nat.le_of_ble_eq_true rfl⟩ rfl rfl (Nat.le_of_ble_eq_true rfl) ?_
      refine jt_aload_n C dX2_firstFailed_30 rfl 1 rfl ?_
      refine jt_aload_n C dX2_firstFailed_31 rfl 2 rfl ?_
      refine jt_callVi (As := []) (rest := [_]) C hr1 rfl dX2_firstFailed_32 (c_X3_h (jx_l X) k _ _ hr1 _ rfl) (k_goodIn (g_RX2_22)) rfl h_X3_h ⟨rfl, rfl, Nat.le_of_ble_eq_true rfl, Nat.le_of_ble_eq_true rfl⟩ rfl rfl (Nat.le_of_ble_eq_true rfl) ?_
      obtain ⟨x3, ex3, h⟩ := jm_bind h
      refine jt_callVi (As := [_]) (rest := []) C hr0 rfl dX2_firstFailed_35 (c_X2_areInRange (jx_l X) k n _ _ _ hr0 _ ex3) (k_goodIn (g_RX2_68)) rfl h_X2_areInRange ⟨rfl, rfl, Nat.le_of_ble_eq_true rfl, Nat.le_of_ble_eq_true rfl⟩ rfl rfl (Nat.le_of_ble_eq_true rfl) ?_
      refine jt_if_ne (tgt := 43) C dX2_firstFailed_38 (by decide) (fun c38 => ?_) (fun c38 => ?_)
      · replace h := jm_iff c38 h
        refine jt_aload_n C dX2_firstFailed_43 rfl 1 rfl ?_
        refine jt_aload_n C dX2_firstFailed_44 rfl 2 rfl ?_
        refine jt_callVi (As := []) (rest := [_]) C hr1 rfl dX2_firstFailed_45 (c_X3_h (jx_l X) k _ _ hr1 _ rfl) (k_goodIn (g_RX2_22)) rfl h_X3_h ⟨rfl, rfl, Nat.le_of_ble_eq_true rfl, Nat.le_of_ble_eq_true rfl⟩ rfl rfl (Nat.le_of_ble_eq_true rfl) ?_
        obtain ⟨x4, ex4, h⟩ := jm_bind h
        refine jt_callVi (As := [_]) (rest := []) C hr0 rfl dX2_firstFailed_48 (c_X2_hasGraph (jx_l X) k n _ _ _ hr0 _ ex4) (k_goodIn (g_RX2_72)) rfl h_X2_hasGraph ⟨rfl, rfl, Nat.le_of_ble_eq_true rfl, Nat.le_of_ble_eq_true rfl⟩ rfl rfl (Nat.le_of_ble_eq_true rfl) ?_
        refine jt_if_eq (tgt := 58) C dX2_firstFailed_51 (by decide) (fun c51 => ?_) (fun c51 => ?_)
        · replace h := jm_ift c51 h
          refine jt_iconst (v := (3 : Int32)) C dX2_firstFailed_58 (by decide) ?_
          cases h
          exact jt_iret C dX2_firstFailed_59 hQ hr
        · replace h := jm_iff c51 h
          refine jt_iconst (v := (0 : Int32)) C dX2_firstFailed_54 (by decide) ?_
          refine jt_goto (tgt := 59) C dX2_firstFailed_55 (by decide) ?_
          cases h
          exact jt_iret C dX2_firstFailed_59 hQ hr
      · replace h := jm_ift c38 h
        refine jt_iconst (v := (2 : Int32)) C dX2_firstFailed_41 (by decide) ?_
        cases h
        exact jt_iret C dX2_firstFailed_42 hQ hr
    · replace h := jm_ift c19 h
      refine jt_iconst (v := (1 : Int32)) C dX2_firstFailed_22 (by decide) ?_
      cases h
      exact jt_iret C dX2_firstFailed_23 hQ hr
  · replace h := jm_iff c4 h
    refine jt_bipush (v := (-9 : Int32)) C dX2_firstFailed_7 (by decide) ?_
    cases h
    exact jt_iret C dX2_firstFailed_9 hQ hr
theorem h_X8_enoughCards : yX8_enoughCards.cls = RX8 ∧ yX8_enoughCards.cls ≠ "java/lang/invoke/MethodHandle" ∧ yX8_enoughCards.cls ≠ "java/lang/invoke/VarHandle" ∧ (parseMethodDescriptor yX8_enoughCards.desc).map (fun d => d.parameters.length) = some 0 := by decide +kernel
set_option maxHeartbeats 4000000 in
set_option maxRecDepth 100000 in
theorem t_X8_enoughCards_L56 {X : jm_X} {k : jm_C} (C : jm_Cx X k cX8_enoughCards 3 RX8 w_X8_enoughCards) (n : Nat) (r0 : Nat) (v1 : Int32) (hr0 : jm_is r0 (3, 7)) : ∀ (m : Nat) (s : Int32 × jm_M) (r : (Int32 × jm_M) ⊕ (jm_M)), jm_loop (X8_enoughCards_B56 n r0 v1) m s = some r → (match r with | .inl z => ∀ (z1 : Int32) (z2 : jm_M), z = (z1, z2) → ∀ (pc1 : Nat) (lv1 : List (Nat × Value)), decode cX8_enoughCards pc1 = .ok (.ireturn, 1) → jm_T X { frames := 18, cells := 0, slots := 0, locals := 720 } k 3 z2 pc1 lv1 [.int z1] | .inr w => jm_T X { frames := 18, cells := 0, slots := 0, locals := 720 } k 3 w 103 [(0, .ref (jm_ad k r0)), (1, .int v1)] []) → (∀ (b0 : Int32) (b1 : jm_M), s = (b0, b1) → jm_T X { frames := 18, cells := 0, slots := 0, locals := 720 } k 3 b1 56 [(0, .ref (jm_ad k r0)), (1, .int v1), (2, .int b0)] []) := by
  refine jm_loop_ind (P := fun (s : Int32 × jm_M) => (∀ (b0 : Int32) (b1 : jm_M), s = (b0, b1) → jm_T X { frames := 18, cells := 0, slots := 0, locals := 720 } k 3 b1 56 [(0, .ref (jm_ad k r0)), (1, .int v1), (2, .int b0)] [])) (K := fun (r : (Int32 × jm_M) ⊕ (jm_M)) => match r with | .inl z => ∀ (z1 : Int32) (z2 : jm_M), z = (z1, z2) → ∀ (pc1 : Nat) (lv1 : List (Nat × Value)), decode cX8_enoughCards pc1 = .ok (.ireturn, 1) → jm_T X { frames := 18, cells := 0, slots := 0, locals := 720 } k 3 z2 pc1 lv1 [.int z1] | .inr w => jm_T X { frames := 18, cells := 0, slots := 0, locals := 720 } k 3 w 103 [(0, .ref (jm_ad k r0)), (1, .int v1)] []) ?_
  intro s q h h1 h2
  intro b0 b1 hs
  subst hs
  unfold X8_enoughCards_B56 at h
  try dsimp only at h
  refine jt_iload_n C dX8_enoughCards_56 rfl 2 rfl ?_
  refine jt_aload_n C dX8_enoughCards_57 rfl 0 rfl ?_
  refine jt_getR (Tf := TX8) (N := 8) C dX8_enoughCards_58 hr0 rfl i_8 1 (by decide) rfl m_RX8_19 rfl ?_
  refine jt_callVi (As := []) (rest := [_]) C (jm_f7_1 hr0) rfl dX8_enoughCards_61 (c_X3_everyCard (jx_l X) k _ _ (jm_f7_1 hr0) _ rfl) (k_goodIn (g_RX8_198)) rfl h_X3_everyCard ⟨rfl, rfl, Nat.le_of_ble_eq_true rfl, Nat.le_of_ble_eq_true rfl⟩ rfl rfl (Nat.le_of_ble_eq_true rfl) ?_
  refine jt_icmp_ge (tgt := 103) C dX8_enoughCards_64 (by decide) (fun c64 => ?_) (fun c64 => ?_)
  · replace h := jm_ift c64 h
    cases h
    exact jt_sub [0, 1] rfl (h2 _ rfl)
  · replace h := jm_iff c64 h
    refine jt_iload_n C dX8_enoughCards_67 rfl 2 rfl ?_
    refine jt_callSi (As := [_]) (rest := []) C dX8_enoughCards_68 (c_J6_bitCount_0f7a4 (jx_l X) k _ _ _ rfl) (k_goodIn (g_RX8_175)) rfl h_J6_bitCount_0f7a4 ⟨rfl, rfl, Nat.le_of_ble_eq_true rfl, Nat.le_of_ble_eq_true rfl⟩ rfl rfl (Nat.le_of_ble_eq_true rfl) ?_
    refine jt_iload_n C dX8_enoughCards_71 rfl 1 rfl ?_
    refine jt_icmp_ne (tgt := 97) C dX8_enoughCards_72 (by decide) (fun c72 => ?_) (fun c72 => ?_)
    · replace h := jm_iff c72 h
      refine jt_iinc (v := (1 : Int32)) (lv' := [(2, _), (0, _), (1, _)]) C dX8_enoughCards_97 2 rfl (by decide) (by decide) rfl ?_
      refine jt_goto (tgt := 56) C dX8_enoughCards_100 (by decide) ?_
      cases h
      exact jt_sub [1, 2, 0] rfl (h1 _ rfl _ _ rfl)
    · replace h := jm_ift c72 h
      refine jt_aload_n C dX8_enoughCards_75 rfl 0 rfl ?_
      refine jt_getR (Tf := TX8) (N := 8) C dX8_enoughCards_76 hr0 rfl i_8 6 (by decide) rfl m_RX8_54 rfl ?_
      refine jt_aload_n C dX8_enoughCards_79 rfl 0 rfl ?_
      refine jt_getR (Tf := TX8) (N := 8) C dX8_enoughCards_80 hr0 rfl i_8 1 (by decide) rfl m_RX8_19 rfl ?_
      refine jt_iload_n C dX8_enoughCards_83 rfl 2 rfl ?_
      refine jt_aload_n C dX8_enoughCards_84 rfl 0 rfl ?_
      refine jt_getR (Tf := TX8) (N := 8) C dX8_enoughCards_85 hr0 rfl i_8 3 (by decide) rfl m_RX8_33 rfl ?_
      obtain ⟨⟨x2a, x2b⟩, ex2, h⟩ := jm_bind h
      try dsimp only at h
      refine jt_callVi (As := [_, _, _]) (rest := []) C (jm_f7_6 hr0) rfl dX8_enoughCards_88 (c_X0_find (jx_l X) k n _ _ _ _ _ (jm_f7_6 hr0) (jm_f7_1 hr0) (jm_f7_3 hr0) _ _ ex2) (k_goodIn (g_RX8_201)) rfl h_X0_find ⟨rfl, rfl, Nat.le_of_ble_eq_true rfl, Nat.le_of_ble_eq_true rfl⟩ rfl rfl (Nat.le_of_ble_eq_true rfl) ?_
      refine jt_iconst (v := (1 : Int32)) C dX8_enoughCards_91 (by decide) ?_
      refine jt_icmp_ne (tgt := 97) C dX8_enoughCards_92 (by decide) (fun c92 => ?_) (fun c92 => ?_)
      · replace h := jm_iff c92 h
        refine jt_iinc (v := (1 : Int32)) (lv' := [(2, _), (0, _), (1, _)]) C dX8_enoughCards_97 2 rfl (by decide) (by decide) rfl ?_
        refine jt_goto (tgt := 56) C dX8_enoughCards_100 (by decide) ?_
        cases h
        exact jt_sub [1, 2, 0] rfl (h1 _ rfl _ _ rfl)
      · replace h := jm_ift c92 h
        refine jt_iload_n C dX8_enoughCards_95 rfl 1 rfl ?_
        cases h
        exact h2 _ rfl _ _ rfl _ _ dX8_enoughCards_96
set_option maxHeartbeats 4000000 in
set_option maxRecDepth 100000 in
theorem t_X8_enoughCards_L43 {X : jm_X} {k : jm_C} (C : jm_Cx X k cX8_enoughCards 3 RX8 w_X8_enoughCards) (n : Nat) (r0 : Nat) (hr0 : jm_is r0 (3, 7)) : ∀ (m : Nat) (s : Int32 × jm_M) (r : (Int32 × jm_M) ⊕ (jm_M)), jm_loop (X8_enoughCards_B43 n r0) m s = some r → (match r with | .inl z => ∀ (z1 : Int32) (z2 : jm_M), z = (z1, z2) → ∀ (pc1 : Nat) (lv1 : List (Nat × Value)), decode cX8_enoughCards pc1 = .ok (.ireturn, 1) → jm_T X { frames := 18, cells := 0, slots := 0, locals := 720 } k 3 z2 pc1 lv1 [.int z1] | .inr w => jm_T X { frames := 18, cells := 0, slots := 0, locals := 720 } k 3 w 109 [(0, .ref (jm_ad k r0))] []) → (∀ (b0 : Int32) (b1 : jm_M), s = (b0, b1) → jm_T X { frames := 18, cells := 0, slots := 0, locals := 720 } k 3 b1 43 [(0, .ref (jm_ad k r0)), (1, .int b0)] []) := by
  refine jm_loop_ind (P := fun (s : Int32 × jm_M) => (∀ (b0 : Int32) (b1 : jm_M), s = (b0, b1) → jm_T X { frames := 18, cells := 0, slots := 0, locals := 720 } k 3 b1 43 [(0, .ref (jm_ad k r0)), (1, .int b0)] [])) (K := fun (r : (Int32 × jm_M) ⊕ (jm_M)) => match r with | .inl z => ∀ (z1 : Int32) (z2 : jm_M), z = (z1, z2) → ∀ (pc1 : Nat) (lv1 : List (Nat × Value)), decode cX8_enoughCards pc1 = .ok (.ireturn, 1) → jm_T X { frames := 18, cells := 0, slots := 0, locals := 720 } k 3 z2 pc1 lv1 [.int z1] | .inr w => jm_T X { frames := 18, cells := 0, slots := 0, locals := 720 } k 3 w 109 [(0, .ref (jm_ad k r0))] []) ?_
  intro s q h h1 h2
  intro b0 b1 hs
  subst hs
  unfold X8_enoughCards_B43 at h
  try dsimp only at h
  refine jt_iload_n C dX8_enoughCards_43 rfl 1 rfl ?_
  refine jt_aload_n C dX8_enoughCards_44 rfl 0 rfl ?_
  refine jt_getR (Tf := TX8) (N := 8) C dX8_enoughCards_45 hr0 rfl i_8 1 (by decide) rfl m_RX8_19 rfl ?_
  refine jt_callVi (As := []) (rest := [_]) C (jm_f7_1 hr0) rfl dX8_enoughCards_48 (c_X3_size (jx_l X) k _ _ (jm_f7_1 hr0) _ rfl) (k_goodIn (g_RX8_150)) rfl h_X3_size ⟨rfl, rfl, Nat.le_of_ble_eq_true rfl, Nat.le_of_ble_eq_true rfl⟩ rfl rfl (Nat.le_of_ble_eq_true rfl) ?_
  refine jt_icmp_ge (tgt := 109) C dX8_enoughCards_51 (by decide) (fun c51 => ?_) (fun c51 => ?_)
  · replace h := jm_ift c51 h
    cases h
    exact jt_sub [0] rfl (h2 _ rfl)
  · replace h := jm_iff c51 h
    refine jt_iconst (v := (1 : Int32)) C dX8_enoughCards_54 (by decide) ?_
    refine jt_istore_n (lv' := [(2, _), (0, _), (1, _)]) C dX8_enoughCards_55 rfl (by decide) rfl ?_
    obtain ⟨q3, eq3, h⟩ := jm_bind h
    refine jt_sub [1, 2, 0] rfl ?_
    refine t_X8_enoughCards_L56 C n _ _ hr0 n _ _ eq3 ?_ _ _ rfl
    rcases q3 with z4 | w5
    · replace h := jm_inl h
      intro z1 z2 hz pc1 lv1 hp1
      subst hz
      cases h
      exact h2 _ rfl _ _ rfl pc1 lv1 hp1
    · replace h := jm_inr h
      show jm_T _ _ _ _ _ _ _ _
      refine jt_iinc (v := (1 : Int32)) (lv' := [(1, _), (0, _)]) C dX8_enoughCards_103 1 rfl (by decide) (by decide) rfl ?_
      refine jt_goto (tgt := 43) C dX8_enoughCards_106 (by decide) ?_
      cases h
      exact jt_sub [1, 0] rfl (h1 _ rfl _ _ rfl)
set_option maxHeartbeats 4000000 in
set_option maxRecDepth 100000 in
theorem c_X8_enoughCards (l : Launch) (k : jm_C) (n : Nat) (r0 : Nat) (M : jm_M) (hr0 : jm_is r0 (3, 7)) (q1 : Int32) (q2 : jm_M) (h : X8_enoughCards n r0 M = some (q1, q2)) : jm_Ci l k yX8_enoughCards w_X8_enoughCards { frames := 18, cells := 0, slots := 0, locals := 720 } [.ref (jm_ad k r0)] M q1 q2 := by
  refine jm_entry_i (cc := cX8_enoughCards) (nL := 3) (ret := (some .int)) (by decide) rfl (Nat.le_of_ble_eq_true rfl) ?_
  intro X hX C hQ hr
  subst hX
  unfold X8_enoughCards at h
  refine jt_aload_n C dX8_enoughCards_0 rfl 0 rfl ?_
  refine jt_getR (Tf := TX8) (N := 8) C dX8_enoughCards_1 hr0 rfl i_8 1 (by decide) rfl m_RX8_19 rfl ?_
  refine jt_callVi (As := []) (rest := []) C (jm_f7_1 hr0) rfl dX8_enoughCards_4 (c_X3_h (jx_l X) k _ _ (jm_f7_1 hr0) _ rfl) (k_goodIn (g_RX8_159)) rfl h_X3_h ⟨rfl, rfl, Nat.le_of_ble_eq_true rfl, Nat.le_of_ble_eq_true rfl⟩ rfl rfl (Nat.le_of_ble_eq_true rfl) ?_
  refine jt_bipush (v := (6 : Int32)) C dX8_enoughCards_7 (by decide) ?_
  refine jt_icmp_eq (tgt := 38) C dX8_enoughCards_9 (by decide) (fun c9 => ?_) (fun c9 => ?_)
  · replace h := jm_ift c9 h
    refine jt_bipush (v := (-9 : Int32)) C dX8_enoughCards_38 (by decide) ?_
    cases h
    exact jt_iret C dX8_enoughCards_40 hQ hr
  · replace h := jm_iff c9 h
    refine jt_aload_n C dX8_enoughCards_12 rfl 0 rfl ?_
    refine jt_getR (Tf := TX8) (N := 8) C dX8_enoughCards_13 hr0 rfl i_8 6 (by decide) rfl m_RX8_54 rfl ?_
    refine jt_aload_n C dX8_enoughCards_16 rfl 0 rfl ?_
    refine jt_getR (Tf := TX8) (N := 8) C dX8_enoughCards_17 hr0 rfl i_8 1 (by decide) rfl m_RX8_19 rfl ?_
    refine jt_aload_n C dX8_enoughCards_20 rfl 0 rfl ?_
    refine jt_getR (Tf := TX8) (N := 8) C dX8_enoughCards_21 hr0 rfl i_8 1 (by decide) rfl m_RX8_19 rfl ?_
    refine jt_callVi (As := []) (rest := [_, _]) C (jm_f7_1 hr0) rfl dX8_enoughCards_24 (c_X3_everyCard (jx_l X) k _ _ (jm_f7_1 hr0) _ rfl) (k_goodIn (g_RX8_198)) rfl h_X3_everyCard ⟨rfl, rfl, Nat.le_of_ble_eq_true rfl, Nat.le_of_ble_eq_true rfl⟩ rfl rfl (Nat.le_of_ble_eq_true rfl) ?_
    refine jt_aload_n C dX8_enoughCards_27 rfl 0 rfl ?_
    refine jt_getR (Tf := TX8) (N := 8) C dX8_enoughCards_28 hr0 rfl i_8 3 (by decide) rfl m_RX8_33 rfl ?_
    obtain ⟨⟨x1a, x1b⟩, ex1, h⟩ := jm_bind h
    try dsimp only at h
    refine jt_callVi (As := [_, _, _]) (rest := []) C (jm_f7_6 hr0) rfl dX8_enoughCards_31 (c_X0_find (jx_l X) k n _ _ _ _ _ (jm_f7_6 hr0) (jm_f7_1 hr0) (jm_f7_3 hr0) _ _ ex1) (k_goodIn (g_RX8_201)) rfl h_X0_find ⟨rfl, rfl, Nat.le_of_ble_eq_true rfl, Nat.le_of_ble_eq_true rfl⟩ rfl rfl (Nat.le_of_ble_eq_true rfl) ?_
    refine jt_iconst (v := (1 : Int32)) C dX8_enoughCards_34 (by decide) ?_
    refine jt_icmp_eq (tgt := 41) C dX8_enoughCards_35 (by decide) (fun c35 => ?_) (fun c35 => ?_)
    · replace h := jm_ift c35 h
      refine jt_iconst (v := (1 : Int32)) C dX8_enoughCards_41 (by decide) ?_
      refine jt_istore_n (lv' := [(1, _), (0, _)]) C dX8_enoughCards_42 rfl (by decide) rfl ?_
      obtain ⟨q6, eq6, h⟩ := jm_bind h
      refine jt_sub [1, 0] rfl ?_
      refine t_X8_enoughCards_L43 C n _ hr0 n _ _ eq6 ?_ _ _ rfl
      rcases q6 with z7 | w8
      · replace h := jm_inl h
        intro z1 z2 hz pc1 lv1 hp1
        subst hz
        cases h
        exact jt_iret C hp1 hQ hr
      · replace h := jm_inr h
        show jm_T _ _ _ _ _ _ _ _
        refine jt_aload_n C dX8_enoughCards_109 rfl 0 rfl ?_
        refine jt_getR (Tf := TX8) (N := 8) C dX8_enoughCards_110 hr0 rfl i_8 1 (by decide) rfl m_RX8_19 rfl ?_
        refine jt_callVi (As := []) (rest := []) C (jm_f7_1 hr0) rfl dX8_enoughCards_113 (c_X3_size (jx_l X) k _ _ (jm_f7_1 hr0) _ rfl) (k_goodIn (g_RX8_150)) rfl h_X3_size ⟨rfl, rfl, Nat.le_of_ble_eq_true rfl, Nat.le_of_ble_eq_true rfl⟩ rfl rfl (Nat.le_of_ble_eq_true rfl) ?_
        cases h
        exact jt_iret C dX8_enoughCards_116 hQ hr
    · replace h := jm_iff c35 h
      refine jt_bipush (v := (-9 : Int32)) C dX8_enoughCards_38 (by decide) ?_
      cases h
      exact jt_iret C dX8_enoughCards_40 hQ hr
