theorem h_X5_restore : yX5_restore.cls = RX5 ∧ yX5_restore.cls ≠ "java/lang/invoke/MethodHandle" ∧ yX5_restore.cls ≠ "java/lang/invoke/VarHandle" ∧ (parseMethodDescriptor yX5_restore.desc).map (fun d => d.parameters.length) = some 2 := by decide +kernel
set_option maxHeartbeats 4000000 in
set_option maxRecDepth 100000 in
theorem t_X5_restore_L61 {X : jm_X} {k : jm_C} (C : jm_Cx X k cX5_restore 5 RX5 w_X5_restore) (n : Nat) (r2 : Nat) (r3 : Nat) (hr2 : jm_is r2 (3, 3)) (hr3 : jm_is r3 (0, 10)) : ∀ (m : Nat) (s : Int32 × jm_M) (r : jm_M), jm_loop (X5_restore_B61 n r2 r3) m s = some r → jm_T X { frames := 1, cells := 0, slots := 0, locals := 40 } k 5 r 93 [] [] → (∀ (b0 : Int32) (b1 : jm_M), s = (b0, b1) → jm_T X { frames := 1, cells := 0, slots := 0, locals := 40 } k 5 b1 61 [(2, .ref (jm_ad k r2)), (3, .ref (jm_ad k r3)), (4, .int b0)] []) := by
  refine jm_loop_ind (P := fun (s : Int32 × jm_M) => (∀ (b0 : Int32) (b1 : jm_M), s = (b0, b1) → jm_T X { frames := 1, cells := 0, slots := 0, locals := 40 } k 5 b1 61 [(2, .ref (jm_ad k r2)), (3, .ref (jm_ad k r3)), (4, .int b0)] [])) (K := fun (r : jm_M) => jm_T X { frames := 1, cells := 0, slots := 0, locals := 40 } k 5 r 93 [] []) ?_
  intro s q h h1 h2
  intro b0 b1 hs
  subst hs
  unfold X5_restore_B61 at h
  try dsimp only at h
  refine jt_iload C dX5_restore_61 2 rfl ?_
  refine jt_aload_n C dX5_restore_63 rfl 1 rfl ?_
  refine jt_iconst (v := (3 : Int32)) C dX5_restore_64 (by decide) ?_
  obtain ⟨x7, ex7, h⟩ := jm_bind h
  refine jt_iald C dX5_restore_65 hr3 ex7 ?_
  refine jt_icmp_ge (tgt := 93) C dX5_restore_66 (by decide) (fun c66 => ?_) (fun c66 => ?_)
  · replace h := jm_ift c66 h
    cases h
    exact jt_sub [] rfl (h2 _ rfl)
  · replace h := jm_iff c66 h
    refine jt_iload C dX5_restore_69 2 rfl ?_
    refine jt_bipush (v := (6 : Int32)) C dX5_restore_71 (by decide) ?_
    refine jt_icmp_ge (tgt := 93) C dX5_restore_73 (by decide) (fun c73 => ?_) (fun c73 => ?_)
    · replace h := jm_ift c73 h
      cases h
      exact jt_sub [] rfl (h2 _ rfl)
    · replace h := jm_iff c73 h
      refine jt_aload_n C dX5_restore_76 rfl 0 rfl ?_
      refine jt_aload_n C dX5_restore_77 rfl 1 rfl ?_
      refine jt_iconst (v := (4 : Int32)) C dX5_restore_78 (by decide) ?_
      refine jt_iload C dX5_restore_79 2 rfl ?_
      refine jt_iadd C dX5_restore_81 ?_
      obtain ⟨x8, ex8, h⟩ := jm_bind h
      refine jt_iald C dX5_restore_82 hr3 ex8 ?_
      obtain ⟨⟨x9a, x9b⟩, ex9, h⟩ := jm_bind h
      try dsimp only at h
      refine jt_callVi (As := [_]) (rest := []) C hr2 rfl dX5_restore_83 (c_X3_put (jx_l X) k n _ _ _ hr2 _ _ ex9) (k_goodIn (g_RX5_55)) rfl h_X3_put ⟨rfl, rfl, Nat.le_of_ble_eq_true rfl, Nat.le_of_ble_eq_true rfl⟩ rfl rfl (Nat.le_of_ble_eq_true rfl) ?_
      refine jt_pop C dX5_restore_86 rfl ?_
      refine jt_iinc (v := (1 : Int32)) (lv' := [(4, _), (2, _), (3, _)]) C dX5_restore_87 2 rfl (by decide) (by decide) rfl ?_
      refine jt_goto (tgt := 61) C dX5_restore_90 (by decide) ?_
      cases h
      exact jt_sub [1, 2, 0] rfl (h1 _ rfl _ _ rfl)
set_option maxHeartbeats 4000000 in
set_option maxRecDepth 100000 in
theorem c_X5_restore (l : Launch) (k : jm_C) (n : Nat) (r0 : Nat) (r1 : Nat) (r2 : Nat) (M : jm_M) (hr0 : jm_is r0 (3, 5)) (hr1 : jm_is r1 (3, 4)) (hr2 : jm_is r2 (3, 3)) (q : jm_M) (h : X5_restore n r0 r1 r2 M = some q) : jm_Cv l k yX5_restore w_X5_restore { frames := 1, cells := 0, slots := 0, locals := 40 } [.ref (jm_ad k r0), .ref (jm_ad k r1), .ref (jm_ad k r2)] M q := by
  refine jm_entry_v (cc := cX5_restore) (nL := 5) (ret := none) (by decide) rfl (Nat.le_of_ble_eq_true rfl) ?_
  intro X hX C hQ hr
  subst hX
  unfold X5_restore at h
  refine jt_aload_n C dX5_restore_0 rfl 0 rfl ?_
  refine jt_getI (Tf := TX5) (N := 3) C dX5_restore_1 hr0 rfl i_5 1 (by decide) rfl m_RX5_16 rfl ?_
  refine jt_if_ne (tgt := 8) C dX5_restore_4 (by decide) (fun c4 => ?_) (fun c4 => ?_)
  · replace h := jm_iff c4 h
    refine jt_aload_n C dX5_restore_8 rfl 0 rfl ?_
    refine jt_dup C dX5_restore_9 rfl ?_
    refine jt_getI (Tf := TX5) (N := 3) C dX5_restore_10 hr0 rfl i_5 1 (by decide) rfl m_RX5_16 rfl ?_
    refine jt_iconst (v := (1 : Int32)) C dX5_restore_13 (by decide) ?_
    refine jt_isub C dX5_restore_14 ?_
    refine jt_putI (Tf := TX5) (N := 3) C dX5_restore_15 hr0 rfl i_5 tyX5 tyX5_ok nmX5 1 (by decide) rfl m_RX5_16 rfl rfl (by decide +kernel) ?_
    refine jt_aload_n C dX5_restore_18 rfl 0 rfl ?_
    refine jt_aload_n C dX5_restore_19 rfl 0 rfl ?_
    refine jt_getI (Tf := TX5) (N := 3) C dX5_restore_20 hr0 rfl i_5 2 (by decide) rfl m_RX5_20 rfl ?_
    refine jt_iconst (v := (1 : Int32)) C dX5_restore_23 (by decide) ?_
    refine jt_isub C dX5_restore_24 ?_
    refine jt_bipush (v := (7 : Int32)) C dX5_restore_25 (by decide) ?_
    refine jt_iand C dX5_restore_27 ?_
    refine jt_putI (Tf := TX5) (N := 3) C dX5_restore_28 hr0 rfl i_5 tyX5 tyX5_ok nmX5 2 (by decide) rfl m_RX5_20 rfl rfl (by decide +kernel) ?_
    refine jt_aload_n C dX5_restore_31 rfl 0 rfl ?_
    refine jt_getR (Tf := TX5) (N := 3) C dX5_restore_32 hr0 rfl i_5 0 (by decide) rfl m_RX5_13 rfl ?_
    refine jt_aload_n C dX5_restore_35 rfl 0 rfl ?_
    refine jt_getI (Tf := TX5) (N := 3) C dX5_restore_36 hr0 rfl i_5 2 (by decide) rfl m_RX5_20 rfl ?_
    obtain ⟨x1, ex1, h⟩ := jm_bind h
    refine jt_aald C dX5_restore_39 (jm_f5_0 hr0) ex1 ?_
    have hx1 := jm_gq_in (jm_f5_0 hr0) ex1
    refine jt_astore_n (lv' := [(3, _), (0, _), (1, _), (2, _)]) C dX5_restore_40 rfl (by decide) rfl ?_
    refine jt_aload_n C dX5_restore_41 rfl 2 rfl ?_
    refine jt_aload_n C dX5_restore_42 rfl 0 rfl ?_
    refine jt_iconst (v := (0 : Int32)) C dX5_restore_43 (by decide) ?_
    obtain ⟨x2, ex2, h⟩ := jm_bind h
    refine jt_iald C dX5_restore_44 hx1 ex2 ?_
    refine jt_aload_n C dX5_restore_45 rfl 0 rfl ?_
    refine jt_iconst (v := (1 : Int32)) C dX5_restore_46 (by decide) ?_
    obtain ⟨x3, ex3, h⟩ := jm_bind h
    refine jt_iald C dX5_restore_47 hx1 ex3 ?_
    obtain ⟨M4, eM4, h⟩ := jm_bind h
    refine jt_callVv (As := [_, _]) (rest := []) C hr1 rfl dX5_restore_48 (c_X4_load (jx_l X) k n _ _ _ _ hr1 _ eM4) (k_goodIn (g_RX5_47)) rfl h_X4_load ⟨rfl, rfl, Nat.le_of_ble_eq_true rfl, Nat.le_of_ble_eq_true rfl⟩ rfl rfl (Nat.le_of_ble_eq_true rfl) ?_
    refine jt_aload_n C dX5_restore_51 rfl 3 rfl ?_
    refine jt_aload_n C dX5_restore_52 rfl 0 rfl ?_
    refine jt_iconst (v := (2 : Int32)) C dX5_restore_53 (by decide) ?_
    obtain ⟨x5, ex5, h⟩ := jm_bind h
    refine jt_iald C dX5_restore_54 hx1 ex5 ?_
    obtain ⟨M6, eM6, h⟩ := jm_bind h
    refine jt_callVv (As := [_]) (rest := []) C hr2 rfl dX5_restore_55 (c_X3_start (jx_l X) k _ _ _ hr2 _ eM6) (k_goodIn (g_RX5_51)) rfl h_X3_start ⟨rfl, rfl, Nat.le_of_ble_eq_true rfl, Nat.le_of_ble_eq_true rfl⟩ rfl rfl (Nat.le_of_ble_eq_true rfl) ?_
    refine jt_iconst (v := (0 : Int32)) C dX5_restore_58 (by decide) ?_
    refine jt_istore (lv' := [(4, _), (3, _), (0, _), (1, _), (2, _)]) C dX5_restore_59 (by decide) rfl ?_
    obtain ⟨q10, eq10, h⟩ := jm_bind h
    refine jt_sub [4, 1, 0] rfl ?_
    refine t_X5_restore_L61 C n _ _ hr2 hx1 n _ _ eq10 ?_ _ _ rfl
    cases h
    exact jt_vret C dX5_restore_93 hQ hr
  · replace h := jm_ift c4 h
    cases h
    exact jt_vret C dX5_restore_7 hQ hr
theorem h_X5_size : yX5_size.cls = RX5 ∧ yX5_size.cls ≠ "java/lang/invoke/MethodHandle" ∧ yX5_size.cls ≠ "java/lang/invoke/VarHandle" ∧ (parseMethodDescriptor yX5_size.desc).map (fun d => d.parameters.length) = some 0 := by decide +kernel
set_option maxHeartbeats 4000000 in
set_option maxRecDepth 100000 in
theorem c_X5_size (l : Launch) (k : jm_C) (r0 : Nat) (M : jm_M) (hr0 : jm_is r0 (3, 5)) (q : Int32) (h : X5_size r0 M = q) : jm_Ci l k yX5_size w_X5_size { frames := 0, cells := 0, slots := 0, locals := 0 } [.ref (jm_ad k r0)] M q M := by
  refine jm_entry_i (cc := cX5_size) (nL := 1) (ret := (some .int)) (by decide) rfl (Nat.le_of_ble_eq_true rfl) ?_
  intro X hX C hQ hr
  subst hX
  unfold X5_size at h
  refine jt_aload_n C dX5_size_0 rfl 0 rfl ?_
  refine jt_getI (Tf := TX5) (N := 3) C dX5_size_1 hr0 rfl i_5 1 (by decide) rfl m_RX5_16 rfl ?_
  subst h
  exact jt_iret C dX5_size_4 hQ hr
theorem h_X8_undo : yX8_undo.cls = RX8 ∧ yX8_undo.cls ≠ "java/lang/invoke/MethodHandle" ∧ yX8_undo.cls ≠ "java/lang/invoke/VarHandle" ∧ (parseMethodDescriptor yX8_undo.desc).map (fun d => d.parameters.length) = some 0 := by decide +kernel
set_option maxHeartbeats 4000000 in
set_option maxRecDepth 100000 in
theorem c_X8_undo (l : Launch) (k : jm_C) (n : Nat) (r0 : Nat) (M : jm_M) (hr0 : jm_is r0 (3, 7)) (q1 : Int32) (q2 : jm_M) (h : X8_undo n r0 M = some (q1, q2)) : jm_Ci l k yX8_undo w_X8_undo { frames := 2, cells := 0, slots := 0, locals := 80 } [.ref (jm_ad k r0)] M q1 q2 := by
  refine jm_entry_i (cc := cX8_undo) (nL := 1) (ret := (some .int)) (by decide) rfl (Nat.le_of_ble_eq_true rfl) ?_
  intro X hX C hQ hr
  subst hX
  unfold X8_undo at h
  refine jt_aload_n C dX8_undo_0 rfl 0 rfl ?_
  refine jt_getR (Tf := TX8) (N := 8) C dX8_undo_1 hr0 rfl i_8 2 (by decide) rfl m_RX8_26 rfl ?_
  refine jt_callVi (As := []) (rest := []) C (jm_f7_2 hr0) rfl dX8_undo_4 (c_X5_size (jx_l X) k _ _ (jm_f7_2 hr0) _ rfl) (k_goodIn (g_RX8_92)) rfl h_X5_size ⟨rfl, rfl, Nat.le_of_ble_eq_true rfl, Nat.le_of_ble_eq_true rfl⟩ rfl rfl (Nat.le_of_ble_eq_true rfl) ?_
  refine jt_if_ne (tgt := 13) C dX8_undo_7 (by decide) (fun c7 => ?_) (fun c7 => ?_)
  · replace h := jm_iff c7 h
    refine jt_aload_n C dX8_undo_13 rfl 0 rfl ?_
    refine jt_getR (Tf := TX8) (N := 8) C dX8_undo_14 hr0 rfl i_8 2 (by decide) rfl m_RX8_26 rfl ?_
    refine jt_aload_n C dX8_undo_17 rfl 0 rfl ?_
    refine jt_getR (Tf := TX8) (N := 8) C dX8_undo_18 hr0 rfl i_8 0 (by decide) rfl m_RX8_10 rfl ?_
    refine jt_aload_n C dX8_undo_21 rfl 0 rfl ?_
    refine jt_getR (Tf := TX8) (N := 8) C dX8_undo_22 hr0 rfl i_8 1 (by decide) rfl m_RX8_19 rfl ?_
    obtain ⟨M1, eM1, h⟩ := jm_bind h
    refine jt_callVv (As := [_, _]) (rest := []) C (jm_f7_2 hr0) rfl dX8_undo_25 (c_X5_restore (jx_l X) k n _ _ _ _ (jm_f7_2 hr0) (jm_f7_0 hr0) (jm_f7_1 hr0) _ eM1) (k_goodIn (g_RX8_93)) rfl h_X5_restore ⟨rfl, rfl, Nat.le_of_ble_eq_true rfl, Nat.le_of_ble_eq_true rfl⟩ rfl rfl (Nat.le_of_ble_eq_true rfl) ?_
    refine jt_aload_n C dX8_undo_28 rfl 0 rfl ?_
    refine jt_getR (Tf := TX8) (N := 8) C dX8_undo_29 hr0 rfl i_8 2 (by decide) rfl m_RX8_26 rfl ?_
    refine jt_callVi (As := []) (rest := []) C (jm_f7_2 hr0) rfl dX8_undo_32 (c_X5_size (jx_l X) k _ _ (jm_f7_2 hr0) _ rfl) (k_goodIn (g_RX8_92)) rfl h_X5_size ⟨rfl, rfl, Nat.le_of_ble_eq_true rfl, Nat.le_of_ble_eq_true rfl⟩ rfl rfl (Nat.le_of_ble_eq_true rfl) ?_
    cases h
    exact jt_iret C dX8_undo_35 hQ hr
  · replace h := jm_ift c7 h
    refine jt_bipush (v := (-2 : Int32)) C dX8_undo_10 (by decide) ?_
    cases h
    exact jt_iret C dX8_undo_12 hQ hr
theorem h_X1_bestCode : yX1_bestCode.cls = RX1 ∧ yX1_bestCode.cls ≠ "java/lang/invoke/MethodHandle" ∧ yX1_bestCode.cls ≠ "java/lang/invoke/VarHandle" ∧ (parseMethodDescriptor yX1_bestCode.desc).map (fun d => d.parameters.length) = some 0 := by decide +kernel
set_option maxHeartbeats 4000000 in
set_option maxRecDepth 100000 in
theorem t_X1_bestCode_L4 {X : jm_X} {k : jm_C} (C : jm_Cx X k cX1_bestCode 3 RX1 w_X1_bestCode) (r0 : Nat) (M : jm_M) (hr0 : jm_is r0 (3, 1)) : ∀ (m : Nat) (s : Int32 × Int32) (r : Int32), jm_loop (X1_bestCode_B4 r0 M) m s = some r → jm_T X { frames := 1, cells := 0, slots := 0, locals := 40 } k 3 M 32 [(1, .int r)] [] → (∀ (b0 : Int32) (b1 : Int32), s = (b0, b1) → jm_T X { frames := 1, cells := 0, slots := 0, locals := 40 } k 3 M 4 [(0, .ref (jm_ad k r0)), (1, .int b0), (2, .int b1)] []) := by
  refine jm_loop_ind (P := fun (s : Int32 × Int32) => (∀ (b0 : Int32) (b1 : Int32), s = (b0, b1) → jm_T X { frames := 1, cells := 0, slots := 0, locals := 40 } k 3 M 4 [(0, .ref (jm_ad k r0)), (1, .int b0), (2, .int b1)] [])) (K := fun (r : Int32) => jm_T X { frames := 1, cells := 0, slots := 0, locals := 40 } k 3 M 32 [(1, .int r)] []) ?_
  intro s q h h1 h2
  intro b0 b1 hs
  subst hs
  unfold X1_bestCode_B4 at h
  try dsimp only at h
  refine jt_iload_n C dX1_bestCode_4 rfl 2 rfl ?_
  refine jt_aload_n C dX1_bestCode_5 rfl 0 rfl ?_
  refine jt_getR (Tf := TX1) (N := 6) C dX1_bestCode_6 hr0 rfl i_1 0 (by decide) rfl m_RX1_12 rfl ?_
  refine jt_callVi (As := []) (rest := [_]) C (jm_f1_0 hr0) rfl dX1_bestCode_9 (c_X4_size (jx_l X) k _ _ (jm_f1_0 hr0) _ rfl) (k_goodIn (g_RX1_40)) rfl h_X4_size ⟨rfl, rfl, Nat.le_of_ble_eq_true rfl, Nat.le_of_ble_eq_true rfl⟩ rfl rfl (Nat.le_of_ble_eq_true rfl) ?_
  refine jt_icmp_ge (tgt := 32) C dX1_bestCode_12 (by decide) (fun c12 => ?_) (fun c12 => ?_)
  · replace h := jm_ift c12 h
    cases h
    exact jt_sub [1] rfl (h2 _ rfl)
  · replace h := jm_iff c12 h
    refine jt_iload_n C dX1_bestCode_15 rfl 1 rfl ?_
    refine jt_iload_n C dX1_bestCode_16 rfl 2 rfl ?_
    refine jt_ishl C dX1_bestCode_17 ?_
    refine jt_aload_n C dX1_bestCode_18 rfl 0 rfl ?_
    refine jt_getR (Tf := TX1) (N := 6) C dX1_bestCode_19 hr0 rfl i_1 3 (by decide) rfl m_RX1_26 rfl ?_
    refine jt_iload_n C dX1_bestCode_22 rfl 2 rfl ?_
    obtain ⟨x1, ex1, h⟩ := jm_bind h
    refine jt_iald C dX1_bestCode_23 (jm_f1_3 hr0) ex1 ?_
    refine jt_ior C dX1_bestCode_24 ?_
    refine jt_istore_n (lv' := [(1, _), (0, _), (2, _)]) C dX1_bestCode_25 rfl (by decide) rfl ?_
    refine jt_iinc (v := (1 : Int32)) (lv' := [(2, _), (1, _), (0, _)]) C dX1_bestCode_26 2 rfl (by decide) (by decide) rfl ?_
    refine jt_goto (tgt := 4) C dX1_bestCode_29 (by decide) ?_
    cases h
    exact jt_sub [2, 1, 0] rfl (h1 _ rfl _ _ rfl)
set_option maxHeartbeats 4000000 in
set_option maxRecDepth 100000 in
theorem c_X1_bestCode (l : Launch) (k : jm_C) (n : Nat) (r0 : Nat) (M : jm_M) (hr0 : jm_is r0 (3, 1)) (q : Int32) (h : X1_bestCode n r0 M = some q) : jm_Ci l k yX1_bestCode w_X1_bestCode { frames := 1, cells := 0, slots := 0, locals := 40 } [.ref (jm_ad k r0)] M q M := by
  refine jm_entry_i (cc := cX1_bestCode) (nL := 3) (ret := (some .int)) (by decide) rfl (Nat.le_of_ble_eq_true rfl) ?_
  intro X hX C hQ hr
  subst hX
  unfold X1_bestCode at h
  refine jt_iconst (v := (0 : Int32)) C dX1_bestCode_0 (by decide) ?_
  refine jt_istore_n (lv' := [(1, _), (0, _)]) C dX1_bestCode_1 rfl (by decide) rfl ?_
  refine jt_iconst (v := (1 : Int32)) C dX1_bestCode_2 (by decide) ?_
  refine jt_istore_n (lv' := [(2, _), (1, _), (0, _)]) C dX1_bestCode_3 rfl (by decide) rfl ?_
  obtain ⟨q2, eq2, h⟩ := jm_bind h
  refine jt_sub [2, 1, 0] rfl ?_
  refine t_X1_bestCode_L4 C _ _ hr0 n _ _ eq2 ?_ _ _ rfl
  refine jt_iload_n C dX1_bestCode_32 rfl 0 rfl ?_
  cases h
  exact jt_iret C dX1_bestCode_33 hQ hr
theorem h_X1_forgetFrom : yX1_forgetFrom.cls = RX1 ∧ yX1_forgetFrom.cls ≠ "java/lang/invoke/MethodHandle" ∧ yX1_forgetFrom.cls ≠ "java/lang/invoke/VarHandle" ∧ (parseMethodDescriptor yX1_forgetFrom.desc).map (fun d => d.parameters.length) = some 1 := by decide +kernel
set_option maxHeartbeats 4000000 in
set_option maxRecDepth 100000 in
theorem t_X1_forgetFrom_L2 {X : jm_X} {k : jm_C} (C : jm_Cx X k cX1_forgetFrom 3 RX1 w_X1_forgetFrom) (r0 : Nat) (hr0 : jm_is r0 (3, 1)) : ∀ (m : Nat) (s : Int32 × jm_M) (r : jm_M), jm_loop (X1_forgetFrom_B2 r0) m s = some r → jm_T X { frames := 0, cells := 0, slots := 0, locals := 0 } k 3 r 23 [] [] → (∀ (b0 : Int32) (b1 : jm_M), s = (b0, b1) → jm_T X { frames := 0, cells := 0, slots := 0, locals := 0 } k 3 b1 2 [(0, .ref (jm_ad k r0)), (2, .int b0)] []) := by
  refine jm_loop_ind (P := fun (s : Int32 × jm_M) => (∀ (b0 : Int32) (b1 : jm_M), s = (b0, b1) → jm_T X { frames := 0, cells := 0, slots := 0, locals := 0 } k 3 b1 2 [(0, .ref (jm_ad k r0)), (2, .int b0)] [])) (K := fun (r : jm_M) => jm_T X { frames := 0, cells := 0, slots := 0, locals := 0 } k 3 r 23 [] []) ?_
  intro s q h h1 h2
  intro b0 b1 hs
  subst hs
  unfold X1_forgetFrom_B2 at h
  try dsimp only at h
  refine jt_iload_n C dX1_forgetFrom_2 rfl 1 rfl ?_
  refine jt_bipush (v := (8 : Int32)) C dX1_forgetFrom_3 (by decide) ?_
  refine jt_icmp_ge (tgt := 23) C dX1_forgetFrom_5 (by decide) (fun c5 => ?_) (fun c5 => ?_)
  · replace h := jm_ift c5 h
    cases h
    exact jt_sub [] rfl (h2 _ rfl)
  · replace h := jm_iff c5 h
    refine jt_aload_n C dX1_forgetFrom_8 rfl 0 rfl ?_
    refine jt_getR (Tf := TX1) (N := 6) C dX1_forgetFrom_9 hr0 rfl i_1 3 (by decide) rfl m_RX1_26 rfl ?_
    refine jt_iload_n C dX1_forgetFrom_12 rfl 1 rfl ?_
    refine jt_sipush (v := (256 : Int32)) C dX1_forgetFrom_13 (by decide) ?_
    obtain ⟨M1, eM1, h⟩ := jm_bind h
    refine jt_iast C dX1_forgetFrom_16 (jm_f1_3 hr0) eM1 ?_
    refine jt_iinc (v := (1 : Int32)) (lv' := [(2, _), (0, _)]) C dX1_forgetFrom_17 1 rfl (by decide) (by decide) rfl ?_
    refine jt_goto (tgt := 2) C dX1_forgetFrom_20 (by decide) ?_
    cases h
    exact jt_sub [1, 0] rfl (h1 _ rfl _ _ rfl)
set_option maxHeartbeats 4000000 in
set_option maxRecDepth 100000 in
theorem c_X1_forgetFrom (l : Launch) (k : jm_C) (n : Nat) (r0 : Nat) (v1 : Int32) (M : jm_M) (hr0 : jm_is r0 (3, 1)) (q : jm_M) (h : X1_forgetFrom n r0 v1 M = some q) : jm_Cv l k yX1_forgetFrom w_X1_forgetFrom { frames := 0, cells := 0, slots := 0, locals := 0 } [.ref (jm_ad k r0), .int v1] M q := by
  refine jm_entry_v (cc := cX1_forgetFrom) (nL := 3) (ret := none) (by decide) rfl (Nat.le_of_ble_eq_true rfl) ?_
  intro X hX C hQ hr
  subst hX
  unfold X1_forgetFrom at h
  refine jt_iload_n C dX1_forgetFrom_0 rfl 1 rfl ?_
  refine jt_istore_n (lv' := [(2, _), (0, _), (1, _)]) C dX1_forgetFrom_1 rfl (by decide) rfl ?_
  obtain ⟨q2, eq2, h⟩ := jm_bind h
  refine jt_sub [1, 0] rfl ?_
  refine t_X1_forgetFrom_L2 C _ hr0 n _ _ eq2 ?_ _ _ rfl
  cases h
  exact jt_vret C dX1_forgetFrom_23 hQ hr
theorem h_X1_leastColumn : yX1_leastColumn.cls = RX1 ∧ yX1_leastColumn.cls ≠ "java/lang/invoke/MethodHandle" ∧ yX1_leastColumn.cls ≠ "java/lang/invoke/VarHandle" ∧ (parseMethodDescriptor yX1_leastColumn.desc).map (fun d => d.parameters.length) = some 2 := by decide +kernel
set_option maxHeartbeats 4000000 in
set_option maxRecDepth 100000 in
theorem t_X1_leastColumn_L8 {X : jm_X} {k : jm_C} (C : jm_Cx X k cX1_leastColumn 7 RX1 w_X1_leastColumn) (r0 : Nat) (v1 : Int32) (v2 : Int64) (M : jm_M) (hr0 : jm_is r0 (3, 1)) : ∀ (m : Nat) (s : Int32 × Int32) (r : Int32), jm_loop (X1_leastColumn_B8 r0 v1 v2 M) m s = some r → jm_T X { frames := 1, cells := 0, slots := 0, locals := 40 } k 7 M 61 [(4, .int r)] [] → (∀ (b0 : Int32) (b1 : Int32), s = (b0, b1) → jm_T X { frames := 1, cells := 0, slots := 0, locals := 40 } k 7 M 8 [(0, .ref (jm_ad k r0)), (1, .int v1), (2, .long v2), (4, .int b0), (5, .int b1)] []) := by
  refine jm_loop_ind (P := fun (s : Int32 × Int32) => (∀ (b0 : Int32) (b1 : Int32), s = (b0, b1) → jm_T X { frames := 1, cells := 0, slots := 0, locals := 40 } k 7 M 8 [(0, .ref (jm_ad k r0)), (1, .int v1), (2, .long v2), (4, .int b0), (5, .int b1)] [])) (K := fun (r : Int32) => jm_T X { frames := 1, cells := 0, slots := 0, locals := 40 } k 7 M 61 [(4, .int r)] []) ?_
  intro s q h h1 h2
  intro b0 b1 hs
  subst hs
  unfold X1_leastColumn_B8 at h
  try dsimp only at h
  refine jt_iload C dX1_leastColumn_8 4 rfl ?_
  refine jt_aload_n C dX1_leastColumn_10 rfl 0 rfl ?_
  refine jt_getR (Tf := TX1) (N := 6) C dX1_leastColumn_11 hr0 rfl i_1 0 (by decide) rfl m_RX1_12 rfl ?_
  refine jt_callVi (As := []) (rest := [_]) C (jm_f1_0 hr0) rfl dX1_leastColumn_14 (c_X4_size (jx_l X) k _ _ (jm_f1_0 hr0) _ rfl) (k_goodIn (g_RX1_40)) rfl h_X4_size ⟨rfl, rfl, Nat.le_of_ble_eq_true rfl, Nat.le_of_ble_eq_true rfl⟩ rfl rfl (Nat.le_of_ble_eq_true rfl) ?_
  refine jt_icmp_ge (tgt := 61) C dX1_leastColumn_17 (by decide) (fun c17 => ?_) (fun c17 => ?_)
  · replace h := jm_ift c17 h
    cases h
    exact jt_sub [3] rfl (h2 _ rfl)
  · replace h := jm_iff c17 h
    refine jt_lload_n C dX1_leastColumn_20 rfl 2 rfl ?_
    refine jt_bipush (v := (8 : Int32)) C dX1_leastColumn_21 (by decide) ?_
    refine jt_iload C dX1_leastColumn_23 4 rfl ?_
    refine jt_imul C dX1_leastColumn_25 ?_
    refine jt_lshr C dX1_leastColumn_26 ?_
    refine jt_l2i C dX1_leastColumn_27 ?_
    refine jt_sipush (v := (255 : Int32)) C dX1_leastColumn_28 (by decide) ?_
    refine jt_iand C dX1_leastColumn_31 ?_
    refine jt_istore (lv' := [(6, _), (0, _), (1, _), (2, _), (4, _), (5, _)]) C dX1_leastColumn_32 (by decide) rfl ?_
    refine jt_iload_n C dX1_leastColumn_34 rfl 2 rfl ?_
    refine jt_iload C dX1_leastColumn_35 5 rfl ?_
    refine jt_ishr C dX1_leastColumn_37 ?_
    refine jt_iconst (v := (1 : Int32)) C dX1_leastColumn_38 (by decide) ?_
    refine jt_iand C dX1_leastColumn_39 ?_
    refine jt_iconst (v := (1 : Int32)) C dX1_leastColumn_40 (by decide) ?_
    refine jt_icmp_ne (tgt := 55) C dX1_leastColumn_41 (by decide) (fun c41 => ?_) (fun c41 => ?_)
    · replace h := jm_iff c41 h
      refine jt_iinc (v := (1 : Int32)) (lv' := [(5, _), (6, _), (0, _), (1, _), (2, _), (4, _)]) C dX1_leastColumn_55 5 rfl (by decide) (by decide) rfl ?_
      refine jt_goto (tgt := 8) C dX1_leastColumn_58 (by decide) ?_
      cases h
      exact jt_sub [2, 3, 4, 5, 0] rfl (h1 _ rfl _ _ rfl)
    · replace h := jm_ift c41 h
      refine jt_iload C dX1_leastColumn_44 0 rfl ?_
      refine jt_iload C dX1_leastColumn_46 4 rfl ?_
      refine jt_icmp_ge (tgt := 55) C dX1_leastColumn_48 (by decide) (fun c48 => ?_) (fun c48 => ?_)
      · replace h := jm_ift c48 h
        refine jt_iinc (v := (1 : Int32)) (lv' := [(5, _), (6, _), (0, _), (1, _), (2, _), (4, _)]) C dX1_leastColumn_55 5 rfl (by decide) (by decide) rfl ?_
        refine jt_goto (tgt := 8) C dX1_leastColumn_58 (by decide) ?_
        cases h
        exact jt_sub [2, 3, 4, 5, 0] rfl (h1 _ rfl _ _ rfl)
      · replace h := jm_iff c48 h
        refine jt_iload C dX1_leastColumn_51 0 rfl ?_
        refine jt_istore (lv' := [(4, _), (6, _), (0, _), (1, _), (2, _), (5, _)]) C dX1_leastColumn_53 (by decide) rfl ?_
        refine jt_iinc (v := (1 : Int32)) (lv' := [(5, _), (4, _), (6, _), (0, _), (1, _), (2, _)]) C dX1_leastColumn_55 5 rfl (by decide) (by decide) rfl ?_
        refine jt_goto (tgt := 8) C dX1_leastColumn_58 (by decide) ?_
        cases h
        exact jt_sub [3, 4, 5, 1, 0] rfl (h1 _ rfl _ _ rfl)
set_option maxHeartbeats 4000000 in
set_option maxRecDepth 100000 in
theorem c_X1_leastColumn (l : Launch) (k : jm_C) (n : Nat) (r0 : Nat) (v1 : Int32) (v2 : Int64) (M : jm_M) (hr0 : jm_is r0 (3, 1)) (q : Int32) (h : X1_leastColumn n r0 v1 v2 M = some q) : jm_Ci l k yX1_leastColumn w_X1_leastColumn { frames := 1, cells := 0, slots := 0, locals := 40 } [.ref (jm_ad k r0), .int v1, .long v2] M q M := by
  refine jm_entry_i (cc := cX1_leastColumn) (nL := 7) (ret := (some .int)) (by decide) rfl (Nat.le_of_ble_eq_true rfl) ?_
  intro X hX C hQ hr
  subst hX
  unfold X1_leastColumn at h
  refine jt_sipush (v := (256 : Int32)) C dX1_leastColumn_0 (by decide) ?_
  refine jt_istore (lv' := [(4, _), (0, _), (1, _), (2, _)]) C dX1_leastColumn_3 (by decide) rfl ?_
  refine jt_iconst (v := (0 : Int32)) C dX1_leastColumn_5 (by decide) ?_
  refine jt_istore (lv' := [(5, _), (4, _), (0, _), (1, _), (2, _)]) C dX1_leastColumn_6 (by decide) rfl ?_
  obtain ⟨q1, eq1, h⟩ := jm_bind h
  refine jt_sub [2, 3, 4, 1, 0] rfl ?_
  refine t_X1_leastColumn_L8 C _ _ _ _ hr0 n _ _ eq1 ?_ _ _ rfl
  refine jt_iload C dX1_leastColumn_61 0 rfl ?_
  cases h
  exact jt_iret C dX1_leastColumn_63 hQ hr
theorem h_X1_number : yX1_number.cls ≠ "java/lang/invoke/MethodHandle" ∧ yX1_number.cls ≠ "java/lang/invoke/VarHandle" ∧ (parseMethodDescriptor yX1_number.desc).map (fun d => d.parameters.length) = some 4 := by decide +kernel
set_option maxHeartbeats 4000000 in
set_option maxRecDepth 100000 in
theorem t_X1_number_L66 {X : jm_X} {k : jm_C} (C : jm_Cx X k cX1_number 9 RX1 w_X1_number) (d : Nat) (rec : Nat → Int32 → Int32 → Int64 → jm_M → Option (jm_M)) (hrec : ∀ (r0 : Nat) (v1 : Int32) (v2 : Int32) (v3 : Int64) (M : jm_M) (_ : jm_is r0 (3, 1)) (q : jm_M), rec r0 v1 v2 v3 M = some q → jm_Cv (jx_l X) k yX1_number w_X1_number { frames := 2 + d, cells := 0, slots := 0, locals := 40 * (2 + d) } [.ref (jm_ad k r0), .int v1, .int v2, .long v3] M q) (n : Nat) (r0 : Nat) (v1 : Int32) (v2 : Int32) (v3 : Int64) (v5 : Int32) (hr0 : jm_is r0 (3, 1)) : ∀ (m : Nat) (s : Int32 × Int32 × jm_M) (r : jm_M), jm_loop (X1_number_B66 rec n r0 v1 v2 v3 v5) m s = some r → jm_T X { frames := 2 + (d + 1), cells := 0, slots := 0, locals := 40 * (2 + (d + 1)) } k 9 r 172 [] [] → (∀ (b0 : Int32) (b1 : Int32) (b2 : jm_M), s = (b0, b1, b2) → jm_T X { frames := 2 + (d + 1), cells := 0, slots := 0, locals := 40 * (2 + (d + 1)) } k 9 b2 66 [(0, .ref (jm_ad k r0)), (1, .int v1), (2, .int v2), (3, .long v3), (5, .int v5), (6, .int b0), (7, .int b1)] []) := by
  refine jm_loop_ind (P := fun (s : Int32 × Int32 × jm_M) => (∀ (b0 : Int32) (b1 : Int32) (b2 : jm_M), s = (b0, b1, b2) → jm_T X { frames := 2 + (d + 1), cells := 0, slots := 0, locals := 40 * (2 + (d + 1)) } k 9 b2 66 [(0, .ref (jm_ad k r0)), (1, .int v1), (2, .int v2), (3, .long v3), (5, .int v5), (6, .int b0), (7, .int b1)] [])) (K := fun (r : jm_M) => jm_T X { frames := 2 + (d + 1), cells := 0, slots := 0, locals := 40 * (2 + (d + 1)) } k 9 r 172 [] []) ?_
  intro s q h h1 h2
  intro b0 b1 b2 hs
  subst hs
  unfold X1_number_B66 at h
  try dsimp only at h
  refine jt_iload C dX1_number_66 6 rfl ?_
  refine jt_aload_n C dX1_number_68 rfl 0 rfl ?_
  refine jt_getR (Tf := TX1) (N := 6) C dX1_number_69 hr0 rfl i_1 0 (by decide) rfl m_RX1_12 rfl ?_
  refine jt_callVi (As := []) (rest := [_]) C (jm_f1_0 hr0) rfl dX1_number_72 (c_X4_size (jx_l X) k _ _ (jm_f1_0 hr0) _ rfl) (k_goodIn (g_RX1_40)) rfl h_X4_size ⟨rfl, rfl, by simp only []; omega, by simp only []; omega⟩ rfl rfl (Nat.le_of_ble_eq_true rfl) ?_
  refine jt_icmp_ge (tgt := 172) C dX1_number_75 (by decide) (fun c75 => ?_) (fun c75 => ?_)
  · replace h := jm_ift c75 h
    cases h
    exact jt_sub [] rfl (h2 _ rfl)
  · replace h := jm_iff c75 h
    refine jt_iload_n C dX1_number_78 rfl 2 rfl ?_
    refine jt_iload C dX1_number_79 6 rfl ?_
    refine jt_ishr C dX1_number_81 ?_
    refine jt_iconst (v := (1 : Int32)) C dX1_number_82 (by decide) ?_
    refine jt_iand C dX1_number_83 ?_
    refine jt_iconst (v := (1 : Int32)) C dX1_number_84 (by decide) ?_
    refine jt_icmp_ne (tgt := 110) C dX1_number_85 (by decide) (fun c85 => ?_) (fun c85 => ?_)
    · replace h := jm_iff c85 h
      refine jt_iconst (v := (0 : Int32)) C dX1_number_110 (by decide) ?_
      refine jt_istore (lv' := [(8, _), (0, _), (1, _), (2, _), (3, _), (5, _), (6, _), (7, _)]) C dX1_number_111 (by decide) rfl ?_
      refine jt_iload C dX1_number_113 0 rfl ?_
      refine jt_if_eq (tgt := 166) C dX1_number_115 (by decide) (fun _ => ?_) (fun c => absurd c (by decide))
      refine jt_iinc (v := (1 : Int32)) (lv' := [(7, _), (8, _), (0, _), (1, _), (2, _), (3, _), (5, _), (6, _)]) C dX1_number_166 7 rfl (by decide) (by decide) rfl ?_
      refine jt_goto (tgt := 66) C dX1_number_169 (by decide) ?_
      cases h
      exact jt_sub [2, 3, 4, 5, 6, 7, 0] rfl (h1 _ rfl _ _ _ rfl)
    · replace h := jm_ift c85 h
      refine jt_lload_n C dX1_number_88 rfl 3 rfl ?_
      refine jt_bipush (v := (8 : Int32)) C dX1_number_89 (by decide) ?_
      refine jt_iload C dX1_number_91 6 rfl ?_
      refine jt_imul C dX1_number_93 ?_
      refine jt_lshr C dX1_number_94 ?_
      refine jt_ldc2 (v := (255 : Int64)) C dX1_number_95 (List.mem_cons_of_mem _ k_c_RX1_66) ?_
      refine jt_land C dX1_number_98 ?_
      refine jt_iload C dX1_number_99 4 rfl ?_
      refine jt_i2l C dX1_number_101 ?_
      refine jt_lcmp C dX1_number_102 ?_
      refine jt_if_ne (tgt := 110) C dX1_number_103 (by decide) (fun c103 => ?_) (fun c103 => ?_)
      · replace h := jm_iff c103 h
        refine jt_iconst (v := (0 : Int32)) C dX1_number_110 (by decide) ?_
        refine jt_istore (lv' := [(8, _), (0, _), (1, _), (2, _), (3, _), (5, _), (6, _), (7, _)]) C dX1_number_111 (by decide) rfl ?_
        refine jt_iload C dX1_number_113 0 rfl ?_
        refine jt_if_eq (tgt := 166) C dX1_number_115 (by decide) (fun _ => ?_) (fun c => absurd c (by decide))
        refine jt_iinc (v := (1 : Int32)) (lv' := [(7, _), (8, _), (0, _), (1, _), (2, _), (3, _), (5, _), (6, _)]) C dX1_number_166 7 rfl (by decide) (by decide) rfl ?_
        refine jt_goto (tgt := 66) C dX1_number_169 (by decide) ?_
        cases h
        exact jt_sub [2, 3, 4, 5, 6, 7, 0] rfl (h1 _ rfl _ _ _ rfl)
      · replace h := jm_ift c103 h
        refine jt_iconst (v := (1 : Int32)) C dX1_number_106 (by decide) ?_
        refine jt_goto (tgt := 111) C dX1_number_107 (by decide) ?_
        refine jt_istore (lv' := [(8, _), (0, _), (1, _), (2, _), (3, _), (5, _), (6, _), (7, _)]) C dX1_number_111 (by decide) rfl ?_
        refine jt_iload C dX1_number_113 0 rfl ?_
        refine jt_if_eq (tgt := 166) C dX1_number_115 (by decide) (fun c => absurd c (by decide)) (fun _ => ?_)
        refine jt_iload C dX1_number_118 6 rfl ?_
        refine jt_aload_n C dX1_number_120 rfl 1 rfl ?_
        refine jt_getR (Tf := TX1) (N := 6) C dX1_number_121 hr0 rfl i_1 2 (by decide) rfl m_RX1_22 rfl ?_
        refine jt_iload C dX1_number_124 7 rfl ?_
        obtain ⟨x4, ex4, h⟩ := jm_bind h
        refine jt_iald C dX1_number_126 (jm_f1_2 hr0) ex4 ?_
        refine jt_iand C dX1_number_127 ?_
        refine jt_if_ne (tgt := 166) C dX1_number_128 (by decide) (fun c128 => ?_) (fun c128 => ?_)
        · replace h := jm_iff c128 h
          refine jt_iinc (v := (1 : Int32)) (lv' := [(7, _), (8, _), (0, _), (1, _), (2, _), (3, _), (5, _), (6, _)]) C dX1_number_166 7 rfl (by decide) (by decide) rfl ?_
          refine jt_goto (tgt := 66) C dX1_number_169 (by decide) ?_
          cases h
          exact jt_sub [2, 3, 4, 5, 6, 7, 0] rfl (h1 _ rfl _ _ _ rfl)
        · replace h := jm_ift c128 h
          refine jt_iload C dX1_number_131 6 rfl ?_
          refine jt_iconst (v := (1 : Int32)) C dX1_number_133 (by decide) ?_
          refine jt_iload C dX1_number_134 7 rfl ?_
          refine jt_ishl C dX1_number_136 ?_
          refine jt_ior C dX1_number_137 ?_
          refine jt_istore (lv' := [(6, _), (8, _), (0, _), (1, _), (2, _), (3, _), (5, _), (7, _)]) C dX1_number_138 (by decide) rfl ?_
          refine jt_aload_n C dX1_number_140 rfl 2 rfl ?_
          refine jt_iload_n C dX1_number_141 rfl 3 rfl ?_
          refine jt_iconst (v := (1 : Int32)) C dX1_number_142 (by decide) ?_
          refine jt_iadd C dX1_number_143 ?_
          refine jt_iload_n C dX1_number_144 rfl 4 rfl ?_
          refine jt_iconst (v := (1 : Int32)) C dX1_number_145 (by decide) ?_
          refine jt_iload C dX1_number_146 7 rfl ?_
          refine jt_ishl C dX1_number_148 ?_
          refine jt_iconst (v := (-1 : Int32)) C dX1_number_149 (by decide) ?_
          refine jt_ixor C dX1_number_150 ?_
          refine jt_iand C dX1_number_151 ?_
          refine jt_lload_n C dX1_number_152 rfl 5 rfl ?_
          refine jt_iconst (v := (1 : Int32)) C dX1_number_153 (by decide) ?_
          refine jt_lshl C dX1_number_154 ?_
          refine jt_aload_n C dX1_number_155 rfl 2 rfl ?_
          refine jt_getR (Tf := TX1) (N := 6) C dX1_number_156 hr0 rfl i_1 1 (by decide) rfl m_RX1_18 rfl ?_
          refine jt_iload C dX1_number_159 7 rfl ?_
          obtain ⟨x5, ex5, h⟩ := jm_bind h
          refine jt_lald C dX1_number_161 (jm_f1_1 hr0) ex5 ?_
          refine jt_lor C dX1_number_162 ?_
          obtain ⟨M6, eM6, h⟩ := jm_bind h
          refine jt_callSv (As := [_, _, _, _]) (rest := []) C dX1_number_163 (hrec _ _ _ _ _ hr0 _ eM6) (k_goodIn (g_RX1_44)) rfl h_X1_number ⟨rfl, rfl, by simp only []; omega, by simp only []; omega⟩ rfl rfl (Nat.le_of_ble_eq_true rfl) ?_
          refine jt_iinc (v := (1 : Int32)) (lv' := [(7, _), (6, _), (8, _), (0, _), (1, _), (2, _), (3, _), (5, _)]) C dX1_number_166 7 rfl (by decide) (by decide) rfl ?_
          refine jt_goto (tgt := 66) C dX1_number_169 (by decide) ?_
          cases h
          exact jt_sub [3, 4, 5, 6, 7, 1, 0] rfl (h1 _ rfl _ _ _ rfl)
set_option maxHeartbeats 4000000 in
set_option maxRecDepth 100000 in
theorem s_X1_number (l : Launch) (k : jm_C) (d : Nat) (rec : Nat → Int32 → Int32 → Int64 → jm_M → Option (jm_M)) (hrec : ∀ (r0 : Nat) (v1 : Int32) (v2 : Int32) (v3 : Int64) (M : jm_M) (_ : jm_is r0 (3, 1)) (q : jm_M), rec r0 v1 v2 v3 M = some q → jm_Cv l k yX1_number w_X1_number { frames := 2 + d, cells := 0, slots := 0, locals := 40 * (2 + d) } [.ref (jm_ad k r0), .int v1, .int v2, .long v3] M q) (n : Nat) (r0 : Nat) (v1 : Int32) (v2 : Int32) (v3 : Int64) (M : jm_M) (hr0 : jm_is r0 (3, 1)) (q : jm_M) (h : X1_number_R rec n r0 v1 v2 v3 M = some q) : jm_Cv l k yX1_number w_X1_number { frames := 2 + (d + 1), cells := 0, slots := 0, locals := 40 * (2 + (d + 1)) } [.ref (jm_ad k r0), .int v1, .int v2, .long v3] M q := by
  refine jm_entry_v (cc := cX1_number) (nL := 9) (ret := none) (by decide) rfl (Nat.le_of_ble_eq_true rfl) ?_
  intro X hX C hQ hr
  subst hX
  unfold X1_number_R at h
  refine jt_iload_n C dX1_number_0 rfl 1 rfl ?_
  refine jt_if_lt (tgt := 15) C dX1_number_1 (by decide) (fun c1 => ?_) (fun c1 => ?_)
  · replace h := jm_ift c1 h
    cases h
    exact jt_vret C dX1_number_15 hQ hr
  · replace h := jm_iff c1 h
    refine jt_iload_n C dX1_number_4 rfl 1 rfl ?_
    refine jt_aload_n C dX1_number_5 rfl 0 rfl ?_
    refine jt_getR (Tf := TX1) (N := 6) C dX1_number_6 hr0 rfl i_1 0 (by decide) rfl m_RX1_12 rfl ?_
    refine jt_callVi (As := []) (rest := [_]) C (jm_f1_0 hr0) rfl dX1_number_9 (c_X4_size (jx_l X) k _ _ (jm_f1_0 hr0) _ rfl) (k_goodIn (g_RX1_40)) rfl h_X4_size ⟨rfl, rfl, by simp only []; omega, by simp only []; omega⟩ rfl rfl (Nat.le_of_ble_eq_true rfl) ?_
    refine jt_icmp_lt (tgt := 16) C dX1_number_12 (by decide) (fun c12 => ?_) (fun c12 => ?_)
    · replace h := jm_ift c12 h
      refine jt_aload_n C dX1_number_16 rfl 0 rfl ?_
      refine jt_iload_n C dX1_number_17 rfl 2 rfl ?_
      refine jt_lload_n C dX1_number_18 rfl 3 rfl ?_
      obtain ⟨x1, ex1, h⟩ := jm_bind h
      refine jt_callVi (As := [_, _]) (rest := []) C hr0 rfl dX1_number_19 (c_X1_leastColumn (jx_l X) k n _ _ _ _ hr0 _ ex1) (k_goodIn (g_RX1_62)) rfl h_X1_leastColumn ⟨rfl, rfl, by simp only []; omega, by simp only []; omega⟩ rfl rfl (Nat.le_of_ble_eq_true rfl) ?_
      refine jt_istore (lv' := [(5, _), (0, _), (1, _), (2, _), (3, _)]) C dX1_number_22 (by decide) rfl ?_
      refine jt_iload C dX1_number_24 0 rfl ?_
      refine jt_aload_n C dX1_number_26 rfl 1 rfl ?_
      refine jt_getR (Tf := TX1) (N := 6) C dX1_number_27 hr0 rfl i_1 3 (by decide) rfl m_RX1_26 rfl ?_
      refine jt_iload_n C dX1_number_30 rfl 2 rfl ?_
      obtain ⟨x2, ex2, h⟩ := jm_bind h
      refine jt_iald C dX1_number_31 (jm_f1_3 hr0) ex2 ?_
      refine jt_icmp_le (tgt := 36) C dX1_number_32 (by decide) (fun c32 => ?_) (fun c32 => ?_)
      · replace h := jm_ift c32 h
        refine jt_iload C dX1_number_36 0 rfl ?_
        refine jt_aload_n C dX1_number_38 rfl 1 rfl ?_
        refine jt_getR (Tf := TX1) (N := 6) C dX1_number_39 hr0 rfl i_1 3 (by decide) rfl m_RX1_26 rfl ?_
        refine jt_iload_n C dX1_number_42 rfl 2 rfl ?_
        obtain ⟨x3, ex3, h⟩ := jm_bind h
        refine jt_iald C dX1_number_43 (jm_f1_3 hr0) ex3 ?_
        refine jt_icmp_ge (tgt := 60) C dX1_number_44 (by decide) (fun c44 => ?_) (fun c44 => ?_)
        · replace h := jm_ift c44 h
          refine jt_iconst (v := (0 : Int32)) C dX1_number_60 (by decide) ?_
          refine jt_istore (lv' := [(6, _), (5, _), (0, _), (1, _), (2, _), (3, _)]) C dX1_number_61 (by decide) rfl ?_
          refine jt_iconst (v := (0 : Int32)) C dX1_number_63 (by decide) ?_
          refine jt_istore (lv' := [(7, _), (6, _), (5, _), (0, _), (1, _), (2, _), (3, _)]) C dX1_number_64 (by decide) rfl ?_
          obtain ⟨q7, eq7, h⟩ := jm_bind h
          refine jt_sub [3, 4, 5, 6, 2, 1, 0] rfl ?_
          refine t_X1_number_L66 C d rec hrec n _ _ _ _ _ hr0 n _ _ eq7 ?_ _ _ _ rfl
          cases h
          exact jt_vret C dX1_number_172 hQ hr
        · replace h := jm_iff c44 h
          refine jt_aload_n C dX1_number_47 rfl 1 rfl ?_
          refine jt_iload_n C dX1_number_48 rfl 2 rfl ?_
          obtain ⟨M8, eM8, h⟩ := jm_bind h
          refine jt_callVv (As := [_]) (rest := []) C hr0 rfl dX1_number_49 (c_X1_forgetFrom (jx_l X) k n _ _ _ hr0 _ eM8) (k_goodIn (g_RX1_54)) rfl h_X1_forgetFrom ⟨rfl, rfl, by simp only []; omega, by simp only []; omega⟩ rfl rfl (Nat.le_of_ble_eq_true rfl) ?_
          refine jt_aload_n C dX1_number_52 rfl 1 rfl ?_
          refine jt_getR (Tf := TX1) (N := 6) C dX1_number_53 hr0 rfl i_1 3 (by decide) rfl m_RX1_26 rfl ?_
          refine jt_iload_n C dX1_number_56 rfl 2 rfl ?_
          refine jt_iload C dX1_number_57 0 rfl ?_
          obtain ⟨M9, eM9, h⟩ := jm_bind h
          refine jt_iast C dX1_number_59 (jm_f1_3 hr0) eM9 ?_
          refine jt_iconst (v := (0 : Int32)) C dX1_number_60 (by decide) ?_
          refine jt_istore (lv' := [(6, _), (5, _), (0, _), (1, _), (2, _), (3, _)]) C dX1_number_61 (by decide) rfl ?_
          refine jt_iconst (v := (0 : Int32)) C dX1_number_63 (by decide) ?_
          refine jt_istore (lv' := [(7, _), (6, _), (5, _), (0, _), (1, _), (2, _), (3, _)]) C dX1_number_64 (by decide) rfl ?_
          obtain ⟨q10, eq10, h⟩ := jm_bind h
          refine jt_sub [3, 4, 5, 6, 2, 1, 0] rfl ?_
          refine t_X1_number_L66 C d rec hrec n _ _ _ _ _ hr0 n _ _ eq10 ?_ _ _ _ rfl
          cases h
          exact jt_vret C dX1_number_172 hQ hr
      · replace h := jm_iff c32 h
        cases h
        exact jt_vret C dX1_number_35 hQ hr
    · replace h := jm_iff c12 h
      cases h
      exact jt_vret C dX1_number_15 hQ hr
theorem c_X1_number_d (l : Launch) (k : jm_C) (n : Nat) : ∀ (d : Nat) (r0 : Nat) (v1 : Int32) (v2 : Int32) (v3 : Int64) (M : jm_M) (hr0 : jm_is r0 (3, 1)) (q : jm_M), X1_number d n r0 v1 v2 v3 M = some q → jm_Cv l k yX1_number w_X1_number { frames := 2 + d, cells := 0, slots := 0, locals := 40 * (2 + d) } [.ref (jm_ad k r0), .int v1, .int v2, .long v3] M q
  | 0, _, _, _, _, _, _, _, h => by cases h
  | d + 1, r0, v1, v2, v3, M, h0, _, h => s_X1_number l k d (X1_number d n) (c_X1_number_d l k n d) n r0 v1 v2 v3 M h0 _ h
theorem c_X1_number (l : Launch) (k : jm_C) (n : Nat) (r0 : Nat) (v1 : Int32) (v2 : Int32) (v3 : Int64) (M : jm_M) (hr0 : jm_is r0 (3, 1)) (q : jm_M) (h : X1_number 12 n r0 v1 v2 v3 M = some q) : jm_Cv l k yX1_number w_X1_number { frames := 14, cells := 0, slots := 0, locals := 560 } [.ref (jm_ad k r0), .int v1, .int v2, .long v3] M q := c_X1_number_d l k n 12 r0 v1 v2 v3 M hr0 q h
theorem h_X1_prepare : yX1_prepare.cls = RX1 ∧ yX1_prepare.cls ≠ "java/lang/invoke/MethodHandle" ∧ yX1_prepare.cls ≠ "java/lang/invoke/VarHandle" ∧ (parseMethodDescriptor yX1_prepare.desc).map (fun d => d.parameters.length) = some 2 := by decide +kernel
set_option maxHeartbeats 4000000 in
set_option maxRecDepth 100000 in
theorem t_X1_prepare_L49 {X : jm_X} {k : jm_C} (C : jm_Cx X k cX1_prepare 7 RX1 w_X1_prepare) (r0 : Nat) (v3 : Int32) (v4 : Int32) (hr0 : jm_is r0 (3, 1)) : ∀ (m : Nat) (s : Int32 × jm_M) (r : jm_M), jm_loop (X1_prepare_B49 r0 v3 v4) m s = some r → jm_T X { frames := 1, cells := 0, slots := 0, locals := 40 } k 7 r 136 [(0, .ref (jm_ad k r0)), (3, .int v3)] [] → (∀ (b0 : Int32) (b1 : jm_M), s = (b0, b1) → jm_T X { frames := 1, cells := 0, slots := 0, locals := 40 } k 7 b1 49 [(0, .ref (jm_ad k r0)), (3, .int v3), (4, .int v4), (5, .int b0)] []) := by
  refine jm_loop_ind (P := fun (s : Int32 × jm_M) => (∀ (b0 : Int32) (b1 : jm_M), s = (b0, b1) → jm_T X { frames := 1, cells := 0, slots := 0, locals := 40 } k 7 b1 49 [(0, .ref (jm_ad k r0)), (3, .int v3), (4, .int v4), (5, .int b0)] [])) (K := fun (r : jm_M) => jm_T X { frames := 1, cells := 0, slots := 0, locals := 40 } k 7 r 136 [(0, .ref (jm_ad k r0)), (3, .int v3)] []) ?_
  intro s q h h1 h2
  intro b0 b1 hs
  subst hs
  unfold X1_prepare_B49 at h
  try dsimp only at h
  refine jt_iload C dX1_prepare_49 3 rfl ?_
  refine jt_bipush (v := (8 : Int32)) C dX1_prepare_51 (by decide) ?_
  refine jt_icmp_ge (tgt := 136) C dX1_prepare_53 (by decide) (fun c53 => ?_) (fun c53 => ?_)
  · replace h := jm_ift c53 h
    cases h
    exact jt_sub [0, 1] rfl (h2 _ rfl)
  · replace h := jm_iff c53 h
    refine jt_aload_n C dX1_prepare_56 rfl 0 rfl ?_
    refine jt_getR (Tf := TX1) (N := 6) C dX1_prepare_57 hr0 rfl i_1 1 (by decide) rfl m_RX1_18 rfl ?_
    refine jt_iload_n C dX1_prepare_60 rfl 1 rfl ?_
    refine jt_dup2 C dX1_prepare_61 rfl rfl ?_
    obtain ⟨x6, ex6, h⟩ := jm_bind h
    refine jt_lald C dX1_prepare_62 (jm_f1_1 hr0) ex6 ?_
    refine jt_iload C dX1_prepare_63 2 rfl ?_
    refine jt_iload C dX1_prepare_65 3 rfl ?_
    refine jt_ishr C dX1_prepare_67 ?_
    refine jt_iconst (v := (1 : Int32)) C dX1_prepare_68 (by decide) ?_
    refine jt_iand C dX1_prepare_69 ?_
    refine jt_i2l C dX1_prepare_70 ?_
    refine jt_bipush (v := (8 : Int32)) C dX1_prepare_71 (by decide) ?_
    refine jt_iload C dX1_prepare_73 3 rfl ?_
    refine jt_imul C dX1_prepare_75 ?_
    refine jt_lshl C dX1_prepare_76 ?_
    refine jt_lor C dX1_prepare_77 ?_
    obtain ⟨M7, eM7, h⟩ := jm_bind h
    refine jt_last C dX1_prepare_78 (jm_f1_1 hr0) eM7 ?_
    refine jt_iconst (v := (1 : Int32)) C dX1_prepare_79 (by decide) ?_
    refine jt_iload C dX1_prepare_80 3 rfl ?_
    refine jt_ishl C dX1_prepare_82 ?_
    refine jt_iconst (v := (1 : Int32)) C dX1_prepare_83 (by decide) ?_
    refine jt_iload_n C dX1_prepare_84 rfl 1 rfl ?_
    refine jt_ishl C dX1_prepare_85 ?_
    refine jt_ior C dX1_prepare_86 ?_
    refine jt_iconst (v := (-1 : Int32)) C dX1_prepare_87 (by decide) ?_
    refine jt_ixor C dX1_prepare_88 ?_
    refine jt_istore (lv' := [(6, _), (0, _), (3, _), (4, _), (5, _)]) C dX1_prepare_89 (by decide) rfl ?_
    refine jt_iload C dX1_prepare_91 4 rfl ?_
    refine jt_iload_n C dX1_prepare_93 rfl 2 rfl ?_
    refine jt_icmp_ge (tgt := 130) C dX1_prepare_94 (by decide) (fun c94 => ?_) (fun c94 => ?_)
    · replace h := jm_ift c94 h
      refine jt_iinc (v := (1 : Int32)) (lv' := [(5, _), (6, _), (0, _), (3, _), (4, _)]) C dX1_prepare_130 4 rfl (by decide) (by decide) rfl ?_
      refine jt_goto (tgt := 49) C dX1_prepare_133 (by decide) ?_
      cases h
      exact jt_sub [2, 3, 4, 0] rfl (h1 _ rfl _ _ rfl)
    · replace h := jm_iff c94 h
      refine jt_iload C dX1_prepare_97 3 rfl ?_
      refine jt_iload C dX1_prepare_99 0 rfl ?_
      refine jt_iand C dX1_prepare_101 ?_
      refine jt_aload_n C dX1_prepare_102 rfl 1 rfl ?_
      refine jt_getR (Tf := TX1) (N := 6) C dX1_prepare_103 hr0 rfl i_1 0 (by decide) rfl m_RX1_12 rfl ?_
      refine jt_iload C dX1_prepare_106 4 rfl ?_
      obtain ⟨x8, ex8, h⟩ := jm_bind h
      refine jt_callVi (As := [_]) (rest := [_]) C (jm_f1_0 hr0) rfl dX1_prepare_108 (c_X4_row (jx_l X) k _ _ _ (jm_f1_0 hr0) _ ex8) (k_goodIn (g_RX1_58)) rfl h_X4_row ⟨rfl, rfl, Nat.le_of_ble_eq_true rfl, Nat.le_of_ble_eq_true rfl⟩ rfl rfl (Nat.le_of_ble_eq_true rfl) ?_
      refine jt_iload C dX1_prepare_111 0 rfl ?_
      refine jt_iand C dX1_prepare_113 ?_
      refine jt_icmp_ne (tgt := 130) C dX1_prepare_114 (by decide) (fun c114 => ?_) (fun c114 => ?_)
      · replace h := jm_iff c114 h
        refine jt_iinc (v := (1 : Int32)) (lv' := [(5, _), (6, _), (0, _), (3, _), (4, _)]) C dX1_prepare_130 4 rfl (by decide) (by decide) rfl ?_
        refine jt_goto (tgt := 49) C dX1_prepare_133 (by decide) ?_
        cases h
        exact jt_sub [2, 3, 4, 0] rfl (h1 _ rfl _ _ rfl)
      · replace h := jm_ift c114 h
        refine jt_aload_n C dX1_prepare_117 rfl 1 rfl ?_
        refine jt_getR (Tf := TX1) (N := 6) C dX1_prepare_118 hr0 rfl i_1 2 (by decide) rfl m_RX1_22 rfl ?_
        refine jt_iload_n C dX1_prepare_121 rfl 2 rfl ?_
        refine jt_dup2 C dX1_prepare_122 rfl rfl ?_
        obtain ⟨x9, ex9, h⟩ := jm_bind h
        refine jt_iald C dX1_prepare_123 (jm_f1_2 hr0) ex9 ?_
        refine jt_iconst (v := (1 : Int32)) C dX1_prepare_124 (by decide) ?_
        refine jt_iload C dX1_prepare_125 4 rfl ?_
        refine jt_ishl C dX1_prepare_127 ?_
        refine jt_ior C dX1_prepare_128 ?_
        obtain ⟨M10, eM10, h⟩ := jm_bind h
        refine jt_iast C dX1_prepare_129 (jm_f1_2 hr0) eM10 ?_
        refine jt_iinc (v := (1 : Int32)) (lv' := [(5, _), (6, _), (0, _), (3, _), (4, _)]) C dX1_prepare_130 4 rfl (by decide) (by decide) rfl ?_
        refine jt_goto (tgt := 49) C dX1_prepare_133 (by decide) ?_
        cases h
        exact jt_sub [2, 3, 4, 0] rfl (h1 _ rfl _ _ rfl)
set_option maxHeartbeats 4000000 in
set_option maxRecDepth 100000 in
theorem t_X1_prepare_L16 {X : jm_X} {k : jm_C} (C : jm_Cx X k cX1_prepare 7 RX1 w_X1_prepare) (n : Nat) (r0 : Nat) (hr0 : jm_is r0 (3, 1)) : ∀ (m : Nat) (s : Int32 × jm_M) (r : jm_M), jm_loop (X1_prepare_B16 n r0) m s = some r → jm_T X { frames := 1, cells := 0, slots := 0, locals := 40 } k 7 r 142 [] [] → (∀ (b0 : Int32) (b1 : jm_M), s = (b0, b1) → jm_T X { frames := 1, cells := 0, slots := 0, locals := 40 } k 7 b1 16 [(0, .ref (jm_ad k r0)), (3, .int b0)] []) := by
  refine jm_loop_ind (P := fun (s : Int32 × jm_M) => (∀ (b0 : Int32) (b1 : jm_M), s = (b0, b1) → jm_T X { frames := 1, cells := 0, slots := 0, locals := 40 } k 7 b1 16 [(0, .ref (jm_ad k r0)), (3, .int b0)] [])) (K := fun (r : jm_M) => jm_T X { frames := 1, cells := 0, slots := 0, locals := 40 } k 7 r 142 [] []) ?_
  intro s q h h1 h2
  intro b0 b1 hs
  subst hs
  unfold X1_prepare_B16 at h
  try dsimp only at h
  refine jt_iload_n C dX1_prepare_16 rfl 1 rfl ?_
  refine jt_bipush (v := (8 : Int32)) C dX1_prepare_17 (by decide) ?_
  refine jt_icmp_ge (tgt := 142) C dX1_prepare_19 (by decide) (fun c19 => ?_) (fun c19 => ?_)
  · replace h := jm_ift c19 h
    cases h
    exact jt_sub [] rfl (h2 _ rfl)
  · replace h := jm_iff c19 h
    refine jt_aload_n C dX1_prepare_22 rfl 0 rfl ?_
    refine jt_getR (Tf := TX1) (N := 6) C dX1_prepare_23 hr0 rfl i_1 0 (by decide) rfl m_RX1_12 rfl ?_
    refine jt_iload_n C dX1_prepare_26 rfl 1 rfl ?_
    obtain ⟨x3, ex3, h⟩ := jm_bind h
    refine jt_callVi (As := [_]) (rest := []) C (jm_f1_0 hr0) rfl dX1_prepare_27 (c_X4_row (jx_l X) k _ _ _ (jm_f1_0 hr0) _ ex3) (k_goodIn (g_RX1_58)) rfl h_X4_row ⟨rfl, rfl, Nat.le_of_ble_eq_true rfl, Nat.le_of_ble_eq_true rfl⟩ rfl rfl (Nat.le_of_ble_eq_true rfl) ?_
    refine jt_istore (lv' := [(4, _), (0, _), (3, _)]) C dX1_prepare_30 (by decide) rfl ?_
    refine jt_aload_n C dX1_prepare_32 rfl 1 rfl ?_
    refine jt_getR (Tf := TX1) (N := 6) C dX1_prepare_33 hr0 rfl i_1 1 (by decide) rfl m_RX1_18 rfl ?_
    refine jt_iload_n C dX1_prepare_36 rfl 2 rfl ?_
    refine jt_lconst (v := 0) C dX1_prepare_37 (by decide) ?_
    obtain ⟨M4, eM4, h⟩ := jm_bind h
    refine jt_last C dX1_prepare_38 (jm_f1_1 hr0) eM4 ?_
    refine jt_aload_n C dX1_prepare_39 rfl 1 rfl ?_
    refine jt_getR (Tf := TX1) (N := 6) C dX1_prepare_40 hr0 rfl i_1 2 (by decide) rfl m_RX1_22 rfl ?_
    refine jt_iload_n C dX1_prepare_43 rfl 2 rfl ?_
    refine jt_iconst (v := (0 : Int32)) C dX1_prepare_44 (by decide) ?_
    obtain ⟨M5, eM5, h⟩ := jm_bind h
    refine jt_iast C dX1_prepare_45 (jm_f1_2 hr0) eM5 ?_
    refine jt_iconst (v := (0 : Int32)) C dX1_prepare_46 (by decide) ?_
    refine jt_istore (lv' := [(5, _), (4, _), (0, _), (3, _)]) C dX1_prepare_47 (by decide) rfl ?_
    obtain ⟨q11, eq11, h⟩ := jm_bind h
    refine jt_sub [2, 3, 1, 0] rfl ?_
    refine t_X1_prepare_L49 C _ _ _ hr0 n _ _ eq11 ?_ _ _ rfl
    refine jt_iinc (v := (1 : Int32)) (lv' := [(3, _), (0, _)]) C dX1_prepare_136 1 rfl (by decide) (by decide) rfl ?_
    refine jt_goto (tgt := 16) C dX1_prepare_139 (by decide) ?_
    cases h
    exact jt_sub [1, 0] rfl (h1 _ rfl _ _ rfl)
set_option maxHeartbeats 4000000 in
set_option maxRecDepth 100000 in
theorem c_X1_prepare (l : Launch) (k : jm_C) (n : Nat) (r0 : Nat) (v1 : Int32) (v2 : Int32) (M : jm_M) (hr0 : jm_is r0 (3, 1)) (q : jm_M) (h : X1_prepare n r0 v1 v2 M = some q) : jm_Cv l k yX1_prepare w_X1_prepare { frames := 1, cells := 0, slots := 0, locals := 40 } [.ref (jm_ad k r0), .int v1, .int v2] M q := by
  refine jm_entry_v (cc := cX1_prepare) (nL := 7) (ret := none) (by decide) rfl (Nat.le_of_ble_eq_true rfl) ?_
  intro X hX C hQ hr
  subst hX
  unfold X1_prepare at h
  refine jt_aload_n C dX1_prepare_0 rfl 0 rfl ?_
  refine jt_getR (Tf := TX1) (N := 6) C dX1_prepare_1 hr0 rfl i_1 0 (by decide) rfl m_RX1_12 rfl ?_
  refine jt_iload_n C dX1_prepare_4 rfl 1 rfl ?_
  refine jt_iload_n C dX1_prepare_5 rfl 2 rfl ?_
  obtain ⟨M1, eM1, h⟩ := jm_bind h
  refine jt_callVv (As := [_, _]) (rest := []) C (jm_f1_0 hr0) rfl dX1_prepare_6 (c_X4_load (jx_l X) k n _ _ _ _ (jm_f1_0 hr0) _ eM1) (k_goodIn (g_RX1_51)) rfl h_X4_load ⟨rfl, rfl, Nat.le_of_ble_eq_true rfl, Nat.le_of_ble_eq_true rfl⟩ rfl rfl (Nat.le_of_ble_eq_true rfl) ?_
  refine jt_aload_n C dX1_prepare_9 rfl 0 rfl ?_
  refine jt_iconst (v := (0 : Int32)) C dX1_prepare_10 (by decide) ?_
  obtain ⟨M2, eM2, h⟩ := jm_bind h
  refine jt_callVv (As := [_]) (rest := []) C hr0 rfl dX1_prepare_11 (c_X1_forgetFrom (jx_l X) k n _ _ _ hr0 _ eM2) (k_goodIn (g_RX1_54)) rfl h_X1_forgetFrom ⟨rfl, rfl, Nat.le_of_ble_eq_true rfl, Nat.le_of_ble_eq_true rfl⟩ rfl rfl (Nat.le_of_ble_eq_true rfl) ?_
  refine jt_iconst (v := (0 : Int32)) C dX1_prepare_14 (by decide) ?_
  refine jt_istore_n (lv' := [(3, _), (0, _), (1, _), (2, _)]) C dX1_prepare_15 rfl (by decide) rfl ?_
  obtain ⟨q12, eq12, h⟩ := jm_bind h
  refine jt_sub [1, 0] rfl ?_
  refine t_X1_prepare_L16 C n _ hr0 n _ _ eq12 ?_ _ _ rfl
  cases h
  exact jt_vret C dX1_prepare_142 hQ hr
theorem h_X1_of : yX1_of.cls = RX1 ∧ yX1_of.cls ≠ "java/lang/invoke/MethodHandle" ∧ yX1_of.cls ≠ "java/lang/invoke/VarHandle" ∧ (parseMethodDescriptor yX1_of.desc).map (fun d => d.parameters.length) = some 2 := by decide +kernel
set_option maxHeartbeats 4000000 in
set_option maxRecDepth 100000 in
theorem c_X1_of (l : Launch) (k : jm_C) (n : Nat) (r0 : Nat) (v1 : Int32) (v2 : Int32) (M : jm_M) (hr0 : jm_is r0 (3, 1)) (q1 : Int32) (q2 : jm_M) (h : X1_of n r0 v1 v2 M = some (q1, q2)) : jm_Ci l k yX1_of w_X1_of { frames := 15, cells := 0, slots := 0, locals := 600 } [.ref (jm_ad k r0), .int v1, .int v2] M q1 q2 := by
  refine jm_entry_i (cc := cX1_of) (nL := 5) (ret := (some .int)) (by decide) rfl (Nat.le_of_ble_eq_true rfl) ?_
  intro X hX C hQ hr
  subst hX
  unfold X1_of at h
  refine jt_iload_n C dX1_of_0 rfl 1 rfl ?_
  refine jt_bipush (v := (28 : Int32)) C dX1_of_1 (by decide) ?_
  refine jt_ishl C dX1_of_3 ?_
  refine jt_iload_n C dX1_of_4 rfl 2 rfl ?_
  refine jt_ior C dX1_of_5 ?_
  refine jt_istore_n (lv' := [(3, _), (0, _), (1, _), (2, _)]) C dX1_of_6 rfl (by decide) rfl ?_
  refine jt_iload_n C dX1_of_7 rfl 0 rfl ?_
  refine jt_ldc (v := (-1640531535 : Int32)) C dX1_of_8 (List.mem_cons_of_mem _ k_c_RX1_35) ?_
  refine jt_imul C dX1_of_10 ?_
  refine jt_bipush (v := (21 : Int32)) C dX1_of_11 (by decide) ?_
  refine jt_iushr C dX1_of_13 ?_
  refine jt_istore (lv' := [(4, _), (3, _), (0, _), (1, _), (2, _)]) C dX1_of_14 (by decide) rfl ?_
  refine jt_aload_n C dX1_of_16 rfl 2 rfl ?_
  refine jt_getR (Tf := TX1) (N := 6) C dX1_of_17 hr0 rfl i_1 4 (by decide) rfl m_RX1_29 rfl ?_
  refine jt_iload C dX1_of_20 0 rfl ?_
  obtain ⟨x1, ex1, h⟩ := jm_bind h
  refine jt_iald C dX1_of_22 (jm_f1_4 hr0) ex1 ?_
  refine jt_iload_n C dX1_of_23 rfl 1 rfl ?_
  refine jt_icmp_eq (tgt := 69) C dX1_of_24 (by decide) (fun c24 => ?_) (fun c24 => ?_)
  · replace h := jm_ift c24 h
    refine jt_aload_n C dX1_of_69 rfl 2 rfl ?_
    refine jt_getR (Tf := TX1) (N := 6) C dX1_of_70 hr0 rfl i_1 5 (by decide) rfl m_RX1_32 rfl ?_
    refine jt_iload C dX1_of_73 0 rfl ?_
    obtain ⟨x2, ex2, h⟩ := jm_bind h
    refine jt_iald C dX1_of_75 (jm_f1_5 hr0) ex2 ?_
    cases h
    exact jt_iret C dX1_of_76 hQ hr
  · replace h := jm_iff c24 h
    refine jt_aload_n C dX1_of_27 rfl 2 rfl ?_
    refine jt_iload_n C dX1_of_28 rfl 3 rfl ?_
    refine jt_iload_n C dX1_of_29 rfl 4 rfl ?_
    obtain ⟨M3, eM3, h⟩ := jm_bind h
    refine jt_callVv (As := [_, _]) (rest := []) C hr0 rfl dX1_of_30 (c_X1_prepare (jx_l X) k n _ _ _ _ hr0 _ eM3) (k_goodIn (g_RX1_36)) rfl h_X1_prepare ⟨rfl, rfl, Nat.le_of_ble_eq_true rfl, Nat.le_of_ble_eq_true rfl⟩ rfl rfl (Nat.le_of_ble_eq_true rfl) ?_
    refine jt_aload_n C dX1_of_33 rfl 2 rfl ?_
    refine jt_iconst (v := (0 : Int32)) C dX1_of_34 (by decide) ?_
    refine jt_iconst (v := (1 : Int32)) C dX1_of_35 (by decide) ?_
    refine jt_aload_n C dX1_of_36 rfl 2 rfl ?_
    refine jt_getR (Tf := TX1) (N := 6) C dX1_of_37 hr0 rfl i_1 0 (by decide) rfl m_RX1_12 rfl ?_
    refine jt_callVi (As := []) (rest := [_, _, _]) C (jm_f1_0 hr0) rfl dX1_of_40 (c_X4_size (jx_l X) k _ _ (jm_f1_0 hr0) _ rfl) (k_goodIn (g_RX1_40)) rfl h_X4_size ⟨rfl, rfl, Nat.le_of_ble_eq_true rfl, Nat.le_of_ble_eq_true rfl⟩ rfl rfl (Nat.le_of_ble_eq_true rfl) ?_
    refine jt_ishl C dX1_of_43 ?_
    refine jt_iconst (v := (1 : Int32)) C dX1_of_44 (by decide) ?_
    refine jt_isub C dX1_of_45 ?_
    refine jt_lconst (v := 0) C dX1_of_46 (by decide) ?_
    obtain ⟨M4, eM4, h⟩ := jm_bind h
    refine jt_callSv (As := [_, _, _, _]) (rest := []) C dX1_of_47 (c_X1_number (jx_l X) k n _ _ _ _ _ hr0 _ eM4) (k_goodIn (g_RX1_44)) rfl h_X1_number ⟨rfl, rfl, Nat.le_of_ble_eq_true rfl, Nat.le_of_ble_eq_true rfl⟩ rfl rfl (Nat.le_of_ble_eq_true rfl) ?_
    refine jt_aload_n C dX1_of_50 rfl 2 rfl ?_
    refine jt_getR (Tf := TX1) (N := 6) C dX1_of_51 hr0 rfl i_1 4 (by decide) rfl m_RX1_29 rfl ?_
    refine jt_iload C dX1_of_54 0 rfl ?_
    refine jt_iload_n C dX1_of_56 rfl 1 rfl ?_
    obtain ⟨M5, eM5, h⟩ := jm_bind h
    refine jt_iast C dX1_of_57 (jm_f1_4 hr0) eM5 ?_
    refine jt_aload_n C dX1_of_58 rfl 2 rfl ?_
    refine jt_getR (Tf := TX1) (N := 6) C dX1_of_59 hr0 rfl i_1 5 (by decide) rfl m_RX1_32 rfl ?_
    refine jt_iload C dX1_of_62 0 rfl ?_
    refine jt_aload_n C dX1_of_64 rfl 2 rfl ?_
    obtain ⟨x6, ex6, h⟩ := jm_bind h
    refine jt_callVi (As := []) (rest := [_, _]) C hr0 rfl dX1_of_65 (c_X1_bestCode (jx_l X) k n _ _ hr0 _ ex6) (k_goodIn (g_RX1_48)) rfl h_X1_bestCode ⟨rfl, rfl, Nat.le_of_ble_eq_true rfl, Nat.le_of_ble_eq_true rfl⟩ rfl rfl (Nat.le_of_ble_eq_true rfl) ?_
    obtain ⟨M7, eM7, h⟩ := jm_bind h
    refine jt_iast C dX1_of_68 (jm_f1_5 hr0) eM7 ?_
    refine jt_aload_n C dX1_of_69 rfl 2 rfl ?_
    refine jt_getR (Tf := TX1) (N := 6) C dX1_of_70 hr0 rfl i_1 5 (by decide) rfl m_RX1_32 rfl ?_
    refine jt_iload C dX1_of_73 0 rfl ?_
    obtain ⟨x8, ex8, h⟩ := jm_bind h
    refine jt_iald C dX1_of_75 (jm_f1_5 hr0) ex8 ?_
    cases h
    exact jt_iret C dX1_of_76 hQ hr
theorem h_X4_neighboursOf : yX4_neighboursOf.cls = RX4 ∧ yX4_neighboursOf.cls ≠ "java/lang/invoke/MethodHandle" ∧ yX4_neighboursOf.cls ≠ "java/lang/invoke/VarHandle" ∧ (parseMethodDescriptor yX4_neighboursOf.desc).map (fun d => d.parameters.length) = some 1 := by decide +kernel
set_option maxHeartbeats 4000000 in
set_option maxRecDepth 100000 in
theorem t_X4_neighboursOf_L4 {X : jm_X} {k : jm_C} (C : jm_Cx X k cX4_neighboursOf 4 RX4 w_X4_neighboursOf) (r0 : Nat) (v1 : Int32) (M : jm_M) (hr0 : jm_is r0 (3, 4)) : ∀ (m : Nat) (s : Int32 × Int32) (r : Int32), jm_loop (X4_neighboursOf_B4 r0 v1 M) m s = some r → jm_T X { frames := 0, cells := 0, slots := 0, locals := 0 } k 4 M 36 [(2, .int r)] [] → (∀ (b0 : Int32) (b1 : Int32), s = (b0, b1) → jm_T X { frames := 0, cells := 0, slots := 0, locals := 0 } k 4 M 4 [(0, .ref (jm_ad k r0)), (1, .int v1), (2, .int b0), (3, .int b1)] []) := by
  refine jm_loop_ind (P := fun (s : Int32 × Int32) => (∀ (b0 : Int32) (b1 : Int32), s = (b0, b1) → jm_T X { frames := 0, cells := 0, slots := 0, locals := 0 } k 4 M 4 [(0, .ref (jm_ad k r0)), (1, .int v1), (2, .int b0), (3, .int b1)] [])) (K := fun (r : Int32) => jm_T X { frames := 0, cells := 0, slots := 0, locals := 0 } k 4 M 36 [(2, .int r)] []) ?_
  intro s q h h1 h2
  intro b0 b1 hs
  subst hs
  unfold X4_neighboursOf_B4 at h
  try dsimp only at h
  refine jt_iload_n C dX4_neighboursOf_4 rfl 3 rfl ?_
  refine jt_aload_n C dX4_neighboursOf_5 rfl 0 rfl ?_
  refine jt_getI (Tf := TX4) (N := 2) C dX4_neighboursOf_6 hr0 rfl i_4 1 (by decide) rfl m_RX4_15 rfl ?_
  refine jt_icmp_ge (tgt := 36) C dX4_neighboursOf_9 (by decide) (fun c9 => ?_) (fun c9 => ?_)
  · replace h := jm_ift c9 h
    cases h
    exact jt_sub [2] rfl (h2 _ rfl)
  · replace h := jm_iff c9 h
    refine jt_iload_n C dX4_neighboursOf_12 rfl 1 rfl ?_
    refine jt_iload_n C dX4_neighboursOf_13 rfl 3 rfl ?_
    refine jt_ishr C dX4_neighboursOf_14 ?_
    refine jt_iconst (v := (1 : Int32)) C dX4_neighboursOf_15 (by decide) ?_
    refine jt_iand C dX4_neighboursOf_16 ?_
    refine jt_iconst (v := (1 : Int32)) C dX4_neighboursOf_17 (by decide) ?_
    refine jt_icmp_ne (tgt := 30) C dX4_neighboursOf_18 (by decide) (fun c18 => ?_) (fun c18 => ?_)
    · replace h := jm_iff c18 h
      refine jt_iinc (v := (1 : Int32)) (lv' := [(3, _), (0, _), (1, _), (2, _)]) C dX4_neighboursOf_30 3 rfl (by decide) (by decide) rfl ?_
      refine jt_goto (tgt := 4) C dX4_neighboursOf_33 (by decide) ?_
      cases h
      exact jt_sub [1, 2, 3, 0] rfl (h1 _ rfl _ _ rfl)
    · replace h := jm_ift c18 h
      refine jt_iload_n C dX4_neighboursOf_21 rfl 2 rfl ?_
      refine jt_aload_n C dX4_neighboursOf_22 rfl 0 rfl ?_
      refine jt_getR (Tf := TX4) (N := 2) C dX4_neighboursOf_23 hr0 rfl i_4 0 (by decide) rfl m_RX4_9 rfl ?_
      refine jt_iload_n C dX4_neighboursOf_26 rfl 3 rfl ?_
      obtain ⟨x1, ex1, h⟩ := jm_bind h
      refine jt_iald C dX4_neighboursOf_27 (jm_f4_0 hr0) ex1 ?_
      refine jt_ior C dX4_neighboursOf_28 ?_
      refine jt_istore_n (lv' := [(2, _), (0, _), (1, _), (3, _)]) C dX4_neighboursOf_29 rfl (by decide) rfl ?_
      refine jt_iinc (v := (1 : Int32)) (lv' := [(3, _), (2, _), (0, _), (1, _)]) C dX4_neighboursOf_30 3 rfl (by decide) (by decide) rfl ?_
      refine jt_goto (tgt := 4) C dX4_neighboursOf_33 (by decide) ?_
      cases h
      exact jt_sub [2, 3, 1, 0] rfl (h1 _ rfl _ _ rfl)
set_option maxHeartbeats 4000000 in
set_option maxRecDepth 100000 in
theorem c_X4_neighboursOf (l : Launch) (k : jm_C) (n : Nat) (r0 : Nat) (v1 : Int32) (M : jm_M) (hr0 : jm_is r0 (3, 4)) (q : Int32) (h : X4_neighboursOf n r0 v1 M = some q) : jm_Ci l k yX4_neighboursOf w_X4_neighboursOf { frames := 0, cells := 0, slots := 0, locals := 0 } [.ref (jm_ad k r0), .int v1] M q M := by
  refine jm_entry_i (cc := cX4_neighboursOf) (nL := 4) (ret := (some .int)) (by decide) rfl (Nat.le_of_ble_eq_true rfl) ?_
  intro X hX C hQ hr
  subst hX
  unfold X4_neighboursOf at h
  refine jt_iconst (v := (0 : Int32)) C dX4_neighboursOf_0 (by decide) ?_
  refine jt_istore_n (lv' := [(2, _), (0, _), (1, _)]) C dX4_neighboursOf_1 rfl (by decide) rfl ?_
  refine jt_iconst (v := (0 : Int32)) C dX4_neighboursOf_2 (by decide) ?_
  refine jt_istore_n (lv' := [(3, _), (2, _), (0, _), (1, _)]) C dX4_neighboursOf_3 rfl (by decide) rfl ?_
  obtain ⟨q2, eq2, h⟩ := jm_bind h
  refine jt_sub [2, 3, 1, 0] rfl ?_
  refine t_X4_neighboursOf_L4 C _ _ _ hr0 n _ _ eq2 ?_ _ _ rfl
  refine jt_iload_n C dX4_neighboursOf_36 rfl 0 rfl ?_
  cases h
  exact jt_iret C dX4_neighboursOf_37 hQ hr
theorem h_X4_reachedFrom : yX4_reachedFrom.cls = RX4 ∧ yX4_reachedFrom.cls ≠ "java/lang/invoke/MethodHandle" ∧ yX4_reachedFrom.cls ≠ "java/lang/invoke/VarHandle" ∧ (parseMethodDescriptor yX4_reachedFrom.desc).map (fun d => d.parameters.length) = some 1 := by decide +kernel
set_option maxHeartbeats 4000000 in
set_option maxRecDepth 100000 in
theorem t_X4_reachedFrom_L6 {X : jm_X} {k : jm_C} (C : jm_Cx X k cX4_reachedFrom 4 RX4 w_X4_reachedFrom) (n : Nat) (r0 : Nat) (M : jm_M) (hr0 : jm_is r0 (3, 4)) : ∀ (m : Nat) (s : Int32 × Int32) (r : Int32), jm_loop (X4_reachedFrom_B6 n r0 M) m s = some r → jm_T X { frames := 1, cells := 0, slots := 0, locals := 40 } k 4 M 28 [(2, .int r)] [] → (∀ (b0 : Int32) (b1 : Int32), s = (b0, b1) → jm_T X { frames := 1, cells := 0, slots := 0, locals := 40 } k 4 M 6 [(0, .ref (jm_ad k r0)), (2, .int b0), (3, .int b1)] []) := by
  refine jm_loop_ind (P := fun (s : Int32 × Int32) => (∀ (b0 : Int32) (b1 : Int32), s = (b0, b1) → jm_T X { frames := 1, cells := 0, slots := 0, locals := 40 } k 4 M 6 [(0, .ref (jm_ad k r0)), (2, .int b0), (3, .int b1)] [])) (K := fun (r : Int32) => jm_T X { frames := 1, cells := 0, slots := 0, locals := 40 } k 4 M 28 [(2, .int r)] []) ?_
  intro s q h h1 h2
  intro b0 b1 hs
  subst hs
  unfold X4_reachedFrom_B6 at h
  try dsimp only at h
  refine jt_iload_n C dX4_reachedFrom_6 rfl 2 rfl ?_
  refine jt_aload_n C dX4_reachedFrom_7 rfl 0 rfl ?_
  refine jt_getI (Tf := TX4) (N := 2) C dX4_reachedFrom_8 hr0 rfl i_4 1 (by decide) rfl m_RX4_15 rfl ?_
  refine jt_icmp_ge (tgt := 28) C dX4_reachedFrom_11 (by decide) (fun c11 => ?_) (fun c11 => ?_)
  · replace h := jm_ift c11 h
    cases h
    exact jt_sub [1] rfl (h2 _ rfl)
  · replace h := jm_iff c11 h
    refine jt_iload_n C dX4_reachedFrom_14 rfl 1 rfl ?_
    refine jt_aload_n C dX4_reachedFrom_15 rfl 0 rfl ?_
    refine jt_iload_n C dX4_reachedFrom_16 rfl 1 rfl ?_
    obtain ⟨x1, ex1, h⟩ := jm_bind h
    refine jt_callVi (As := [_]) (rest := [_]) C hr0 rfl dX4_reachedFrom_17 (c_X4_neighboursOf (jx_l X) k n _ _ _ hr0 _ ex1) (k_goodIn (g_RX4_38)) rfl h_X4_neighboursOf ⟨rfl, rfl, Nat.le_of_ble_eq_true rfl, Nat.le_of_ble_eq_true rfl⟩ rfl rfl (Nat.le_of_ble_eq_true rfl) ?_
    refine jt_ior C dX4_reachedFrom_20 ?_
    refine jt_istore_n (lv' := [(2, _), (0, _), (3, _)]) C dX4_reachedFrom_21 rfl (by decide) rfl ?_
    refine jt_iinc (v := (1 : Int32)) (lv' := [(3, _), (2, _), (0, _)]) C dX4_reachedFrom_22 2 rfl (by decide) (by decide) rfl ?_
    refine jt_goto (tgt := 6) C dX4_reachedFrom_25 (by decide) ?_
    cases h
    exact jt_sub [2, 1, 0] rfl (h1 _ rfl _ _ rfl)
set_option maxHeartbeats 4000000 in
set_option maxRecDepth 100000 in
theorem c_X4_reachedFrom (l : Launch) (k : jm_C) (n : Nat) (r0 : Nat) (v1 : Int32) (M : jm_M) (hr0 : jm_is r0 (3, 4)) (q : Int32) (h : X4_reachedFrom n r0 v1 M = some q) : jm_Ci l k yX4_reachedFrom w_X4_reachedFrom { frames := 1, cells := 0, slots := 0, locals := 40 } [.ref (jm_ad k r0), .int v1] M q M := by
  refine jm_entry_i (cc := cX4_reachedFrom) (nL := 4) (ret := (some .int)) (by decide) rfl (Nat.le_of_ble_eq_true rfl) ?_
  intro X hX C hQ hr
  subst hX
  unfold X4_reachedFrom at h
  refine jt_iconst (v := (1 : Int32)) C dX4_reachedFrom_0 (by decide) ?_
  refine jt_iload_n C dX4_reachedFrom_1 rfl 1 rfl ?_
  refine jt_ishl C dX4_reachedFrom_2 ?_
  refine jt_istore_n (lv' := [(2, _), (0, _), (1, _)]) C dX4_reachedFrom_3 rfl (by decide) rfl ?_
  refine jt_iconst (v := (1 : Int32)) C dX4_reachedFrom_4 (by decide) ?_
  refine jt_istore_n (lv' := [(3, _), (2, _), (0, _), (1, _)]) C dX4_reachedFrom_5 rfl (by decide) rfl ?_
  obtain ⟨q2, eq2, h⟩ := jm_bind h
  refine jt_sub [2, 1, 0] rfl ?_
  refine t_X4_reachedFrom_L6 C n _ _ hr0 n _ _ eq2 ?_ _ _ rfl
  refine jt_iload_n C dX4_reachedFrom_28 rfl 0 rfl ?_
  cases h
  exact jt_iret C dX4_reachedFrom_29 hQ hr
