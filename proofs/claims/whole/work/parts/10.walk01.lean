theorem h_X4_load : yX4_load.cls = RX4 ∧ yX4_load.cls ≠ "java/lang/invoke/MethodHandle" ∧ yX4_load.cls ≠ "java/lang/invoke/VarHandle" ∧ (parseMethodDescriptor yX4_load.desc).map (fun d => d.parameters.length) = some 2 := by decide +kernel
set_option maxHeartbeats 4000000 in
set_option maxRecDepth 100000 in
theorem t_X4_load_L19 {X : jm_X} {k : jm_C} (C : jm_Cx X k cX4_load 6 RX4 w_X4_load) (r0 : Nat) (v2 : Int32) (hr0 : jm_is r0 (3, 4)) : ∀ (m : Nat) (s : Int32 × jm_M) (r : jm_M), jm_loop (X4_load_B19 r0 v2) m s = some r → jm_T X { frames := 0, cells := 0, slots := 0, locals := 0 } k 6 r 38 [(0, .ref (jm_ad k r0)), (2, .int v2)] [] → (∀ (b0 : Int32) (b1 : jm_M), s = (b0, b1) → jm_T X { frames := 0, cells := 0, slots := 0, locals := 0 } k 6 b1 19 [(0, .ref (jm_ad k r0)), (2, .int v2), (3, .int b0)] []) := by
  refine jm_loop_ind (P := fun (s : Int32 × jm_M) => (∀ (b0 : Int32) (b1 : jm_M), s = (b0, b1) → jm_T X { frames := 0, cells := 0, slots := 0, locals := 0 } k 6 b1 19 [(0, .ref (jm_ad k r0)), (2, .int v2), (3, .int b0)] [])) (K := fun (r : jm_M) => jm_T X { frames := 0, cells := 0, slots := 0, locals := 0 } k 6 r 38 [(0, .ref (jm_ad k r0)), (2, .int v2)] []) ?_
  intro s q h h1 h2
  intro b0 b1 hs
  subst hs
  unfold X4_load_B19 at h
  try dsimp only at h
  refine jt_iload_n C dX4_load_19 rfl 2 rfl ?_
  refine jt_bipush (v := (8 : Int32)) C dX4_load_20 (by decide) ?_
  refine jt_icmp_ge (tgt := 38) C dX4_load_22 (by decide) (fun c22 => ?_) (fun c22 => ?_)
  · replace h := jm_ift c22 h
    cases h
    exact jt_sub [0, 1] rfl (h2 _ rfl)
  · replace h := jm_iff c22 h
    refine jt_aload_n C dX4_load_25 rfl 0 rfl ?_
    refine jt_getR (Tf := TX4) (N := 2) C dX4_load_26 hr0 rfl i_4 0 (by decide) rfl m_RX4_9 rfl ?_
    refine jt_iload_n C dX4_load_29 rfl 2 rfl ?_
    refine jt_iconst (v := (0 : Int32)) C dX4_load_30 (by decide) ?_
    obtain ⟨M1, eM1, h⟩ := jm_bind h
    refine jt_iast C dX4_load_31 (jm_f4_0 hr0) eM1 ?_
    refine jt_iinc (v := (1 : Int32)) (lv' := [(3, _), (0, _), (2, _)]) C dX4_load_32 2 rfl (by decide) (by decide) rfl ?_
    refine jt_goto (tgt := 19) C dX4_load_35 (by decide) ?_
    cases h
    exact jt_sub [1, 2, 0] rfl (h1 _ rfl _ _ rfl)
set_option maxHeartbeats 4000000 in
set_option maxRecDepth 100000 in
theorem t_X4_load_L59 {X : jm_X} {k : jm_C} (C : jm_Cx X k cX4_load 6 RX4 w_X4_load) (r0 : Nat) (v4 : Int32) (hr0 : jm_is r0 (3, 4)) : ∀ (m : Nat) (s : Int32 × Int32 × jm_M) (r : Int32 × jm_M), jm_loop (X4_load_B59 r0 v4) m s = some r → (∀ (b0 : Int32) (b1 : jm_M), r = (b0, b1) → jm_T X { frames := 0, cells := 0, slots := 0, locals := 0 } k 6 b1 106 [(0, .ref (jm_ad k r0)), (3, .int b0), (4, .int v4)] []) → (∀ (b0 : Int32) (b1 : Int32) (b2 : jm_M), s = (b0, b1, b2) → jm_T X { frames := 0, cells := 0, slots := 0, locals := 0 } k 6 b2 59 [(0, .ref (jm_ad k r0)), (3, .int b0), (4, .int v4), (5, .int b1)] []) := by
  refine jm_loop_ind (P := fun (s : Int32 × Int32 × jm_M) => (∀ (b0 : Int32) (b1 : Int32) (b2 : jm_M), s = (b0, b1, b2) → jm_T X { frames := 0, cells := 0, slots := 0, locals := 0 } k 6 b2 59 [(0, .ref (jm_ad k r0)), (3, .int b0), (4, .int v4), (5, .int b1)] [])) (K := fun (r : Int32 × jm_M) => ∀ (b0 : Int32) (b1 : jm_M), r = (b0, b1) → jm_T X { frames := 0, cells := 0, slots := 0, locals := 0 } k 6 b1 106 [(0, .ref (jm_ad k r0)), (3, .int b0), (4, .int v4)] []) ?_
  intro s q h h1 h2
  intro b0 b1 b2 hs
  subst hs
  unfold X4_load_B59 at h
  try dsimp only at h
  refine jt_iload C dX4_load_59 3 rfl ?_
  refine jt_if_lt (tgt := 106) C dX4_load_61 (by decide) (fun c61 => ?_) (fun c61 => ?_)
  · replace h := jm_ift c61 h
    cases h
    exact jt_sub [0, 1, 2] rfl (h2 _ rfl _ _ rfl)
  · replace h := jm_iff c61 h
    refine jt_aload_n C dX4_load_64 rfl 0 rfl ?_
    refine jt_getR (Tf := TX4) (N := 2) C dX4_load_65 hr0 rfl i_4 0 (by decide) rfl m_RX4_9 rfl ?_
    refine jt_iload C dX4_load_68 2 rfl ?_
    refine jt_dup2 C dX4_load_70 rfl rfl ?_
    obtain ⟨x3, ex3, h⟩ := jm_bind h
    refine jt_iald C dX4_load_71 (jm_f4_0 hr0) ex3 ?_
    refine jt_iload_n C dX4_load_72 rfl 1 rfl ?_
    refine jt_iconst (v := (1 : Int32)) C dX4_load_73 (by decide) ?_
    refine jt_iand C dX4_load_74 ?_
    refine jt_iload C dX4_load_75 3 rfl ?_
    refine jt_ishl C dX4_load_77 ?_
    refine jt_ior C dX4_load_78 ?_
    obtain ⟨M4, eM4, h⟩ := jm_bind h
    refine jt_iast C dX4_load_79 (jm_f4_0 hr0) eM4 ?_
    refine jt_aload_n C dX4_load_80 rfl 0 rfl ?_
    refine jt_getR (Tf := TX4) (N := 2) C dX4_load_81 hr0 rfl i_4 0 (by decide) rfl m_RX4_9 rfl ?_
    refine jt_iload C dX4_load_84 3 rfl ?_
    refine jt_dup2 C dX4_load_86 rfl rfl ?_
    obtain ⟨x5, ex5, h⟩ := jm_bind h
    refine jt_iald C dX4_load_87 (jm_f4_0 hr0) ex5 ?_
    refine jt_iload_n C dX4_load_88 rfl 1 rfl ?_
    refine jt_iconst (v := (1 : Int32)) C dX4_load_89 (by decide) ?_
    refine jt_iand C dX4_load_90 ?_
    refine jt_iload C dX4_load_91 2 rfl ?_
    refine jt_ishl C dX4_load_93 ?_
    refine jt_ior C dX4_load_94 ?_
    obtain ⟨M6, eM6, h⟩ := jm_bind h
    refine jt_iast C dX4_load_95 (jm_f4_0 hr0) eM6 ?_
    refine jt_iload_n C dX4_load_96 rfl 1 rfl ?_
    refine jt_iconst (v := (1 : Int32)) C dX4_load_97 (by decide) ?_
    refine jt_ishr C dX4_load_98 ?_
    refine jt_istore_n (lv' := [(3, _), (0, _), (4, _), (5, _)]) C dX4_load_99 rfl (by decide) rfl ?_
    refine jt_iinc (v := (-1 : Int32)) (lv' := [(5, _), (3, _), (0, _), (4, _)]) C dX4_load_100 3 rfl (by decide) (by decide) rfl ?_
    refine jt_goto (tgt := 59) C dX4_load_103 (by decide) ?_
    cases h
    exact jt_sub [2, 1, 3, 0] rfl (h1 _ rfl _ _ _ rfl)
set_option maxHeartbeats 4000000 in
set_option maxRecDepth 100000 in
theorem t_X4_load_L48 {X : jm_X} {k : jm_C} (C : jm_Cx X k cX4_load 6 RX4 w_X4_load) (n : Nat) (r0 : Nat) (hr0 : jm_is r0 (3, 4)) : ∀ (m : Nat) (s : Int32 × Int32 × jm_M) (r : jm_M), jm_loop (X4_load_B48 n r0) m s = some r → jm_T X { frames := 0, cells := 0, slots := 0, locals := 0 } k 6 r 112 [] [] → (∀ (b0 : Int32) (b1 : Int32) (b2 : jm_M), s = (b0, b1, b2) → jm_T X { frames := 0, cells := 0, slots := 0, locals := 0 } k 6 b2 48 [(0, .ref (jm_ad k r0)), (3, .int b0), (4, .int b1)] []) := by
  refine jm_loop_ind (P := fun (s : Int32 × Int32 × jm_M) => (∀ (b0 : Int32) (b1 : Int32) (b2 : jm_M), s = (b0, b1, b2) → jm_T X { frames := 0, cells := 0, slots := 0, locals := 0 } k 6 b2 48 [(0, .ref (jm_ad k r0)), (3, .int b0), (4, .int b1)] [])) (K := fun (r : jm_M) => jm_T X { frames := 0, cells := 0, slots := 0, locals := 0 } k 6 r 112 [] []) ?_
  intro s q h h1 h2
  intro b0 b1 b2 hs
  subst hs
  unfold X4_load_B48 at h
  try dsimp only at h
  refine jt_iload C dX4_load_48 2 rfl ?_
  refine jt_if_le (tgt := 112) C dX4_load_50 (by decide) (fun c50 => ?_) (fun c50 => ?_)
  · replace h := jm_ift c50 h
    cases h
    exact jt_sub [] rfl (h2 _ rfl)
  · replace h := jm_iff c50 h
    refine jt_iload C dX4_load_53 2 rfl ?_
    refine jt_iconst (v := (1 : Int32)) C dX4_load_55 (by decide) ?_
    refine jt_isub C dX4_load_56 ?_
    refine jt_istore (lv' := [(5, _), (0, _), (3, _), (4, _)]) C dX4_load_57 (by decide) rfl ?_
    obtain ⟨q7, eq7, h⟩ := jm_bind h
    refine jt_sub [1, 2, 3, 0] rfl ?_
    refine t_X4_load_L59 C _ _ hr0 n _ _ eq7 ?_ _ _ _ rfl
    intro y8_0 y8_1 hq8
    subst hq8
    try dsimp only at h
    refine jt_iinc (v := (-1 : Int32)) (lv' := [(4, _), (0, _), (3, _)]) C dX4_load_106 2 rfl (by decide) (by decide) rfl ?_
    refine jt_goto (tgt := 48) C dX4_load_109 (by decide) ?_
    cases h
    exact jt_sub [1, 2, 0] rfl (h1 _ rfl _ _ _ rfl)
set_option maxHeartbeats 4000000 in
set_option maxRecDepth 100000 in
theorem c_X4_load (l : Launch) (k : jm_C) (n : Nat) (r0 : Nat) (v1 : Int32) (v2 : Int32) (M : jm_M) (hr0 : jm_is r0 (3, 4)) (q : jm_M) (h : X4_load n r0 v1 v2 M = some q) : jm_Cv l k yX4_load w_X4_load { frames := 0, cells := 0, slots := 0, locals := 0 } [.ref (jm_ad k r0), .int v1, .int v2] M q := by
  refine jm_entry_v (cc := cX4_load) (nL := 6) (ret := none) (by decide) rfl (Nat.le_of_ble_eq_true rfl) ?_
  intro X hX C hQ hr
  subst hX
  unfold X4_load at h
  refine jt_iload_n C dX4_load_0 rfl 1 rfl ?_
  refine jt_iconst (v := (1 : Int32)) C dX4_load_1 (by decide) ?_
  refine jt_icmp_lt (tgt := 11) C dX4_load_2 (by decide) (fun c2 => ?_) (fun c2 => ?_)
  · replace h := jm_ift c2 h
    cases h
    exact jt_vret C dX4_load_11 hQ hr
  · replace h := jm_iff c2 h
    refine jt_iload_n C dX4_load_5 rfl 1 rfl ?_
    refine jt_bipush (v := (8 : Int32)) C dX4_load_6 (by decide) ?_
    refine jt_icmp_le (tgt := 12) C dX4_load_8 (by decide) (fun c8 => ?_) (fun c8 => ?_)
    · replace h := jm_ift c8 h
      refine jt_aload_n C dX4_load_12 rfl 0 rfl ?_
      refine jt_iload_n C dX4_load_13 rfl 1 rfl ?_
      refine jt_putI (Tf := TX4) (N := 2) C dX4_load_14 hr0 rfl i_4 tyX4 tyX4_ok nmX4 1 (by decide) rfl m_RX4_15 rfl rfl (by decide +kernel) ?_
      refine jt_iconst (v := (0 : Int32)) C dX4_load_17 (by decide) ?_
      refine jt_istore_n (lv' := [(3, _), (0, _), (1, _), (2, _)]) C dX4_load_18 rfl (by decide) rfl ?_
      obtain ⟨q2, eq2, h⟩ := jm_bind h
      refine jt_sub [1, 3, 0] rfl ?_
      refine t_X4_load_L19 C _ _ hr0 n _ _ eq2 ?_ _ _ rfl
      refine jt_iload_n C dX4_load_38 rfl 1 rfl ?_
      refine jt_istore_n (lv' := [(3, _), (0, _), (2, _)]) C dX4_load_39 rfl (by decide) rfl ?_
      refine jt_aload_n C dX4_load_40 rfl 1 rfl ?_
      refine jt_getI (Tf := TX4) (N := 2) C dX4_load_41 hr0 rfl i_4 1 (by decide) rfl m_RX4_15 rfl ?_
      refine jt_iconst (v := (1 : Int32)) C dX4_load_44 (by decide) ?_
      refine jt_isub C dX4_load_45 ?_
      refine jt_istore (lv' := [(4, _), (3, _), (0, _), (2, _)]) C dX4_load_46 (by decide) rfl ?_
      obtain ⟨q9, eq9, h⟩ := jm_bind h
      refine jt_sub [2, 1, 0] rfl ?_
      refine t_X4_load_L48 C n _ hr0 n _ _ eq9 ?_ _ _ _ rfl
      cases h
      exact jt_vret C dX4_load_112 hQ hr
    · replace h := jm_iff c8 h
      cases h
      exact jt_vret C dX4_load_11 hQ hr
theorem h_X4_size : yX4_size.cls = RX4 ∧ yX4_size.cls ≠ "java/lang/invoke/MethodHandle" ∧ yX4_size.cls ≠ "java/lang/invoke/VarHandle" ∧ (parseMethodDescriptor yX4_size.desc).map (fun d => d.parameters.length) = some 0 := by decide +kernel
set_option maxHeartbeats 4000000 in
set_option maxRecDepth 100000 in
theorem c_X4_size (l : Launch) (k : jm_C) (r0 : Nat) (M : jm_M) (hr0 : jm_is r0 (3, 4)) (q : Int32) (h : X4_size r0 M = q) : jm_Ci l k yX4_size w_X4_size { frames := 0, cells := 0, slots := 0, locals := 0 } [.ref (jm_ad k r0)] M q M := by
  refine jm_entry_i (cc := cX4_size) (nL := 1) (ret := (some .int)) (by decide) rfl (Nat.le_of_ble_eq_true rfl) ?_
  intro X hX C hQ hr
  subst hX
  unfold X4_size at h
  refine jt_aload_n C dX4_size_0 rfl 0 rfl ?_
  refine jt_getI (Tf := TX4) (N := 2) C dX4_size_1 hr0 rfl i_4 1 (by decide) rfl m_RX4_15 rfl ?_
  subst h
  exact jt_iret C dX4_size_4 hQ hr
theorem h_X3_has : yX3_has.cls = RX3 ∧ yX3_has.cls ≠ "java/lang/invoke/MethodHandle" ∧ yX3_has.cls ≠ "java/lang/invoke/VarHandle" ∧ (parseMethodDescriptor yX3_has.desc).map (fun d => d.parameters.length) = some 1 := by decide +kernel
set_option maxHeartbeats 4000000 in
set_option maxRecDepth 100000 in
theorem c_X3_has (l : Launch) (k : jm_C) (r0 : Nat) (v1 : Int32) (M : jm_M) (hr0 : jm_is r0 (3, 3)) (q : Int32) (h : X3_has r0 v1 M = q) : jm_Ci l k yX3_has w_X3_has { frames := 0, cells := 0, slots := 0, locals := 0 } [.ref (jm_ad k r0), .int v1] M q M := by
  refine jm_entry_i (cc := cX3_has) (nL := 2) (ret := (some .boolean)) (by decide) rfl (Nat.le_of_ble_eq_true rfl) ?_
  intro X hX C hQ hr
  subst hX
  unfold X3_has at h
  refine jt_iload_n C dX3_has_0 rfl 1 rfl ?_
  refine jt_if_lt (tgt := 16) C dX3_has_1 (by decide) (fun c1 => ?_) (fun c1 => ?_)
  · replace h := jm_ift c1 h
    refine jt_iconst (v := (0 : Int32)) C dX3_has_16 (by decide) ?_
    subst h
    exact jt_zret C dX3_has_17 hQ hr (Or.inl rfl)
  · replace h := jm_iff c1 h
    refine jt_iload_n C dX3_has_4 rfl 1 rfl ?_
    refine jt_aload_n C dX3_has_5 rfl 0 rfl ?_
    refine jt_getI (Tf := TX3) (N := 3) C dX3_has_6 hr0 rfl i_3 2 (by decide) rfl m_RX3_19 rfl ?_
    refine jt_icmp_ge (tgt := 16) C dX3_has_9 (by decide) (fun c9 => ?_) (fun c9 => ?_)
    · replace h := jm_ift c9 h
      refine jt_iconst (v := (0 : Int32)) C dX3_has_16 (by decide) ?_
      subst h
      exact jt_zret C dX3_has_17 hQ hr (Or.inl rfl)
    · replace h := jm_iff c9 h
      refine jt_iconst (v := (1 : Int32)) C dX3_has_12 (by decide) ?_
      refine jt_goto (tgt := 17) C dX3_has_13 (by decide) ?_
      subst h
      exact jt_zret C dX3_has_17 hQ hr (Or.inr rfl)
theorem h_X3_codeAt : yX3_codeAt.cls = RX3 ∧ yX3_codeAt.cls ≠ "java/lang/invoke/MethodHandle" ∧ yX3_codeAt.cls ≠ "java/lang/invoke/VarHandle" ∧ (parseMethodDescriptor yX3_codeAt.desc).map (fun d => d.parameters.length) = some 1 := by decide +kernel
set_option maxHeartbeats 4000000 in
set_option maxRecDepth 100000 in
theorem c_X3_codeAt (l : Launch) (k : jm_C) (r0 : Nat) (v1 : Int32) (M : jm_M) (hr0 : jm_is r0 (3, 3)) (q : Int32) (h : X3_codeAt r0 v1 M = some q) : jm_Ci l k yX3_codeAt w_X3_codeAt { frames := 1, cells := 0, slots := 0, locals := 40 } [.ref (jm_ad k r0), .int v1] M q M := by
  refine jm_entry_i (cc := cX3_codeAt) (nL := 2) (ret := (some .int)) (by decide) rfl (Nat.le_of_ble_eq_true rfl) ?_
  intro X hX C hQ hr
  subst hX
  unfold X3_codeAt at h
  refine jt_aload_n C dX3_codeAt_0 rfl 0 rfl ?_
  refine jt_iload_n C dX3_codeAt_1 rfl 1 rfl ?_
  refine jt_callVi (As := [_]) (rest := []) C hr0 rfl dX3_codeAt_2 (c_X3_has (jx_l X) k _ _ _ hr0 _ rfl) (k_goodIn (g_RX3_22)) rfl h_X3_has ⟨rfl, rfl, Nat.le_of_ble_eq_true rfl, Nat.le_of_ble_eq_true rfl⟩ rfl rfl (Nat.le_of_ble_eq_true rfl) ?_
  refine jt_if_eq (tgt := 17) C dX3_codeAt_5 (by decide) (fun c5 => ?_) (fun c5 => ?_)
  · replace h := jm_ift c5 h
    refine jt_bipush (v := (-9 : Int32)) C dX3_codeAt_17 (by decide) ?_
    cases h
    exact jt_iret C dX3_codeAt_19 hQ hr
  · replace h := jm_iff c5 h
    refine jt_aload_n C dX3_codeAt_8 rfl 0 rfl ?_
    refine jt_getR (Tf := TX3) (N := 3) C dX3_codeAt_9 hr0 rfl i_3 0 (by decide) rfl m_RX3_9 rfl ?_
    refine jt_iload_n C dX3_codeAt_12 rfl 1 rfl ?_
    obtain ⟨x1, ex1, h⟩ := jm_bind h
    refine jt_iald C dX3_codeAt_13 (jm_f3_0 hr0) ex1 ?_
    refine jt_goto (tgt := 19) C dX3_codeAt_14 (by decide) ?_
    cases h
    exact jt_iret C dX3_codeAt_19 hQ hr
theorem h_X3_h : yX3_h.cls = RX3 ∧ yX3_h.cls ≠ "java/lang/invoke/MethodHandle" ∧ yX3_h.cls ≠ "java/lang/invoke/VarHandle" ∧ (parseMethodDescriptor yX3_h.desc).map (fun d => d.parameters.length) = some 0 := by decide +kernel
set_option maxHeartbeats 4000000 in
set_option maxRecDepth 100000 in
theorem c_X3_h (l : Launch) (k : jm_C) (r0 : Nat) (M : jm_M) (hr0 : jm_is r0 (3, 3)) (q : Int32) (h : X3_h r0 M = q) : jm_Ci l k yX3_h w_X3_h { frames := 0, cells := 0, slots := 0, locals := 0 } [.ref (jm_ad k r0)] M q M := by
  refine jm_entry_i (cc := cX3_h) (nL := 1) (ret := (some .int)) (by decide) rfl (Nat.le_of_ble_eq_true rfl) ?_
  intro X hX C hQ hr
  subst hX
  unfold X3_h at h
  refine jt_aload_n C dX3_h_0 rfl 0 rfl ?_
  refine jt_getI (Tf := TX3) (N := 3) C dX3_h_1 hr0 rfl i_3 1 (by decide) rfl m_RX3_15 rfl ?_
  subst h
  exact jt_iret C dX3_h_4 hQ hr
theorem h_X3_size : yX3_size.cls = RX3 ∧ yX3_size.cls ≠ "java/lang/invoke/MethodHandle" ∧ yX3_size.cls ≠ "java/lang/invoke/VarHandle" ∧ (parseMethodDescriptor yX3_size.desc).map (fun d => d.parameters.length) = some 0 := by decide +kernel
set_option maxHeartbeats 4000000 in
set_option maxRecDepth 100000 in
theorem c_X3_size (l : Launch) (k : jm_C) (r0 : Nat) (M : jm_M) (hr0 : jm_is r0 (3, 3)) (q : Int32) (h : X3_size r0 M = q) : jm_Ci l k yX3_size w_X3_size { frames := 0, cells := 0, slots := 0, locals := 0 } [.ref (jm_ad k r0)] M q M := by
  refine jm_entry_i (cc := cX3_size) (nL := 1) (ret := (some .int)) (by decide) rfl (Nat.le_of_ble_eq_true rfl) ?_
  intro X hX C hQ hr
  subst hX
  unfold X3_size at h
  refine jt_aload_n C dX3_size_0 rfl 0 rfl ?_
  refine jt_getI (Tf := TX3) (N := 3) C dX3_size_1 hr0 rfl i_3 2 (by decide) rfl m_RX3_19 rfl ?_
  subst h
  exact jt_iret C dX3_size_4 hQ hr
theorem h_X4_codeWithout : yX4_codeWithout.cls = RX4 ∧ yX4_codeWithout.cls ≠ "java/lang/invoke/MethodHandle" ∧ yX4_codeWithout.cls ≠ "java/lang/invoke/VarHandle" ∧ (parseMethodDescriptor yX4_codeWithout.desc).map (fun d => d.parameters.length) = some 1 := by decide +kernel
set_option maxHeartbeats 4000000 in
set_option maxRecDepth 100000 in
theorem t_X4_codeWithout_L15 {X : jm_X} {k : jm_C} (C : jm_Cx X k cX4_codeWithout 5 RX4 w_X4_codeWithout) (r0 : Nat) (v1 : Int32) (v3 : Int32) (M : jm_M) (hr0 : jm_is r0 (3, 4)) : ∀ (m : Nat) (s : Int32 × Int32) (r : Int32), jm_loop (X4_codeWithout_B15 r0 v1 v3 M) m s = some r → jm_T X { frames := 0, cells := 0, slots := 0, locals := 0 } k 5 M 54 [(0, .ref (jm_ad k r0)), (1, .int v1), (2, .int r), (3, .int v3)] [] → (∀ (b0 : Int32) (b1 : Int32), s = (b0, b1) → jm_T X { frames := 0, cells := 0, slots := 0, locals := 0 } k 5 M 15 [(0, .ref (jm_ad k r0)), (1, .int v1), (2, .int b0), (3, .int v3), (4, .int b1)] []) := by
  refine jm_loop_ind (P := fun (s : Int32 × Int32) => (∀ (b0 : Int32) (b1 : Int32), s = (b0, b1) → jm_T X { frames := 0, cells := 0, slots := 0, locals := 0 } k 5 M 15 [(0, .ref (jm_ad k r0)), (1, .int v1), (2, .int b0), (3, .int v3), (4, .int b1)] [])) (K := fun (r : Int32) => jm_T X { frames := 0, cells := 0, slots := 0, locals := 0 } k 5 M 54 [(0, .ref (jm_ad k r0)), (1, .int v1), (2, .int r), (3, .int v3)] []) ?_
  intro s q h h1 h2
  intro b0 b1 hs
  subst hs
  unfold X4_codeWithout_B15 at h
  try dsimp only at h
  refine jt_iload C dX4_codeWithout_15 4 rfl ?_
  refine jt_iload_n C dX4_codeWithout_17 rfl 3 rfl ?_
  refine jt_icmp_ge (tgt := 54) C dX4_codeWithout_18 (by decide) (fun c18 => ?_) (fun c18 => ?_)
  · replace h := jm_ift c18 h
    cases h
    exact jt_sub [0, 1, 2, 3] rfl (h2 _ rfl)
  · replace h := jm_iff c18 h
    refine jt_iload C dX4_codeWithout_21 4 rfl ?_
    refine jt_iload_n C dX4_codeWithout_23 rfl 1 rfl ?_
    refine jt_icmp_eq (tgt := 48) C dX4_codeWithout_24 (by decide) (fun c24 => ?_) (fun c24 => ?_)
    · replace h := jm_ift c24 h
      refine jt_iinc (v := (1 : Int32)) (lv' := [(4, _), (0, _), (1, _), (2, _), (3, _)]) C dX4_codeWithout_48 4 rfl (by decide) (by decide) rfl ?_
      refine jt_goto (tgt := 15) C dX4_codeWithout_51 (by decide) ?_
      cases h
      exact jt_sub [1, 2, 3, 4, 0] rfl (h1 _ rfl _ _ rfl)
    · replace h := jm_iff c24 h
      refine jt_iload_n C dX4_codeWithout_27 rfl 3 rfl ?_
      refine jt_iload_n C dX4_codeWithout_28 rfl 1 rfl ?_
      refine jt_icmp_eq (tgt := 48) C dX4_codeWithout_29 (by decide) (fun c29 => ?_) (fun c29 => ?_)
      · replace h := jm_ift c29 h
        refine jt_iinc (v := (1 : Int32)) (lv' := [(4, _), (0, _), (1, _), (2, _), (3, _)]) C dX4_codeWithout_48 4 rfl (by decide) (by decide) rfl ?_
        refine jt_goto (tgt := 15) C dX4_codeWithout_51 (by decide) ?_
        cases h
        exact jt_sub [1, 2, 3, 4, 0] rfl (h1 _ rfl _ _ rfl)
      · replace h := jm_iff c29 h
        refine jt_iload_n C dX4_codeWithout_32 rfl 2 rfl ?_
        refine jt_iconst (v := (1 : Int32)) C dX4_codeWithout_33 (by decide) ?_
        refine jt_ishl C dX4_codeWithout_34 ?_
        refine jt_aload_n C dX4_codeWithout_35 rfl 0 rfl ?_
        refine jt_getR (Tf := TX4) (N := 2) C dX4_codeWithout_36 hr0 rfl i_4 0 (by decide) rfl m_RX4_9 rfl ?_
        refine jt_iload_n C dX4_codeWithout_39 rfl 3 rfl ?_
        obtain ⟨x1, ex1, h⟩ := jm_bind h
        refine jt_iald C dX4_codeWithout_40 (jm_f4_0 hr0) ex1 ?_
        refine jt_iload C dX4_codeWithout_41 4 rfl ?_
        refine jt_ishr C dX4_codeWithout_43 ?_
        refine jt_iconst (v := (1 : Int32)) C dX4_codeWithout_44 (by decide) ?_
        refine jt_iand C dX4_codeWithout_45 ?_
        refine jt_ior C dX4_codeWithout_46 ?_
        refine jt_istore_n (lv' := [(2, _), (0, _), (1, _), (3, _), (4, _)]) C dX4_codeWithout_47 rfl (by decide) rfl ?_
        refine jt_iinc (v := (1 : Int32)) (lv' := [(4, _), (2, _), (0, _), (1, _), (3, _)]) C dX4_codeWithout_48 4 rfl (by decide) (by decide) rfl ?_
        refine jt_goto (tgt := 15) C dX4_codeWithout_51 (by decide) ?_
        cases h
        exact jt_sub [2, 3, 1, 4, 0] rfl (h1 _ rfl _ _ rfl)
set_option maxHeartbeats 4000000 in
set_option maxRecDepth 100000 in
theorem t_X4_codeWithout_L4 {X : jm_X} {k : jm_C} (C : jm_Cx X k cX4_codeWithout 5 RX4 w_X4_codeWithout) (n : Nat) (r0 : Nat) (v1 : Int32) (M : jm_M) (hr0 : jm_is r0 (3, 4)) : ∀ (m : Nat) (s : Int32 × Int32) (r : Int32), jm_loop (X4_codeWithout_B4 n r0 v1 M) m s = some r → jm_T X { frames := 0, cells := 0, slots := 0, locals := 0 } k 5 M 60 [(2, .int r)] [] → (∀ (b0 : Int32) (b1 : Int32), s = (b0, b1) → jm_T X { frames := 0, cells := 0, slots := 0, locals := 0 } k 5 M 4 [(0, .ref (jm_ad k r0)), (1, .int v1), (2, .int b0), (3, .int b1)] []) := by
  refine jm_loop_ind (P := fun (s : Int32 × Int32) => (∀ (b0 : Int32) (b1 : Int32), s = (b0, b1) → jm_T X { frames := 0, cells := 0, slots := 0, locals := 0 } k 5 M 4 [(0, .ref (jm_ad k r0)), (1, .int v1), (2, .int b0), (3, .int b1)] [])) (K := fun (r : Int32) => jm_T X { frames := 0, cells := 0, slots := 0, locals := 0 } k 5 M 60 [(2, .int r)] []) ?_
  intro s q h h1 h2
  intro b0 b1 hs
  subst hs
  unfold X4_codeWithout_B4 at h
  try dsimp only at h
  refine jt_iload_n C dX4_codeWithout_4 rfl 3 rfl ?_
  refine jt_aload_n C dX4_codeWithout_5 rfl 0 rfl ?_
  refine jt_getI (Tf := TX4) (N := 2) C dX4_codeWithout_6 hr0 rfl i_4 1 (by decide) rfl m_RX4_15 rfl ?_
  refine jt_icmp_ge (tgt := 60) C dX4_codeWithout_9 (by decide) (fun c9 => ?_) (fun c9 => ?_)
  · replace h := jm_ift c9 h
    cases h
    exact jt_sub [2] rfl (h2 _ rfl)
  · replace h := jm_iff c9 h
    refine jt_iconst (v := (0 : Int32)) C dX4_codeWithout_12 (by decide) ?_
    refine jt_istore (lv' := [(4, _), (0, _), (1, _), (2, _), (3, _)]) C dX4_codeWithout_13 (by decide) rfl ?_
    obtain ⟨q2, eq2, h⟩ := jm_bind h
    refine jt_sub [1, 2, 3, 4, 0] rfl ?_
    refine t_X4_codeWithout_L15 C _ _ _ _ hr0 n _ _ eq2 ?_ _ _ rfl
    refine jt_iinc (v := (1 : Int32)) (lv' := [(3, _), (0, _), (1, _), (2, _)]) C dX4_codeWithout_54 3 rfl (by decide) (by decide) rfl ?_
    refine jt_goto (tgt := 4) C dX4_codeWithout_57 (by decide) ?_
    cases h
    exact jt_sub [1, 2, 3, 0] rfl (h1 _ rfl _ _ rfl)
set_option maxHeartbeats 4000000 in
set_option maxRecDepth 100000 in
theorem c_X4_codeWithout (l : Launch) (k : jm_C) (n : Nat) (r0 : Nat) (v1 : Int32) (M : jm_M) (hr0 : jm_is r0 (3, 4)) (q : Int32) (h : X4_codeWithout n r0 v1 M = some q) : jm_Ci l k yX4_codeWithout w_X4_codeWithout { frames := 0, cells := 0, slots := 0, locals := 0 } [.ref (jm_ad k r0), .int v1] M q M := by
  refine jm_entry_i (cc := cX4_codeWithout) (nL := 5) (ret := (some .int)) (by decide) rfl (Nat.le_of_ble_eq_true rfl) ?_
  intro X hX C hQ hr
  subst hX
  unfold X4_codeWithout at h
  refine jt_iconst (v := (0 : Int32)) C dX4_codeWithout_0 (by decide) ?_
  refine jt_istore_n (lv' := [(2, _), (0, _), (1, _)]) C dX4_codeWithout_1 rfl (by decide) rfl ?_
  refine jt_iconst (v := (1 : Int32)) C dX4_codeWithout_2 (by decide) ?_
  refine jt_istore_n (lv' := [(3, _), (2, _), (0, _), (1, _)]) C dX4_codeWithout_3 rfl (by decide) rfl ?_
  obtain ⟨q3, eq3, h⟩ := jm_bind h
  refine jt_sub [2, 3, 1, 0] rfl ?_
  refine t_X4_codeWithout_L4 C n _ _ _ hr0 n _ _ eq3 ?_ _ _ rfl
  refine jt_iload_n C dX4_codeWithout_60 rfl 0 rfl ?_
  cases h
  exact jt_iret C dX4_codeWithout_61 hQ hr
theorem h_X4_code : yX4_code.cls = RX4 ∧ yX4_code.cls ≠ "java/lang/invoke/MethodHandle" ∧ yX4_code.cls ≠ "java/lang/invoke/VarHandle" ∧ (parseMethodDescriptor yX4_code.desc).map (fun d => d.parameters.length) = some 0 := by decide +kernel
set_option maxHeartbeats 4000000 in
set_option maxRecDepth 100000 in
theorem c_X4_code (l : Launch) (k : jm_C) (n : Nat) (r0 : Nat) (M : jm_M) (hr0 : jm_is r0 (3, 4)) (q : Int32) (h : X4_code n r0 M = some q) : jm_Ci l k yX4_code w_X4_code { frames := 1, cells := 0, slots := 0, locals := 40 } [.ref (jm_ad k r0)] M q M := by
  refine jm_entry_i (cc := cX4_code) (nL := 1) (ret := (some .int)) (by decide) rfl (Nat.le_of_ble_eq_true rfl) ?_
  intro X hX C hQ hr
  subst hX
  unfold X4_code at h
  refine jt_aload_n C dX4_code_0 rfl 0 rfl ?_
  refine jt_iconst (v := (-1 : Int32)) C dX4_code_1 (by decide) ?_
  obtain ⟨x1, ex1, h⟩ := jm_bind h
  refine jt_callVi (As := [_]) (rest := []) C hr0 rfl dX4_code_2 (c_X4_codeWithout (jx_l X) k n _ _ _ hr0 _ ex1) (k_goodIn (g_RX4_32)) rfl h_X4_codeWithout ⟨rfl, rfl, Nat.le_of_ble_eq_true rfl, Nat.le_of_ble_eq_true rfl⟩ rfl rfl (Nat.le_of_ble_eq_true rfl) ?_
  cases h
  exact jt_iret C dX4_code_5 hQ hr
theorem h_X5_save : yX5_save.cls = RX5 ∧ yX5_save.cls ≠ "java/lang/invoke/MethodHandle" ∧ yX5_save.cls ≠ "java/lang/invoke/VarHandle" ∧ (parseMethodDescriptor yX5_save.desc).map (fun d => d.parameters.length) = some 2 := by decide +kernel
set_option maxHeartbeats 4000000 in
set_option maxRecDepth 100000 in
theorem t_X5_save_L44 {X : jm_X} {k : jm_C} (C : jm_Cx X k cX5_save 5 RX5 w_X5_save) (r0 : Nat) (r2 : Nat) (r3 : Nat) (hr0 : jm_is r0 (3, 5)) (hr2 : jm_is r2 (3, 3)) (hr3 : jm_is r3 (0, 10)) : ∀ (m : Nat) (s : Int32 × jm_M) (r : jm_M), jm_loop (X5_save_B44 r0 r2 r3) m s = some r → jm_T X { frames := 2, cells := 0, slots := 0, locals := 80 } k 5 r 69 [(0, .ref (jm_ad k r0))] [] → (∀ (b0 : Int32) (b1 : jm_M), s = (b0, b1) → jm_T X { frames := 2, cells := 0, slots := 0, locals := 80 } k 5 b1 44 [(0, .ref (jm_ad k r0)), (2, .ref (jm_ad k r2)), (3, .ref (jm_ad k r3)), (4, .int b0)] []) := by
  refine jm_loop_ind (P := fun (s : Int32 × jm_M) => (∀ (b0 : Int32) (b1 : jm_M), s = (b0, b1) → jm_T X { frames := 2, cells := 0, slots := 0, locals := 80 } k 5 b1 44 [(0, .ref (jm_ad k r0)), (2, .ref (jm_ad k r2)), (3, .ref (jm_ad k r3)), (4, .int b0)] [])) (K := fun (r : jm_M) => jm_T X { frames := 2, cells := 0, slots := 0, locals := 80 } k 5 r 69 [(0, .ref (jm_ad k r0))] []) ?_
  intro s q h h1 h2
  intro b0 b1 hs
  subst hs
  unfold X5_save_B44 at h
  try dsimp only at h
  refine jt_iload C dX5_save_44 3 rfl ?_
  refine jt_bipush (v := (6 : Int32)) C dX5_save_46 (by decide) ?_
  refine jt_icmp_ge (tgt := 69) C dX5_save_48 (by decide) (fun c48 => ?_) (fun c48 => ?_)
  · replace h := jm_ift c48 h
    cases h
    exact jt_sub [0] rfl (h2 _ rfl)
  · replace h := jm_iff c48 h
    refine jt_aload_n C dX5_save_51 rfl 2 rfl ?_
    refine jt_iconst (v := (4 : Int32)) C dX5_save_52 (by decide) ?_
    refine jt_iload C dX5_save_53 3 rfl ?_
    refine jt_iadd C dX5_save_55 ?_
    refine jt_aload_n C dX5_save_56 rfl 1 rfl ?_
    refine jt_iload C dX5_save_57 3 rfl ?_
    obtain ⟨x7, ex7, h⟩ := jm_bind h
    refine jt_callVi (As := [_]) (rest := [_, _]) C hr2 rfl dX5_save_59 (c_X3_codeAt (jx_l X) k _ _ _ hr2 _ ex7) (k_goodIn (g_RX5_37)) rfl h_X3_codeAt ⟨rfl, rfl, Nat.le_of_ble_eq_true rfl, Nat.le_of_ble_eq_true rfl⟩ rfl rfl (Nat.le_of_ble_eq_true rfl) ?_
    obtain ⟨M8, eM8, h⟩ := jm_bind h
    refine jt_iast C dX5_save_62 hr3 eM8 ?_
    refine jt_iinc (v := (1 : Int32)) (lv' := [(4, _), (0, _), (2, _), (3, _)]) C dX5_save_63 3 rfl (by decide) (by decide) rfl ?_
    refine jt_goto (tgt := 44) C dX5_save_66 (by decide) ?_
    cases h
    exact jt_sub [1, 2, 3, 0] rfl (h1 _ rfl _ _ rfl)
set_option maxHeartbeats 4000000 in
set_option maxRecDepth 100000 in
theorem c_X5_save (l : Launch) (k : jm_C) (n : Nat) (r0 : Nat) (r1 : Nat) (r2 : Nat) (M : jm_M) (hr0 : jm_is r0 (3, 5)) (hr1 : jm_is r1 (3, 4)) (hr2 : jm_is r2 (3, 3)) (q : jm_M) (h : X5_save n r0 r1 r2 M = some q) : jm_Cv l k yX5_save w_X5_save { frames := 2, cells := 0, slots := 0, locals := 80 } [.ref (jm_ad k r0), .ref (jm_ad k r1), .ref (jm_ad k r2)] M q := by
  refine jm_entry_v (cc := cX5_save) (nL := 5) (ret := none) (by decide) rfl (Nat.le_of_ble_eq_true rfl) ?_
  intro X hX C hQ hr
  subst hX
  unfold X5_save at h
  refine jt_aload_n C dX5_save_0 rfl 0 rfl ?_
  refine jt_getR (Tf := TX5) (N := 3) C dX5_save_1 hr0 rfl i_5 0 (by decide) rfl m_RX5_13 rfl ?_
  refine jt_aload_n C dX5_save_4 rfl 0 rfl ?_
  refine jt_getI (Tf := TX5) (N := 3) C dX5_save_5 hr0 rfl i_5 2 (by decide) rfl m_RX5_20 rfl ?_
  refine jt_bipush (v := (7 : Int32)) C dX5_save_8 (by decide) ?_
  refine jt_iand C dX5_save_10 ?_
  obtain ⟨x1, ex1, h⟩ := jm_bind h
  refine jt_aald C dX5_save_11 (jm_f5_0 hr0) ex1 ?_
  have hx1 := jm_gq_in (jm_f5_0 hr0) ex1
  refine jt_astore_n (lv' := [(3, _), (0, _), (1, _), (2, _)]) C dX5_save_12 rfl (by decide) rfl ?_
  refine jt_aload_n C dX5_save_13 rfl 0 rfl ?_
  refine jt_iconst (v := (0 : Int32)) C dX5_save_14 (by decide) ?_
  refine jt_aload_n C dX5_save_15 rfl 2 rfl ?_
  refine jt_callVi (As := []) (rest := [_, _]) C hr1 rfl dX5_save_16 (c_X4_size (jx_l X) k _ _ hr1 _ rfl) (k_goodIn (g_RX5_23)) rfl h_X4_size ⟨rfl, rfl, Nat.le_of_ble_eq_true rfl, Nat.le_of_ble_eq_true rfl⟩ rfl rfl (Nat.le_of_ble_eq_true rfl) ?_
  obtain ⟨M2, eM2, h⟩ := jm_bind h
  refine jt_iast C dX5_save_19 hx1 eM2 ?_
  refine jt_aload_n C dX5_save_20 rfl 0 rfl ?_
  refine jt_iconst (v := (1 : Int32)) C dX5_save_21 (by decide) ?_
  refine jt_aload_n C dX5_save_22 rfl 2 rfl ?_
  obtain ⟨x3, ex3, h⟩ := jm_bind h
  refine jt_callVi (As := []) (rest := [_, _]) C hr1 rfl dX5_save_23 (c_X4_code (jx_l X) k n _ _ hr1 _ ex3) (k_goodIn (g_RX5_28)) rfl h_X4_code ⟨rfl, rfl, Nat.le_of_ble_eq_true rfl, Nat.le_of_ble_eq_true rfl⟩ rfl rfl (Nat.le_of_ble_eq_true rfl) ?_
  obtain ⟨M4, eM4, h⟩ := jm_bind h
  refine jt_iast C dX5_save_26 hx1 eM4 ?_
  refine jt_aload_n C dX5_save_27 rfl 0 rfl ?_
  refine jt_iconst (v := (2 : Int32)) C dX5_save_28 (by decide) ?_
  refine jt_aload_n C dX5_save_29 rfl 3 rfl ?_
  refine jt_callVi (As := []) (rest := [_, _]) C hr2 rfl dX5_save_30 (c_X3_h (jx_l X) k _ _ hr2 _ rfl) (k_goodIn (g_RX5_31)) rfl h_X3_h ⟨rfl, rfl, Nat.le_of_ble_eq_true rfl, Nat.le_of_ble_eq_true rfl⟩ rfl rfl (Nat.le_of_ble_eq_true rfl) ?_
  obtain ⟨M5, eM5, h⟩ := jm_bind h
  refine jt_iast C dX5_save_33 hx1 eM5 ?_
  refine jt_aload_n C dX5_save_34 rfl 0 rfl ?_
  refine jt_iconst (v := (3 : Int32)) C dX5_save_35 (by decide) ?_
  refine jt_aload_n C dX5_save_36 rfl 3 rfl ?_
  refine jt_callVi (As := []) (rest := [_, _]) C hr2 rfl dX5_save_37 (c_X3_size (jx_l X) k _ _ hr2 _ rfl) (k_goodIn (g_RX5_36)) rfl h_X3_size ⟨rfl, rfl, Nat.le_of_ble_eq_true rfl, Nat.le_of_ble_eq_true rfl⟩ rfl rfl (Nat.le_of_ble_eq_true rfl) ?_
  obtain ⟨M6, eM6, h⟩ := jm_bind h
  refine jt_iast C dX5_save_40 hx1 eM6 ?_
  refine jt_iconst (v := (0 : Int32)) C dX5_save_41 (by decide) ?_
  refine jt_istore (lv' := [(4, _), (3, _), (0, _), (1, _), (2, _)]) C dX5_save_42 (by decide) rfl ?_
  obtain ⟨q9, eq9, h⟩ := jm_bind h
  refine jt_sub [2, 4, 1, 0] rfl ?_
  refine t_X5_save_L44 C _ _ _ hr0 hr2 hx1 n _ _ eq9 ?_ _ _ rfl
  refine jt_aload_n C dX5_save_69 rfl 0 rfl ?_
  refine jt_aload_n C dX5_save_70 rfl 0 rfl ?_
  refine jt_getI (Tf := TX5) (N := 3) C dX5_save_71 hr0 rfl i_5 2 (by decide) rfl m_RX5_20 rfl ?_
  refine jt_iconst (v := (1 : Int32)) C dX5_save_74 (by decide) ?_
  refine jt_iadd C dX5_save_75 ?_
  refine jt_bipush (v := (7 : Int32)) C dX5_save_76 (by decide) ?_
  refine jt_iand C dX5_save_78 ?_
  refine jt_putI (Tf := TX5) (N := 3) C dX5_save_79 hr0 rfl i_5 tyX5 tyX5_ok nmX5 2 (by decide) rfl m_RX5_20 rfl rfl (by decide +kernel) ?_
  refine jt_aload_n C dX5_save_82 rfl 0 rfl ?_
  refine jt_aload_n C dX5_save_83 rfl 0 rfl ?_
  refine jt_getI (Tf := TX5) (N := 3) C dX5_save_84 hr0 rfl i_5 1 (by decide) rfl m_RX5_16 rfl ?_
  refine jt_iconst (v := (1 : Int32)) C dX5_save_87 (by decide) ?_
  refine jt_iadd C dX5_save_88 ?_
  refine jt_bipush (v := (8 : Int32)) C dX5_save_89 (by decide) ?_
  refine jt_mmin C dX5_save_91 (List.mem_cons_of_mem _ k_ml_RX5_41) (List.mem_cons_of_mem _ k_st_Lib_Math_min_name) (List.mem_cons_of_mem _ k_ini_java_lang_Math) (List.mem_cons_of_mem _ k_code_min) (Nat.le_of_ble_eq_true rfl) (Nat.le_of_ble_eq_true rfl) ?_
  refine jt_putI (Tf := TX5) (N := 3) C dX5_save_94 hr0 rfl i_5 tyX5 tyX5_ok nmX5 1 (by decide) rfl m_RX5_16 rfl rfl (by decide +kernel) ?_
  cases h
  exact jt_vret C dX5_save_97 hQ hr
theorem h_X8_begin : yX8_begin.cls = RX8 ∧ yX8_begin.cls ≠ "java/lang/invoke/MethodHandle" ∧ yX8_begin.cls ≠ "java/lang/invoke/VarHandle" ∧ (parseMethodDescriptor yX8_begin.desc).map (fun d => d.parameters.length) = some 1 := by decide +kernel
set_option maxHeartbeats 4000000 in
set_option maxRecDepth 100000 in
theorem c_X8_begin (l : Launch) (k : jm_C) (n : Nat) (r0 : Nat) (v1 : Int32) (M : jm_M) (hr0 : jm_is r0 (3, 7)) (q1 : Int32) (q2 : jm_M) (h : X8_begin n r0 v1 M = some (q1, q2)) : jm_Ci l k yX8_begin w_X8_begin { frames := 3, cells := 0, slots := 0, locals := 120 } [.ref (jm_ad k r0), .int v1] M q1 q2 := by
  refine jm_entry_i (cc := cX8_begin) (nL := 3) (ret := (some .int)) (by decide) rfl (Nat.le_of_ble_eq_true rfl) ?_
  intro X hX C hQ hr
  subst hX
  unfold X8_begin at h
  refine jt_iload_n C dX8_begin_0 rfl 1 rfl ?_
  refine jt_iconst (v := (1 : Int32)) C dX8_begin_1 (by decide) ?_
  refine jt_icmp_lt (tgt := 11) C dX8_begin_2 (by decide) (fun c2 => ?_) (fun c2 => ?_)
  · replace h := jm_ift c2 h
    refine jt_iconst (v := (-1 : Int32)) C dX8_begin_11 (by decide) ?_
    cases h
    exact jt_iret C dX8_begin_12 hQ hr
  · replace h := jm_iff c2 h
    refine jt_iload_n C dX8_begin_5 rfl 1 rfl ?_
    refine jt_bipush (v := (8 : Int32)) C dX8_begin_6 (by decide) ?_
    refine jt_icmp_le (tgt := 13) C dX8_begin_8 (by decide) (fun c8 => ?_) (fun c8 => ?_)
    · replace h := jm_ift c8 h
      refine jt_aload_n C dX8_begin_13 rfl 0 rfl ?_
      refine jt_getR (Tf := TX8) (N := 8) C dX8_begin_14 hr0 rfl i_8 0 (by decide) rfl m_RX8_10 rfl ?_
      refine jt_callVi (As := []) (rest := []) C (jm_f7_0 hr0) rfl dX8_begin_17 (c_X4_size (jx_l X) k _ _ (jm_f7_0 hr0) _ rfl) (k_goodIn (g_RX8_61)) rfl h_X4_size ⟨rfl, rfl, Nat.le_of_ble_eq_true rfl, Nat.le_of_ble_eq_true rfl⟩ rfl rfl (Nat.le_of_ble_eq_true rfl) ?_
      refine jt_istore_n (lv' := [(2, _), (0, _), (1, _)]) C dX8_begin_20 rfl (by decide) rfl ?_
      refine jt_aload_n C dX8_begin_21 rfl 1 rfl ?_
      refine jt_getR (Tf := TX8) (N := 8) C dX8_begin_22 hr0 rfl i_8 2 (by decide) rfl m_RX8_26 rfl ?_
      refine jt_aload_n C dX8_begin_25 rfl 1 rfl ?_
      refine jt_getR (Tf := TX8) (N := 8) C dX8_begin_26 hr0 rfl i_8 0 (by decide) rfl m_RX8_10 rfl ?_
      refine jt_aload_n C dX8_begin_29 rfl 1 rfl ?_
      refine jt_getR (Tf := TX8) (N := 8) C dX8_begin_30 hr0 rfl i_8 1 (by decide) rfl m_RX8_19 rfl ?_
      obtain ⟨M1, eM1, h⟩ := jm_bind h
      refine jt_callVv (As := [_, _]) (rest := []) C (jm_f7_2 hr0) rfl dX8_begin_33 (c_X5_save (jx_l X) k n _ _ _ _ (jm_f7_2 hr0) (jm_f7_0 hr0) (jm_f7_1 hr0) _ eM1) (k_goodIn (g_RX8_65)) rfl h_X5_save ⟨rfl, rfl, Nat.le_of_ble_eq_true rfl, Nat.le_of_ble_eq_true rfl⟩ rfl rfl (Nat.le_of_ble_eq_true rfl) ?_
      refine jt_aload_n C dX8_begin_36 rfl 1 rfl ?_
      refine jt_getR (Tf := TX8) (N := 8) C dX8_begin_37 hr0 rfl i_8 0 (by decide) rfl m_RX8_10 rfl ?_
      refine jt_iload_n C dX8_begin_40 rfl 2 rfl ?_
      refine jt_iconst (v := (0 : Int32)) C dX8_begin_41 (by decide) ?_
      obtain ⟨M2, eM2, h⟩ := jm_bind h
      refine jt_callVv (As := [_, _]) (rest := []) C (jm_f7_0 hr0) rfl dX8_begin_42 (c_X4_load (jx_l X) k n _ _ _ _ (jm_f7_0 hr0) _ eM2) (k_goodIn (g_RX8_69)) rfl h_X4_load ⟨rfl, rfl, Nat.le_of_ble_eq_true rfl, Nat.le_of_ble_eq_true rfl⟩ rfl rfl (Nat.le_of_ble_eq_true rfl) ?_
      refine jt_iload_n C dX8_begin_45 rfl 0 rfl ?_
      cases h
      exact jt_iret C dX8_begin_46 hQ hr
    · replace h := jm_iff c8 h
      refine jt_iconst (v := (-1 : Int32)) C dX8_begin_11 (by decide) ?_
      cases h
      exact jt_iret C dX8_begin_12 hQ hr
theorem h_X4_has : yX4_has.cls = RX4 ∧ yX4_has.cls ≠ "java/lang/invoke/MethodHandle" ∧ yX4_has.cls ≠ "java/lang/invoke/VarHandle" ∧ (parseMethodDescriptor yX4_has.desc).map (fun d => d.parameters.length) = some 1 := by decide +kernel
set_option maxHeartbeats 4000000 in
set_option maxRecDepth 100000 in
theorem c_X4_has (l : Launch) (k : jm_C) (r0 : Nat) (v1 : Int32) (M : jm_M) (hr0 : jm_is r0 (3, 4)) (q : Int32) (h : X4_has r0 v1 M = q) : jm_Ci l k yX4_has w_X4_has { frames := 0, cells := 0, slots := 0, locals := 0 } [.ref (jm_ad k r0), .int v1] M q M := by
  refine jm_entry_i (cc := cX4_has) (nL := 2) (ret := (some .boolean)) (by decide) rfl (Nat.le_of_ble_eq_true rfl) ?_
  intro X hX C hQ hr
  subst hX
  unfold X4_has at h
  refine jt_iload_n C dX4_has_0 rfl 1 rfl ?_
  refine jt_if_lt (tgt := 16) C dX4_has_1 (by decide) (fun c1 => ?_) (fun c1 => ?_)
  · replace h := jm_ift c1 h
    refine jt_iconst (v := (0 : Int32)) C dX4_has_16 (by decide) ?_
    subst h
    exact jt_zret C dX4_has_17 hQ hr (Or.inl rfl)
  · replace h := jm_iff c1 h
    refine jt_iload_n C dX4_has_4 rfl 1 rfl ?_
    refine jt_aload_n C dX4_has_5 rfl 0 rfl ?_
    refine jt_getI (Tf := TX4) (N := 2) C dX4_has_6 hr0 rfl i_4 1 (by decide) rfl m_RX4_15 rfl ?_
    refine jt_icmp_ge (tgt := 16) C dX4_has_9 (by decide) (fun c9 => ?_) (fun c9 => ?_)
    · replace h := jm_ift c9 h
      refine jt_iconst (v := (0 : Int32)) C dX4_has_16 (by decide) ?_
      subst h
      exact jt_zret C dX4_has_17 hQ hr (Or.inl rfl)
    · replace h := jm_iff c9 h
      refine jt_iconst (v := (1 : Int32)) C dX4_has_12 (by decide) ?_
      refine jt_goto (tgt := 17) C dX4_has_13 (by decide) ?_
      subst h
      exact jt_zret C dX4_has_17 hQ hr (Or.inr rfl)
theorem h_X4_row : yX4_row.cls = RX4 ∧ yX4_row.cls ≠ "java/lang/invoke/MethodHandle" ∧ yX4_row.cls ≠ "java/lang/invoke/VarHandle" ∧ (parseMethodDescriptor yX4_row.desc).map (fun d => d.parameters.length) = some 1 := by decide +kernel
set_option maxHeartbeats 4000000 in
set_option maxRecDepth 100000 in
theorem c_X4_row (l : Launch) (k : jm_C) (r0 : Nat) (v1 : Int32) (M : jm_M) (hr0 : jm_is r0 (3, 4)) (q : Int32) (h : X4_row r0 v1 M = some q) : jm_Ci l k yX4_row w_X4_row { frames := 0, cells := 0, slots := 0, locals := 0 } [.ref (jm_ad k r0), .int v1] M q M := by
  refine jm_entry_i (cc := cX4_row) (nL := 2) (ret := (some .int)) (by decide) rfl (Nat.le_of_ble_eq_true rfl) ?_
  intro X hX C hQ hr
  subst hX
  unfold X4_row at h
  refine jt_iload_n C dX4_row_0 rfl 1 rfl ?_
  refine jt_if_lt (tgt := 21) C dX4_row_1 (by decide) (fun c1 => ?_) (fun c1 => ?_)
  · replace h := jm_ift c1 h
    refine jt_iconst (v := (0 : Int32)) C dX4_row_21 (by decide) ?_
    cases h
    exact jt_iret C dX4_row_22 hQ hr
  · replace h := jm_iff c1 h
    refine jt_iload_n C dX4_row_4 rfl 1 rfl ?_
    refine jt_aload_n C dX4_row_5 rfl 0 rfl ?_
    refine jt_getI (Tf := TX4) (N := 2) C dX4_row_6 hr0 rfl i_4 1 (by decide) rfl m_RX4_15 rfl ?_
    refine jt_icmp_ge (tgt := 21) C dX4_row_9 (by decide) (fun c9 => ?_) (fun c9 => ?_)
    · replace h := jm_ift c9 h
      refine jt_iconst (v := (0 : Int32)) C dX4_row_21 (by decide) ?_
      cases h
      exact jt_iret C dX4_row_22 hQ hr
    · replace h := jm_iff c9 h
      refine jt_aload_n C dX4_row_12 rfl 0 rfl ?_
      refine jt_getR (Tf := TX4) (N := 2) C dX4_row_13 hr0 rfl i_4 0 (by decide) rfl m_RX4_9 rfl ?_
      refine jt_iload_n C dX4_row_16 rfl 1 rfl ?_
      obtain ⟨x1, ex1, h⟩ := jm_bind h
      refine jt_iald C dX4_row_17 (jm_f4_0 hr0) ex1 ?_
      refine jt_goto (tgt := 22) C dX4_row_18 (by decide) ?_
      cases h
      exact jt_iret C dX4_row_22 hQ hr
theorem h_X4_link : yX4_link.cls = RX4 ∧ yX4_link.cls ≠ "java/lang/invoke/MethodHandle" ∧ yX4_link.cls ≠ "java/lang/invoke/VarHandle" ∧ (parseMethodDescriptor yX4_link.desc).map (fun d => d.parameters.length) = some 2 := by decide +kernel
set_option maxHeartbeats 4000000 in
set_option maxRecDepth 100000 in
theorem c_X4_link (l : Launch) (k : jm_C) (r0 : Nat) (v1 : Int32) (v2 : Int32) (M : jm_M) (hr0 : jm_is r0 (3, 4)) (q : Int32) (h : X4_link r0 v1 v2 M = some q) : jm_Ci l k yX4_link w_X4_link { frames := 1, cells := 0, slots := 0, locals := 40 } [.ref (jm_ad k r0), .int v1, .int v2] M q M := by
  refine jm_entry_i (cc := cX4_link) (nL := 3) (ret := (some .int)) (by decide) rfl (Nat.le_of_ble_eq_true rfl) ?_
  intro X hX C hQ hr
  subst hX
  unfold X4_link at h
  refine jt_aload_n C dX4_link_0 rfl 0 rfl ?_
  refine jt_iload_n C dX4_link_1 rfl 1 rfl ?_
  obtain ⟨x1, ex1, h⟩ := jm_bind h
  refine jt_callVi (As := [_]) (rest := []) C hr0 rfl dX4_link_2 (c_X4_row (jx_l X) k _ _ _ hr0 _ ex1) (k_goodIn (g_RX4_19)) rfl h_X4_row ⟨rfl, rfl, Nat.le_of_ble_eq_true rfl, Nat.le_of_ble_eq_true rfl⟩ rfl rfl (Nat.le_of_ble_eq_true rfl) ?_
  refine jt_iload_n C dX4_link_5 rfl 2 rfl ?_
  refine jt_ishr C dX4_link_6 ?_
  refine jt_iconst (v := (1 : Int32)) C dX4_link_7 (by decide) ?_
  refine jt_iand C dX4_link_8 ?_
  cases h
  exact jt_iret C dX4_link_9 hQ hr
theorem h_X4_setLink : yX4_setLink.cls = RX4 ∧ yX4_setLink.cls ≠ "java/lang/invoke/MethodHandle" ∧ yX4_setLink.cls ≠ "java/lang/invoke/VarHandle" ∧ (parseMethodDescriptor yX4_setLink.desc).map (fun d => d.parameters.length) = some 3 := by decide +kernel
set_option maxHeartbeats 4000000 in
set_option maxRecDepth 100000 in
theorem c_X4_setLink (l : Launch) (k : jm_C) (r0 : Nat) (v1 : Int32) (v2 : Int32) (v3 : Int32) (M : jm_M) (hr0 : jm_is r0 (3, 4)) (q : jm_M) (h : X4_setLink r0 v1 v2 v3 M = some q) : jm_Cv l k yX4_setLink w_X4_setLink { frames := 1, cells := 0, slots := 0, locals := 40 } [.ref (jm_ad k r0), .int v1, .int v2, .int v3] M q := by
  refine jm_entry_v (cc := cX4_setLink) (nL := 4) (ret := none) (by decide) rfl (Nat.le_of_ble_eq_true rfl) ?_
  intro X hX C hQ hr
  subst hX
  unfold X4_setLink at h
  refine jt_aload_n C dX4_setLink_0 rfl 0 rfl ?_
  refine jt_iload_n C dX4_setLink_1 rfl 1 rfl ?_
  refine jt_callVi (As := [_]) (rest := []) C hr0 rfl dX4_setLink_2 (c_X4_has (jx_l X) k _ _ _ hr0 _ rfl) (k_goodIn (g_RX4_23)) rfl h_X4_has ⟨rfl, rfl, Nat.le_of_ble_eq_true rfl, Nat.le_of_ble_eq_true rfl⟩ rfl rfl (Nat.le_of_ble_eq_true rfl) ?_
  refine jt_if_eq (tgt := 16) C dX4_setLink_5 (by decide) (fun c5 => ?_) (fun c5 => ?_)
  · replace h := jm_ift c5 h
    cases h
    exact jt_vret C dX4_setLink_16 hQ hr
  · replace h := jm_iff c5 h
    refine jt_aload_n C dX4_setLink_8 rfl 0 rfl ?_
    refine jt_iload_n C dX4_setLink_9 rfl 2 rfl ?_
    refine jt_callVi (As := [_]) (rest := []) C hr0 rfl dX4_setLink_10 (c_X4_has (jx_l X) k _ _ _ hr0 _ rfl) (k_goodIn (g_RX4_23)) rfl h_X4_has ⟨rfl, rfl, Nat.le_of_ble_eq_true rfl, Nat.le_of_ble_eq_true rfl⟩ rfl rfl (Nat.le_of_ble_eq_true rfl) ?_
    refine jt_if_ne (tgt := 17) C dX4_setLink_13 (by decide) (fun c13 => ?_) (fun c13 => ?_)
    · replace h := jm_iff c13 h
      refine jt_aload_n C dX4_setLink_17 rfl 0 rfl ?_
      refine jt_getR (Tf := TX4) (N := 2) C dX4_setLink_18 hr0 rfl i_4 0 (by decide) rfl m_RX4_9 rfl ?_
      refine jt_iload_n C dX4_setLink_21 rfl 1 rfl ?_
      refine jt_aload_n C dX4_setLink_22 rfl 0 rfl ?_
      refine jt_getR (Tf := TX4) (N := 2) C dX4_setLink_23 hr0 rfl i_4 0 (by decide) rfl m_RX4_9 rfl ?_
      refine jt_iload_n C dX4_setLink_26 rfl 1 rfl ?_
      obtain ⟨x1, ex1, h⟩ := jm_bind h
      refine jt_iald C dX4_setLink_27 (jm_f4_0 hr0) ex1 ?_
      refine jt_iconst (v := (1 : Int32)) C dX4_setLink_28 (by decide) ?_
      refine jt_iload_n C dX4_setLink_29 rfl 2 rfl ?_
      refine jt_ishl C dX4_setLink_30 ?_
      refine jt_iconst (v := (-1 : Int32)) C dX4_setLink_31 (by decide) ?_
      refine jt_ixor C dX4_setLink_32 ?_
      refine jt_iand C dX4_setLink_33 ?_
      refine jt_iload_n C dX4_setLink_34 rfl 3 rfl ?_
      refine jt_iload_n C dX4_setLink_35 rfl 2 rfl ?_
      refine jt_ishl C dX4_setLink_36 ?_
      refine jt_ior C dX4_setLink_37 ?_
      obtain ⟨M2, eM2, h⟩ := jm_bind h
      refine jt_iast C dX4_setLink_38 (jm_f4_0 hr0) eM2 ?_
      refine jt_aload_n C dX4_setLink_39 rfl 0 rfl ?_
      refine jt_getR (Tf := TX4) (N := 2) C dX4_setLink_40 hr0 rfl i_4 0 (by decide) rfl m_RX4_9 rfl ?_
      refine jt_iload_n C dX4_setLink_43 rfl 2 rfl ?_
      refine jt_aload_n C dX4_setLink_44 rfl 0 rfl ?_
      refine jt_getR (Tf := TX4) (N := 2) C dX4_setLink_45 hr0 rfl i_4 0 (by decide) rfl m_RX4_9 rfl ?_
      refine jt_iload_n C dX4_setLink_48 rfl 2 rfl ?_
      obtain ⟨x3, ex3, h⟩ := jm_bind h
      refine jt_iald C dX4_setLink_49 (jm_f4_0 hr0) ex3 ?_
      refine jt_iconst (v := (1 : Int32)) C dX4_setLink_50 (by decide) ?_
      refine jt_iload_n C dX4_setLink_51 rfl 1 rfl ?_
      refine jt_ishl C dX4_setLink_52 ?_
      refine jt_iconst (v := (-1 : Int32)) C dX4_setLink_53 (by decide) ?_
      refine jt_ixor C dX4_setLink_54 ?_
      refine jt_iand C dX4_setLink_55 ?_
      refine jt_iload_n C dX4_setLink_56 rfl 3 rfl ?_
      refine jt_iload_n C dX4_setLink_57 rfl 1 rfl ?_
      refine jt_ishl C dX4_setLink_58 ?_
      refine jt_ior C dX4_setLink_59 ?_
      obtain ⟨M4, eM4, h⟩ := jm_bind h
      refine jt_iast C dX4_setLink_60 (jm_f4_0 hr0) eM4 ?_
      cases h
      exact jt_vret C dX4_setLink_61 hQ hr
    · replace h := jm_ift c13 h
      cases h
      exact jt_vret C dX4_setLink_16 hQ hr
theorem h_X8_edge : yX8_edge.cls = RX8 ∧ yX8_edge.cls ≠ "java/lang/invoke/MethodHandle" ∧ yX8_edge.cls ≠ "java/lang/invoke/VarHandle" ∧ (parseMethodDescriptor yX8_edge.desc).map (fun d => d.parameters.length) = some 3 := by decide +kernel
set_option maxHeartbeats 4000000 in
set_option maxRecDepth 100000 in
theorem c_X8_edge (l : Launch) (k : jm_C) (n : Nat) (r0 : Nat) (v1 : Int32) (v2 : Int32) (v3 : Int32) (M : jm_M) (hr0 : jm_is r0 (3, 7)) (q1 : Int32) (q2 : jm_M) (h : X8_edge n r0 v1 v2 v3 M = some (q1, q2)) : jm_Ci l k yX8_edge w_X8_edge { frames := 3, cells := 0, slots := 0, locals := 120 } [.ref (jm_ad k r0), .int v1, .int v2, .int v3] M q1 q2 := by
  refine jm_entry_i (cc := cX8_edge) (nL := 5) (ret := (some .int)) (by decide) rfl (Nat.le_of_ble_eq_true rfl) ?_
  intro X hX C hQ hr
  subst hX
  unfold X8_edge at h
  refine jt_aload_n C dX8_edge_0 rfl 0 rfl ?_
  refine jt_getR (Tf := TX8) (N := 8) C dX8_edge_1 hr0 rfl i_8 0 (by decide) rfl m_RX8_10 rfl ?_
  refine jt_iload_n C dX8_edge_4 rfl 1 rfl ?_
  refine jt_callVi (As := [_]) (rest := []) C (jm_f7_0 hr0) rfl dX8_edge_5 (c_X4_has (jx_l X) k _ _ _ (jm_f7_0 hr0) _ rfl) (k_goodIn (g_RX8_73)) rfl h_X4_has ⟨rfl, rfl, Nat.le_of_ble_eq_true rfl, Nat.le_of_ble_eq_true rfl⟩ rfl rfl (Nat.le_of_ble_eq_true rfl) ?_
  refine jt_if_eq (tgt := 36) C dX8_edge_8 (by decide) (fun c8 => ?_) (fun c8 => ?_)
  · replace h := jm_ift c8 h
    refine jt_iconst (v := (-1 : Int32)) C dX8_edge_36 (by decide) ?_
    cases h
    exact jt_iret C dX8_edge_37 hQ hr
  · replace h := jm_iff c8 h
    refine jt_aload_n C dX8_edge_11 rfl 0 rfl ?_
    refine jt_getR (Tf := TX8) (N := 8) C dX8_edge_12 hr0 rfl i_8 0 (by decide) rfl m_RX8_10 rfl ?_
    refine jt_iload_n C dX8_edge_15 rfl 2 rfl ?_
    refine jt_callVi (As := [_]) (rest := []) C (jm_f7_0 hr0) rfl dX8_edge_16 (c_X4_has (jx_l X) k _ _ _ (jm_f7_0 hr0) _ rfl) (k_goodIn (g_RX8_73)) rfl h_X4_has ⟨rfl, rfl, Nat.le_of_ble_eq_true rfl, Nat.le_of_ble_eq_true rfl⟩ rfl rfl (Nat.le_of_ble_eq_true rfl) ?_
    refine jt_if_eq (tgt := 36) C dX8_edge_19 (by decide) (fun c19 => ?_) (fun c19 => ?_)
    · replace h := jm_ift c19 h
      refine jt_iconst (v := (-1 : Int32)) C dX8_edge_36 (by decide) ?_
      cases h
      exact jt_iret C dX8_edge_37 hQ hr
    · replace h := jm_iff c19 h
      refine jt_iload_n C dX8_edge_22 rfl 1 rfl ?_
      refine jt_iload_n C dX8_edge_23 rfl 2 rfl ?_
      refine jt_icmp_eq (tgt := 36) C dX8_edge_24 (by decide) (fun c24 => ?_) (fun c24 => ?_)
      · replace h := jm_ift c24 h
        refine jt_iconst (v := (-1 : Int32)) C dX8_edge_36 (by decide) ?_
        cases h
        exact jt_iret C dX8_edge_37 hQ hr
      · replace h := jm_iff c24 h
        refine jt_iload_n C dX8_edge_27 rfl 3 rfl ?_
        refine jt_if_lt (tgt := 36) C dX8_edge_28 (by decide) (fun c28 => ?_) (fun c28 => ?_)
        · replace h := jm_ift c28 h
          refine jt_iconst (v := (-1 : Int32)) C dX8_edge_36 (by decide) ?_
          cases h
          exact jt_iret C dX8_edge_37 hQ hr
        · replace h := jm_iff c28 h
          refine jt_iload_n C dX8_edge_31 rfl 3 rfl ?_
          refine jt_iconst (v := (1 : Int32)) C dX8_edge_32 (by decide) ?_
          refine jt_icmp_le (tgt := 38) C dX8_edge_33 (by decide) (fun c33 => ?_) (fun c33 => ?_)
          · replace h := jm_ift c33 h
            refine jt_aload_n C dX8_edge_38 rfl 0 rfl ?_
            refine jt_getR (Tf := TX8) (N := 8) C dX8_edge_39 hr0 rfl i_8 0 (by decide) rfl m_RX8_10 rfl ?_
            refine jt_iload_n C dX8_edge_42 rfl 1 rfl ?_
            refine jt_iload_n C dX8_edge_43 rfl 2 rfl ?_
            obtain ⟨x1, ex1, h⟩ := jm_bind h
            refine jt_callVi (As := [_, _]) (rest := []) C (jm_f7_0 hr0) rfl dX8_edge_44 (c_X4_link (jx_l X) k _ _ _ _ (jm_f7_0 hr0) _ ex1) (k_goodIn (g_RX8_77)) rfl h_X4_link ⟨rfl, rfl, Nat.le_of_ble_eq_true rfl, Nat.le_of_ble_eq_true rfl⟩ rfl rfl (Nat.le_of_ble_eq_true rfl) ?_
            refine jt_istore (lv' := [(4, _), (0, _), (1, _), (2, _), (3, _)]) C dX8_edge_47 (by decide) rfl ?_
            refine jt_aload_n C dX8_edge_49 rfl 1 rfl ?_
            refine jt_getR (Tf := TX8) (N := 8) C dX8_edge_50 hr0 rfl i_8 2 (by decide) rfl m_RX8_26 rfl ?_
            refine jt_aload_n C dX8_edge_53 rfl 1 rfl ?_
            refine jt_getR (Tf := TX8) (N := 8) C dX8_edge_54 hr0 rfl i_8 0 (by decide) rfl m_RX8_10 rfl ?_
            refine jt_aload_n C dX8_edge_57 rfl 1 rfl ?_
            refine jt_getR (Tf := TX8) (N := 8) C dX8_edge_58 hr0 rfl i_8 1 (by decide) rfl m_RX8_19 rfl ?_
            obtain ⟨M2, eM2, h⟩ := jm_bind h
            refine jt_callVv (As := [_, _]) (rest := []) C (jm_f7_2 hr0) rfl dX8_edge_61 (c_X5_save (jx_l X) k n _ _ _ _ (jm_f7_2 hr0) (jm_f7_0 hr0) (jm_f7_1 hr0) _ eM2) (k_goodIn (g_RX8_65)) rfl h_X5_save ⟨rfl, rfl, Nat.le_of_ble_eq_true rfl, Nat.le_of_ble_eq_true rfl⟩ rfl rfl (Nat.le_of_ble_eq_true rfl) ?_
            refine jt_aload_n C dX8_edge_64 rfl 1 rfl ?_
            refine jt_getR (Tf := TX8) (N := 8) C dX8_edge_65 hr0 rfl i_8 0 (by decide) rfl m_RX8_10 rfl ?_
            refine jt_iload_n C dX8_edge_68 rfl 2 rfl ?_
            refine jt_iload_n C dX8_edge_69 rfl 3 rfl ?_
            refine jt_iload_n C dX8_edge_70 rfl 4 rfl ?_
            obtain ⟨M3, eM3, h⟩ := jm_bind h
            refine jt_callVv (As := [_, _, _]) (rest := []) C (jm_f7_0 hr0) rfl dX8_edge_71 (c_X4_setLink (jx_l X) k _ _ _ _ _ (jm_f7_0 hr0) _ eM3) (k_goodIn (g_RX8_81)) rfl h_X4_setLink ⟨rfl, rfl, Nat.le_of_ble_eq_true rfl, Nat.le_of_ble_eq_true rfl⟩ rfl rfl (Nat.le_of_ble_eq_true rfl) ?_
            refine jt_iload C dX8_edge_74 0 rfl ?_
            cases h
            exact jt_iret C dX8_edge_76 hQ hr
          · replace h := jm_iff c33 h
            refine jt_iconst (v := (-1 : Int32)) C dX8_edge_36 (by decide) ?_
            cases h
            exact jt_iret C dX8_edge_37 hQ hr
theorem h_X8_isCode : yX8_isCode.cls ≠ "java/lang/invoke/MethodHandle" ∧ yX8_isCode.cls ≠ "java/lang/invoke/VarHandle" ∧ (parseMethodDescriptor yX8_isCode.desc).map (fun d => d.parameters.length) = some 2 := by decide +kernel
set_option maxHeartbeats 4000000 in
set_option maxRecDepth 100000 in
theorem c_X8_isCode (l : Launch) (k : jm_C) (v0 : Int32) (v1 : Int32) (M : jm_M)  (q : Int32) (h : X8_isCode v0 v1 = q) : jm_Ci l k yX8_isCode w_X8_isCode { frames := 0, cells := 0, slots := 0, locals := 0 } [.int v0, .int v1] M q M := by
  refine jm_entry_i (cc := cX8_isCode) (nL := 2) (ret := (some .boolean)) (by decide) rfl (Nat.le_of_ble_eq_true rfl) ?_
  intro X hX C hQ hr
  subst hX
  unfold X8_isCode at h
  refine jt_iload_n C dX8_isCode_0 rfl 1 rfl ?_
  refine jt_if_lt (tgt := 21) C dX8_isCode_1 (by decide) (fun c1 => ?_) (fun c1 => ?_)
  · replace h := jm_ift c1 h
    refine jt_iconst (v := (0 : Int32)) C dX8_isCode_21 (by decide) ?_
    subst h
    exact jt_zret C dX8_isCode_22 hQ hr (Or.inl rfl)
  · replace h := jm_iff c1 h
    refine jt_iload_n C dX8_isCode_4 rfl 1 rfl ?_
    refine jt_iconst (v := (1 : Int32)) C dX8_isCode_5 (by decide) ?_
    refine jt_iload_n C dX8_isCode_6 rfl 0 rfl ?_
    refine jt_iload_n C dX8_isCode_7 rfl 0 rfl ?_
    refine jt_iconst (v := (1 : Int32)) C dX8_isCode_8 (by decide) ?_
    refine jt_isub C dX8_isCode_9 ?_
    refine jt_imul C dX8_isCode_10 ?_
    refine jt_iconst (v := (2 : Int32)) C dX8_isCode_11 (by decide) ?_
    refine jt_idiv C dX8_isCode_12 (if_neg (by decide)) ?_
    refine jt_ishl C dX8_isCode_13 ?_
    refine jt_icmp_ge (tgt := 21) C dX8_isCode_14 (by decide) (fun c14 => ?_) (fun c14 => ?_)
    · replace h := jm_ift c14 h
      refine jt_iconst (v := (0 : Int32)) C dX8_isCode_21 (by decide) ?_
      subst h
      exact jt_zret C dX8_isCode_22 hQ hr (Or.inl rfl)
    · replace h := jm_iff c14 h
      refine jt_iconst (v := (1 : Int32)) C dX8_isCode_17 (by decide) ?_
      refine jt_goto (tgt := 22) C dX8_isCode_18 (by decide) ?_
      subst h
      exact jt_zret C dX8_isCode_22 hQ hr (Or.inr rfl)
theorem h_X8_become : yX8_become.cls = RX8 ∧ yX8_become.cls ≠ "java/lang/invoke/MethodHandle" ∧ yX8_become.cls ≠ "java/lang/invoke/VarHandle" ∧ (parseMethodDescriptor yX8_become.desc).map (fun d => d.parameters.length) = some 1 := by decide +kernel
set_option maxHeartbeats 4000000 in
set_option maxRecDepth 100000 in
theorem c_X8_become (l : Launch) (k : jm_C) (n : Nat) (r0 : Nat) (v1 : Int32) (M : jm_M) (hr0 : jm_is r0 (3, 7)) (q1 : Int32) (q2 : jm_M) (h : X8_become n r0 v1 M = some (q1, q2)) : jm_Ci l k yX8_become w_X8_become { frames := 3, cells := 0, slots := 0, locals := 120 } [.ref (jm_ad k r0), .int v1] M q1 q2 := by
  refine jm_entry_i (cc := cX8_become) (nL := 3) (ret := (some .int)) (by decide) rfl (Nat.le_of_ble_eq_true rfl) ?_
  intro X hX C hQ hr
  subst hX
  unfold X8_become at h
  refine jt_aload_n C dX8_become_0 rfl 0 rfl ?_
  refine jt_getR (Tf := TX8) (N := 8) C dX8_become_1 hr0 rfl i_8 0 (by decide) rfl m_RX8_10 rfl ?_
  refine jt_callVi (As := []) (rest := []) C (jm_f7_0 hr0) rfl dX8_become_4 (c_X4_size (jx_l X) k _ _ (jm_f7_0 hr0) _ rfl) (k_goodIn (g_RX8_61)) rfl h_X4_size ⟨rfl, rfl, Nat.le_of_ble_eq_true rfl, Nat.le_of_ble_eq_true rfl⟩ rfl rfl (Nat.le_of_ble_eq_true rfl) ?_
  refine jt_iload_n C dX8_become_7 rfl 1 rfl ?_
  refine jt_callSi (As := [_, _]) (rest := []) C dX8_become_8 (c_X8_isCode (jx_l X) k _ _ _ _ rfl) (k_goodIn (g_RX8_85)) rfl h_X8_isCode ⟨rfl, rfl, Nat.le_of_ble_eq_true rfl, Nat.le_of_ble_eq_true rfl⟩ rfl rfl (Nat.le_of_ble_eq_true rfl) ?_
  refine jt_if_ne (tgt := 16) C dX8_become_11 (by decide) (fun c11 => ?_) (fun c11 => ?_)
  · replace h := jm_iff c11 h
    refine jt_aload_n C dX8_become_16 rfl 0 rfl ?_
    refine jt_getR (Tf := TX8) (N := 8) C dX8_become_17 hr0 rfl i_8 0 (by decide) rfl m_RX8_10 rfl ?_
    obtain ⟨x1, ex1, h⟩ := jm_bind h
    refine jt_callVi (As := []) (rest := []) C (jm_f7_0 hr0) rfl dX8_become_20 (c_X4_code (jx_l X) k n _ _ (jm_f7_0 hr0) _ ex1) (k_goodIn (g_RX8_89)) rfl h_X4_code ⟨rfl, rfl, Nat.le_of_ble_eq_true rfl, Nat.le_of_ble_eq_true rfl⟩ rfl rfl (Nat.le_of_ble_eq_true rfl) ?_
    refine jt_istore_n (lv' := [(2, _), (0, _), (1, _)]) C dX8_become_23 rfl (by decide) rfl ?_
    refine jt_aload_n C dX8_become_24 rfl 1 rfl ?_
    refine jt_getR (Tf := TX8) (N := 8) C dX8_become_25 hr0 rfl i_8 2 (by decide) rfl m_RX8_26 rfl ?_
    refine jt_aload_n C dX8_become_28 rfl 1 rfl ?_
    refine jt_getR (Tf := TX8) (N := 8) C dX8_become_29 hr0 rfl i_8 0 (by decide) rfl m_RX8_10 rfl ?_
    refine jt_aload_n C dX8_become_32 rfl 1 rfl ?_
    refine jt_getR (Tf := TX8) (N := 8) C dX8_become_33 hr0 rfl i_8 1 (by decide) rfl m_RX8_19 rfl ?_
    obtain ⟨M2, eM2, h⟩ := jm_bind h
    refine jt_callVv (As := [_, _]) (rest := []) C (jm_f7_2 hr0) rfl dX8_become_36 (c_X5_save (jx_l X) k n _ _ _ _ (jm_f7_2 hr0) (jm_f7_0 hr0) (jm_f7_1 hr0) _ eM2) (k_goodIn (g_RX8_65)) rfl h_X5_save ⟨rfl, rfl, Nat.le_of_ble_eq_true rfl, Nat.le_of_ble_eq_true rfl⟩ rfl rfl (Nat.le_of_ble_eq_true rfl) ?_
    refine jt_aload_n C dX8_become_39 rfl 1 rfl ?_
    refine jt_getR (Tf := TX8) (N := 8) C dX8_become_40 hr0 rfl i_8 0 (by decide) rfl m_RX8_10 rfl ?_
    refine jt_aload_n C dX8_become_43 rfl 1 rfl ?_
    refine jt_getR (Tf := TX8) (N := 8) C dX8_become_44 hr0 rfl i_8 0 (by decide) rfl m_RX8_10 rfl ?_
    refine jt_callVi (As := []) (rest := [_]) C (jm_f7_0 hr0) rfl dX8_become_47 (c_X4_size (jx_l X) k _ _ (jm_f7_0 hr0) _ rfl) (k_goodIn (g_RX8_61)) rfl h_X4_size ⟨rfl, rfl, Nat.le_of_ble_eq_true rfl, Nat.le_of_ble_eq_true rfl⟩ rfl rfl (Nat.le_of_ble_eq_true rfl) ?_
    refine jt_iload_n C dX8_become_50 rfl 2 rfl ?_
    obtain ⟨M3, eM3, h⟩ := jm_bind h
    refine jt_callVv (As := [_, _]) (rest := []) C (jm_f7_0 hr0) rfl dX8_become_51 (c_X4_load (jx_l X) k n _ _ _ _ (jm_f7_0 hr0) _ eM3) (k_goodIn (g_RX8_69)) rfl h_X4_load ⟨rfl, rfl, Nat.le_of_ble_eq_true rfl, Nat.le_of_ble_eq_true rfl⟩ rfl rfl (Nat.le_of_ble_eq_true rfl) ?_
    refine jt_iload_n C dX8_become_54 rfl 0 rfl ?_
    cases h
    exact jt_iret C dX8_become_55 hQ hr
  · replace h := jm_ift c11 h
    refine jt_iconst (v := (-1 : Int32)) C dX8_become_14 (by decide) ?_
    cases h
    exact jt_iret C dX8_become_15 hQ hr
theorem h_X3_put : yX3_put.cls = RX3 ∧ yX3_put.cls ≠ "java/lang/invoke/MethodHandle" ∧ yX3_put.cls ≠ "java/lang/invoke/VarHandle" ∧ (parseMethodDescriptor yX3_put.desc).map (fun d => d.parameters.length) = some 1 := by decide +kernel
set_option maxHeartbeats 4000000 in
set_option maxRecDepth 100000 in
theorem t_X3_put_L2 {X : jm_X} {k : jm_C} (C : jm_Cx X k cX3_put 4 RX3 w_X3_put) (r0 : Nat) (v1 : Int32) (M : jm_M) (hr0 : jm_is r0 (3, 3)) : ∀ (m : Nat) (s : Int32) (r : Int32), jm_loop (X3_put_B2 r0 v1 M) m s = some r → jm_T X { frames := 0, cells := 0, slots := 0, locals := 0 } k 4 M 26 [(0, .ref (jm_ad k r0)), (1, .int v1), (2, .int r)] [] → jm_T X { frames := 0, cells := 0, slots := 0, locals := 0 } k 4 M 2 [(0, .ref (jm_ad k r0)), (1, .int v1), (2, .int s)] [] := by
  refine jm_loop_ind (P := fun (s : Int32) => jm_T X { frames := 0, cells := 0, slots := 0, locals := 0 } k 4 M 2 [(0, .ref (jm_ad k r0)), (1, .int v1), (2, .int s)] []) (K := fun (r : Int32) => jm_T X { frames := 0, cells := 0, slots := 0, locals := 0 } k 4 M 26 [(0, .ref (jm_ad k r0)), (1, .int v1), (2, .int r)] []) ?_
  intro s q h h1 h2
  unfold X3_put_B2 at h
  try dsimp only at h
  refine jt_iload_n C dX3_put_2 rfl 2 rfl ?_
  refine jt_aload_n C dX3_put_3 rfl 0 rfl ?_
  refine jt_getI (Tf := TX3) (N := 3) C dX3_put_4 hr0 rfl i_3 2 (by decide) rfl m_RX3_19 rfl ?_
  refine jt_icmp_ge (tgt := 26) C dX3_put_7 (by decide) (fun c7 => ?_) (fun c7 => ?_)
  · replace h := jm_ift c7 h
    cases h
    exact jt_sub [0, 1, 2] rfl (h2 _ rfl)
  · replace h := jm_iff c7 h
    refine jt_aload_n C dX3_put_10 rfl 0 rfl ?_
    refine jt_getR (Tf := TX3) (N := 3) C dX3_put_11 hr0 rfl i_3 0 (by decide) rfl m_RX3_9 rfl ?_
    refine jt_iload_n C dX3_put_14 rfl 2 rfl ?_
    obtain ⟨x1, ex1, h⟩ := jm_bind h
    refine jt_iald C dX3_put_15 (jm_f3_0 hr0) ex1 ?_
    refine jt_iload_n C dX3_put_16 rfl 1 rfl ?_
    refine jt_icmp_ge (tgt := 26) C dX3_put_17 (by decide) (fun c17 => ?_) (fun c17 => ?_)
    · replace h := jm_ift c17 h
      cases h
      exact jt_sub [0, 1, 2] rfl (h2 _ rfl)
    · replace h := jm_iff c17 h
      refine jt_iinc (v := (1 : Int32)) (lv' := [(2, _), (0, _), (1, _)]) C dX3_put_20 2 rfl (by decide) (by decide) rfl ?_
      refine jt_goto (tgt := 2) C dX3_put_23 (by decide) ?_
      cases h
      exact jt_sub [1, 2, 0] rfl (h1 _ rfl)
set_option maxHeartbeats 4000000 in
set_option maxRecDepth 100000 in
theorem t_X3_put_L40 {X : jm_X} {k : jm_C} (C : jm_Cx X k cX3_put 4 RX3 w_X3_put) (r0 : Nat) (v1 : Int32) (v2 : Int32) (hr0 : jm_is r0 (3, 3)) : ∀ (m : Nat) (s : Int32 × jm_M) (r : jm_M), jm_loop (X3_put_B40 r0 v1 v2) m s = some r → jm_T X { frames := 0, cells := 0, slots := 0, locals := 0 } k 4 r 65 [(0, .ref (jm_ad k r0)), (1, .int v1), (2, .int v2)] [] → (∀ (b0 : Int32) (b1 : jm_M), s = (b0, b1) → jm_T X { frames := 0, cells := 0, slots := 0, locals := 0 } k 4 b1 40 [(0, .ref (jm_ad k r0)), (1, .int v1), (2, .int v2), (3, .int b0)] []) := by
  refine jm_loop_ind (P := fun (s : Int32 × jm_M) => (∀ (b0 : Int32) (b1 : jm_M), s = (b0, b1) → jm_T X { frames := 0, cells := 0, slots := 0, locals := 0 } k 4 b1 40 [(0, .ref (jm_ad k r0)), (1, .int v1), (2, .int v2), (3, .int b0)] [])) (K := fun (r : jm_M) => jm_T X { frames := 0, cells := 0, slots := 0, locals := 0 } k 4 r 65 [(0, .ref (jm_ad k r0)), (1, .int v1), (2, .int v2)] []) ?_
  intro s q h h1 h2
  intro b0 b1 hs
  subst hs
  unfold X3_put_B40 at h
  try dsimp only at h
  refine jt_iload_n C dX3_put_40 rfl 3 rfl ?_
  refine jt_iload_n C dX3_put_41 rfl 2 rfl ?_
  refine jt_icmp_le (tgt := 65) C dX3_put_42 (by decide) (fun c42 => ?_) (fun c42 => ?_)
  · replace h := jm_ift c42 h
    cases h
    exact jt_sub [0, 1, 2] rfl (h2 _ rfl)
  · replace h := jm_iff c42 h
    refine jt_aload_n C dX3_put_45 rfl 0 rfl ?_
    refine jt_getR (Tf := TX3) (N := 3) C dX3_put_46 hr0 rfl i_3 0 (by decide) rfl m_RX3_9 rfl ?_
    refine jt_iload_n C dX3_put_49 rfl 3 rfl ?_
    refine jt_aload_n C dX3_put_50 rfl 0 rfl ?_
    refine jt_getR (Tf := TX3) (N := 3) C dX3_put_51 hr0 rfl i_3 0 (by decide) rfl m_RX3_9 rfl ?_
    refine jt_iload_n C dX3_put_54 rfl 3 rfl ?_
    refine jt_iconst (v := (1 : Int32)) C dX3_put_55 (by decide) ?_
    refine jt_isub C dX3_put_56 ?_
    obtain ⟨x3, ex3, h⟩ := jm_bind h
    refine jt_iald C dX3_put_57 (jm_f3_0 hr0) ex3 ?_
    obtain ⟨M4, eM4, h⟩ := jm_bind h
    refine jt_iast C dX3_put_58 (jm_f3_0 hr0) eM4 ?_
    refine jt_iinc (v := (-1 : Int32)) (lv' := [(3, _), (0, _), (1, _), (2, _)]) C dX3_put_59 3 rfl (by decide) (by decide) rfl ?_
    refine jt_goto (tgt := 40) C dX3_put_62 (by decide) ?_
    cases h
    exact jt_sub [1, 2, 3, 0] rfl (h1 _ rfl _ _ rfl)
set_option maxHeartbeats 4000000 in
set_option maxRecDepth 100000 in
theorem c_X3_put (l : Launch) (k : jm_C) (n : Nat) (r0 : Nat) (v1 : Int32) (M : jm_M) (hr0 : jm_is r0 (3, 3)) (q1 : Int32) (q2 : jm_M) (h : X3_put n r0 v1 M = some (q1, q2)) : jm_Ci l k yX3_put w_X3_put { frames := 0, cells := 0, slots := 0, locals := 0 } [.ref (jm_ad k r0), .int v1] M q1 q2 := by
  refine jm_entry_i (cc := cX3_put) (nL := 4) (ret := (some .int)) (by decide) rfl (Nat.le_of_ble_eq_true rfl) ?_
  intro X hX C hQ hr
  subst hX
  unfold X3_put at h
  refine jt_iconst (v := (0 : Int32)) C dX3_put_0 (by decide) ?_
  refine jt_istore_n (lv' := [(2, _), (0, _), (1, _)]) C dX3_put_1 rfl (by decide) rfl ?_
  obtain ⟨q2, eq2, h⟩ := jm_bind h
  refine jt_sub [1, 2, 0] rfl ?_
  refine t_X3_put_L2 C _ _ _ hr0 n _ _ eq2 ?_
  refine jt_aload_n C dX3_put_26 rfl 0 rfl ?_
  refine jt_getI (Tf := TX3) (N := 3) C dX3_put_27 hr0 rfl i_3 2 (by decide) rfl m_RX3_19 rfl ?_
  refine jt_bipush (v := (8 : Int32)) C dX3_put_30 (by decide) ?_
  refine jt_icmp_ge (tgt := 82) C dX3_put_32 (by decide) (fun c32 => ?_) (fun c32 => ?_)
  · replace h := jm_ift c32 h
    refine jt_iload_n C dX3_put_82 rfl 2 rfl ?_
    cases h
    exact jt_iret C dX3_put_83 hQ hr
  · replace h := jm_iff c32 h
    refine jt_aload_n C dX3_put_35 rfl 0 rfl ?_
    refine jt_getI (Tf := TX3) (N := 3) C dX3_put_36 hr0 rfl i_3 2 (by decide) rfl m_RX3_19 rfl ?_
    refine jt_istore_n (lv' := [(3, _), (0, _), (1, _), (2, _)]) C dX3_put_39 rfl (by decide) rfl ?_
    obtain ⟨q5, eq5, h⟩ := jm_bind h
    refine jt_sub [1, 2, 3, 0] rfl ?_
    refine t_X3_put_L40 C _ _ _ hr0 n _ _ eq5 ?_ _ _ rfl
    refine jt_aload_n C dX3_put_65 rfl 0 rfl ?_
    refine jt_getR (Tf := TX3) (N := 3) C dX3_put_66 hr0 rfl i_3 0 (by decide) rfl m_RX3_9 rfl ?_
    refine jt_iload_n C dX3_put_69 rfl 2 rfl ?_
    refine jt_iload_n C dX3_put_70 rfl 1 rfl ?_
    obtain ⟨M6, eM6, h⟩ := jm_bind h
    refine jt_iast C dX3_put_71 (jm_f3_0 hr0) eM6 ?_
    refine jt_aload_n C dX3_put_72 rfl 0 rfl ?_
    refine jt_dup C dX3_put_73 rfl ?_
    refine jt_getI (Tf := TX3) (N := 3) C dX3_put_74 hr0 rfl i_3 2 (by decide) rfl m_RX3_19 rfl ?_
    refine jt_iconst (v := (1 : Int32)) C dX3_put_77 (by decide) ?_
    refine jt_iadd C dX3_put_78 ?_
    refine jt_putI (Tf := TX3) (N := 3) C dX3_put_79 hr0 rfl i_3 tyX3 tyX3_ok nmX3 2 (by decide) rfl m_RX3_19 rfl rfl (by decide +kernel) ?_
    refine jt_iload_n C dX3_put_82 rfl 2 rfl ?_
    cases h
    exact jt_iret C dX3_put_83 hQ hr
theorem h_X3_start : yX3_start.cls = RX3 ∧ yX3_start.cls ≠ "java/lang/invoke/MethodHandle" ∧ yX3_start.cls ≠ "java/lang/invoke/VarHandle" ∧ (parseMethodDescriptor yX3_start.desc).map (fun d => d.parameters.length) = some 1 := by decide +kernel
set_option maxHeartbeats 4000000 in
set_option maxRecDepth 100000 in
theorem c_X3_start (l : Launch) (k : jm_C) (r0 : Nat) (v1 : Int32) (M : jm_M) (hr0 : jm_is r0 (3, 3)) (q : jm_M) (h : X3_start r0 v1 M = some q) : jm_Cv l k yX3_start w_X3_start { frames := 0, cells := 0, slots := 0, locals := 0 } [.ref (jm_ad k r0), .int v1] M q := by
  refine jm_entry_v (cc := cX3_start) (nL := 2) (ret := none) (by decide) rfl (Nat.le_of_ble_eq_true rfl) ?_
  intro X hX C hQ hr
  subst hX
  unfold X3_start at h
  refine jt_aload_n C dX3_start_0 rfl 0 rfl ?_
  refine jt_iload_n C dX3_start_1 rfl 1 rfl ?_
  refine jt_putI (Tf := TX3) (N := 3) C dX3_start_2 hr0 rfl i_3 tyX3 tyX3_ok nmX3 1 (by decide) rfl m_RX3_15 rfl rfl (by decide +kernel) ?_
  refine jt_aload_n C dX3_start_5 rfl 0 rfl ?_
  refine jt_iconst (v := (0 : Int32)) C dX3_start_6 (by decide) ?_
  refine jt_putI (Tf := TX3) (N := 3) C dX3_start_7 hr0 rfl i_3 tyX3 tyX3_ok nmX3 2 (by decide) rfl m_RX3_19 rfl rfl (by decide +kernel) ?_
  cases h
  exact jt_vret C dX3_start_10 hQ hr
