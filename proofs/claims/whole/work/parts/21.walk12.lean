theorem h_X9_layDeck : yX9_layDeck.cls = RX9 ∧ yX9_layDeck.cls ≠ "java/lang/invoke/MethodHandle" ∧ yX9_layDeck.cls ≠ "java/lang/invoke/VarHandle" ∧ (parseMethodDescriptor yX9_layDeck.desc).map (fun d => d.parameters.length) = some 4 := by decide +kernel
set_option maxHeartbeats 4000000 in
set_option maxRecDepth 100000 in
theorem t_X9_layDeck_L26 {X : jm_X} {k : jm_C} (C : jm_Cx X k cX9_layDeck 8 RX9 w_X9_layDeck) (r0 : Nat) (v1 : Int32) (v2 : Int32) (r3 : Nat) (v4 : Int32) (v5 : Int32) (v6 : Int32) (hr0 : jm_is r0 (3, 8)) (hr3 : jm_is r3 (0, (jm_kd r3).2)) : ∀ (m : Nat) (s : Int32 × jm_M) (r : Int32 × jm_M), jm_loop (X9_layDeck_B26 r0 v1 v2 r3 v4 v5 v6) m s = some r → (∀ (b0 : Int32) (b1 : jm_M), r = (b0, b1) → jm_T X { frames := 6, cells := 0, slots := 0, locals := 240 } k 8 b1 60 [(0, .ref (jm_ad k r0)), (1, .int v1), (2, .int v2), (3, .ref (jm_ad k r3)), (4, .int v4), (5, .int v5), (6, .int v6), (7, .int b0)] []) → (∀ (b0 : Int32) (b1 : jm_M), s = (b0, b1) → jm_T X { frames := 6, cells := 0, slots := 0, locals := 240 } k 8 b1 26 [(0, .ref (jm_ad k r0)), (1, .int v1), (2, .int v2), (3, .ref (jm_ad k r3)), (4, .int v4), (5, .int v5), (6, .int v6), (7, .int b0)] []) := by
  refine jm_loop_ind (P := fun (s : Int32 × jm_M) => (∀ (b0 : Int32) (b1 : jm_M), s = (b0, b1) → jm_T X { frames := 6, cells := 0, slots := 0, locals := 240 } k 8 b1 26 [(0, .ref (jm_ad k r0)), (1, .int v1), (2, .int v2), (3, .ref (jm_ad k r3)), (4, .int v4), (5, .int v5), (6, .int v6), (7, .int b0)] [])) (K := fun (r : Int32 × jm_M) => ∀ (b0 : Int32) (b1 : jm_M), r = (b0, b1) → jm_T X { frames := 6, cells := 0, slots := 0, locals := 240 } k 8 b1 60 [(0, .ref (jm_ad k r0)), (1, .int v1), (2, .int v2), (3, .ref (jm_ad k r3)), (4, .int v4), (5, .int v5), (6, .int v6), (7, .int b0)] []) ?_
  intro s q h h1 h2
  intro b0 b1 hs
  subst hs
  unfold X9_layDeck_B26 at h
  try dsimp only at h
  refine jt_iload C dX9_layDeck_26 7 rfl ?_
  refine jt_iload C dX9_layDeck_28 4 rfl ?_
  refine jt_icmp_le (tgt := 60) C dX9_layDeck_30 (by decide) (fun c30 => ?_) (fun c30 => ?_)
  · replace h := jm_ift c30 h
    cases h
    exact jt_sub [0, 1, 2, 3, 4, 5, 6, 7] rfl (h2 _ rfl _ _ rfl)
  · replace h := jm_iff c30 h
    refine jt_aload_n C dX9_layDeck_33 rfl 3 rfl ?_
    refine jt_iload C dX9_layDeck_34 7 rfl ?_
    refine jt_iconst (v := (1 : Int32)) C dX9_layDeck_36 (by decide) ?_
    refine jt_isub C dX9_layDeck_37 ?_
    obtain ⟨x2, ex2, h⟩ := jm_bind h
    refine jt_iald C dX9_layDeck_38 hr3 ex2 ?_
    refine jt_iload C dX9_layDeck_39 6 rfl ?_
    refine jt_icmp_le (tgt := 60) C dX9_layDeck_41 (by decide) (fun c41 => ?_) (fun c41 => ?_)
    · replace h := jm_ift c41 h
      cases h
      exact jt_sub [0, 1, 2, 3, 4, 5, 6, 7] rfl (h2 _ rfl _ _ rfl)
    · replace h := jm_iff c41 h
      refine jt_aload_n C dX9_layDeck_44 rfl 3 rfl ?_
      refine jt_iload C dX9_layDeck_45 7 rfl ?_
      refine jt_aload_n C dX9_layDeck_47 rfl 3 rfl ?_
      refine jt_iload C dX9_layDeck_48 7 rfl ?_
      refine jt_iconst (v := (1 : Int32)) C dX9_layDeck_50 (by decide) ?_
      refine jt_isub C dX9_layDeck_51 ?_
      obtain ⟨x3, ex3, h⟩ := jm_bind h
      refine jt_iald C dX9_layDeck_52 hr3 ex3 ?_
      obtain ⟨M4, eM4, h⟩ := jm_bind h
      refine jt_iast C dX9_layDeck_53 hr3 eM4 ?_
      refine jt_iinc (v := (-1 : Int32)) (lv' := [(7, _), (0, _), (1, _), (2, _), (3, _), (4, _), (5, _), (6, _)]) C dX9_layDeck_54 7 rfl (by decide) (by decide) rfl ?_
      refine jt_goto (tgt := 26) C dX9_layDeck_57 (by decide) ?_
      cases h
      exact jt_sub [1, 2, 3, 4, 5, 6, 7, 0] rfl (h1 _ rfl _ _ rfl)
set_option maxHeartbeats 4000000 in
set_option maxRecDepth 100000 in
theorem t_X9_layDeck_L3 {X : jm_X} {k : jm_C} (C : jm_Cx X k cX9_layDeck 8 RX9 w_X9_layDeck) (n : Nat) (r0 : Nat) (v1 : Int32) (v2 : Int32) (r3 : Nat) (v4 : Int32) (hr0 : jm_is r0 (3, 8)) (hr3 : jm_is r3 (0, (jm_kd r3).2)) : ∀ (m : Nat) (s : Int32 × jm_M) (r : jm_M), jm_loop (X9_layDeck_B3 n r0 v1 v2 r3 v4) m s = some r → jm_T X { frames := 6, cells := 0, slots := 0, locals := 240 } k 8 r 72 [] [] → (∀ (b0 : Int32) (b1 : jm_M), s = (b0, b1) → jm_T X { frames := 6, cells := 0, slots := 0, locals := 240 } k 8 b1 3 [(0, .ref (jm_ad k r0)), (1, .int v1), (2, .int v2), (3, .ref (jm_ad k r3)), (4, .int v4), (5, .int b0)] []) := by
  refine jm_loop_ind (P := fun (s : Int32 × jm_M) => (∀ (b0 : Int32) (b1 : jm_M), s = (b0, b1) → jm_T X { frames := 6, cells := 0, slots := 0, locals := 240 } k 8 b1 3 [(0, .ref (jm_ad k r0)), (1, .int v1), (2, .int v2), (3, .ref (jm_ad k r3)), (4, .int v4), (5, .int b0)] [])) (K := fun (r : jm_M) => jm_T X { frames := 6, cells := 0, slots := 0, locals := 240 } k 8 r 72 [] []) ?_
  intro s q h h1 h2
  intro b0 b1 hs
  subst hs
  unfold X9_layDeck_B3 at h
  try dsimp only at h
  refine jt_iload C dX9_layDeck_3 5 rfl ?_
  refine jt_iload_n C dX9_layDeck_5 rfl 1 rfl ?_
  refine jt_icmp_ge (tgt := 72) C dX9_layDeck_6 (by decide) (fun c6 => ?_) (fun c6 => ?_)
  · replace h := jm_ift c6 h
    cases h
    exact jt_sub [] rfl (h2 _ rfl)
  · replace h := jm_iff c6 h
    refine jt_aload_n C dX9_layDeck_9 rfl 0 rfl ?_
    refine jt_iload_n C dX9_layDeck_10 rfl 1 rfl ?_
    refine jt_iload_n C dX9_layDeck_11 rfl 2 rfl ?_
    refine jt_iload C dX9_layDeck_12 5 rfl ?_
    obtain ⟨⟨x1a, x1b⟩, ex1, h⟩ := jm_bind h
    try dsimp only at h
    refine jt_callVi (As := [_, _, _]) (rest := []) C hr0 rfl dX9_layDeck_14 (c_X9_cardOf (jx_l X) k n _ _ _ _ _ hr0 _ _ ex1) (k_goodIn (g_RX9_103)) rfl h_X9_cardOf ⟨rfl, rfl, Nat.le_of_ble_eq_true rfl, Nat.le_of_ble_eq_true rfl⟩ rfl rfl (Nat.le_of_ble_eq_true rfl) ?_
    refine jt_istore (lv' := [(6, _), (0, _), (1, _), (2, _), (3, _), (4, _), (5, _)]) C dX9_layDeck_17 (by decide) rfl ?_
    refine jt_iload C dX9_layDeck_19 5 rfl ?_
    refine jt_iload C dX9_layDeck_21 6 rfl ?_
    refine jt_iadd C dX9_layDeck_23 ?_
    refine jt_istore (lv' := [(7, _), (6, _), (0, _), (1, _), (2, _), (3, _), (4, _), (5, _)]) C dX9_layDeck_24 (by decide) rfl ?_
    obtain ⟨q5, eq5, h⟩ := jm_bind h
    refine jt_sub [2, 3, 4, 5, 6, 7, 1, 0] rfl ?_
    refine t_X9_layDeck_L26 C _ _ _ _ _ _ _ hr0 hr3 n _ _ eq5 ?_ _ _ rfl
    intro y6_0 y6_1 hq6
    subst hq6
    try dsimp only at h
    refine jt_aload_n C dX9_layDeck_60 rfl 3 rfl ?_
    refine jt_iload C dX9_layDeck_61 7 rfl ?_
    refine jt_iload C dX9_layDeck_63 6 rfl ?_
    obtain ⟨M7, eM7, h⟩ := jm_bind h
    refine jt_iast C dX9_layDeck_65 hr3 eM7 ?_
    refine jt_iinc (v := (1 : Int32)) (lv' := [(5, _), (0, _), (1, _), (2, _), (3, _), (4, _), (6, _), (7, _)]) C dX9_layDeck_66 5 rfl (by decide) (by decide) rfl ?_
    refine jt_goto (tgt := 3) C dX9_layDeck_69 (by decide) ?_
    cases h
    exact jt_sub [1, 2, 3, 4, 5, 0] rfl (h1 _ rfl _ _ rfl)
set_option maxHeartbeats 4000000 in
set_option maxRecDepth 100000 in
theorem c_X9_layDeck (l : Launch) (k : jm_C) (n : Nat) (r0 : Nat) (v1 : Int32) (v2 : Int32) (r3 : Nat) (v4 : Int32) (M : jm_M) (hr0 : jm_is r0 (3, 8)) (hr3 : jm_is r3 (0, (jm_kd r3).2)) (q : jm_M) (h : X9_layDeck n r0 v1 v2 r3 v4 M = some q) : jm_Cv l k yX9_layDeck w_X9_layDeck { frames := 6, cells := 0, slots := 0, locals := 240 } [.ref (jm_ad k r0), .int v1, .int v2, .ref (jm_ad k r3), .int v4] M q := by
  refine jm_entry_v (cc := cX9_layDeck) (nL := 8) (ret := none) (by decide) rfl (Nat.le_of_ble_eq_true rfl) ?_
  intro X hX C hQ hr
  subst hX
  unfold X9_layDeck at h
  refine jt_iconst (v := (0 : Int32)) C dX9_layDeck_0 (by decide) ?_
  refine jt_istore (lv' := [(5, _), (0, _), (1, _), (2, _), (3, _), (4, _)]) C dX9_layDeck_1 (by decide) rfl ?_
  obtain ⟨q8, eq8, h⟩ := jm_bind h
  refine jt_sub [1, 2, 3, 4, 5, 0] rfl ?_
  refine t_X9_layDeck_L3 C n _ _ _ _ _ hr0 hr3 n _ _ eq8 ?_ _ _ rfl
  cases h
  exact jt_vret C dX9_layDeck_72 hQ hr
theorem h_X9_layGraphs : yX9_layGraphs.cls = RX9 ∧ yX9_layGraphs.cls ≠ "java/lang/invoke/MethodHandle" ∧ yX9_layGraphs.cls ≠ "java/lang/invoke/VarHandle" ∧ (parseMethodDescriptor yX9_layGraphs.desc).map (fun d => d.parameters.length) = some 0 := by decide +kernel
set_option maxHeartbeats 4000000 in
set_option maxRecDepth 100000 in
theorem t_X9_layGraphs_L28 {X : jm_X} {k : jm_C} (C : jm_Cx X k cX9_layGraphs 3 RX9 w_X9_layGraphs) (n : Nat) (r0 : Nat) (v1 : Int32) (hr0 : jm_is r0 (3, 8)) : ∀ (m : Nat) (s : Int32 × jm_M) (r : jm_M), jm_loop (X9_layGraphs_B28 n r0 v1) m s = some r → jm_T X { frames := 7, cells := 0, slots := 0, locals := 280 } k 3 r 61 [] [] → (∀ (b0 : Int32) (b1 : jm_M), s = (b0, b1) → jm_T X { frames := 7, cells := 0, slots := 0, locals := 280 } k 3 b1 28 [(0, .ref (jm_ad k r0)), (1, .int v1), (2, .int b0)] []) := by
  refine jm_loop_ind (P := fun (s : Int32 × jm_M) => (∀ (b0 : Int32) (b1 : jm_M), s = (b0, b1) → jm_T X { frames := 7, cells := 0, slots := 0, locals := 280 } k 3 b1 28 [(0, .ref (jm_ad k r0)), (1, .int v1), (2, .int b0)] [])) (K := fun (r : jm_M) => jm_T X { frames := 7, cells := 0, slots := 0, locals := 280 } k 3 r 61 [] []) ?_
  intro s q h h1 h2
  intro b0 b1 hs
  subst hs
  unfold X9_layGraphs_B28 at h
  try dsimp only at h
  refine jt_iload_n C dX9_layGraphs_28 rfl 2 rfl ?_
  refine jt_aload_n C dX9_layGraphs_29 rfl 0 rfl ?_
  refine jt_getI (Tf := TX9) (N := 17) C dX9_layGraphs_30 hr0 rfl i_9 13 (by decide) rfl m_RX9_161 rfl ?_
  refine jt_icmp_ge (tgt := 61) C dX9_layGraphs_33 (by decide) (fun c33 => ?_) (fun c33 => ?_)
  · replace h := jm_ift c33 h
    cases h
    exact jt_sub [] rfl (h2 _ rfl)
  · replace h := jm_iff c33 h
    refine jt_aload_n C dX9_layGraphs_36 rfl 0 rfl ?_
    refine jt_iload_n C dX9_layGraphs_37 rfl 1 rfl ?_
    refine jt_aload_n C dX9_layGraphs_38 rfl 0 rfl ?_
    refine jt_getR (Tf := TX9) (N := 17) C dX9_layGraphs_39 hr0 rfl i_9 11 (by decide) rfl m_RX9_38 rfl ?_
    refine jt_iload_n C dX9_layGraphs_42 rfl 2 rfl ?_
    obtain ⟨x3, ex3, h⟩ := jm_bind h
    refine jt_iald C dX9_layGraphs_43 (jm_f8_11 hr0) ex3 ?_
    refine jt_aload_n C dX9_layGraphs_44 rfl 0 rfl ?_
    refine jt_getR (Tf := TX9) (N := 17) C dX9_layGraphs_45 hr0 rfl i_9 12 (by decide) rfl m_RX9_41 rfl ?_
    refine jt_bipush (v := (6 : Int32)) C dX9_layGraphs_48 (by decide) ?_
    refine jt_iload_n C dX9_layGraphs_50 rfl 2 rfl ?_
    refine jt_imul C dX9_layGraphs_51 ?_
    obtain ⟨M4, eM4, h⟩ := jm_bind h
    refine jt_callVv (As := [_, _, _, _]) (rest := []) C hr0 rfl dX9_layGraphs_52 (c_X9_layDeck (jx_l X) k n _ _ _ _ _ _ hr0 (jm_ar (jm_f8_12 hr0)) _ eM4) (k_goodIn (g_RX9_178)) rfl h_X9_layDeck ⟨rfl, rfl, Nat.le_of_ble_eq_true rfl, Nat.le_of_ble_eq_true rfl⟩ rfl rfl (Nat.le_of_ble_eq_true rfl) ?_
    refine jt_iinc (v := (1 : Int32)) (lv' := [(2, _), (0, _), (1, _)]) C dX9_layGraphs_55 2 rfl (by decide) (by decide) rfl ?_
    refine jt_goto (tgt := 28) C dX9_layGraphs_58 (by decide) ?_
    cases h
    exact jt_sub [1, 2, 0] rfl (h1 _ rfl _ _ rfl)
set_option maxHeartbeats 4000000 in
set_option maxRecDepth 100000 in
theorem c_X9_layGraphs (l : Launch) (k : jm_C) (n : Nat) (r0 : Nat) (M : jm_M) (hr0 : jm_is r0 (3, 8)) (q : jm_M) (h : X9_layGraphs n r0 M = some q) : jm_Cv l k yX9_layGraphs w_X9_layGraphs { frames := 7, cells := 0, slots := 0, locals := 280 } [.ref (jm_ad k r0)] M q := by
  refine jm_entry_v (cc := cX9_layGraphs) (nL := 3) (ret := none) (by decide) rfl (Nat.le_of_ble_eq_true rfl) ?_
  intro X hX C hQ hr
  subst hX
  unfold X9_layGraphs at h
  refine jt_aload_n C dX9_layGraphs_0 rfl 0 rfl ?_
  refine jt_getR (Tf := TX9) (N := 17) C dX9_layGraphs_1 hr0 rfl i_9 0 (by decide) rfl m_RX9_7 rfl ?_
  refine jt_iconst (v := (2 : Int32)) C dX9_layGraphs_4 (by decide) ?_
  obtain ⟨x1, ex1, h⟩ := jm_bind h
  refine jt_iald C dX9_layGraphs_5 (jm_f8_0 hr0) ex1 ?_
  refine jt_istore_n (lv' := [(1, _), (0, _)]) C dX9_layGraphs_6 rfl (by decide) rfl ?_
  refine jt_aload_n C dX9_layGraphs_7 rfl 1 rfl ?_
  refine jt_getI (Tf := TX9) (N := 17) C dX9_layGraphs_8 hr0 rfl i_9 14 (by decide) rfl m_RX9_171 rfl ?_
  refine jt_iload_n C dX9_layGraphs_11 rfl 0 rfl ?_
  refine jt_icmp_ne (tgt := 16) C dX9_layGraphs_12 (by decide) (fun c12 => ?_) (fun c12 => ?_)
  · replace h := jm_iff c12 h
    refine jt_aload_n C dX9_layGraphs_16 rfl 1 rfl ?_
    refine jt_iload_n C dX9_layGraphs_17 rfl 0 rfl ?_
    refine jt_putI (Tf := TX9) (N := 17) C dX9_layGraphs_18 hr0 rfl i_9 tyX9 tyX9_ok nmX9 14 (by decide) rfl m_RX9_171 rfl rfl (by decide +kernel) ?_
    refine jt_aload_n C dX9_layGraphs_21 rfl 1 rfl ?_
    refine jt_iload_n C dX9_layGraphs_22 rfl 0 rfl ?_
    obtain ⟨M2, eM2, h⟩ := jm_bind h
    refine jt_callVv (As := [_]) (rest := []) C hr0 rfl dX9_layGraphs_23 (c_X9_layKinds (jx_l X) k n _ _ _ hr0 _ eM2) (k_goodIn (g_RX9_174)) rfl h_X9_layKinds ⟨rfl, rfl, Nat.le_of_ble_eq_true rfl, Nat.le_of_ble_eq_true rfl⟩ rfl rfl (Nat.le_of_ble_eq_true rfl) ?_
    refine jt_iconst (v := (0 : Int32)) C dX9_layGraphs_26 (by decide) ?_
    refine jt_istore_n (lv' := [(2, _), (1, _), (0, _)]) C dX9_layGraphs_27 rfl (by decide) rfl ?_
    obtain ⟨q5, eq5, h⟩ := jm_bind h
    refine jt_sub [2, 1, 0] rfl ?_
    refine t_X9_layGraphs_L28 C n _ _ hr0 n _ _ eq5 ?_ _ _ rfl
    cases h
    exact jt_vret C dX9_layGraphs_61 hQ hr
  · replace h := jm_ift c12 h
    cases h
    exact jt_vret C dX9_layGraphs_15 hQ hr
theorem h_X9_hasAll : yX9_hasAll.cls = RX9 ∧ yX9_hasAll.cls ≠ "java/lang/invoke/MethodHandle" ∧ yX9_hasAll.cls ≠ "java/lang/invoke/VarHandle" ∧ (parseMethodDescriptor yX9_hasAll.desc).map (fun d => d.parameters.length) = some 2 := by decide +kernel
set_option maxHeartbeats 4000000 in
set_option maxRecDepth 100000 in
theorem t_X9_hasAll_L26 {X : jm_X} {k : jm_C} (C : jm_Cx X k cX9_hasAll 5 RX9 w_X9_hasAll) (r0 : Nat) (v1 : Int32) (v2 : Int32) (v4 : Int32) (M : jm_M) (hr0 : jm_is r0 (3, 8)) : ∀ (m : Nat) (s : Int32) (r : Int32), jm_loop (X9_hasAll_B26 r0 v1 v2 v4 M) m s = some r → jm_T X { frames := 0, cells := 0, slots := 0, locals := 0 } k 5 M 65 [(0, .ref (jm_ad k r0)), (1, .int v1), (2, .int v2), (3, .int r), (4, .int v4)] [] → jm_T X { frames := 0, cells := 0, slots := 0, locals := 0 } k 5 M 26 [(0, .ref (jm_ad k r0)), (1, .int v1), (2, .int v2), (3, .int s), (4, .int v4)] [] := by
  refine jm_loop_ind (P := fun (s : Int32) => jm_T X { frames := 0, cells := 0, slots := 0, locals := 0 } k 5 M 26 [(0, .ref (jm_ad k r0)), (1, .int v1), (2, .int v2), (3, .int s), (4, .int v4)] []) (K := fun (r : Int32) => jm_T X { frames := 0, cells := 0, slots := 0, locals := 0 } k 5 M 65 [(0, .ref (jm_ad k r0)), (1, .int v1), (2, .int v2), (3, .int r), (4, .int v4)] []) ?_
  intro s q h h1 h2
  unfold X9_hasAll_B26 at h
  try dsimp only at h
  refine jt_iload_n C dX9_hasAll_26 rfl 3 rfl ?_
  refine jt_aload_n C dX9_hasAll_27 rfl 0 rfl ?_
  refine jt_getR (Tf := TX9) (N := 17) C dX9_hasAll_28 hr0 rfl i_9 0 (by decide) rfl m_RX9_7 rfl ?_
  refine jt_iconst (v := (2 : Int32)) C dX9_hasAll_31 (by decide) ?_
  obtain ⟨x2, ex2, h⟩ := jm_bind h
  refine jt_iald C dX9_hasAll_32 (jm_f8_0 hr0) ex2 ?_
  refine jt_icmp_ge (tgt := 65) C dX9_hasAll_33 (by decide) (fun c33 => ?_) (fun c33 => ?_)
  · replace h := jm_ift c33 h
    cases h
    exact jt_sub [0, 1, 2, 3, 4] rfl (h2 _ rfl)
  · replace h := jm_iff c33 h
    refine jt_aload_n C dX9_hasAll_36 rfl 0 rfl ?_
    refine jt_getR (Tf := TX9) (N := 17) C dX9_hasAll_37 hr0 rfl i_9 12 (by decide) rfl m_RX9_41 rfl ?_
    refine jt_bipush (v := (6 : Int32)) C dX9_hasAll_40 (by decide) ?_
    refine jt_iload_n C dX9_hasAll_42 rfl 1 rfl ?_
    refine jt_imul C dX9_hasAll_43 ?_
    refine jt_iload_n C dX9_hasAll_44 rfl 3 rfl ?_
    refine jt_iadd C dX9_hasAll_45 ?_
    obtain ⟨x3, ex3, h⟩ := jm_bind h
    refine jt_iald C dX9_hasAll_46 (jm_f8_12 hr0) ex3 ?_
    refine jt_aload_n C dX9_hasAll_47 rfl 0 rfl ?_
    refine jt_getR (Tf := TX9) (N := 17) C dX9_hasAll_48 hr0 rfl i_9 0 (by decide) rfl m_RX9_7 rfl ?_
    refine jt_iconst (v := (4 : Int32)) C dX9_hasAll_51 (by decide) ?_
    refine jt_iload C dX9_hasAll_52 4 rfl ?_
    refine jt_iadd C dX9_hasAll_54 ?_
    obtain ⟨x4, ex4, h⟩ := jm_bind h
    refine jt_iald C dX9_hasAll_55 (jm_f8_0 hr0) ex4 ?_
    refine jt_icmp_ge (tgt := 65) C dX9_hasAll_56 (by decide) (fun c56 => ?_) (fun c56 => ?_)
    · replace h := jm_ift c56 h
      cases h
      exact jt_sub [0, 1, 2, 3, 4] rfl (h2 _ rfl)
    · replace h := jm_iff c56 h
      refine jt_iinc (v := (1 : Int32)) (lv' := [(3, _), (0, _), (1, _), (2, _), (4, _)]) C dX9_hasAll_59 3 rfl (by decide) (by decide) rfl ?_
      refine jt_goto (tgt := 26) C dX9_hasAll_62 (by decide) ?_
      cases h
      exact jt_sub [1, 2, 3, 0, 4] rfl (h1 _ rfl)
set_option maxHeartbeats 4000000 in
set_option maxRecDepth 100000 in
theorem t_X9_hasAll_L5 {X : jm_X} {k : jm_C} (C : jm_Cx X k cX9_hasAll 5 RX9 w_X9_hasAll) (n : Nat) (r0 : Nat) (v1 : Int32) (v2 : Int32) (M : jm_M) (hr0 : jm_is r0 (3, 8)) : ∀ (m : Nat) (s : Int32 × Int32) (r : (Int32) ⊕ (Unit)), jm_loop (X9_hasAll_B5 n r0 v1 v2 M) m s = some r → (match r with | .inl z => ∀ (pc1 : Nat) (lv1 : List (Nat × Value)), (decode cX9_hasAll pc1 = .ok (.ireturn, 1) ∧ (z = 0 ∨ z = 1)) → jm_T X { frames := 0, cells := 0, slots := 0, locals := 0 } k 5 M pc1 lv1 [.int z] | .inr w => jm_T X { frames := 0, cells := 0, slots := 0, locals := 0 } k 5 M 109 [] []) → (∀ (b0 : Int32) (b1 : Int32), s = (b0, b1) → jm_T X { frames := 0, cells := 0, slots := 0, locals := 0 } k 5 M 5 [(0, .ref (jm_ad k r0)), (1, .int v1), (2, .int v2), (3, .int b0), (4, .int b1)] []) := by
  refine jm_loop_ind (P := fun (s : Int32 × Int32) => (∀ (b0 : Int32) (b1 : Int32), s = (b0, b1) → jm_T X { frames := 0, cells := 0, slots := 0, locals := 0 } k 5 M 5 [(0, .ref (jm_ad k r0)), (1, .int v1), (2, .int v2), (3, .int b0), (4, .int b1)] [])) (K := fun (r : (Int32) ⊕ (Unit)) => match r with | .inl z => ∀ (pc1 : Nat) (lv1 : List (Nat × Value)), (decode cX9_hasAll pc1 = .ok (.ireturn, 1) ∧ (z = 0 ∨ z = 1)) → jm_T X { frames := 0, cells := 0, slots := 0, locals := 0 } k 5 M pc1 lv1 [.int z] | .inr w => jm_T X { frames := 0, cells := 0, slots := 0, locals := 0 } k 5 M 109 [] []) ?_
  intro s q h h1 h2
  intro b0 b1 hs
  subst hs
  unfold X9_hasAll_B5 at h
  try dsimp only at h
  refine jt_iload C dX9_hasAll_5 4 rfl ?_
  refine jt_aload_n C dX9_hasAll_7 rfl 0 rfl ?_
  refine jt_getR (Tf := TX9) (N := 17) C dX9_hasAll_8 hr0 rfl i_9 0 (by decide) rfl m_RX9_7 rfl ?_
  refine jt_iconst (v := (3 : Int32)) C dX9_hasAll_11 (by decide) ?_
  obtain ⟨x1, ex1, h⟩ := jm_bind h
  refine jt_iald C dX9_hasAll_12 (jm_f8_0 hr0) ex1 ?_
  refine jt_icmp_ge (tgt := 109) C dX9_hasAll_13 (by decide) (fun c13 => ?_) (fun c13 => ?_)
  · replace h := jm_ift c13 h
    cases h
    exact jt_sub [] rfl (h2 _ rfl)
  · replace h := jm_iff c13 h
    refine jt_iload_n C dX9_hasAll_16 rfl 2 rfl ?_
    refine jt_iload C dX9_hasAll_17 4 rfl ?_
    refine jt_ishr C dX9_hasAll_19 ?_
    refine jt_iconst (v := (1 : Int32)) C dX9_hasAll_20 (by decide) ?_
    refine jt_iand C dX9_hasAll_21 ?_
    refine jt_iconst (v := (1 : Int32)) C dX9_hasAll_22 (by decide) ?_
    refine jt_icmp_ne (tgt := 103) C dX9_hasAll_23 (by decide) (fun c23 => ?_) (fun c23 => ?_)
    · replace h := jm_iff c23 h
      refine jt_iinc (v := (1 : Int32)) (lv' := [(4, _), (0, _), (1, _), (2, _), (3, _)]) C dX9_hasAll_103 4 rfl (by decide) (by decide) rfl ?_
      refine jt_goto (tgt := 5) C dX9_hasAll_106 (by decide) ?_
      cases h
      exact jt_sub [1, 2, 3, 4, 0] rfl (h1 _ rfl _ _ rfl)
    · replace h := jm_ift c23 h
      obtain ⟨q5, eq5, h⟩ := jm_bind h
      refine jt_sub [0, 1, 2, 3, 4] rfl ?_
      refine t_X9_hasAll_L26 C _ _ _ _ _ hr0 n _ _ eq5 ?_
      refine jt_iload_n C dX9_hasAll_65 rfl 3 rfl ?_
      refine jt_aload_n C dX9_hasAll_66 rfl 0 rfl ?_
      refine jt_getR (Tf := TX9) (N := 17) C dX9_hasAll_67 hr0 rfl i_9 0 (by decide) rfl m_RX9_7 rfl ?_
      refine jt_iconst (v := (2 : Int32)) C dX9_hasAll_70 (by decide) ?_
      obtain ⟨x6, ex6, h⟩ := jm_bind h
      refine jt_iald C dX9_hasAll_71 (jm_f8_0 hr0) ex6 ?_
      refine jt_icmp_eq (tgt := 98) C dX9_hasAll_72 (by decide) (fun c72 => ?_) (fun c72 => ?_)
      · replace h := jm_ift c72 h
        refine jt_iconst (v := (0 : Int32)) C dX9_hasAll_98 (by decide) ?_
        cases h
        exact h2 _ rfl _ _ ⟨dX9_hasAll_99, (Or.inl rfl)⟩
      · replace h := jm_iff c72 h
        refine jt_aload_n C dX9_hasAll_75 rfl 0 rfl ?_
        refine jt_getR (Tf := TX9) (N := 17) C dX9_hasAll_76 hr0 rfl i_9 12 (by decide) rfl m_RX9_41 rfl ?_
        refine jt_bipush (v := (6 : Int32)) C dX9_hasAll_79 (by decide) ?_
        refine jt_iload_n C dX9_hasAll_81 rfl 1 rfl ?_
        refine jt_imul C dX9_hasAll_82 ?_
        refine jt_iload_n C dX9_hasAll_83 rfl 3 rfl ?_
        refine jt_iadd C dX9_hasAll_84 ?_
        obtain ⟨x7, ex7, h⟩ := jm_bind h
        refine jt_iald C dX9_hasAll_85 (jm_f8_12 hr0) ex7 ?_
        refine jt_aload_n C dX9_hasAll_86 rfl 0 rfl ?_
        refine jt_getR (Tf := TX9) (N := 17) C dX9_hasAll_87 hr0 rfl i_9 0 (by decide) rfl m_RX9_7 rfl ?_
        refine jt_iconst (v := (4 : Int32)) C dX9_hasAll_90 (by decide) ?_
        refine jt_iload C dX9_hasAll_91 4 rfl ?_
        refine jt_iadd C dX9_hasAll_93 ?_
        obtain ⟨x8, ex8, h⟩ := jm_bind h
        refine jt_iald C dX9_hasAll_94 (jm_f8_0 hr0) ex8 ?_
        refine jt_icmp_eq (tgt := 100) C dX9_hasAll_95 (by decide) (fun c95 => ?_) (fun c95 => ?_)
        · replace h := jm_ift c95 h
          refine jt_iinc (v := (1 : Int32)) (lv' := [(3, _), (0, _), (1, _), (2, _), (4, _)]) C dX9_hasAll_100 3 rfl (by decide) (by decide) rfl ?_
          refine jt_iinc (v := (1 : Int32)) (lv' := [(4, _), (3, _), (0, _), (1, _), (2, _)]) C dX9_hasAll_103 4 rfl (by decide) (by decide) rfl ?_
          refine jt_goto (tgt := 5) C dX9_hasAll_106 (by decide) ?_
          cases h
          exact jt_sub [2, 3, 4, 1, 0] rfl (h1 _ rfl _ _ rfl)
        · replace h := jm_iff c95 h
          refine jt_iconst (v := (0 : Int32)) C dX9_hasAll_98 (by decide) ?_
          cases h
          exact h2 _ rfl _ _ ⟨dX9_hasAll_99, (Or.inl rfl)⟩
set_option maxHeartbeats 4000000 in
set_option maxRecDepth 100000 in
theorem c_X9_hasAll (l : Launch) (k : jm_C) (n : Nat) (r0 : Nat) (v1 : Int32) (v2 : Int32) (M : jm_M) (hr0 : jm_is r0 (3, 8)) (q : Int32) (h : X9_hasAll n r0 v1 v2 M = some q) : jm_Ci l k yX9_hasAll w_X9_hasAll { frames := 0, cells := 0, slots := 0, locals := 0 } [.ref (jm_ad k r0), .int v1, .int v2] M q M := by
  refine jm_entry_i (cc := cX9_hasAll) (nL := 5) (ret := (some .boolean)) (by decide) rfl (Nat.le_of_ble_eq_true rfl) ?_
  intro X hX C hQ hr
  subst hX
  unfold X9_hasAll at h
  refine jt_iconst (v := (0 : Int32)) C dX9_hasAll_0 (by decide) ?_
  refine jt_istore_n (lv' := [(3, _), (0, _), (1, _), (2, _)]) C dX9_hasAll_1 rfl (by decide) rfl ?_
  refine jt_iconst (v := (0 : Int32)) C dX9_hasAll_2 (by decide) ?_
  refine jt_istore (lv' := [(4, _), (3, _), (0, _), (1, _), (2, _)]) C dX9_hasAll_3 (by decide) rfl ?_
  obtain ⟨q9, eq9, h⟩ := jm_bind h
  refine jt_sub [2, 3, 4, 1, 0] rfl ?_
  refine t_X9_hasAll_L5 C n _ _ _ _ hr0 n _ _ eq9 ?_ _ _ rfl
  rcases q9 with z10 | w11
  · replace h := jm_inl h
    intro pc1 lv1 hp1
    cases h
    exact jt_zret C hp1.1 hQ hr hp1.2
  · replace h := jm_inr h
    show jm_T _ _ _ _ _ _ _ _
    refine jt_iconst (v := (1 : Int32)) C dX9_hasAll_109 (by decide) ?_
    cases h
    exact jt_zret C dX9_hasAll_110 hQ hr (Or.inr rfl)
theorem h_X9_all : yX9_all.cls = RX9 ∧ yX9_all.cls ≠ "java/lang/invoke/MethodHandle" ∧ yX9_all.cls ≠ "java/lang/invoke/VarHandle" ∧ (parseMethodDescriptor yX9_all.desc).map (fun d => d.parameters.length) = some 0 := by decide +kernel
set_option maxHeartbeats 4000000 in
set_option maxRecDepth 100000 in
theorem c_X9_all (l : Launch) (k : jm_C) (r0 : Nat) (M : jm_M) (hr0 : jm_is r0 (3, 8)) (q : Int32) (h : X9_all r0 M = some q) : jm_Ci l k yX9_all w_X9_all { frames := 0, cells := 0, slots := 0, locals := 0 } [.ref (jm_ad k r0)] M q M := by
  refine jm_entry_i (cc := cX9_all) (nL := 1) (ret := (some .int)) (by decide) rfl (Nat.le_of_ble_eq_true rfl) ?_
  intro X hX C hQ hr
  subst hX
  unfold X9_all at h
  refine jt_iconst (v := (1 : Int32)) C dX9_all_0 (by decide) ?_
  refine jt_aload_n C dX9_all_1 rfl 0 rfl ?_
  refine jt_getR (Tf := TX9) (N := 17) C dX9_all_2 hr0 rfl i_9 0 (by decide) rfl m_RX9_7 rfl ?_
  refine jt_iconst (v := (3 : Int32)) C dX9_all_5 (by decide) ?_
  obtain ⟨x1, ex1, h⟩ := jm_bind h
  refine jt_iald C dX9_all_6 (jm_f8_0 hr0) ex1 ?_
  refine jt_ishl C dX9_all_7 ?_
  refine jt_iconst (v := (1 : Int32)) C dX9_all_8 (by decide) ?_
  refine jt_isub C dX9_all_9 ?_
  cases h
  exact jt_iret C dX9_all_10 hQ hr
theorem h_X9_answers : yX9_answers.cls = RX9 ∧ yX9_answers.cls ≠ "java/lang/invoke/MethodHandle" ∧ yX9_answers.cls ≠ "java/lang/invoke/VarHandle" ∧ (parseMethodDescriptor yX9_answers.desc).map (fun d => d.parameters.length) = some 1 := by decide +kernel
set_option maxHeartbeats 4000000 in
set_option maxRecDepth 100000 in
theorem t_X9_answers_L8 {X : jm_X} {k : jm_C} (C : jm_Cx X k cX9_answers 4 RX9 w_X9_answers) (n : Nat) (r0 : Nat) (v1 : Int32) (M : jm_M) (hr0 : jm_is r0 (3, 8)) : ∀ (m : Nat) (s : Int32 × Int32) (r : Int32), jm_loop (X9_answers_B8 n r0 v1 M) m s = some r → jm_T X { frames := 8, cells := 0, slots := 0, locals := 320 } k 4 M 39 [(2, .int r)] [] → (∀ (b0 : Int32) (b1 : Int32), s = (b0, b1) → jm_T X { frames := 8, cells := 0, slots := 0, locals := 320 } k 4 M 8 [(0, .ref (jm_ad k r0)), (1, .int v1), (2, .int b0), (3, .int b1)] []) := by
  refine jm_loop_ind (P := fun (s : Int32 × Int32) => (∀ (b0 : Int32) (b1 : Int32), s = (b0, b1) → jm_T X { frames := 8, cells := 0, slots := 0, locals := 320 } k 4 M 8 [(0, .ref (jm_ad k r0)), (1, .int v1), (2, .int b0), (3, .int b1)] [])) (K := fun (r : Int32) => jm_T X { frames := 8, cells := 0, slots := 0, locals := 320 } k 4 M 39 [(2, .int r)] []) ?_
  intro s q h h1 h2
  intro b0 b1 hs
  subst hs
  unfold X9_answers_B8 at h
  try dsimp only at h
  refine jt_iload_n C dX9_answers_8 rfl 3 rfl ?_
  refine jt_aload_n C dX9_answers_9 rfl 0 rfl ?_
  refine jt_getI (Tf := TX9) (N := 17) C dX9_answers_10 hr0 rfl i_9 13 (by decide) rfl m_RX9_161 rfl ?_
  refine jt_icmp_ge (tgt := 39) C dX9_answers_13 (by decide) (fun c13 => ?_) (fun c13 => ?_)
  · replace h := jm_ift c13 h
    cases h
    exact jt_sub [2] rfl (h2 _ rfl)
  · replace h := jm_iff c13 h
    refine jt_iload_n C dX9_answers_16 rfl 2 rfl ?_
    refine jt_aload_n C dX9_answers_17 rfl 0 rfl ?_
    refine jt_iload_n C dX9_answers_18 rfl 3 rfl ?_
    refine jt_iload_n C dX9_answers_19 rfl 1 rfl ?_
    obtain ⟨x2, ex2, h⟩ := jm_bind h
    refine jt_callVi (As := [_, _]) (rest := [_]) C hr0 rfl dX9_answers_20 (c_X9_hasAll (jx_l X) k n _ _ _ _ hr0 _ ex2) (k_goodIn (g_RX9_185)) rfl h_X9_hasAll ⟨rfl, rfl, Nat.le_of_ble_eq_true rfl, Nat.le_of_ble_eq_true rfl⟩ rfl rfl (Nat.le_of_ble_eq_true rfl) ?_
    refine jt_if_eq (tgt := 30) C dX9_answers_23 (by decide) (fun c23 => ?_) (fun c23 => ?_)
    · replace h := jm_ift c23 h
      refine jt_iconst (v := (0 : Int32)) C dX9_answers_30 (by decide) ?_
      refine jt_iadd C dX9_answers_31 ?_
      refine jt_istore_n (lv' := [(2, _), (0, _), (1, _), (3, _)]) C dX9_answers_32 rfl (by decide) rfl ?_
      refine jt_iinc (v := (1 : Int32)) (lv' := [(3, _), (2, _), (0, _), (1, _)]) C dX9_answers_33 3 rfl (by decide) (by decide) rfl ?_
      refine jt_goto (tgt := 8) C dX9_answers_36 (by decide) ?_
      cases h
      exact jt_sub [2, 3, 1, 0] rfl (h1 _ rfl _ _ rfl)
    · replace h := jm_iff c23 h
      refine jt_iconst (v := (1 : Int32)) C dX9_answers_26 (by decide) ?_
      refine jt_goto (tgt := 31) C dX9_answers_27 (by decide) ?_
      refine jt_iadd C dX9_answers_31 ?_
      refine jt_istore_n (lv' := [(2, _), (0, _), (1, _), (3, _)]) C dX9_answers_32 rfl (by decide) rfl ?_
      refine jt_iinc (v := (1 : Int32)) (lv' := [(3, _), (2, _), (0, _), (1, _)]) C dX9_answers_33 3 rfl (by decide) (by decide) rfl ?_
      refine jt_goto (tgt := 8) C dX9_answers_36 (by decide) ?_
      cases h
      exact jt_sub [2, 3, 1, 0] rfl (h1 _ rfl _ _ rfl)
set_option maxHeartbeats 4000000 in
set_option maxRecDepth 100000 in
theorem c_X9_answers (l : Launch) (k : jm_C) (n : Nat) (r0 : Nat) (v1 : Int32) (M : jm_M) (hr0 : jm_is r0 (3, 8)) (q1 : Int32) (q2 : jm_M) (h : X9_answers n r0 v1 M = some (q1, q2)) : jm_Ci l k yX9_answers w_X9_answers { frames := 8, cells := 0, slots := 0, locals := 320 } [.ref (jm_ad k r0), .int v1] M q1 q2 := by
  refine jm_entry_i (cc := cX9_answers) (nL := 4) (ret := (some .int)) (by decide) rfl (Nat.le_of_ble_eq_true rfl) ?_
  intro X hX C hQ hr
  subst hX
  unfold X9_answers at h
  refine jt_aload_n C dX9_answers_0 rfl 0 rfl ?_
  obtain ⟨M1, eM1, h⟩ := jm_bind h
  refine jt_callVv (As := []) (rest := []) C hr0 rfl dX9_answers_1 (c_X9_layGraphs (jx_l X) k n _ _ hr0 _ eM1) (k_goodIn (g_RX9_182)) rfl h_X9_layGraphs ⟨rfl, rfl, Nat.le_of_ble_eq_true rfl, Nat.le_of_ble_eq_true rfl⟩ rfl rfl (Nat.le_of_ble_eq_true rfl) ?_
  refine jt_iconst (v := (0 : Int32)) C dX9_answers_4 (by decide) ?_
  refine jt_istore_n (lv' := [(2, _), (0, _), (1, _)]) C dX9_answers_5 rfl (by decide) rfl ?_
  refine jt_iconst (v := (0 : Int32)) C dX9_answers_6 (by decide) ?_
  refine jt_istore_n (lv' := [(3, _), (2, _), (0, _), (1, _)]) C dX9_answers_7 rfl (by decide) rfl ?_
  obtain ⟨q3, eq3, h⟩ := jm_bind h
  refine jt_sub [2, 3, 1, 0] rfl ?_
  refine t_X9_answers_L8 C n _ _ _ hr0 n _ _ eq3 ?_ _ _ rfl
  refine jt_iload_n C dX9_answers_39 rfl 0 rfl ?_
  cases h
  exact jt_iret C dX9_answers_40 hQ hr
theorem h_X9_answerAt : yX9_answerAt.cls = RX9 ∧ yX9_answerAt.cls ≠ "java/lang/invoke/MethodHandle" ∧ yX9_answerAt.cls ≠ "java/lang/invoke/VarHandle" ∧ (parseMethodDescriptor yX9_answerAt.desc).map (fun d => d.parameters.length) = some 1 := by decide +kernel
set_option maxHeartbeats 4000000 in
set_option maxRecDepth 100000 in
theorem t_X9_answerAt_L8 {X : jm_X} {k : jm_C} (C : jm_Cx X k cX9_answerAt 4 RX9 w_X9_answerAt) (n : Nat) (r0 : Nat) (M : jm_M) (hr0 : jm_is r0 (3, 8)) : ∀ (m : Nat) (s : Int32 × Int32) (r : (Int32 × jm_M) ⊕ (Unit)), jm_loop (X9_answerAt_B8 n r0 M) m s = some r → (match r with | .inl z => ∀ (z1 : Int32) (z2 : jm_M), z = (z1, z2) → ∀ (pc1 : Nat) (lv1 : List (Nat × Value)), decode cX9_answerAt pc1 = .ok (.ireturn, 1) → jm_T X { frames := 8, cells := 0, slots := 0, locals := 320 } k 4 z2 pc1 lv1 [.int z1] | .inr w => jm_T X { frames := 8, cells := 0, slots := 0, locals := 320 } k 4 M 43 [] []) → (∀ (b0 : Int32) (b1 : Int32), s = (b0, b1) → jm_T X { frames := 8, cells := 0, slots := 0, locals := 320 } k 4 M 8 [(0, .ref (jm_ad k r0)), (2, .int b0), (3, .int b1)] []) := by
  refine jm_loop_ind (P := fun (s : Int32 × Int32) => (∀ (b0 : Int32) (b1 : Int32), s = (b0, b1) → jm_T X { frames := 8, cells := 0, slots := 0, locals := 320 } k 4 M 8 [(0, .ref (jm_ad k r0)), (2, .int b0), (3, .int b1)] [])) (K := fun (r : (Int32 × jm_M) ⊕ (Unit)) => match r with | .inl z => ∀ (z1 : Int32) (z2 : jm_M), z = (z1, z2) → ∀ (pc1 : Nat) (lv1 : List (Nat × Value)), decode cX9_answerAt pc1 = .ok (.ireturn, 1) → jm_T X { frames := 8, cells := 0, slots := 0, locals := 320 } k 4 z2 pc1 lv1 [.int z1] | .inr w => jm_T X { frames := 8, cells := 0, slots := 0, locals := 320 } k 4 M 43 [] []) ?_
  intro s q h h1 h2
  intro b0 b1 hs
  subst hs
  unfold X9_answerAt_B8 at h
  try dsimp only at h
  refine jt_iload_n C dX9_answerAt_8 rfl 2 rfl ?_
  refine jt_aload_n C dX9_answerAt_9 rfl 0 rfl ?_
  refine jt_getI (Tf := TX9) (N := 17) C dX9_answerAt_10 hr0 rfl i_9 13 (by decide) rfl m_RX9_161 rfl ?_
  refine jt_icmp_ge (tgt := 43) C dX9_answerAt_13 (by decide) (fun c13 => ?_) (fun c13 => ?_)
  · replace h := jm_ift c13 h
    cases h
    exact jt_sub [] rfl (h2 _ rfl)
  · replace h := jm_iff c13 h
    refine jt_aload_n C dX9_answerAt_16 rfl 0 rfl ?_
    refine jt_iload_n C dX9_answerAt_17 rfl 2 rfl ?_
    refine jt_aload_n C dX9_answerAt_18 rfl 0 rfl ?_
    obtain ⟨x2, ex2, h⟩ := jm_bind h
    refine jt_callVi (As := []) (rest := [_, _]) C hr0 rfl dX9_answerAt_19 (c_X9_all (jx_l X) k _ _ hr0 _ ex2) (k_goodIn (g_RX9_189)) rfl h_X9_all ⟨rfl, rfl, Nat.le_of_ble_eq_true rfl, Nat.le_of_ble_eq_true rfl⟩ rfl rfl (Nat.le_of_ble_eq_true rfl) ?_
    obtain ⟨x3, ex3, h⟩ := jm_bind h
    refine jt_callVi (As := [_, _]) (rest := []) C hr0 rfl dX9_answerAt_22 (c_X9_hasAll (jx_l X) k n _ _ _ _ hr0 _ ex3) (k_goodIn (g_RX9_185)) rfl h_X9_hasAll ⟨rfl, rfl, Nat.le_of_ble_eq_true rfl, Nat.le_of_ble_eq_true rfl⟩ rfl rfl (Nat.le_of_ble_eq_true rfl) ?_
    refine jt_if_eq (tgt := 37) C dX9_answerAt_25 (by decide) (fun c25 => ?_) (fun c25 => ?_)
    · replace h := jm_ift c25 h
      refine jt_iinc (v := (1 : Int32)) (lv' := [(3, _), (0, _), (2, _)]) C dX9_answerAt_37 2 rfl (by decide) (by decide) rfl ?_
      refine jt_goto (tgt := 8) C dX9_answerAt_40 (by decide) ?_
      cases h
      exact jt_sub [1, 2, 0] rfl (h1 _ rfl _ _ rfl)
    · replace h := jm_iff c25 h
      refine jt_iload_n C dX9_answerAt_28 rfl 1 rfl ?_
      refine jt_if_ne (tgt := 34) C dX9_answerAt_29 (by decide) (fun c29 => ?_) (fun c29 => ?_)
      · replace h := jm_iff c29 h
        refine jt_iinc (v := (-1 : Int32)) (lv' := [(2, _), (0, _), (3, _)]) C dX9_answerAt_34 1 rfl (by decide) (by decide) rfl ?_
        refine jt_iinc (v := (1 : Int32)) (lv' := [(3, _), (2, _), (0, _)]) C dX9_answerAt_37 2 rfl (by decide) (by decide) rfl ?_
        refine jt_goto (tgt := 8) C dX9_answerAt_40 (by decide) ?_
        cases h
        exact jt_sub [2, 1, 0] rfl (h1 _ rfl _ _ rfl)
      · replace h := jm_ift c29 h
        refine jt_iload_n C dX9_answerAt_32 rfl 2 rfl ?_
        cases h
        exact h2 _ rfl _ _ rfl _ _ dX9_answerAt_33
set_option maxHeartbeats 4000000 in
set_option maxRecDepth 100000 in
theorem c_X9_answerAt (l : Launch) (k : jm_C) (n : Nat) (r0 : Nat) (v1 : Int32) (M : jm_M) (hr0 : jm_is r0 (3, 8)) (q1 : Int32) (q2 : jm_M) (h : X9_answerAt n r0 v1 M = some (q1, q2)) : jm_Ci l k yX9_answerAt w_X9_answerAt { frames := 8, cells := 0, slots := 0, locals := 320 } [.ref (jm_ad k r0), .int v1] M q1 q2 := by
  refine jm_entry_i (cc := cX9_answerAt) (nL := 4) (ret := (some .int)) (by decide) rfl (Nat.le_of_ble_eq_true rfl) ?_
  intro X hX C hQ hr
  subst hX
  unfold X9_answerAt at h
  refine jt_aload_n C dX9_answerAt_0 rfl 0 rfl ?_
  obtain ⟨M1, eM1, h⟩ := jm_bind h
  refine jt_callVv (As := []) (rest := []) C hr0 rfl dX9_answerAt_1 (c_X9_layGraphs (jx_l X) k n _ _ hr0 _ eM1) (k_goodIn (g_RX9_182)) rfl h_X9_layGraphs ⟨rfl, rfl, Nat.le_of_ble_eq_true rfl, Nat.le_of_ble_eq_true rfl⟩ rfl rfl (Nat.le_of_ble_eq_true rfl) ?_
  refine jt_iload_n C dX9_answerAt_4 rfl 1 rfl ?_
  refine jt_istore_n (lv' := [(2, _), (0, _), (1, _)]) C dX9_answerAt_5 rfl (by decide) rfl ?_
  refine jt_iconst (v := (0 : Int32)) C dX9_answerAt_6 (by decide) ?_
  refine jt_istore_n (lv' := [(3, _), (2, _), (0, _), (1, _)]) C dX9_answerAt_7 rfl (by decide) rfl ?_
  obtain ⟨q4, eq4, h⟩ := jm_bind h
  refine jt_sub [2, 1, 0] rfl ?_
  refine t_X9_answerAt_L8 C n _ _ hr0 n _ _ eq4 ?_ _ _ rfl
  rcases q4 with z5 | w6
  · replace h := jm_inl h
    intro z1 z2 hz pc1 lv1 hp1
    subst hz
    cases h
    exact jt_iret C hp1 hQ hr
  · replace h := jm_inr h
    show jm_T _ _ _ _ _ _ _ _
    refine jt_bipush (v := (-9 : Int32)) C dX9_answerAt_43 (by decide) ?_
    cases h
    exact jt_iret C dX9_answerAt_45 hQ hr
theorem h_X9_hold : yX9_hold.cls = RX9 ∧ yX9_hold.cls ≠ "java/lang/invoke/MethodHandle" ∧ yX9_hold.cls ≠ "java/lang/invoke/VarHandle" ∧ (parseMethodDescriptor yX9_hold.desc).map (fun d => d.parameters.length) = some 1 := by decide +kernel
set_option maxHeartbeats 4000000 in
set_option maxRecDepth 100000 in
theorem c_X9_hold (l : Launch) (k : jm_C) (n : Nat) (r0 : Nat) (v1 : Int32) (M : jm_M) (hr0 : jm_is r0 (3, 8)) (q1 : Int32) (q2 : jm_M) (h : X9_hold n r0 v1 M = some (q1, q2)) : jm_Ci l k yX9_hold w_X9_hold { frames := 1, cells := 0, slots := 0, locals := 40 } [.ref (jm_ad k r0), .int v1] M q1 q2 := by
  refine jm_entry_i (cc := cX9_hold) (nL := 3) (ret := (some .int)) (by decide) rfl (Nat.le_of_ble_eq_true rfl) ?_
  intro X hX C hQ hr
  subst hX
  unfold X9_hold at h
  refine jt_iload_n C dX9_hold_0 rfl 1 rfl ?_
  refine jt_iconst (v := (3 : Int32)) C dX9_hold_1 (by decide) ?_
  refine jt_bipush (v := (6 : Int32)) C dX9_hold_2 (by decide) ?_
  refine jt_callSi (As := [_, _, _]) (rest := []) C dX9_hold_4 (c_X9_isIn (jx_l X) k _ _ _ _ _ rfl) (k_goodIn (g_RX9_50)) rfl h_X9_isIn ⟨rfl, rfl, Nat.le_of_ble_eq_true rfl, Nat.le_of_ble_eq_true rfl⟩ rfl rfl (Nat.le_of_ble_eq_true rfl) ?_
  refine jt_if_ne (tgt := 12) C dX9_hold_7 (by decide) (fun c7 => ?_) (fun c7 => ?_)
  · replace h := jm_iff c7 h
    refine jt_aload_n C dX9_hold_12 rfl 0 rfl ?_
    obtain ⟨M1, eM1, h⟩ := jm_bind h
    refine jt_callVv (As := []) (rest := []) C hr0 rfl dX9_hold_13 (c_X9_remember (jx_l X) k n _ _ hr0 _ eM1) (k_goodIn (g_RX9_70)) rfl h_X9_remember ⟨rfl, rfl, Nat.le_of_ble_eq_true rfl, Nat.le_of_ble_eq_true rfl⟩ rfl rfl (Nat.le_of_ble_eq_true rfl) ?_
    refine jt_aload_n C dX9_hold_16 rfl 0 rfl ?_
    refine jt_getR (Tf := TX9) (N := 17) C dX9_hold_17 hr0 rfl i_9 0 (by decide) rfl m_RX9_7 rfl ?_
    refine jt_iconst (v := (3 : Int32)) C dX9_hold_20 (by decide) ?_
    obtain ⟨x2, ex2, h⟩ := jm_bind h
    refine jt_iald C dX9_hold_21 (jm_f8_0 hr0) ex2 ?_
    refine jt_istore_n (lv' := [(2, _), (0, _), (1, _)]) C dX9_hold_22 rfl (by decide) rfl ?_
    refine jt_aload_n C dX9_hold_23 rfl 1 rfl ?_
    refine jt_getR (Tf := TX9) (N := 17) C dX9_hold_24 hr0 rfl i_9 0 (by decide) rfl m_RX9_7 rfl ?_
    refine jt_iconst (v := (2 : Int32)) C dX9_hold_27 (by decide) ?_
    refine jt_iload_n C dX9_hold_28 rfl 2 rfl ?_
    obtain ⟨M3, eM3, h⟩ := jm_bind h
    refine jt_iast C dX9_hold_29 (jm_f8_0 hr0) eM3 ?_
    refine jt_aload_n C dX9_hold_30 rfl 1 rfl ?_
    refine jt_getR (Tf := TX9) (N := 17) C dX9_hold_31 hr0 rfl i_9 0 (by decide) rfl m_RX9_7 rfl ?_
    refine jt_iconst (v := (3 : Int32)) C dX9_hold_34 (by decide) ?_
    refine jt_iconst (v := (0 : Int32)) C dX9_hold_35 (by decide) ?_
    obtain ⟨M4, eM4, h⟩ := jm_bind h
    refine jt_iast C dX9_hold_36 (jm_f8_0 hr0) eM4 ?_
    refine jt_iload_n C dX9_hold_37 rfl 0 rfl ?_
    cases h
    exact jt_iret C dX9_hold_38 hQ hr
  · replace h := jm_ift c7 h
    refine jt_iconst (v := (-1 : Int32)) C dX9_hold_10 (by decide) ?_
    cases h
    exact jt_iret C dX9_hold_11 hQ hr
theorem h_X9_keepDeck : yX9_keepDeck.cls = RX9 ∧ yX9_keepDeck.cls ≠ "java/lang/invoke/MethodHandle" ∧ yX9_keepDeck.cls ≠ "java/lang/invoke/VarHandle" ∧ (parseMethodDescriptor yX9_keepDeck.desc).map (fun d => d.parameters.length) = some 0 := by decide +kernel
set_option maxHeartbeats 4000000 in
set_option maxRecDepth 100000 in
theorem c_X9_keepDeck (l : Launch) (k : jm_C) (n : Nat) (r0 : Nat) (M : jm_M) (hr0 : jm_is r0 (3, 8)) (q1 : Int32) (q2 : jm_M) (h : X9_keepDeck n r0 M = some (q1, q2)) : jm_Ci l k yX9_keepDeck w_X9_keepDeck { frames := 7, cells := 0, slots := 0, locals := 280 } [.ref (jm_ad k r0)] M q1 q2 := by
  refine jm_entry_i (cc := cX9_keepDeck) (nL := 1) (ret := (some .int)) (by decide) rfl (Nat.le_of_ble_eq_true rfl) ?_
  intro X hX C hQ hr
  subst hX
  unfold X9_keepDeck at h
  refine jt_aload_n C dX9_keepDeck_0 rfl 0 rfl ?_
  refine jt_getR (Tf := TX9) (N := 17) C dX9_keepDeck_1 hr0 rfl i_9 0 (by decide) rfl m_RX9_7 rfl ?_
  refine jt_iconst (v := (0 : Int32)) C dX9_keepDeck_4 (by decide) ?_
  obtain ⟨x1, ex1, h⟩ := jm_bind h
  refine jt_iald C dX9_keepDeck_5 (jm_f8_0 hr0) ex1 ?_
  refine jt_iconst (v := (3 : Int32)) C dX9_keepDeck_6 (by decide) ?_
  refine jt_bipush (v := (6 : Int32)) C dX9_keepDeck_7 (by decide) ?_
  refine jt_callSi (As := [_, _, _]) (rest := []) C dX9_keepDeck_9 (c_X9_isIn (jx_l X) k _ _ _ _ _ rfl) (k_goodIn (g_RX9_50)) rfl h_X9_isIn ⟨rfl, rfl, Nat.le_of_ble_eq_true rfl, Nat.le_of_ble_eq_true rfl⟩ rfl rfl (Nat.le_of_ble_eq_true rfl) ?_
  refine jt_if_ne (tgt := 18) C dX9_keepDeck_12 (by decide) (fun c12 => ?_) (fun c12 => ?_)
  · replace h := jm_iff c12 h
    refine jt_aload_n C dX9_keepDeck_18 rfl 0 rfl ?_
    obtain ⟨M2, eM2, h⟩ := jm_bind h
    refine jt_callVv (As := []) (rest := []) C hr0 rfl dX9_keepDeck_19 (c_X9_remember (jx_l X) k n _ _ hr0 _ eM2) (k_goodIn (g_RX9_70)) rfl h_X9_remember ⟨rfl, rfl, Nat.le_of_ble_eq_true rfl, Nat.le_of_ble_eq_true rfl⟩ rfl rfl (Nat.le_of_ble_eq_true rfl) ?_
    refine jt_aload_n C dX9_keepDeck_22 rfl 0 rfl ?_
    refine jt_getR (Tf := TX9) (N := 17) C dX9_keepDeck_23 hr0 rfl i_9 0 (by decide) rfl m_RX9_7 rfl ?_
    refine jt_iconst (v := (2 : Int32)) C dX9_keepDeck_26 (by decide) ?_
    refine jt_aload_n C dX9_keepDeck_27 rfl 0 rfl ?_
    refine jt_getR (Tf := TX9) (N := 17) C dX9_keepDeck_28 hr0 rfl i_9 0 (by decide) rfl m_RX9_7 rfl ?_
    refine jt_iconst (v := (0 : Int32)) C dX9_keepDeck_31 (by decide) ?_
    obtain ⟨x3, ex3, h⟩ := jm_bind h
    refine jt_iald C dX9_keepDeck_32 (jm_f8_0 hr0) ex3 ?_
    obtain ⟨M4, eM4, h⟩ := jm_bind h
    refine jt_iast C dX9_keepDeck_33 (jm_f8_0 hr0) eM4 ?_
    refine jt_aload_n C dX9_keepDeck_34 rfl 0 rfl ?_
    refine jt_getR (Tf := TX9) (N := 17) C dX9_keepDeck_35 hr0 rfl i_9 0 (by decide) rfl m_RX9_7 rfl ?_
    refine jt_iconst (v := (3 : Int32)) C dX9_keepDeck_38 (by decide) ?_
    refine jt_aload_n C dX9_keepDeck_39 rfl 0 rfl ?_
    refine jt_getR (Tf := TX9) (N := 17) C dX9_keepDeck_40 hr0 rfl i_9 0 (by decide) rfl m_RX9_7 rfl ?_
    refine jt_iconst (v := (0 : Int32)) C dX9_keepDeck_43 (by decide) ?_
    obtain ⟨x5, ex5, h⟩ := jm_bind h
    refine jt_iald C dX9_keepDeck_44 (jm_f8_0 hr0) ex5 ?_
    obtain ⟨M6, eM6, h⟩ := jm_bind h
    refine jt_iast C dX9_keepDeck_45 (jm_f8_0 hr0) eM6 ?_
    refine jt_aload_n C dX9_keepDeck_46 rfl 0 rfl ?_
    refine jt_aload_n C dX9_keepDeck_47 rfl 0 rfl ?_
    refine jt_getR (Tf := TX9) (N := 17) C dX9_keepDeck_48 hr0 rfl i_9 0 (by decide) rfl m_RX9_7 rfl ?_
    refine jt_iconst (v := (0 : Int32)) C dX9_keepDeck_51 (by decide) ?_
    obtain ⟨x7, ex7, h⟩ := jm_bind h
    refine jt_iald C dX9_keepDeck_52 (jm_f8_0 hr0) ex7 ?_
    refine jt_aload_n C dX9_keepDeck_53 rfl 0 rfl ?_
    refine jt_getR (Tf := TX9) (N := 17) C dX9_keepDeck_54 hr0 rfl i_9 0 (by decide) rfl m_RX9_7 rfl ?_
    refine jt_iconst (v := (1 : Int32)) C dX9_keepDeck_57 (by decide) ?_
    obtain ⟨x8, ex8, h⟩ := jm_bind h
    refine jt_iald C dX9_keepDeck_58 (jm_f8_0 hr0) ex8 ?_
    refine jt_aload_n C dX9_keepDeck_59 rfl 0 rfl ?_
    refine jt_getR (Tf := TX9) (N := 17) C dX9_keepDeck_60 hr0 rfl i_9 0 (by decide) rfl m_RX9_7 rfl ?_
    refine jt_iconst (v := (4 : Int32)) C dX9_keepDeck_63 (by decide) ?_
    obtain ⟨M9, eM9, h⟩ := jm_bind h
    refine jt_callVv (As := [_, _, _, _]) (rest := []) C hr0 rfl dX9_keepDeck_64 (c_X9_layDeck (jx_l X) k n _ _ _ _ _ _ hr0 (jm_ar (jm_f8_0 hr0)) _ eM9) (k_goodIn (g_RX9_178)) rfl h_X9_layDeck ⟨rfl, rfl, Nat.le_of_ble_eq_true rfl, Nat.le_of_ble_eq_true rfl⟩ rfl rfl (Nat.le_of_ble_eq_true rfl) ?_
    refine jt_aload_n C dX9_keepDeck_67 rfl 0 rfl ?_
    refine jt_getR (Tf := TX9) (N := 17) C dX9_keepDeck_68 hr0 rfl i_9 0 (by decide) rfl m_RX9_7 rfl ?_
    refine jt_iconst (v := (3 : Int32)) C dX9_keepDeck_71 (by decide) ?_
    obtain ⟨x10, ex10, h⟩ := jm_bind h
    refine jt_iald C dX9_keepDeck_72 (jm_f8_0 hr0) ex10 ?_
    cases h
    exact jt_iret C dX9_keepDeck_73 hQ hr
  · replace h := jm_ift c12 h
    refine jt_bipush (v := (-2 : Int32)) C dX9_keepDeck_15 (by decide) ?_
    cases h
    exact jt_iret C dX9_keepDeck_17 hQ hr
theorem h_X9_addCard : yX9_addCard.cls = RX9 ∧ yX9_addCard.cls ≠ "java/lang/invoke/MethodHandle" ∧ yX9_addCard.cls ≠ "java/lang/invoke/VarHandle" ∧ (parseMethodDescriptor yX9_addCard.desc).map (fun d => d.parameters.length) = some 1 := by decide +kernel
set_option maxHeartbeats 4000000 in
set_option maxRecDepth 100000 in
theorem t_X9_addCard_L66 {X : jm_X} {k : jm_C} (C : jm_Cx X k cX9_addCard 4 RX9 w_X9_addCard) (r0 : Nat) (v2 : Int32) (hr0 : jm_is r0 (3, 8)) : ∀ (m : Nat) (s : Int32 × jm_M) (r : Int32 × jm_M), jm_loop (X9_addCard_B66 r0 v2) m s = some r → (∀ (b0 : Int32) (b1 : jm_M), r = (b0, b1) → jm_T X { frames := 5, cells := 0, slots := 0, locals := 200 } k 4 b1 108 [(0, .ref (jm_ad k r0)), (2, .int v2), (3, .int b0)] []) → (∀ (b0 : Int32) (b1 : jm_M), s = (b0, b1) → jm_T X { frames := 5, cells := 0, slots := 0, locals := 200 } k 4 b1 66 [(0, .ref (jm_ad k r0)), (2, .int v2), (3, .int b0)] []) := by
  refine jm_loop_ind (P := fun (s : Int32 × jm_M) => (∀ (b0 : Int32) (b1 : jm_M), s = (b0, b1) → jm_T X { frames := 5, cells := 0, slots := 0, locals := 200 } k 4 b1 66 [(0, .ref (jm_ad k r0)), (2, .int v2), (3, .int b0)] [])) (K := fun (r : Int32 × jm_M) => ∀ (b0 : Int32) (b1 : jm_M), r = (b0, b1) → jm_T X { frames := 5, cells := 0, slots := 0, locals := 200 } k 4 b1 108 [(0, .ref (jm_ad k r0)), (2, .int v2), (3, .int b0)] []) ?_
  intro s q h h1 h2
  intro b0 b1 hs
  subst hs
  unfold X9_addCard_B66 at h
  try dsimp only at h
  refine jt_iload_n C dX9_addCard_66 rfl 2 rfl ?_
  refine jt_if_le (tgt := 108) C dX9_addCard_67 (by decide) (fun c67 => ?_) (fun c67 => ?_)
  · replace h := jm_ift c67 h
    cases h
    exact jt_sub [0, 1, 2] rfl (h2 _ rfl _ _ rfl)
  · replace h := jm_iff c67 h
    refine jt_aload_n C dX9_addCard_70 rfl 0 rfl ?_
    refine jt_getR (Tf := TX9) (N := 17) C dX9_addCard_71 hr0 rfl i_9 0 (by decide) rfl m_RX9_7 rfl ?_
    refine jt_iconst (v := (4 : Int32)) C dX9_addCard_74 (by decide) ?_
    refine jt_iload_n C dX9_addCard_75 rfl 2 rfl ?_
    refine jt_iadd C dX9_addCard_76 ?_
    refine jt_iconst (v := (1 : Int32)) C dX9_addCard_77 (by decide) ?_
    refine jt_isub C dX9_addCard_78 ?_
    obtain ⟨x8, ex8, h⟩ := jm_bind h
    refine jt_iald C dX9_addCard_79 (jm_f8_0 hr0) ex8 ?_
    refine jt_iload_n C dX9_addCard_80 rfl 1 rfl ?_
    refine jt_icmp_lt (tgt := 108) C dX9_addCard_81 (by decide) (fun c81 => ?_) (fun c81 => ?_)
    · replace h := jm_ift c81 h
      cases h
      exact jt_sub [0, 1, 2] rfl (h2 _ rfl _ _ rfl)
    · replace h := jm_iff c81 h
      refine jt_aload_n C dX9_addCard_84 rfl 0 rfl ?_
      refine jt_getR (Tf := TX9) (N := 17) C dX9_addCard_85 hr0 rfl i_9 0 (by decide) rfl m_RX9_7 rfl ?_
      refine jt_iconst (v := (4 : Int32)) C dX9_addCard_88 (by decide) ?_
      refine jt_iload_n C dX9_addCard_89 rfl 2 rfl ?_
      refine jt_iadd C dX9_addCard_90 ?_
      refine jt_aload_n C dX9_addCard_91 rfl 0 rfl ?_
      refine jt_getR (Tf := TX9) (N := 17) C dX9_addCard_92 hr0 rfl i_9 0 (by decide) rfl m_RX9_7 rfl ?_
      refine jt_iconst (v := (4 : Int32)) C dX9_addCard_95 (by decide) ?_
      refine jt_iload_n C dX9_addCard_96 rfl 2 rfl ?_
      refine jt_iadd C dX9_addCard_97 ?_
      refine jt_iconst (v := (1 : Int32)) C dX9_addCard_98 (by decide) ?_
      refine jt_isub C dX9_addCard_99 ?_
      obtain ⟨x9, ex9, h⟩ := jm_bind h
      refine jt_iald C dX9_addCard_100 (jm_f8_0 hr0) ex9 ?_
      obtain ⟨M10, eM10, h⟩ := jm_bind h
      refine jt_iast C dX9_addCard_101 (jm_f8_0 hr0) eM10 ?_
      refine jt_iinc (v := (-1 : Int32)) (lv' := [(3, _), (0, _), (2, _)]) C dX9_addCard_102 2 rfl (by decide) (by decide) rfl ?_
      refine jt_goto (tgt := 66) C dX9_addCard_105 (by decide) ?_
      cases h
      exact jt_sub [1, 2, 0] rfl (h1 _ rfl _ _ rfl)
set_option maxHeartbeats 4000000 in
set_option maxRecDepth 100000 in
theorem c_X9_addCard (l : Launch) (k : jm_C) (n : Nat) (r0 : Nat) (v1 : Int32) (M : jm_M) (hr0 : jm_is r0 (3, 8)) (q1 : Int32) (q2 : jm_M) (h : X9_addCard n r0 v1 M = some (q1, q2)) : jm_Ci l k yX9_addCard w_X9_addCard { frames := 5, cells := 0, slots := 0, locals := 200 } [.ref (jm_ad k r0), .int v1] M q1 q2 := by
  refine jm_entry_i (cc := cX9_addCard) (nL := 4) (ret := (some .int)) (by decide) rfl (Nat.le_of_ble_eq_true rfl) ?_
  intro X hX C hQ hr
  subst hX
  unfold X9_addCard at h
  refine jt_iload_n C dX9_addCard_0 rfl 1 rfl ?_
  refine jt_if_lt (tgt := 21) C dX9_addCard_1 (by decide) (fun c1 => ?_) (fun c1 => ?_)
  · replace h := jm_ift c1 h
    refine jt_iconst (v := (-1 : Int32)) C dX9_addCard_21 (by decide) ?_
    cases h
    exact jt_iret C dX9_addCard_22 hQ hr
  · replace h := jm_iff c1 h
    refine jt_iload_n C dX9_addCard_4 rfl 1 rfl ?_
    refine jt_iconst (v := (1 : Int32)) C dX9_addCard_5 (by decide) ?_
    refine jt_aload_n C dX9_addCard_6 rfl 0 rfl ?_
    refine jt_getR (Tf := TX9) (N := 17) C dX9_addCard_7 hr0 rfl i_9 0 (by decide) rfl m_RX9_7 rfl ?_
    refine jt_iconst (v := (2 : Int32)) C dX9_addCard_10 (by decide) ?_
    obtain ⟨x1, ex1, h⟩ := jm_bind h
    refine jt_iald C dX9_addCard_11 (jm_f8_0 hr0) ex1 ?_
    refine jt_iconst (v := (1 : Int32)) C dX9_addCard_12 (by decide) ?_
    refine jt_isub C dX9_addCard_13 ?_
    refine jt_callSi (As := [_]) (rest := [_, _]) C dX9_addCard_14 (c_X9_pairs (jx_l X) k _ _ _ rfl) (k_goodIn (g_RX9_58)) rfl h_X9_pairs ⟨rfl, rfl, Nat.le_of_ble_eq_true rfl, Nat.le_of_ble_eq_true rfl⟩ rfl rfl (Nat.le_of_ble_eq_true rfl) ?_
    refine jt_ishl C dX9_addCard_17 ?_
    refine jt_icmp_lt (tgt := 23) C dX9_addCard_18 (by decide) (fun c18 => ?_) (fun c18 => ?_)
    · replace h := jm_ift c18 h
      refine jt_aload_n C dX9_addCard_23 rfl 0 rfl ?_
      refine jt_getR (Tf := TX9) (N := 17) C dX9_addCard_24 hr0 rfl i_9 0 (by decide) rfl m_RX9_7 rfl ?_
      refine jt_iconst (v := (3 : Int32)) C dX9_addCard_27 (by decide) ?_
      obtain ⟨x2, ex2, h⟩ := jm_bind h
      refine jt_iald C dX9_addCard_28 (jm_f8_0 hr0) ex2 ?_
      refine jt_aload_n C dX9_addCard_29 rfl 0 rfl ?_
      refine jt_getR (Tf := TX9) (N := 17) C dX9_addCard_30 hr0 rfl i_9 0 (by decide) rfl m_RX9_7 rfl ?_
      refine jt_iconst (v := (2 : Int32)) C dX9_addCard_33 (by decide) ?_
      obtain ⟨x3, ex3, h⟩ := jm_bind h
      refine jt_iald C dX9_addCard_34 (jm_f8_0 hr0) ex3 ?_
      refine jt_icmp_ne (tgt := 41) C dX9_addCard_35 (by decide) (fun c35 => ?_) (fun c35 => ?_)
      · replace h := jm_iff c35 h
        refine jt_aload_n C dX9_addCard_41 rfl 0 rfl ?_
        obtain ⟨M4, eM4, h⟩ := jm_bind h
        refine jt_callVv (As := []) (rest := []) C hr0 rfl dX9_addCard_42 (c_X9_remember (jx_l X) k n _ _ hr0 _ eM4) (k_goodIn (g_RX9_70)) rfl h_X9_remember ⟨rfl, rfl, Nat.le_of_ble_eq_true rfl, Nat.le_of_ble_eq_true rfl⟩ rfl rfl (Nat.le_of_ble_eq_true rfl) ?_
        refine jt_aload_n C dX9_addCard_45 rfl 0 rfl ?_
        refine jt_aload_n C dX9_addCard_46 rfl 0 rfl ?_
        refine jt_getR (Tf := TX9) (N := 17) C dX9_addCard_47 hr0 rfl i_9 0 (by decide) rfl m_RX9_7 rfl ?_
        refine jt_iconst (v := (2 : Int32)) C dX9_addCard_50 (by decide) ?_
        obtain ⟨x5, ex5, h⟩ := jm_bind h
        refine jt_iald C dX9_addCard_51 (jm_f8_0 hr0) ex5 ?_
        refine jt_iconst (v := (1 : Int32)) C dX9_addCard_52 (by decide) ?_
        refine jt_isub C dX9_addCard_53 ?_
        refine jt_iload_n C dX9_addCard_54 rfl 1 rfl ?_
        obtain ⟨⟨x6a, x6b⟩, ex6, h⟩ := jm_bind h
        try dsimp only at h
        refine jt_callVi (As := [_, _]) (rest := []) C hr0 rfl dX9_addCard_55 (c_X9_canonical (jx_l X) k n _ _ _ _ hr0 _ _ ex6) (k_goodIn (g_RX9_90)) rfl h_X9_canonical ⟨rfl, rfl, Nat.le_of_ble_eq_true rfl, Nat.le_of_ble_eq_true rfl⟩ rfl rfl (Nat.le_of_ble_eq_true rfl) ?_
        refine jt_istore_n (lv' := [(2, _), (0, _), (1, _)]) C dX9_addCard_58 rfl (by decide) rfl ?_
        refine jt_aload_n C dX9_addCard_59 rfl 1 rfl ?_
        refine jt_getR (Tf := TX9) (N := 17) C dX9_addCard_60 hr0 rfl i_9 0 (by decide) rfl m_RX9_7 rfl ?_
        refine jt_iconst (v := (3 : Int32)) C dX9_addCard_63 (by decide) ?_
        obtain ⟨x7, ex7, h⟩ := jm_bind h
        refine jt_iald C dX9_addCard_64 (jm_f8_0 hr0) ex7 ?_
        refine jt_istore_n (lv' := [(3, _), (2, _), (0, _), (1, _)]) C dX9_addCard_65 rfl (by decide) rfl ?_
        obtain ⟨q11, eq11, h⟩ := jm_bind h
        refine jt_sub [2, 1, 0] rfl ?_
        refine t_X9_addCard_L66 C _ _ hr0 n _ _ eq11 ?_ _ _ rfl
        intro y12_0 y12_1 hq12
        subst hq12
        try dsimp only at h
        refine jt_aload_n C dX9_addCard_108 rfl 0 rfl ?_
        refine jt_getR (Tf := TX9) (N := 17) C dX9_addCard_109 hr0 rfl i_9 0 (by decide) rfl m_RX9_7 rfl ?_
        refine jt_iconst (v := (4 : Int32)) C dX9_addCard_112 (by decide) ?_
        refine jt_iload_n C dX9_addCard_113 rfl 2 rfl ?_
        refine jt_iadd C dX9_addCard_114 ?_
        refine jt_iload_n C dX9_addCard_115 rfl 1 rfl ?_
        obtain ⟨M13, eM13, h⟩ := jm_bind h
        refine jt_iast C dX9_addCard_116 (jm_f8_0 hr0) eM13 ?_
        refine jt_aload_n C dX9_addCard_117 rfl 0 rfl ?_
        refine jt_getR (Tf := TX9) (N := 17) C dX9_addCard_118 hr0 rfl i_9 0 (by decide) rfl m_RX9_7 rfl ?_
        refine jt_iconst (v := (3 : Int32)) C dX9_addCard_121 (by decide) ?_
        refine jt_dup2 C dX9_addCard_122 rfl rfl ?_
        obtain ⟨x14, ex14, h⟩ := jm_bind h
        refine jt_iald C dX9_addCard_123 (jm_f8_0 hr0) ex14 ?_
        refine jt_iconst (v := (1 : Int32)) C dX9_addCard_124 (by decide) ?_
        refine jt_iadd C dX9_addCard_125 ?_
        obtain ⟨M15, eM15, h⟩ := jm_bind h
        refine jt_iast C dX9_addCard_126 (jm_f8_0 hr0) eM15 ?_
        refine jt_iload_n C dX9_addCard_127 rfl 2 rfl ?_
        cases h
        exact jt_iret C dX9_addCard_128 hQ hr
      · replace h := jm_ift c35 h
        refine jt_bipush (v := (-3 : Int32)) C dX9_addCard_38 (by decide) ?_
        cases h
        exact jt_iret C dX9_addCard_40 hQ hr
    · replace h := jm_iff c18 h
      refine jt_iconst (v := (-1 : Int32)) C dX9_addCard_21 (by decide) ?_
      cases h
      exact jt_iret C dX9_addCard_22 hQ hr
theorem h_X9_isCard : yX9_isCard.cls = RX9 ∧ yX9_isCard.cls ≠ "java/lang/invoke/MethodHandle" ∧ yX9_isCard.cls ≠ "java/lang/invoke/VarHandle" ∧ (parseMethodDescriptor yX9_isCard.desc).map (fun d => d.parameters.length) = some 1 := by decide +kernel
set_option maxHeartbeats 4000000 in
set_option maxRecDepth 100000 in
theorem c_X9_isCard (l : Launch) (k : jm_C) (r0 : Nat) (v1 : Int32) (M : jm_M) (hr0 : jm_is r0 (3, 8)) (q : Int32) (h : X9_isCard r0 v1 M = some q) : jm_Ci l k yX9_isCard w_X9_isCard { frames := 1, cells := 0, slots := 0, locals := 40 } [.ref (jm_ad k r0), .int v1] M q M := by
  refine jm_entry_i (cc := cX9_isCard) (nL := 2) (ret := (some .boolean)) (by decide) rfl (Nat.le_of_ble_eq_true rfl) ?_
  intro X hX C hQ hr
  subst hX
  unfold X9_isCard at h
  refine jt_iload_n C dX9_isCard_0 rfl 1 rfl ?_
  refine jt_iconst (v := (0 : Int32)) C dX9_isCard_1 (by decide) ?_
  refine jt_aload_n C dX9_isCard_2 rfl 0 rfl ?_
  refine jt_getR (Tf := TX9) (N := 17) C dX9_isCard_3 hr0 rfl i_9 0 (by decide) rfl m_RX9_7 rfl ?_
  refine jt_iconst (v := (3 : Int32)) C dX9_isCard_6 (by decide) ?_
  obtain ⟨x1, ex1, h⟩ := jm_bind h
  refine jt_iald C dX9_isCard_7 (jm_f8_0 hr0) ex1 ?_
  refine jt_iconst (v := (1 : Int32)) C dX9_isCard_8 (by decide) ?_
  refine jt_isub C dX9_isCard_9 ?_
  refine jt_callSi (As := [_, _, _]) (rest := []) C dX9_isCard_10 (c_X9_isIn (jx_l X) k _ _ _ _ _ rfl) (k_goodIn (g_RX9_50)) rfl h_X9_isIn ⟨rfl, rfl, Nat.le_of_ble_eq_true rfl, Nat.le_of_ble_eq_true rfl⟩ rfl rfl (Nat.le_of_ble_eq_true rfl) ?_
  obtain ⟨x2, ex2, h⟩ := jm_bind h
  cases h
  obtain ⟨hz, rfl⟩ := jm_zb_s ex2
  exact jt_zret C dX9_isCard_13 hQ hr hz
theorem h_X9_dropCard : yX9_dropCard.cls = RX9 ∧ yX9_dropCard.cls ≠ "java/lang/invoke/MethodHandle" ∧ yX9_dropCard.cls ≠ "java/lang/invoke/VarHandle" ∧ (parseMethodDescriptor yX9_dropCard.desc).map (fun d => d.parameters.length) = some 1 := by decide +kernel
set_option maxHeartbeats 4000000 in
set_option maxRecDepth 100000 in
theorem t_X9_dropCard_L16 {X : jm_X} {k : jm_C} (C : jm_Cx X k cX9_dropCard 3 RX9 w_X9_dropCard) (r0 : Nat) (hr0 : jm_is r0 (3, 8)) : ∀ (m : Nat) (s : Int32 × jm_M) (r : jm_M), jm_loop (X9_dropCard_B16 r0) m s = some r → jm_T X { frames := 2, cells := 0, slots := 0, locals := 80 } k 3 r 52 [(0, .ref (jm_ad k r0))] [] → (∀ (b0 : Int32) (b1 : jm_M), s = (b0, b1) → jm_T X { frames := 2, cells := 0, slots := 0, locals := 80 } k 3 b1 16 [(0, .ref (jm_ad k r0)), (2, .int b0)] []) := by
  refine jm_loop_ind (P := fun (s : Int32 × jm_M) => (∀ (b0 : Int32) (b1 : jm_M), s = (b0, b1) → jm_T X { frames := 2, cells := 0, slots := 0, locals := 80 } k 3 b1 16 [(0, .ref (jm_ad k r0)), (2, .int b0)] [])) (K := fun (r : jm_M) => jm_T X { frames := 2, cells := 0, slots := 0, locals := 80 } k 3 r 52 [(0, .ref (jm_ad k r0))] []) ?_
  intro s q h h1 h2
  intro b0 b1 hs
  subst hs
  unfold X9_dropCard_B16 at h
  try dsimp only at h
  refine jt_iload_n C dX9_dropCard_16 rfl 1 rfl ?_
  refine jt_aload_n C dX9_dropCard_17 rfl 0 rfl ?_
  refine jt_getR (Tf := TX9) (N := 17) C dX9_dropCard_18 hr0 rfl i_9 0 (by decide) rfl m_RX9_7 rfl ?_
  refine jt_iconst (v := (3 : Int32)) C dX9_dropCard_21 (by decide) ?_
  obtain ⟨x3, ex3, h⟩ := jm_bind h
  refine jt_iald C dX9_dropCard_22 (jm_f8_0 hr0) ex3 ?_
  refine jt_iconst (v := (1 : Int32)) C dX9_dropCard_23 (by decide) ?_
  refine jt_isub C dX9_dropCard_24 ?_
  refine jt_icmp_ge (tgt := 52) C dX9_dropCard_25 (by decide) (fun c25 => ?_) (fun c25 => ?_)
  · replace h := jm_ift c25 h
    cases h
    exact jt_sub [0] rfl (h2 _ rfl)
  · replace h := jm_iff c25 h
    refine jt_aload_n C dX9_dropCard_28 rfl 0 rfl ?_
    refine jt_getR (Tf := TX9) (N := 17) C dX9_dropCard_29 hr0 rfl i_9 0 (by decide) rfl m_RX9_7 rfl ?_
    refine jt_iconst (v := (4 : Int32)) C dX9_dropCard_32 (by decide) ?_
    refine jt_iload_n C dX9_dropCard_33 rfl 1 rfl ?_
    refine jt_iadd C dX9_dropCard_34 ?_
    refine jt_aload_n C dX9_dropCard_35 rfl 0 rfl ?_
    refine jt_getR (Tf := TX9) (N := 17) C dX9_dropCard_36 hr0 rfl i_9 0 (by decide) rfl m_RX9_7 rfl ?_
    refine jt_iconst (v := (4 : Int32)) C dX9_dropCard_39 (by decide) ?_
    refine jt_iload_n C dX9_dropCard_40 rfl 1 rfl ?_
    refine jt_iadd C dX9_dropCard_41 ?_
    refine jt_iconst (v := (1 : Int32)) C dX9_dropCard_42 (by decide) ?_
    refine jt_iadd C dX9_dropCard_43 ?_
    obtain ⟨x4, ex4, h⟩ := jm_bind h
    refine jt_iald C dX9_dropCard_44 (jm_f8_0 hr0) ex4 ?_
    obtain ⟨M5, eM5, h⟩ := jm_bind h
    refine jt_iast C dX9_dropCard_45 (jm_f8_0 hr0) eM5 ?_
    refine jt_iinc (v := (1 : Int32)) (lv' := [(2, _), (0, _)]) C dX9_dropCard_46 1 rfl (by decide) (by decide) rfl ?_
    refine jt_goto (tgt := 16) C dX9_dropCard_49 (by decide) ?_
    cases h
    exact jt_sub [1, 0] rfl (h1 _ rfl _ _ rfl)
set_option maxHeartbeats 4000000 in
set_option maxRecDepth 100000 in
theorem c_X9_dropCard (l : Launch) (k : jm_C) (n : Nat) (r0 : Nat) (v1 : Int32) (M : jm_M) (hr0 : jm_is r0 (3, 8)) (q1 : Int32) (q2 : jm_M) (h : X9_dropCard n r0 v1 M = some (q1, q2)) : jm_Ci l k yX9_dropCard w_X9_dropCard { frames := 2, cells := 0, slots := 0, locals := 80 } [.ref (jm_ad k r0), .int v1] M q1 q2 := by
  refine jm_entry_i (cc := cX9_dropCard) (nL := 3) (ret := (some .int)) (by decide) rfl (Nat.le_of_ble_eq_true rfl) ?_
  intro X hX C hQ hr
  subst hX
  unfold X9_dropCard at h
  refine jt_aload_n C dX9_dropCard_0 rfl 0 rfl ?_
  refine jt_iload_n C dX9_dropCard_1 rfl 1 rfl ?_
  obtain ⟨x1, ex1, h⟩ := jm_bind h
  refine jt_callVi (As := [_]) (rest := []) C hr0 rfl dX9_dropCard_2 (c_X9_isCard (jx_l X) k _ _ _ hr0 _ ex1) (k_goodIn (g_RX9_192)) rfl h_X9_isCard ⟨rfl, rfl, Nat.le_of_ble_eq_true rfl, Nat.le_of_ble_eq_true rfl⟩ rfl rfl (Nat.le_of_ble_eq_true rfl) ?_
  refine jt_if_ne (tgt := 10) C dX9_dropCard_5 (by decide) (fun c5 => ?_) (fun c5 => ?_)
  · replace h := jm_iff c5 h
    refine jt_aload_n C dX9_dropCard_10 rfl 0 rfl ?_
    obtain ⟨M2, eM2, h⟩ := jm_bind h
    refine jt_callVv (As := []) (rest := []) C hr0 rfl dX9_dropCard_11 (c_X9_remember (jx_l X) k n _ _ hr0 _ eM2) (k_goodIn (g_RX9_70)) rfl h_X9_remember ⟨rfl, rfl, Nat.le_of_ble_eq_true rfl, Nat.le_of_ble_eq_true rfl⟩ rfl rfl (Nat.le_of_ble_eq_true rfl) ?_
    refine jt_iload_n C dX9_dropCard_14 rfl 1 rfl ?_
    refine jt_istore_n (lv' := [(2, _), (0, _), (1, _)]) C dX9_dropCard_15 rfl (by decide) rfl ?_
    obtain ⟨q6, eq6, h⟩ := jm_bind h
    refine jt_sub [1, 0] rfl ?_
    refine t_X9_dropCard_L16 C _ hr0 n _ _ eq6 ?_ _ _ rfl
    refine jt_aload_n C dX9_dropCard_52 rfl 0 rfl ?_
    refine jt_getR (Tf := TX9) (N := 17) C dX9_dropCard_53 hr0 rfl i_9 0 (by decide) rfl m_RX9_7 rfl ?_
    refine jt_iconst (v := (3 : Int32)) C dX9_dropCard_56 (by decide) ?_
    refine jt_dup2 C dX9_dropCard_57 rfl rfl ?_
    obtain ⟨x7, ex7, h⟩ := jm_bind h
    refine jt_iald C dX9_dropCard_58 (jm_f8_0 hr0) ex7 ?_
    refine jt_iconst (v := (1 : Int32)) C dX9_dropCard_59 (by decide) ?_
    refine jt_isub C dX9_dropCard_60 ?_
    obtain ⟨M8, eM8, h⟩ := jm_bind h
    refine jt_iast C dX9_dropCard_61 (jm_f8_0 hr0) eM8 ?_
    refine jt_aload_n C dX9_dropCard_62 rfl 0 rfl ?_
    refine jt_getR (Tf := TX9) (N := 17) C dX9_dropCard_63 hr0 rfl i_9 0 (by decide) rfl m_RX9_7 rfl ?_
    refine jt_iconst (v := (3 : Int32)) C dX9_dropCard_66 (by decide) ?_
    obtain ⟨x9, ex9, h⟩ := jm_bind h
    refine jt_iald C dX9_dropCard_67 (jm_f8_0 hr0) ex9 ?_
    cases h
    exact jt_iret C dX9_dropCard_68 hQ hr
  · replace h := jm_ift c5 h
    refine jt_iconst (v := (-1 : Int32)) C dX9_dropCard_8 (by decide) ?_
    cases h
    exact jt_iret C dX9_dropCard_9 hQ hr
theorem h_X9_isWhole : yX9_isWhole.cls = RX9 ∧ yX9_isWhole.cls ≠ "java/lang/invoke/MethodHandle" ∧ yX9_isWhole.cls ≠ "java/lang/invoke/VarHandle" ∧ (parseMethodDescriptor yX9_isWhole.desc).map (fun d => d.parameters.length) = some 0 := by decide +kernel
set_option maxHeartbeats 4000000 in
set_option maxRecDepth 100000 in
theorem c_X9_isWhole (l : Launch) (k : jm_C) (r0 : Nat) (M : jm_M) (hr0 : jm_is r0 (3, 8)) (q : Int32) (h : X9_isWhole r0 M = some q) : jm_Ci l k yX9_isWhole w_X9_isWhole { frames := 0, cells := 0, slots := 0, locals := 0 } [.ref (jm_ad k r0)] M q M := by
  refine jm_entry_i (cc := cX9_isWhole) (nL := 1) (ret := (some .boolean)) (by decide) rfl (Nat.le_of_ble_eq_true rfl) ?_
  intro X hX C hQ hr
  subst hX
  unfold X9_isWhole at h
  refine jt_aload_n C dX9_isWhole_0 rfl 0 rfl ?_
  refine jt_getR (Tf := TX9) (N := 17) C dX9_isWhole_1 hr0 rfl i_9 0 (by decide) rfl m_RX9_7 rfl ?_
  refine jt_iconst (v := (3 : Int32)) C dX9_isWhole_4 (by decide) ?_
  obtain ⟨x1, ex1, h⟩ := jm_bind h
  refine jt_iald C dX9_isWhole_5 (jm_f8_0 hr0) ex1 ?_
  refine jt_aload_n C dX9_isWhole_6 rfl 0 rfl ?_
  refine jt_getR (Tf := TX9) (N := 17) C dX9_isWhole_7 hr0 rfl i_9 0 (by decide) rfl m_RX9_7 rfl ?_
  refine jt_iconst (v := (2 : Int32)) C dX9_isWhole_10 (by decide) ?_
  obtain ⟨x2, ex2, h⟩ := jm_bind h
  refine jt_iald C dX9_isWhole_11 (jm_f8_0 hr0) ex2 ?_
  refine jt_icmp_ne (tgt := 19) C dX9_isWhole_12 (by decide) (fun c12 => ?_) (fun c12 => ?_)
  · replace h := jm_iff c12 h
    refine jt_iconst (v := (0 : Int32)) C dX9_isWhole_19 (by decide) ?_
    cases h
    exact jt_zret C dX9_isWhole_20 hQ hr (Or.inl rfl)
  · replace h := jm_ift c12 h
    refine jt_iconst (v := (1 : Int32)) C dX9_isWhole_15 (by decide) ?_
    refine jt_goto (tgt := 20) C dX9_isWhole_16 (by decide) ?_
    cases h
    exact jt_zret C dX9_isWhole_20 hQ hr (Or.inr rfl)
theorem h_X9_edgesOfAll : yX9_edgesOfAll.cls = RX9 ∧ yX9_edgesOfAll.cls ≠ "java/lang/invoke/MethodHandle" ∧ yX9_edgesOfAll.cls ≠ "java/lang/invoke/VarHandle" ∧ (parseMethodDescriptor yX9_edgesOfAll.desc).map (fun d => d.parameters.length) = some 0 := by decide +kernel
set_option maxHeartbeats 4000000 in
set_option maxRecDepth 100000 in
theorem t_X9_edgesOfAll_L4 {X : jm_X} {k : jm_C} (C : jm_Cx X k cX9_edgesOfAll 3 RX9 w_X9_edgesOfAll) (n : Nat) (r0 : Nat) (M : jm_M) (hr0 : jm_is r0 (3, 8)) : ∀ (m : Nat) (s : Int32 × Int32) (r : Int32), jm_loop (X9_edgesOfAll_B4 n r0 M) m s = some r → jm_T X { frames := 1, cells := 0, slots := 0, locals := 40 } k 3 M 34 [(1, .int r)] [] → (∀ (b0 : Int32) (b1 : Int32), s = (b0, b1) → jm_T X { frames := 1, cells := 0, slots := 0, locals := 40 } k 3 M 4 [(0, .ref (jm_ad k r0)), (1, .int b0), (2, .int b1)] []) := by
  refine jm_loop_ind (P := fun (s : Int32 × Int32) => (∀ (b0 : Int32) (b1 : Int32), s = (b0, b1) → jm_T X { frames := 1, cells := 0, slots := 0, locals := 40 } k 3 M 4 [(0, .ref (jm_ad k r0)), (1, .int b0), (2, .int b1)] [])) (K := fun (r : Int32) => jm_T X { frames := 1, cells := 0, slots := 0, locals := 40 } k 3 M 34 [(1, .int r)] []) ?_
  intro s q h h1 h2
  intro b0 b1 hs
  subst hs
  unfold X9_edgesOfAll_B4 at h
  try dsimp only at h
  refine jt_iload_n C dX9_edgesOfAll_4 rfl 2 rfl ?_
  refine jt_aload_n C dX9_edgesOfAll_5 rfl 0 rfl ?_
  refine jt_getR (Tf := TX9) (N := 17) C dX9_edgesOfAll_6 hr0 rfl i_9 0 (by decide) rfl m_RX9_7 rfl ?_
  refine jt_iconst (v := (3 : Int32)) C dX9_edgesOfAll_9 (by decide) ?_
  obtain ⟨x1, ex1, h⟩ := jm_bind h
  refine jt_iald C dX9_edgesOfAll_10 (jm_f8_0 hr0) ex1 ?_
  refine jt_icmp_ge (tgt := 34) C dX9_edgesOfAll_11 (by decide) (fun c11 => ?_) (fun c11 => ?_)
  · replace h := jm_ift c11 h
    cases h
    exact jt_sub [1] rfl (h2 _ rfl)
  · replace h := jm_iff c11 h
    refine jt_iload_n C dX9_edgesOfAll_14 rfl 1 rfl ?_
    refine jt_aload_n C dX9_edgesOfAll_15 rfl 0 rfl ?_
    refine jt_getR (Tf := TX9) (N := 17) C dX9_edgesOfAll_16 hr0 rfl i_9 0 (by decide) rfl m_RX9_7 rfl ?_
    refine jt_iconst (v := (4 : Int32)) C dX9_edgesOfAll_19 (by decide) ?_
    refine jt_iload_n C dX9_edgesOfAll_20 rfl 2 rfl ?_
    refine jt_iadd C dX9_edgesOfAll_21 ?_
    obtain ⟨x2, ex2, h⟩ := jm_bind h
    refine jt_iald C dX9_edgesOfAll_22 (jm_f8_0 hr0) ex2 ?_
    obtain ⟨x3, ex3, h⟩ := jm_bind h
    refine jt_callSi (As := [_]) (rest := [_]) C dX9_edgesOfAll_23 (c_X9_bits (jx_l X) k n _ _ _ ex3) (k_goodIn (g_RX9_118)) rfl h_X9_bits ⟨rfl, rfl, Nat.le_of_ble_eq_true rfl, Nat.le_of_ble_eq_true rfl⟩ rfl rfl (Nat.le_of_ble_eq_true rfl) ?_
    refine jt_iadd C dX9_edgesOfAll_26 ?_
    refine jt_istore_n (lv' := [(1, _), (0, _), (2, _)]) C dX9_edgesOfAll_27 rfl (by decide) rfl ?_
    refine jt_iinc (v := (1 : Int32)) (lv' := [(2, _), (1, _), (0, _)]) C dX9_edgesOfAll_28 2 rfl (by decide) (by decide) rfl ?_
    refine jt_goto (tgt := 4) C dX9_edgesOfAll_31 (by decide) ?_
    cases h
    exact jt_sub [2, 1, 0] rfl (h1 _ rfl _ _ rfl)
set_option maxHeartbeats 4000000 in
set_option maxRecDepth 100000 in
theorem c_X9_edgesOfAll (l : Launch) (k : jm_C) (n : Nat) (r0 : Nat) (M : jm_M) (hr0 : jm_is r0 (3, 8)) (q : Int32) (h : X9_edgesOfAll n r0 M = some q) : jm_Ci l k yX9_edgesOfAll w_X9_edgesOfAll { frames := 1, cells := 0, slots := 0, locals := 40 } [.ref (jm_ad k r0)] M q M := by
  refine jm_entry_i (cc := cX9_edgesOfAll) (nL := 3) (ret := (some .int)) (by decide) rfl (Nat.le_of_ble_eq_true rfl) ?_
  intro X hX C hQ hr
  subst hX
  unfold X9_edgesOfAll at h
  refine jt_iconst (v := (0 : Int32)) C dX9_edgesOfAll_0 (by decide) ?_
  refine jt_istore_n (lv' := [(1, _), (0, _)]) C dX9_edgesOfAll_1 rfl (by decide) rfl ?_
  refine jt_iconst (v := (0 : Int32)) C dX9_edgesOfAll_2 (by decide) ?_
  refine jt_istore_n (lv' := [(2, _), (1, _), (0, _)]) C dX9_edgesOfAll_3 rfl (by decide) rfl ?_
  obtain ⟨q4, eq4, h⟩ := jm_bind h
  refine jt_sub [2, 1, 0] rfl ?_
  refine t_X9_edgesOfAll_L4 C n _ _ hr0 n _ _ eq4 ?_ _ _ rfl
  refine jt_iload_n C dX9_edgesOfAll_34 rfl 0 rfl ?_
  cases h
  exact jt_iret C dX9_edgesOfAll_35 hQ hr
