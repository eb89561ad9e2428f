theorem h_X8_differentCards : yX8_differentCards.cls = RX8 ∧ yX8_differentCards.cls ≠ "java/lang/invoke/MethodHandle" ∧ yX8_differentCards.cls ≠ "java/lang/invoke/VarHandle" ∧ (parseMethodDescriptor yX8_differentCards.desc).map (fun d => d.parameters.length) = some 0 := by decide +kernel
set_option maxHeartbeats 4000000 in
set_option maxRecDepth 100000 in
theorem c_X8_differentCards (l : Launch) (k : jm_C) (n : Nat) (r0 : Nat) (M : jm_M) (hr0 : jm_is r0 (3, 7)) (q1 : Int32) (q2 : jm_M) (h : X8_differentCards n r0 M = some (q1, q2)) : jm_Ci l k yX8_differentCards w_X8_differentCards { frames := 17, cells := 0, slots := 0, locals := 680 } [.ref (jm_ad k r0)] M q1 q2 := by
  refine jm_entry_i (cc := cX8_differentCards) (nL := 1) (ret := (some .int)) (by decide) rfl (Nat.le_of_ble_eq_true rfl) ?_
  intro X hX C hQ hr
  subst hX
  unfold X8_differentCards at h
  refine jt_aload_n C dX8_differentCards_0 rfl 0 rfl ?_
  refine jt_getR (Tf := TX8) (N := 8) C dX8_differentCards_1 hr0 rfl i_8 0 (by decide) rfl m_RX8_10 rfl ?_
  refine jt_callVi (As := []) (rest := []) C (jm_f7_0 hr0) rfl dX8_differentCards_4 (c_X4_size (jx_l X) k _ _ (jm_f7_0 hr0) _ rfl) (k_goodIn (g_RX8_61)) rfl h_X4_size ⟨rfl, rfl, Nat.le_of_ble_eq_true rfl, Nat.le_of_ble_eq_true rfl⟩ rfl rfl (Nat.le_of_ble_eq_true rfl) ?_
  refine jt_iconst (v := (1 : Int32)) C dX8_differentCards_7 (by decide) ?_
  refine jt_icmp_ne (tgt := 13) C dX8_differentCards_8 (by decide) (fun c8 => ?_) (fun c8 => ?_)
  · replace h := jm_iff c8 h
    refine jt_aload_n C dX8_differentCards_13 rfl 0 rfl ?_
    refine jt_getR (Tf := TX8) (N := 8) C dX8_differentCards_14 hr0 rfl i_8 7 (by decide) rfl m_RX8_58 rfl ?_
    refine jt_aload_n C dX8_differentCards_17 rfl 0 rfl ?_
    refine jt_getR (Tf := TX8) (N := 8) C dX8_differentCards_18 hr0 rfl i_8 0 (by decide) rfl m_RX8_10 rfl ?_
    refine jt_aload_n C dX8_differentCards_21 rfl 0 rfl ?_
    refine jt_getR (Tf := TX8) (N := 8) C dX8_differentCards_22 hr0 rfl i_8 3 (by decide) rfl m_RX8_33 rfl ?_
    obtain ⟨M1, eM1, h⟩ := jm_bind h
    refine jt_callVv (As := [_, _]) (rest := []) C (jm_f7_7 hr0) rfl dX8_differentCards_25 (c_X3_fill (jx_l X) k n _ _ _ _ (jm_f7_7 hr0) (jm_f7_0 hr0) (jm_f7_3 hr0) _ eM1) (k_goodIn (g_RX8_155)) rfl h_X3_fill ⟨rfl, rfl, Nat.le_of_ble_eq_true rfl, Nat.le_of_ble_eq_true rfl⟩ rfl rfl (Nat.le_of_ble_eq_true rfl) ?_
    refine jt_aload_n C dX8_differentCards_28 rfl 0 rfl ?_
    refine jt_getR (Tf := TX8) (N := 8) C dX8_differentCards_29 hr0 rfl i_8 7 (by decide) rfl m_RX8_58 rfl ?_
    obtain ⟨x2, ex2, h⟩ := jm_bind h
    refine jt_callVi (As := []) (rest := []) C (jm_f7_7 hr0) rfl dX8_differentCards_32 (c_X3_different (jx_l X) k n _ _ (jm_f7_7 hr0) _ ex2) (k_goodIn (g_RX8_189)) rfl h_X3_different ⟨rfl, rfl, Nat.le_of_ble_eq_true rfl, Nat.le_of_ble_eq_true rfl⟩ rfl rfl (Nat.le_of_ble_eq_true rfl) ?_
    cases h
    exact jt_iret C dX8_differentCards_35 hQ hr
  · replace h := jm_ift c8 h
    refine jt_iconst (v := (0 : Int32)) C dX8_differentCards_11 (by decide) ?_
    cases h
    exact jt_iret C dX8_differentCards_12 hQ hr
theorem h_X8_cardCode : yX8_cardCode.cls = RX8 ∧ yX8_cardCode.cls ≠ "java/lang/invoke/MethodHandle" ∧ yX8_cardCode.cls ≠ "java/lang/invoke/VarHandle" ∧ (parseMethodDescriptor yX8_cardCode.desc).map (fun d => d.parameters.length) = some 1 := by decide +kernel
set_option maxHeartbeats 4000000 in
set_option maxRecDepth 100000 in
theorem c_X8_cardCode (l : Launch) (k : jm_C) (n : Nat) (r0 : Nat) (v1 : Int32) (M : jm_M) (hr0 : jm_is r0 (3, 7)) (q1 : Int32) (q2 : jm_M) (h : X8_cardCode n r0 v1 M = some (q1, q2)) : jm_Ci l k yX8_cardCode w_X8_cardCode { frames := 16, cells := 0, slots := 0, locals := 640 } [.ref (jm_ad k r0), .int v1] M q1 q2 := by
  refine jm_entry_i (cc := cX8_cardCode) (nL := 2) (ret := (some .int)) (by decide) rfl (Nat.le_of_ble_eq_true rfl) ?_
  intro X hX C hQ hr
  subst hX
  unfold X8_cardCode at h
  refine jt_aload_n C dX8_cardCode_0 rfl 0 rfl ?_
  refine jt_getR (Tf := TX8) (N := 8) C dX8_cardCode_1 hr0 rfl i_8 3 (by decide) rfl m_RX8_33 rfl ?_
  refine jt_aload_n C dX8_cardCode_4 rfl 0 rfl ?_
  refine jt_getR (Tf := TX8) (N := 8) C dX8_cardCode_5 hr0 rfl i_8 0 (by decide) rfl m_RX8_10 rfl ?_
  refine jt_callVi (As := []) (rest := [_]) C (jm_f7_0 hr0) rfl dX8_cardCode_8 (c_X4_size (jx_l X) k _ _ (jm_f7_0 hr0) _ rfl) (k_goodIn (g_RX8_61)) rfl h_X4_size ⟨rfl, rfl, Nat.le_of_ble_eq_true rfl, Nat.le_of_ble_eq_true rfl⟩ rfl rfl (Nat.le_of_ble_eq_true rfl) ?_
  refine jt_iconst (v := (1 : Int32)) C dX8_cardCode_11 (by decide) ?_
  refine jt_isub C dX8_cardCode_12 ?_
  refine jt_aload_n C dX8_cardCode_13 rfl 0 rfl ?_
  refine jt_getR (Tf := TX8) (N := 8) C dX8_cardCode_14 hr0 rfl i_8 0 (by decide) rfl m_RX8_10 rfl ?_
  refine jt_iload_n C dX8_cardCode_17 rfl 1 rfl ?_
  obtain ⟨x1, ex1, h⟩ := jm_bind h
  refine jt_callVi (As := [_]) (rest := [_, _]) C (jm_f7_0 hr0) rfl dX8_cardCode_18 (c_X4_codeWithout (jx_l X) k n _ _ _ (jm_f7_0 hr0) _ ex1) (k_goodIn (g_RX8_222)) rfl h_X4_codeWithout ⟨rfl, rfl, Nat.le_of_ble_eq_true rfl, Nat.le_of_ble_eq_true rfl⟩ rfl rfl (Nat.le_of_ble_eq_true rfl) ?_
  obtain ⟨⟨x2a, x2b⟩, ex2, h⟩ := jm_bind h
  try dsimp only at h
  refine jt_callVi (As := [_, _]) (rest := []) C (jm_f7_3 hr0) rfl dX8_cardCode_21 (c_X1_of (jx_l X) k n _ _ _ _ (jm_f7_3 hr0) _ _ ex2) (k_goodIn (g_RX8_99)) rfl h_X1_of ⟨rfl, rfl, Nat.le_of_ble_eq_true rfl, Nat.le_of_ble_eq_true rfl⟩ rfl rfl (Nat.le_of_ble_eq_true rfl) ?_
  cases h
  exact jt_iret C dX8_cardCode_24 hQ hr
theorem h_X8_pseudoSimilarTo : yX8_pseudoSimilarTo.cls = RX8 ∧ yX8_pseudoSimilarTo.cls ≠ "java/lang/invoke/MethodHandle" ∧ yX8_pseudoSimilarTo.cls ≠ "java/lang/invoke/VarHandle" ∧ (parseMethodDescriptor yX8_pseudoSimilarTo.desc).map (fun d => d.parameters.length) = some 1 := by decide +kernel
set_option maxHeartbeats 4000000 in
set_option maxRecDepth 100000 in
theorem t_X8_pseudoSimilarTo_L11 {X : jm_X} {k : jm_C} (C : jm_Cx X k cX8_pseudoSimilarTo 5 RX8 w_X8_pseudoSimilarTo) (n : Nat) (r0 : Nat) (v1 : Int32) (v2 : Int32) (hr0 : jm_is r0 (3, 7)) : ∀ (m : Nat) (s : Int32 × Int32 × jm_M) (r : Int32 × jm_M), jm_loop (X8_pseudoSimilarTo_B11 n r0 v1 v2) m s = some r → (∀ (b0 : Int32) (b1 : jm_M), r = (b0, b1) → jm_T X { frames := 17, cells := 0, slots := 0, locals := 680 } k 5 b1 70 [(3, .int b0)] []) → (∀ (b0 : Int32) (b1 : Int32) (b2 : jm_M), s = (b0, b1, b2) → jm_T X { frames := 17, cells := 0, slots := 0, locals := 680 } k 5 b2 11 [(0, .ref (jm_ad k r0)), (1, .int v1), (2, .int v2), (3, .int b0), (4, .int b1)] []) := by
  refine jm_loop_ind (P := fun (s : Int32 × Int32 × jm_M) => (∀ (b0 : Int32) (b1 : Int32) (b2 : jm_M), s = (b0, b1, b2) → jm_T X { frames := 17, cells := 0, slots := 0, locals := 680 } k 5 b2 11 [(0, .ref (jm_ad k r0)), (1, .int v1), (2, .int v2), (3, .int b0), (4, .int b1)] [])) (K := fun (r : Int32 × jm_M) => ∀ (b0 : Int32) (b1 : jm_M), r = (b0, b1) → jm_T X { frames := 17, cells := 0, slots := 0, locals := 680 } k 5 b1 70 [(3, .int b0)] []) ?_
  intro s q h h1 h2
  intro b0 b1 b2 hs
  subst hs
  unfold X8_pseudoSimilarTo_B11 at h
  try dsimp only at h
  refine jt_iload C dX8_pseudoSimilarTo_11 4 rfl ?_
  refine jt_aload_n C dX8_pseudoSimilarTo_13 rfl 0 rfl ?_
  refine jt_getR (Tf := TX8) (N := 8) C dX8_pseudoSimilarTo_14 hr0 rfl i_8 0 (by decide) rfl m_RX8_10 rfl ?_
  refine jt_callVi (As := []) (rest := [_]) C (jm_f7_0 hr0) rfl dX8_pseudoSimilarTo_17 (c_X4_size (jx_l X) k _ _ (jm_f7_0 hr0) _ rfl) (k_goodIn (g_RX8_61)) rfl h_X4_size ⟨rfl, rfl, Nat.le_of_ble_eq_true rfl, Nat.le_of_ble_eq_true rfl⟩ rfl rfl (Nat.le_of_ble_eq_true rfl) ?_
  refine jt_icmp_ge (tgt := 70) C dX8_pseudoSimilarTo_20 (by decide) (fun c20 => ?_) (fun c20 => ?_)
  · replace h := jm_ift c20 h
    cases h
    exact jt_sub [3] rfl (h2 _ rfl _ _ rfl)
  · replace h := jm_iff c20 h
    refine jt_iload C dX8_pseudoSimilarTo_23 4 rfl ?_
    refine jt_iload_n C dX8_pseudoSimilarTo_25 rfl 1 rfl ?_
    refine jt_icmp_eq (tgt := 64) C dX8_pseudoSimilarTo_26 (by decide) (fun c26 => ?_) (fun c26 => ?_)
    · replace h := jm_ift c26 h
      refine jt_iinc (v := (1 : Int32)) (lv' := [(4, _), (0, _), (1, _), (2, _), (3, _)]) C dX8_pseudoSimilarTo_64 4 rfl (by decide) (by decide) rfl ?_
      refine jt_goto (tgt := 11) C dX8_pseudoSimilarTo_67 (by decide) ?_
      cases h
      exact jt_sub [1, 2, 3, 4, 0] rfl (h1 _ rfl _ _ _ rfl)
    · replace h := jm_iff c26 h
      refine jt_aload_n C dX8_pseudoSimilarTo_29 rfl 0 rfl ?_
      refine jt_iload C dX8_pseudoSimilarTo_30 4 rfl ?_
      obtain ⟨⟨x2a, x2b⟩, ex2, h⟩ := jm_bind h
      try dsimp only at h
      refine jt_callVi (As := [_]) (rest := []) C hr0 rfl dX8_pseudoSimilarTo_32 (c_X8_cardCode (jx_l X) k n _ _ _ hr0 _ _ ex2) (k_goodIn (g_RX8_125)) rfl h_X8_cardCode ⟨rfl, rfl, Nat.le_of_ble_eq_true rfl, Nat.le_of_ble_eq_true rfl⟩ rfl rfl (Nat.le_of_ble_eq_true rfl) ?_
      refine jt_iload_n C dX8_pseudoSimilarTo_35 rfl 2 rfl ?_
      refine jt_icmp_ne (tgt := 64) C dX8_pseudoSimilarTo_36 (by decide) (fun c36 => ?_) (fun c36 => ?_)
      · replace h := jm_iff c36 h
        refine jt_iinc (v := (1 : Int32)) (lv' := [(4, _), (0, _), (1, _), (2, _), (3, _)]) C dX8_pseudoSimilarTo_64 4 rfl (by decide) (by decide) rfl ?_
        refine jt_goto (tgt := 11) C dX8_pseudoSimilarTo_67 (by decide) ?_
        cases h
        exact jt_sub [1, 2, 3, 4, 0] rfl (h1 _ rfl _ _ _ rfl)
      · replace h := jm_ift c36 h
        refine jt_aload_n C dX8_pseudoSimilarTo_39 rfl 0 rfl ?_
        refine jt_getR (Tf := TX8) (N := 8) C dX8_pseudoSimilarTo_40 hr0 rfl i_8 4 (by decide) rfl m_RX8_40 rfl ?_
        refine jt_aload_n C dX8_pseudoSimilarTo_43 rfl 0 rfl ?_
        refine jt_getR (Tf := TX8) (N := 8) C dX8_pseudoSimilarTo_44 hr0 rfl i_8 0 (by decide) rfl m_RX8_10 rfl ?_
        refine jt_iconst (v := (0 : Int32)) C dX8_pseudoSimilarTo_47 (by decide) ?_
        refine jt_iload C dX8_pseudoSimilarTo_48 4 rfl ?_
        refine jt_iload_n C dX8_pseudoSimilarTo_50 rfl 1 rfl ?_
        obtain ⟨⟨x3a, x3b⟩, ex3, h⟩ := jm_bind h
        try dsimp only at h
        refine jt_callVi (As := [_, _, _, _]) (rest := []) C (jm_f7_4 hr0) rfl dX8_pseudoSimilarTo_51 (c_X7_find (jx_l X) k n _ _ _ _ _ _ (jm_f7_4 hr0) (jm_f7_0 hr0) _ _ ex3) (k_goodIn (g_RX8_135)) rfl h_X7_find ⟨rfl, rfl, Nat.le_of_ble_eq_true rfl, Nat.le_of_ble_eq_true rfl⟩ rfl rfl (Nat.le_of_ble_eq_true rfl) ?_
        refine jt_if_ne (tgt := 64) C dX8_pseudoSimilarTo_54 (by decide) (fun c54 => ?_) (fun c54 => ?_)
        · replace h := jm_iff c54 h
          refine jt_iinc (v := (1 : Int32)) (lv' := [(4, _), (0, _), (1, _), (2, _), (3, _)]) C dX8_pseudoSimilarTo_64 4 rfl (by decide) (by decide) rfl ?_
          refine jt_goto (tgt := 11) C dX8_pseudoSimilarTo_67 (by decide) ?_
          cases h
          exact jt_sub [1, 2, 3, 4, 0] rfl (h1 _ rfl _ _ _ rfl)
        · replace h := jm_ift c54 h
          refine jt_iload_n C dX8_pseudoSimilarTo_57 rfl 3 rfl ?_
          refine jt_iconst (v := (1 : Int32)) C dX8_pseudoSimilarTo_58 (by decide) ?_
          refine jt_iload C dX8_pseudoSimilarTo_59 4 rfl ?_
          refine jt_ishl C dX8_pseudoSimilarTo_61 ?_
          refine jt_ior C dX8_pseudoSimilarTo_62 ?_
          refine jt_istore_n (lv' := [(3, _), (0, _), (1, _), (2, _), (4, _)]) C dX8_pseudoSimilarTo_63 rfl (by decide) rfl ?_
          refine jt_iinc (v := (1 : Int32)) (lv' := [(4, _), (3, _), (0, _), (1, _), (2, _)]) C dX8_pseudoSimilarTo_64 4 rfl (by decide) (by decide) rfl ?_
          refine jt_goto (tgt := 11) C dX8_pseudoSimilarTo_67 (by decide) ?_
          cases h
          exact jt_sub [2, 3, 4, 1, 0] rfl (h1 _ rfl _ _ _ rfl)
set_option maxHeartbeats 4000000 in
set_option maxRecDepth 100000 in
theorem c_X8_pseudoSimilarTo (l : Launch) (k : jm_C) (n : Nat) (r0 : Nat) (v1 : Int32) (M : jm_M) (hr0 : jm_is r0 (3, 7)) (q1 : Int32) (q2 : jm_M) (h : X8_pseudoSimilarTo n r0 v1 M = some (q1, q2)) : jm_Ci l k yX8_pseudoSimilarTo w_X8_pseudoSimilarTo { frames := 17, cells := 0, slots := 0, locals := 680 } [.ref (jm_ad k r0), .int v1] M q1 q2 := by
  refine jm_entry_i (cc := cX8_pseudoSimilarTo) (nL := 5) (ret := (some .int)) (by decide) rfl (Nat.le_of_ble_eq_true rfl) ?_
  intro X hX C hQ hr
  subst hX
  unfold X8_pseudoSimilarTo at h
  refine jt_aload_n C dX8_pseudoSimilarTo_0 rfl 0 rfl ?_
  refine jt_iload_n C dX8_pseudoSimilarTo_1 rfl 1 rfl ?_
  obtain ⟨⟨x1a, x1b⟩, ex1, h⟩ := jm_bind h
  try dsimp only at h
  refine jt_callVi (As := [_]) (rest := []) C hr0 rfl dX8_pseudoSimilarTo_2 (c_X8_cardCode (jx_l X) k n _ _ _ hr0 _ _ ex1) (k_goodIn (g_RX8_125)) rfl h_X8_cardCode ⟨rfl, rfl, Nat.le_of_ble_eq_true rfl, Nat.le_of_ble_eq_true rfl⟩ rfl rfl (Nat.le_of_ble_eq_true rfl) ?_
  refine jt_istore_n (lv' := [(2, _), (0, _), (1, _)]) C dX8_pseudoSimilarTo_5 rfl (by decide) rfl ?_
  refine jt_iconst (v := (0 : Int32)) C dX8_pseudoSimilarTo_6 (by decide) ?_
  refine jt_istore_n (lv' := [(3, _), (2, _), (0, _), (1, _)]) C dX8_pseudoSimilarTo_7 rfl (by decide) rfl ?_
  refine jt_iconst (v := (0 : Int32)) C dX8_pseudoSimilarTo_8 (by decide) ?_
  refine jt_istore (lv' := [(4, _), (3, _), (2, _), (0, _), (1, _)]) C dX8_pseudoSimilarTo_9 (by decide) rfl ?_
  obtain ⟨q4, eq4, h⟩ := jm_bind h
  refine jt_sub [3, 4, 2, 1, 0] rfl ?_
  refine t_X8_pseudoSimilarTo_L11 C n _ _ _ hr0 n _ _ eq4 ?_ _ _ _ rfl
  intro y5_0 y5_1 hq5
  subst hq5
  try dsimp only at h
  refine jt_iload_n C dX8_pseudoSimilarTo_70 rfl 0 rfl ?_
  cases h
  exact jt_iret C dX8_pseudoSimilarTo_71 hQ hr
theorem h_X8_pseudoSimilarPairs : yX8_pseudoSimilarPairs.cls = RX8 ∧ yX8_pseudoSimilarPairs.cls ≠ "java/lang/invoke/MethodHandle" ∧ yX8_pseudoSimilarPairs.cls ≠ "java/lang/invoke/VarHandle" ∧ (parseMethodDescriptor yX8_pseudoSimilarPairs.desc).map (fun d => d.parameters.length) = some 0 := by decide +kernel
set_option maxHeartbeats 4000000 in
set_option maxRecDepth 100000 in
theorem t_X8_pseudoSimilarPairs_L17 {X : jm_X} {k : jm_C} (C : jm_Cx X k cX8_pseudoSimilarPairs 3 RX8 w_X8_pseudoSimilarPairs) (n : Nat) (r0 : Nat) (hr0 : jm_is r0 (3, 7)) : ∀ (m : Nat) (s : Int32 × Int32 × jm_M) (r : Int32 × jm_M), jm_loop (X8_pseudoSimilarPairs_B17 n r0) m s = some r → (∀ (b0 : Int32) (b1 : jm_M), r = (b0, b1) → jm_T X { frames := 18, cells := 0, slots := 0, locals := 720 } k 3 b1 45 [(1, .int b0)] []) → (∀ (b0 : Int32) (b1 : Int32) (b2 : jm_M), s = (b0, b1, b2) → jm_T X { frames := 18, cells := 0, slots := 0, locals := 720 } k 3 b2 17 [(0, .ref (jm_ad k r0)), (1, .int b0), (2, .int b1)] []) := by
  refine jm_loop_ind (P := fun (s : Int32 × Int32 × jm_M) => (∀ (b0 : Int32) (b1 : Int32) (b2 : jm_M), s = (b0, b1, b2) → jm_T X { frames := 18, cells := 0, slots := 0, locals := 720 } k 3 b2 17 [(0, .ref (jm_ad k r0)), (1, .int b0), (2, .int b1)] [])) (K := fun (r : Int32 × jm_M) => ∀ (b0 : Int32) (b1 : jm_M), r = (b0, b1) → jm_T X { frames := 18, cells := 0, slots := 0, locals := 720 } k 3 b1 45 [(1, .int b0)] []) ?_
  intro s q h h1 h2
  intro b0 b1 b2 hs
  subst hs
  unfold X8_pseudoSimilarPairs_B17 at h
  try dsimp only at h
  refine jt_iload_n C dX8_pseudoSimilarPairs_17 rfl 2 rfl ?_
  refine jt_aload_n C dX8_pseudoSimilarPairs_18 rfl 0 rfl ?_
  refine jt_getR (Tf := TX8) (N := 8) C dX8_pseudoSimilarPairs_19 hr0 rfl i_8 0 (by decide) rfl m_RX8_10 rfl ?_
  refine jt_callVi (As := []) (rest := [_]) C (jm_f7_0 hr0) rfl dX8_pseudoSimilarPairs_22 (c_X4_size (jx_l X) k _ _ (jm_f7_0 hr0) _ rfl) (k_goodIn (g_RX8_61)) rfl h_X4_size ⟨rfl, rfl, Nat.le_of_ble_eq_true rfl, Nat.le_of_ble_eq_true rfl⟩ rfl rfl (Nat.le_of_ble_eq_true rfl) ?_
  refine jt_icmp_ge (tgt := 45) C dX8_pseudoSimilarPairs_25 (by decide) (fun c25 => ?_) (fun c25 => ?_)
  · replace h := jm_ift c25 h
    cases h
    exact jt_sub [1] rfl (h2 _ rfl _ _ rfl)
  · replace h := jm_iff c25 h
    refine jt_iload_n C dX8_pseudoSimilarPairs_28 rfl 1 rfl ?_
    refine jt_aload_n C dX8_pseudoSimilarPairs_29 rfl 0 rfl ?_
    refine jt_iload_n C dX8_pseudoSimilarPairs_30 rfl 2 rfl ?_
    obtain ⟨⟨x1a, x1b⟩, ex1, h⟩ := jm_bind h
    try dsimp only at h
    refine jt_callVi (As := [_]) (rest := [_]) C hr0 rfl dX8_pseudoSimilarPairs_31 (c_X8_pseudoSimilarTo (jx_l X) k n _ _ _ hr0 _ _ ex1) (k_goodIn (g_RX8_132)) rfl h_X8_pseudoSimilarTo ⟨rfl, rfl, Nat.le_of_ble_eq_true rfl, Nat.le_of_ble_eq_true rfl⟩ rfl rfl (Nat.le_of_ble_eq_true rfl) ?_
    refine jt_callSi (As := [_]) (rest := [_]) C dX8_pseudoSimilarPairs_34 (c_J6_bitCount_0f7a4 (jx_l X) k _ _ _ rfl) (k_goodIn (g_RX8_175)) rfl h_J6_bitCount_0f7a4 ⟨rfl, rfl, Nat.le_of_ble_eq_true rfl, Nat.le_of_ble_eq_true rfl⟩ rfl rfl (Nat.le_of_ble_eq_true rfl) ?_
    refine jt_iadd C dX8_pseudoSimilarPairs_37 ?_
    refine jt_istore_n (lv' := [(1, _), (0, _), (2, _)]) C dX8_pseudoSimilarPairs_38 rfl (by decide) rfl ?_
    refine jt_iinc (v := (1 : Int32)) (lv' := [(2, _), (1, _), (0, _)]) C dX8_pseudoSimilarPairs_39 2 rfl (by decide) (by decide) rfl ?_
    refine jt_goto (tgt := 17) C dX8_pseudoSimilarPairs_42 (by decide) ?_
    cases h
    exact jt_sub [2, 1, 0] rfl (h1 _ rfl _ _ _ rfl)
set_option maxHeartbeats 4000000 in
set_option maxRecDepth 100000 in
theorem c_X8_pseudoSimilarPairs (l : Launch) (k : jm_C) (n : Nat) (r0 : Nat) (M : jm_M) (hr0 : jm_is r0 (3, 7)) (q1 : Int32) (q2 : jm_M) (h : X8_pseudoSimilarPairs n r0 M = some (q1, q2)) : jm_Ci l k yX8_pseudoSimilarPairs w_X8_pseudoSimilarPairs { frames := 18, cells := 0, slots := 0, locals := 720 } [.ref (jm_ad k r0)] M q1 q2 := by
  refine jm_entry_i (cc := cX8_pseudoSimilarPairs) (nL := 3) (ret := (some .int)) (by decide) rfl (Nat.le_of_ble_eq_true rfl) ?_
  intro X hX C hQ hr
  subst hX
  unfold X8_pseudoSimilarPairs at h
  refine jt_aload_n C dX8_pseudoSimilarPairs_0 rfl 0 rfl ?_
  refine jt_getR (Tf := TX8) (N := 8) C dX8_pseudoSimilarPairs_1 hr0 rfl i_8 0 (by decide) rfl m_RX8_10 rfl ?_
  refine jt_callVi (As := []) (rest := []) C (jm_f7_0 hr0) rfl dX8_pseudoSimilarPairs_4 (c_X4_size (jx_l X) k _ _ (jm_f7_0 hr0) _ rfl) (k_goodIn (g_RX8_61)) rfl h_X4_size ⟨rfl, rfl, Nat.le_of_ble_eq_true rfl, Nat.le_of_ble_eq_true rfl⟩ rfl rfl (Nat.le_of_ble_eq_true rfl) ?_
  refine jt_iconst (v := (1 : Int32)) C dX8_pseudoSimilarPairs_7 (by decide) ?_
  refine jt_icmp_ne (tgt := 13) C dX8_pseudoSimilarPairs_8 (by decide) (fun c8 => ?_) (fun c8 => ?_)
  · replace h := jm_iff c8 h
    refine jt_iconst (v := (0 : Int32)) C dX8_pseudoSimilarPairs_13 (by decide) ?_
    refine jt_istore_n (lv' := [(1, _), (0, _)]) C dX8_pseudoSimilarPairs_14 rfl (by decide) rfl ?_
    refine jt_iconst (v := (0 : Int32)) C dX8_pseudoSimilarPairs_15 (by decide) ?_
    refine jt_istore_n (lv' := [(2, _), (1, _), (0, _)]) C dX8_pseudoSimilarPairs_16 rfl (by decide) rfl ?_
    obtain ⟨q2, eq2, h⟩ := jm_bind h
    refine jt_sub [2, 1, 0] rfl ?_
    refine t_X8_pseudoSimilarPairs_L17 C n _ hr0 n _ _ eq2 ?_ _ _ _ rfl
    intro y3_0 y3_1 hq3
    subst hq3
    try dsimp only at h
    refine jt_iload_n C dX8_pseudoSimilarPairs_45 rfl 0 rfl ?_
    refine jt_iconst (v := (2 : Int32)) C dX8_pseudoSimilarPairs_46 (by decide) ?_
    refine jt_idiv C dX8_pseudoSimilarPairs_47 (if_neg (by decide)) ?_
    cases h
    exact jt_iret C dX8_pseudoSimilarPairs_48 hQ hr
  · replace h := jm_ift c8 h
    refine jt_iconst (v := (0 : Int32)) C dX8_pseudoSimilarPairs_11 (by decide) ?_
    cases h
    exact jt_iret C dX8_pseudoSimilarPairs_12 hQ hr
theorem h_X8_told : yX8_told.cls = RX8 ∧ yX8_told.cls ≠ "java/lang/invoke/MethodHandle" ∧ yX8_told.cls ≠ "java/lang/invoke/VarHandle" ∧ (parseMethodDescriptor yX8_told.desc).map (fun d => d.parameters.length) = some 1 := by decide +kernel
set_option maxHeartbeats 4000000 in
set_option maxRecDepth 100000 in
theorem c_X8_told (l : Launch) (k : jm_C) (n : Nat) (r0 : Nat) (v1 : Int32) (M : jm_M) (hr0 : jm_is r0 (3, 7)) (q1 : Int32) (q2 : jm_M) (h : X8_told n r0 v1 M = some (q1, q2)) : jm_Ci l k yX8_told w_X8_told { frames := 19, cells := 0, slots := 0, locals := 760 } [.ref (jm_ad k r0), .int v1] M q1 q2 := by
  refine jm_entry_i (cc := cX8_told) (nL := 2) (ret := (some .int)) (by decide) rfl (Nat.le_of_ble_eq_true rfl) ?_
  intro X hX C hQ hr
  subst hX
  unfold X8_told at h
  refine jt_iload_n C dX8_told_0 rfl 1 rfl ?_
  by_cases c1_0 : v1 = (0 : Int32)
  · replace h := jm_ift c1_0 h
    refine jt_tblIn (v := 0) (tgt := 56) C dX8_told_1 c1_0 (by decide) (by decide) rfl (by decide) ?_
    refine jt_aload_n C dX8_told_56 rfl 0 rfl ?_
    refine jt_getR (Tf := TX8) (N := 8) C dX8_told_57 hr0 rfl i_8 0 (by decide) rfl m_RX8_10 rfl ?_
    refine jt_callVi (As := []) (rest := []) C (jm_f7_0 hr0) rfl dX8_told_60 (c_X4_size (jx_l X) k _ _ (jm_f7_0 hr0) _ rfl) (k_goodIn (g_RX8_61)) rfl h_X4_size ⟨rfl, rfl, Nat.le_of_ble_eq_true rfl, Nat.le_of_ble_eq_true rfl⟩ rfl rfl (Nat.le_of_ble_eq_true rfl) ?_
    cases h
    exact jt_iret C dX8_told_63 hQ hr
  replace h := jm_iff c1_0 h
  by_cases c1_1 : v1 = (1 : Int32)
  · replace h := jm_ift c1_1 h
    refine jt_tblIn (v := 1) (tgt := 64) C dX8_told_1 c1_1 (by decide) (by decide) rfl (by decide) ?_
    refine jt_aload_n C dX8_told_64 rfl 0 rfl ?_
    refine jt_getR (Tf := TX8) (N := 8) C dX8_told_65 hr0 rfl i_8 0 (by decide) rfl m_RX8_10 rfl ?_
    obtain ⟨x1, ex1, h⟩ := jm_bind h
    refine jt_callVi (As := []) (rest := []) C (jm_f7_0 hr0) rfl dX8_told_68 (c_X4_edges (jx_l X) k n _ _ (jm_f7_0 hr0) _ ex1) (k_goodIn (g_RX8_96)) rfl h_X4_edges ⟨rfl, rfl, Nat.le_of_ble_eq_true rfl, Nat.le_of_ble_eq_true rfl⟩ rfl rfl (Nat.le_of_ble_eq_true rfl) ?_
    cases h
    exact jt_iret C dX8_told_71 hQ hr
  replace h := jm_iff c1_1 h
  by_cases c1_2 : v1 = (2 : Int32)
  · replace h := jm_ift c1_2 h
    refine jt_tblIn (v := 2) (tgt := 72) C dX8_told_1 c1_2 (by decide) (by decide) rfl (by decide) ?_
    refine jt_aload_n C dX8_told_72 rfl 0 rfl ?_
    refine jt_getR (Tf := TX8) (N := 8) C dX8_told_73 hr0 rfl i_8 0 (by decide) rfl m_RX8_10 rfl ?_
    obtain ⟨x2, ex2, h⟩ := jm_bind h
    refine jt_callVi (As := []) (rest := []) C (jm_f7_0 hr0) rfl dX8_told_76 (c_X4_code (jx_l X) k n _ _ (jm_f7_0 hr0) _ ex2) (k_goodIn (g_RX8_89)) rfl h_X4_code ⟨rfl, rfl, Nat.le_of_ble_eq_true rfl, Nat.le_of_ble_eq_true rfl⟩ rfl rfl (Nat.le_of_ble_eq_true rfl) ?_
    cases h
    exact jt_iret C dX8_told_79 hQ hr
  replace h := jm_iff c1_2 h
  by_cases c1_3 : v1 = (3 : Int32)
  · replace h := jm_ift c1_3 h
    refine jt_tblIn (v := 3) (tgt := 80) C dX8_told_1 c1_3 (by decide) (by decide) rfl (by decide) ?_
    refine jt_aload_n C dX8_told_80 rfl 0 rfl ?_
    refine jt_getR (Tf := TX8) (N := 8) C dX8_told_81 hr0 rfl i_8 3 (by decide) rfl m_RX8_33 rfl ?_
    refine jt_aload_n C dX8_told_84 rfl 0 rfl ?_
    refine jt_getR (Tf := TX8) (N := 8) C dX8_told_85 hr0 rfl i_8 0 (by decide) rfl m_RX8_10 rfl ?_
    refine jt_callVi (As := []) (rest := [_]) C (jm_f7_0 hr0) rfl dX8_told_88 (c_X4_size (jx_l X) k _ _ (jm_f7_0 hr0) _ rfl) (k_goodIn (g_RX8_61)) rfl h_X4_size ⟨rfl, rfl, Nat.le_of_ble_eq_true rfl, Nat.le_of_ble_eq_true rfl⟩ rfl rfl (Nat.le_of_ble_eq_true rfl) ?_
    refine jt_aload_n C dX8_told_91 rfl 0 rfl ?_
    refine jt_getR (Tf := TX8) (N := 8) C dX8_told_92 hr0 rfl i_8 0 (by decide) rfl m_RX8_10 rfl ?_
    obtain ⟨x3, ex3, h⟩ := jm_bind h
    refine jt_callVi (As := []) (rest := [_, _]) C (jm_f7_0 hr0) rfl dX8_told_95 (c_X4_code (jx_l X) k n _ _ (jm_f7_0 hr0) _ ex3) (k_goodIn (g_RX8_89)) rfl h_X4_code ⟨rfl, rfl, Nat.le_of_ble_eq_true rfl, Nat.le_of_ble_eq_true rfl⟩ rfl rfl (Nat.le_of_ble_eq_true rfl) ?_
    obtain ⟨⟨x4a, x4b⟩, ex4, h⟩ := jm_bind h
    try dsimp only at h
    refine jt_callVi (As := [_, _]) (rest := []) C (jm_f7_3 hr0) rfl dX8_told_98 (c_X1_of (jx_l X) k n _ _ _ _ (jm_f7_3 hr0) _ _ ex4) (k_goodIn (g_RX8_99)) rfl h_X1_of ⟨rfl, rfl, Nat.le_of_ble_eq_true rfl, Nat.le_of_ble_eq_true rfl⟩ rfl rfl (Nat.le_of_ble_eq_true rfl) ?_
    cases h
    exact jt_iret C dX8_told_101 hQ hr
  replace h := jm_iff c1_3 h
  by_cases c1_4 : v1 = (4 : Int32)
  · replace h := jm_ift c1_4 h
    refine jt_tblIn (v := 4) (tgt := 102) C dX8_told_1 c1_4 (by decide) (by decide) rfl (by decide) ?_
    refine jt_aload_n C dX8_told_102 rfl 0 rfl ?_
    refine jt_getR (Tf := TX8) (N := 8) C dX8_told_103 hr0 rfl i_8 4 (by decide) rfl m_RX8_40 rfl ?_
    refine jt_aload_n C dX8_told_106 rfl 0 rfl ?_
    refine jt_getR (Tf := TX8) (N := 8) C dX8_told_107 hr0 rfl i_8 0 (by decide) rfl m_RX8_10 rfl ?_
    obtain ⟨⟨x5a, x5b⟩, ex5, h⟩ := jm_bind h
    try dsimp only at h
    refine jt_callVi (As := [_]) (rest := []) C (jm_f7_4 hr0) rfl dX8_told_110 (c_X7_automorphisms (jx_l X) k n _ _ _ (jm_f7_4 hr0) (jm_f7_0 hr0) _ _ ex5) (k_goodIn (g_RX8_102)) rfl h_X7_automorphisms ⟨rfl, rfl, Nat.le_of_ble_eq_true rfl, Nat.le_of_ble_eq_true rfl⟩ rfl rfl (Nat.le_of_ble_eq_true rfl) ?_
    cases h
    exact jt_iret C dX8_told_113 hQ hr
  replace h := jm_iff c1_4 h
  by_cases c1_5 : v1 = (5 : Int32)
  · replace h := jm_ift c1_5 h
    refine jt_tblIn (v := 5) (tgt := 114) C dX8_told_1 c1_5 (by decide) (by decide) rfl (by decide) ?_
    refine jt_aload_n C dX8_told_114 rfl 0 rfl ?_
    refine jt_getR (Tf := TX8) (N := 8) C dX8_told_115 hr0 rfl i_8 4 (by decide) rfl m_RX8_40 rfl ?_
    refine jt_aload_n C dX8_told_118 rfl 0 rfl ?_
    refine jt_getR (Tf := TX8) (N := 8) C dX8_told_119 hr0 rfl i_8 0 (by decide) rfl m_RX8_10 rfl ?_
    obtain ⟨⟨x6a, x6b⟩, ex6, h⟩ := jm_bind h
    try dsimp only at h
    refine jt_callVi (As := [_]) (rest := []) C (jm_f7_4 hr0) rfl dX8_told_122 (c_X7_classes (jx_l X) k n _ _ _ (jm_f7_4 hr0) (jm_f7_0 hr0) _ _ ex6) (k_goodIn (g_RX8_106)) rfl h_X7_classes ⟨rfl, rfl, Nat.le_of_ble_eq_true rfl, Nat.le_of_ble_eq_true rfl⟩ rfl rfl (Nat.le_of_ble_eq_true rfl) ?_
    cases h
    exact jt_iret C dX8_told_125 hQ hr
  replace h := jm_iff c1_5 h
  by_cases c1_6 : v1 = (6 : Int32)
  · replace h := jm_ift c1_6 h
    refine jt_tblIn (v := 6) (tgt := 126) C dX8_told_1 c1_6 (by decide) (by decide) rfl (by decide) ?_
    refine jt_aload_n C dX8_told_126 rfl 0 rfl ?_
    obtain ⟨⟨x7a, x7b⟩, ex7, h⟩ := jm_bind h
    try dsimp only at h
    refine jt_callVi (As := []) (rest := []) C hr0 rfl dX8_told_127 (c_X8_differentCards (jx_l X) k n _ _ hr0 _ _ ex7) (k_goodIn (g_RX8_109)) rfl h_X8_differentCards ⟨rfl, rfl, Nat.le_of_ble_eq_true rfl, Nat.le_of_ble_eq_true rfl⟩ rfl rfl (Nat.le_of_ble_eq_true rfl) ?_
    cases h
    exact jt_iret C dX8_told_130 hQ hr
  replace h := jm_iff c1_6 h
  by_cases c1_7 : v1 = (7 : Int32)
  · replace h := jm_ift c1_7 h
    refine jt_tblIn (v := 7) (tgt := 131) C dX8_told_1 c1_7 (by decide) (by decide) rfl (by decide) ?_
    refine jt_aload_n C dX8_told_131 rfl 0 rfl ?_
    refine jt_getR (Tf := TX8) (N := 8) C dX8_told_132 hr0 rfl i_8 0 (by decide) rfl m_RX8_10 rfl ?_
    obtain ⟨x8, ex8, h⟩ := jm_bind h
    refine jt_callVi (As := []) (rest := []) C (jm_f7_0 hr0) rfl dX8_told_135 (c_X4_components (jx_l X) k n _ _ (jm_f7_0 hr0) _ ex8) (k_goodIn (g_RX8_112)) rfl h_X4_components ⟨rfl, rfl, Nat.le_of_ble_eq_true rfl, Nat.le_of_ble_eq_true rfl⟩ rfl rfl (Nat.le_of_ble_eq_true rfl) ?_
    cases h
    exact jt_iret C dX8_told_138 hQ hr
  replace h := jm_iff c1_7 h
  by_cases c1_8 : v1 = (8 : Int32)
  · replace h := jm_ift c1_8 h
    refine jt_tblIn (v := 8) (tgt := 139) C dX8_told_1 c1_8 (by decide) (by decide) rfl (by decide) ?_
    refine jt_aload_n C dX8_told_139 rfl 0 rfl ?_
    obtain ⟨⟨x9a, x9b⟩, ex9, h⟩ := jm_bind h
    try dsimp only at h
    refine jt_callVi (As := []) (rest := []) C hr0 rfl dX8_told_140 (c_X8_pseudoSimilarPairs (jx_l X) k n _ _ hr0 _ _ ex9) (k_goodIn (g_RX8_115)) rfl h_X8_pseudoSimilarPairs ⟨rfl, rfl, Nat.le_of_ble_eq_true rfl, Nat.le_of_ble_eq_true rfl⟩ rfl rfl (Nat.le_of_ble_eq_true rfl) ?_
    cases h
    exact jt_iret C dX8_told_143 hQ hr
  replace h := jm_iff c1_8 h
  by_cases c1_9 : v1 = (9 : Int32)
  · replace h := jm_ift c1_9 h
    refine jt_tblIn (v := 9) (tgt := 144) C dX8_told_1 c1_9 (by decide) (by decide) rfl (by decide) ?_
    refine jt_aload_n C dX8_told_144 rfl 0 rfl ?_
    refine jt_getR (Tf := TX8) (N := 8) C dX8_told_145 hr0 rfl i_8 2 (by decide) rfl m_RX8_26 rfl ?_
    refine jt_callVi (As := []) (rest := []) C (jm_f7_2 hr0) rfl dX8_told_148 (c_X5_size (jx_l X) k _ _ (jm_f7_2 hr0) _ rfl) (k_goodIn (g_RX8_92)) rfl h_X5_size ⟨rfl, rfl, Nat.le_of_ble_eq_true rfl, Nat.le_of_ble_eq_true rfl⟩ rfl rfl (Nat.le_of_ble_eq_true rfl) ?_
    cases h
    exact jt_iret C dX8_told_151 hQ hr
  replace h := jm_iff c1_9 h
  refine jt_tblOut (tgt := 152) C dX8_told_1 (by have a0 := jm_nei 0 c1_0; simp at a0; have a1 := jm_nei 1 c1_1; simp at a1; have a2 := jm_nei 2 c1_2; simp at a2; have a3 := jm_nei 3 c1_3; simp at a3; have a4 := jm_nei 4 c1_4; simp at a4; have a5 := jm_nei 5 c1_5; simp at a5; have a6 := jm_nei 6 c1_6; simp at a6; have a7 := jm_nei 7 c1_7; simp at a7; have a8 := jm_nei 8 c1_8; simp at a8; have a9 := jm_nei 9 c1_9; simp at a9; omega) (by decide) ?_
  refine jt_iconst (v := (-1 : Int32)) C dX8_told_152 (by decide) ?_
  cases h
  exact jt_iret C dX8_told_153 hQ hr
theorem h_X4_degree : yX4_degree.cls = RX4 ∧ yX4_degree.cls ≠ "java/lang/invoke/MethodHandle" ∧ yX4_degree.cls ≠ "java/lang/invoke/VarHandle" ∧ (parseMethodDescriptor yX4_degree.desc).map (fun d => d.parameters.length) = some 1 := by decide +kernel
set_option maxHeartbeats 4000000 in
set_option maxRecDepth 100000 in
theorem c_X4_degree (l : Launch) (k : jm_C) (r0 : Nat) (v1 : Int32) (M : jm_M) (hr0 : jm_is r0 (3, 4)) (q : Int32) (h : X4_degree r0 v1 M = some q) : jm_Ci l k yX4_degree w_X4_degree { frames := 1, cells := 0, slots := 0, locals := 40 } [.ref (jm_ad k r0), .int v1] M q M := by
  refine jm_entry_i (cc := cX4_degree) (nL := 2) (ret := (some .int)) (by decide) rfl (Nat.le_of_ble_eq_true rfl) ?_
  intro X hX C hQ hr
  subst hX
  unfold X4_degree at h
  refine jt_aload_n C dX4_degree_0 rfl 0 rfl ?_
  refine jt_iload_n C dX4_degree_1 rfl 1 rfl ?_
  obtain ⟨x1, ex1, h⟩ := jm_bind h
  refine jt_callVi (As := [_]) (rest := []) C hr0 rfl dX4_degree_2 (c_X4_row (jx_l X) k _ _ _ hr0 _ ex1) (k_goodIn (g_RX4_19)) rfl h_X4_row ⟨rfl, rfl, Nat.le_of_ble_eq_true rfl, Nat.le_of_ble_eq_true rfl⟩ rfl rfl (Nat.le_of_ble_eq_true rfl) ?_
  refine jt_callSi (As := [_]) (rest := []) C dX4_degree_5 (c_J6_bitCount_0f7a4 (jx_l X) k _ _ _ rfl) (k_goodIn (g_RX4_27)) rfl h_J6_bitCount_0f7a4 ⟨rfl, rfl, Nat.le_of_ble_eq_true rfl, Nat.le_of_ble_eq_true rfl⟩ rfl rfl (Nat.le_of_ble_eq_true rfl) ?_
  cases h
  exact jt_iret C dX4_degree_8 hQ hr
theorem h_X8_vertex : yX8_vertex.cls = RX8 ∧ yX8_vertex.cls ≠ "java/lang/invoke/MethodHandle" ∧ yX8_vertex.cls ≠ "java/lang/invoke/VarHandle" ∧ (parseMethodDescriptor yX8_vertex.desc).map (fun d => d.parameters.length) = some 2 := by decide +kernel
set_option maxHeartbeats 4000000 in
set_option maxRecDepth 100000 in
theorem c_X8_vertex (l : Launch) (k : jm_C) (n : Nat) (r0 : Nat) (v1 : Int32) (v2 : Int32) (M : jm_M) (hr0 : jm_is r0 (3, 7)) (q1 : Int32) (q2 : jm_M) (h : X8_vertex n r0 v1 v2 M = some (q1, q2)) : jm_Ci l k yX8_vertex w_X8_vertex { frames := 18, cells := 0, slots := 0, locals := 720 } [.ref (jm_ad k r0), .int v1, .int v2] M q1 q2 := by
  refine jm_entry_i (cc := cX8_vertex) (nL := 3) (ret := (some .int)) (by decide) rfl (Nat.le_of_ble_eq_true rfl) ?_
  intro X hX C hQ hr
  subst hX
  unfold X8_vertex at h
  refine jt_aload_n C dX8_vertex_0 rfl 0 rfl ?_
  refine jt_getR (Tf := TX8) (N := 8) C dX8_vertex_1 hr0 rfl i_8 0 (by decide) rfl m_RX8_10 rfl ?_
  refine jt_iload_n C dX8_vertex_4 rfl 1 rfl ?_
  refine jt_callVi (As := [_]) (rest := []) C (jm_f7_0 hr0) rfl dX8_vertex_5 (c_X4_has (jx_l X) k _ _ _ (jm_f7_0 hr0) _ rfl) (k_goodIn (g_RX8_73)) rfl h_X4_has ⟨rfl, rfl, Nat.le_of_ble_eq_true rfl, Nat.le_of_ble_eq_true rfl⟩ rfl rfl (Nat.le_of_ble_eq_true rfl) ?_
  refine jt_if_eq (tgt := 20) C dX8_vertex_8 (by decide) (fun c8 => ?_) (fun c8 => ?_)
  · replace h := jm_ift c8 h
    refine jt_iconst (v := (-1 : Int32)) C dX8_vertex_20 (by decide) ?_
    cases h
    exact jt_iret C dX8_vertex_21 hQ hr
  · replace h := jm_iff c8 h
    refine jt_iload_n C dX8_vertex_11 rfl 2 rfl ?_
    refine jt_if_lt (tgt := 20) C dX8_vertex_12 (by decide) (fun c12 => ?_) (fun c12 => ?_)
    · replace h := jm_ift c12 h
      refine jt_iconst (v := (-1 : Int32)) C dX8_vertex_20 (by decide) ?_
      cases h
      exact jt_iret C dX8_vertex_21 hQ hr
    · replace h := jm_iff c12 h
      refine jt_iload_n C dX8_vertex_15 rfl 2 rfl ?_
      refine jt_iconst (v := (5 : Int32)) C dX8_vertex_16 (by decide) ?_
      refine jt_icmp_le (tgt := 22) C dX8_vertex_17 (by decide) (fun c17 => ?_) (fun c17 => ?_)
      · replace h := jm_ift c17 h
        refine jt_iload_n C dX8_vertex_22 rfl 2 rfl ?_
        refine jt_iconst (v := (2 : Int32)) C dX8_vertex_23 (by decide) ?_
        refine jt_icmp_lt (tgt := 41) C dX8_vertex_24 (by decide) (fun c24 => ?_) (fun c24 => ?_)
        · replace h := jm_ift c24 h
          refine jt_iload_n C dX8_vertex_41 rfl 2 rfl ?_
          by_cases c42_0 : v2 = (0 : Int32)
          · replace h := jm_ift c42_0 h
            refine jt_tblIn (v := 0) (tgt := 76) C dX8_vertex_42 c42_0 (by decide) (by decide) rfl (by decide) ?_
            refine jt_aload_n C dX8_vertex_76 rfl 0 rfl ?_
            refine jt_getR (Tf := TX8) (N := 8) C dX8_vertex_77 hr0 rfl i_8 0 (by decide) rfl m_RX8_10 rfl ?_
            refine jt_iload_n C dX8_vertex_80 rfl 1 rfl ?_
            obtain ⟨x1, ex1, h⟩ := jm_bind h
            refine jt_callVi (As := [_]) (rest := []) C (jm_f7_0 hr0) rfl dX8_vertex_81 (c_X4_degree (jx_l X) k _ _ _ (jm_f7_0 hr0) _ ex1) (k_goodIn (g_RX8_118)) rfl h_X4_degree ⟨rfl, rfl, Nat.le_of_ble_eq_true rfl, Nat.le_of_ble_eq_true rfl⟩ rfl rfl (Nat.le_of_ble_eq_true rfl) ?_
            cases h
            exact jt_iret C dX8_vertex_84 hQ hr
          replace h := jm_iff c42_0 h
          by_cases c42_1 : v2 = (1 : Int32)
          · replace h := jm_ift c42_1 h
            refine jt_tblIn (v := 1) (tgt := 85) C dX8_vertex_42 c42_1 (by decide) (by decide) rfl (by decide) ?_
            refine jt_aload_n C dX8_vertex_85 rfl 0 rfl ?_
            refine jt_getR (Tf := TX8) (N := 8) C dX8_vertex_86 hr0 rfl i_8 0 (by decide) rfl m_RX8_10 rfl ?_
            refine jt_iload_n C dX8_vertex_89 rfl 1 rfl ?_
            obtain ⟨x2, ex2, h⟩ := jm_bind h
            refine jt_callVi (As := [_]) (rest := []) C (jm_f7_0 hr0) rfl dX8_vertex_90 (c_X4_row (jx_l X) k _ _ _ (jm_f7_0 hr0) _ ex2) (k_goodIn (g_RX8_122)) rfl h_X4_row ⟨rfl, rfl, Nat.le_of_ble_eq_true rfl, Nat.le_of_ble_eq_true rfl⟩ rfl rfl (Nat.le_of_ble_eq_true rfl) ?_
            cases h
            exact jt_iret C dX8_vertex_93 hQ hr
          replace h := jm_iff c42_1 h
          by_cases c42_2 : v2 = (2 : Int32)
          · replace h := jm_ift c42_2 h
            refine jt_tblIn (v := 2) (tgt := 94) C dX8_vertex_42 c42_2 (by decide) (by decide) rfl (by decide) ?_
            refine jt_aload_n C dX8_vertex_94 rfl 0 rfl ?_
            refine jt_iload_n C dX8_vertex_95 rfl 1 rfl ?_
            obtain ⟨⟨x3a, x3b⟩, ex3, h⟩ := jm_bind h
            try dsimp only at h
            refine jt_callVi (As := [_]) (rest := []) C hr0 rfl dX8_vertex_96 (c_X8_cardCode (jx_l X) k n _ _ _ hr0 _ _ ex3) (k_goodIn (g_RX8_125)) rfl h_X8_cardCode ⟨rfl, rfl, Nat.le_of_ble_eq_true rfl, Nat.le_of_ble_eq_true rfl⟩ rfl rfl (Nat.le_of_ble_eq_true rfl) ?_
            cases h
            exact jt_iret C dX8_vertex_99 hQ hr
          replace h := jm_iff c42_2 h
          by_cases c42_3 : v2 = (3 : Int32)
          · replace h := jm_ift c42_3 h
            refine jt_tblIn (v := 3) (tgt := 100) C dX8_vertex_42 c42_3 (by decide) (by decide) rfl (by decide) ?_
            refine jt_aload_n C dX8_vertex_100 rfl 0 rfl ?_
            refine jt_getR (Tf := TX8) (N := 8) C dX8_vertex_101 hr0 rfl i_8 0 (by decide) rfl m_RX8_10 rfl ?_
            obtain ⟨x4, ex4, h⟩ := jm_bind h
            refine jt_callVi (As := []) (rest := []) C (jm_f7_0 hr0) rfl dX8_vertex_104 (c_X4_edges (jx_l X) k n _ _ (jm_f7_0 hr0) _ ex4) (k_goodIn (g_RX8_96)) rfl h_X4_edges ⟨rfl, rfl, Nat.le_of_ble_eq_true rfl, Nat.le_of_ble_eq_true rfl⟩ rfl rfl (Nat.le_of_ble_eq_true rfl) ?_
            refine jt_aload_n C dX8_vertex_107 rfl 0 rfl ?_
            refine jt_getR (Tf := TX8) (N := 8) C dX8_vertex_108 hr0 rfl i_8 0 (by decide) rfl m_RX8_10 rfl ?_
            refine jt_iload_n C dX8_vertex_111 rfl 1 rfl ?_
            obtain ⟨x5, ex5, h⟩ := jm_bind h
            refine jt_callVi (As := [_]) (rest := [_]) C (jm_f7_0 hr0) rfl dX8_vertex_112 (c_X4_degree (jx_l X) k _ _ _ (jm_f7_0 hr0) _ ex5) (k_goodIn (g_RX8_118)) rfl h_X4_degree ⟨rfl, rfl, Nat.le_of_ble_eq_true rfl, Nat.le_of_ble_eq_true rfl⟩ rfl rfl (Nat.le_of_ble_eq_true rfl) ?_
            refine jt_isub C dX8_vertex_115 ?_
            cases h
            exact jt_iret C dX8_vertex_116 hQ hr
          replace h := jm_iff c42_3 h
          by_cases c42_4 : v2 = (4 : Int32)
          · replace h := jm_ift c42_4 h
            refine jt_tblIn (v := 4) (tgt := 117) C dX8_vertex_42 c42_4 (by decide) (by decide) rfl (by decide) ?_
            refine jt_aload_n C dX8_vertex_117 rfl 0 rfl ?_
            refine jt_getR (Tf := TX8) (N := 8) C dX8_vertex_118 hr0 rfl i_8 4 (by decide) rfl m_RX8_40 rfl ?_
            refine jt_aload_n C dX8_vertex_121 rfl 0 rfl ?_
            refine jt_getR (Tf := TX8) (N := 8) C dX8_vertex_122 hr0 rfl i_8 0 (by decide) rfl m_RX8_10 rfl ?_
            refine jt_iload_n C dX8_vertex_125 rfl 1 rfl ?_
            obtain ⟨⟨x6a, x6b⟩, ex6, h⟩ := jm_bind h
            try dsimp only at h
            refine jt_callVi (As := [_, _]) (rest := []) C (jm_f7_4 hr0) rfl dX8_vertex_126 (c_X7_similarTo (jx_l X) k n _ _ _ _ (jm_f7_4 hr0) (jm_f7_0 hr0) _ _ ex6) (k_goodIn (g_RX8_128)) rfl h_X7_similarTo ⟨rfl, rfl, Nat.le_of_ble_eq_true rfl, Nat.le_of_ble_eq_true rfl⟩ rfl rfl (Nat.le_of_ble_eq_true rfl) ?_
            cases h
            exact jt_iret C dX8_vertex_129 hQ hr
          replace h := jm_iff c42_4 h
          refine jt_tblOut (tgt := 130) C dX8_vertex_42 (by have a0 := jm_nei 0 c42_0; simp at a0; have a1 := jm_nei 1 c42_1; simp at a1; have a2 := jm_nei 2 c42_2; simp at a2; have a3 := jm_nei 3 c42_3; simp at a3; have a4 := jm_nei 4 c42_4; simp at a4; omega) (by decide) ?_
          refine jt_aload_n C dX8_vertex_130 rfl 0 rfl ?_
          refine jt_iload_n C dX8_vertex_131 rfl 1 rfl ?_
          obtain ⟨⟨x7a, x7b⟩, ex7, h⟩ := jm_bind h
          try dsimp only at h
          refine jt_callVi (As := [_]) (rest := []) C hr0 rfl dX8_vertex_132 (c_X8_pseudoSimilarTo (jx_l X) k n _ _ _ hr0 _ _ ex7) (k_goodIn (g_RX8_132)) rfl h_X8_pseudoSimilarTo ⟨rfl, rfl, Nat.le_of_ble_eq_true rfl, Nat.le_of_ble_eq_true rfl⟩ rfl rfl (Nat.le_of_ble_eq_true rfl) ?_
          cases h
          exact jt_iret C dX8_vertex_135 hQ hr
        · replace h := jm_iff c24 h
          refine jt_aload_n C dX8_vertex_27 rfl 0 rfl ?_
          refine jt_getR (Tf := TX8) (N := 8) C dX8_vertex_28 hr0 rfl i_8 0 (by decide) rfl m_RX8_10 rfl ?_
          refine jt_callVi (As := []) (rest := []) C (jm_f7_0 hr0) rfl dX8_vertex_31 (c_X4_size (jx_l X) k _ _ (jm_f7_0 hr0) _ rfl) (k_goodIn (g_RX8_61)) rfl h_X4_size ⟨rfl, rfl, Nat.le_of_ble_eq_true rfl, Nat.le_of_ble_eq_true rfl⟩ rfl rfl (Nat.le_of_ble_eq_true rfl) ?_
          refine jt_iconst (v := (1 : Int32)) C dX8_vertex_34 (by decide) ?_
          refine jt_icmp_ne (tgt := 41) C dX8_vertex_35 (by decide) (fun c35 => ?_) (fun c35 => ?_)
          · replace h := jm_iff c35 h
            refine jt_iload_n C dX8_vertex_41 rfl 2 rfl ?_
            by_cases c42_0 : v2 = (0 : Int32)
            · replace h := jm_ift c42_0 h
              refine jt_tblIn (v := 0) (tgt := 76) C dX8_vertex_42 c42_0 (by decide) (by decide) rfl (by decide) ?_
              refine jt_aload_n C dX8_vertex_76 rfl 0 rfl ?_
              refine jt_getR (Tf := TX8) (N := 8) C dX8_vertex_77 hr0 rfl i_8 0 (by decide) rfl m_RX8_10 rfl ?_
              refine jt_iload_n C dX8_vertex_80 rfl 1 rfl ?_
              obtain ⟨x8, ex8, h⟩ := jm_bind h
              refine jt_callVi (As := [_]) (rest := []) C (jm_f7_0 hr0) rfl dX8_vertex_81 (c_X4_degree (jx_l X) k _ _ _ (jm_f7_0 hr0) _ ex8) (k_goodIn (g_RX8_118)) rfl h_X4_degree ⟨rfl, rfl, Nat.le_of_ble_eq_true rfl, Nat.le_of_ble_eq_true rfl⟩ rfl rfl (Nat.le_of_ble_eq_true rfl) ?_
              cases h
              exact jt_iret C dX8_vertex_84 hQ hr
            replace h := jm_iff c42_0 h
            by_cases c42_1 : v2 = (1 : Int32)
            · replace h := jm_ift c42_1 h
              refine jt_tblIn (v := 1) (tgt := 85) C dX8_vertex_42 c42_1 (by decide) (by decide) rfl (by decide) ?_
              refine jt_aload_n C dX8_vertex_85 rfl 0 rfl ?_
              refine jt_getR (Tf := TX8) (N := 8) C dX8_vertex_86 hr0 rfl i_8 0 (by decide) rfl m_RX8_10 rfl ?_
              refine jt_iload_n C dX8_vertex_89 rfl 1 rfl ?_
              obtain ⟨x9, ex9, h⟩ := jm_bind h
              refine jt_callVi (As := [_]) (rest := []) C (jm_f7_0 hr0) rfl dX8_vertex_90 (c_X4_row (jx_l X) k _ _ _ (jm_f7_0 hr0) _ ex9) (k_goodIn (g_RX8_122)) rfl h_X4_row ⟨rfl, rfl, Nat.le_of_ble_eq_true rfl, Nat.le_of_ble_eq_true rfl⟩ rfl rfl (Nat.le_of_ble_eq_true rfl) ?_
              cases h
              exact jt_iret C dX8_vertex_93 hQ hr
            replace h := jm_iff c42_1 h
            by_cases c42_2 : v2 = (2 : Int32)
            · replace h := jm_ift c42_2 h
              refine jt_tblIn (v := 2) (tgt := 94) C dX8_vertex_42 c42_2 (by decide) (by decide) rfl (by decide) ?_
              refine jt_aload_n C dX8_vertex_94 rfl 0 rfl ?_
              refine jt_iload_n C dX8_vertex_95 rfl 1 rfl ?_
              obtain ⟨⟨x10a, x10b⟩, ex10, h⟩ := jm_bind h
              try dsimp only at h
              refine jt_callVi (As := [_]) (rest := []) C hr0 rfl dX8_vertex_96 (c_X8_cardCode (jx_l X) k n _ _ _ hr0 _ _ ex10) (k_goodIn (g_RX8_125)) rfl h_X8_cardCode ⟨rfl, rfl, Nat.le_of_ble_eq_true rfl, Nat.le_of_ble_eq_true rfl⟩ rfl rfl (Nat.le_of_ble_eq_true rfl) ?_
              cases h
              exact jt_iret C dX8_vertex_99 hQ hr
            replace h := jm_iff c42_2 h
            by_cases c42_3 : v2 = (3 : Int32)
            · replace h := jm_ift c42_3 h
              refine jt_tblIn (v := 3) (tgt := 100) C dX8_vertex_42 c42_3 (by decide) (by decide) rfl (by decide) ?_
              refine jt_aload_n C dX8_vertex_100 rfl 0 rfl ?_
              refine jt_getR (Tf := TX8) (N := 8) C dX8_vertex_101 hr0 rfl i_8 0 (by decide) rfl m_RX8_10 rfl ?_
              obtain ⟨x11, ex11, h⟩ := jm_bind h
              refine jt_callVi (As := []) (rest := []) C (jm_f7_0 hr0) rfl dX8_vertex_104 (c_X4_edges (jx_l X) k n _ _ (jm_f7_0 hr0) _ ex11) (k_goodIn (g_RX8_96)) rfl h_X4_edges ⟨rfl, rfl, Nat.le_of_ble_eq_true rfl, Nat.le_of_ble_eq_true rfl⟩ rfl rfl (Nat.le_of_ble_eq_true rfl) ?_
              refine jt_aload_n C dX8_vertex_107 rfl 0 rfl ?_
              refine jt_getR (Tf := TX8) (N := 8) C dX8_vertex_108 hr0 rfl i_8 0 (by decide) rfl m_RX8_10 rfl ?_
              refine jt_iload_n C dX8_vertex_111 rfl 1 rfl ?_
              obtain ⟨x12, ex12, h⟩ := jm_bind h
              refine jt_callVi (As := [_]) (rest := [_]) C (jm_f7_0 hr0) rfl dX8_vertex_112 (c_X4_degree (jx_l X) k _ _ _ (jm_f7_0 hr0) _ ex12) (k_goodIn (g_RX8_118)) rfl h_X4_degree ⟨rfl, rfl, Nat.le_of_ble_eq_true rfl, Nat.le_of_ble_eq_true rfl⟩ rfl rfl (Nat.le_of_ble_eq_true rfl) ?_
              refine jt_isub C dX8_vertex_115 ?_
              cases h
              exact jt_iret C dX8_vertex_116 hQ hr
            replace h := jm_iff c42_3 h
            by_cases c42_4 : v2 = (4 : Int32)
            · replace h := jm_ift c42_4 h
              refine jt_tblIn (v := 4) (tgt := 117) C dX8_vertex_42 c42_4 (by decide) (by decide) rfl (by decide) ?_
              refine jt_aload_n C dX8_vertex_117 rfl 0 rfl ?_
              refine jt_getR (Tf := TX8) (N := 8) C dX8_vertex_118 hr0 rfl i_8 4 (by decide) rfl m_RX8_40 rfl ?_
              refine jt_aload_n C dX8_vertex_121 rfl 0 rfl ?_
              refine jt_getR (Tf := TX8) (N := 8) C dX8_vertex_122 hr0 rfl i_8 0 (by decide) rfl m_RX8_10 rfl ?_
              refine jt_iload_n C dX8_vertex_125 rfl 1 rfl ?_
              obtain ⟨⟨x13a, x13b⟩, ex13, h⟩ := jm_bind h
              try dsimp only at h
              refine jt_callVi (As := [_, _]) (rest := []) C (jm_f7_4 hr0) rfl dX8_vertex_126 (c_X7_similarTo (jx_l X) k n _ _ _ _ (jm_f7_4 hr0) (jm_f7_0 hr0) _ _ ex13) (k_goodIn (g_RX8_128)) rfl h_X7_similarTo ⟨rfl, rfl, Nat.le_of_ble_eq_true rfl, Nat.le_of_ble_eq_true rfl⟩ rfl rfl (Nat.le_of_ble_eq_true rfl) ?_
              cases h
              exact jt_iret C dX8_vertex_129 hQ hr
            replace h := jm_iff c42_4 h
            refine jt_tblOut (tgt := 130) C dX8_vertex_42 (by have a0 := jm_nei 0 c42_0; simp at a0; have a1 := jm_nei 1 c42_1; simp at a1; have a2 := jm_nei 2 c42_2; simp at a2; have a3 := jm_nei 3 c42_3; simp at a3; have a4 := jm_nei 4 c42_4; simp at a4; omega) (by decide) ?_
            refine jt_aload_n C dX8_vertex_130 rfl 0 rfl ?_
            refine jt_iload_n C dX8_vertex_131 rfl 1 rfl ?_
            obtain ⟨⟨x14a, x14b⟩, ex14, h⟩ := jm_bind h
            try dsimp only at h
            refine jt_callVi (As := [_]) (rest := []) C hr0 rfl dX8_vertex_132 (c_X8_pseudoSimilarTo (jx_l X) k n _ _ _ hr0 _ _ ex14) (k_goodIn (g_RX8_132)) rfl h_X8_pseudoSimilarTo ⟨rfl, rfl, Nat.le_of_ble_eq_true rfl, Nat.le_of_ble_eq_true rfl⟩ rfl rfl (Nat.le_of_ble_eq_true rfl) ?_
            cases h
            exact jt_iret C dX8_vertex_135 hQ hr
          · replace h := jm_ift c35 h
            refine jt_bipush (v := (-9 : Int32)) C dX8_vertex_38 (by decide) ?_
            cases h
            exact jt_iret C dX8_vertex_40 hQ hr
      · replace h := jm_iff c17 h
        refine jt_iconst (v := (-1 : Int32)) C dX8_vertex_20 (by decide) ?_
        cases h
        exact jt_iret C dX8_vertex_21 hQ hr
theorem h_X7_imageOf : yX7_imageOf.cls = RX7 ∧ yX7_imageOf.cls ≠ "java/lang/invoke/MethodHandle" ∧ yX7_imageOf.cls ≠ "java/lang/invoke/VarHandle" ∧ (parseMethodDescriptor yX7_imageOf.desc).map (fun d => d.parameters.length) = some 1 := by decide +kernel
set_option maxHeartbeats 4000000 in
set_option maxRecDepth 100000 in
theorem c_X7_imageOf (l : Launch) (k : jm_C) (r0 : Nat) (v1 : Int32) (M : jm_M) (hr0 : jm_is r0 (3, 6)) (q : Int32) (h : X7_imageOf r0 v1 M = some q) : jm_Ci l k yX7_imageOf w_X7_imageOf { frames := 0, cells := 0, slots := 0, locals := 0 } [.ref (jm_ad k r0), .int v1] M q M := by
  refine jm_entry_i (cc := cX7_imageOf) (nL := 2) (ret := (some .int)) (by decide) rfl (Nat.le_of_ble_eq_true rfl) ?_
  intro X hX C hQ hr
  subst hX
  unfold X7_imageOf at h
  refine jt_iload_n C dX7_imageOf_0 rfl 1 rfl ?_
  refine jt_if_lt (tgt := 19) C dX7_imageOf_1 (by decide) (fun c1 => ?_) (fun c1 => ?_)
  · replace h := jm_ift c1 h
    refine jt_iconst (v := (-1 : Int32)) C dX7_imageOf_19 (by decide) ?_
    cases h
    exact jt_iret C dX7_imageOf_20 hQ hr
  · replace h := jm_iff c1 h
    refine jt_iload_n C dX7_imageOf_4 rfl 1 rfl ?_
    refine jt_bipush (v := (8 : Int32)) C dX7_imageOf_5 (by decide) ?_
    refine jt_icmp_ge (tgt := 19) C dX7_imageOf_7 (by decide) (fun c7 => ?_) (fun c7 => ?_)
    · replace h := jm_ift c7 h
      refine jt_iconst (v := (-1 : Int32)) C dX7_imageOf_19 (by decide) ?_
      cases h
      exact jt_iret C dX7_imageOf_20 hQ hr
    · replace h := jm_iff c7 h
      refine jt_aload_n C dX7_imageOf_10 rfl 0 rfl ?_
      refine jt_getR (Tf := TX7) (N := 3) C dX7_imageOf_11 hr0 rfl i_7 0 (by decide) rfl m_RX7_9 rfl ?_
      refine jt_iload_n C dX7_imageOf_14 rfl 1 rfl ?_
      obtain ⟨x1, ex1, h⟩ := jm_bind h
      refine jt_iald C dX7_imageOf_15 (jm_f6_0 hr0) ex1 ?_
      refine jt_goto (tgt := 20) C dX7_imageOf_16 (by decide) ?_
      cases h
      exact jt_iret C dX7_imageOf_20 hQ hr
theorem h_X8_image : yX8_image.cls = RX8 ∧ yX8_image.cls ≠ "java/lang/invoke/MethodHandle" ∧ yX8_image.cls ≠ "java/lang/invoke/VarHandle" ∧ (parseMethodDescriptor yX8_image.desc).map (fun d => d.parameters.length) = some 3 := by decide +kernel
set_option maxHeartbeats 4000000 in
set_option maxRecDepth 100000 in
theorem c_X8_image (l : Launch) (k : jm_C) (n : Nat) (r0 : Nat) (v1 : Int32) (v2 : Int32) (v3 : Int32) (M : jm_M) (hr0 : jm_is r0 (3, 7)) (q1 : Int32) (q2 : jm_M) (h : X8_image n r0 v1 v2 v3 M = some (q1, q2)) : jm_Ci l k yX8_image w_X8_image { frames := 16, cells := 0, slots := 0, locals := 640 } [.ref (jm_ad k r0), .int v1, .int v2, .int v3] M q1 q2 := by
  refine jm_entry_i (cc := cX8_image) (nL := 4) (ret := (some .int)) (by decide) rfl (Nat.le_of_ble_eq_true rfl) ?_
  intro X hX C hQ hr
  subst hX
  unfold X8_image at h
  refine jt_aload_n C dX8_image_0 rfl 0 rfl ?_
  refine jt_getR (Tf := TX8) (N := 8) C dX8_image_1 hr0 rfl i_8 0 (by decide) rfl m_RX8_10 rfl ?_
  refine jt_iload_n C dX8_image_4 rfl 1 rfl ?_
  refine jt_callVi (As := [_]) (rest := []) C (jm_f7_0 hr0) rfl dX8_image_5 (c_X4_has (jx_l X) k _ _ _ (jm_f7_0 hr0) _ rfl) (k_goodIn (g_RX8_73)) rfl h_X4_has ⟨rfl, rfl, Nat.le_of_ble_eq_true rfl, Nat.le_of_ble_eq_true rfl⟩ rfl rfl (Nat.le_of_ble_eq_true rfl) ?_
  refine jt_if_eq (tgt := 33) C dX8_image_8 (by decide) (fun c8 => ?_) (fun c8 => ?_)
  · replace h := jm_ift c8 h
    refine jt_iconst (v := (-1 : Int32)) C dX8_image_33 (by decide) ?_
    cases h
    exact jt_iret C dX8_image_34 hQ hr
  · replace h := jm_iff c8 h
    refine jt_aload_n C dX8_image_11 rfl 0 rfl ?_
    refine jt_getR (Tf := TX8) (N := 8) C dX8_image_12 hr0 rfl i_8 0 (by decide) rfl m_RX8_10 rfl ?_
    refine jt_iload_n C dX8_image_15 rfl 2 rfl ?_
    refine jt_callVi (As := [_]) (rest := []) C (jm_f7_0 hr0) rfl dX8_image_16 (c_X4_has (jx_l X) k _ _ _ (jm_f7_0 hr0) _ rfl) (k_goodIn (g_RX8_73)) rfl h_X4_has ⟨rfl, rfl, Nat.le_of_ble_eq_true rfl, Nat.le_of_ble_eq_true rfl⟩ rfl rfl (Nat.le_of_ble_eq_true rfl) ?_
    refine jt_if_eq (tgt := 33) C dX8_image_19 (by decide) (fun c19 => ?_) (fun c19 => ?_)
    · replace h := jm_ift c19 h
      refine jt_iconst (v := (-1 : Int32)) C dX8_image_33 (by decide) ?_
      cases h
      exact jt_iret C dX8_image_34 hQ hr
    · replace h := jm_iff c19 h
      refine jt_aload_n C dX8_image_22 rfl 0 rfl ?_
      refine jt_getR (Tf := TX8) (N := 8) C dX8_image_23 hr0 rfl i_8 0 (by decide) rfl m_RX8_10 rfl ?_
      refine jt_iload_n C dX8_image_26 rfl 3 rfl ?_
      refine jt_callVi (As := [_]) (rest := []) C (jm_f7_0 hr0) rfl dX8_image_27 (c_X4_has (jx_l X) k _ _ _ (jm_f7_0 hr0) _ rfl) (k_goodIn (g_RX8_73)) rfl h_X4_has ⟨rfl, rfl, Nat.le_of_ble_eq_true rfl, Nat.le_of_ble_eq_true rfl⟩ rfl rfl (Nat.le_of_ble_eq_true rfl) ?_
      refine jt_if_ne (tgt := 35) C dX8_image_30 (by decide) (fun c30 => ?_) (fun c30 => ?_)
      · replace h := jm_iff c30 h
        refine jt_aload_n C dX8_image_35 rfl 0 rfl ?_
        refine jt_getR (Tf := TX8) (N := 8) C dX8_image_36 hr0 rfl i_8 4 (by decide) rfl m_RX8_40 rfl ?_
        refine jt_aload_n C dX8_image_39 rfl 0 rfl ?_
        refine jt_getR (Tf := TX8) (N := 8) C dX8_image_40 hr0 rfl i_8 0 (by decide) rfl m_RX8_10 rfl ?_
        refine jt_iconst (v := (0 : Int32)) C dX8_image_43 (by decide) ?_
        refine jt_iload_n C dX8_image_44 rfl 1 rfl ?_
        refine jt_iload_n C dX8_image_45 rfl 2 rfl ?_
        obtain ⟨⟨x1a, x1b⟩, ex1, h⟩ := jm_bind h
        try dsimp only at h
        refine jt_callVi (As := [_, _, _, _]) (rest := []) C (jm_f7_4 hr0) rfl dX8_image_46 (c_X7_find (jx_l X) k n _ _ _ _ _ _ (jm_f7_4 hr0) (jm_f7_0 hr0) _ _ ex1) (k_goodIn (g_RX8_135)) rfl h_X7_find ⟨rfl, rfl, Nat.le_of_ble_eq_true rfl, Nat.le_of_ble_eq_true rfl⟩ rfl rfl (Nat.le_of_ble_eq_true rfl) ?_
        refine jt_if_eq (tgt := 63) C dX8_image_49 (by decide) (fun c49 => ?_) (fun c49 => ?_)
        · replace h := jm_ift c49 h
          refine jt_bipush (v := (-9 : Int32)) C dX8_image_63 (by decide) ?_
          cases h
          exact jt_iret C dX8_image_65 hQ hr
        · replace h := jm_iff c49 h
          refine jt_aload_n C dX8_image_52 rfl 0 rfl ?_
          refine jt_getR (Tf := TX8) (N := 8) C dX8_image_53 hr0 rfl i_8 4 (by decide) rfl m_RX8_40 rfl ?_
          refine jt_iload_n C dX8_image_56 rfl 3 rfl ?_
          obtain ⟨x2, ex2, h⟩ := jm_bind h
          refine jt_callVi (As := [_]) (rest := []) C (jm_f7_4 hr0) rfl dX8_image_57 (c_X7_imageOf (jx_l X) k _ _ _ (jm_f7_4 hr0) _ ex2) (k_goodIn (g_RX8_139)) rfl h_X7_imageOf ⟨rfl, rfl, Nat.le_of_ble_eq_true rfl, Nat.le_of_ble_eq_true rfl⟩ rfl rfl (Nat.le_of_ble_eq_true rfl) ?_
          refine jt_goto (tgt := 65) C dX8_image_60 (by decide) ?_
          cases h
          exact jt_iret C dX8_image_65 hQ hr
      · replace h := jm_ift c30 h
        refine jt_iconst (v := (-1 : Int32)) C dX8_image_33 (by decide) ?_
        cases h
        exact jt_iret C dX8_image_34 hQ hr
theorem h_X6_pairs : yX6_pairs.cls ≠ "java/lang/invoke/MethodHandle" ∧ yX6_pairs.cls ≠ "java/lang/invoke/VarHandle" ∧ (parseMethodDescriptor yX6_pairs.desc).map (fun d => d.parameters.length) = some 1 := by decide +kernel
set_option maxHeartbeats 4000000 in
set_option maxRecDepth 100000 in
theorem c_X6_pairs (l : Launch) (k : jm_C) (v0 : Int32) (M : jm_M)  (q : Int32) (h : X6_pairs v0 = q) : jm_Ci l k yX6_pairs w_X6_pairs { frames := 0, cells := 0, slots := 0, locals := 0 } [.int v0] M q M := by
  refine jm_entry_i (cc := cX6_pairs) (nL := 1) (ret := (some .int)) (by decide) rfl (Nat.le_of_ble_eq_true rfl) ?_
  intro X hX C hQ hr
  subst hX
  unfold X6_pairs at h
  refine jt_iload_n C dX6_pairs_0 rfl 0 rfl ?_
  refine jt_iload_n C dX6_pairs_1 rfl 0 rfl ?_
  refine jt_iconst (v := (1 : Int32)) C dX6_pairs_2 (by decide) ?_
  refine jt_isub C dX6_pairs_3 ?_
  refine jt_imul C dX6_pairs_4 ?_
  refine jt_iconst (v := (2 : Int32)) C dX6_pairs_5 (by decide) ?_
  refine jt_idiv C dX6_pairs_6 (if_neg (by decide)) ?_
  subst h
  exact jt_iret C dX6_pairs_7 hQ hr
theorem h_X6_cherries : yX6_cherries.cls ≠ "java/lang/invoke/MethodHandle" ∧ yX6_cherries.cls ≠ "java/lang/invoke/VarHandle" ∧ (parseMethodDescriptor yX6_cherries.desc).map (fun d => d.parameters.length) = some 1 := by decide +kernel
set_option maxHeartbeats 4000000 in
set_option maxRecDepth 100000 in
theorem t_X6_cherries_L4 {X : jm_X} {k : jm_C} (C : jm_Cx X k cX6_cherries 3 RX6 w_X6_cherries) (r0 : Nat) (M : jm_M) (hr0 : jm_is r0 (3, 4)) : ∀ (m : Nat) (s : Int32 × Int32) (r : Int32), jm_loop (X6_cherries_B4 r0 M) m s = some r → jm_T X { frames := 2, cells := 0, slots := 0, locals := 80 } k 3 M 29 [(1, .int r)] [] → (∀ (b0 : Int32) (b1 : Int32), s = (b0, b1) → jm_T X { frames := 2, cells := 0, slots := 0, locals := 80 } k 3 M 4 [(0, .ref (jm_ad k r0)), (1, .int b0), (2, .int b1)] []) := by
  refine jm_loop_ind (P := fun (s : Int32 × Int32) => (∀ (b0 : Int32) (b1 : Int32), s = (b0, b1) → jm_T X { frames := 2, cells := 0, slots := 0, locals := 80 } k 3 M 4 [(0, .ref (jm_ad k r0)), (1, .int b0), (2, .int b1)] [])) (K := fun (r : Int32) => jm_T X { frames := 2, cells := 0, slots := 0, locals := 80 } k 3 M 29 [(1, .int r)] []) ?_
  intro s q h h1 h2
  intro b0 b1 hs
  subst hs
  unfold X6_cherries_B4 at h
  try dsimp only at h
  refine jt_iload_n C dX6_cherries_4 rfl 2 rfl ?_
  refine jt_aload_n C dX6_cherries_5 rfl 0 rfl ?_
  refine jt_callVi (As := []) (rest := [_]) C hr0 rfl dX6_cherries_6 (c_X4_size (jx_l X) k _ _ hr0 _ rfl) (k_goodIn (g_RX6_52)) rfl h_X4_size ⟨rfl, rfl, Nat.le_of_ble_eq_true rfl, Nat.le_of_ble_eq_true rfl⟩ rfl rfl (Nat.le_of_ble_eq_true rfl) ?_
  refine jt_icmp_ge (tgt := 29) C dX6_cherries_9 (by decide) (fun c9 => ?_) (fun c9 => ?_)
  · replace h := jm_ift c9 h
    cases h
    exact jt_sub [1] rfl (h2 _ rfl)
  · replace h := jm_iff c9 h
    refine jt_iload_n C dX6_cherries_12 rfl 1 rfl ?_
    refine jt_aload_n C dX6_cherries_13 rfl 0 rfl ?_
    refine jt_iload_n C dX6_cherries_14 rfl 2 rfl ?_
    obtain ⟨x1, ex1, h⟩ := jm_bind h
    refine jt_callVi (As := [_]) (rest := [_]) C hr0 rfl dX6_cherries_15 (c_X4_degree (jx_l X) k _ _ _ hr0 _ ex1) (k_goodIn (g_RX6_55)) rfl h_X4_degree ⟨rfl, rfl, Nat.le_of_ble_eq_true rfl, Nat.le_of_ble_eq_true rfl⟩ rfl rfl (Nat.le_of_ble_eq_true rfl) ?_
    refine jt_callSi (As := [_]) (rest := [_]) C dX6_cherries_18 (c_X6_pairs (jx_l X) k _ _ _ rfl) (k_goodIn (g_RX6_58)) rfl h_X6_pairs ⟨rfl, rfl, Nat.le_of_ble_eq_true rfl, Nat.le_of_ble_eq_true rfl⟩ rfl rfl (Nat.le_of_ble_eq_true rfl) ?_
    refine jt_iadd C dX6_cherries_21 ?_
    refine jt_istore_n (lv' := [(1, _), (0, _), (2, _)]) C dX6_cherries_22 rfl (by decide) rfl ?_
    refine jt_iinc (v := (1 : Int32)) (lv' := [(2, _), (1, _), (0, _)]) C dX6_cherries_23 2 rfl (by decide) (by decide) rfl ?_
    refine jt_goto (tgt := 4) C dX6_cherries_26 (by decide) ?_
    cases h
    exact jt_sub [2, 1, 0] rfl (h1 _ rfl _ _ rfl)
set_option maxHeartbeats 4000000 in
set_option maxRecDepth 100000 in
theorem c_X6_cherries (l : Launch) (k : jm_C) (n : Nat) (r0 : Nat) (M : jm_M) (hr0 : jm_is r0 (3, 4)) (q : Int32) (h : X6_cherries n r0 M = some q) : jm_Ci l k yX6_cherries w_X6_cherries { frames := 2, cells := 0, slots := 0, locals := 80 } [.ref (jm_ad k r0)] M q M := by
  refine jm_entry_i (cc := cX6_cherries) (nL := 3) (ret := (some .int)) (by decide) rfl (Nat.le_of_ble_eq_true rfl) ?_
  intro X hX C hQ hr
  subst hX
  unfold X6_cherries at h
  refine jt_iconst (v := (0 : Int32)) C dX6_cherries_0 (by decide) ?_
  refine jt_istore_n (lv' := [(1, _), (0, _)]) C dX6_cherries_1 rfl (by decide) rfl ?_
  refine jt_iconst (v := (0 : Int32)) C dX6_cherries_2 (by decide) ?_
  refine jt_istore_n (lv' := [(2, _), (1, _), (0, _)]) C dX6_cherries_3 rfl (by decide) rfl ?_
  obtain ⟨q2, eq2, h⟩ := jm_bind h
  refine jt_sub [2, 1, 0] rfl ?_
  refine t_X6_cherries_L4 C _ _ hr0 n _ _ eq2 ?_ _ _ rfl
  refine jt_iload_n C dX6_cherries_29 rfl 0 rfl ?_
  cases h
  exact jt_iret C dX6_cherries_30 hQ hr
theorem h_X6_claws : yX6_claws.cls ≠ "java/lang/invoke/MethodHandle" ∧ yX6_claws.cls ≠ "java/lang/invoke/VarHandle" ∧ (parseMethodDescriptor yX6_claws.desc).map (fun d => d.parameters.length) = some 1 := by decide +kernel
set_option maxHeartbeats 4000000 in
set_option maxRecDepth 100000 in
theorem t_X6_claws_L4 {X : jm_X} {k : jm_C} (C : jm_Cx X k cX6_claws 3 RX6 w_X6_claws) (r0 : Nat) (M : jm_M) (hr0 : jm_is r0 (3, 4)) : ∀ (m : Nat) (s : Int32 × Int32) (r : Int32), jm_loop (X6_claws_B4 r0 M) m s = some r → jm_T X { frames := 2, cells := 0, slots := 0, locals := 80 } k 3 M 39 [(1, .int r)] [] → (∀ (b0 : Int32) (b1 : Int32), s = (b0, b1) → jm_T X { frames := 2, cells := 0, slots := 0, locals := 80 } k 3 M 4 [(0, .ref (jm_ad k r0)), (1, .int b0), (2, .int b1)] []) := by
  refine jm_loop_ind (P := fun (s : Int32 × Int32) => (∀ (b0 : Int32) (b1 : Int32), s = (b0, b1) → jm_T X { frames := 2, cells := 0, slots := 0, locals := 80 } k 3 M 4 [(0, .ref (jm_ad k r0)), (1, .int b0), (2, .int b1)] [])) (K := fun (r : Int32) => jm_T X { frames := 2, cells := 0, slots := 0, locals := 80 } k 3 M 39 [(1, .int r)] []) ?_
  intro s q h h1 h2
  intro b0 b1 hs
  subst hs
  unfold X6_claws_B4 at h
  try dsimp only at h
  refine jt_iload_n C dX6_claws_4 rfl 2 rfl ?_
  refine jt_aload_n C dX6_claws_5 rfl 0 rfl ?_
  refine jt_callVi (As := []) (rest := [_]) C hr0 rfl dX6_claws_6 (c_X4_size (jx_l X) k _ _ hr0 _ rfl) (k_goodIn (g_RX6_52)) rfl h_X4_size ⟨rfl, rfl, Nat.le_of_ble_eq_true rfl, Nat.le_of_ble_eq_true rfl⟩ rfl rfl (Nat.le_of_ble_eq_true rfl) ?_
  refine jt_icmp_ge (tgt := 39) C dX6_claws_9 (by decide) (fun c9 => ?_) (fun c9 => ?_)
  · replace h := jm_ift c9 h
    cases h
    exact jt_sub [1] rfl (h2 _ rfl)
  · replace h := jm_iff c9 h
    refine jt_iload_n C dX6_claws_12 rfl 1 rfl ?_
    refine jt_aload_n C dX6_claws_13 rfl 0 rfl ?_
    refine jt_iload_n C dX6_claws_14 rfl 2 rfl ?_
    obtain ⟨x1, ex1, h⟩ := jm_bind h
    refine jt_callVi (As := [_]) (rest := [_]) C hr0 rfl dX6_claws_15 (c_X4_degree (jx_l X) k _ _ _ hr0 _ ex1) (k_goodIn (g_RX6_55)) rfl h_X4_degree ⟨rfl, rfl, Nat.le_of_ble_eq_true rfl, Nat.le_of_ble_eq_true rfl⟩ rfl rfl (Nat.le_of_ble_eq_true rfl) ?_
    refine jt_callSi (As := [_]) (rest := [_]) C dX6_claws_18 (c_X6_pairs (jx_l X) k _ _ _ rfl) (k_goodIn (g_RX6_58)) rfl h_X6_pairs ⟨rfl, rfl, Nat.le_of_ble_eq_true rfl, Nat.le_of_ble_eq_true rfl⟩ rfl rfl (Nat.le_of_ble_eq_true rfl) ?_
    refine jt_aload_n C dX6_claws_21 rfl 0 rfl ?_
    refine jt_iload_n C dX6_claws_22 rfl 2 rfl ?_
    obtain ⟨x2, ex2, h⟩ := jm_bind h
    refine jt_callVi (As := [_]) (rest := [_, _]) C hr0 rfl dX6_claws_23 (c_X4_degree (jx_l X) k _ _ _ hr0 _ ex2) (k_goodIn (g_RX6_55)) rfl h_X4_degree ⟨rfl, rfl, Nat.le_of_ble_eq_true rfl, Nat.le_of_ble_eq_true rfl⟩ rfl rfl (Nat.le_of_ble_eq_true rfl) ?_
    refine jt_iconst (v := (2 : Int32)) C dX6_claws_26 (by decide) ?_
    refine jt_isub C dX6_claws_27 ?_
    refine jt_imul C dX6_claws_28 ?_
    refine jt_iconst (v := (3 : Int32)) C dX6_claws_29 (by decide) ?_
    refine jt_idiv C dX6_claws_30 (if_neg (by decide)) ?_
    refine jt_iadd C dX6_claws_31 ?_
    refine jt_istore_n (lv' := [(1, _), (0, _), (2, _)]) C dX6_claws_32 rfl (by decide) rfl ?_
    refine jt_iinc (v := (1 : Int32)) (lv' := [(2, _), (1, _), (0, _)]) C dX6_claws_33 2 rfl (by decide) (by decide) rfl ?_
    refine jt_goto (tgt := 4) C dX6_claws_36 (by decide) ?_
    cases h
    exact jt_sub [2, 1, 0] rfl (h1 _ rfl _ _ rfl)
set_option maxHeartbeats 4000000 in
set_option maxRecDepth 100000 in
theorem c_X6_claws (l : Launch) (k : jm_C) (n : Nat) (r0 : Nat) (M : jm_M) (hr0 : jm_is r0 (3, 4)) (q : Int32) (h : X6_claws n r0 M = some q) : jm_Ci l k yX6_claws w_X6_claws { frames := 2, cells := 0, slots := 0, locals := 80 } [.ref (jm_ad k r0)] M q M := by
  refine jm_entry_i (cc := cX6_claws) (nL := 3) (ret := (some .int)) (by decide) rfl (Nat.le_of_ble_eq_true rfl) ?_
  intro X hX C hQ hr
  subst hX
  unfold X6_claws at h
  refine jt_iconst (v := (0 : Int32)) C dX6_claws_0 (by decide) ?_
  refine jt_istore_n (lv' := [(1, _), (0, _)]) C dX6_claws_1 rfl (by decide) rfl ?_
  refine jt_iconst (v := (0 : Int32)) C dX6_claws_2 (by decide) ?_
  refine jt_istore_n (lv' := [(2, _), (1, _), (0, _)]) C dX6_claws_3 rfl (by decide) rfl ?_
  obtain ⟨q3, eq3, h⟩ := jm_bind h
  refine jt_sub [2, 1, 0] rfl ?_
  refine t_X6_claws_L4 C _ _ hr0 n _ _ eq3 ?_ _ _ rfl
  refine jt_iload_n C dX6_claws_39 rfl 0 rfl ?_
  cases h
  exact jt_iret C dX6_claws_40 hQ hr
theorem h_X6_common : yX6_common.cls ≠ "java/lang/invoke/MethodHandle" ∧ yX6_common.cls ≠ "java/lang/invoke/VarHandle" ∧ (parseMethodDescriptor yX6_common.desc).map (fun d => d.parameters.length) = some 3 := by decide +kernel
set_option maxHeartbeats 4000000 in
set_option maxRecDepth 100000 in
theorem c_X6_common (l : Launch) (k : jm_C) (r0 : Nat) (v1 : Int32) (v2 : Int32) (M : jm_M) (hr0 : jm_is r0 (3, 4)) (q : Int32) (h : X6_common r0 v1 v2 M = some q) : jm_Ci l k yX6_common w_X6_common { frames := 1, cells := 0, slots := 0, locals := 40 } [.ref (jm_ad k r0), .int v1, .int v2] M q M := by
  refine jm_entry_i (cc := cX6_common) (nL := 3) (ret := (some .int)) (by decide) rfl (Nat.le_of_ble_eq_true rfl) ?_
  intro X hX C hQ hr
  subst hX
  unfold X6_common at h
  refine jt_aload_n C dX6_common_0 rfl 0 rfl ?_
  refine jt_iload_n C dX6_common_1 rfl 1 rfl ?_
  obtain ⟨x1, ex1, h⟩ := jm_bind h
  refine jt_callVi (As := [_]) (rest := []) C hr0 rfl dX6_common_2 (c_X4_row (jx_l X) k _ _ _ hr0 _ ex1) (k_goodIn (g_RX6_48)) rfl h_X4_row ⟨rfl, rfl, Nat.le_of_ble_eq_true rfl, Nat.le_of_ble_eq_true rfl⟩ rfl rfl (Nat.le_of_ble_eq_true rfl) ?_
  refine jt_aload_n C dX6_common_5 rfl 0 rfl ?_
  refine jt_iload_n C dX6_common_6 rfl 2 rfl ?_
  obtain ⟨x2, ex2, h⟩ := jm_bind h
  refine jt_callVi (As := [_]) (rest := [_]) C hr0 rfl dX6_common_7 (c_X4_row (jx_l X) k _ _ _ hr0 _ ex2) (k_goodIn (g_RX6_48)) rfl h_X4_row ⟨rfl, rfl, Nat.le_of_ble_eq_true rfl, Nat.le_of_ble_eq_true rfl⟩ rfl rfl (Nat.le_of_ble_eq_true rfl) ?_
  refine jt_iand C dX6_common_10 ?_
  cases h
  exact jt_iret C dX6_common_11 hQ hr
theorem h_X6_diamonds : yX6_diamonds.cls ≠ "java/lang/invoke/MethodHandle" ∧ yX6_diamonds.cls ≠ "java/lang/invoke/VarHandle" ∧ (parseMethodDescriptor yX6_diamonds.desc).map (fun d => d.parameters.length) = some 1 := by decide +kernel
set_option maxHeartbeats 4000000 in
set_option maxRecDepth 100000 in
theorem t_X6_diamonds_L14 {X : jm_X} {k : jm_C} (C : jm_Cx X k cX6_diamonds 4 RX6 w_X6_diamonds) (r0 : Nat) (v2 : Int32) (M : jm_M) (hr0 : jm_is r0 (3, 4)) : ∀ (m : Nat) (s : Int32 × Int32) (r : Int32), jm_loop (X6_diamonds_B14 r0 v2 M) m s = some r → jm_T X { frames := 2, cells := 0, slots := 0, locals := 80 } k 4 M 47 [(0, .ref (jm_ad k r0)), (1, .int r), (2, .int v2)] [] → (∀ (b0 : Int32) (b1 : Int32), s = (b0, b1) → jm_T X { frames := 2, cells := 0, slots := 0, locals := 80 } k 4 M 14 [(0, .ref (jm_ad k r0)), (1, .int b0), (2, .int v2), (3, .int b1)] []) := by
  refine jm_loop_ind (P := fun (s : Int32 × Int32) => (∀ (b0 : Int32) (b1 : Int32), s = (b0, b1) → jm_T X { frames := 2, cells := 0, slots := 0, locals := 80 } k 4 M 14 [(0, .ref (jm_ad k r0)), (1, .int b0), (2, .int v2), (3, .int b1)] [])) (K := fun (r : Int32) => jm_T X { frames := 2, cells := 0, slots := 0, locals := 80 } k 4 M 47 [(0, .ref (jm_ad k r0)), (1, .int r), (2, .int v2)] []) ?_
  intro s q h h1 h2
  intro b0 b1 hs
  subst hs
  unfold X6_diamonds_B14 at h
  try dsimp only at h
  refine jt_iload_n C dX6_diamonds_14 rfl 3 rfl ?_
  refine jt_iload_n C dX6_diamonds_15 rfl 2 rfl ?_
  refine jt_icmp_ge (tgt := 47) C dX6_diamonds_16 (by decide) (fun c16 => ?_) (fun c16 => ?_)
  · replace h := jm_ift c16 h
    cases h
    exact jt_sub [0, 1, 2] rfl (h2 _ rfl)
  · replace h := jm_iff c16 h
    refine jt_iload_n C dX6_diamonds_19 rfl 1 rfl ?_
    refine jt_aload_n C dX6_diamonds_20 rfl 0 rfl ?_
    refine jt_iload_n C dX6_diamonds_21 rfl 3 rfl ?_
    refine jt_iload_n C dX6_diamonds_22 rfl 2 rfl ?_
    obtain ⟨x1, ex1, h⟩ := jm_bind h
    refine jt_callVi (As := [_, _]) (rest := [_]) C hr0 rfl dX6_diamonds_23 (c_X4_link (jx_l X) k _ _ _ _ hr0 _ ex1) (k_goodIn (g_RX6_64)) rfl h_X4_link ⟨rfl, rfl, Nat.le_of_ble_eq_true rfl, Nat.le_of_ble_eq_true rfl⟩ rfl rfl (Nat.le_of_ble_eq_true rfl) ?_
    refine jt_aload_n C dX6_diamonds_26 rfl 0 rfl ?_
    refine jt_iload_n C dX6_diamonds_27 rfl 3 rfl ?_
    refine jt_iload_n C dX6_diamonds_28 rfl 2 rfl ?_
    obtain ⟨x2, ex2, h⟩ := jm_bind h
    refine jt_callSi (As := [_, _, _]) (rest := [_, _]) C dX6_diamonds_29 (c_X6_common (jx_l X) k _ _ _ _ hr0 _ ex2) (k_goodIn (g_RX6_68)) rfl h_X6_common ⟨rfl, rfl, Nat.le_of_ble_eq_true rfl, Nat.le_of_ble_eq_true rfl⟩ rfl rfl (Nat.le_of_ble_eq_true rfl) ?_
    refine jt_callSi (As := [_]) (rest := [_, _]) C dX6_diamonds_32 (c_J6_bitCount_0f7a4 (jx_l X) k _ _ _ rfl) (k_goodIn (g_RX6_72)) rfl h_J6_bitCount_0f7a4 ⟨rfl, rfl, Nat.le_of_ble_eq_true rfl, Nat.le_of_ble_eq_true rfl⟩ rfl rfl (Nat.le_of_ble_eq_true rfl) ?_
    refine jt_callSi (As := [_]) (rest := [_, _]) C dX6_diamonds_35 (c_X6_pairs (jx_l X) k _ _ _ rfl) (k_goodIn (g_RX6_58)) rfl h_X6_pairs ⟨rfl, rfl, Nat.le_of_ble_eq_true rfl, Nat.le_of_ble_eq_true rfl⟩ rfl rfl (Nat.le_of_ble_eq_true rfl) ?_
    refine jt_imul C dX6_diamonds_38 ?_
    refine jt_iadd C dX6_diamonds_39 ?_
    refine jt_istore_n (lv' := [(1, _), (0, _), (2, _), (3, _)]) C dX6_diamonds_40 rfl (by decide) rfl ?_
    refine jt_iinc (v := (1 : Int32)) (lv' := [(3, _), (1, _), (0, _), (2, _)]) C dX6_diamonds_41 3 rfl (by decide) (by decide) rfl ?_
    refine jt_goto (tgt := 14) C dX6_diamonds_44 (by decide) ?_
    cases h
    exact jt_sub [2, 1, 3, 0] rfl (h1 _ rfl _ _ rfl)
set_option maxHeartbeats 4000000 in
set_option maxRecDepth 100000 in
theorem t_X6_diamonds_L4 {X : jm_X} {k : jm_C} (C : jm_Cx X k cX6_diamonds 4 RX6 w_X6_diamonds) (n : Nat) (r0 : Nat) (M : jm_M) (hr0 : jm_is r0 (3, 4)) : ∀ (m : Nat) (s : Int32 × Int32) (r : Int32), jm_loop (X6_diamonds_B4 n r0 M) m s = some r → jm_T X { frames := 2, cells := 0, slots := 0, locals := 80 } k 4 M 53 [(1, .int r)] [] → (∀ (b0 : Int32) (b1 : Int32), s = (b0, b1) → jm_T X { frames := 2, cells := 0, slots := 0, locals := 80 } k 4 M 4 [(0, .ref (jm_ad k r0)), (1, .int b0), (2, .int b1)] []) := by
  refine jm_loop_ind (P := fun (s : Int32 × Int32) => (∀ (b0 : Int32) (b1 : Int32), s = (b0, b1) → jm_T X { frames := 2, cells := 0, slots := 0, locals := 80 } k 4 M 4 [(0, .ref (jm_ad k r0)), (1, .int b0), (2, .int b1)] [])) (K := fun (r : Int32) => jm_T X { frames := 2, cells := 0, slots := 0, locals := 80 } k 4 M 53 [(1, .int r)] []) ?_
  intro s q h h1 h2
  intro b0 b1 hs
  subst hs
  unfold X6_diamonds_B4 at h
  try dsimp only at h
  refine jt_iload_n C dX6_diamonds_4 rfl 2 rfl ?_
  refine jt_aload_n C dX6_diamonds_5 rfl 0 rfl ?_
  refine jt_callVi (As := []) (rest := [_]) C hr0 rfl dX6_diamonds_6 (c_X4_size (jx_l X) k _ _ hr0 _ rfl) (k_goodIn (g_RX6_52)) rfl h_X4_size ⟨rfl, rfl, Nat.le_of_ble_eq_true rfl, Nat.le_of_ble_eq_true rfl⟩ rfl rfl (Nat.le_of_ble_eq_true rfl) ?_
  refine jt_icmp_ge (tgt := 53) C dX6_diamonds_9 (by decide) (fun c9 => ?_) (fun c9 => ?_)
  · replace h := jm_ift c9 h
    cases h
    exact jt_sub [1] rfl (h2 _ rfl)
  · replace h := jm_iff c9 h
    refine jt_iconst (v := (0 : Int32)) C dX6_diamonds_12 (by decide) ?_
    refine jt_istore_n (lv' := [(3, _), (0, _), (1, _), (2, _)]) C dX6_diamonds_13 rfl (by decide) rfl ?_
    obtain ⟨q3, eq3, h⟩ := jm_bind h
    refine jt_sub [1, 2, 3, 0] rfl ?_
    refine t_X6_diamonds_L14 C _ _ _ hr0 n _ _ eq3 ?_ _ _ rfl
    refine jt_iinc (v := (1 : Int32)) (lv' := [(2, _), (0, _), (1, _)]) C dX6_diamonds_47 2 rfl (by decide) (by decide) rfl ?_
    refine jt_goto (tgt := 4) C dX6_diamonds_50 (by decide) ?_
    cases h
    exact jt_sub [1, 2, 0] rfl (h1 _ rfl _ _ rfl)
set_option maxHeartbeats 4000000 in
set_option maxRecDepth 100000 in
theorem c_X6_diamonds (l : Launch) (k : jm_C) (n : Nat) (r0 : Nat) (M : jm_M) (hr0 : jm_is r0 (3, 4)) (q : Int32) (h : X6_diamonds n r0 M = some q) : jm_Ci l k yX6_diamonds w_X6_diamonds { frames := 2, cells := 0, slots := 0, locals := 80 } [.ref (jm_ad k r0)] M q M := by
  refine jm_entry_i (cc := cX6_diamonds) (nL := 4) (ret := (some .int)) (by decide) rfl (Nat.le_of_ble_eq_true rfl) ?_
  intro X hX C hQ hr
  subst hX
  unfold X6_diamonds at h
  refine jt_iconst (v := (0 : Int32)) C dX6_diamonds_0 (by decide) ?_
  refine jt_istore_n (lv' := [(1, _), (0, _)]) C dX6_diamonds_1 rfl (by decide) rfl ?_
  refine jt_iconst (v := (1 : Int32)) C dX6_diamonds_2 (by decide) ?_
  refine jt_istore_n (lv' := [(2, _), (1, _), (0, _)]) C dX6_diamonds_3 rfl (by decide) rfl ?_
  obtain ⟨q4, eq4, h⟩ := jm_bind h
  refine jt_sub [2, 1, 0] rfl ?_
  refine t_X6_diamonds_L4 C n _ _ hr0 n _ _ eq4 ?_ _ _ rfl
  refine jt_iload_n C dX6_diamonds_53 rfl 0 rfl ?_
  cases h
  exact jt_iret C dX6_diamonds_54 hQ hr
theorem h_X4_edgesWithin : yX4_edgesWithin.cls = RX4 ∧ yX4_edgesWithin.cls ≠ "java/lang/invoke/MethodHandle" ∧ yX4_edgesWithin.cls ≠ "java/lang/invoke/VarHandle" ∧ (parseMethodDescriptor yX4_edgesWithin.desc).map (fun d => d.parameters.length) = some 1 := by decide +kernel
set_option maxHeartbeats 4000000 in
set_option maxRecDepth 100000 in
theorem t_X4_edgesWithin_L4 {X : jm_X} {k : jm_C} (C : jm_Cx X k cX4_edgesWithin 4 RX4 w_X4_edgesWithin) (r0 : Nat) (v1 : Int32) (M : jm_M) (hr0 : jm_is r0 (3, 4)) : ∀ (m : Nat) (s : Int32 × Int32) (r : Int32), jm_loop (X4_edgesWithin_B4 r0 v1 M) m s = some r → jm_T X { frames := 1, cells := 0, slots := 0, locals := 40 } k 4 M 41 [(2, .int r)] [] → (∀ (b0 : Int32) (b1 : Int32), s = (b0, b1) → jm_T X { frames := 1, cells := 0, slots := 0, locals := 40 } k 4 M 4 [(0, .ref (jm_ad k r0)), (1, .int v1), (2, .int b0), (3, .int b1)] []) := by
  refine jm_loop_ind (P := fun (s : Int32 × Int32) => (∀ (b0 : Int32) (b1 : Int32), s = (b0, b1) → jm_T X { frames := 1, cells := 0, slots := 0, locals := 40 } k 4 M 4 [(0, .ref (jm_ad k r0)), (1, .int v1), (2, .int b0), (3, .int b1)] [])) (K := fun (r : Int32) => jm_T X { frames := 1, cells := 0, slots := 0, locals := 40 } k 4 M 41 [(2, .int r)] []) ?_
  intro s q h h1 h2
  intro b0 b1 hs
  subst hs
  unfold X4_edgesWithin_B4 at h
  try dsimp only at h
  refine jt_iload_n C dX4_edgesWithin_4 rfl 3 rfl ?_
  refine jt_aload_n C dX4_edgesWithin_5 rfl 0 rfl ?_
  refine jt_getI (Tf := TX4) (N := 2) C dX4_edgesWithin_6 hr0 rfl i_4 1 (by decide) rfl m_RX4_15 rfl ?_
  refine jt_icmp_ge (tgt := 41) C dX4_edgesWithin_9 (by decide) (fun c9 => ?_) (fun c9 => ?_)
  · replace h := jm_ift c9 h
    cases h
    exact jt_sub [2] rfl (h2 _ rfl)
  · replace h := jm_iff c9 h
    refine jt_iload_n C dX4_edgesWithin_12 rfl 1 rfl ?_
    refine jt_iload_n C dX4_edgesWithin_13 rfl 3 rfl ?_
    refine jt_ishr C dX4_edgesWithin_14 ?_
    refine jt_iconst (v := (1 : Int32)) C dX4_edgesWithin_15 (by decide) ?_
    refine jt_iand C dX4_edgesWithin_16 ?_
    refine jt_iconst (v := (1 : Int32)) C dX4_edgesWithin_17 (by decide) ?_
    refine jt_icmp_ne (tgt := 35) C dX4_edgesWithin_18 (by decide) (fun c18 => ?_) (fun c18 => ?_)
    · replace h := jm_iff c18 h
      refine jt_iinc (v := (1 : Int32)) (lv' := [(3, _), (0, _), (1, _), (2, _)]) C dX4_edgesWithin_35 3 rfl (by decide) (by decide) rfl ?_
      refine jt_goto (tgt := 4) C dX4_edgesWithin_38 (by decide) ?_
      cases h
      exact jt_sub [1, 2, 3, 0] rfl (h1 _ rfl _ _ rfl)
    · replace h := jm_ift c18 h
      refine jt_iload_n C dX4_edgesWithin_21 rfl 2 rfl ?_
      refine jt_aload_n C dX4_edgesWithin_22 rfl 0 rfl ?_
      refine jt_getR (Tf := TX4) (N := 2) C dX4_edgesWithin_23 hr0 rfl i_4 0 (by decide) rfl m_RX4_9 rfl ?_
      refine jt_iload_n C dX4_edgesWithin_26 rfl 3 rfl ?_
      obtain ⟨x1, ex1, h⟩ := jm_bind h
      refine jt_iald C dX4_edgesWithin_27 (jm_f4_0 hr0) ex1 ?_
      refine jt_iload_n C dX4_edgesWithin_28 rfl 1 rfl ?_
      refine jt_iand C dX4_edgesWithin_29 ?_
      refine jt_callSi (As := [_]) (rest := [_]) C dX4_edgesWithin_30 (c_J6_bitCount_0f7a4 (jx_l X) k _ _ _ rfl) (k_goodIn (g_RX4_27)) rfl h_J6_bitCount_0f7a4 ⟨rfl, rfl, Nat.le_of_ble_eq_true rfl, Nat.le_of_ble_eq_true rfl⟩ rfl rfl (Nat.le_of_ble_eq_true rfl) ?_
      refine jt_iadd C dX4_edgesWithin_33 ?_
      refine jt_istore_n (lv' := [(2, _), (0, _), (1, _), (3, _)]) C dX4_edgesWithin_34 rfl (by decide) rfl ?_
      refine jt_iinc (v := (1 : Int32)) (lv' := [(3, _), (2, _), (0, _), (1, _)]) C dX4_edgesWithin_35 3 rfl (by decide) (by decide) rfl ?_
      refine jt_goto (tgt := 4) C dX4_edgesWithin_38 (by decide) ?_
      cases h
      exact jt_sub [2, 3, 1, 0] rfl (h1 _ rfl _ _ rfl)
set_option maxHeartbeats 4000000 in
set_option maxRecDepth 100000 in
theorem c_X4_edgesWithin (l : Launch) (k : jm_C) (n : Nat) (r0 : Nat) (v1 : Int32) (M : jm_M) (hr0 : jm_is r0 (3, 4)) (q : Int32) (h : X4_edgesWithin n r0 v1 M = some q) : jm_Ci l k yX4_edgesWithin w_X4_edgesWithin { frames := 1, cells := 0, slots := 0, locals := 40 } [.ref (jm_ad k r0), .int v1] M q M := by
  refine jm_entry_i (cc := cX4_edgesWithin) (nL := 4) (ret := (some .int)) (by decide) rfl (Nat.le_of_ble_eq_true rfl) ?_
  intro X hX C hQ hr
  subst hX
  unfold X4_edgesWithin at h
  refine jt_iconst (v := (0 : Int32)) C dX4_edgesWithin_0 (by decide) ?_
  refine jt_istore_n (lv' := [(2, _), (0, _), (1, _)]) C dX4_edgesWithin_1 rfl (by decide) rfl ?_
  refine jt_iconst (v := (0 : Int32)) C dX4_edgesWithin_2 (by decide) ?_
  refine jt_istore_n (lv' := [(3, _), (2, _), (0, _), (1, _)]) C dX4_edgesWithin_3 rfl (by decide) rfl ?_
  obtain ⟨q2, eq2, h⟩ := jm_bind h
  refine jt_sub [2, 3, 1, 0] rfl ?_
  refine t_X4_edgesWithin_L4 C _ _ _ hr0 n _ _ eq2 ?_ _ _ rfl
  refine jt_iload_n C dX4_edgesWithin_41 rfl 0 rfl ?_
  refine jt_iconst (v := (2 : Int32)) C dX4_edgesWithin_42 (by decide) ?_
  refine jt_idiv C dX4_edgesWithin_43 (if_neg (by decide)) ?_
  cases h
  exact jt_iret C dX4_edgesWithin_44 hQ hr
theorem h_X6_triangles : yX6_triangles.cls ≠ "java/lang/invoke/MethodHandle" ∧ yX6_triangles.cls ≠ "java/lang/invoke/VarHandle" ∧ (parseMethodDescriptor yX6_triangles.desc).map (fun d => d.parameters.length) = some 1 := by decide +kernel
set_option maxHeartbeats 4000000 in
set_option maxRecDepth 100000 in
theorem t_X6_triangles_L4 {X : jm_X} {k : jm_C} (C : jm_Cx X k cX6_triangles 3 RX6 w_X6_triangles) (n : Nat) (r0 : Nat) (M : jm_M) (hr0 : jm_is r0 (3, 4)) : ∀ (m : Nat) (s : Int32 × Int32) (r : Int32), jm_loop (X6_triangles_B4 n r0 M) m s = some r → jm_T X { frames := 2, cells := 0, slots := 0, locals := 80 } k 3 M 30 [(1, .int r)] [] → (∀ (b0 : Int32) (b1 : Int32), s = (b0, b1) → jm_T X { frames := 2, cells := 0, slots := 0, locals := 80 } k 3 M 4 [(0, .ref (jm_ad k r0)), (1, .int b0), (2, .int b1)] []) := by
  refine jm_loop_ind (P := fun (s : Int32 × Int32) => (∀ (b0 : Int32) (b1 : Int32), s = (b0, b1) → jm_T X { frames := 2, cells := 0, slots := 0, locals := 80 } k 3 M 4 [(0, .ref (jm_ad k r0)), (1, .int b0), (2, .int b1)] [])) (K := fun (r : Int32) => jm_T X { frames := 2, cells := 0, slots := 0, locals := 80 } k 3 M 30 [(1, .int r)] []) ?_
  intro s q h h1 h2
  intro b0 b1 hs
  subst hs
  unfold X6_triangles_B4 at h
  try dsimp only at h
  refine jt_iload_n C dX6_triangles_4 rfl 2 rfl ?_
  refine jt_aload_n C dX6_triangles_5 rfl 0 rfl ?_
  refine jt_callVi (As := []) (rest := [_]) C hr0 rfl dX6_triangles_6 (c_X4_size (jx_l X) k _ _ hr0 _ rfl) (k_goodIn (g_RX6_52)) rfl h_X4_size ⟨rfl, rfl, Nat.le_of_ble_eq_true rfl, Nat.le_of_ble_eq_true rfl⟩ rfl rfl (Nat.le_of_ble_eq_true rfl) ?_
  refine jt_icmp_ge (tgt := 30) C dX6_triangles_9 (by decide) (fun c9 => ?_) (fun c9 => ?_)
  · replace h := jm_ift c9 h
    cases h
    exact jt_sub [1] rfl (h2 _ rfl)
  · replace h := jm_iff c9 h
    refine jt_iload_n C dX6_triangles_12 rfl 1 rfl ?_
    refine jt_aload_n C dX6_triangles_13 rfl 0 rfl ?_
    refine jt_aload_n C dX6_triangles_14 rfl 0 rfl ?_
    refine jt_iload_n C dX6_triangles_15 rfl 2 rfl ?_
    obtain ⟨x1, ex1, h⟩ := jm_bind h
    refine jt_callVi (As := [_]) (rest := [_, _]) C hr0 rfl dX6_triangles_16 (c_X4_row (jx_l X) k _ _ _ hr0 _ ex1) (k_goodIn (g_RX6_48)) rfl h_X4_row ⟨rfl, rfl, Nat.le_of_ble_eq_true rfl, Nat.le_of_ble_eq_true rfl⟩ rfl rfl (Nat.le_of_ble_eq_true rfl) ?_
    obtain ⟨x2, ex2, h⟩ := jm_bind h
    refine jt_callVi (As := [_]) (rest := [_]) C hr0 rfl dX6_triangles_19 (c_X4_edgesWithin (jx_l X) k n _ _ _ hr0 _ ex2) (k_goodIn (g_RX6_61)) rfl h_X4_edgesWithin ⟨rfl, rfl, Nat.le_of_ble_eq_true rfl, Nat.le_of_ble_eq_true rfl⟩ rfl rfl (Nat.le_of_ble_eq_true rfl) ?_
    refine jt_iadd C dX6_triangles_22 ?_
    refine jt_istore_n (lv' := [(1, _), (0, _), (2, _)]) C dX6_triangles_23 rfl (by decide) rfl ?_
    refine jt_iinc (v := (1 : Int32)) (lv' := [(2, _), (1, _), (0, _)]) C dX6_triangles_24 2 rfl (by decide) (by decide) rfl ?_
    refine jt_goto (tgt := 4) C dX6_triangles_27 (by decide) ?_
    cases h
    exact jt_sub [2, 1, 0] rfl (h1 _ rfl _ _ rfl)
set_option maxHeartbeats 4000000 in
set_option maxRecDepth 100000 in
theorem c_X6_triangles (l : Launch) (k : jm_C) (n : Nat) (r0 : Nat) (M : jm_M) (hr0 : jm_is r0 (3, 4)) (q : Int32) (h : X6_triangles n r0 M = some q) : jm_Ci l k yX6_triangles w_X6_triangles { frames := 2, cells := 0, slots := 0, locals := 80 } [.ref (jm_ad k r0)] M q M := by
  refine jm_entry_i (cc := cX6_triangles) (nL := 3) (ret := (some .int)) (by decide) rfl (Nat.le_of_ble_eq_true rfl) ?_
  intro X hX C hQ hr
  subst hX
  unfold X6_triangles at h
  refine jt_iconst (v := (0 : Int32)) C dX6_triangles_0 (by decide) ?_
  refine jt_istore_n (lv' := [(1, _), (0, _)]) C dX6_triangles_1 rfl (by decide) rfl ?_
  refine jt_iconst (v := (0 : Int32)) C dX6_triangles_2 (by decide) ?_
  refine jt_istore_n (lv' := [(2, _), (1, _), (0, _)]) C dX6_triangles_3 rfl (by decide) rfl ?_
  obtain ⟨q3, eq3, h⟩ := jm_bind h
  refine jt_sub [2, 1, 0] rfl ?_
  refine t_X6_triangles_L4 C n _ _ hr0 n _ _ eq3 ?_ _ _ rfl
  refine jt_iload_n C dX6_triangles_30 rfl 0 rfl ?_
  refine jt_iconst (v := (3 : Int32)) C dX6_triangles_31 (by decide) ?_
  refine jt_idiv C dX6_triangles_32 (if_neg (by decide)) ?_
  cases h
  exact jt_iret C dX6_triangles_33 hQ hr
