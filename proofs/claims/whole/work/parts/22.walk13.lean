theorem h_X9_edgesCounted : yX9_edgesCounted.cls = RX9 ∧ yX9_edgesCounted.cls ≠ "java/lang/invoke/MethodHandle" ∧ yX9_edgesCounted.cls ≠ "java/lang/invoke/VarHandle" ∧ (parseMethodDescriptor yX9_edgesCounted.desc).map (fun d => d.parameters.length) = some 0 := by decide +kernel
set_option maxHeartbeats 4000000 in
set_option maxRecDepth 100000 in
theorem c_X9_edgesCounted (l : Launch) (k : jm_C) (n : Nat) (r0 : Nat) (M : jm_M) (hr0 : jm_is r0 (3, 8)) (q : Int32) (h : X9_edgesCounted n r0 M = some q) : jm_Ci l k yX9_edgesCounted w_X9_edgesCounted { frames := 2, cells := 0, slots := 0, locals := 80 } [.ref (jm_ad k r0)] M q M := by
  refine jm_entry_i (cc := cX9_edgesCounted) (nL := 2) (ret := (some .int)) (by decide) rfl (Nat.le_of_ble_eq_true rfl) ?_
  intro X hX C hQ hr
  subst hX
  unfold X9_edgesCounted at h
  refine jt_aload_n C dX9_edgesCounted_0 rfl 0 rfl ?_
  refine jt_getR (Tf := TX9) (N := 17) C dX9_edgesCounted_1 hr0 rfl i_9 0 (by decide) rfl m_RX9_7 rfl ?_
  refine jt_iconst (v := (2 : Int32)) C dX9_edgesCounted_4 (by decide) ?_
  obtain ⟨x1, ex1, h⟩ := jm_bind h
  refine jt_iald C dX9_edgesCounted_5 (jm_f8_0 hr0) ex1 ?_
  refine jt_iconst (v := (2 : Int32)) C dX9_edgesCounted_6 (by decide) ?_
  refine jt_isub C dX9_edgesCounted_7 ?_
  refine jt_istore_n (lv' := [(1, _), (0, _)]) C dX9_edgesCounted_8 rfl (by decide) rfl ?_
  refine jt_aload_n C dX9_edgesCounted_9 rfl 1 rfl ?_
  obtain ⟨x2, ex2, h⟩ := jm_bind h
  refine jt_callVi (As := []) (rest := []) C hr0 rfl dX9_edgesCounted_10 (c_X9_isWhole (jx_l X) k _ _ hr0 _ ex2) (k_goodIn (g_RX9_195)) rfl h_X9_isWhole ⟨rfl, rfl, Nat.le_of_ble_eq_true rfl, Nat.le_of_ble_eq_true rfl⟩ rfl rfl (Nat.le_of_ble_eq_true rfl) ?_
  refine jt_if_eq (tgt := 34) C dX9_edgesCounted_13 (by decide) (fun c13 => ?_) (fun c13 => ?_)
  · replace h := jm_ift c13 h
    refine jt_bipush (v := (-9 : Int32)) C dX9_edgesCounted_34 (by decide) ?_
    cases h
    exact jt_iret C dX9_edgesCounted_36 hQ hr
  · replace h := jm_iff c13 h
    refine jt_aload_n C dX9_edgesCounted_16 rfl 1 rfl ?_
    obtain ⟨x3, ex3, h⟩ := jm_bind h
    refine jt_callVi (As := []) (rest := []) C hr0 rfl dX9_edgesCounted_17 (c_X9_edgesOfAll (jx_l X) k n _ _ hr0 _ ex3) (k_goodIn (g_RX9_199)) rfl h_X9_edgesOfAll ⟨rfl, rfl, Nat.le_of_ble_eq_true rfl, Nat.le_of_ble_eq_true rfl⟩ rfl rfl (Nat.le_of_ble_eq_true rfl) ?_
    refine jt_iload_n C dX9_edgesCounted_20 rfl 0 rfl ?_
    obtain ⟨x4, ex4, h⟩ := jm_bind h
    refine jt_irem C dX9_edgesCounted_21 ex4 ?_
    refine jt_if_ne (tgt := 34) C dX9_edgesCounted_22 (by decide) (fun c22 => ?_) (fun c22 => ?_)
    · replace h := jm_iff c22 h
      refine jt_bipush (v := (-9 : Int32)) C dX9_edgesCounted_34 (by decide) ?_
      cases h
      exact jt_iret C dX9_edgesCounted_36 hQ hr
    · replace h := jm_ift c22 h
      refine jt_aload_n C dX9_edgesCounted_25 rfl 1 rfl ?_
      obtain ⟨x5, ex5, h⟩ := jm_bind h
      refine jt_callVi (As := []) (rest := []) C hr0 rfl dX9_edgesCounted_26 (c_X9_edgesOfAll (jx_l X) k n _ _ hr0 _ ex5) (k_goodIn (g_RX9_199)) rfl h_X9_edgesOfAll ⟨rfl, rfl, Nat.le_of_ble_eq_true rfl, Nat.le_of_ble_eq_true rfl⟩ rfl rfl (Nat.le_of_ble_eq_true rfl) ?_
      refine jt_iload_n C dX9_edgesCounted_29 rfl 0 rfl ?_
      obtain ⟨x6, ex6, h⟩ := jm_bind h
      refine jt_idiv C dX9_edgesCounted_30 ex6 ?_
      refine jt_goto (tgt := 36) C dX9_edgesCounted_31 (by decide) ?_
      cases h
      exact jt_iret C dX9_edgesCounted_36 hQ hr
theorem h_X9_degreeCounted : yX9_degreeCounted.cls = RX9 ∧ yX9_degreeCounted.cls ≠ "java/lang/invoke/MethodHandle" ∧ yX9_degreeCounted.cls ≠ "java/lang/invoke/VarHandle" ∧ (parseMethodDescriptor yX9_degreeCounted.desc).map (fun d => d.parameters.length) = some 1 := by decide +kernel
set_option maxHeartbeats 4000000 in
set_option maxRecDepth 100000 in
theorem c_X9_degreeCounted (l : Launch) (k : jm_C) (n : Nat) (r0 : Nat) (v1 : Int32) (M : jm_M) (hr0 : jm_is r0 (3, 8)) (q : Int32) (h : X9_degreeCounted n r0 v1 M = some q) : jm_Ci l k yX9_degreeCounted w_X9_degreeCounted { frames := 3, cells := 0, slots := 0, locals := 120 } [.ref (jm_ad k r0), .int v1] M q M := by
  refine jm_entry_i (cc := cX9_degreeCounted) (nL := 3) (ret := (some .int)) (by decide) rfl (Nat.le_of_ble_eq_true rfl) ?_
  intro X hX C hQ hr
  subst hX
  unfold X9_degreeCounted at h
  refine jt_aload_n C dX9_degreeCounted_0 rfl 0 rfl ?_
  obtain ⟨x1, ex1, h⟩ := jm_bind h
  refine jt_callVi (As := []) (rest := []) C hr0 rfl dX9_degreeCounted_1 (c_X9_edgesCounted (jx_l X) k n _ _ hr0 _ ex1) (k_goodIn (g_RX9_202)) rfl h_X9_edgesCounted ⟨rfl, rfl, Nat.le_of_ble_eq_true rfl, Nat.le_of_ble_eq_true rfl⟩ rfl rfl (Nat.le_of_ble_eq_true rfl) ?_
  refine jt_istore_n (lv' := [(2, _), (0, _), (1, _)]) C dX9_degreeCounted_4 rfl (by decide) rfl ?_
  refine jt_iload_n C dX9_degreeCounted_5 rfl 0 rfl ?_
  refine jt_bipush (v := (-9 : Int32)) C dX9_degreeCounted_6 (by decide) ?_
  refine jt_icmp_ne (tgt := 16) C dX9_degreeCounted_8 (by decide) (fun c8 => ?_) (fun c8 => ?_)
  · replace h := jm_iff c8 h
    refine jt_iload_n C dX9_degreeCounted_16 rfl 0 rfl ?_
    refine jt_aload_n C dX9_degreeCounted_17 rfl 1 rfl ?_
    refine jt_getR (Tf := TX9) (N := 17) C dX9_degreeCounted_18 hr0 rfl i_9 0 (by decide) rfl m_RX9_7 rfl ?_
    refine jt_iconst (v := (4 : Int32)) C dX9_degreeCounted_21 (by decide) ?_
    refine jt_iload_n C dX9_degreeCounted_22 rfl 2 rfl ?_
    refine jt_iadd C dX9_degreeCounted_23 ?_
    obtain ⟨x2, ex2, h⟩ := jm_bind h
    refine jt_iald C dX9_degreeCounted_24 (jm_f8_0 hr0) ex2 ?_
    obtain ⟨x3, ex3, h⟩ := jm_bind h
    refine jt_callSi (As := [_]) (rest := [_]) C dX9_degreeCounted_25 (c_X9_bits (jx_l X) k n _ _ _ ex3) (k_goodIn (g_RX9_118)) rfl h_X9_bits ⟨rfl, rfl, Nat.le_of_ble_eq_true rfl, Nat.le_of_ble_eq_true rfl⟩ rfl rfl (Nat.le_of_ble_eq_true rfl) ?_
    refine jt_isub C dX9_degreeCounted_28 ?_
    cases h
    exact jt_iret C dX9_degreeCounted_29 hQ hr
  · replace h := jm_ift c8 h
    refine jt_bipush (v := (-9 : Int32)) C dX9_degreeCounted_11 (by decide) ?_
    refine jt_goto (tgt := 29) C dX9_degreeCounted_13 (by decide) ?_
    cases h
    exact jt_iret C dX9_degreeCounted_29 hQ hr
theorem h_X9_sameAs : yX9_sameAs.cls = RX9 ∧ yX9_sameAs.cls ≠ "java/lang/invoke/MethodHandle" ∧ yX9_sameAs.cls ≠ "java/lang/invoke/VarHandle" ∧ (parseMethodDescriptor yX9_sameAs.desc).map (fun d => d.parameters.length) = some 1 := by decide +kernel
set_option maxHeartbeats 4000000 in
set_option maxRecDepth 100000 in
theorem t_X9_sameAs_L4 {X : jm_X} {k : jm_C} (C : jm_Cx X k cX9_sameAs 4 RX9 w_X9_sameAs) (r0 : Nat) (v1 : Int32) (M : jm_M) (hr0 : jm_is r0 (3, 8)) : ∀ (m : Nat) (s : Int32 × Int32) (r : Int32), jm_loop (X9_sameAs_B4 r0 v1 M) m s = some r → jm_T X { frames := 0, cells := 0, slots := 0, locals := 0 } k 4 M 47 [(2, .int r)] [] → (∀ (b0 : Int32) (b1 : Int32), s = (b0, b1) → jm_T X { frames := 0, cells := 0, slots := 0, locals := 0 } k 4 M 4 [(0, .ref (jm_ad k r0)), (1, .int v1), (2, .int b0), (3, .int b1)] []) := by
  refine jm_loop_ind (P := fun (s : Int32 × Int32) => (∀ (b0 : Int32) (b1 : Int32), s = (b0, b1) → jm_T X { frames := 0, cells := 0, slots := 0, locals := 0 } k 4 M 4 [(0, .ref (jm_ad k r0)), (1, .int v1), (2, .int b0), (3, .int b1)] [])) (K := fun (r : Int32) => jm_T X { frames := 0, cells := 0, slots := 0, locals := 0 } k 4 M 47 [(2, .int r)] []) ?_
  intro s q h h1 h2
  intro b0 b1 hs
  subst hs
  unfold X9_sameAs_B4 at h
  try dsimp only at h
  refine jt_iload_n C dX9_sameAs_4 rfl 3 rfl ?_
  refine jt_aload_n C dX9_sameAs_5 rfl 0 rfl ?_
  refine jt_getR (Tf := TX9) (N := 17) C dX9_sameAs_6 hr0 rfl i_9 0 (by decide) rfl m_RX9_7 rfl ?_
  refine jt_iconst (v := (3 : Int32)) C dX9_sameAs_9 (by decide) ?_
  obtain ⟨x1, ex1, h⟩ := jm_bind h
  refine jt_iald C dX9_sameAs_10 (jm_f8_0 hr0) ex1 ?_
  refine jt_icmp_ge (tgt := 47) C dX9_sameAs_11 (by decide) (fun c11 => ?_) (fun c11 => ?_)
  · replace h := jm_ift c11 h
    cases h
    exact jt_sub [2] rfl (h2 _ rfl)
  · replace h := jm_iff c11 h
    refine jt_iload_n C dX9_sameAs_14 rfl 2 rfl ?_
    refine jt_aload_n C dX9_sameAs_15 rfl 0 rfl ?_
    refine jt_getR (Tf := TX9) (N := 17) C dX9_sameAs_16 hr0 rfl i_9 0 (by decide) rfl m_RX9_7 rfl ?_
    refine jt_iconst (v := (4 : Int32)) C dX9_sameAs_19 (by decide) ?_
    refine jt_iload_n C dX9_sameAs_20 rfl 3 rfl ?_
    refine jt_iadd C dX9_sameAs_21 ?_
    obtain ⟨x2, ex2, h⟩ := jm_bind h
    refine jt_iald C dX9_sameAs_22 (jm_f8_0 hr0) ex2 ?_
    refine jt_aload_n C dX9_sameAs_23 rfl 0 rfl ?_
    refine jt_getR (Tf := TX9) (N := 17) C dX9_sameAs_24 hr0 rfl i_9 0 (by decide) rfl m_RX9_7 rfl ?_
    refine jt_iconst (v := (4 : Int32)) C dX9_sameAs_27 (by decide) ?_
    refine jt_iload_n C dX9_sameAs_28 rfl 1 rfl ?_
    refine jt_iadd C dX9_sameAs_29 ?_
    obtain ⟨x3, ex3, h⟩ := jm_bind h
    refine jt_iald C dX9_sameAs_30 (jm_f8_0 hr0) ex3 ?_
    refine jt_icmp_ne (tgt := 38) C dX9_sameAs_31 (by decide) (fun c31 => ?_) (fun c31 => ?_)
    · replace h := jm_iff c31 h
      refine jt_iconst (v := (0 : Int32)) C dX9_sameAs_38 (by decide) ?_
      refine jt_iadd C dX9_sameAs_39 ?_
      refine jt_istore_n (lv' := [(2, _), (0, _), (1, _), (3, _)]) C dX9_sameAs_40 rfl (by decide) rfl ?_
      refine jt_iinc (v := (1 : Int32)) (lv' := [(3, _), (2, _), (0, _), (1, _)]) C dX9_sameAs_41 3 rfl (by decide) (by decide) rfl ?_
      refine jt_goto (tgt := 4) C dX9_sameAs_44 (by decide) ?_
      cases h
      exact jt_sub [2, 3, 1, 0] rfl (h1 _ rfl _ _ rfl)
    · replace h := jm_ift c31 h
      refine jt_iconst (v := (1 : Int32)) C dX9_sameAs_34 (by decide) ?_
      refine jt_goto (tgt := 39) C dX9_sameAs_35 (by decide) ?_
      refine jt_iadd C dX9_sameAs_39 ?_
      refine jt_istore_n (lv' := [(2, _), (0, _), (1, _), (3, _)]) C dX9_sameAs_40 rfl (by decide) rfl ?_
      refine jt_iinc (v := (1 : Int32)) (lv' := [(3, _), (2, _), (0, _), (1, _)]) C dX9_sameAs_41 3 rfl (by decide) (by decide) rfl ?_
      refine jt_goto (tgt := 4) C dX9_sameAs_44 (by decide) ?_
      cases h
      exact jt_sub [2, 3, 1, 0] rfl (h1 _ rfl _ _ rfl)
set_option maxHeartbeats 4000000 in
set_option maxRecDepth 100000 in
theorem c_X9_sameAs (l : Launch) (k : jm_C) (n : Nat) (r0 : Nat) (v1 : Int32) (M : jm_M) (hr0 : jm_is r0 (3, 8)) (q : Int32) (h : X9_sameAs n r0 v1 M = some q) : jm_Ci l k yX9_sameAs w_X9_sameAs { frames := 0, cells := 0, slots := 0, locals := 0 } [.ref (jm_ad k r0), .int v1] M q M := by
  refine jm_entry_i (cc := cX9_sameAs) (nL := 4) (ret := (some .int)) (by decide) rfl (Nat.le_of_ble_eq_true rfl) ?_
  intro X hX C hQ hr
  subst hX
  unfold X9_sameAs at h
  refine jt_iconst (v := (0 : Int32)) C dX9_sameAs_0 (by decide) ?_
  refine jt_istore_n (lv' := [(2, _), (0, _), (1, _)]) C dX9_sameAs_1 rfl (by decide) rfl ?_
  refine jt_iconst (v := (0 : Int32)) C dX9_sameAs_2 (by decide) ?_
  refine jt_istore_n (lv' := [(3, _), (2, _), (0, _), (1, _)]) C dX9_sameAs_3 rfl (by decide) rfl ?_
  obtain ⟨q4, eq4, h⟩ := jm_bind h
  refine jt_sub [2, 3, 1, 0] rfl ?_
  refine t_X9_sameAs_L4 C _ _ _ hr0 n _ _ eq4 ?_ _ _ rfl
  refine jt_iload_n C dX9_sameAs_47 rfl 0 rfl ?_
  cases h
  exact jt_iret C dX9_sameAs_48 hQ hr
theorem h_X9_card : yX9_card.cls = RX9 ∧ yX9_card.cls ≠ "java/lang/invoke/MethodHandle" ∧ yX9_card.cls ≠ "java/lang/invoke/VarHandle" ∧ (parseMethodDescriptor yX9_card.desc).map (fun d => d.parameters.length) = some 2 := by decide +kernel
set_option maxHeartbeats 4000000 in
set_option maxRecDepth 100000 in
theorem c_X9_card (l : Launch) (k : jm_C) (n : Nat) (r0 : Nat) (v1 : Int32) (v2 : Int32) (M : jm_M) (hr0 : jm_is r0 (3, 8)) (q1 : Int32) (q2 : jm_M) (h : X9_card n r0 v1 v2 M = some (q1, q2)) : jm_Ci l k yX9_card w_X9_card { frames := 9, cells := 0, slots := 0, locals := 360 } [.ref (jm_ad k r0), .int v1, .int v2] M q1 q2 := by
  refine jm_entry_i (cc := cX9_card) (nL := 3) (ret := (some .int)) (by decide) rfl (Nat.le_of_ble_eq_true rfl) ?_
  intro X hX C hQ hr
  subst hX
  unfold X9_card at h
  refine jt_aload_n C dX9_card_0 rfl 0 rfl ?_
  refine jt_iload_n C dX9_card_1 rfl 1 rfl ?_
  obtain ⟨x1, ex1, h⟩ := jm_bind h
  refine jt_callVi (As := [_]) (rest := []) C hr0 rfl dX9_card_2 (c_X9_isCard (jx_l X) k _ _ _ hr0 _ ex1) (k_goodIn (g_RX9_192)) rfl h_X9_isCard ⟨rfl, rfl, Nat.le_of_ble_eq_true rfl, Nat.le_of_ble_eq_true rfl⟩ rfl rfl (Nat.le_of_ble_eq_true rfl) ?_
  refine jt_if_eq (tgt := 17) C dX9_card_5 (by decide) (fun c5 => ?_) (fun c5 => ?_)
  · replace h := jm_ift c5 h
    refine jt_iconst (v := (-1 : Int32)) C dX9_card_17 (by decide) ?_
    cases h
    exact jt_iret C dX9_card_18 hQ hr
  · replace h := jm_iff c5 h
    refine jt_iload_n C dX9_card_8 rfl 2 rfl ?_
    refine jt_iconst (v := (0 : Int32)) C dX9_card_9 (by decide) ?_
    refine jt_iconst (v := (4 : Int32)) C dX9_card_10 (by decide) ?_
    refine jt_callSi (As := [_, _, _]) (rest := []) C dX9_card_11 (c_X9_isIn (jx_l X) k _ _ _ _ _ rfl) (k_goodIn (g_RX9_50)) rfl h_X9_isIn ⟨rfl, rfl, Nat.le_of_ble_eq_true rfl, Nat.le_of_ble_eq_true rfl⟩ rfl rfl (Nat.le_of_ble_eq_true rfl) ?_
    refine jt_if_ne (tgt := 19) C dX9_card_14 (by decide) (fun c14 => ?_) (fun c14 => ?_)
    · replace h := jm_iff c14 h
      refine jt_iload_n C dX9_card_19 rfl 2 rfl ?_
      by_cases c20_0 : v2 = (0 : Int32)
      · replace h := jm_ift c20_0 h
        refine jt_tblIn (v := 0) (tgt := 52) C dX9_card_20 c20_0 (by decide) (by decide) rfl (by decide) ?_
        refine jt_aload_n C dX9_card_52 rfl 0 rfl ?_
        refine jt_getR (Tf := TX9) (N := 17) C dX9_card_53 hr0 rfl i_9 0 (by decide) rfl m_RX9_7 rfl ?_
        refine jt_iconst (v := (4 : Int32)) C dX9_card_56 (by decide) ?_
        refine jt_iload_n C dX9_card_57 rfl 1 rfl ?_
        refine jt_iadd C dX9_card_58 ?_
        obtain ⟨x2, ex2, h⟩ := jm_bind h
        refine jt_iald C dX9_card_59 (jm_f8_0 hr0) ex2 ?_
        cases h
        exact jt_iret C dX9_card_60 hQ hr
      replace h := jm_iff c20_0 h
      by_cases c20_1 : v2 = (1 : Int32)
      · replace h := jm_ift c20_1 h
        refine jt_tblIn (v := 1) (tgt := 61) C dX9_card_20 c20_1 (by decide) (by decide) rfl (by decide) ?_
        refine jt_aload_n C dX9_card_61 rfl 0 rfl ?_
        refine jt_getR (Tf := TX9) (N := 17) C dX9_card_62 hr0 rfl i_9 0 (by decide) rfl m_RX9_7 rfl ?_
        refine jt_iconst (v := (4 : Int32)) C dX9_card_65 (by decide) ?_
        refine jt_iload_n C dX9_card_66 rfl 1 rfl ?_
        refine jt_iadd C dX9_card_67 ?_
        obtain ⟨x3, ex3, h⟩ := jm_bind h
        refine jt_iald C dX9_card_68 (jm_f8_0 hr0) ex3 ?_
        obtain ⟨x4, ex4, h⟩ := jm_bind h
        refine jt_callSi (As := [_]) (rest := []) C dX9_card_69 (c_X9_bits (jx_l X) k n _ _ _ ex4) (k_goodIn (g_RX9_118)) rfl h_X9_bits ⟨rfl, rfl, Nat.le_of_ble_eq_true rfl, Nat.le_of_ble_eq_true rfl⟩ rfl rfl (Nat.le_of_ble_eq_true rfl) ?_
        cases h
        exact jt_iret C dX9_card_72 hQ hr
      replace h := jm_iff c20_1 h
      by_cases c20_2 : v2 = (2 : Int32)
      · replace h := jm_ift c20_2 h
        refine jt_tblIn (v := 2) (tgt := 73) C dX9_card_20 c20_2 (by decide) (by decide) rfl (by decide) ?_
        refine jt_aload_n C dX9_card_73 rfl 0 rfl ?_
        refine jt_iload_n C dX9_card_74 rfl 1 rfl ?_
        obtain ⟨x5, ex5, h⟩ := jm_bind h
        refine jt_callVi (As := [_]) (rest := []) C hr0 rfl dX9_card_75 (c_X9_sameAs (jx_l X) k n _ _ _ hr0 _ ex5) (k_goodIn (g_RX9_205)) rfl h_X9_sameAs ⟨rfl, rfl, Nat.le_of_ble_eq_true rfl, Nat.le_of_ble_eq_true rfl⟩ rfl rfl (Nat.le_of_ble_eq_true rfl) ?_
        cases h
        exact jt_iret C dX9_card_78 hQ hr
      replace h := jm_iff c20_2 h
      by_cases c20_3 : v2 = (3 : Int32)
      · replace h := jm_ift c20_3 h
        refine jt_tblIn (v := 3) (tgt := 79) C dX9_card_20 c20_3 (by decide) (by decide) rfl (by decide) ?_
        refine jt_aload_n C dX9_card_79 rfl 0 rfl ?_
        refine jt_iload_n C dX9_card_80 rfl 1 rfl ?_
        obtain ⟨x6, ex6, h⟩ := jm_bind h
        refine jt_callVi (As := [_]) (rest := []) C hr0 rfl dX9_card_81 (c_X9_degreeCounted (jx_l X) k n _ _ _ hr0 _ ex6) (k_goodIn (g_RX9_208)) rfl h_X9_degreeCounted ⟨rfl, rfl, Nat.le_of_ble_eq_true rfl, Nat.le_of_ble_eq_true rfl⟩ rfl rfl (Nat.le_of_ble_eq_true rfl) ?_
        cases h
        exact jt_iret C dX9_card_84 hQ hr
      replace h := jm_iff c20_3 h
      refine jt_tblOut (tgt := 85) C dX9_card_20 (by have a0 := jm_nei 0 c20_0; simp at a0; have a1 := jm_nei 1 c20_1; simp at a1; have a2 := jm_nei 2 c20_2; simp at a2; have a3 := jm_nei 3 c20_3; simp at a3; omega) (by decide) ?_
      refine jt_aload_n C dX9_card_85 rfl 0 rfl ?_
      refine jt_getR (Tf := TX9) (N := 17) C dX9_card_86 hr0 rfl i_9 0 (by decide) rfl m_RX9_7 rfl ?_
      refine jt_iconst (v := (3 : Int32)) C dX9_card_89 (by decide) ?_
      obtain ⟨x7, ex7, h⟩ := jm_bind h
      refine jt_iald C dX9_card_90 (jm_f8_0 hr0) ex7 ?_
      refine jt_iconst (v := (1 : Int32)) C dX9_card_91 (by decide) ?_
      refine jt_icmp_ne (tgt := 100) C dX9_card_92 (by decide) (fun c92 => ?_) (fun c92 => ?_)
      · replace h := jm_iff c92 h
        refine jt_aload_n C dX9_card_100 rfl 0 rfl ?_
        refine jt_aload_n C dX9_card_101 rfl 0 rfl ?_
        obtain ⟨x8, ex8, h⟩ := jm_bind h
        refine jt_callVi (As := []) (rest := [_]) C hr0 rfl dX9_card_102 (c_X9_all (jx_l X) k _ _ hr0 _ ex8) (k_goodIn (g_RX9_189)) rfl h_X9_all ⟨rfl, rfl, Nat.le_of_ble_eq_true rfl, Nat.le_of_ble_eq_true rfl⟩ rfl rfl (Nat.le_of_ble_eq_true rfl) ?_
        refine jt_iconst (v := (1 : Int32)) C dX9_card_105 (by decide) ?_
        refine jt_iload_n C dX9_card_106 rfl 1 rfl ?_
        refine jt_ishl C dX9_card_107 ?_
        refine jt_iconst (v := (-1 : Int32)) C dX9_card_108 (by decide) ?_
        refine jt_ixor C dX9_card_109 ?_
        refine jt_iand C dX9_card_110 ?_
        obtain ⟨⟨x9a, x9b⟩, ex9, h⟩ := jm_bind h
        try dsimp only at h
        refine jt_callVi (As := [_]) (rest := []) C hr0 rfl dX9_card_111 (c_X9_answers (jx_l X) k n _ _ _ hr0 _ _ ex9) (k_goodIn (g_RX9_211)) rfl h_X9_answers ⟨rfl, rfl, Nat.le_of_ble_eq_true rfl, Nat.le_of_ble_eq_true rfl⟩ rfl rfl (Nat.le_of_ble_eq_true rfl) ?_
        cases h
        exact jt_iret C dX9_card_114 hQ hr
      · replace h := jm_ift c92 h
        refine jt_bipush (v := (-9 : Int32)) C dX9_card_95 (by decide) ?_
        refine jt_goto (tgt := 114) C dX9_card_97 (by decide) ?_
        cases h
        exact jt_iret C dX9_card_114 hQ hr
    · replace h := jm_ift c14 h
      refine jt_iconst (v := (-1 : Int32)) C dX9_card_17 (by decide) ?_
      cases h
      exact jt_iret C dX9_card_18 hQ hr
theorem h_X9_differentHeld : yX9_differentHeld.cls = RX9 ∧ yX9_differentHeld.cls ≠ "java/lang/invoke/MethodHandle" ∧ yX9_differentHeld.cls ≠ "java/lang/invoke/VarHandle" ∧ (parseMethodDescriptor yX9_differentHeld.desc).map (fun d => d.parameters.length) = some 0 := by decide +kernel
set_option maxHeartbeats 4000000 in
set_option maxRecDepth 100000 in
theorem t_X9_differentHeld_L4 {X : jm_X} {k : jm_C} (C : jm_Cx X k cX9_differentHeld 3 RX9 w_X9_differentHeld) (r0 : Nat) (M : jm_M) (hr0 : jm_is r0 (3, 8)) : ∀ (m : Nat) (s : Int32 × Int32) (r : Int32), jm_loop (X9_differentHeld_B4 r0 M) m s = some r → jm_T X { frames := 0, cells := 0, slots := 0, locals := 0 } k 3 M 53 [(1, .int r)] [] → (∀ (b0 : Int32) (b1 : Int32), s = (b0, b1) → jm_T X { frames := 0, cells := 0, slots := 0, locals := 0 } k 3 M 4 [(0, .ref (jm_ad k r0)), (1, .int b0), (2, .int b1)] []) := by
  refine jm_loop_ind (P := fun (s : Int32 × Int32) => (∀ (b0 : Int32) (b1 : Int32), s = (b0, b1) → jm_T X { frames := 0, cells := 0, slots := 0, locals := 0 } k 3 M 4 [(0, .ref (jm_ad k r0)), (1, .int b0), (2, .int b1)] [])) (K := fun (r : Int32) => jm_T X { frames := 0, cells := 0, slots := 0, locals := 0 } k 3 M 53 [(1, .int r)] []) ?_
  intro s q h h1 h2
  intro b0 b1 hs
  subst hs
  unfold X9_differentHeld_B4 at h
  try dsimp only at h
  refine jt_iload_n C dX9_differentHeld_4 rfl 2 rfl ?_
  refine jt_aload_n C dX9_differentHeld_5 rfl 0 rfl ?_
  refine jt_getR (Tf := TX9) (N := 17) C dX9_differentHeld_6 hr0 rfl i_9 0 (by decide) rfl m_RX9_7 rfl ?_
  refine jt_iconst (v := (3 : Int32)) C dX9_differentHeld_9 (by decide) ?_
  obtain ⟨x1, ex1, h⟩ := jm_bind h
  refine jt_iald C dX9_differentHeld_10 (jm_f8_0 hr0) ex1 ?_
  refine jt_icmp_ge (tgt := 53) C dX9_differentHeld_11 (by decide) (fun c11 => ?_) (fun c11 => ?_)
  · replace h := jm_ift c11 h
    cases h
    exact jt_sub [1] rfl (h2 _ rfl)
  · replace h := jm_iff c11 h
    refine jt_iload_n C dX9_differentHeld_14 rfl 1 rfl ?_
    refine jt_iload_n C dX9_differentHeld_15 rfl 2 rfl ?_
    refine jt_if_eq (tgt := 40) C dX9_differentHeld_16 (by decide) (fun c16 => ?_) (fun c16 => ?_)
    · replace h := jm_ift c16 h
      refine jt_iconst (v := (1 : Int32)) C dX9_differentHeld_40 (by decide) ?_
      refine jt_goto (tgt := 45) C dX9_differentHeld_41 (by decide) ?_
      refine jt_iadd C dX9_differentHeld_45 ?_
      refine jt_istore_n (lv' := [(1, _), (0, _), (2, _)]) C dX9_differentHeld_46 rfl (by decide) rfl ?_
      refine jt_iinc (v := (1 : Int32)) (lv' := [(2, _), (1, _), (0, _)]) C dX9_differentHeld_47 2 rfl (by decide) (by decide) rfl ?_
      refine jt_goto (tgt := 4) C dX9_differentHeld_50 (by decide) ?_
      cases h
      exact jt_sub [2, 1, 0] rfl (h1 _ rfl _ _ rfl)
    · replace h := jm_iff c16 h
      refine jt_aload_n C dX9_differentHeld_19 rfl 0 rfl ?_
      refine jt_getR (Tf := TX9) (N := 17) C dX9_differentHeld_20 hr0 rfl i_9 0 (by decide) rfl m_RX9_7 rfl ?_
      refine jt_iconst (v := (4 : Int32)) C dX9_differentHeld_23 (by decide) ?_
      refine jt_iload_n C dX9_differentHeld_24 rfl 2 rfl ?_
      refine jt_iadd C dX9_differentHeld_25 ?_
      obtain ⟨x2, ex2, h⟩ := jm_bind h
      refine jt_iald C dX9_differentHeld_26 (jm_f8_0 hr0) ex2 ?_
      refine jt_aload_n C dX9_differentHeld_27 rfl 0 rfl ?_
      refine jt_getR (Tf := TX9) (N := 17) C dX9_differentHeld_28 hr0 rfl i_9 0 (by decide) rfl m_RX9_7 rfl ?_
      refine jt_iconst (v := (4 : Int32)) C dX9_differentHeld_31 (by decide) ?_
      refine jt_iload_n C dX9_differentHeld_32 rfl 2 rfl ?_
      refine jt_iadd C dX9_differentHeld_33 ?_
      refine jt_iconst (v := (1 : Int32)) C dX9_differentHeld_34 (by decide) ?_
      refine jt_isub C dX9_differentHeld_35 ?_
      obtain ⟨x3, ex3, h⟩ := jm_bind h
      refine jt_iald C dX9_differentHeld_36 (jm_f8_0 hr0) ex3 ?_
      refine jt_icmp_eq (tgt := 44) C dX9_differentHeld_37 (by decide) (fun c37 => ?_) (fun c37 => ?_)
      · replace h := jm_ift c37 h
        refine jt_iconst (v := (0 : Int32)) C dX9_differentHeld_44 (by decide) ?_
        refine jt_iadd C dX9_differentHeld_45 ?_
        refine jt_istore_n (lv' := [(1, _), (0, _), (2, _)]) C dX9_differentHeld_46 rfl (by decide) rfl ?_
        refine jt_iinc (v := (1 : Int32)) (lv' := [(2, _), (1, _), (0, _)]) C dX9_differentHeld_47 2 rfl (by decide) (by decide) rfl ?_
        refine jt_goto (tgt := 4) C dX9_differentHeld_50 (by decide) ?_
        cases h
        exact jt_sub [2, 1, 0] rfl (h1 _ rfl _ _ rfl)
      · replace h := jm_iff c37 h
        refine jt_iconst (v := (1 : Int32)) C dX9_differentHeld_40 (by decide) ?_
        refine jt_goto (tgt := 45) C dX9_differentHeld_41 (by decide) ?_
        refine jt_iadd C dX9_differentHeld_45 ?_
        refine jt_istore_n (lv' := [(1, _), (0, _), (2, _)]) C dX9_differentHeld_46 rfl (by decide) rfl ?_
        refine jt_iinc (v := (1 : Int32)) (lv' := [(2, _), (1, _), (0, _)]) C dX9_differentHeld_47 2 rfl (by decide) (by decide) rfl ?_
        refine jt_goto (tgt := 4) C dX9_differentHeld_50 (by decide) ?_
        cases h
        exact jt_sub [2, 1, 0] rfl (h1 _ rfl _ _ rfl)
set_option maxHeartbeats 4000000 in
set_option maxRecDepth 100000 in
theorem c_X9_differentHeld (l : Launch) (k : jm_C) (n : Nat) (r0 : Nat) (M : jm_M) (hr0 : jm_is r0 (3, 8)) (q : Int32) (h : X9_differentHeld n r0 M = some q) : jm_Ci l k yX9_differentHeld w_X9_differentHeld { frames := 0, cells := 0, slots := 0, locals := 0 } [.ref (jm_ad k r0)] M q M := by
  refine jm_entry_i (cc := cX9_differentHeld) (nL := 3) (ret := (some .int)) (by decide) rfl (Nat.le_of_ble_eq_true rfl) ?_
  intro X hX C hQ hr
  subst hX
  unfold X9_differentHeld at h
  refine jt_iconst (v := (0 : Int32)) C dX9_differentHeld_0 (by decide) ?_
  refine jt_istore_n (lv' := [(1, _), (0, _)]) C dX9_differentHeld_1 rfl (by decide) rfl ?_
  refine jt_iconst (v := (0 : Int32)) C dX9_differentHeld_2 (by decide) ?_
  refine jt_istore_n (lv' := [(2, _), (1, _), (0, _)]) C dX9_differentHeld_3 rfl (by decide) rfl ?_
  obtain ⟨q4, eq4, h⟩ := jm_bind h
  refine jt_sub [2, 1, 0] rfl ?_
  refine t_X9_differentHeld_L4 C _ _ hr0 n _ _ eq4 ?_ _ _ rfl
  refine jt_iload_n C dX9_differentHeld_53 rfl 0 rfl ?_
  cases h
  exact jt_iret C dX9_differentHeld_54 hQ hr
theorem h_X9_areDegreesIn : yX9_areDegreesIn.cls = RX9 ∧ yX9_areDegreesIn.cls ≠ "java/lang/invoke/MethodHandle" ∧ yX9_areDegreesIn.cls ≠ "java/lang/invoke/VarHandle" ∧ (parseMethodDescriptor yX9_areDegreesIn.desc).map (fun d => d.parameters.length) = some 0 := by decide +kernel
set_option maxHeartbeats 4000000 in
set_option maxRecDepth 100000 in
theorem t_X9_areDegreesIn_L2 {X : jm_X} {k : jm_C} (C : jm_Cx X k cX9_areDegreesIn 2 RX9 w_X9_areDegreesIn) (n : Nat) (r0 : Nat) (M : jm_M) (hr0 : jm_is r0 (3, 8)) : ∀ (m : Nat) (s : Int32) (r : (Int32) ⊕ (Unit)), jm_loop (X9_areDegreesIn_B2 n r0 M) m s = some r → (match r with | .inl z => ∀ (pc1 : Nat) (lv1 : List (Nat × Value)), (decode cX9_areDegreesIn pc1 = .ok (.ireturn, 1) ∧ (z = 0 ∨ z = 1)) → jm_T X { frames := 4, cells := 0, slots := 0, locals := 160 } k 2 M pc1 lv1 [.int z] | .inr w => jm_T X { frames := 4, cells := 0, slots := 0, locals := 160 } k 2 M 40 [] []) → jm_T X { frames := 4, cells := 0, slots := 0, locals := 160 } k 2 M 2 [(0, .ref (jm_ad k r0)), (1, .int s)] [] := by
  refine jm_loop_ind (P := fun (s : Int32) => jm_T X { frames := 4, cells := 0, slots := 0, locals := 160 } k 2 M 2 [(0, .ref (jm_ad k r0)), (1, .int s)] []) (K := fun (r : (Int32) ⊕ (Unit)) => match r with | .inl z => ∀ (pc1 : Nat) (lv1 : List (Nat × Value)), (decode cX9_areDegreesIn pc1 = .ok (.ireturn, 1) ∧ (z = 0 ∨ z = 1)) → jm_T X { frames := 4, cells := 0, slots := 0, locals := 160 } k 2 M pc1 lv1 [.int z] | .inr w => jm_T X { frames := 4, cells := 0, slots := 0, locals := 160 } k 2 M 40 [] []) ?_
  intro s q h h1 h2
  unfold X9_areDegreesIn_B2 at h
  try dsimp only at h
  refine jt_iload_n C dX9_areDegreesIn_2 rfl 1 rfl ?_
  refine jt_aload_n C dX9_areDegreesIn_3 rfl 0 rfl ?_
  refine jt_getR (Tf := TX9) (N := 17) C dX9_areDegreesIn_4 hr0 rfl i_9 0 (by decide) rfl m_RX9_7 rfl ?_
  refine jt_iconst (v := (3 : Int32)) C dX9_areDegreesIn_7 (by decide) ?_
  obtain ⟨x1, ex1, h⟩ := jm_bind h
  refine jt_iald C dX9_areDegreesIn_8 (jm_f8_0 hr0) ex1 ?_
  refine jt_icmp_ge (tgt := 40) C dX9_areDegreesIn_9 (by decide) (fun c9 => ?_) (fun c9 => ?_)
  · replace h := jm_ift c9 h
    cases h
    exact jt_sub [] rfl (h2 _ rfl)
  · replace h := jm_iff c9 h
    refine jt_aload_n C dX9_areDegreesIn_12 rfl 0 rfl ?_
    refine jt_iload_n C dX9_areDegreesIn_13 rfl 1 rfl ?_
    obtain ⟨x2, ex2, h⟩ := jm_bind h
    refine jt_callVi (As := [_]) (rest := []) C hr0 rfl dX9_areDegreesIn_14 (c_X9_degreeCounted (jx_l X) k n _ _ _ hr0 _ ex2) (k_goodIn (g_RX9_208)) rfl h_X9_degreeCounted ⟨rfl, rfl, Nat.le_of_ble_eq_true rfl, Nat.le_of_ble_eq_true rfl⟩ rfl rfl (Nat.le_of_ble_eq_true rfl) ?_
    refine jt_iconst (v := (0 : Int32)) C dX9_areDegreesIn_17 (by decide) ?_
    refine jt_aload_n C dX9_areDegreesIn_18 rfl 0 rfl ?_
    refine jt_getR (Tf := TX9) (N := 17) C dX9_areDegreesIn_19 hr0 rfl i_9 0 (by decide) rfl m_RX9_7 rfl ?_
    refine jt_iconst (v := (2 : Int32)) C dX9_areDegreesIn_22 (by decide) ?_
    obtain ⟨x3, ex3, h⟩ := jm_bind h
    refine jt_iald C dX9_areDegreesIn_23 (jm_f8_0 hr0) ex3 ?_
    refine jt_iconst (v := (1 : Int32)) C dX9_areDegreesIn_24 (by decide) ?_
    refine jt_isub C dX9_areDegreesIn_25 ?_
    refine jt_callSi (As := [_, _, _]) (rest := []) C dX9_areDegreesIn_26 (c_X9_isIn (jx_l X) k _ _ _ _ _ rfl) (k_goodIn (g_RX9_50)) rfl h_X9_isIn ⟨rfl, rfl, Nat.le_of_ble_eq_true rfl, Nat.le_of_ble_eq_true rfl⟩ rfl rfl (Nat.le_of_ble_eq_true rfl) ?_
    refine jt_if_ne (tgt := 34) C dX9_areDegreesIn_29 (by decide) (fun c29 => ?_) (fun c29 => ?_)
    · replace h := jm_iff c29 h
      refine jt_iinc (v := (1 : Int32)) (lv' := [(1, _), (0, _)]) C dX9_areDegreesIn_34 1 rfl (by decide) (by decide) rfl ?_
      refine jt_goto (tgt := 2) C dX9_areDegreesIn_37 (by decide) ?_
      cases h
      exact jt_sub [1, 0] rfl (h1 _ rfl)
    · replace h := jm_ift c29 h
      refine jt_iconst (v := (0 : Int32)) C dX9_areDegreesIn_32 (by decide) ?_
      cases h
      exact h2 _ rfl _ _ ⟨dX9_areDegreesIn_33, (Or.inl rfl)⟩
set_option maxHeartbeats 4000000 in
set_option maxRecDepth 100000 in
theorem c_X9_areDegreesIn (l : Launch) (k : jm_C) (n : Nat) (r0 : Nat) (M : jm_M) (hr0 : jm_is r0 (3, 8)) (q : Int32) (h : X9_areDegreesIn n r0 M = some q) : jm_Ci l k yX9_areDegreesIn w_X9_areDegreesIn { frames := 4, cells := 0, slots := 0, locals := 160 } [.ref (jm_ad k r0)] M q M := by
  refine jm_entry_i (cc := cX9_areDegreesIn) (nL := 2) (ret := (some .boolean)) (by decide) rfl (Nat.le_of_ble_eq_true rfl) ?_
  intro X hX C hQ hr
  subst hX
  unfold X9_areDegreesIn at h
  refine jt_iconst (v := (0 : Int32)) C dX9_areDegreesIn_0 (by decide) ?_
  refine jt_istore_n (lv' := [(1, _), (0, _)]) C dX9_areDegreesIn_1 rfl (by decide) rfl ?_
  obtain ⟨q4, eq4, h⟩ := jm_bind h
  refine jt_sub [1, 0] rfl ?_
  refine t_X9_areDegreesIn_L2 C n _ _ hr0 n _ _ eq4 ?_
  rcases q4 with z5 | w6
  · replace h := jm_inl h
    intro pc1 lv1 hp1
    cases h
    exact jt_zret C hp1.1 hQ hr hp1.2
  · replace h := jm_inr h
    show jm_T _ _ _ _ _ _ _ _
    refine jt_iconst (v := (1 : Int32)) C dX9_areDegreesIn_40 (by decide) ?_
    cases h
    exact jt_zret C dX9_areDegreesIn_41 hQ hr (Or.inr rfl)
theorem h_X9_isGraphic : yX9_isGraphic.cls = RX9 ∧ yX9_isGraphic.cls ≠ "java/lang/invoke/MethodHandle" ∧ yX9_isGraphic.cls ≠ "java/lang/invoke/VarHandle" ∧ (parseMethodDescriptor yX9_isGraphic.desc).map (fun d => d.parameters.length) = some 0 := by decide +kernel
set_option maxHeartbeats 4000000 in
set_option maxRecDepth 100000 in
theorem t_X9_isGraphic_L20 {X : jm_X} {k : jm_C} (C : jm_Cx X k cX9_isGraphic 5 RX9 w_X9_isGraphic) (r0 : Nat) (v1 : Int32) (v2 : Int32) (hr0 : jm_is r0 (3, 8)) : ∀ (m : Nat) (s : Int32 × jm_M) (r : Int32 × jm_M), jm_loop (X9_isGraphic_B20 r0 v1 v2) m s = some r → (∀ (b0 : Int32) (b1 : jm_M), r = (b0, b1) → jm_T X { frames := 4, cells := 0, slots := 0, locals := 160 } k 5 b1 56 [(0, .ref (jm_ad k r0)), (1, .int v1), (2, .int v2), (3, .int b0)] []) → (∀ (b0 : Int32) (b1 : jm_M), s = (b0, b1) → jm_T X { frames := 4, cells := 0, slots := 0, locals := 160 } k 5 b1 20 [(0, .ref (jm_ad k r0)), (1, .int v1), (2, .int v2), (3, .int b0)] []) := by
  refine jm_loop_ind (P := fun (s : Int32 × jm_M) => (∀ (b0 : Int32) (b1 : jm_M), s = (b0, b1) → jm_T X { frames := 4, cells := 0, slots := 0, locals := 160 } k 5 b1 20 [(0, .ref (jm_ad k r0)), (1, .int v1), (2, .int v2), (3, .int b0)] [])) (K := fun (r : Int32 × jm_M) => ∀ (b0 : Int32) (b1 : jm_M), r = (b0, b1) → jm_T X { frames := 4, cells := 0, slots := 0, locals := 160 } k 5 b1 56 [(0, .ref (jm_ad k r0)), (1, .int v1), (2, .int v2), (3, .int b0)] []) ?_
  intro s q h h1 h2
  intro b0 b1 hs
  subst hs
  unfold X9_isGraphic_B20 at h
  try dsimp only at h
  refine jt_iload_n C dX9_isGraphic_20 rfl 3 rfl ?_
  refine jt_if_le (tgt := 56) C dX9_isGraphic_21 (by decide) (fun c21 => ?_) (fun c21 => ?_)
  · replace h := jm_ift c21 h
    cases h
    exact jt_sub [0, 1, 2, 3] rfl (h2 _ rfl _ _ rfl)
  · replace h := jm_iff c21 h
    refine jt_aload_n C dX9_isGraphic_24 rfl 0 rfl ?_
    refine jt_getR (Tf := TX9) (N := 17) C dX9_isGraphic_25 hr0 rfl i_9 15 (by decide) rfl m_RX9_44 rfl ?_
    refine jt_iload_n C dX9_isGraphic_28 rfl 3 rfl ?_
    refine jt_iconst (v := (1 : Int32)) C dX9_isGraphic_29 (by decide) ?_
    refine jt_isub C dX9_isGraphic_30 ?_
    obtain ⟨x3, ex3, h⟩ := jm_bind h
    refine jt_iald C dX9_isGraphic_31 (jm_f8_15 hr0) ex3 ?_
    refine jt_iload_n C dX9_isGraphic_32 rfl 2 rfl ?_
    refine jt_icmp_ge (tgt := 56) C dX9_isGraphic_33 (by decide) (fun c33 => ?_) (fun c33 => ?_)
    · replace h := jm_ift c33 h
      cases h
      exact jt_sub [0, 1, 2, 3] rfl (h2 _ rfl _ _ rfl)
    · replace h := jm_iff c33 h
      refine jt_aload_n C dX9_isGraphic_36 rfl 0 rfl ?_
      refine jt_getR (Tf := TX9) (N := 17) C dX9_isGraphic_37 hr0 rfl i_9 15 (by decide) rfl m_RX9_44 rfl ?_
      refine jt_iload_n C dX9_isGraphic_40 rfl 3 rfl ?_
      refine jt_aload_n C dX9_isGraphic_41 rfl 0 rfl ?_
      refine jt_getR (Tf := TX9) (N := 17) C dX9_isGraphic_42 hr0 rfl i_9 15 (by decide) rfl m_RX9_44 rfl ?_
      refine jt_iload_n C dX9_isGraphic_45 rfl 3 rfl ?_
      refine jt_iconst (v := (1 : Int32)) C dX9_isGraphic_46 (by decide) ?_
      refine jt_isub C dX9_isGraphic_47 ?_
      obtain ⟨x4, ex4, h⟩ := jm_bind h
      refine jt_iald C dX9_isGraphic_48 (jm_f8_15 hr0) ex4 ?_
      obtain ⟨M5, eM5, h⟩ := jm_bind h
      refine jt_iast C dX9_isGraphic_49 (jm_f8_15 hr0) eM5 ?_
      refine jt_iinc (v := (-1 : Int32)) (lv' := [(3, _), (0, _), (1, _), (2, _)]) C dX9_isGraphic_50 3 rfl (by decide) (by decide) rfl ?_
      refine jt_goto (tgt := 20) C dX9_isGraphic_53 (by decide) ?_
      cases h
      exact jt_sub [1, 2, 3, 0] rfl (h1 _ rfl _ _ rfl)
set_option maxHeartbeats 4000000 in
set_option maxRecDepth 100000 in
theorem t_X9_isGraphic_L2 {X : jm_X} {k : jm_C} (C : jm_Cx X k cX9_isGraphic 5 RX9 w_X9_isGraphic) (n : Nat) (r0 : Nat) (hr0 : jm_is r0 (3, 8)) : ∀ (m : Nat) (s : Int32 × jm_M) (r : jm_M), jm_loop (X9_isGraphic_B2 n r0) m s = some r → jm_T X { frames := 4, cells := 0, slots := 0, locals := 160 } k 5 r 69 [(0, .ref (jm_ad k r0))] [] → (∀ (b0 : Int32) (b1 : jm_M), s = (b0, b1) → jm_T X { frames := 4, cells := 0, slots := 0, locals := 160 } k 5 b1 2 [(0, .ref (jm_ad k r0)), (1, .int b0)] []) := by
  refine jm_loop_ind (P := fun (s : Int32 × jm_M) => (∀ (b0 : Int32) (b1 : jm_M), s = (b0, b1) → jm_T X { frames := 4, cells := 0, slots := 0, locals := 160 } k 5 b1 2 [(0, .ref (jm_ad k r0)), (1, .int b0)] [])) (K := fun (r : jm_M) => jm_T X { frames := 4, cells := 0, slots := 0, locals := 160 } k 5 r 69 [(0, .ref (jm_ad k r0))] []) ?_
  intro s q h h1 h2
  intro b0 b1 hs
  subst hs
  unfold X9_isGraphic_B2 at h
  try dsimp only at h
  refine jt_iload_n C dX9_isGraphic_2 rfl 1 rfl ?_
  refine jt_aload_n C dX9_isGraphic_3 rfl 0 rfl ?_
  refine jt_getR (Tf := TX9) (N := 17) C dX9_isGraphic_4 hr0 rfl i_9 0 (by decide) rfl m_RX9_7 rfl ?_
  refine jt_iconst (v := (3 : Int32)) C dX9_isGraphic_7 (by decide) ?_
  obtain ⟨x1, ex1, h⟩ := jm_bind h
  refine jt_iald C dX9_isGraphic_8 (jm_f8_0 hr0) ex1 ?_
  refine jt_icmp_ge (tgt := 69) C dX9_isGraphic_9 (by decide) (fun c9 => ?_) (fun c9 => ?_)
  · replace h := jm_ift c9 h
    cases h
    exact jt_sub [0] rfl (h2 _ rfl)
  · replace h := jm_iff c9 h
    refine jt_aload_n C dX9_isGraphic_12 rfl 0 rfl ?_
    refine jt_iload_n C dX9_isGraphic_13 rfl 1 rfl ?_
    obtain ⟨x2, ex2, h⟩ := jm_bind h
    refine jt_callVi (As := [_]) (rest := []) C hr0 rfl dX9_isGraphic_14 (c_X9_degreeCounted (jx_l X) k n _ _ _ hr0 _ ex2) (k_goodIn (g_RX9_208)) rfl h_X9_degreeCounted ⟨rfl, rfl, Nat.le_of_ble_eq_true rfl, Nat.le_of_ble_eq_true rfl⟩ rfl rfl (Nat.le_of_ble_eq_true rfl) ?_
    refine jt_istore_n (lv' := [(2, _), (0, _), (1, _)]) C dX9_isGraphic_17 rfl (by decide) rfl ?_
    refine jt_iload_n C dX9_isGraphic_18 rfl 2 rfl ?_
    refine jt_istore_n (lv' := [(3, _), (2, _), (0, _), (1, _)]) C dX9_isGraphic_19 rfl (by decide) rfl ?_
    obtain ⟨q6, eq6, h⟩ := jm_bind h
    refine jt_sub [2, 3, 1, 0] rfl ?_
    refine t_X9_isGraphic_L20 C _ _ _ hr0 n _ _ eq6 ?_ _ _ rfl
    intro y7_0 y7_1 hq7
    subst hq7
    try dsimp only at h
    refine jt_aload_n C dX9_isGraphic_56 rfl 0 rfl ?_
    refine jt_getR (Tf := TX9) (N := 17) C dX9_isGraphic_57 hr0 rfl i_9 15 (by decide) rfl m_RX9_44 rfl ?_
    refine jt_iload_n C dX9_isGraphic_60 rfl 3 rfl ?_
    refine jt_iload_n C dX9_isGraphic_61 rfl 2 rfl ?_
    obtain ⟨M8, eM8, h⟩ := jm_bind h
    refine jt_iast C dX9_isGraphic_62 (jm_f8_15 hr0) eM8 ?_
    refine jt_iinc (v := (1 : Int32)) (lv' := [(1, _), (0, _), (2, _), (3, _)]) C dX9_isGraphic_63 1 rfl (by decide) (by decide) rfl ?_
    refine jt_goto (tgt := 2) C dX9_isGraphic_66 (by decide) ?_
    cases h
    exact jt_sub [1, 0] rfl (h1 _ rfl _ _ rfl)
set_option maxHeartbeats 4000000 in
set_option maxRecDepth 100000 in
theorem t_X9_isGraphic_L103 {X : jm_X} {k : jm_C} (C : jm_Cx X k cX9_isGraphic 5 RX9 w_X9_isGraphic) (r0 : Nat) (v1 : Int32) (v2 : Int32) (M : jm_M) (hr0 : jm_is r0 (3, 8)) : ∀ (m : Nat) (s : Int32 × Int32) (r : Int32), jm_loop (X9_isGraphic_B103 r0 v1 v2 M) m s = some r → jm_T X { frames := 4, cells := 0, slots := 0, locals := 160 } k 5 M 145 [(0, .ref (jm_ad k r0)), (1, .int v1), (2, .int v2), (3, .int r)] [] → (∀ (b0 : Int32) (b1 : Int32), s = (b0, b1) → jm_T X { frames := 4, cells := 0, slots := 0, locals := 160 } k 5 M 103 [(0, .ref (jm_ad k r0)), (1, .int v1), (2, .int v2), (3, .int b0), (4, .int b1)] []) := by
  refine jm_loop_ind (P := fun (s : Int32 × Int32) => (∀ (b0 : Int32) (b1 : Int32), s = (b0, b1) → jm_T X { frames := 4, cells := 0, slots := 0, locals := 160 } k 5 M 103 [(0, .ref (jm_ad k r0)), (1, .int v1), (2, .int v2), (3, .int b0), (4, .int b1)] [])) (K := fun (r : Int32) => jm_T X { frames := 4, cells := 0, slots := 0, locals := 160 } k 5 M 145 [(0, .ref (jm_ad k r0)), (1, .int v1), (2, .int v2), (3, .int r)] []) ?_
  intro s q h h1 h2
  intro b0 b1 hs
  subst hs
  unfold X9_isGraphic_B103 at h
  try dsimp only at h
  refine jt_iload C dX9_isGraphic_103 4 rfl ?_
  refine jt_aload_n C dX9_isGraphic_105 rfl 0 rfl ?_
  refine jt_getR (Tf := TX9) (N := 17) C dX9_isGraphic_106 hr0 rfl i_9 0 (by decide) rfl m_RX9_7 rfl ?_
  refine jt_iconst (v := (2 : Int32)) C dX9_isGraphic_109 (by decide) ?_
  obtain ⟨x12, ex12, h⟩ := jm_bind h
  refine jt_iald C dX9_isGraphic_110 (jm_f8_0 hr0) ex12 ?_
  refine jt_icmp_ge (tgt := 145) C dX9_isGraphic_111 (by decide) (fun c111 => ?_) (fun c111 => ?_)
  · replace h := jm_ift c111 h
    cases h
    exact jt_sub [0, 1, 2, 3] rfl (h2 _ rfl)
  · replace h := jm_iff c111 h
    refine jt_iload_n C dX9_isGraphic_114 rfl 3 rfl ?_
    refine jt_aload_n C dX9_isGraphic_115 rfl 0 rfl ?_
    refine jt_getR (Tf := TX9) (N := 17) C dX9_isGraphic_116 hr0 rfl i_9 15 (by decide) rfl m_RX9_44 rfl ?_
    refine jt_iload C dX9_isGraphic_119 4 rfl ?_
    obtain ⟨x13, ex13, h⟩ := jm_bind h
    refine jt_iald C dX9_isGraphic_121 (jm_f8_15 hr0) ex13 ?_
    refine jt_iload_n C dX9_isGraphic_122 rfl 2 rfl ?_
    refine jt_icmp_ge (tgt := 136) C dX9_isGraphic_123 (by decide) (fun c123 => ?_) (fun c123 => ?_)
    · replace h := jm_ift c123 h
      refine jt_iload_n C dX9_isGraphic_136 rfl 2 rfl ?_
      refine jt_iadd C dX9_isGraphic_137 ?_
      refine jt_istore_n (lv' := [(3, _), (0, _), (1, _), (2, _), (4, _)]) C dX9_isGraphic_138 rfl (by decide) rfl ?_
      refine jt_iinc (v := (1 : Int32)) (lv' := [(4, _), (3, _), (0, _), (1, _), (2, _)]) C dX9_isGraphic_139 4 rfl (by decide) (by decide) rfl ?_
      refine jt_goto (tgt := 103) C dX9_isGraphic_142 (by decide) ?_
      cases h
      exact jt_sub [2, 3, 4, 1, 0] rfl (h1 _ rfl _ _ rfl)
    · replace h := jm_iff c123 h
      refine jt_aload_n C dX9_isGraphic_126 rfl 0 rfl ?_
      refine jt_getR (Tf := TX9) (N := 17) C dX9_isGraphic_127 hr0 rfl i_9 15 (by decide) rfl m_RX9_44 rfl ?_
      refine jt_iload C dX9_isGraphic_130 4 rfl ?_
      obtain ⟨x14, ex14, h⟩ := jm_bind h
      refine jt_iald C dX9_isGraphic_132 (jm_f8_15 hr0) ex14 ?_
      refine jt_goto (tgt := 137) C dX9_isGraphic_133 (by decide) ?_
      refine jt_iadd C dX9_isGraphic_137 ?_
      refine jt_istore_n (lv' := [(3, _), (0, _), (1, _), (2, _), (4, _)]) C dX9_isGraphic_138 rfl (by decide) rfl ?_
      refine jt_iinc (v := (1 : Int32)) (lv' := [(4, _), (3, _), (0, _), (1, _), (2, _)]) C dX9_isGraphic_139 4 rfl (by decide) (by decide) rfl ?_
      refine jt_goto (tgt := 103) C dX9_isGraphic_142 (by decide) ?_
      cases h
      exact jt_sub [2, 3, 4, 1, 0] rfl (h1 _ rfl _ _ rfl)
set_option maxHeartbeats 4000000 in
set_option maxRecDepth 100000 in
theorem t_X9_isGraphic_L73 {X : jm_X} {k : jm_C} (C : jm_Cx X k cX9_isGraphic 5 RX9 w_X9_isGraphic) (n : Nat) (r0 : Nat) (M : jm_M) (hr0 : jm_is r0 (3, 8)) : ∀ (m : Nat) (s : Int32 × Int32) (r : (Int32 × jm_M) ⊕ (Unit)), jm_loop (X9_isGraphic_B73 n r0 M) m s = some r → (match r with | .inl z => ∀ (z1 : Int32) (z2 : jm_M), z = (z1, z2) → ∀ (pc1 : Nat) (lv1 : List (Nat × Value)), (decode cX9_isGraphic pc1 = .ok (.ireturn, 1) ∧ (z1 = 0 ∨ z1 = 1)) → jm_T X { frames := 4, cells := 0, slots := 0, locals := 160 } k 5 z2 pc1 lv1 [.int z1] | .inr w => jm_T X { frames := 4, cells := 0, slots := 0, locals := 160 } k 5 M 158 [] []) → (∀ (b0 : Int32) (b1 : Int32), s = (b0, b1) → jm_T X { frames := 4, cells := 0, slots := 0, locals := 160 } k 5 M 73 [(0, .ref (jm_ad k r0)), (1, .int b0), (2, .int b1)] []) := by
  refine jm_loop_ind (P := fun (s : Int32 × Int32) => (∀ (b0 : Int32) (b1 : Int32), s = (b0, b1) → jm_T X { frames := 4, cells := 0, slots := 0, locals := 160 } k 5 M 73 [(0, .ref (jm_ad k r0)), (1, .int b0), (2, .int b1)] [])) (K := fun (r : (Int32 × jm_M) ⊕ (Unit)) => match r with | .inl z => ∀ (z1 : Int32) (z2 : jm_M), z = (z1, z2) → ∀ (pc1 : Nat) (lv1 : List (Nat × Value)), (decode cX9_isGraphic pc1 = .ok (.ireturn, 1) ∧ (z1 = 0 ∨ z1 = 1)) → jm_T X { frames := 4, cells := 0, slots := 0, locals := 160 } k 5 z2 pc1 lv1 [.int z1] | .inr w => jm_T X { frames := 4, cells := 0, slots := 0, locals := 160 } k 5 M 158 [] []) ?_
  intro s q h h1 h2
  intro b0 b1 hs
  subst hs
  unfold X9_isGraphic_B73 at h
  try dsimp only at h
  refine jt_iload_n C dX9_isGraphic_73 rfl 2 rfl ?_
  refine jt_aload_n C dX9_isGraphic_74 rfl 0 rfl ?_
  refine jt_getR (Tf := TX9) (N := 17) C dX9_isGraphic_75 hr0 rfl i_9 0 (by decide) rfl m_RX9_7 rfl ?_
  refine jt_iconst (v := (2 : Int32)) C dX9_isGraphic_78 (by decide) ?_
  obtain ⟨x10, ex10, h⟩ := jm_bind h
  refine jt_iald C dX9_isGraphic_79 (jm_f8_0 hr0) ex10 ?_
  refine jt_icmp_gt (tgt := 158) C dX9_isGraphic_80 (by decide) (fun c80 => ?_) (fun c80 => ?_)
  · replace h := jm_ift c80 h
    cases h
    exact jt_sub [] rfl (h2 _ rfl)
  · replace h := jm_iff c80 h
    refine jt_iload_n C dX9_isGraphic_83 rfl 1 rfl ?_
    refine jt_aload_n C dX9_isGraphic_84 rfl 0 rfl ?_
    refine jt_getR (Tf := TX9) (N := 17) C dX9_isGraphic_85 hr0 rfl i_9 15 (by decide) rfl m_RX9_44 rfl ?_
    refine jt_iload_n C dX9_isGraphic_88 rfl 2 rfl ?_
    refine jt_iconst (v := (1 : Int32)) C dX9_isGraphic_89 (by decide) ?_
    refine jt_isub C dX9_isGraphic_90 ?_
    obtain ⟨x11, ex11, h⟩ := jm_bind h
    refine jt_iald C dX9_isGraphic_91 (jm_f8_15 hr0) ex11 ?_
    refine jt_iadd C dX9_isGraphic_92 ?_
    refine jt_istore_n (lv' := [(1, _), (0, _), (2, _)]) C dX9_isGraphic_93 rfl (by decide) rfl ?_
    refine jt_iload_n C dX9_isGraphic_94 rfl 2 rfl ?_
    refine jt_iload_n C dX9_isGraphic_95 rfl 2 rfl ?_
    refine jt_iconst (v := (1 : Int32)) C dX9_isGraphic_96 (by decide) ?_
    refine jt_isub C dX9_isGraphic_97 ?_
    refine jt_imul C dX9_isGraphic_98 ?_
    refine jt_istore_n (lv' := [(3, _), (1, _), (0, _), (2, _)]) C dX9_isGraphic_99 rfl (by decide) rfl ?_
    refine jt_iload_n C dX9_isGraphic_100 rfl 3 rfl ?_
    refine jt_istore (lv' := [(4, _), (3, _), (1, _), (0, _), (2, _)]) C dX9_isGraphic_101 (by decide) rfl ?_
    obtain ⟨q15, eq15, h⟩ := jm_bind h
    refine jt_sub [3, 2, 4, 1, 0] rfl ?_
    refine t_X9_isGraphic_L103 C _ _ _ _ hr0 n _ _ eq15 ?_ _ _ rfl
    refine jt_iload_n C dX9_isGraphic_145 rfl 1 rfl ?_
    refine jt_iload_n C dX9_isGraphic_146 rfl 3 rfl ?_
    refine jt_icmp_le (tgt := 152) C dX9_isGraphic_147 (by decide) (fun c147 => ?_) (fun c147 => ?_)
    · replace h := jm_ift c147 h
      refine jt_iinc (v := (1 : Int32)) (lv' := [(2, _), (0, _), (1, _), (3, _)]) C dX9_isGraphic_152 2 rfl (by decide) (by decide) rfl ?_
      refine jt_goto (tgt := 73) C dX9_isGraphic_155 (by decide) ?_
      cases h
      exact jt_sub [1, 2, 0] rfl (h1 _ rfl _ _ rfl)
    · replace h := jm_iff c147 h
      refine jt_iconst (v := (0 : Int32)) C dX9_isGraphic_150 (by decide) ?_
      cases h
      exact h2 _ rfl _ _ rfl _ _ ⟨dX9_isGraphic_151, (Or.inl rfl)⟩
set_option maxHeartbeats 4000000 in
set_option maxRecDepth 100000 in
theorem c_X9_isGraphic (l : Launch) (k : jm_C) (n : Nat) (r0 : Nat) (M : jm_M) (hr0 : jm_is r0 (3, 8)) (q1 : Int32) (q2 : jm_M) (h : X9_isGraphic n r0 M = some (q1, q2)) : jm_Ci l k yX9_isGraphic w_X9_isGraphic { frames := 4, cells := 0, slots := 0, locals := 160 } [.ref (jm_ad k r0)] M q1 q2 := by
  refine jm_entry_i (cc := cX9_isGraphic) (nL := 5) (ret := (some .boolean)) (by decide) rfl (Nat.le_of_ble_eq_true rfl) ?_
  intro X hX C hQ hr
  subst hX
  unfold X9_isGraphic at h
  refine jt_iconst (v := (0 : Int32)) C dX9_isGraphic_0 (by decide) ?_
  refine jt_istore_n (lv' := [(1, _), (0, _)]) C dX9_isGraphic_1 rfl (by decide) rfl ?_
  obtain ⟨q9, eq9, h⟩ := jm_bind h
  refine jt_sub [1, 0] rfl ?_
  refine t_X9_isGraphic_L2 C n _ hr0 n _ _ eq9 ?_ _ _ rfl
  refine jt_iconst (v := (0 : Int32)) C dX9_isGraphic_69 (by decide) ?_
  refine jt_istore_n (lv' := [(1, _), (0, _)]) C dX9_isGraphic_70 rfl (by decide) rfl ?_
  refine jt_iconst (v := (1 : Int32)) C dX9_isGraphic_71 (by decide) ?_
  refine jt_istore_n (lv' := [(2, _), (1, _), (0, _)]) C dX9_isGraphic_72 rfl (by decide) rfl ?_
  obtain ⟨q16, eq16, h⟩ := jm_bind h
  refine jt_sub [2, 1, 0] rfl ?_
  refine t_X9_isGraphic_L73 C n _ _ hr0 n _ _ eq16 ?_ _ _ rfl
  rcases q16 with z17 | w18
  · replace h := jm_inl h
    intro z1 z2 hz pc1 lv1 hp1
    subst hz
    cases h
    exact jt_zret C hp1.1 hQ hr hp1.2
  · replace h := jm_inr h
    show jm_T _ _ _ _ _ _ _ _
    refine jt_iconst (v := (1 : Int32)) C dX9_isGraphic_158 (by decide) ?_
    cases h
    exact jt_zret C dX9_isGraphic_159 hQ hr (Or.inr rfl)
theorem h_X9_firstTest : yX9_firstTest.cls = RX9 ∧ yX9_firstTest.cls ≠ "java/lang/invoke/MethodHandle" ∧ yX9_firstTest.cls ≠ "java/lang/invoke/VarHandle" ∧ (parseMethodDescriptor yX9_firstTest.desc).map (fun d => d.parameters.length) = some 0 := by decide +kernel
set_option maxHeartbeats 4000000 in
set_option maxRecDepth 100000 in
theorem c_X9_firstTest (l : Launch) (k : jm_C) (n : Nat) (r0 : Nat) (M : jm_M) (hr0 : jm_is r0 (3, 8)) (q1 : Int32) (q2 : jm_M) (h : X9_firstTest n r0 M = some (q1, q2)) : jm_Ci l k yX9_firstTest w_X9_firstTest { frames := 5, cells := 0, slots := 0, locals := 200 } [.ref (jm_ad k r0)] M q1 q2 := by
  refine jm_entry_i (cc := cX9_firstTest) (nL := 1) (ret := (some .int)) (by decide) rfl (Nat.le_of_ble_eq_true rfl) ?_
  intro X hX C hQ hr
  subst hX
  unfold X9_firstTest at h
  refine jt_aload_n C dX9_firstTest_0 rfl 0 rfl ?_
  obtain ⟨x1, ex1, h⟩ := jm_bind h
  refine jt_callVi (As := []) (rest := []) C hr0 rfl dX9_firstTest_1 (c_X9_isWhole (jx_l X) k _ _ hr0 _ ex1) (k_goodIn (g_RX9_195)) rfl h_X9_isWhole ⟨rfl, rfl, Nat.le_of_ble_eq_true rfl, Nat.le_of_ble_eq_true rfl⟩ rfl rfl (Nat.le_of_ble_eq_true rfl) ?_
  refine jt_if_ne (tgt := 10) C dX9_firstTest_4 (by decide) (fun c4 => ?_) (fun c4 => ?_)
  · replace h := jm_iff c4 h
    refine jt_aload_n C dX9_firstTest_10 rfl 0 rfl ?_
    obtain ⟨x2, ex2, h⟩ := jm_bind h
    refine jt_callVi (As := []) (rest := []) C hr0 rfl dX9_firstTest_11 (c_X9_edgesCounted (jx_l X) k n _ _ hr0 _ ex2) (k_goodIn (g_RX9_202)) rfl h_X9_edgesCounted ⟨rfl, rfl, Nat.le_of_ble_eq_true rfl, Nat.le_of_ble_eq_true rfl⟩ rfl rfl (Nat.le_of_ble_eq_true rfl) ?_
    refine jt_bipush (v := (-9 : Int32)) C dX9_firstTest_14 (by decide) ?_
    refine jt_icmp_ne (tgt := 21) C dX9_firstTest_16 (by decide) (fun c16 => ?_) (fun c16 => ?_)
    · replace h := jm_iff c16 h
      refine jt_aload_n C dX9_firstTest_21 rfl 0 rfl ?_
      obtain ⟨x3, ex3, h⟩ := jm_bind h
      refine jt_callVi (As := []) (rest := []) C hr0 rfl dX9_firstTest_22 (c_X9_areDegreesIn (jx_l X) k n _ _ hr0 _ ex3) (k_goodIn (g_RX9_214)) rfl h_X9_areDegreesIn ⟨rfl, rfl, Nat.le_of_ble_eq_true rfl, Nat.le_of_ble_eq_true rfl⟩ rfl rfl (Nat.le_of_ble_eq_true rfl) ?_
      refine jt_if_ne (tgt := 32) C dX9_firstTest_25 (by decide) (fun c25 => ?_) (fun c25 => ?_)
      · replace h := jm_iff c25 h
        refine jt_aload_n C dX9_firstTest_32 rfl 0 rfl ?_
        obtain ⟨⟨x4a, x4b⟩, ex4, h⟩ := jm_bind h
        try dsimp only at h
        refine jt_callVi (As := []) (rest := []) C hr0 rfl dX9_firstTest_33 (c_X9_isGraphic (jx_l X) k n _ _ hr0 _ _ ex4) (k_goodIn (g_RX9_217)) rfl h_X9_isGraphic ⟨rfl, rfl, Nat.le_of_ble_eq_true rfl, Nat.le_of_ble_eq_true rfl⟩ rfl rfl (Nat.le_of_ble_eq_true rfl) ?_
        refine jt_if_eq (tgt := 43) C dX9_firstTest_36 (by decide) (fun c36 => ?_) (fun c36 => ?_)
        · replace h := jm_ift c36 h
          refine jt_iconst (v := (3 : Int32)) C dX9_firstTest_43 (by decide) ?_
          cases h
          exact jt_iret C dX9_firstTest_44 hQ hr
        · replace h := jm_iff c36 h
          refine jt_iconst (v := (0 : Int32)) C dX9_firstTest_39 (by decide) ?_
          refine jt_goto (tgt := 44) C dX9_firstTest_40 (by decide) ?_
          cases h
          exact jt_iret C dX9_firstTest_44 hQ hr
      · replace h := jm_ift c25 h
        refine jt_iconst (v := (2 : Int32)) C dX9_firstTest_28 (by decide) ?_
        refine jt_goto (tgt := 44) C dX9_firstTest_29 (by decide) ?_
        cases h
        exact jt_iret C dX9_firstTest_44 hQ hr
    · replace h := jm_ift c16 h
      refine jt_iconst (v := (1 : Int32)) C dX9_firstTest_19 (by decide) ?_
      cases h
      exact jt_iret C dX9_firstTest_20 hQ hr
  · replace h := jm_ift c4 h
    refine jt_bipush (v := (-9 : Int32)) C dX9_firstTest_7 (by decide) ?_
    cases h
    exact jt_iret C dX9_firstTest_9 hQ hr
theorem h_X9_enough : yX9_enough.cls = RX9 ∧ yX9_enough.cls ≠ "java/lang/invoke/MethodHandle" ∧ yX9_enough.cls ≠ "java/lang/invoke/VarHandle" ∧ (parseMethodDescriptor yX9_enough.desc).map (fun d => d.parameters.length) = some 0 := by decide +kernel
set_option maxHeartbeats 4000000 in
set_option maxRecDepth 100000 in
theorem t_X9_enough_L35 {X : jm_X} {k : jm_C} (C : jm_Cx X k cX9_enough 3 RX9 w_X9_enough) (n : Nat) (r0 : Nat) (hr0 : jm_is r0 (3, 8)) : ∀ (m : Nat) (s : Int32 × Int32 × jm_M) (r : Int32 × jm_M), jm_loop (X9_enough_B35 n r0) m s = some r → (∀ (b0 : Int32) (b1 : jm_M), r = (b0, b1) → jm_T X { frames := 9, cells := 0, slots := 0, locals := 360 } k 3 b1 75 [(1, .int b0)] []) → (∀ (b0 : Int32) (b1 : Int32) (b2 : jm_M), s = (b0, b1, b2) → jm_T X { frames := 9, cells := 0, slots := 0, locals := 360 } k 3 b2 35 [(0, .ref (jm_ad k r0)), (1, .int b0), (2, .int b1)] []) := by
  refine jm_loop_ind (P := fun (s : Int32 × Int32 × jm_M) => (∀ (b0 : Int32) (b1 : Int32) (b2 : jm_M), s = (b0, b1, b2) → jm_T X { frames := 9, cells := 0, slots := 0, locals := 360 } k 3 b2 35 [(0, .ref (jm_ad k r0)), (1, .int b0), (2, .int b1)] [])) (K := fun (r : Int32 × jm_M) => ∀ (b0 : Int32) (b1 : jm_M), r = (b0, b1) → jm_T X { frames := 9, cells := 0, slots := 0, locals := 360 } k 3 b1 75 [(1, .int b0)] []) ?_
  intro s q h h1 h2
  intro b0 b1 b2 hs
  subst hs
  unfold X9_enough_B35 at h
  try dsimp only at h
  refine jt_iload_n C dX9_enough_35 rfl 2 rfl ?_
  refine jt_aload_n C dX9_enough_36 rfl 0 rfl ?_
  obtain ⟨x5, ex5, h⟩ := jm_bind h
  refine jt_callVi (As := []) (rest := [_]) C hr0 rfl dX9_enough_37 (c_X9_all (jx_l X) k _ _ hr0 _ ex5) (k_goodIn (g_RX9_189)) rfl h_X9_all ⟨rfl, rfl, Nat.le_of_ble_eq_true rfl, Nat.le_of_ble_eq_true rfl⟩ rfl rfl (Nat.le_of_ble_eq_true rfl) ?_
  refine jt_icmp_gt (tgt := 75) C dX9_enough_40 (by decide) (fun c40 => ?_) (fun c40 => ?_)
  · replace h := jm_ift c40 h
    cases h
    exact jt_sub [1] rfl (h2 _ rfl _ _ rfl)
  · replace h := jm_iff c40 h
    refine jt_iload_n C dX9_enough_43 rfl 2 rfl ?_
    obtain ⟨x6, ex6, h⟩ := jm_bind h
    refine jt_callSi (As := [_]) (rest := []) C dX9_enough_44 (c_X9_bits (jx_l X) k n _ _ _ ex6) (k_goodIn (g_RX9_118)) rfl h_X9_bits ⟨rfl, rfl, Nat.le_of_ble_eq_true rfl, Nat.le_of_ble_eq_true rfl⟩ rfl rfl (Nat.le_of_ble_eq_true rfl) ?_
    refine jt_iload_n C dX9_enough_47 rfl 1 rfl ?_
    refine jt_icmp_ge (tgt := 67) C dX9_enough_48 (by decide) (fun c48 => ?_) (fun c48 => ?_)
    · replace h := jm_ift c48 h
      refine jt_iload_n C dX9_enough_67 rfl 1 rfl ?_
      refine jt_istore_n (lv' := [(1, _), (0, _), (2, _)]) C dX9_enough_68 rfl (by decide) rfl ?_
      refine jt_iinc (v := (1 : Int32)) (lv' := [(2, _), (1, _), (0, _)]) C dX9_enough_69 2 rfl (by decide) (by decide) rfl ?_
      refine jt_goto (tgt := 35) C dX9_enough_72 (by decide) ?_
      cases h
      exact jt_sub [2, 1, 0] rfl (h1 _ rfl _ _ _ rfl)
    · replace h := jm_iff c48 h
      refine jt_aload_n C dX9_enough_51 rfl 0 rfl ?_
      refine jt_iload_n C dX9_enough_52 rfl 2 rfl ?_
      obtain ⟨⟨x7a, x7b⟩, ex7, h⟩ := jm_bind h
      try dsimp only at h
      refine jt_callVi (As := [_]) (rest := []) C hr0 rfl dX9_enough_53 (c_X9_answers (jx_l X) k n _ _ _ hr0 _ _ ex7) (k_goodIn (g_RX9_211)) rfl h_X9_answers ⟨rfl, rfl, Nat.le_of_ble_eq_true rfl, Nat.le_of_ble_eq_true rfl⟩ rfl rfl (Nat.le_of_ble_eq_true rfl) ?_
      refine jt_iconst (v := (1 : Int32)) C dX9_enough_56 (by decide) ?_
      refine jt_icmp_ne (tgt := 67) C dX9_enough_57 (by decide) (fun c57 => ?_) (fun c57 => ?_)
      · replace h := jm_iff c57 h
        refine jt_iload_n C dX9_enough_67 rfl 1 rfl ?_
        refine jt_istore_n (lv' := [(1, _), (0, _), (2, _)]) C dX9_enough_68 rfl (by decide) rfl ?_
        refine jt_iinc (v := (1 : Int32)) (lv' := [(2, _), (1, _), (0, _)]) C dX9_enough_69 2 rfl (by decide) (by decide) rfl ?_
        refine jt_goto (tgt := 35) C dX9_enough_72 (by decide) ?_
        cases h
        exact jt_sub [2, 1, 0] rfl (h1 _ rfl _ _ _ rfl)
      · replace h := jm_ift c57 h
        refine jt_iload_n C dX9_enough_60 rfl 2 rfl ?_
        obtain ⟨x8, ex8, h⟩ := jm_bind h
        refine jt_callSi (As := [_]) (rest := []) C dX9_enough_61 (c_X9_bits (jx_l X) k n _ _ _ ex8) (k_goodIn (g_RX9_118)) rfl h_X9_bits ⟨rfl, rfl, Nat.le_of_ble_eq_true rfl, Nat.le_of_ble_eq_true rfl⟩ rfl rfl (Nat.le_of_ble_eq_true rfl) ?_
        refine jt_goto (tgt := 68) C dX9_enough_64 (by decide) ?_
        refine jt_istore_n (lv' := [(1, _), (0, _), (2, _)]) C dX9_enough_68 rfl (by decide) rfl ?_
        refine jt_iinc (v := (1 : Int32)) (lv' := [(2, _), (1, _), (0, _)]) C dX9_enough_69 2 rfl (by decide) (by decide) rfl ?_
        refine jt_goto (tgt := 35) C dX9_enough_72 (by decide) ?_
        cases h
        exact jt_sub [2, 1, 0] rfl (h1 _ rfl _ _ _ rfl)
set_option maxHeartbeats 4000000 in
set_option maxRecDepth 100000 in
theorem c_X9_enough (l : Launch) (k : jm_C) (n : Nat) (r0 : Nat) (M : jm_M) (hr0 : jm_is r0 (3, 8)) (q1 : Int32) (q2 : jm_M) (h : X9_enough n r0 M = some (q1, q2)) : jm_Ci l k yX9_enough w_X9_enough { frames := 9, cells := 0, slots := 0, locals := 360 } [.ref (jm_ad k r0)] M q1 q2 := by
  refine jm_entry_i (cc := cX9_enough) (nL := 3) (ret := (some .int)) (by decide) rfl (Nat.le_of_ble_eq_true rfl) ?_
  intro X hX C hQ hr
  subst hX
  unfold X9_enough at h
  refine jt_aload_n C dX9_enough_0 rfl 0 rfl ?_
  refine jt_getR (Tf := TX9) (N := 17) C dX9_enough_1 hr0 rfl i_9 0 (by decide) rfl m_RX9_7 rfl ?_
  refine jt_iconst (v := (2 : Int32)) C dX9_enough_4 (by decide) ?_
  obtain ⟨x1, ex1, h⟩ := jm_bind h
  refine jt_iald C dX9_enough_5 (jm_f8_0 hr0) ex1 ?_
  refine jt_bipush (v := (6 : Int32)) C dX9_enough_6 (by decide) ?_
  refine jt_icmp_eq (tgt := 23) C dX9_enough_8 (by decide) (fun c8 => ?_) (fun c8 => ?_)
  · replace h := jm_ift c8 h
    refine jt_bipush (v := (-9 : Int32)) C dX9_enough_23 (by decide) ?_
    cases h
    exact jt_iret C dX9_enough_25 hQ hr
  · replace h := jm_iff c8 h
    refine jt_aload_n C dX9_enough_11 rfl 0 rfl ?_
    refine jt_aload_n C dX9_enough_12 rfl 0 rfl ?_
    obtain ⟨x2, ex2, h⟩ := jm_bind h
    refine jt_callVi (As := []) (rest := [_]) C hr0 rfl dX9_enough_13 (c_X9_all (jx_l X) k _ _ hr0 _ ex2) (k_goodIn (g_RX9_189)) rfl h_X9_all ⟨rfl, rfl, Nat.le_of_ble_eq_true rfl, Nat.le_of_ble_eq_true rfl⟩ rfl rfl (Nat.le_of_ble_eq_true rfl) ?_
    obtain ⟨⟨x3a, x3b⟩, ex3, h⟩ := jm_bind h
    try dsimp only at h
    refine jt_callVi (As := [_]) (rest := []) C hr0 rfl dX9_enough_16 (c_X9_answers (jx_l X) k n _ _ _ hr0 _ _ ex3) (k_goodIn (g_RX9_211)) rfl h_X9_answers ⟨rfl, rfl, Nat.le_of_ble_eq_true rfl, Nat.le_of_ble_eq_true rfl⟩ rfl rfl (Nat.le_of_ble_eq_true rfl) ?_
    refine jt_iconst (v := (1 : Int32)) C dX9_enough_19 (by decide) ?_
    refine jt_icmp_eq (tgt := 26) C dX9_enough_20 (by decide) (fun c20 => ?_) (fun c20 => ?_)
    · replace h := jm_ift c20 h
      refine jt_aload_n C dX9_enough_26 rfl 0 rfl ?_
      refine jt_getR (Tf := TX9) (N := 17) C dX9_enough_27 hr0 rfl i_9 0 (by decide) rfl m_RX9_7 rfl ?_
      refine jt_iconst (v := (3 : Int32)) C dX9_enough_30 (by decide) ?_
      obtain ⟨x4, ex4, h⟩ := jm_bind h
      refine jt_iald C dX9_enough_31 (jm_f8_0 hr0) ex4 ?_
      refine jt_istore_n (lv' := [(1, _), (0, _)]) C dX9_enough_32 rfl (by decide) rfl ?_
      refine jt_iconst (v := (1 : Int32)) C dX9_enough_33 (by decide) ?_
      refine jt_istore_n (lv' := [(2, _), (1, _), (0, _)]) C dX9_enough_34 rfl (by decide) rfl ?_
      obtain ⟨q9, eq9, h⟩ := jm_bind h
      refine jt_sub [2, 1, 0] rfl ?_
      refine t_X9_enough_L35 C n _ hr0 n _ _ eq9 ?_ _ _ _ rfl
      intro y10_0 y10_1 hq10
      subst hq10
      try dsimp only at h
      refine jt_iload_n C dX9_enough_75 rfl 0 rfl ?_
      cases h
      exact jt_iret C dX9_enough_76 hQ hr
    · replace h := jm_iff c20 h
      refine jt_bipush (v := (-9 : Int32)) C dX9_enough_23 (by decide) ?_
      cases h
      exact jt_iret C dX9_enough_25 hQ hr
theorem h_X9_isDeckOfGraph : yX9_isDeckOfGraph.cls = RX9 ∧ yX9_isDeckOfGraph.cls ≠ "java/lang/invoke/MethodHandle" ∧ yX9_isDeckOfGraph.cls ≠ "java/lang/invoke/VarHandle" ∧ (parseMethodDescriptor yX9_isDeckOfGraph.desc).map (fun d => d.parameters.length) = some 0 := by decide +kernel
set_option maxHeartbeats 4000000 in
set_option maxRecDepth 100000 in
theorem t_X9_isDeckOfGraph_L47 {X : jm_X} {k : jm_C} (C : jm_Cx X k cX9_isDeckOfGraph 2 RX9 w_X9_isDeckOfGraph) (r0 : Nat) (M : jm_M) (hr0 : jm_is r0 (3, 8)) : ∀ (m : Nat) (s : Int32) (r : (Int32 × jm_M) ⊕ (Unit)), jm_loop (X9_isDeckOfGraph_B47 r0 M) m s = some r → (match r with | .inl z => ∀ (z1 : Int32) (z2 : jm_M), z = (z1, z2) → ∀ (pc1 : Nat) (lv1 : List (Nat × Value)), decode cX9_isDeckOfGraph pc1 = .ok (.ireturn, 1) → jm_T X { frames := 7, cells := 0, slots := 0, locals := 280 } k 2 z2 pc1 lv1 [.int z1] | .inr w => jm_T X { frames := 7, cells := 0, slots := 0, locals := 280 } k 2 M 82 [] []) → jm_T X { frames := 7, cells := 0, slots := 0, locals := 280 } k 2 M 47 [(0, .ref (jm_ad k r0)), (1, .int s)] [] := by
  refine jm_loop_ind (P := fun (s : Int32) => jm_T X { frames := 7, cells := 0, slots := 0, locals := 280 } k 2 M 47 [(0, .ref (jm_ad k r0)), (1, .int s)] []) (K := fun (r : (Int32 × jm_M) ⊕ (Unit)) => match r with | .inl z => ∀ (z1 : Int32) (z2 : jm_M), z = (z1, z2) → ∀ (pc1 : Nat) (lv1 : List (Nat × Value)), decode cX9_isDeckOfGraph pc1 = .ok (.ireturn, 1) → jm_T X { frames := 7, cells := 0, slots := 0, locals := 280 } k 2 z2 pc1 lv1 [.int z1] | .inr w => jm_T X { frames := 7, cells := 0, slots := 0, locals := 280 } k 2 M 82 [] []) ?_
  intro s q h h1 h2
  unfold X9_isDeckOfGraph_B47 at h
  try dsimp only at h
  refine jt_iload_n C dX9_isDeckOfGraph_47 rfl 1 rfl ?_
  refine jt_aload_n C dX9_isDeckOfGraph_48 rfl 0 rfl ?_
  refine jt_getR (Tf := TX9) (N := 17) C dX9_isDeckOfGraph_49 hr0 rfl i_9 0 (by decide) rfl m_RX9_7 rfl ?_
  refine jt_iconst (v := (3 : Int32)) C dX9_isDeckOfGraph_52 (by decide) ?_
  obtain ⟨x7, ex7, h⟩ := jm_bind h
  refine jt_iald C dX9_isDeckOfGraph_53 (jm_f8_0 hr0) ex7 ?_
  refine jt_icmp_ge (tgt := 82) C dX9_isDeckOfGraph_54 (by decide) (fun c54 => ?_) (fun c54 => ?_)
  · replace h := jm_ift c54 h
    cases h
    exact jt_sub [] rfl (h2 _ rfl)
  · replace h := jm_iff c54 h
    refine jt_aload_n C dX9_isDeckOfGraph_57 rfl 0 rfl ?_
    refine jt_getR (Tf := TX9) (N := 17) C dX9_isDeckOfGraph_58 hr0 rfl i_9 16 (by decide) rfl m_RX9_47 rfl ?_
    refine jt_iload_n C dX9_isDeckOfGraph_61 rfl 1 rfl ?_
    obtain ⟨x8, ex8, h⟩ := jm_bind h
    refine jt_iald C dX9_isDeckOfGraph_62 (jm_f8_16 hr0) ex8 ?_
    refine jt_aload_n C dX9_isDeckOfGraph_63 rfl 0 rfl ?_
    refine jt_getR (Tf := TX9) (N := 17) C dX9_isDeckOfGraph_64 hr0 rfl i_9 0 (by decide) rfl m_RX9_7 rfl ?_
    refine jt_iconst (v := (4 : Int32)) C dX9_isDeckOfGraph_67 (by decide) ?_
    refine jt_iload_n C dX9_isDeckOfGraph_68 rfl 1 rfl ?_
    refine jt_iadd C dX9_isDeckOfGraph_69 ?_
    obtain ⟨x9, ex9, h⟩ := jm_bind h
    refine jt_iald C dX9_isDeckOfGraph_70 (jm_f8_0 hr0) ex9 ?_
    refine jt_icmp_eq (tgt := 76) C dX9_isDeckOfGraph_71 (by decide) (fun c71 => ?_) (fun c71 => ?_)
    · replace h := jm_ift c71 h
      refine jt_iinc (v := (1 : Int32)) (lv' := [(1, _), (0, _)]) C dX9_isDeckOfGraph_76 1 rfl (by decide) (by decide) rfl ?_
      refine jt_goto (tgt := 47) C dX9_isDeckOfGraph_79 (by decide) ?_
      cases h
      exact jt_sub [1, 0] rfl (h1 _ rfl)
    · replace h := jm_iff c71 h
      refine jt_iconst (v := (0 : Int32)) C dX9_isDeckOfGraph_74 (by decide) ?_
      cases h
      exact h2 _ rfl _ _ rfl _ _ dX9_isDeckOfGraph_75
set_option maxHeartbeats 4000000 in
set_option maxRecDepth 100000 in
theorem c_X9_isDeckOfGraph (l : Launch) (k : jm_C) (n : Nat) (r0 : Nat) (M : jm_M) (hr0 : jm_is r0 (3, 8)) (q1 : Int32) (q2 : jm_M) (h : X9_isDeckOfGraph n r0 M = some (q1, q2)) : jm_Ci l k yX9_isDeckOfGraph w_X9_isDeckOfGraph { frames := 7, cells := 0, slots := 0, locals := 280 } [.ref (jm_ad k r0)] M q1 q2 := by
  refine jm_entry_i (cc := cX9_isDeckOfGraph) (nL := 2) (ret := (some .int)) (by decide) rfl (Nat.le_of_ble_eq_true rfl) ?_
  intro X hX C hQ hr
  subst hX
  unfold X9_isDeckOfGraph at h
  refine jt_aload_n C dX9_isDeckOfGraph_0 rfl 0 rfl ?_
  obtain ⟨x1, ex1, h⟩ := jm_bind h
  refine jt_callVi (As := []) (rest := []) C hr0 rfl dX9_isDeckOfGraph_1 (c_X9_isWhole (jx_l X) k _ _ hr0 _ ex1) (k_goodIn (g_RX9_195)) rfl h_X9_isWhole ⟨rfl, rfl, Nat.le_of_ble_eq_true rfl, Nat.le_of_ble_eq_true rfl⟩ rfl rfl (Nat.le_of_ble_eq_true rfl) ?_
  refine jt_if_eq (tgt := 22) C dX9_isDeckOfGraph_4 (by decide) (fun c4 => ?_) (fun c4 => ?_)
  · replace h := jm_ift c4 h
    refine jt_iconst (v := (0 : Int32)) C dX9_isDeckOfGraph_22 (by decide) ?_
    cases h
    exact jt_iret C dX9_isDeckOfGraph_23 hQ hr
  · replace h := jm_iff c4 h
    refine jt_aload_n C dX9_isDeckOfGraph_7 rfl 0 rfl ?_
    refine jt_getR (Tf := TX9) (N := 17) C dX9_isDeckOfGraph_8 hr0 rfl i_9 0 (by decide) rfl m_RX9_7 rfl ?_
    refine jt_iconst (v := (0 : Int32)) C dX9_isDeckOfGraph_11 (by decide) ?_
    obtain ⟨x2, ex2, h⟩ := jm_bind h
    refine jt_iald C dX9_isDeckOfGraph_12 (jm_f8_0 hr0) ex2 ?_
    refine jt_aload_n C dX9_isDeckOfGraph_13 rfl 0 rfl ?_
    refine jt_getR (Tf := TX9) (N := 17) C dX9_isDeckOfGraph_14 hr0 rfl i_9 0 (by decide) rfl m_RX9_7 rfl ?_
    refine jt_iconst (v := (2 : Int32)) C dX9_isDeckOfGraph_17 (by decide) ?_
    obtain ⟨x3, ex3, h⟩ := jm_bind h
    refine jt_iald C dX9_isDeckOfGraph_18 (jm_f8_0 hr0) ex3 ?_
    refine jt_icmp_eq (tgt := 24) C dX9_isDeckOfGraph_19 (by decide) (fun c19 => ?_) (fun c19 => ?_)
    · replace h := jm_ift c19 h
      refine jt_aload_n C dX9_isDeckOfGraph_24 rfl 0 rfl ?_
      refine jt_aload_n C dX9_isDeckOfGraph_25 rfl 0 rfl ?_
      refine jt_getR (Tf := TX9) (N := 17) C dX9_isDeckOfGraph_26 hr0 rfl i_9 0 (by decide) rfl m_RX9_7 rfl ?_
      refine jt_iconst (v := (0 : Int32)) C dX9_isDeckOfGraph_29 (by decide) ?_
      obtain ⟨x4, ex4, h⟩ := jm_bind h
      refine jt_iald C dX9_isDeckOfGraph_30 (jm_f8_0 hr0) ex4 ?_
      refine jt_aload_n C dX9_isDeckOfGraph_31 rfl 0 rfl ?_
      refine jt_getR (Tf := TX9) (N := 17) C dX9_isDeckOfGraph_32 hr0 rfl i_9 0 (by decide) rfl m_RX9_7 rfl ?_
      refine jt_iconst (v := (1 : Int32)) C dX9_isDeckOfGraph_35 (by decide) ?_
      obtain ⟨x5, ex5, h⟩ := jm_bind h
      refine jt_iald C dX9_isDeckOfGraph_36 (jm_f8_0 hr0) ex5 ?_
      refine jt_aload_n C dX9_isDeckOfGraph_37 rfl 0 rfl ?_
      refine jt_getR (Tf := TX9) (N := 17) C dX9_isDeckOfGraph_38 hr0 rfl i_9 16 (by decide) rfl m_RX9_47 rfl ?_
      refine jt_iconst (v := (0 : Int32)) C dX9_isDeckOfGraph_41 (by decide) ?_
      obtain ⟨M6, eM6, h⟩ := jm_bind h
      refine jt_callVv (As := [_, _, _, _]) (rest := []) C hr0 rfl dX9_isDeckOfGraph_42 (c_X9_layDeck (jx_l X) k n _ _ _ _ _ _ hr0 (jm_ar (jm_f8_16 hr0)) _ eM6) (k_goodIn (g_RX9_178)) rfl h_X9_layDeck ⟨rfl, rfl, Nat.le_of_ble_eq_true rfl, Nat.le_of_ble_eq_true rfl⟩ rfl rfl (Nat.le_of_ble_eq_true rfl) ?_
      refine jt_iconst (v := (0 : Int32)) C dX9_isDeckOfGraph_45 (by decide) ?_
      refine jt_istore_n (lv' := [(1, _), (0, _)]) C dX9_isDeckOfGraph_46 rfl (by decide) rfl ?_
      obtain ⟨q10, eq10, h⟩ := jm_bind h
      refine jt_sub [1, 0] rfl ?_
      refine t_X9_isDeckOfGraph_L47 C _ _ hr0 n _ _ eq10 ?_
      rcases q10 with z11 | w12
      · replace h := jm_inl h
        intro z1 z2 hz pc1 lv1 hp1
        subst hz
        cases h
        exact jt_iret C hp1 hQ hr
      · replace h := jm_inr h
        show jm_T _ _ _ _ _ _ _ _
        refine jt_iconst (v := (1 : Int32)) C dX9_isDeckOfGraph_82 (by decide) ?_
        cases h
        exact jt_iret C dX9_isDeckOfGraph_83 hQ hr
    · replace h := jm_iff c19 h
      refine jt_iconst (v := (0 : Int32)) C dX9_isDeckOfGraph_22 (by decide) ?_
      cases h
      exact jt_iret C dX9_isDeckOfGraph_23 hQ hr
theorem h_X9_deck : yX9_deck.cls = RX9 ∧ yX9_deck.cls ≠ "java/lang/invoke/MethodHandle" ∧ yX9_deck.cls ≠ "java/lang/invoke/VarHandle" ∧ (parseMethodDescriptor yX9_deck.desc).map (fun d => d.parameters.length) = some 1 := by decide +kernel
set_option maxHeartbeats 4000000 in
set_option maxRecDepth 100000 in
theorem c_X9_deck (l : Launch) (k : jm_C) (n : Nat) (r0 : Nat) (v1 : Int32) (M : jm_M) (hr0 : jm_is r0 (3, 8)) (q1 : Int32) (q2 : jm_M) (h : X9_deck n r0 v1 M = some (q1, q2)) : jm_Ci l k yX9_deck w_X9_deck { frames := 10, cells := 0, slots := 0, locals := 400 } [.ref (jm_ad k r0), .int v1] M q1 q2 := by
  refine jm_entry_i (cc := cX9_deck) (nL := 2) (ret := (some .int)) (by decide) rfl (Nat.le_of_ble_eq_true rfl) ?_
  intro X hX C hQ hr
  subst hX
  unfold X9_deck at h
  refine jt_iload_n C dX9_deck_0 rfl 1 rfl ?_
  refine jt_iconst (v := (0 : Int32)) C dX9_deck_1 (by decide) ?_
  refine jt_bipush (v := (8 : Int32)) C dX9_deck_2 (by decide) ?_
  refine jt_callSi (As := [_, _, _]) (rest := []) C dX9_deck_4 (c_X9_isIn (jx_l X) k _ _ _ _ _ rfl) (k_goodIn (g_RX9_50)) rfl h_X9_isIn ⟨rfl, rfl, Nat.le_of_ble_eq_true rfl, Nat.le_of_ble_eq_true rfl⟩ rfl rfl (Nat.le_of_ble_eq_true rfl) ?_
  refine jt_if_ne (tgt := 12) C dX9_deck_7 (by decide) (fun c7 => ?_) (fun c7 => ?_)
  · replace h := jm_iff c7 h
    refine jt_iload_n C dX9_deck_12 rfl 1 rfl ?_
    refine jt_bipush (v := (6 : Int32)) C dX9_deck_13 (by decide) ?_
    refine jt_bipush (v := (7 : Int32)) C dX9_deck_15 (by decide) ?_
    refine jt_callSi (As := [_, _, _]) (rest := []) C dX9_deck_17 (c_X9_isIn (jx_l X) k _ _ _ _ _ rfl) (k_goodIn (g_RX9_50)) rfl h_X9_isIn ⟨rfl, rfl, Nat.le_of_ble_eq_true rfl, Nat.le_of_ble_eq_true rfl⟩ rfl rfl (Nat.le_of_ble_eq_true rfl) ?_
    refine jt_if_eq (tgt := 35) C dX9_deck_20 (by decide) (fun c20 => ?_) (fun c20 => ?_)
    · replace h := jm_ift c20 h
      refine jt_iload_n C dX9_deck_35 rfl 1 rfl ?_
      by_cases c36_0 : v1 = (0 : Int32)
      · replace h := jm_ift c36_0 h
        refine jt_tblIn (v := 0) (tgt := 84) C dX9_deck_36 c36_0 (by decide) (by decide) rfl (by decide) ?_
        refine jt_aload_n C dX9_deck_84 rfl 0 rfl ?_
        refine jt_getR (Tf := TX9) (N := 17) C dX9_deck_85 hr0 rfl i_9 0 (by decide) rfl m_RX9_7 rfl ?_
        refine jt_iconst (v := (2 : Int32)) C dX9_deck_88 (by decide) ?_
        obtain ⟨x1, ex1, h⟩ := jm_bind h
        refine jt_iald C dX9_deck_89 (jm_f8_0 hr0) ex1 ?_
        cases h
        exact jt_iret C dX9_deck_90 hQ hr
      replace h := jm_iff c36_0 h
      by_cases c36_1 : v1 = (1 : Int32)
      · replace h := jm_ift c36_1 h
        refine jt_tblIn (v := 1) (tgt := 91) C dX9_deck_36 c36_1 (by decide) (by decide) rfl (by decide) ?_
        refine jt_aload_n C dX9_deck_91 rfl 0 rfl ?_
        refine jt_getR (Tf := TX9) (N := 17) C dX9_deck_92 hr0 rfl i_9 0 (by decide) rfl m_RX9_7 rfl ?_
        refine jt_iconst (v := (3 : Int32)) C dX9_deck_95 (by decide) ?_
        obtain ⟨x2, ex2, h⟩ := jm_bind h
        refine jt_iald C dX9_deck_96 (jm_f8_0 hr0) ex2 ?_
        cases h
        exact jt_iret C dX9_deck_97 hQ hr
      replace h := jm_iff c36_1 h
      by_cases c36_2 : v1 = (2 : Int32)
      · replace h := jm_ift c36_2 h
        refine jt_tblIn (v := 2) (tgt := 98) C dX9_deck_36 c36_2 (by decide) (by decide) rfl (by decide) ?_
        refine jt_aload_n C dX9_deck_98 rfl 0 rfl ?_
        obtain ⟨x3, ex3, h⟩ := jm_bind h
        refine jt_callVi (As := []) (rest := []) C hr0 rfl dX9_deck_99 (c_X9_differentHeld (jx_l X) k n _ _ hr0 _ ex3) (k_goodIn (g_RX9_220)) rfl h_X9_differentHeld ⟨rfl, rfl, Nat.le_of_ble_eq_true rfl, Nat.le_of_ble_eq_true rfl⟩ rfl rfl (Nat.le_of_ble_eq_true rfl) ?_
        cases h
        exact jt_iret C dX9_deck_102 hQ hr
      replace h := jm_iff c36_2 h
      by_cases c36_3 : v1 = (3 : Int32)
      · replace h := jm_ift c36_3 h
        refine jt_tblIn (v := 3) (tgt := 103) C dX9_deck_36 c36_3 (by decide) (by decide) rfl (by decide) ?_
        refine jt_aload_n C dX9_deck_103 rfl 0 rfl ?_
        refine jt_getR (Tf := TX9) (N := 17) C dX9_deck_104 hr0 rfl i_9 0 (by decide) rfl m_RX9_7 rfl ?_
        refine jt_iconst (v := (2 : Int32)) C dX9_deck_107 (by decide) ?_
        obtain ⟨x4, ex4, h⟩ := jm_bind h
        refine jt_iald C dX9_deck_108 (jm_f8_0 hr0) ex4 ?_
        refine jt_aload_n C dX9_deck_109 rfl 0 rfl ?_
        refine jt_getR (Tf := TX9) (N := 17) C dX9_deck_110 hr0 rfl i_9 0 (by decide) rfl m_RX9_7 rfl ?_
        refine jt_iconst (v := (3 : Int32)) C dX9_deck_113 (by decide) ?_
        obtain ⟨x5, ex5, h⟩ := jm_bind h
        refine jt_iald C dX9_deck_114 (jm_f8_0 hr0) ex5 ?_
        refine jt_isub C dX9_deck_115 ?_
        cases h
        exact jt_iret C dX9_deck_116 hQ hr
      replace h := jm_iff c36_3 h
      by_cases c36_4 : v1 = (4 : Int32)
      · replace h := jm_ift c36_4 h
        refine jt_tblIn (v := 4) (tgt := 117) C dX9_deck_36 c36_4 (by decide) (by decide) rfl (by decide) ?_
        refine jt_aload_n C dX9_deck_117 rfl 0 rfl ?_
        obtain ⟨x6, ex6, h⟩ := jm_bind h
        refine jt_callVi (As := []) (rest := []) C hr0 rfl dX9_deck_118 (c_X9_edgesCounted (jx_l X) k n _ _ hr0 _ ex6) (k_goodIn (g_RX9_202)) rfl h_X9_edgesCounted ⟨rfl, rfl, Nat.le_of_ble_eq_true rfl, Nat.le_of_ble_eq_true rfl⟩ rfl rfl (Nat.le_of_ble_eq_true rfl) ?_
        cases h
        exact jt_iret C dX9_deck_121 hQ hr
      replace h := jm_iff c36_4 h
      by_cases c36_5 : v1 = (5 : Int32)
      · replace h := jm_ift c36_5 h
        refine jt_tblIn (v := 5) (tgt := 122) C dX9_deck_36 c36_5 (by decide) (by decide) rfl (by decide) ?_
        refine jt_aload_n C dX9_deck_122 rfl 0 rfl ?_
        obtain ⟨⟨x7a, x7b⟩, ex7, h⟩ := jm_bind h
        try dsimp only at h
        refine jt_callVi (As := []) (rest := []) C hr0 rfl dX9_deck_123 (c_X9_firstTest (jx_l X) k n _ _ hr0 _ _ ex7) (k_goodIn (g_RX9_223)) rfl h_X9_firstTest ⟨rfl, rfl, Nat.le_of_ble_eq_true rfl, Nat.le_of_ble_eq_true rfl⟩ rfl rfl (Nat.le_of_ble_eq_true rfl) ?_
        cases h
        exact jt_iret C dX9_deck_126 hQ hr
      replace h := jm_iff c36_5 h
      by_cases c36_6 : v1 = (6 : Int32)
      · replace h := jm_ift c36_6 h
        refine jt_tblIn (v := 6) (tgt := 127) C dX9_deck_36 c36_6 (by decide) (by decide) rfl (by decide) ?_
        refine jt_aload_n C dX9_deck_127 rfl 0 rfl ?_
        refine jt_aload_n C dX9_deck_128 rfl 0 rfl ?_
        obtain ⟨x8, ex8, h⟩ := jm_bind h
        refine jt_callVi (As := []) (rest := [_]) C hr0 rfl dX9_deck_129 (c_X9_all (jx_l X) k _ _ hr0 _ ex8) (k_goodIn (g_RX9_189)) rfl h_X9_all ⟨rfl, rfl, Nat.le_of_ble_eq_true rfl, Nat.le_of_ble_eq_true rfl⟩ rfl rfl (Nat.le_of_ble_eq_true rfl) ?_
        obtain ⟨⟨x9a, x9b⟩, ex9, h⟩ := jm_bind h
        try dsimp only at h
        refine jt_callVi (As := [_]) (rest := []) C hr0 rfl dX9_deck_132 (c_X9_answers (jx_l X) k n _ _ _ hr0 _ _ ex9) (k_goodIn (g_RX9_211)) rfl h_X9_answers ⟨rfl, rfl, Nat.le_of_ble_eq_true rfl, Nat.le_of_ble_eq_true rfl⟩ rfl rfl (Nat.le_of_ble_eq_true rfl) ?_
        cases h
        exact jt_iret C dX9_deck_135 hQ hr
      replace h := jm_iff c36_6 h
      by_cases c36_7 : v1 = (7 : Int32)
      · replace h := jm_ift c36_7 h
        refine jt_tblIn (v := 7) (tgt := 136) C dX9_deck_36 c36_7 (by decide) (by decide) rfl (by decide) ?_
        refine jt_aload_n C dX9_deck_136 rfl 0 rfl ?_
        obtain ⟨⟨x10a, x10b⟩, ex10, h⟩ := jm_bind h
        try dsimp only at h
        refine jt_callVi (As := []) (rest := []) C hr0 rfl dX9_deck_137 (c_X9_enough (jx_l X) k n _ _ hr0 _ _ ex10) (k_goodIn (g_RX9_226)) rfl h_X9_enough ⟨rfl, rfl, Nat.le_of_ble_eq_true rfl, Nat.le_of_ble_eq_true rfl⟩ rfl rfl (Nat.le_of_ble_eq_true rfl) ?_
        cases h
        exact jt_iret C dX9_deck_140 hQ hr
      replace h := jm_iff c36_7 h
      refine jt_tblOut (tgt := 141) C dX9_deck_36 (by have a0 := jm_nei 0 c36_0; simp at a0; have a1 := jm_nei 1 c36_1; simp at a1; have a2 := jm_nei 2 c36_2; simp at a2; have a3 := jm_nei 3 c36_3; simp at a3; have a4 := jm_nei 4 c36_4; simp at a4; have a5 := jm_nei 5 c36_5; simp at a5; have a6 := jm_nei 6 c36_6; simp at a6; have a7 := jm_nei 7 c36_7; simp at a7; omega) (by decide) ?_
      refine jt_aload_n C dX9_deck_141 rfl 0 rfl ?_
      obtain ⟨⟨x11a, x11b⟩, ex11, h⟩ := jm_bind h
      try dsimp only at h
      refine jt_callVi (As := []) (rest := []) C hr0 rfl dX9_deck_142 (c_X9_isDeckOfGraph (jx_l X) k n _ _ hr0 _ _ ex11) (k_goodIn (g_RX9_229)) rfl h_X9_isDeckOfGraph ⟨rfl, rfl, Nat.le_of_ble_eq_true rfl, Nat.le_of_ble_eq_true rfl⟩ rfl rfl (Nat.le_of_ble_eq_true rfl) ?_
      cases h
      exact jt_iret C dX9_deck_145 hQ hr
    · replace h := jm_iff c20 h
      refine jt_aload_n C dX9_deck_23 rfl 0 rfl ?_
      refine jt_getR (Tf := TX9) (N := 17) C dX9_deck_24 hr0 rfl i_9 0 (by decide) rfl m_RX9_7 rfl ?_
      refine jt_iconst (v := (3 : Int32)) C dX9_deck_27 (by decide) ?_
      obtain ⟨x12, ex12, h⟩ := jm_bind h
      refine jt_iald C dX9_deck_28 (jm_f8_0 hr0) ex12 ?_
      refine jt_if_ne (tgt := 35) C dX9_deck_29 (by decide) (fun c29 => ?_) (fun c29 => ?_)
      · replace h := jm_iff c29 h
        refine jt_iload_n C dX9_deck_35 rfl 1 rfl ?_
        by_cases c36_0 : v1 = (0 : Int32)
        · replace h := jm_ift c36_0 h
          refine jt_tblIn (v := 0) (tgt := 84) C dX9_deck_36 c36_0 (by decide) (by decide) rfl (by decide) ?_
          refine jt_aload_n C dX9_deck_84 rfl 0 rfl ?_
          refine jt_getR (Tf := TX9) (N := 17) C dX9_deck_85 hr0 rfl i_9 0 (by decide) rfl m_RX9_7 rfl ?_
          refine jt_iconst (v := (2 : Int32)) C dX9_deck_88 (by decide) ?_
          obtain ⟨x13, ex13, h⟩ := jm_bind h
          refine jt_iald C dX9_deck_89 (jm_f8_0 hr0) ex13 ?_
          cases h
          exact jt_iret C dX9_deck_90 hQ hr
        replace h := jm_iff c36_0 h
        by_cases c36_1 : v1 = (1 : Int32)
        · replace h := jm_ift c36_1 h
          refine jt_tblIn (v := 1) (tgt := 91) C dX9_deck_36 c36_1 (by decide) (by decide) rfl (by decide) ?_
          refine jt_aload_n C dX9_deck_91 rfl 0 rfl ?_
          refine jt_getR (Tf := TX9) (N := 17) C dX9_deck_92 hr0 rfl i_9 0 (by decide) rfl m_RX9_7 rfl ?_
          refine jt_iconst (v := (3 : Int32)) C dX9_deck_95 (by decide) ?_
          obtain ⟨x14, ex14, h⟩ := jm_bind h
          refine jt_iald C dX9_deck_96 (jm_f8_0 hr0) ex14 ?_
          cases h
          exact jt_iret C dX9_deck_97 hQ hr
        replace h := jm_iff c36_1 h
        by_cases c36_2 : v1 = (2 : Int32)
        · replace h := jm_ift c36_2 h
          refine jt_tblIn (v := 2) (tgt := 98) C dX9_deck_36 c36_2 (by decide) (by decide) rfl (by decide) ?_
          refine jt_aload_n C dX9_deck_98 rfl 0 rfl ?_
          obtain ⟨x15, ex15, h⟩ := jm_bind h
          refine jt_callVi (As := []) (rest := []) C hr0 rfl dX9_deck_99 (c_X9_differentHeld (jx_l X) k n _ _ hr0 _ ex15) (k_goodIn (g_RX9_220)) rfl h_X9_differentHeld ⟨rfl, rfl, Nat.le_of_ble_eq_true rfl, Nat.le_of_ble_eq_true rfl⟩ rfl rfl (Nat.le_of_ble_eq_true rfl) ?_
          cases h
          exact jt_iret C dX9_deck_102 hQ hr
        replace h := jm_iff c36_2 h
        by_cases c36_3 : v1 = (3 : Int32)
        · replace h := jm_ift c36_3 h
          refine jt_tblIn (v := 3) (tgt := 103) C dX9_deck_36 c36_3 (by decide) (by decide) rfl (by decide) ?_
          refine jt_aload_n C dX9_deck_103 rfl 0 rfl ?_
          refine jt_getR (Tf := TX9) (N := 17) C dX9_deck_104 hr0 rfl i_9 0 (by decide) rfl m_RX9_7 rfl ?_
          refine jt_iconst (v := (2 : Int32)) C dX9_deck_107 (by decide) ?_
          obtain ⟨x16, ex16, h⟩ := jm_bind h
          refine jt_iald C dX9_deck_108 (jm_f8_0 hr0) ex16 ?_
          refine jt_aload_n C dX9_deck_109 rfl 0 rfl ?_
          refine jt_getR (Tf := TX9) (N := 17) C dX9_deck_110 hr0 rfl i_9 0 (by decide) rfl m_RX9_7 rfl ?_
          refine jt_iconst (v := (3 : Int32)) C dX9_deck_113 (by decide) ?_
          obtain ⟨x17, ex17, h⟩ := jm_bind h
          refine jt_iald C dX9_deck_114 (jm_f8_0 hr0) ex17 ?_
          refine jt_isub C dX9_deck_115 ?_
          cases h
          exact jt_iret C dX9_deck_116 hQ hr
        replace h := jm_iff c36_3 h
        by_cases c36_4 : v1 = (4 : Int32)
        · replace h := jm_ift c36_4 h
          refine jt_tblIn (v := 4) (tgt := 117) C dX9_deck_36 c36_4 (by decide) (by decide) rfl (by decide) ?_
          refine jt_aload_n C dX9_deck_117 rfl 0 rfl ?_
          obtain ⟨x18, ex18, h⟩ := jm_bind h
          refine jt_callVi (As := []) (rest := []) C hr0 rfl dX9_deck_118 (c_X9_edgesCounted (jx_l X) k n _ _ hr0 _ ex18) (k_goodIn (g_RX9_202)) rfl h_X9_edgesCounted ⟨rfl, rfl, Nat.le_of_ble_eq_true rfl, Nat.le_of_ble_eq_true rfl⟩ rfl rfl (Nat.le_of_ble_eq_true rfl) ?_
          cases h
          exact jt_iret C dX9_deck_121 hQ hr
        replace h := jm_iff c36_4 h
        by_cases c36_5 : v1 = (5 : Int32)
        · replace h := jm_ift c36_5 h
          refine jt_tblIn (v := 5) (tgt := 122) C dX9_deck_36 c36_5 (by decide) (by decide) rfl (by decide) ?_
          refine jt_aload_n C dX9_deck_122 rfl 0 rfl ?_
          obtain ⟨⟨x19a, x19b⟩, ex19, h⟩ := jm_bind h
          try dsimp only at h
          refine jt_callVi (As := []) (rest := []) C hr0 rfl dX9_deck_123 (c_X9_firstTest (jx_l X) k n _ _ hr0 _ _ ex19) (k_goodIn (g_RX9_223)) rfl h_X9_firstTest ⟨rfl, rfl, Nat.le_of_ble_eq_true rfl, Nat.le_of_ble_eq_true rfl⟩ rfl rfl (Nat.le_of_ble_eq_true rfl) ?_
          cases h
          exact jt_iret C dX9_deck_126 hQ hr
        replace h := jm_iff c36_5 h
        by_cases c36_6 : v1 = (6 : Int32)
        · replace h := jm_ift c36_6 h
          refine jt_tblIn (v := 6) (tgt := 127) C dX9_deck_36 c36_6 (by decide) (by decide) rfl (by decide) ?_
          refine jt_aload_n C dX9_deck_127 rfl 0 rfl ?_
          refine jt_aload_n C dX9_deck_128 rfl 0 rfl ?_
          obtain ⟨x20, ex20, h⟩ := jm_bind h
          refine jt_callVi (As := []) (rest := [_]) C hr0 rfl dX9_deck_129 (c_X9_all (jx_l X) k _ _ hr0 _ ex20) (k_goodIn (g_RX9_189)) rfl h_X9_all ⟨rfl, rfl, Nat.le_of_ble_eq_true rfl, Nat.le_of_ble_eq_true rfl⟩ rfl rfl (Nat.le_of_ble_eq_true rfl) ?_
          obtain ⟨⟨x21a, x21b⟩, ex21, h⟩ := jm_bind h
          try dsimp only at h
          refine jt_callVi (As := [_]) (rest := []) C hr0 rfl dX9_deck_132 (c_X9_answers (jx_l X) k n _ _ _ hr0 _ _ ex21) (k_goodIn (g_RX9_211)) rfl h_X9_answers ⟨rfl, rfl, Nat.le_of_ble_eq_true rfl, Nat.le_of_ble_eq_true rfl⟩ rfl rfl (Nat.le_of_ble_eq_true rfl) ?_
          cases h
          exact jt_iret C dX9_deck_135 hQ hr
        replace h := jm_iff c36_6 h
        by_cases c36_7 : v1 = (7 : Int32)
        · replace h := jm_ift c36_7 h
          refine jt_tblIn (v := 7) (tgt := 136) C dX9_deck_36 c36_7 (by decide) (by decide) rfl (by decide) ?_
          refine jt_aload_n C dX9_deck_136 rfl 0 rfl ?_
          obtain ⟨⟨x22a, x22b⟩, ex22, h⟩ := jm_bind h
          try dsimp only at h
          refine jt_callVi (As := []) (rest := []) C hr0 rfl dX9_deck_137 (c_X9_enough (jx_l X) k n _ _ hr0 _ _ ex22) (k_goodIn (g_RX9_226)) rfl h_X9_enough ⟨rfl, rfl, Nat.le_of_ble_eq_true rfl, Nat.le_of_ble_eq_true rfl⟩ rfl rfl (Nat.le_of_ble_eq_true rfl) ?_
          cases h
          exact jt_iret C dX9_deck_140 hQ hr
        replace h := jm_iff c36_7 h
        refine jt_tblOut (tgt := 141) C dX9_deck_36 (by have a0 := jm_nei 0 c36_0; simp at a0; have a1 := jm_nei 1 c36_1; simp at a1; have a2 := jm_nei 2 c36_2; simp at a2; have a3 := jm_nei 3 c36_3; simp at a3; have a4 := jm_nei 4 c36_4; simp at a4; have a5 := jm_nei 5 c36_5; simp at a5; have a6 := jm_nei 6 c36_6; simp at a6; have a7 := jm_nei 7 c36_7; simp at a7; omega) (by decide) ?_
        refine jt_aload_n C dX9_deck_141 rfl 0 rfl ?_
        obtain ⟨⟨x23a, x23b⟩, ex23, h⟩ := jm_bind h
        try dsimp only at h
        refine jt_callVi (As := []) (rest := []) C hr0 rfl dX9_deck_142 (c_X9_isDeckOfGraph (jx_l X) k n _ _ hr0 _ _ ex23) (k_goodIn (g_RX9_229)) rfl h_X9_isDeckOfGraph ⟨rfl, rfl, Nat.le_of_ble_eq_true rfl, Nat.le_of_ble_eq_true rfl⟩ rfl rfl (Nat.le_of_ble_eq_true rfl) ?_
        cases h
        exact jt_iret C dX9_deck_145 hQ hr
      · replace h := jm_ift c29 h
        refine jt_bipush (v := (-2 : Int32)) C dX9_deck_32 (by decide) ?_
        cases h
        exact jt_iret C dX9_deck_34 hQ hr
  · replace h := jm_ift c7 h
    refine jt_iconst (v := (-1 : Int32)) C dX9_deck_10 (by decide) ?_
    cases h
    exact jt_iret C dX9_deck_11 hQ hr
