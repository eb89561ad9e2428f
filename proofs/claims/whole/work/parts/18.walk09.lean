theorem h_X9_cardOf : yX9_cardOf.cls = RX9 ∧ yX9_cardOf.cls ≠ "java/lang/invoke/MethodHandle" ∧ yX9_cardOf.cls ≠ "java/lang/invoke/VarHandle" ∧ (parseMethodDescriptor yX9_cardOf.desc).map (fun d => d.parameters.length) = some 3 := by decide +kernel
set_option maxHeartbeats 4000000 in
set_option maxRecDepth 100000 in
theorem c_X9_cardOf (l : Launch) (k : jm_C) (n : Nat) (r0 : Nat) (v1 : Int32) (v2 : Int32) (v3 : Int32) (M : jm_M) (hr0 : jm_is r0 (3, 8)) (q1 : Int32) (q2 : jm_M) (h : X9_cardOf n r0 v1 v2 v3 M = some (q1, q2)) : jm_Ci l k yX9_cardOf w_X9_cardOf { frames := 5, cells := 0, slots := 0, locals := 200 } [.ref (jm_ad k r0), .int v1, .int v2, .int v3] M q1 q2 := by
  refine jm_entry_i (cc := cX9_cardOf) (nL := 4) (ret := (some .int)) (by decide) rfl (Nat.le_of_ble_eq_true rfl) ?_
  intro X hX C hQ hr
  subst hX
  unfold X9_cardOf at h
  refine jt_aload_n C dX9_cardOf_0 rfl 0 rfl ?_
  refine jt_iload_n C dX9_cardOf_1 rfl 1 rfl ?_
  refine jt_iconst (v := (1 : Int32)) C dX9_cardOf_2 (by decide) ?_
  refine jt_isub C dX9_cardOf_3 ?_
  refine jt_iload_n C dX9_cardOf_4 rfl 1 rfl ?_
  refine jt_iload_n C dX9_cardOf_5 rfl 2 rfl ?_
  refine jt_iload_n C dX9_cardOf_6 rfl 3 rfl ?_
  obtain ⟨x1, ex1, h⟩ := jm_bind h
  refine jt_callSi (As := [_, _, _]) (rest := [_, _]) C dX9_cardOf_7 (c_X9_without (jx_l X) k n _ _ _ _ _ ex1) (k_goodIn (g_RX9_87)) rfl h_X9_without ⟨rfl, rfl, Nat.le_of_ble_eq_true rfl, Nat.le_of_ble_eq_true rfl⟩ rfl rfl (Nat.le_of_ble_eq_true rfl) ?_
  obtain ⟨⟨x2a, x2b⟩, ex2, h⟩ := jm_bind h
  try dsimp only at h
  refine jt_callVi (As := [_, _]) (rest := []) C hr0 rfl dX9_cardOf_10 (c_X9_canonical (jx_l X) k n _ _ _ _ hr0 _ _ ex2) (k_goodIn (g_RX9_90)) rfl h_X9_canonical ⟨rfl, rfl, Nat.le_of_ble_eq_true rfl, Nat.le_of_ble_eq_true rfl⟩ rfl rfl (Nat.le_of_ble_eq_true rfl) ?_
  cases h
  exact jt_iret C dX9_cardOf_13 hQ hr
theorem h_X9_canBe : yX9_canBe.cls = RX9 ∧ yX9_canBe.cls ≠ "java/lang/invoke/MethodHandle" ∧ yX9_canBe.cls ≠ "java/lang/invoke/VarHandle" ∧ (parseMethodDescriptor yX9_canBe.desc).map (fun d => d.parameters.length) = some 4 := by decide +kernel
set_option maxHeartbeats 4000000 in
set_option maxRecDepth 100000 in
theorem t_X9_canBe_L3 {X : jm_X} {k : jm_C} (C : jm_Cx X k cX9_canBe 6 RX9 w_X9_canBe) (r0 : Nat) (v1 : Int32) (v2 : Int32) (v3 : Int32) (v4 : Int32) (M : jm_M) (hr0 : jm_is r0 (3, 8)) : ∀ (m : Nat) (s : Int32) (r : (Int32) ⊕ (Unit)), jm_loop (X9_canBe_B3 r0 v1 v2 v3 v4 M) m s = some r → (match r with | .inl z => ∀ (pc1 : Nat) (lv1 : List (Nat × Value)), (decode cX9_canBe pc1 = .ok (.ireturn, 1) ∧ (z = 0 ∨ z = 1)) → jm_T X { frames := 3, cells := 0, slots := 0, locals := 120 } k 6 M pc1 lv1 [.int z] | .inr w => jm_T X { frames := 3, cells := 0, slots := 0, locals := 120 } k 6 M 54 [] []) → jm_T X { frames := 3, cells := 0, slots := 0, locals := 120 } k 6 M 3 [(0, .ref (jm_ad k r0)), (1, .int v1), (2, .int v2), (3, .int v3), (4, .int v4), (5, .int s)] [] := by
  refine jm_loop_ind (P := fun (s : Int32) => jm_T X { frames := 3, cells := 0, slots := 0, locals := 120 } k 6 M 3 [(0, .ref (jm_ad k r0)), (1, .int v1), (2, .int v2), (3, .int v3), (4, .int v4), (5, .int s)] []) (K := fun (r : (Int32) ⊕ (Unit)) => match r with | .inl z => ∀ (pc1 : Nat) (lv1 : List (Nat × Value)), (decode cX9_canBe pc1 = .ok (.ireturn, 1) ∧ (z = 0 ∨ z = 1)) → jm_T X { frames := 3, cells := 0, slots := 0, locals := 120 } k 6 M pc1 lv1 [.int z] | .inr w => jm_T X { frames := 3, cells := 0, slots := 0, locals := 120 } k 6 M 54 [] []) ?_
  intro s q h h1 h2
  unfold X9_canBe_B3 at h
  try dsimp only at h
  refine jt_iload C dX9_canBe_3 5 rfl ?_
  refine jt_iload_n C dX9_canBe_5 rfl 3 rfl ?_
  refine jt_icmp_ge (tgt := 54) C dX9_canBe_6 (by decide) (fun c6 => ?_) (fun c6 => ?_)
  · replace h := jm_ift c6 h
    cases h
    exact jt_sub [] rfl (h2 _ rfl)
  · replace h := jm_iff c6 h
    refine jt_aload_n C dX9_canBe_9 rfl 0 rfl ?_
    refine jt_getR (Tf := TX9) (N := 17) C dX9_canBe_10 hr0 rfl i_9 6 (by decide) rfl m_RX9_25 rfl ?_
    refine jt_iload C dX9_canBe_13 5 rfl ?_
    obtain ⟨x1, ex1, h⟩ := jm_bind h
    refine jt_iald C dX9_canBe_15 (jm_f8_6 hr0) ex1 ?_
    refine jt_iload C dX9_canBe_16 4 rfl ?_
    refine jt_icmp_eq (tgt := 46) C dX9_canBe_18 (by decide) (fun c18 => ?_) (fun c18 => ?_)
    · replace h := jm_ift c18 h
      refine jt_iconst (v := (0 : Int32)) C dX9_canBe_46 (by decide) ?_
      cases h
      exact h2 _ rfl _ _ ⟨dX9_canBe_47, (Or.inl rfl)⟩
    · replace h := jm_iff c18 h
      refine jt_iload_n C dX9_canBe_21 rfl 1 rfl ?_
      refine jt_iload_n C dX9_canBe_22 rfl 2 rfl ?_
      refine jt_iload C dX9_canBe_23 5 rfl ?_
      refine jt_iload_n C dX9_canBe_25 rfl 3 rfl ?_
      refine jt_callSi (As := [_, _, _, _]) (rest := []) C dX9_canBe_26 (c_X9_isEdge (jx_l X) k _ _ _ _ _ _ rfl) (k_goodIn (g_RX9_66)) rfl h_X9_isEdge ⟨rfl, rfl, Nat.le_of_ble_eq_true rfl, Nat.le_of_ble_eq_true rfl⟩ rfl rfl (Nat.le_of_ble_eq_true rfl) ?_
      refine jt_iload_n C dX9_canBe_29 rfl 1 rfl ?_
      refine jt_iload_n C dX9_canBe_30 rfl 2 rfl ?_
      refine jt_aload_n C dX9_canBe_31 rfl 0 rfl ?_
      refine jt_getR (Tf := TX9) (N := 17) C dX9_canBe_32 hr0 rfl i_9 6 (by decide) rfl m_RX9_25 rfl ?_
      refine jt_iload C dX9_canBe_35 5 rfl ?_
      obtain ⟨x2, ex2, h⟩ := jm_bind h
      refine jt_iald C dX9_canBe_37 (jm_f8_6 hr0) ex2 ?_
      refine jt_iload C dX9_canBe_38 4 rfl ?_
      refine jt_callSi (As := [_, _, _, _]) (rest := [_]) C dX9_canBe_40 (c_X9_isEdge (jx_l X) k _ _ _ _ _ _ rfl) (k_goodIn (g_RX9_66)) rfl h_X9_isEdge ⟨rfl, rfl, Nat.le_of_ble_eq_true rfl, Nat.le_of_ble_eq_true rfl⟩ rfl rfl (Nat.le_of_ble_eq_true rfl) ?_
      refine jt_icmp_eq (tgt := 48) C dX9_canBe_43 (by decide) (fun c43 => ?_) (fun c43 => ?_)
      · replace h := jm_ift c43 h
        refine jt_iinc (v := (1 : Int32)) (lv' := [(5, _), (0, _), (1, _), (2, _), (3, _), (4, _)]) C dX9_canBe_48 5 rfl (by decide) (by decide) rfl ?_
        refine jt_goto (tgt := 3) C dX9_canBe_51 (by decide) ?_
        cases h
        exact jt_sub [1, 2, 3, 4, 5, 0] rfl (h1 _ rfl)
      · replace h := jm_iff c43 h
        refine jt_iconst (v := (0 : Int32)) C dX9_canBe_46 (by decide) ?_
        cases h
        exact h2 _ rfl _ _ ⟨dX9_canBe_47, (Or.inl rfl)⟩
set_option maxHeartbeats 4000000 in
set_option maxRecDepth 100000 in
theorem c_X9_canBe (l : Launch) (k : jm_C) (n : Nat) (r0 : Nat) (v1 : Int32) (v2 : Int32) (v3 : Int32) (v4 : Int32) (M : jm_M) (hr0 : jm_is r0 (3, 8)) (q : Int32) (h : X9_canBe n r0 v1 v2 v3 v4 M = some q) : jm_Ci l k yX9_canBe w_X9_canBe { frames := 3, cells := 0, slots := 0, locals := 120 } [.ref (jm_ad k r0), .int v1, .int v2, .int v3, .int v4] M q M := by
  refine jm_entry_i (cc := cX9_canBe) (nL := 6) (ret := (some .boolean)) (by decide) rfl (Nat.le_of_ble_eq_true rfl) ?_
  intro X hX C hQ hr
  subst hX
  unfold X9_canBe at h
  refine jt_iconst (v := (0 : Int32)) C dX9_canBe_0 (by decide) ?_
  refine jt_istore (lv' := [(5, _), (0, _), (1, _), (2, _), (3, _), (4, _)]) C dX9_canBe_1 (by decide) rfl ?_
  obtain ⟨q3, eq3, h⟩ := jm_bind h
  refine jt_sub [1, 2, 3, 4, 5, 0] rfl ?_
  refine t_X9_canBe_L3 C _ _ _ _ _ _ hr0 n _ _ eq3 ?_
  rcases q3 with z4 | w5
  · replace h := jm_inl h
    intro pc1 lv1 hp1
    cases h
    exact jt_zret C hp1.1 hQ hr hp1.2
  · replace h := jm_inr h
    show jm_T _ _ _ _ _ _ _ _
    refine jt_iconst (v := (1 : Int32)) C dX9_canBe_54 (by decide) ?_
    cases h
    exact jt_zret C dX9_canBe_55 hQ hr (Or.inr rfl)
theorem h_X9_goThrough : yX9_goThrough.cls = RX9 ∧ yX9_goThrough.cls ≠ "java/lang/invoke/MethodHandle" ∧ yX9_goThrough.cls ≠ "java/lang/invoke/VarHandle" ∧ (parseMethodDescriptor yX9_goThrough.desc).map (fun d => d.parameters.length) = some 4 := by decide +kernel
set_option maxHeartbeats 4000000 in
set_option maxRecDepth 100000 in
theorem t_X9_goThrough_L8 {X : jm_X} {k : jm_C} (C : jm_Cx X k cX9_goThrough 8 RX9 w_X9_goThrough) (r0 : Nat) (v1 : Int32) (v2 : Int32) (v3 : Int32) (v4 : Int32) (hr0 : jm_is r0 (3, 8)) : ∀ (m : Nat) (s : Int32 × jm_M) (r : jm_M), jm_loop (X9_goThrough_B8 r0 v1 v2 v3 v4) m s = some r → jm_T X { frames := 4, cells := 0, slots := 0, locals := 160 } k 8 r 28 [(0, .ref (jm_ad k r0)), (1, .int v1), (2, .int v2), (3, .int v3), (4, .int v4)] [] → (∀ (b0 : Int32) (b1 : jm_M), s = (b0, b1) → jm_T X { frames := 4, cells := 0, slots := 0, locals := 160 } k 8 b1 8 [(0, .ref (jm_ad k r0)), (1, .int v1), (2, .int v2), (3, .int v3), (4, .int v4), (5, .int b0)] []) := by
  refine jm_loop_ind (P := fun (s : Int32 × jm_M) => (∀ (b0 : Int32) (b1 : jm_M), s = (b0, b1) → jm_T X { frames := 4, cells := 0, slots := 0, locals := 160 } k 8 b1 8 [(0, .ref (jm_ad k r0)), (1, .int v1), (2, .int v2), (3, .int v3), (4, .int v4), (5, .int b0)] [])) (K := fun (r : jm_M) => jm_T X { frames := 4, cells := 0, slots := 0, locals := 160 } k 8 r 28 [(0, .ref (jm_ad k r0)), (1, .int v1), (2, .int v2), (3, .int v3), (4, .int v4)] []) ?_
  intro s q h h1 h2
  intro b0 b1 hs
  subst hs
  unfold X9_goThrough_B8 at h
  try dsimp only at h
  refine jt_iload C dX9_goThrough_8 5 rfl ?_
  refine jt_iload_n C dX9_goThrough_10 rfl 1 rfl ?_
  refine jt_icmp_ge (tgt := 28) C dX9_goThrough_11 (by decide) (fun c11 => ?_) (fun c11 => ?_)
  · replace h := jm_ift c11 h
    cases h
    exact jt_sub [0, 1, 2, 3, 4] rfl (h2 _ rfl)
  · replace h := jm_iff c11 h
    refine jt_aload_n C dX9_goThrough_14 rfl 0 rfl ?_
    refine jt_getR (Tf := TX9) (N := 17) C dX9_goThrough_15 hr0 rfl i_9 7 (by decide) rfl m_RX9_28 rfl ?_
    refine jt_iload C dX9_goThrough_18 5 rfl ?_
    refine jt_iconst (v := (0 : Int32)) C dX9_goThrough_20 (by decide) ?_
    obtain ⟨M1, eM1, h⟩ := jm_bind h
    refine jt_iast C dX9_goThrough_21 (jm_f8_7 hr0) eM1 ?_
    refine jt_iinc (v := (1 : Int32)) (lv' := [(5, _), (0, _), (1, _), (2, _), (3, _), (4, _)]) C dX9_goThrough_22 5 rfl (by decide) (by decide) rfl ?_
    refine jt_goto (tgt := 8) C dX9_goThrough_25 (by decide) ?_
    cases h
    exact jt_sub [1, 2, 3, 4, 5, 0] rfl (h1 _ rfl _ _ rfl)
set_option maxHeartbeats 4000000 in
set_option maxRecDepth 100000 in
theorem t_X9_goThrough_L144 {X : jm_X} {k : jm_C} (C : jm_Cx X k cX9_goThrough 8 RX9 w_X9_goThrough) (r0 : Nat) (v1 : Int32) (v2 : Int32) (v3 : Int32) (v4 : Int32) (v5 : Int32) (hr0 : jm_is r0 (3, 8)) : ∀ (m : Nat) (s : Int32 × jm_M) (r : jm_M), jm_loop (X9_goThrough_B144 r0 v1 v2 v3 v4 v5) m s = some r → jm_T X { frames := 4, cells := 0, slots := 0, locals := 160 } k 8 r 175 [(0, .ref (jm_ad k r0)), (1, .int v1), (2, .int v2), (3, .int v3), (4, .int v4), (5, .int v5)] [] → (∀ (b0 : Int32) (b1 : jm_M), s = (b0, b1) → jm_T X { frames := 4, cells := 0, slots := 0, locals := 160 } k 8 b1 144 [(0, .ref (jm_ad k r0)), (1, .int v1), (2, .int v2), (3, .int v3), (4, .int v4), (5, .int v5), (7, .int b0)] []) := by
  refine jm_loop_ind (P := fun (s : Int32 × jm_M) => (∀ (b0 : Int32) (b1 : jm_M), s = (b0, b1) → jm_T X { frames := 4, cells := 0, slots := 0, locals := 160 } k 8 b1 144 [(0, .ref (jm_ad k r0)), (1, .int v1), (2, .int v2), (3, .int v3), (4, .int v4), (5, .int v5), (7, .int b0)] [])) (K := fun (r : jm_M) => jm_T X { frames := 4, cells := 0, slots := 0, locals := 160 } k 8 r 175 [(0, .ref (jm_ad k r0)), (1, .int v1), (2, .int v2), (3, .int v3), (4, .int v4), (5, .int v5)] []) ?_
  intro s q h h1 h2
  intro b0 b1 hs
  subst hs
  unfold X9_goThrough_B144 at h
  try dsimp only at h
  refine jt_iload C dX9_goThrough_144 6 rfl ?_
  refine jt_iload_n C dX9_goThrough_146 rfl 1 rfl ?_
  refine jt_icmp_ge (tgt := 175) C dX9_goThrough_147 (by decide) (fun c147 => ?_) (fun c147 => ?_)
  · replace h := jm_ift c147 h
    cases h
    exact jt_sub [0, 1, 2, 3, 4, 5] rfl (h2 _ rfl)
  · replace h := jm_iff c147 h
    refine jt_aload_n C dX9_goThrough_150 rfl 0 rfl ?_
    refine jt_getR (Tf := TX9) (N := 17) C dX9_goThrough_151 hr0 rfl i_9 7 (by decide) rfl m_RX9_28 rfl ?_
    refine jt_iload C dX9_goThrough_154 6 rfl ?_
    refine jt_dup2 C dX9_goThrough_156 rfl rfl ?_
    obtain ⟨x8, ex8, h⟩ := jm_bind h
    refine jt_iald C dX9_goThrough_157 (jm_f8_7 hr0) ex8 ?_
    refine jt_iconst (v := (1 : Int32)) C dX9_goThrough_158 (by decide) ?_
    refine jt_aload_n C dX9_goThrough_159 rfl 0 rfl ?_
    refine jt_getR (Tf := TX9) (N := 17) C dX9_goThrough_160 hr0 rfl i_9 6 (by decide) rfl m_RX9_25 rfl ?_
    refine jt_iload C dX9_goThrough_163 6 rfl ?_
    obtain ⟨x9, ex9, h⟩ := jm_bind h
    refine jt_iald C dX9_goThrough_165 (jm_f8_6 hr0) ex9 ?_
    refine jt_ishl C dX9_goThrough_166 ?_
    refine jt_ior C dX9_goThrough_167 ?_
    obtain ⟨M10, eM10, h⟩ := jm_bind h
    refine jt_iast C dX9_goThrough_168 (jm_f8_7 hr0) eM10 ?_
    refine jt_iinc (v := (1 : Int32)) (lv' := [(7, _), (0, _), (1, _), (2, _), (3, _), (4, _), (5, _)]) C dX9_goThrough_169 6 rfl (by decide) (by decide) rfl ?_
    refine jt_goto (tgt := 144) C dX9_goThrough_172 (by decide) ?_
    cases h
    exact jt_sub [1, 2, 3, 4, 5, 6, 0] rfl (h1 _ rfl _ _ rfl)
set_option maxHeartbeats 4000000 in
set_option maxRecDepth 100000 in
theorem t_X9_goThrough_L38 {X : jm_X} {k : jm_C} (C : jm_Cx X k cX9_goThrough 8 RX9 w_X9_goThrough) (n : Nat) (r0 : Nat) (v1 : Int32) (v2 : Int32) (v3 : Int32) (v4 : Int32) (hr0 : jm_is r0 (3, 8)) : ∀ (m : Nat) (s : Int32 × jm_M) (r : (Int32 × jm_M) ⊕ (jm_M)), jm_loop (X9_goThrough_B38 n r0 v1 v2 v3 v4) m s = some r → (match r with | .inl z => ∀ (z1 : Int32) (z2 : jm_M), z = (z1, z2) → ∀ (pc1 : Nat) (lv1 : List (Nat × Value)), (decode cX9_goThrough pc1 = .ok (.ireturn, 1) ∧ (z1 = 0 ∨ z1 = 1)) → jm_T X { frames := 4, cells := 0, slots := 0, locals := 160 } k 8 z2 pc1 lv1 [.int z1] | .inr w => jm_T X { frames := 4, cells := 0, slots := 0, locals := 160 } k 8 w 178 [] []) → (∀ (b0 : Int32) (b1 : jm_M), s = (b0, b1) → jm_T X { frames := 4, cells := 0, slots := 0, locals := 160 } k 8 b1 38 [(0, .ref (jm_ad k r0)), (1, .int v1), (2, .int v2), (3, .int v3), (4, .int v4), (5, .int b0)] []) := by
  refine jm_loop_ind (P := fun (s : Int32 × jm_M) => (∀ (b0 : Int32) (b1 : jm_M), s = (b0, b1) → jm_T X { frames := 4, cells := 0, slots := 0, locals := 160 } k 8 b1 38 [(0, .ref (jm_ad k r0)), (1, .int v1), (2, .int v2), (3, .int v3), (4, .int v4), (5, .int b0)] [])) (K := fun (r : (Int32 × jm_M) ⊕ (jm_M)) => match r with | .inl z => ∀ (z1 : Int32) (z2 : jm_M), z = (z1, z2) → ∀ (pc1 : Nat) (lv1 : List (Nat × Value)), (decode cX9_goThrough pc1 = .ok (.ireturn, 1) ∧ (z1 = 0 ∨ z1 = 1)) → jm_T X { frames := 4, cells := 0, slots := 0, locals := 160 } k 8 z2 pc1 lv1 [.int z1] | .inr w => jm_T X { frames := 4, cells := 0, slots := 0, locals := 160 } k 8 w 178 [] []) ?_
  intro s q h h1 h2
  intro b0 b1 hs
  subst hs
  unfold X9_goThrough_B38 at h
  try dsimp only at h
  refine jt_iload C dX9_goThrough_38 5 rfl ?_
  refine jt_if_lt (tgt := 178) C dX9_goThrough_40 (by decide) (fun c40 => ?_) (fun c40 => ?_)
  · replace h := jm_ift c40 h
    cases h
    exact jt_sub [] rfl (h2 _ rfl)
  · replace h := jm_iff c40 h
    refine jt_aload_n C dX9_goThrough_43 rfl 0 rfl ?_
    refine jt_getR (Tf := TX9) (N := 17) C dX9_goThrough_44 hr0 rfl i_9 6 (by decide) rfl m_RX9_25 rfl ?_
    refine jt_iload C dX9_goThrough_47 5 rfl ?_
    refine jt_dup2 C dX9_goThrough_49 rfl rfl ?_
    obtain ⟨x4, ex4, h⟩ := jm_bind h
    refine jt_iald C dX9_goThrough_50 (jm_f8_6 hr0) ex4 ?_
    refine jt_iconst (v := (1 : Int32)) C dX9_goThrough_51 (by decide) ?_
    refine jt_iadd C dX9_goThrough_52 ?_
    obtain ⟨M5, eM5, h⟩ := jm_bind h
    refine jt_iast C dX9_goThrough_53 (jm_f8_6 hr0) eM5 ?_
    refine jt_aload_n C dX9_goThrough_54 rfl 0 rfl ?_
    refine jt_getR (Tf := TX9) (N := 17) C dX9_goThrough_55 hr0 rfl i_9 6 (by decide) rfl m_RX9_25 rfl ?_
    refine jt_iload C dX9_goThrough_58 5 rfl ?_
    obtain ⟨x6, ex6, h⟩ := jm_bind h
    refine jt_iald C dX9_goThrough_60 (jm_f8_6 hr0) ex6 ?_
    refine jt_istore (lv' := [(6, _), (0, _), (1, _), (2, _), (3, _), (4, _), (5, _)]) C dX9_goThrough_61 (by decide) rfl ?_
    refine jt_iload C dX9_goThrough_63 0 rfl ?_
    refine jt_iload_n C dX9_goThrough_65 rfl 2 rfl ?_
    refine jt_icmp_lt (tgt := 75) C dX9_goThrough_66 (by decide) (fun c66 => ?_) (fun c66 => ?_)
    · replace h := jm_ift c66 h
      refine jt_iload C dX9_goThrough_75 6 rfl ?_
      refine jt_iload_n C dX9_goThrough_77 rfl 4 rfl ?_
      refine jt_icmp_ne (tgt := 88) C dX9_goThrough_78 (by decide) (fun c78 => ?_) (fun c78 => ?_)
      · replace h := jm_iff c78 h
        refine jt_aload_n C dX9_goThrough_88 rfl 1 rfl ?_
        refine jt_iload_n C dX9_goThrough_89 rfl 2 rfl ?_
        refine jt_iload_n C dX9_goThrough_90 rfl 3 rfl ?_
        refine jt_iload C dX9_goThrough_91 6 rfl ?_
        refine jt_iload C dX9_goThrough_93 0 rfl ?_
        obtain ⟨x7, ex7, h⟩ := jm_bind h
        refine jt_callVi (As := [_, _, _, _]) (rest := []) C hr0 rfl dX9_goThrough_95 (c_X9_canBe (jx_l X) k n _ _ _ _ _ _ hr0 _ ex7) (k_goodIn (g_RX9_96)) rfl h_X9_canBe ⟨rfl, rfl, Nat.le_of_ble_eq_true rfl, Nat.le_of_ble_eq_true rfl⟩ rfl rfl (Nat.le_of_ble_eq_true rfl) ?_
        refine jt_if_eq (tgt := 175) C dX9_goThrough_98 (by decide) (fun c98 => ?_) (fun c98 => ?_)
        · replace h := jm_ift c98 h
          refine jt_goto (tgt := 38) C dX9_goThrough_175 (by decide) ?_
          cases h
          exact jt_sub [1, 2, 3, 4, 5, 6] rfl (h1 _ rfl _ _ rfl)
        · replace h := jm_iff c98 h
          refine jt_iload C dX9_goThrough_101 6 rfl ?_
          refine jt_iload_n C dX9_goThrough_103 rfl 2 rfl ?_
          refine jt_iconst (v := (1 : Int32)) C dX9_goThrough_104 (by decide) ?_
          refine jt_isub C dX9_goThrough_105 ?_
          refine jt_icmp_ge (tgt := 123) C dX9_goThrough_106 (by decide) (fun c106 => ?_) (fun c106 => ?_)
          · replace h := jm_ift c106 h
            refine jt_iload_n C dX9_goThrough_123 rfl 4 rfl ?_
            refine jt_bipush (v := (-9 : Int32)) C dX9_goThrough_124 (by decide) ?_
            refine jt_icmp_eq (tgt := 131) C dX9_goThrough_126 (by decide) (fun c126 => ?_) (fun c126 => ?_)
            · replace h := jm_ift c126 h
              refine jt_aload_n C dX9_goThrough_131 rfl 1 rfl ?_
              refine jt_dup C dX9_goThrough_132 rfl ?_
              refine jt_getI (Tf := TX9) (N := 17) C dX9_goThrough_133 hr0 rfl i_9 8 (by decide) rfl m_RX9_93 rfl ?_
              refine jt_iconst (v := (1 : Int32)) C dX9_goThrough_136 (by decide) ?_
              refine jt_iadd C dX9_goThrough_137 ?_
              refine jt_putI (Tf := TX9) (N := 17) C dX9_goThrough_138 hr0 rfl i_9 tyX9 tyX9_ok nmX9 8 (by decide) rfl m_RX9_93 rfl rfl (by decide +kernel) ?_
              refine jt_iconst (v := (0 : Int32)) C dX9_goThrough_141 (by decide) ?_
              refine jt_istore (lv' := [(7, _), (6, _), (0, _), (1, _), (2, _), (3, _), (4, _), (5, _)]) C dX9_goThrough_142 (by decide) rfl ?_
              obtain ⟨q11, eq11, h⟩ := jm_bind h
              refine jt_sub [2, 3, 4, 5, 6, 7, 0] rfl ?_
              refine t_X9_goThrough_L144 C _ _ _ _ _ _ hr0 n _ _ eq11 ?_ _ _ rfl
              refine jt_goto (tgt := 38) C dX9_goThrough_175 (by decide) ?_
              cases h
              exact jt_sub [0, 1, 2, 3, 4, 5] rfl (h1 _ rfl _ _ rfl)
            · replace h := jm_iff c126 h
              refine jt_iconst (v := (1 : Int32)) C dX9_goThrough_129 (by decide) ?_
              cases h
              exact h2 _ rfl _ _ rfl _ _ ⟨dX9_goThrough_130, (Or.inr rfl)⟩
          · replace h := jm_iff c106 h
            refine jt_iinc (v := (1 : Int32)) (lv' := [(5, _), (6, _), (0, _), (1, _), (2, _), (3, _), (4, _)]) C dX9_goThrough_109 6 rfl (by decide) (by decide) rfl ?_
            refine jt_aload_n C dX9_goThrough_112 rfl 2 rfl ?_
            refine jt_getR (Tf := TX9) (N := 17) C dX9_goThrough_113 hr0 rfl i_9 6 (by decide) rfl m_RX9_25 rfl ?_
            refine jt_iload C dX9_goThrough_116 0 rfl ?_
            refine jt_iconst (v := (-1 : Int32)) C dX9_goThrough_118 (by decide) ?_
            obtain ⟨M12, eM12, h⟩ := jm_bind h
            refine jt_iast C dX9_goThrough_119 (jm_f8_6 hr0) eM12 ?_
            refine jt_goto (tgt := 175) C dX9_goThrough_120 (by decide) ?_
            refine jt_goto (tgt := 38) C dX9_goThrough_175 (by decide) ?_
            cases h
            exact jt_sub [2, 3, 4, 5, 6, 0] rfl (h1 _ rfl _ _ rfl)
      · replace h := jm_ift c78 h
        refine jt_iload C dX9_goThrough_81 0 rfl ?_
        refine jt_iload C dX9_goThrough_83 5 rfl ?_
        refine jt_icmp_ne (tgt := 175) C dX9_goThrough_85 (by decide) (fun c85 => ?_) (fun c85 => ?_)
        · replace h := jm_iff c85 h
          refine jt_goto (tgt := 38) C dX9_goThrough_175 (by decide) ?_
          cases h
          exact jt_sub [1, 2, 3, 4, 5, 6] rfl (h1 _ rfl _ _ rfl)
        · replace h := jm_ift c85 h
          refine jt_aload_n C dX9_goThrough_88 rfl 1 rfl ?_
          refine jt_iload_n C dX9_goThrough_89 rfl 2 rfl ?_
          refine jt_iload_n C dX9_goThrough_90 rfl 3 rfl ?_
          refine jt_iload C dX9_goThrough_91 6 rfl ?_
          refine jt_iload C dX9_goThrough_93 0 rfl ?_
          obtain ⟨x13, ex13, h⟩ := jm_bind h
          refine jt_callVi (As := [_, _, _, _]) (rest := []) C hr0 rfl dX9_goThrough_95 (c_X9_canBe (jx_l X) k n _ _ _ _ _ _ hr0 _ ex13) (k_goodIn (g_RX9_96)) rfl h_X9_canBe ⟨rfl, rfl, Nat.le_of_ble_eq_true rfl, Nat.le_of_ble_eq_true rfl⟩ rfl rfl (Nat.le_of_ble_eq_true rfl) ?_
          refine jt_if_eq (tgt := 175) C dX9_goThrough_98 (by decide) (fun c98 => ?_) (fun c98 => ?_)
          · replace h := jm_ift c98 h
            refine jt_goto (tgt := 38) C dX9_goThrough_175 (by decide) ?_
            cases h
            exact jt_sub [1, 2, 3, 4, 5, 6] rfl (h1 _ rfl _ _ rfl)
          · replace h := jm_iff c98 h
            refine jt_iload C dX9_goThrough_101 6 rfl ?_
            refine jt_iload_n C dX9_goThrough_103 rfl 2 rfl ?_
            refine jt_iconst (v := (1 : Int32)) C dX9_goThrough_104 (by decide) ?_
            refine jt_isub C dX9_goThrough_105 ?_
            refine jt_icmp_ge (tgt := 123) C dX9_goThrough_106 (by decide) (fun c106 => ?_) (fun c106 => ?_)
            · replace h := jm_ift c106 h
              refine jt_iload_n C dX9_goThrough_123 rfl 4 rfl ?_
              refine jt_bipush (v := (-9 : Int32)) C dX9_goThrough_124 (by decide) ?_
              refine jt_icmp_eq (tgt := 131) C dX9_goThrough_126 (by decide) (fun c126 => ?_) (fun c126 => ?_)
              · replace h := jm_ift c126 h
                refine jt_aload_n C dX9_goThrough_131 rfl 1 rfl ?_
                refine jt_dup C dX9_goThrough_132 rfl ?_
                refine jt_getI (Tf := TX9) (N := 17) C dX9_goThrough_133 hr0 rfl i_9 8 (by decide) rfl m_RX9_93 rfl ?_
                refine jt_iconst (v := (1 : Int32)) C dX9_goThrough_136 (by decide) ?_
                refine jt_iadd C dX9_goThrough_137 ?_
                refine jt_putI (Tf := TX9) (N := 17) C dX9_goThrough_138 hr0 rfl i_9 tyX9 tyX9_ok nmX9 8 (by decide) rfl m_RX9_93 rfl rfl (by decide +kernel) ?_
                refine jt_iconst (v := (0 : Int32)) C dX9_goThrough_141 (by decide) ?_
                refine jt_istore (lv' := [(7, _), (6, _), (0, _), (1, _), (2, _), (3, _), (4, _), (5, _)]) C dX9_goThrough_142 (by decide) rfl ?_
                obtain ⟨q14, eq14, h⟩ := jm_bind h
                refine jt_sub [2, 3, 4, 5, 6, 7, 0] rfl ?_
                refine t_X9_goThrough_L144 C _ _ _ _ _ _ hr0 n _ _ eq14 ?_ _ _ rfl
                refine jt_goto (tgt := 38) C dX9_goThrough_175 (by decide) ?_
                cases h
                exact jt_sub [0, 1, 2, 3, 4, 5] rfl (h1 _ rfl _ _ rfl)
              · replace h := jm_iff c126 h
                refine jt_iconst (v := (1 : Int32)) C dX9_goThrough_129 (by decide) ?_
                cases h
                exact h2 _ rfl _ _ rfl _ _ ⟨dX9_goThrough_130, (Or.inr rfl)⟩
            · replace h := jm_iff c106 h
              refine jt_iinc (v := (1 : Int32)) (lv' := [(5, _), (6, _), (0, _), (1, _), (2, _), (3, _), (4, _)]) C dX9_goThrough_109 6 rfl (by decide) (by decide) rfl ?_
              refine jt_aload_n C dX9_goThrough_112 rfl 2 rfl ?_
              refine jt_getR (Tf := TX9) (N := 17) C dX9_goThrough_113 hr0 rfl i_9 6 (by decide) rfl m_RX9_25 rfl ?_
              refine jt_iload C dX9_goThrough_116 0 rfl ?_
              refine jt_iconst (v := (-1 : Int32)) C dX9_goThrough_118 (by decide) ?_
              obtain ⟨M15, eM15, h⟩ := jm_bind h
              refine jt_iast C dX9_goThrough_119 (jm_f8_6 hr0) eM15 ?_
              refine jt_goto (tgt := 175) C dX9_goThrough_120 (by decide) ?_
              refine jt_goto (tgt := 38) C dX9_goThrough_175 (by decide) ?_
              cases h
              exact jt_sub [2, 3, 4, 5, 6, 0] rfl (h1 _ rfl _ _ rfl)
    · replace h := jm_iff c66 h
      refine jt_iinc (v := (-1 : Int32)) (lv' := [(5, _), (6, _), (0, _), (1, _), (2, _), (3, _), (4, _)]) C dX9_goThrough_69 6 rfl (by decide) (by decide) rfl ?_
      refine jt_goto (tgt := 175) C dX9_goThrough_72 (by decide) ?_
      refine jt_goto (tgt := 38) C dX9_goThrough_175 (by decide) ?_
      cases h
      exact jt_sub [2, 3, 4, 5, 6, 0] rfl (h1 _ rfl _ _ rfl)
set_option maxHeartbeats 4000000 in
set_option maxRecDepth 100000 in
theorem c_X9_goThrough (l : Launch) (k : jm_C) (n : Nat) (r0 : Nat) (v1 : Int32) (v2 : Int32) (v3 : Int32) (v4 : Int32) (M : jm_M) (hr0 : jm_is r0 (3, 8)) (q1 : Int32) (q2 : jm_M) (h : X9_goThrough n r0 v1 v2 v3 v4 M = some (q1, q2)) : jm_Ci l k yX9_goThrough w_X9_goThrough { frames := 4, cells := 0, slots := 0, locals := 160 } [.ref (jm_ad k r0), .int v1, .int v2, .int v3, .int v4] M q1 q2 := by
  refine jm_entry_i (cc := cX9_goThrough) (nL := 8) (ret := (some .boolean)) (by decide) rfl (Nat.le_of_ble_eq_true rfl) ?_
  intro X hX C hQ hr
  subst hX
  unfold X9_goThrough at h
  refine jt_aload_n C dX9_goThrough_0 rfl 0 rfl ?_
  refine jt_iconst (v := (0 : Int32)) C dX9_goThrough_1 (by decide) ?_
  refine jt_putI (Tf := TX9) (N := 17) C dX9_goThrough_2 hr0 rfl i_9 tyX9 tyX9_ok nmX9 8 (by decide) rfl m_RX9_93 rfl rfl (by decide +kernel) ?_
  refine jt_iconst (v := (0 : Int32)) C dX9_goThrough_5 (by decide) ?_
  refine jt_istore (lv' := [(5, _), (0, _), (1, _), (2, _), (3, _), (4, _)]) C dX9_goThrough_6 (by decide) rfl ?_
  obtain ⟨q2, eq2, h⟩ := jm_bind h
  refine jt_sub [1, 2, 3, 4, 5, 0] rfl ?_
  refine t_X9_goThrough_L8 C _ _ _ _ _ hr0 n _ _ eq2 ?_ _ _ rfl
  refine jt_iconst (v := (0 : Int32)) C dX9_goThrough_28 (by decide) ?_
  refine jt_istore (lv' := [(5, _), (0, _), (1, _), (2, _), (3, _), (4, _)]) C dX9_goThrough_29 (by decide) rfl ?_
  refine jt_aload_n C dX9_goThrough_31 rfl 1 rfl ?_
  refine jt_getR (Tf := TX9) (N := 17) C dX9_goThrough_32 hr0 rfl i_9 6 (by decide) rfl m_RX9_25 rfl ?_
  refine jt_iconst (v := (0 : Int32)) C dX9_goThrough_35 (by decide) ?_
  refine jt_iconst (v := (-1 : Int32)) C dX9_goThrough_36 (by decide) ?_
  obtain ⟨M3, eM3, h⟩ := jm_bind h
  refine jt_iast C dX9_goThrough_37 (jm_f8_6 hr0) eM3 ?_
  obtain ⟨q16, eq16, h⟩ := jm_bind h
  refine jt_sub [1, 2, 3, 4, 5, 0] rfl ?_
  refine t_X9_goThrough_L38 C n _ _ _ _ _ hr0 n _ _ eq16 ?_ _ _ rfl
  rcases q16 with z17 | w18
  · replace h := jm_inl h
    intro z1 z2 hz pc1 lv1 hp1
    subst hz
    cases h
    exact jt_zret C hp1.1 hQ hr hp1.2
  · replace h := jm_inr h
    show jm_T _ _ _ _ _ _ _ _
    refine jt_iconst (v := (0 : Int32)) C dX9_goThrough_178 (by decide) ?_
    cases h
    exact jt_zret C dX9_goThrough_179 hQ hr (Or.inl rfl)
theorem h_X9_layOrbits : yX9_layOrbits.cls = RX9 ∧ yX9_layOrbits.cls ≠ "java/lang/invoke/MethodHandle" ∧ yX9_layOrbits.cls ≠ "java/lang/invoke/VarHandle" ∧ (parseMethodDescriptor yX9_layOrbits.desc).map (fun d => d.parameters.length) = some 0 := by decide +kernel
set_option maxHeartbeats 4000000 in
set_option maxRecDepth 100000 in
theorem c_X9_layOrbits (l : Launch) (k : jm_C) (n : Nat) (r0 : Nat) (M : jm_M) (hr0 : jm_is r0 (3, 8)) (q : jm_M) (h : X9_layOrbits n r0 M = some q) : jm_Cv l k yX9_layOrbits w_X9_layOrbits { frames := 5, cells := 0, slots := 0, locals := 200 } [.ref (jm_ad k r0)] M q := by
  refine jm_entry_v (cc := cX9_layOrbits) (nL := 2) (ret := none) (by decide) rfl (Nat.le_of_ble_eq_true rfl) ?_
  intro X hX C hQ hr
  subst hX
  unfold X9_layOrbits at h
  refine jt_aload_n C dX9_layOrbits_0 rfl 0 rfl ?_
  refine jt_aload_n C dX9_layOrbits_1 rfl 0 rfl ?_
  refine jt_getR (Tf := TX9) (N := 17) C dX9_layOrbits_2 hr0 rfl i_9 0 (by decide) rfl m_RX9_7 rfl ?_
  refine jt_iconst (v := (0 : Int32)) C dX9_layOrbits_5 (by decide) ?_
  obtain ⟨x1, ex1, h⟩ := jm_bind h
  refine jt_iald C dX9_layOrbits_6 (jm_f8_0 hr0) ex1 ?_
  refine jt_aload_n C dX9_layOrbits_7 rfl 0 rfl ?_
  refine jt_getR (Tf := TX9) (N := 17) C dX9_layOrbits_8 hr0 rfl i_9 0 (by decide) rfl m_RX9_7 rfl ?_
  refine jt_iconst (v := (1 : Int32)) C dX9_layOrbits_11 (by decide) ?_
  obtain ⟨x2, ex2, h⟩ := jm_bind h
  refine jt_iald C dX9_layOrbits_12 (jm_f8_0 hr0) ex2 ?_
  refine jt_bipush (v := (-9 : Int32)) C dX9_layOrbits_13 (by decide) ?_
  refine jt_bipush (v := (-9 : Int32)) C dX9_layOrbits_15 (by decide) ?_
  obtain ⟨⟨x3a, x3b⟩, ex3, h⟩ := jm_bind h
  try dsimp only at h
  refine jt_callVi (As := [_, _, _, _]) (rest := []) C hr0 rfl dX9_layOrbits_17 (c_X9_goThrough (jx_l X) k n _ _ _ _ _ _ hr0 _ _ ex3) (k_goodIn (g_RX9_100)) rfl h_X9_goThrough ⟨rfl, rfl, Nat.le_of_ble_eq_true rfl, Nat.le_of_ble_eq_true rfl⟩ rfl rfl (Nat.le_of_ble_eq_true rfl) ?_
  refine jt_istore_n (lv' := [(1, _), (0, _)]) C dX9_layOrbits_20 rfl (by decide) rfl ?_
  cases h
  exact jt_vret C dX9_layOrbits_21 hQ hr
theorem h_X9_layCards : yX9_layCards.cls = RX9 ∧ yX9_layCards.cls ≠ "java/lang/invoke/MethodHandle" ∧ yX9_layCards.cls ≠ "java/lang/invoke/VarHandle" ∧ (parseMethodDescriptor yX9_layCards.desc).map (fun d => d.parameters.length) = some 0 := by decide +kernel
set_option maxHeartbeats 4000000 in
set_option maxRecDepth 100000 in
theorem t_X9_layCards_L2 {X : jm_X} {k : jm_C} (C : jm_Cx X k cX9_layCards 2 RX9 w_X9_layCards) (n : Nat) (r0 : Nat) (hr0 : jm_is r0 (3, 8)) : ∀ (m : Nat) (s : Int32 × jm_M) (r : jm_M), jm_loop (X9_layCards_B2 n r0) m s = some r → jm_T X { frames := 6, cells := 0, slots := 0, locals := 240 } k 2 r 41 [] [] → (∀ (b0 : Int32) (b1 : jm_M), s = (b0, b1) → jm_T X { frames := 6, cells := 0, slots := 0, locals := 240 } k 2 b1 2 [(0, .ref (jm_ad k r0)), (1, .int b0)] []) := by
  refine jm_loop_ind (P := fun (s : Int32 × jm_M) => (∀ (b0 : Int32) (b1 : jm_M), s = (b0, b1) → jm_T X { frames := 6, cells := 0, slots := 0, locals := 240 } k 2 b1 2 [(0, .ref (jm_ad k r0)), (1, .int b0)] [])) (K := fun (r : jm_M) => jm_T X { frames := 6, cells := 0, slots := 0, locals := 240 } k 2 r 41 [] []) ?_
  intro s q h h1 h2
  intro b0 b1 hs
  subst hs
  unfold X9_layCards_B2 at h
  try dsimp only at h
  refine jt_iload_n C dX9_layCards_2 rfl 1 rfl ?_
  refine jt_aload_n C dX9_layCards_3 rfl 0 rfl ?_
  refine jt_getR (Tf := TX9) (N := 17) C dX9_layCards_4 hr0 rfl i_9 0 (by decide) rfl m_RX9_7 rfl ?_
  refine jt_iconst (v := (0 : Int32)) C dX9_layCards_7 (by decide) ?_
  obtain ⟨x1, ex1, h⟩ := jm_bind h
  refine jt_iald C dX9_layCards_8 (jm_f8_0 hr0) ex1 ?_
  refine jt_icmp_ge (tgt := 41) C dX9_layCards_9 (by decide) (fun c9 => ?_) (fun c9 => ?_)
  · replace h := jm_ift c9 h
    cases h
    exact jt_sub [] rfl (h2 _ rfl)
  · replace h := jm_iff c9 h
    refine jt_aload_n C dX9_layCards_12 rfl 0 rfl ?_
    refine jt_getR (Tf := TX9) (N := 17) C dX9_layCards_13 hr0 rfl i_9 9 (by decide) rfl m_RX9_31 rfl ?_
    refine jt_iload_n C dX9_layCards_16 rfl 1 rfl ?_
    refine jt_aload_n C dX9_layCards_17 rfl 0 rfl ?_
    refine jt_aload_n C dX9_layCards_18 rfl 0 rfl ?_
    refine jt_getR (Tf := TX9) (N := 17) C dX9_layCards_19 hr0 rfl i_9 0 (by decide) rfl m_RX9_7 rfl ?_
    refine jt_iconst (v := (0 : Int32)) C dX9_layCards_22 (by decide) ?_
    obtain ⟨x2, ex2, h⟩ := jm_bind h
    refine jt_iald C dX9_layCards_23 (jm_f8_0 hr0) ex2 ?_
    refine jt_aload_n C dX9_layCards_24 rfl 0 rfl ?_
    refine jt_getR (Tf := TX9) (N := 17) C dX9_layCards_25 hr0 rfl i_9 0 (by decide) rfl m_RX9_7 rfl ?_
    refine jt_iconst (v := (1 : Int32)) C dX9_layCards_28 (by decide) ?_
    obtain ⟨x3, ex3, h⟩ := jm_bind h
    refine jt_iald C dX9_layCards_29 (jm_f8_0 hr0) ex3 ?_
    refine jt_iload_n C dX9_layCards_30 rfl 1 rfl ?_
    obtain ⟨⟨x4a, x4b⟩, ex4, h⟩ := jm_bind h
    try dsimp only at h
    refine jt_callVi (As := [_, _, _]) (rest := [_, _]) C hr0 rfl dX9_layCards_31 (c_X9_cardOf (jx_l X) k n _ _ _ _ _ hr0 _ _ ex4) (k_goodIn (g_RX9_103)) rfl h_X9_cardOf ⟨rfl, rfl, Nat.le_of_ble_eq_true rfl, Nat.le_of_ble_eq_true rfl⟩ rfl rfl (Nat.le_of_ble_eq_true rfl) ?_
    obtain ⟨M5, eM5, h⟩ := jm_bind h
    refine jt_iast C dX9_layCards_34 (jm_f8_9 hr0) eM5 ?_
    refine jt_iinc (v := (1 : Int32)) (lv' := [(1, _), (0, _)]) C dX9_layCards_35 1 rfl (by decide) (by decide) rfl ?_
    refine jt_goto (tgt := 2) C dX9_layCards_38 (by decide) ?_
    cases h
    exact jt_sub [1, 0] rfl (h1 _ rfl _ _ rfl)
set_option maxHeartbeats 4000000 in
set_option maxRecDepth 100000 in
theorem c_X9_layCards (l : Launch) (k : jm_C) (n : Nat) (r0 : Nat) (M : jm_M) (hr0 : jm_is r0 (3, 8)) (q : jm_M) (h : X9_layCards n r0 M = some q) : jm_Cv l k yX9_layCards w_X9_layCards { frames := 6, cells := 0, slots := 0, locals := 240 } [.ref (jm_ad k r0)] M q := by
  refine jm_entry_v (cc := cX9_layCards) (nL := 2) (ret := none) (by decide) rfl (Nat.le_of_ble_eq_true rfl) ?_
  intro X hX C hQ hr
  subst hX
  unfold X9_layCards at h
  refine jt_iconst (v := (0 : Int32)) C dX9_layCards_0 (by decide) ?_
  refine jt_istore_n (lv' := [(1, _), (0, _)]) C dX9_layCards_1 rfl (by decide) rfl ?_
  obtain ⟨q6, eq6, h⟩ := jm_bind h
  refine jt_sub [1, 0] rfl ?_
  refine t_X9_layCards_L2 C n _ hr0 n _ _ eq6 ?_ _ _ rfl
  cases h
  exact jt_vret C dX9_layCards_41 hQ hr
theorem h_X9_pseudo : yX9_pseudo.cls = RX9 ∧ yX9_pseudo.cls ≠ "java/lang/invoke/MethodHandle" ∧ yX9_pseudo.cls ≠ "java/lang/invoke/VarHandle" ∧ (parseMethodDescriptor yX9_pseudo.desc).map (fun d => d.parameters.length) = some 1 := by decide +kernel
set_option maxHeartbeats 4000000 in
set_option maxRecDepth 100000 in
theorem t_X9_pseudo_L4 {X : jm_X} {k : jm_C} (C : jm_Cx X k cX9_pseudo 4 RX9 w_X9_pseudo) (r0 : Nat) (v1 : Int32) (M : jm_M) (hr0 : jm_is r0 (3, 8)) : ∀ (m : Nat) (s : Int32 × Int32) (r : Int32), jm_loop (X9_pseudo_B4 r0 v1 M) m s = some r → jm_T X { frames := 0, cells := 0, slots := 0, locals := 0 } k 4 M 63 [(2, .int r)] [] → (∀ (b0 : Int32) (b1 : Int32), s = (b0, b1) → jm_T X { frames := 0, cells := 0, slots := 0, locals := 0 } k 4 M 4 [(0, .ref (jm_ad k r0)), (1, .int v1), (2, .int b0), (3, .int b1)] []) := by
  refine jm_loop_ind (P := fun (s : Int32 × Int32) => (∀ (b0 : Int32) (b1 : Int32), s = (b0, b1) → jm_T X { frames := 0, cells := 0, slots := 0, locals := 0 } k 4 M 4 [(0, .ref (jm_ad k r0)), (1, .int v1), (2, .int b0), (3, .int b1)] [])) (K := fun (r : Int32) => jm_T X { frames := 0, cells := 0, slots := 0, locals := 0 } k 4 M 63 [(2, .int r)] []) ?_
  intro s q h h1 h2
  intro b0 b1 hs
  subst hs
  unfold X9_pseudo_B4 at h
  try dsimp only at h
  refine jt_iload_n C dX9_pseudo_4 rfl 3 rfl ?_
  refine jt_aload_n C dX9_pseudo_5 rfl 0 rfl ?_
  refine jt_getR (Tf := TX9) (N := 17) C dX9_pseudo_6 hr0 rfl i_9 0 (by decide) rfl m_RX9_7 rfl ?_
  refine jt_iconst (v := (0 : Int32)) C dX9_pseudo_9 (by decide) ?_
  obtain ⟨x1, ex1, h⟩ := jm_bind h
  refine jt_iald C dX9_pseudo_10 (jm_f8_0 hr0) ex1 ?_
  refine jt_icmp_ge (tgt := 63) C dX9_pseudo_11 (by decide) (fun c11 => ?_) (fun c11 => ?_)
  · replace h := jm_ift c11 h
    cases h
    exact jt_sub [2] rfl (h2 _ rfl)
  · replace h := jm_iff c11 h
    refine jt_iload_n C dX9_pseudo_14 rfl 2 rfl ?_
    refine jt_iload_n C dX9_pseudo_15 rfl 3 rfl ?_
    refine jt_iload_n C dX9_pseudo_16 rfl 1 rfl ?_
    refine jt_icmp_eq (tgt := 54) C dX9_pseudo_17 (by decide) (fun c17 => ?_) (fun c17 => ?_)
    · replace h := jm_ift c17 h
      refine jt_iconst (v := (0 : Int32)) C dX9_pseudo_54 (by decide) ?_
      refine jt_ior C dX9_pseudo_55 ?_
      refine jt_istore_n (lv' := [(2, _), (0, _), (1, _), (3, _)]) C dX9_pseudo_56 rfl (by decide) rfl ?_
      refine jt_iinc (v := (1 : Int32)) (lv' := [(3, _), (2, _), (0, _), (1, _)]) C dX9_pseudo_57 3 rfl (by decide) (by decide) rfl ?_
      refine jt_goto (tgt := 4) C dX9_pseudo_60 (by decide) ?_
      cases h
      exact jt_sub [2, 3, 1, 0] rfl (h1 _ rfl _ _ rfl)
    · replace h := jm_iff c17 h
      refine jt_aload_n C dX9_pseudo_20 rfl 0 rfl ?_
      refine jt_getR (Tf := TX9) (N := 17) C dX9_pseudo_21 hr0 rfl i_9 9 (by decide) rfl m_RX9_31 rfl ?_
      refine jt_iload_n C dX9_pseudo_24 rfl 3 rfl ?_
      obtain ⟨x2, ex2, h⟩ := jm_bind h
      refine jt_iald C dX9_pseudo_25 (jm_f8_9 hr0) ex2 ?_
      refine jt_aload_n C dX9_pseudo_26 rfl 0 rfl ?_
      refine jt_getR (Tf := TX9) (N := 17) C dX9_pseudo_27 hr0 rfl i_9 9 (by decide) rfl m_RX9_31 rfl ?_
      refine jt_iload_n C dX9_pseudo_30 rfl 1 rfl ?_
      obtain ⟨x3, ex3, h⟩ := jm_bind h
      refine jt_iald C dX9_pseudo_31 (jm_f8_9 hr0) ex3 ?_
      refine jt_icmp_ne (tgt := 54) C dX9_pseudo_32 (by decide) (fun c32 => ?_) (fun c32 => ?_)
      · replace h := jm_iff c32 h
        refine jt_iconst (v := (0 : Int32)) C dX9_pseudo_54 (by decide) ?_
        refine jt_ior C dX9_pseudo_55 ?_
        refine jt_istore_n (lv' := [(2, _), (0, _), (1, _), (3, _)]) C dX9_pseudo_56 rfl (by decide) rfl ?_
        refine jt_iinc (v := (1 : Int32)) (lv' := [(3, _), (2, _), (0, _), (1, _)]) C dX9_pseudo_57 3 rfl (by decide) (by decide) rfl ?_
        refine jt_goto (tgt := 4) C dX9_pseudo_60 (by decide) ?_
        cases h
        exact jt_sub [2, 3, 1, 0] rfl (h1 _ rfl _ _ rfl)
      · replace h := jm_ift c32 h
        refine jt_aload_n C dX9_pseudo_35 rfl 0 rfl ?_
        refine jt_getR (Tf := TX9) (N := 17) C dX9_pseudo_36 hr0 rfl i_9 7 (by decide) rfl m_RX9_28 rfl ?_
        refine jt_iload_n C dX9_pseudo_39 rfl 1 rfl ?_
        obtain ⟨x4, ex4, h⟩ := jm_bind h
        refine jt_iald C dX9_pseudo_40 (jm_f8_7 hr0) ex4 ?_
        refine jt_iload_n C dX9_pseudo_41 rfl 3 rfl ?_
        refine jt_ishr C dX9_pseudo_42 ?_
        refine jt_iconst (v := (1 : Int32)) C dX9_pseudo_43 (by decide) ?_
        refine jt_iand C dX9_pseudo_44 ?_
        refine jt_if_ne (tgt := 54) C dX9_pseudo_45 (by decide) (fun c45 => ?_) (fun c45 => ?_)
        · replace h := jm_iff c45 h
          refine jt_iconst (v := (0 : Int32)) C dX9_pseudo_54 (by decide) ?_
          refine jt_ior C dX9_pseudo_55 ?_
          refine jt_istore_n (lv' := [(2, _), (0, _), (1, _), (3, _)]) C dX9_pseudo_56 rfl (by decide) rfl ?_
          refine jt_iinc (v := (1 : Int32)) (lv' := [(3, _), (2, _), (0, _), (1, _)]) C dX9_pseudo_57 3 rfl (by decide) (by decide) rfl ?_
          refine jt_goto (tgt := 4) C dX9_pseudo_60 (by decide) ?_
          cases h
          exact jt_sub [2, 3, 1, 0] rfl (h1 _ rfl _ _ rfl)
        · replace h := jm_ift c45 h
          refine jt_iconst (v := (1 : Int32)) C dX9_pseudo_48 (by decide) ?_
          refine jt_iload_n C dX9_pseudo_49 rfl 3 rfl ?_
          refine jt_ishl C dX9_pseudo_50 ?_
          refine jt_goto (tgt := 55) C dX9_pseudo_51 (by decide) ?_
          refine jt_ior C dX9_pseudo_55 ?_
          refine jt_istore_n (lv' := [(2, _), (0, _), (1, _), (3, _)]) C dX9_pseudo_56 rfl (by decide) rfl ?_
          refine jt_iinc (v := (1 : Int32)) (lv' := [(3, _), (2, _), (0, _), (1, _)]) C dX9_pseudo_57 3 rfl (by decide) (by decide) rfl ?_
          refine jt_goto (tgt := 4) C dX9_pseudo_60 (by decide) ?_
          cases h
          exact jt_sub [2, 3, 1, 0] rfl (h1 _ rfl _ _ rfl)
set_option maxHeartbeats 4000000 in
set_option maxRecDepth 100000 in
theorem c_X9_pseudo (l : Launch) (k : jm_C) (n : Nat) (r0 : Nat) (v1 : Int32) (M : jm_M) (hr0 : jm_is r0 (3, 8)) (q : Int32) (h : X9_pseudo n r0 v1 M = some q) : jm_Ci l k yX9_pseudo w_X9_pseudo { frames := 0, cells := 0, slots := 0, locals := 0 } [.ref (jm_ad k r0), .int v1] M q M := by
  refine jm_entry_i (cc := cX9_pseudo) (nL := 4) (ret := (some .int)) (by decide) rfl (Nat.le_of_ble_eq_true rfl) ?_
  intro X hX C hQ hr
  subst hX
  unfold X9_pseudo at h
  refine jt_iconst (v := (0 : Int32)) C dX9_pseudo_0 (by decide) ?_
  refine jt_istore_n (lv' := [(2, _), (0, _), (1, _)]) C dX9_pseudo_1 rfl (by decide) rfl ?_
  refine jt_iconst (v := (0 : Int32)) C dX9_pseudo_2 (by decide) ?_
  refine jt_istore_n (lv' := [(3, _), (2, _), (0, _), (1, _)]) C dX9_pseudo_3 rfl (by decide) rfl ?_
  obtain ⟨q5, eq5, h⟩ := jm_bind h
  refine jt_sub [2, 3, 1, 0] rfl ?_
  refine t_X9_pseudo_L4 C _ _ _ hr0 n _ _ eq5 ?_ _ _ rfl
  refine jt_iload_n C dX9_pseudo_63 rfl 0 rfl ?_
  cases h
  exact jt_iret C dX9_pseudo_64 hQ hr
theorem h_X9_classes : yX9_classes.cls = RX9 ∧ yX9_classes.cls ≠ "java/lang/invoke/MethodHandle" ∧ yX9_classes.cls ≠ "java/lang/invoke/VarHandle" ∧ (parseMethodDescriptor yX9_classes.desc).map (fun d => d.parameters.length) = some 0 := by decide +kernel
set_option maxHeartbeats 4000000 in
set_option maxRecDepth 100000 in
theorem t_X9_classes_L8 {X : jm_X} {k : jm_C} (C : jm_Cx X k cX9_classes 3 RX9 w_X9_classes) (r0 : Nat) (M : jm_M) (hr0 : jm_is r0 (3, 8)) : ∀ (m : Nat) (s : Int32 × Int32) (r : Int32), jm_loop (X9_classes_B8 r0 M) m s = some r → jm_T X { frames := 6, cells := 0, slots := 0, locals := 240 } k 3 M 47 [(1, .int r)] [] → (∀ (b0 : Int32) (b1 : Int32), s = (b0, b1) → jm_T X { frames := 6, cells := 0, slots := 0, locals := 240 } k 3 M 8 [(0, .ref (jm_ad k r0)), (1, .int b0), (2, .int b1)] []) := by
  refine jm_loop_ind (P := fun (s : Int32 × Int32) => (∀ (b0 : Int32) (b1 : Int32), s = (b0, b1) → jm_T X { frames := 6, cells := 0, slots := 0, locals := 240 } k 3 M 8 [(0, .ref (jm_ad k r0)), (1, .int b0), (2, .int b1)] [])) (K := fun (r : Int32) => jm_T X { frames := 6, cells := 0, slots := 0, locals := 240 } k 3 M 47 [(1, .int r)] []) ?_
  intro s q h h1 h2
  intro b0 b1 hs
  subst hs
  unfold X9_classes_B8 at h
  try dsimp only at h
  refine jt_iload_n C dX9_classes_8 rfl 2 rfl ?_
  refine jt_aload_n C dX9_classes_9 rfl 0 rfl ?_
  refine jt_getR (Tf := TX9) (N := 17) C dX9_classes_10 hr0 rfl i_9 0 (by decide) rfl m_RX9_7 rfl ?_
  refine jt_iconst (v := (0 : Int32)) C dX9_classes_13 (by decide) ?_
  obtain ⟨x2, ex2, h⟩ := jm_bind h
  refine jt_iald C dX9_classes_14 (jm_f8_0 hr0) ex2 ?_
  refine jt_icmp_ge (tgt := 47) C dX9_classes_15 (by decide) (fun c15 => ?_) (fun c15 => ?_)
  · replace h := jm_ift c15 h
    cases h
    exact jt_sub [1] rfl (h2 _ rfl)
  · replace h := jm_iff c15 h
    refine jt_iload_n C dX9_classes_18 rfl 1 rfl ?_
    refine jt_aload_n C dX9_classes_19 rfl 0 rfl ?_
    refine jt_getR (Tf := TX9) (N := 17) C dX9_classes_20 hr0 rfl i_9 7 (by decide) rfl m_RX9_28 rfl ?_
    refine jt_iload_n C dX9_classes_23 rfl 2 rfl ?_
    obtain ⟨x3, ex3, h⟩ := jm_bind h
    refine jt_iald C dX9_classes_24 (jm_f8_7 hr0) ex3 ?_
    refine jt_iconst (v := (1 : Int32)) C dX9_classes_25 (by decide) ?_
    refine jt_iload_n C dX9_classes_26 rfl 2 rfl ?_
    refine jt_ishl C dX9_classes_27 ?_
    refine jt_iconst (v := (1 : Int32)) C dX9_classes_28 (by decide) ?_
    refine jt_isub C dX9_classes_29 ?_
    refine jt_iand C dX9_classes_30 ?_
    refine jt_if_ne (tgt := 38) C dX9_classes_31 (by decide) (fun c31 => ?_) (fun c31 => ?_)
    · replace h := jm_iff c31 h
      refine jt_iconst (v := (0 : Int32)) C dX9_classes_38 (by decide) ?_
      refine jt_iadd C dX9_classes_39 ?_
      refine jt_istore_n (lv' := [(1, _), (0, _), (2, _)]) C dX9_classes_40 rfl (by decide) rfl ?_
      refine jt_iinc (v := (1 : Int32)) (lv' := [(2, _), (1, _), (0, _)]) C dX9_classes_41 2 rfl (by decide) (by decide) rfl ?_
      refine jt_goto (tgt := 8) C dX9_classes_44 (by decide) ?_
      cases h
      exact jt_sub [2, 1, 0] rfl (h1 _ rfl _ _ rfl)
    · replace h := jm_ift c31 h
      refine jt_iconst (v := (1 : Int32)) C dX9_classes_34 (by decide) ?_
      refine jt_goto (tgt := 39) C dX9_classes_35 (by decide) ?_
      refine jt_iadd C dX9_classes_39 ?_
      refine jt_istore_n (lv' := [(1, _), (0, _), (2, _)]) C dX9_classes_40 rfl (by decide) rfl ?_
      refine jt_iinc (v := (1 : Int32)) (lv' := [(2, _), (1, _), (0, _)]) C dX9_classes_41 2 rfl (by decide) (by decide) rfl ?_
      refine jt_goto (tgt := 8) C dX9_classes_44 (by decide) ?_
      cases h
      exact jt_sub [2, 1, 0] rfl (h1 _ rfl _ _ rfl)
set_option maxHeartbeats 4000000 in
set_option maxRecDepth 100000 in
theorem c_X9_classes (l : Launch) (k : jm_C) (n : Nat) (r0 : Nat) (M : jm_M) (hr0 : jm_is r0 (3, 8)) (q1 : Int32) (q2 : jm_M) (h : X9_classes n r0 M = some (q1, q2)) : jm_Ci l k yX9_classes w_X9_classes { frames := 6, cells := 0, slots := 0, locals := 240 } [.ref (jm_ad k r0)] M q1 q2 := by
  refine jm_entry_i (cc := cX9_classes) (nL := 3) (ret := (some .int)) (by decide) rfl (Nat.le_of_ble_eq_true rfl) ?_
  intro X hX C hQ hr
  subst hX
  unfold X9_classes at h
  refine jt_aload_n C dX9_classes_0 rfl 0 rfl ?_
  obtain ⟨M1, eM1, h⟩ := jm_bind h
  refine jt_callVv (As := []) (rest := []) C hr0 rfl dX9_classes_1 (c_X9_layOrbits (jx_l X) k n _ _ hr0 _ eM1) (k_goodIn (g_RX9_106)) rfl h_X9_layOrbits ⟨rfl, rfl, Nat.le_of_ble_eq_true rfl, Nat.le_of_ble_eq_true rfl⟩ rfl rfl (Nat.le_of_ble_eq_true rfl) ?_
  refine jt_iconst (v := (0 : Int32)) C dX9_classes_4 (by decide) ?_
  refine jt_istore_n (lv' := [(1, _), (0, _)]) C dX9_classes_5 rfl (by decide) rfl ?_
  refine jt_iconst (v := (0 : Int32)) C dX9_classes_6 (by decide) ?_
  refine jt_istore_n (lv' := [(2, _), (1, _), (0, _)]) C dX9_classes_7 rfl (by decide) rfl ?_
  obtain ⟨q4, eq4, h⟩ := jm_bind h
  refine jt_sub [2, 1, 0] rfl ?_
  refine t_X9_classes_L8 C _ _ hr0 n _ _ eq4 ?_ _ _ rfl
  refine jt_iload_n C dX9_classes_47 rfl 0 rfl ?_
  cases h
  exact jt_iret C dX9_classes_48 hQ hr
theorem h_X9_differentCards : yX9_differentCards.cls = RX9 ∧ yX9_differentCards.cls ≠ "java/lang/invoke/MethodHandle" ∧ yX9_differentCards.cls ≠ "java/lang/invoke/VarHandle" ∧ (parseMethodDescriptor yX9_differentCards.desc).map (fun d => d.parameters.length) = some 0 := by decide +kernel
set_option maxHeartbeats 4000000 in
set_option maxRecDepth 100000 in
theorem t_X9_differentCards_L35 {X : jm_X} {k : jm_C} (C : jm_Cx X k cX9_differentCards 5 RX9 w_X9_differentCards) (r0 : Nat) (v1 : Int32) (v2 : Int32) (M : jm_M) (hr0 : jm_is r0 (3, 8)) : ∀ (m : Nat) (s : Int32 × Int32) (r : Int32), jm_loop (X9_differentCards_B35 r0 v1 v2 M) m s = some r → jm_T X { frames := 7, cells := 0, slots := 0, locals := 280 } k 5 M 71 [(0, .ref (jm_ad k r0)), (1, .int v1), (2, .int v2), (3, .int r)] [] → (∀ (b0 : Int32) (b1 : Int32), s = (b0, b1) → jm_T X { frames := 7, cells := 0, slots := 0, locals := 280 } k 5 M 35 [(0, .ref (jm_ad k r0)), (1, .int v1), (2, .int v2), (3, .int b0), (4, .int b1)] []) := by
  refine jm_loop_ind (P := fun (s : Int32 × Int32) => (∀ (b0 : Int32) (b1 : Int32), s = (b0, b1) → jm_T X { frames := 7, cells := 0, slots := 0, locals := 280 } k 5 M 35 [(0, .ref (jm_ad k r0)), (1, .int v1), (2, .int v2), (3, .int b0), (4, .int b1)] [])) (K := fun (r : Int32) => jm_T X { frames := 7, cells := 0, slots := 0, locals := 280 } k 5 M 71 [(0, .ref (jm_ad k r0)), (1, .int v1), (2, .int v2), (3, .int r)] []) ?_
  intro s q h h1 h2
  intro b0 b1 hs
  subst hs
  unfold X9_differentCards_B35 at h
  try dsimp only at h
  refine jt_iload C dX9_differentCards_35 4 rfl ?_
  refine jt_iload_n C dX9_differentCards_37 rfl 2 rfl ?_
  refine jt_icmp_ge (tgt := 71) C dX9_differentCards_38 (by decide) (fun c38 => ?_) (fun c38 => ?_)
  · replace h := jm_ift c38 h
    cases h
    exact jt_sub [0, 1, 2, 3] rfl (h2 _ rfl)
  · replace h := jm_iff c38 h
    refine jt_iload_n C dX9_differentCards_41 rfl 3 rfl ?_
    refine jt_aload_n C dX9_differentCards_42 rfl 0 rfl ?_
    refine jt_getR (Tf := TX9) (N := 17) C dX9_differentCards_43 hr0 rfl i_9 9 (by decide) rfl m_RX9_31 rfl ?_
    refine jt_iload C dX9_differentCards_46 4 rfl ?_
    obtain ⟨x4, ex4, h⟩ := jm_bind h
    refine jt_iald C dX9_differentCards_48 (jm_f8_9 hr0) ex4 ?_
    refine jt_aload_n C dX9_differentCards_49 rfl 0 rfl ?_
    refine jt_getR (Tf := TX9) (N := 17) C dX9_differentCards_50 hr0 rfl i_9 9 (by decide) rfl m_RX9_31 rfl ?_
    refine jt_iload_n C dX9_differentCards_53 rfl 2 rfl ?_
    obtain ⟨x5, ex5, h⟩ := jm_bind h
    refine jt_iald C dX9_differentCards_54 (jm_f8_9 hr0) ex5 ?_
    refine jt_icmp_eq (tgt := 62) C dX9_differentCards_55 (by decide) (fun c55 => ?_) (fun c55 => ?_)
    · replace h := jm_ift c55 h
      refine jt_iconst (v := (0 : Int32)) C dX9_differentCards_62 (by decide) ?_
      refine jt_iand C dX9_differentCards_63 ?_
      refine jt_istore_n (lv' := [(3, _), (0, _), (1, _), (2, _), (4, _)]) C dX9_differentCards_64 rfl (by decide) rfl ?_
      refine jt_iinc (v := (1 : Int32)) (lv' := [(4, _), (3, _), (0, _), (1, _), (2, _)]) C dX9_differentCards_65 4 rfl (by decide) (by decide) rfl ?_
      refine jt_goto (tgt := 35) C dX9_differentCards_68 (by decide) ?_
      cases h
      exact jt_sub [2, 3, 4, 1, 0] rfl (h1 _ rfl _ _ rfl)
    · replace h := jm_iff c55 h
      refine jt_iconst (v := (1 : Int32)) C dX9_differentCards_58 (by decide) ?_
      refine jt_goto (tgt := 63) C dX9_differentCards_59 (by decide) ?_
      refine jt_iand C dX9_differentCards_63 ?_
      refine jt_istore_n (lv' := [(3, _), (0, _), (1, _), (2, _), (4, _)]) C dX9_differentCards_64 rfl (by decide) rfl ?_
      refine jt_iinc (v := (1 : Int32)) (lv' := [(4, _), (3, _), (0, _), (1, _), (2, _)]) C dX9_differentCards_65 4 rfl (by decide) (by decide) rfl ?_
      refine jt_goto (tgt := 35) C dX9_differentCards_68 (by decide) ?_
      cases h
      exact jt_sub [2, 3, 4, 1, 0] rfl (h1 _ rfl _ _ rfl)
set_option maxHeartbeats 4000000 in
set_option maxRecDepth 100000 in
theorem t_X9_differentCards_L20 {X : jm_X} {k : jm_C} (C : jm_Cx X k cX9_differentCards 5 RX9 w_X9_differentCards) (n : Nat) (r0 : Nat) (M : jm_M) (hr0 : jm_is r0 (3, 8)) : ∀ (m : Nat) (s : Int32 × Int32) (r : Int32), jm_loop (X9_differentCards_B20 n r0 M) m s = some r → jm_T X { frames := 7, cells := 0, slots := 0, locals := 280 } k 5 M 89 [(1, .int r)] [] → (∀ (b0 : Int32) (b1 : Int32), s = (b0, b1) → jm_T X { frames := 7, cells := 0, slots := 0, locals := 280 } k 5 M 20 [(0, .ref (jm_ad k r0)), (1, .int b0), (2, .int b1)] []) := by
  refine jm_loop_ind (P := fun (s : Int32 × Int32) => (∀ (b0 : Int32) (b1 : Int32), s = (b0, b1) → jm_T X { frames := 7, cells := 0, slots := 0, locals := 280 } k 5 M 20 [(0, .ref (jm_ad k r0)), (1, .int b0), (2, .int b1)] [])) (K := fun (r : Int32) => jm_T X { frames := 7, cells := 0, slots := 0, locals := 280 } k 5 M 89 [(1, .int r)] []) ?_
  intro s q h h1 h2
  intro b0 b1 hs
  subst hs
  unfold X9_differentCards_B20 at h
  try dsimp only at h
  refine jt_iload_n C dX9_differentCards_20 rfl 2 rfl ?_
  refine jt_aload_n C dX9_differentCards_21 rfl 0 rfl ?_
  refine jt_getR (Tf := TX9) (N := 17) C dX9_differentCards_22 hr0 rfl i_9 0 (by decide) rfl m_RX9_7 rfl ?_
  refine jt_iconst (v := (0 : Int32)) C dX9_differentCards_25 (by decide) ?_
  obtain ⟨x3, ex3, h⟩ := jm_bind h
  refine jt_iald C dX9_differentCards_26 (jm_f8_0 hr0) ex3 ?_
  refine jt_icmp_ge (tgt := 89) C dX9_differentCards_27 (by decide) (fun c27 => ?_) (fun c27 => ?_)
  · replace h := jm_ift c27 h
    cases h
    exact jt_sub [1] rfl (h2 _ rfl)
  · replace h := jm_iff c27 h
    refine jt_iconst (v := (1 : Int32)) C dX9_differentCards_30 (by decide) ?_
    refine jt_istore_n (lv' := [(3, _), (0, _), (1, _), (2, _)]) C dX9_differentCards_31 rfl (by decide) rfl ?_
    refine jt_iconst (v := (0 : Int32)) C dX9_differentCards_32 (by decide) ?_
    refine jt_istore (lv' := [(4, _), (3, _), (0, _), (1, _), (2, _)]) C dX9_differentCards_33 (by decide) rfl ?_
    obtain ⟨q6, eq6, h⟩ := jm_bind h
    refine jt_sub [2, 3, 4, 1, 0] rfl ?_
    refine t_X9_differentCards_L35 C _ _ _ _ hr0 n _ _ eq6 ?_ _ _ rfl
    refine jt_iload_n C dX9_differentCards_71 rfl 1 rfl ?_
    refine jt_iload_n C dX9_differentCards_72 rfl 3 rfl ?_
    refine jt_if_eq (tgt := 80) C dX9_differentCards_73 (by decide) (fun c73 => ?_) (fun c73 => ?_)
    · replace h := jm_ift c73 h
      refine jt_iconst (v := (0 : Int32)) C dX9_differentCards_80 (by decide) ?_
      refine jt_iadd C dX9_differentCards_81 ?_
      refine jt_istore_n (lv' := [(1, _), (0, _), (2, _), (3, _)]) C dX9_differentCards_82 rfl (by decide) rfl ?_
      refine jt_iinc (v := (1 : Int32)) (lv' := [(2, _), (1, _), (0, _), (3, _)]) C dX9_differentCards_83 2 rfl (by decide) (by decide) rfl ?_
      refine jt_goto (tgt := 20) C dX9_differentCards_86 (by decide) ?_
      cases h
      exact jt_sub [2, 1, 0] rfl (h1 _ rfl _ _ rfl)
    · replace h := jm_iff c73 h
      refine jt_iconst (v := (1 : Int32)) C dX9_differentCards_76 (by decide) ?_
      refine jt_goto (tgt := 81) C dX9_differentCards_77 (by decide) ?_
      refine jt_iadd C dX9_differentCards_81 ?_
      refine jt_istore_n (lv' := [(1, _), (0, _), (2, _), (3, _)]) C dX9_differentCards_82 rfl (by decide) rfl ?_
      refine jt_iinc (v := (1 : Int32)) (lv' := [(2, _), (1, _), (0, _), (3, _)]) C dX9_differentCards_83 2 rfl (by decide) (by decide) rfl ?_
      refine jt_goto (tgt := 20) C dX9_differentCards_86 (by decide) ?_
      cases h
      exact jt_sub [2, 1, 0] rfl (h1 _ rfl _ _ rfl)
set_option maxHeartbeats 4000000 in
set_option maxRecDepth 100000 in
theorem c_X9_differentCards (l : Launch) (k : jm_C) (n : Nat) (r0 : Nat) (M : jm_M) (hr0 : jm_is r0 (3, 8)) (q1 : Int32) (q2 : jm_M) (h : X9_differentCards n r0 M = some (q1, q2)) : jm_Ci l k yX9_differentCards w_X9_differentCards { frames := 7, cells := 0, slots := 0, locals := 280 } [.ref (jm_ad k r0)] M q1 q2 := by
  refine jm_entry_i (cc := cX9_differentCards) (nL := 5) (ret := (some .int)) (by decide) rfl (Nat.le_of_ble_eq_true rfl) ?_
  intro X hX C hQ hr
  subst hX
  unfold X9_differentCards at h
  refine jt_aload_n C dX9_differentCards_0 rfl 0 rfl ?_
  refine jt_getR (Tf := TX9) (N := 17) C dX9_differentCards_1 hr0 rfl i_9 0 (by decide) rfl m_RX9_7 rfl ?_
  refine jt_iconst (v := (0 : Int32)) C dX9_differentCards_4 (by decide) ?_
  obtain ⟨x1, ex1, h⟩ := jm_bind h
  refine jt_iald C dX9_differentCards_5 (jm_f8_0 hr0) ex1 ?_
  refine jt_iconst (v := (1 : Int32)) C dX9_differentCards_6 (by decide) ?_
  refine jt_icmp_ne (tgt := 12) C dX9_differentCards_7 (by decide) (fun c7 => ?_) (fun c7 => ?_)
  · replace h := jm_iff c7 h
    refine jt_aload_n C dX9_differentCards_12 rfl 0 rfl ?_
    obtain ⟨M2, eM2, h⟩ := jm_bind h
    refine jt_callVv (As := []) (rest := []) C hr0 rfl dX9_differentCards_13 (c_X9_layCards (jx_l X) k n _ _ hr0 _ eM2) (k_goodIn (g_RX9_109)) rfl h_X9_layCards ⟨rfl, rfl, Nat.le_of_ble_eq_true rfl, Nat.le_of_ble_eq_true rfl⟩ rfl rfl (Nat.le_of_ble_eq_true rfl) ?_
    refine jt_iconst (v := (0 : Int32)) C dX9_differentCards_16 (by decide) ?_
    refine jt_istore_n (lv' := [(1, _), (0, _)]) C dX9_differentCards_17 rfl (by decide) rfl ?_
    refine jt_iconst (v := (0 : Int32)) C dX9_differentCards_18 (by decide) ?_
    refine jt_istore_n (lv' := [(2, _), (1, _), (0, _)]) C dX9_differentCards_19 rfl (by decide) rfl ?_
    obtain ⟨q7, eq7, h⟩ := jm_bind h
    refine jt_sub [2, 1, 0] rfl ?_
    refine t_X9_differentCards_L20 C n _ _ hr0 n _ _ eq7 ?_ _ _ rfl
    refine jt_iload_n C dX9_differentCards_89 rfl 0 rfl ?_
    cases h
    exact jt_iret C dX9_differentCards_90 hQ hr
  · replace h := jm_ift c7 h
    refine jt_iconst (v := (0 : Int32)) C dX9_differentCards_10 (by decide) ?_
    cases h
    exact jt_iret C dX9_differentCards_11 hQ hr
theorem h_X9_reached : yX9_reached.cls = RX9 ∧ yX9_reached.cls ≠ "java/lang/invoke/MethodHandle" ∧ yX9_reached.cls ≠ "java/lang/invoke/VarHandle" ∧ (parseMethodDescriptor yX9_reached.desc).map (fun d => d.parameters.length) = some 1 := by decide +kernel
set_option maxHeartbeats 4000000 in
set_option maxRecDepth 100000 in
theorem t_X9_reached_L15 {X : jm_X} {k : jm_C} (C : jm_Cx X k cX9_reached 5 RX9 w_X9_reached) (n : Nat) (r0 : Nat) (v3 : Int32) (M : jm_M) (hr0 : jm_is r0 (3, 8)) : ∀ (m : Nat) (s : Int32 × Int32) (r : Int32), jm_loop (X9_reached_B15 n r0 v3 M) m s = some r → jm_T X { frames := 4, cells := 0, slots := 0, locals := 160 } k 5 M 66 [(0, .ref (jm_ad k r0)), (2, .int r), (3, .int v3)] [] → (∀ (b0 : Int32) (b1 : Int32), s = (b0, b1) → jm_T X { frames := 4, cells := 0, slots := 0, locals := 160 } k 5 M 15 [(0, .ref (jm_ad k r0)), (2, .int b0), (3, .int v3), (4, .int b1)] []) := by
  refine jm_loop_ind (P := fun (s : Int32 × Int32) => (∀ (b0 : Int32) (b1 : Int32), s = (b0, b1) → jm_T X { frames := 4, cells := 0, slots := 0, locals := 160 } k 5 M 15 [(0, .ref (jm_ad k r0)), (2, .int b0), (3, .int v3), (4, .int b1)] [])) (K := fun (r : Int32) => jm_T X { frames := 4, cells := 0, slots := 0, locals := 160 } k 5 M 66 [(0, .ref (jm_ad k r0)), (2, .int r), (3, .int v3)] []) ?_
  intro s q h h1 h2
  intro b0 b1 hs
  subst hs
  unfold X9_reached_B15 at h
  try dsimp only at h
  refine jt_iload C dX9_reached_15 3 rfl ?_
  refine jt_aload_n C dX9_reached_17 rfl 0 rfl ?_
  refine jt_getR (Tf := TX9) (N := 17) C dX9_reached_18 hr0 rfl i_9 0 (by decide) rfl m_RX9_7 rfl ?_
  refine jt_iconst (v := (0 : Int32)) C dX9_reached_21 (by decide) ?_
  obtain ⟨x1, ex1, h⟩ := jm_bind h
  refine jt_iald C dX9_reached_22 (jm_f8_0 hr0) ex1 ?_
  refine jt_icmp_ge (tgt := 66) C dX9_reached_23 (by decide) (fun c23 => ?_) (fun c23 => ?_)
  · replace h := jm_ift c23 h
    cases h
    exact jt_sub [0, 1, 2] rfl (h2 _ rfl)
  · replace h := jm_iff c23 h
    refine jt_iload_n C dX9_reached_26 rfl 1 rfl ?_
    refine jt_iload_n C dX9_reached_27 rfl 1 rfl ?_
    refine jt_iload C dX9_reached_28 3 rfl ?_
    refine jt_ishr C dX9_reached_30 ?_
    refine jt_iconst (v := (1 : Int32)) C dX9_reached_31 (by decide) ?_
    refine jt_iand C dX9_reached_32 ?_
    refine jt_iconst (v := (1 : Int32)) C dX9_reached_33 (by decide) ?_
    refine jt_icmp_ne (tgt := 57) C dX9_reached_34 (by decide) (fun c34 => ?_) (fun c34 => ?_)
    · replace h := jm_iff c34 h
      refine jt_iconst (v := (0 : Int32)) C dX9_reached_57 (by decide) ?_
      refine jt_ior C dX9_reached_58 ?_
      refine jt_istore_n (lv' := [(2, _), (0, _), (3, _), (4, _)]) C dX9_reached_59 rfl (by decide) rfl ?_
      refine jt_iinc (v := (1 : Int32)) (lv' := [(4, _), (2, _), (0, _), (3, _)]) C dX9_reached_60 3 rfl (by decide) (by decide) rfl ?_
      refine jt_goto (tgt := 15) C dX9_reached_63 (by decide) ?_
      cases h
      exact jt_sub [2, 1, 3, 0] rfl (h1 _ rfl _ _ rfl)
    · replace h := jm_ift c34 h
      refine jt_aload_n C dX9_reached_37 rfl 0 rfl ?_
      refine jt_getR (Tf := TX9) (N := 17) C dX9_reached_38 hr0 rfl i_9 0 (by decide) rfl m_RX9_7 rfl ?_
      refine jt_iconst (v := (0 : Int32)) C dX9_reached_41 (by decide) ?_
      obtain ⟨x2, ex2, h⟩ := jm_bind h
      refine jt_iald C dX9_reached_42 (jm_f8_0 hr0) ex2 ?_
      refine jt_aload_n C dX9_reached_43 rfl 0 rfl ?_
      refine jt_getR (Tf := TX9) (N := 17) C dX9_reached_44 hr0 rfl i_9 0 (by decide) rfl m_RX9_7 rfl ?_
      refine jt_iconst (v := (1 : Int32)) C dX9_reached_47 (by decide) ?_
      obtain ⟨x3, ex3, h⟩ := jm_bind h
      refine jt_iald C dX9_reached_48 (jm_f8_0 hr0) ex3 ?_
      refine jt_iload C dX9_reached_49 3 rfl ?_
      obtain ⟨x4, ex4, h⟩ := jm_bind h
      refine jt_callSi (As := [_, _, _]) (rest := [_]) C dX9_reached_51 (c_X9_neighbours (jx_l X) k n _ _ _ _ _ ex4) (k_goodIn (g_RX9_77)) rfl h_X9_neighbours ⟨rfl, rfl, Nat.le_of_ble_eq_true rfl, Nat.le_of_ble_eq_true rfl⟩ rfl rfl (Nat.le_of_ble_eq_true rfl) ?_
      refine jt_goto (tgt := 58) C dX9_reached_54 (by decide) ?_
      refine jt_ior C dX9_reached_58 ?_
      refine jt_istore_n (lv' := [(2, _), (0, _), (3, _), (4, _)]) C dX9_reached_59 rfl (by decide) rfl ?_
      refine jt_iinc (v := (1 : Int32)) (lv' := [(4, _), (2, _), (0, _), (3, _)]) C dX9_reached_60 3 rfl (by decide) (by decide) rfl ?_
      refine jt_goto (tgt := 15) C dX9_reached_63 (by decide) ?_
      cases h
      exact jt_sub [2, 1, 3, 0] rfl (h1 _ rfl _ _ rfl)
set_option maxHeartbeats 4000000 in
set_option maxRecDepth 100000 in
theorem t_X9_reached_L6 {X : jm_X} {k : jm_C} (C : jm_Cx X k cX9_reached 5 RX9 w_X9_reached) (n : Nat) (r0 : Nat) (M : jm_M) (hr0 : jm_is r0 (3, 8)) : ∀ (m : Nat) (s : Int32 × Int32) (r : Int32), jm_loop (X9_reached_B6 n r0 M) m s = some r → jm_T X { frames := 4, cells := 0, slots := 0, locals := 160 } k 5 M 72 [(2, .int r)] [] → (∀ (b0 : Int32) (b1 : Int32), s = (b0, b1) → jm_T X { frames := 4, cells := 0, slots := 0, locals := 160 } k 5 M 6 [(0, .ref (jm_ad k r0)), (2, .int b0), (3, .int b1)] []) := by
  refine jm_loop_ind (P := fun (s : Int32 × Int32) => (∀ (b0 : Int32) (b1 : Int32), s = (b0, b1) → jm_T X { frames := 4, cells := 0, slots := 0, locals := 160 } k 5 M 6 [(0, .ref (jm_ad k r0)), (2, .int b0), (3, .int b1)] [])) (K := fun (r : Int32) => jm_T X { frames := 4, cells := 0, slots := 0, locals := 160 } k 5 M 72 [(2, .int r)] []) ?_
  intro s q h h1 h2
  intro b0 b1 hs
  subst hs
  unfold X9_reached_B6 at h
  try dsimp only at h
  refine jt_iload_n C dX9_reached_6 rfl 2 rfl ?_
  refine jt_bipush (v := (8 : Int32)) C dX9_reached_7 (by decide) ?_
  refine jt_icmp_ge (tgt := 72) C dX9_reached_9 (by decide) (fun c9 => ?_) (fun c9 => ?_)
  · replace h := jm_ift c9 h
    cases h
    exact jt_sub [1] rfl (h2 _ rfl)
  · replace h := jm_iff c9 h
    refine jt_iconst (v := (0 : Int32)) C dX9_reached_12 (by decide) ?_
    refine jt_istore (lv' := [(4, _), (0, _), (2, _), (3, _)]) C dX9_reached_13 (by decide) rfl ?_
    obtain ⟨q5, eq5, h⟩ := jm_bind h
    refine jt_sub [1, 2, 3, 0] rfl ?_
    refine t_X9_reached_L15 C n _ _ _ hr0 n _ _ eq5 ?_ _ _ rfl
    refine jt_iinc (v := (1 : Int32)) (lv' := [(3, _), (0, _), (2, _)]) C dX9_reached_66 2 rfl (by decide) (by decide) rfl ?_
    refine jt_goto (tgt := 6) C dX9_reached_69 (by decide) ?_
    cases h
    exact jt_sub [1, 2, 0] rfl (h1 _ rfl _ _ rfl)
set_option maxHeartbeats 4000000 in
set_option maxRecDepth 100000 in
theorem c_X9_reached (l : Launch) (k : jm_C) (n : Nat) (r0 : Nat) (v1 : Int32) (M : jm_M) (hr0 : jm_is r0 (3, 8)) (q : Int32) (h : X9_reached n r0 v1 M = some q) : jm_Ci l k yX9_reached w_X9_reached { frames := 4, cells := 0, slots := 0, locals := 160 } [.ref (jm_ad k r0), .int v1] M q M := by
  refine jm_entry_i (cc := cX9_reached) (nL := 5) (ret := (some .int)) (by decide) rfl (Nat.le_of_ble_eq_true rfl) ?_
  intro X hX C hQ hr
  subst hX
  unfold X9_reached at h
  refine jt_iconst (v := (1 : Int32)) C dX9_reached_0 (by decide) ?_
  refine jt_iload_n C dX9_reached_1 rfl 1 rfl ?_
  refine jt_ishl C dX9_reached_2 ?_
  refine jt_istore_n (lv' := [(2, _), (0, _), (1, _)]) C dX9_reached_3 rfl (by decide) rfl ?_
  refine jt_iconst (v := (0 : Int32)) C dX9_reached_4 (by decide) ?_
  refine jt_istore_n (lv' := [(3, _), (2, _), (0, _), (1, _)]) C dX9_reached_5 rfl (by decide) rfl ?_
  obtain ⟨q6, eq6, h⟩ := jm_bind h
  refine jt_sub [2, 1, 0] rfl ?_
  refine t_X9_reached_L6 C n _ _ hr0 n _ _ eq6 ?_ _ _ rfl
  refine jt_iload_n C dX9_reached_72 rfl 0 rfl ?_
  cases h
  exact jt_iret C dX9_reached_73 hQ hr
theorem h_X9_components : yX9_components.cls = RX9 ∧ yX9_components.cls ≠ "java/lang/invoke/MethodHandle" ∧ yX9_components.cls ≠ "java/lang/invoke/VarHandle" ∧ (parseMethodDescriptor yX9_components.desc).map (fun d => d.parameters.length) = some 0 := by decide +kernel
set_option maxHeartbeats 4000000 in
set_option maxRecDepth 100000 in
theorem t_X9_components_L6 {X : jm_X} {k : jm_C} (C : jm_Cx X k cX9_components 4 RX9 w_X9_components) (n : Nat) (r0 : Nat) (M : jm_M) (hr0 : jm_is r0 (3, 8)) : ∀ (m : Nat) (s : Int32 × Int32 × Int32) (r : Int32), jm_loop (X9_components_B6 n r0 M) m s = some r → jm_T X { frames := 5, cells := 0, slots := 0, locals := 200 } k 4 M 41 [(1, .int r)] [] → (∀ (b0 : Int32) (b1 : Int32) (b2 : Int32), s = (b0, b1, b2) → jm_T X { frames := 5, cells := 0, slots := 0, locals := 200 } k 4 M 6 [(0, .ref (jm_ad k r0)), (1, .int b0), (2, .int b1), (3, .int b2)] []) := by
  refine jm_loop_ind (P := fun (s : Int32 × Int32 × Int32) => (∀ (b0 : Int32) (b1 : Int32) (b2 : Int32), s = (b0, b1, b2) → jm_T X { frames := 5, cells := 0, slots := 0, locals := 200 } k 4 M 6 [(0, .ref (jm_ad k r0)), (1, .int b0), (2, .int b1), (3, .int b2)] [])) (K := fun (r : Int32) => jm_T X { frames := 5, cells := 0, slots := 0, locals := 200 } k 4 M 41 [(1, .int r)] []) ?_
  intro s q h h1 h2
  intro b0 b1 b2 hs
  subst hs
  unfold X9_components_B6 at h
  try dsimp only at h
  refine jt_iload_n C dX9_components_6 rfl 3 rfl ?_
  refine jt_aload_n C dX9_components_7 rfl 0 rfl ?_
  refine jt_getR (Tf := TX9) (N := 17) C dX9_components_8 hr0 rfl i_9 0 (by decide) rfl m_RX9_7 rfl ?_
  refine jt_iconst (v := (0 : Int32)) C dX9_components_11 (by decide) ?_
  obtain ⟨x1, ex1, h⟩ := jm_bind h
  refine jt_iald C dX9_components_12 (jm_f8_0 hr0) ex1 ?_
  refine jt_icmp_ge (tgt := 41) C dX9_components_13 (by decide) (fun c13 => ?_) (fun c13 => ?_)
  · replace h := jm_ift c13 h
    cases h
    exact jt_sub [1] rfl (h2 _ rfl)
  · replace h := jm_iff c13 h
    refine jt_iload_n C dX9_components_16 rfl 2 rfl ?_
    refine jt_iload_n C dX9_components_17 rfl 3 rfl ?_
    refine jt_ishr C dX9_components_18 ?_
    refine jt_iconst (v := (1 : Int32)) C dX9_components_19 (by decide) ?_
    refine jt_iand C dX9_components_20 ?_
    refine jt_if_ne (tgt := 35) C dX9_components_21 (by decide) (fun c21 => ?_) (fun c21 => ?_)
    · replace h := jm_iff c21 h
      refine jt_iinc (v := (1 : Int32)) (lv' := [(3, _), (0, _), (1, _), (2, _)]) C dX9_components_35 3 rfl (by decide) (by decide) rfl ?_
      refine jt_goto (tgt := 6) C dX9_components_38 (by decide) ?_
      cases h
      exact jt_sub [1, 2, 3, 0] rfl (h1 _ rfl _ _ _ rfl)
    · replace h := jm_ift c21 h
      refine jt_iinc (v := (1 : Int32)) (lv' := [(1, _), (0, _), (2, _), (3, _)]) C dX9_components_24 1 rfl (by decide) (by decide) rfl ?_
      refine jt_iload_n C dX9_components_27 rfl 2 rfl ?_
      refine jt_aload_n C dX9_components_28 rfl 1 rfl ?_
      refine jt_iload_n C dX9_components_29 rfl 3 rfl ?_
      obtain ⟨x2, ex2, h⟩ := jm_bind h
      refine jt_callVi (As := [_]) (rest := [_]) C hr0 rfl dX9_components_30 (c_X9_reached (jx_l X) k n _ _ _ hr0 _ ex2) (k_goodIn (g_RX9_112)) rfl h_X9_reached ⟨rfl, rfl, Nat.le_of_ble_eq_true rfl, Nat.le_of_ble_eq_true rfl⟩ rfl rfl (Nat.le_of_ble_eq_true rfl) ?_
      refine jt_ior C dX9_components_33 ?_
      refine jt_istore_n (lv' := [(2, _), (1, _), (0, _), (3, _)]) C dX9_components_34 rfl (by decide) rfl ?_
      refine jt_iinc (v := (1 : Int32)) (lv' := [(3, _), (2, _), (1, _), (0, _)]) C dX9_components_35 3 rfl (by decide) (by decide) rfl ?_
      refine jt_goto (tgt := 6) C dX9_components_38 (by decide) ?_
      cases h
      exact jt_sub [3, 2, 1, 0] rfl (h1 _ rfl _ _ _ rfl)
set_option maxHeartbeats 4000000 in
set_option maxRecDepth 100000 in
theorem c_X9_components (l : Launch) (k : jm_C) (n : Nat) (r0 : Nat) (M : jm_M) (hr0 : jm_is r0 (3, 8)) (q : Int32) (h : X9_components n r0 M = some q) : jm_Ci l k yX9_components w_X9_components { frames := 5, cells := 0, slots := 0, locals := 200 } [.ref (jm_ad k r0)] M q M := by
  refine jm_entry_i (cc := cX9_components) (nL := 4) (ret := (some .int)) (by decide) rfl (Nat.le_of_ble_eq_true rfl) ?_
  intro X hX C hQ hr
  subst hX
  unfold X9_components at h
  refine jt_iconst (v := (0 : Int32)) C dX9_components_0 (by decide) ?_
  refine jt_istore_n (lv' := [(1, _), (0, _)]) C dX9_components_1 rfl (by decide) rfl ?_
  refine jt_iconst (v := (0 : Int32)) C dX9_components_2 (by decide) ?_
  refine jt_istore_n (lv' := [(2, _), (1, _), (0, _)]) C dX9_components_3 rfl (by decide) rfl ?_
  refine jt_iconst (v := (0 : Int32)) C dX9_components_4 (by decide) ?_
  refine jt_istore_n (lv' := [(3, _), (2, _), (1, _), (0, _)]) C dX9_components_5 rfl (by decide) rfl ?_
  obtain ⟨q3, eq3, h⟩ := jm_bind h
  refine jt_sub [3, 2, 1, 0] rfl ?_
  refine t_X9_components_L6 C n _ _ hr0 n _ _ eq3 ?_ _ _ _ rfl
  refine jt_iload_n C dX9_components_41 rfl 0 rfl ?_
  cases h
  exact jt_iret C dX9_components_42 hQ hr
