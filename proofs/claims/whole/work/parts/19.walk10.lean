theorem h_X9_pseudoPairs : yX9_pseudoPairs.cls = RX9 ∧ yX9_pseudoPairs.cls ≠ "java/lang/invoke/MethodHandle" ∧ yX9_pseudoPairs.cls ≠ "java/lang/invoke/VarHandle" ∧ (parseMethodDescriptor yX9_pseudoPairs.desc).map (fun d => d.parameters.length) = some 0 := by decide +kernel
set_option maxHeartbeats 4000000 in
set_option maxRecDepth 100000 in
theorem t_X9_pseudoPairs_L24 {X : jm_X} {k : jm_C} (C : jm_Cx X k cX9_pseudoPairs 3 RX9 w_X9_pseudoPairs) (n : Nat) (r0 : Nat) (M : jm_M) (hr0 : jm_is r0 (3, 8)) : ∀ (m : Nat) (s : Int32 × Int32) (r : Int32), jm_loop (X9_pseudoPairs_B24 n r0 M) m s = some r → jm_T X { frames := 7, cells := 0, slots := 0, locals := 280 } k 3 M 51 [(1, .int r)] [] → (∀ (b0 : Int32) (b1 : Int32), s = (b0, b1) → jm_T X { frames := 7, cells := 0, slots := 0, locals := 280 } k 3 M 24 [(0, .ref (jm_ad k r0)), (1, .int b0), (2, .int b1)] []) := by
  refine jm_loop_ind (P := fun (s : Int32 × Int32) => (∀ (b0 : Int32) (b1 : Int32), s = (b0, b1) → jm_T X { frames := 7, cells := 0, slots := 0, locals := 280 } k 3 M 24 [(0, .ref (jm_ad k r0)), (1, .int b0), (2, .int b1)] [])) (K := fun (r : Int32) => jm_T X { frames := 7, cells := 0, slots := 0, locals := 280 } k 3 M 51 [(1, .int r)] []) ?_
  intro s q h h1 h2
  intro b0 b1 hs
  subst hs
  unfold X9_pseudoPairs_B24 at h
  try dsimp only at h
  refine jt_iload_n C dX9_pseudoPairs_24 rfl 2 rfl ?_
  refine jt_aload_n C dX9_pseudoPairs_25 rfl 0 rfl ?_
  refine jt_getR (Tf := TX9) (N := 17) C dX9_pseudoPairs_26 hr0 rfl i_9 0 (by decide) rfl m_RX9_7 rfl ?_
  refine jt_iconst (v := (0 : Int32)) C dX9_pseudoPairs_29 (by decide) ?_
  obtain ⟨x4, ex4, h⟩ := jm_bind h
  refine jt_iald C dX9_pseudoPairs_30 (jm_f8_0 hr0) ex4 ?_
  refine jt_icmp_ge (tgt := 51) C dX9_pseudoPairs_31 (by decide) (fun c31 => ?_) (fun c31 => ?_)
  · replace h := jm_ift c31 h
    cases h
    exact jt_sub [1] rfl (h2 _ rfl)
  · replace h := jm_iff c31 h
    refine jt_iload_n C dX9_pseudoPairs_34 rfl 1 rfl ?_
    refine jt_aload_n C dX9_pseudoPairs_35 rfl 0 rfl ?_
    refine jt_iload_n C dX9_pseudoPairs_36 rfl 2 rfl ?_
    obtain ⟨x5, ex5, h⟩ := jm_bind h
    refine jt_callVi (As := [_]) (rest := [_]) C hr0 rfl dX9_pseudoPairs_37 (c_X9_pseudo (jx_l X) k n _ _ _ hr0 _ ex5) (k_goodIn (g_RX9_115)) rfl h_X9_pseudo ⟨rfl, rfl, Nat.le_of_ble_eq_true rfl, Nat.le_of_ble_eq_true rfl⟩ rfl rfl (Nat.le_of_ble_eq_true rfl) ?_
    obtain ⟨x6, ex6, h⟩ := jm_bind h
    refine jt_callSi (As := [_]) (rest := [_]) C dX9_pseudoPairs_40 (c_X9_bits (jx_l X) k n _ _ _ ex6) (k_goodIn (g_RX9_118)) rfl h_X9_bits ⟨rfl, rfl, Nat.le_of_ble_eq_true rfl, Nat.le_of_ble_eq_true rfl⟩ rfl rfl (Nat.le_of_ble_eq_true rfl) ?_
    refine jt_iadd C dX9_pseudoPairs_43 ?_
    refine jt_istore_n (lv' := [(1, _), (0, _), (2, _)]) C dX9_pseudoPairs_44 rfl (by decide) rfl ?_
    refine jt_iinc (v := (1 : Int32)) (lv' := [(2, _), (1, _), (0, _)]) C dX9_pseudoPairs_45 2 rfl (by decide) (by decide) rfl ?_
    refine jt_goto (tgt := 24) C dX9_pseudoPairs_48 (by decide) ?_
    cases h
    exact jt_sub [2, 1, 0] rfl (h1 _ rfl _ _ rfl)
set_option maxHeartbeats 4000000 in
set_option maxRecDepth 100000 in
theorem c_X9_pseudoPairs (l : Launch) (k : jm_C) (n : Nat) (r0 : Nat) (M : jm_M) (hr0 : jm_is r0 (3, 8)) (q1 : Int32) (q2 : jm_M) (h : X9_pseudoPairs n r0 M = some (q1, q2)) : jm_Ci l k yX9_pseudoPairs w_X9_pseudoPairs { frames := 7, cells := 0, slots := 0, locals := 280 } [.ref (jm_ad k r0)] M q1 q2 := by
  refine jm_entry_i (cc := cX9_pseudoPairs) (nL := 3) (ret := (some .int)) (by decide) rfl (Nat.le_of_ble_eq_true rfl) ?_
  intro X hX C hQ hr
  subst hX
  unfold X9_pseudoPairs at h
  refine jt_aload_n C dX9_pseudoPairs_0 rfl 0 rfl ?_
  refine jt_getR (Tf := TX9) (N := 17) C dX9_pseudoPairs_1 hr0 rfl i_9 0 (by decide) rfl m_RX9_7 rfl ?_
  refine jt_iconst (v := (0 : Int32)) C dX9_pseudoPairs_4 (by decide) ?_
  obtain ⟨x1, ex1, h⟩ := jm_bind h
  refine jt_iald C dX9_pseudoPairs_5 (jm_f8_0 hr0) ex1 ?_
  refine jt_iconst (v := (1 : Int32)) C dX9_pseudoPairs_6 (by decide) ?_
  refine jt_icmp_ne (tgt := 12) C dX9_pseudoPairs_7 (by decide) (fun c7 => ?_) (fun c7 => ?_)
  · replace h := jm_iff c7 h
    refine jt_aload_n C dX9_pseudoPairs_12 rfl 0 rfl ?_
    obtain ⟨M2, eM2, h⟩ := jm_bind h
    refine jt_callVv (As := []) (rest := []) C hr0 rfl dX9_pseudoPairs_13 (c_X9_layCards (jx_l X) k n _ _ hr0 _ eM2) (k_goodIn (g_RX9_109)) rfl h_X9_layCards ⟨rfl, rfl, Nat.le_of_ble_eq_true rfl, Nat.le_of_ble_eq_true rfl⟩ rfl rfl (Nat.le_of_ble_eq_true rfl) ?_
    refine jt_aload_n C dX9_pseudoPairs_16 rfl 0 rfl ?_
    obtain ⟨M3, eM3, h⟩ := jm_bind h
    refine jt_callVv (As := []) (rest := []) C hr0 rfl dX9_pseudoPairs_17 (c_X9_layOrbits (jx_l X) k n _ _ hr0 _ eM3) (k_goodIn (g_RX9_106)) rfl h_X9_layOrbits ⟨rfl, rfl, Nat.le_of_ble_eq_true rfl, Nat.le_of_ble_eq_true rfl⟩ rfl rfl (Nat.le_of_ble_eq_true rfl) ?_
    refine jt_iconst (v := (0 : Int32)) C dX9_pseudoPairs_20 (by decide) ?_
    refine jt_istore_n (lv' := [(1, _), (0, _)]) C dX9_pseudoPairs_21 rfl (by decide) rfl ?_
    refine jt_iconst (v := (0 : Int32)) C dX9_pseudoPairs_22 (by decide) ?_
    refine jt_istore_n (lv' := [(2, _), (1, _), (0, _)]) C dX9_pseudoPairs_23 rfl (by decide) rfl ?_
    obtain ⟨q7, eq7, h⟩ := jm_bind h
    refine jt_sub [2, 1, 0] rfl ?_
    refine t_X9_pseudoPairs_L24 C n _ _ hr0 n _ _ eq7 ?_ _ _ rfl
    refine jt_iload_n C dX9_pseudoPairs_51 rfl 0 rfl ?_
    refine jt_iconst (v := (2 : Int32)) C dX9_pseudoPairs_52 (by decide) ?_
    refine jt_idiv C dX9_pseudoPairs_53 (if_neg (by decide)) ?_
    cases h
    exact jt_iret C dX9_pseudoPairs_54 hQ hr
  · replace h := jm_ift c7 h
    refine jt_iconst (v := (0 : Int32)) C dX9_pseudoPairs_10 (by decide) ?_
    cases h
    exact jt_iret C dX9_pseudoPairs_11 hQ hr
theorem h_X9_told : yX9_told.cls = RX9 ∧ yX9_told.cls ≠ "java/lang/invoke/MethodHandle" ∧ yX9_told.cls ≠ "java/lang/invoke/VarHandle" ∧ (parseMethodDescriptor yX9_told.desc).map (fun d => d.parameters.length) = some 1 := by decide +kernel
set_option maxHeartbeats 4000000 in
set_option maxRecDepth 100000 in
theorem c_X9_told (l : Launch) (k : jm_C) (n : Nat) (r0 : Nat) (v1 : Int32) (M : jm_M) (hr0 : jm_is r0 (3, 8)) (q1 : Int32) (q2 : jm_M) (h : X9_told n r0 v1 M = some (q1, q2)) : jm_Ci l k yX9_told w_X9_told { frames := 8, cells := 0, slots := 0, locals := 320 } [.ref (jm_ad k r0), .int v1] M q1 q2 := by
  refine jm_entry_i (cc := cX9_told) (nL := 2) (ret := (some .int)) (by decide) rfl (Nat.le_of_ble_eq_true rfl) ?_
  intro X hX C hQ hr
  subst hX
  unfold X9_told at h
  refine jt_iload_n C dX9_told_0 rfl 1 rfl ?_
  by_cases c1_0 : v1 = (0 : Int32)
  · replace h := jm_ift c1_0 h
    refine jt_tblIn (v := 0) (tgt := 56) C dX9_told_1 c1_0 (by decide) (by decide) rfl (by decide) ?_
    refine jt_aload_n C dX9_told_56 rfl 0 rfl ?_
    refine jt_getR (Tf := TX9) (N := 17) C dX9_told_57 hr0 rfl i_9 0 (by decide) rfl m_RX9_7 rfl ?_
    refine jt_iconst (v := (0 : Int32)) C dX9_told_60 (by decide) ?_
    obtain ⟨x1, ex1, h⟩ := jm_bind h
    refine jt_iald C dX9_told_61 (jm_f8_0 hr0) ex1 ?_
    cases h
    exact jt_iret C dX9_told_62 hQ hr
  replace h := jm_iff c1_0 h
  by_cases c1_1 : v1 = (1 : Int32)
  · replace h := jm_ift c1_1 h
    refine jt_tblIn (v := 1) (tgt := 63) C dX9_told_1 c1_1 (by decide) (by decide) rfl (by decide) ?_
    refine jt_aload_n C dX9_told_63 rfl 0 rfl ?_
    refine jt_getR (Tf := TX9) (N := 17) C dX9_told_64 hr0 rfl i_9 0 (by decide) rfl m_RX9_7 rfl ?_
    refine jt_iconst (v := (1 : Int32)) C dX9_told_67 (by decide) ?_
    obtain ⟨x2, ex2, h⟩ := jm_bind h
    refine jt_iald C dX9_told_68 (jm_f8_0 hr0) ex2 ?_
    obtain ⟨x3, ex3, h⟩ := jm_bind h
    refine jt_callSi (As := [_]) (rest := []) C dX9_told_69 (c_X9_bits (jx_l X) k n _ _ _ ex3) (k_goodIn (g_RX9_118)) rfl h_X9_bits ⟨rfl, rfl, Nat.le_of_ble_eq_true rfl, Nat.le_of_ble_eq_true rfl⟩ rfl rfl (Nat.le_of_ble_eq_true rfl) ?_
    cases h
    exact jt_iret C dX9_told_72 hQ hr
  replace h := jm_iff c1_1 h
  by_cases c1_2 : v1 = (2 : Int32)
  · replace h := jm_ift c1_2 h
    refine jt_tblIn (v := 2) (tgt := 73) C dX9_told_1 c1_2 (by decide) (by decide) rfl (by decide) ?_
    refine jt_aload_n C dX9_told_73 rfl 0 rfl ?_
    refine jt_getR (Tf := TX9) (N := 17) C dX9_told_74 hr0 rfl i_9 0 (by decide) rfl m_RX9_7 rfl ?_
    refine jt_iconst (v := (1 : Int32)) C dX9_told_77 (by decide) ?_
    obtain ⟨x4, ex4, h⟩ := jm_bind h
    refine jt_iald C dX9_told_78 (jm_f8_0 hr0) ex4 ?_
    cases h
    exact jt_iret C dX9_told_79 hQ hr
  replace h := jm_iff c1_2 h
  by_cases c1_3 : v1 = (3 : Int32)
  · replace h := jm_ift c1_3 h
    refine jt_tblIn (v := 3) (tgt := 80) C dX9_told_1 c1_3 (by decide) (by decide) rfl (by decide) ?_
    refine jt_aload_n C dX9_told_80 rfl 0 rfl ?_
    refine jt_aload_n C dX9_told_81 rfl 0 rfl ?_
    refine jt_getR (Tf := TX9) (N := 17) C dX9_told_82 hr0 rfl i_9 0 (by decide) rfl m_RX9_7 rfl ?_
    refine jt_iconst (v := (0 : Int32)) C dX9_told_85 (by decide) ?_
    obtain ⟨x5, ex5, h⟩ := jm_bind h
    refine jt_iald C dX9_told_86 (jm_f8_0 hr0) ex5 ?_
    refine jt_aload_n C dX9_told_87 rfl 0 rfl ?_
    refine jt_getR (Tf := TX9) (N := 17) C dX9_told_88 hr0 rfl i_9 0 (by decide) rfl m_RX9_7 rfl ?_
    refine jt_iconst (v := (1 : Int32)) C dX9_told_91 (by decide) ?_
    obtain ⟨x6, ex6, h⟩ := jm_bind h
    refine jt_iald C dX9_told_92 (jm_f8_0 hr0) ex6 ?_
    obtain ⟨⟨x7a, x7b⟩, ex7, h⟩ := jm_bind h
    try dsimp only at h
    refine jt_callVi (As := [_, _]) (rest := []) C hr0 rfl dX9_told_93 (c_X9_canonical (jx_l X) k n _ _ _ _ hr0 _ _ ex7) (k_goodIn (g_RX9_90)) rfl h_X9_canonical ⟨rfl, rfl, Nat.le_of_ble_eq_true rfl, Nat.le_of_ble_eq_true rfl⟩ rfl rfl (Nat.le_of_ble_eq_true rfl) ?_
    cases h
    exact jt_iret C dX9_told_96 hQ hr
  replace h := jm_iff c1_3 h
  by_cases c1_4 : v1 = (4 : Int32)
  · replace h := jm_ift c1_4 h
    refine jt_tblIn (v := 4) (tgt := 97) C dX9_told_1 c1_4 (by decide) (by decide) rfl (by decide) ?_
    refine jt_aload_n C dX9_told_97 rfl 0 rfl ?_
    obtain ⟨M8, eM8, h⟩ := jm_bind h
    refine jt_callVv (As := []) (rest := []) C hr0 rfl dX9_told_98 (c_X9_layOrbits (jx_l X) k n _ _ hr0 _ eM8) (k_goodIn (g_RX9_106)) rfl h_X9_layOrbits ⟨rfl, rfl, Nat.le_of_ble_eq_true rfl, Nat.le_of_ble_eq_true rfl⟩ rfl rfl (Nat.le_of_ble_eq_true rfl) ?_
    refine jt_aload_n C dX9_told_101 rfl 0 rfl ?_
    refine jt_getI (Tf := TX9) (N := 17) C dX9_told_102 hr0 rfl i_9 8 (by decide) rfl m_RX9_93 rfl ?_
    cases h
    exact jt_iret C dX9_told_105 hQ hr
  replace h := jm_iff c1_4 h
  by_cases c1_5 : v1 = (5 : Int32)
  · replace h := jm_ift c1_5 h
    refine jt_tblIn (v := 5) (tgt := 106) C dX9_told_1 c1_5 (by decide) (by decide) rfl (by decide) ?_
    refine jt_aload_n C dX9_told_106 rfl 0 rfl ?_
    obtain ⟨⟨x9a, x9b⟩, ex9, h⟩ := jm_bind h
    try dsimp only at h
    refine jt_callVi (As := []) (rest := []) C hr0 rfl dX9_told_107 (c_X9_classes (jx_l X) k n _ _ hr0 _ _ ex9) (k_goodIn (g_RX9_121)) rfl h_X9_classes ⟨rfl, rfl, Nat.le_of_ble_eq_true rfl, Nat.le_of_ble_eq_true rfl⟩ rfl rfl (Nat.le_of_ble_eq_true rfl) ?_
    cases h
    exact jt_iret C dX9_told_110 hQ hr
  replace h := jm_iff c1_5 h
  by_cases c1_6 : v1 = (6 : Int32)
  · replace h := jm_ift c1_6 h
    refine jt_tblIn (v := 6) (tgt := 111) C dX9_told_1 c1_6 (by decide) (by decide) rfl (by decide) ?_
    refine jt_aload_n C dX9_told_111 rfl 0 rfl ?_
    obtain ⟨⟨x10a, x10b⟩, ex10, h⟩ := jm_bind h
    try dsimp only at h
    refine jt_callVi (As := []) (rest := []) C hr0 rfl dX9_told_112 (c_X9_differentCards (jx_l X) k n _ _ hr0 _ _ ex10) (k_goodIn (g_RX9_125)) rfl h_X9_differentCards ⟨rfl, rfl, Nat.le_of_ble_eq_true rfl, Nat.le_of_ble_eq_true rfl⟩ rfl rfl (Nat.le_of_ble_eq_true rfl) ?_
    cases h
    exact jt_iret C dX9_told_115 hQ hr
  replace h := jm_iff c1_6 h
  by_cases c1_7 : v1 = (7 : Int32)
  · replace h := jm_ift c1_7 h
    refine jt_tblIn (v := 7) (tgt := 116) C dX9_told_1 c1_7 (by decide) (by decide) rfl (by decide) ?_
    refine jt_aload_n C dX9_told_116 rfl 0 rfl ?_
    obtain ⟨x11, ex11, h⟩ := jm_bind h
    refine jt_callVi (As := []) (rest := []) C hr0 rfl dX9_told_117 (c_X9_components (jx_l X) k n _ _ hr0 _ ex11) (k_goodIn (g_RX9_128)) rfl h_X9_components ⟨rfl, rfl, Nat.le_of_ble_eq_true rfl, Nat.le_of_ble_eq_true rfl⟩ rfl rfl (Nat.le_of_ble_eq_true rfl) ?_
    cases h
    exact jt_iret C dX9_told_120 hQ hr
  replace h := jm_iff c1_7 h
  by_cases c1_8 : v1 = (8 : Int32)
  · replace h := jm_ift c1_8 h
    refine jt_tblIn (v := 8) (tgt := 121) C dX9_told_1 c1_8 (by decide) (by decide) rfl (by decide) ?_
    refine jt_aload_n C dX9_told_121 rfl 0 rfl ?_
    obtain ⟨⟨x12a, x12b⟩, ex12, h⟩ := jm_bind h
    try dsimp only at h
    refine jt_callVi (As := []) (rest := []) C hr0 rfl dX9_told_122 (c_X9_pseudoPairs (jx_l X) k n _ _ hr0 _ _ ex12) (k_goodIn (g_RX9_131)) rfl h_X9_pseudoPairs ⟨rfl, rfl, Nat.le_of_ble_eq_true rfl, Nat.le_of_ble_eq_true rfl⟩ rfl rfl (Nat.le_of_ble_eq_true rfl) ?_
    cases h
    exact jt_iret C dX9_told_125 hQ hr
  replace h := jm_iff c1_8 h
  by_cases c1_9 : v1 = (9 : Int32)
  · replace h := jm_ift c1_9 h
    refine jt_tblIn (v := 9) (tgt := 126) C dX9_told_1 c1_9 (by decide) (by decide) rfl (by decide) ?_
    refine jt_aload_n C dX9_told_126 rfl 0 rfl ?_
    refine jt_getI (Tf := TX9) (N := 17) C dX9_told_127 hr0 rfl i_9 2 (by decide) rfl m_RX9_54 rfl ?_
    cases h
    exact jt_iret C dX9_told_130 hQ hr
  replace h := jm_iff c1_9 h
  refine jt_tblOut (tgt := 131) C dX9_told_1 (by have a0 := jm_nei 0 c1_0; simp at a0; have a1 := jm_nei 1 c1_1; simp at a1; have a2 := jm_nei 2 c1_2; simp at a2; have a3 := jm_nei 3 c1_3; simp at a3; have a4 := jm_nei 4 c1_4; simp at a4; have a5 := jm_nei 5 c1_5; simp at a5; have a6 := jm_nei 6 c1_6; simp at a6; have a7 := jm_nei 7 c1_7; simp at a7; have a8 := jm_nei 8 c1_8; simp at a8; have a9 := jm_nei 9 c1_9; simp at a9; omega) (by decide) ?_
  refine jt_iconst (v := (-1 : Int32)) C dX9_told_131 (by decide) ?_
  cases h
  exact jt_iret C dX9_told_132 hQ hr
theorem h_X9_similar : yX9_similar.cls = RX9 ∧ yX9_similar.cls ≠ "java/lang/invoke/MethodHandle" ∧ yX9_similar.cls ≠ "java/lang/invoke/VarHandle" ∧ (parseMethodDescriptor yX9_similar.desc).map (fun d => d.parameters.length) = some 1 := by decide +kernel
set_option maxHeartbeats 4000000 in
set_option maxRecDepth 100000 in
theorem c_X9_similar (l : Launch) (k : jm_C) (n : Nat) (r0 : Nat) (v1 : Int32) (M : jm_M) (hr0 : jm_is r0 (3, 8)) (q1 : Int32) (q2 : jm_M) (h : X9_similar n r0 v1 M = some (q1, q2)) : jm_Ci l k yX9_similar w_X9_similar { frames := 6, cells := 0, slots := 0, locals := 240 } [.ref (jm_ad k r0), .int v1] M q1 q2 := by
  refine jm_entry_i (cc := cX9_similar) (nL := 2) (ret := (some .int)) (by decide) rfl (Nat.le_of_ble_eq_true rfl) ?_
  intro X hX C hQ hr
  subst hX
  unfold X9_similar at h
  refine jt_aload_n C dX9_similar_0 rfl 0 rfl ?_
  obtain ⟨M1, eM1, h⟩ := jm_bind h
  refine jt_callVv (As := []) (rest := []) C hr0 rfl dX9_similar_1 (c_X9_layOrbits (jx_l X) k n _ _ hr0 _ eM1) (k_goodIn (g_RX9_106)) rfl h_X9_layOrbits ⟨rfl, rfl, Nat.le_of_ble_eq_true rfl, Nat.le_of_ble_eq_true rfl⟩ rfl rfl (Nat.le_of_ble_eq_true rfl) ?_
  refine jt_aload_n C dX9_similar_4 rfl 0 rfl ?_
  refine jt_getR (Tf := TX9) (N := 17) C dX9_similar_5 hr0 rfl i_9 7 (by decide) rfl m_RX9_28 rfl ?_
  refine jt_iload_n C dX9_similar_8 rfl 1 rfl ?_
  obtain ⟨x2, ex2, h⟩ := jm_bind h
  refine jt_iald C dX9_similar_9 (jm_f8_7 hr0) ex2 ?_
  refine jt_iconst (v := (1 : Int32)) C dX9_similar_10 (by decide) ?_
  refine jt_iload_n C dX9_similar_11 rfl 1 rfl ?_
  refine jt_ishl C dX9_similar_12 ?_
  refine jt_iconst (v := (-1 : Int32)) C dX9_similar_13 (by decide) ?_
  refine jt_ixor C dX9_similar_14 ?_
  refine jt_iand C dX9_similar_15 ?_
  cases h
  exact jt_iret C dX9_similar_16 hQ hr
theorem h_X9_pseudoSimilar : yX9_pseudoSimilar.cls = RX9 ∧ yX9_pseudoSimilar.cls ≠ "java/lang/invoke/MethodHandle" ∧ yX9_pseudoSimilar.cls ≠ "java/lang/invoke/VarHandle" ∧ (parseMethodDescriptor yX9_pseudoSimilar.desc).map (fun d => d.parameters.length) = some 1 := by decide +kernel
set_option maxHeartbeats 4000000 in
set_option maxRecDepth 100000 in
theorem c_X9_pseudoSimilar (l : Launch) (k : jm_C) (n : Nat) (r0 : Nat) (v1 : Int32) (M : jm_M) (hr0 : jm_is r0 (3, 8)) (q1 : Int32) (q2 : jm_M) (h : X9_pseudoSimilar n r0 v1 M = some (q1, q2)) : jm_Ci l k yX9_pseudoSimilar w_X9_pseudoSimilar { frames := 7, cells := 0, slots := 0, locals := 280 } [.ref (jm_ad k r0), .int v1] M q1 q2 := by
  refine jm_entry_i (cc := cX9_pseudoSimilar) (nL := 2) (ret := (some .int)) (by decide) rfl (Nat.le_of_ble_eq_true rfl) ?_
  intro X hX C hQ hr
  subst hX
  unfold X9_pseudoSimilar at h
  refine jt_aload_n C dX9_pseudoSimilar_0 rfl 0 rfl ?_
  obtain ⟨M1, eM1, h⟩ := jm_bind h
  refine jt_callVv (As := []) (rest := []) C hr0 rfl dX9_pseudoSimilar_1 (c_X9_layCards (jx_l X) k n _ _ hr0 _ eM1) (k_goodIn (g_RX9_109)) rfl h_X9_layCards ⟨rfl, rfl, Nat.le_of_ble_eq_true rfl, Nat.le_of_ble_eq_true rfl⟩ rfl rfl (Nat.le_of_ble_eq_true rfl) ?_
  refine jt_aload_n C dX9_pseudoSimilar_4 rfl 0 rfl ?_
  obtain ⟨M2, eM2, h⟩ := jm_bind h
  refine jt_callVv (As := []) (rest := []) C hr0 rfl dX9_pseudoSimilar_5 (c_X9_layOrbits (jx_l X) k n _ _ hr0 _ eM2) (k_goodIn (g_RX9_106)) rfl h_X9_layOrbits ⟨rfl, rfl, Nat.le_of_ble_eq_true rfl, Nat.le_of_ble_eq_true rfl⟩ rfl rfl (Nat.le_of_ble_eq_true rfl) ?_
  refine jt_aload_n C dX9_pseudoSimilar_8 rfl 0 rfl ?_
  refine jt_iload_n C dX9_pseudoSimilar_9 rfl 1 rfl ?_
  obtain ⟨x3, ex3, h⟩ := jm_bind h
  refine jt_callVi (As := [_]) (rest := []) C hr0 rfl dX9_pseudoSimilar_10 (c_X9_pseudo (jx_l X) k n _ _ _ hr0 _ ex3) (k_goodIn (g_RX9_115)) rfl h_X9_pseudo ⟨rfl, rfl, Nat.le_of_ble_eq_true rfl, Nat.le_of_ble_eq_true rfl⟩ rfl rfl (Nat.le_of_ble_eq_true rfl) ?_
  cases h
  exact jt_iret C dX9_pseudoSimilar_13 hQ hr
theorem h_X9_vertex : yX9_vertex.cls = RX9 ∧ yX9_vertex.cls ≠ "java/lang/invoke/MethodHandle" ∧ yX9_vertex.cls ≠ "java/lang/invoke/VarHandle" ∧ (parseMethodDescriptor yX9_vertex.desc).map (fun d => d.parameters.length) = some 2 := by decide +kernel
set_option maxHeartbeats 4000000 in
set_option maxRecDepth 100000 in
theorem c_X9_vertex (l : Launch) (k : jm_C) (n : Nat) (r0 : Nat) (v1 : Int32) (v2 : Int32) (M : jm_M) (hr0 : jm_is r0 (3, 8)) (q1 : Int32) (q2 : jm_M) (h : X9_vertex n r0 v1 v2 M = some (q1, q2)) : jm_Ci l k yX9_vertex w_X9_vertex { frames := 8, cells := 0, slots := 0, locals := 320 } [.ref (jm_ad k r0), .int v1, .int v2] M q1 q2 := by
  refine jm_entry_i (cc := cX9_vertex) (nL := 5) (ret := (some .int)) (by decide) rfl (Nat.le_of_ble_eq_true rfl) ?_
  intro X hX C hQ hr
  subst hX
  unfold X9_vertex at h
  refine jt_aload_n C dX9_vertex_0 rfl 0 rfl ?_
  refine jt_iload_n C dX9_vertex_1 rfl 1 rfl ?_
  obtain ⟨x1, ex1, h⟩ := jm_bind h
  refine jt_callVi (As := [_]) (rest := []) C hr0 rfl dX9_vertex_2 (c_X9_isVertex (jx_l X) k _ _ _ hr0 _ ex1) (k_goodIn (g_RX9_73)) rfl h_X9_isVertex ⟨rfl, rfl, Nat.le_of_ble_eq_true rfl, Nat.le_of_ble_eq_true rfl⟩ rfl rfl (Nat.le_of_ble_eq_true rfl) ?_
  refine jt_if_eq (tgt := 17) C dX9_vertex_5 (by decide) (fun c5 => ?_) (fun c5 => ?_)
  · replace h := jm_ift c5 h
    refine jt_iconst (v := (-1 : Int32)) C dX9_vertex_17 (by decide) ?_
    cases h
    exact jt_iret C dX9_vertex_18 hQ hr
  · replace h := jm_iff c5 h
    refine jt_iload_n C dX9_vertex_8 rfl 2 rfl ?_
    refine jt_iconst (v := (0 : Int32)) C dX9_vertex_9 (by decide) ?_
    refine jt_iconst (v := (5 : Int32)) C dX9_vertex_10 (by decide) ?_
    refine jt_callSi (As := [_, _, _]) (rest := []) C dX9_vertex_11 (c_X9_isIn (jx_l X) k _ _ _ _ _ rfl) (k_goodIn (g_RX9_50)) rfl h_X9_isIn ⟨rfl, rfl, Nat.le_of_ble_eq_true rfl, Nat.le_of_ble_eq_true rfl⟩ rfl rfl (Nat.le_of_ble_eq_true rfl) ?_
    refine jt_if_ne (tgt := 19) C dX9_vertex_14 (by decide) (fun c14 => ?_) (fun c14 => ?_)
    · replace h := jm_iff c14 h
      refine jt_aload_n C dX9_vertex_19 rfl 0 rfl ?_
      refine jt_getR (Tf := TX9) (N := 17) C dX9_vertex_20 hr0 rfl i_9 0 (by decide) rfl m_RX9_7 rfl ?_
      refine jt_iconst (v := (0 : Int32)) C dX9_vertex_23 (by decide) ?_
      obtain ⟨x2, ex2, h⟩ := jm_bind h
      refine jt_iald C dX9_vertex_24 (jm_f8_0 hr0) ex2 ?_
      refine jt_istore_n (lv' := [(3, _), (0, _), (1, _), (2, _)]) C dX9_vertex_25 rfl (by decide) rfl ?_
      refine jt_iload_n C dX9_vertex_26 rfl 0 rfl ?_
      refine jt_aload_n C dX9_vertex_27 rfl 1 rfl ?_
      refine jt_getR (Tf := TX9) (N := 17) C dX9_vertex_28 hr0 rfl i_9 0 (by decide) rfl m_RX9_7 rfl ?_
      refine jt_iconst (v := (1 : Int32)) C dX9_vertex_31 (by decide) ?_
      obtain ⟨x3, ex3, h⟩ := jm_bind h
      refine jt_iald C dX9_vertex_32 (jm_f8_0 hr0) ex3 ?_
      refine jt_iload_n C dX9_vertex_33 rfl 2 rfl ?_
      obtain ⟨x4, ex4, h⟩ := jm_bind h
      refine jt_callSi (As := [_, _, _]) (rest := []) C dX9_vertex_34 (c_X9_neighbours (jx_l X) k n _ _ _ _ _ ex4) (k_goodIn (g_RX9_77)) rfl h_X9_neighbours ⟨rfl, rfl, Nat.le_of_ble_eq_true rfl, Nat.le_of_ble_eq_true rfl⟩ rfl rfl (Nat.le_of_ble_eq_true rfl) ?_
      refine jt_istore (lv' := [(4, _), (3, _), (0, _), (1, _), (2, _)]) C dX9_vertex_37 (by decide) rfl ?_
      refine jt_iload_n C dX9_vertex_39 rfl 4 rfl ?_
      refine jt_iconst (v := (1 : Int32)) C dX9_vertex_40 (by decide) ?_
      refine jt_icmp_le (tgt := 52) C dX9_vertex_41 (by decide) (fun c41 => ?_) (fun c41 => ?_)
      · replace h := jm_ift c41 h
        refine jt_iload_n C dX9_vertex_52 rfl 4 rfl ?_
        by_cases c53_0 : v2 = (0 : Int32)
        · replace h := jm_ift c53_0 h
          refine jt_tblIn (v := 0) (tgt := 88) C dX9_vertex_53 c53_0 (by decide) (by decide) rfl (by decide) ?_
          refine jt_iload C dX9_vertex_88 0 rfl ?_
          obtain ⟨x5, ex5, h⟩ := jm_bind h
          refine jt_callSi (As := [_]) (rest := []) C dX9_vertex_90 (c_X9_bits (jx_l X) k n _ _ _ ex5) (k_goodIn (g_RX9_118)) rfl h_X9_bits ⟨rfl, rfl, Nat.le_of_ble_eq_true rfl, Nat.le_of_ble_eq_true rfl⟩ rfl rfl (Nat.le_of_ble_eq_true rfl) ?_
          cases h
          exact jt_iret C dX9_vertex_93 hQ hr
        replace h := jm_iff c53_0 h
        by_cases c53_1 : v2 = (1 : Int32)
        · replace h := jm_ift c53_1 h
          refine jt_tblIn (v := 1) (tgt := 94) C dX9_vertex_53 c53_1 (by decide) (by decide) rfl (by decide) ?_
          refine jt_iload C dX9_vertex_94 0 rfl ?_
          cases h
          exact jt_iret C dX9_vertex_96 hQ hr
        replace h := jm_iff c53_1 h
        by_cases c53_2 : v2 = (2 : Int32)
        · replace h := jm_ift c53_2 h
          refine jt_tblIn (v := 2) (tgt := 97) C dX9_vertex_53 c53_2 (by decide) (by decide) rfl (by decide) ?_
          refine jt_aload_n C dX9_vertex_97 rfl 2 rfl ?_
          refine jt_iload_n C dX9_vertex_98 rfl 1 rfl ?_
          refine jt_aload_n C dX9_vertex_99 rfl 2 rfl ?_
          refine jt_getR (Tf := TX9) (N := 17) C dX9_vertex_100 hr0 rfl i_9 0 (by decide) rfl m_RX9_7 rfl ?_
          refine jt_iconst (v := (1 : Int32)) C dX9_vertex_103 (by decide) ?_
          obtain ⟨x6, ex6, h⟩ := jm_bind h
          refine jt_iald C dX9_vertex_104 (jm_f8_0 hr0) ex6 ?_
          refine jt_iload_n C dX9_vertex_105 rfl 3 rfl ?_
          obtain ⟨⟨x7a, x7b⟩, ex7, h⟩ := jm_bind h
          try dsimp only at h
          refine jt_callVi (As := [_, _, _]) (rest := []) C hr0 rfl dX9_vertex_106 (c_X9_cardOf (jx_l X) k n _ _ _ _ _ hr0 _ _ ex7) (k_goodIn (g_RX9_103)) rfl h_X9_cardOf ⟨rfl, rfl, Nat.le_of_ble_eq_true rfl, Nat.le_of_ble_eq_true rfl⟩ rfl rfl (Nat.le_of_ble_eq_true rfl) ?_
          cases h
          exact jt_iret C dX9_vertex_109 hQ hr
        replace h := jm_iff c53_2 h
        by_cases c53_3 : v2 = (3 : Int32)
        · replace h := jm_ift c53_3 h
          refine jt_tblIn (v := 3) (tgt := 110) C dX9_vertex_53 c53_3 (by decide) (by decide) rfl (by decide) ?_
          refine jt_aload_n C dX9_vertex_110 rfl 2 rfl ?_
          refine jt_getR (Tf := TX9) (N := 17) C dX9_vertex_111 hr0 rfl i_9 0 (by decide) rfl m_RX9_7 rfl ?_
          refine jt_iconst (v := (1 : Int32)) C dX9_vertex_114 (by decide) ?_
          obtain ⟨x8, ex8, h⟩ := jm_bind h
          refine jt_iald C dX9_vertex_115 (jm_f8_0 hr0) ex8 ?_
          obtain ⟨x9, ex9, h⟩ := jm_bind h
          refine jt_callSi (As := [_]) (rest := []) C dX9_vertex_116 (c_X9_bits (jx_l X) k n _ _ _ ex9) (k_goodIn (g_RX9_118)) rfl h_X9_bits ⟨rfl, rfl, Nat.le_of_ble_eq_true rfl, Nat.le_of_ble_eq_true rfl⟩ rfl rfl (Nat.le_of_ble_eq_true rfl) ?_
          refine jt_iload C dX9_vertex_119 0 rfl ?_
          obtain ⟨x10, ex10, h⟩ := jm_bind h
          refine jt_callSi (As := [_]) (rest := [_]) C dX9_vertex_121 (c_X9_bits (jx_l X) k n _ _ _ ex10) (k_goodIn (g_RX9_118)) rfl h_X9_bits ⟨rfl, rfl, Nat.le_of_ble_eq_true rfl, Nat.le_of_ble_eq_true rfl⟩ rfl rfl (Nat.le_of_ble_eq_true rfl) ?_
          refine jt_isub C dX9_vertex_124 ?_
          cases h
          exact jt_iret C dX9_vertex_125 hQ hr
        replace h := jm_iff c53_3 h
        by_cases c53_4 : v2 = (4 : Int32)
        · replace h := jm_ift c53_4 h
          refine jt_tblIn (v := 4) (tgt := 126) C dX9_vertex_53 c53_4 (by decide) (by decide) rfl (by decide) ?_
          refine jt_aload_n C dX9_vertex_126 rfl 2 rfl ?_
          refine jt_iload_n C dX9_vertex_127 rfl 3 rfl ?_
          obtain ⟨⟨x11a, x11b⟩, ex11, h⟩ := jm_bind h
          try dsimp only at h
          refine jt_callVi (As := [_]) (rest := []) C hr0 rfl dX9_vertex_128 (c_X9_similar (jx_l X) k n _ _ _ hr0 _ _ ex11) (k_goodIn (g_RX9_134)) rfl h_X9_similar ⟨rfl, rfl, Nat.le_of_ble_eq_true rfl, Nat.le_of_ble_eq_true rfl⟩ rfl rfl (Nat.le_of_ble_eq_true rfl) ?_
          cases h
          exact jt_iret C dX9_vertex_131 hQ hr
        replace h := jm_iff c53_4 h
        refine jt_tblOut (tgt := 132) C dX9_vertex_53 (by have a0 := jm_nei 0 c53_0; simp at a0; have a1 := jm_nei 1 c53_1; simp at a1; have a2 := jm_nei 2 c53_2; simp at a2; have a3 := jm_nei 3 c53_3; simp at a3; have a4 := jm_nei 4 c53_4; simp at a4; omega) (by decide) ?_
        refine jt_aload_n C dX9_vertex_132 rfl 2 rfl ?_
        refine jt_iload_n C dX9_vertex_133 rfl 3 rfl ?_
        obtain ⟨⟨x12a, x12b⟩, ex12, h⟩ := jm_bind h
        try dsimp only at h
        refine jt_callVi (As := [_]) (rest := []) C hr0 rfl dX9_vertex_134 (c_X9_pseudoSimilar (jx_l X) k n _ _ _ hr0 _ _ ex12) (k_goodIn (g_RX9_137)) rfl h_X9_pseudoSimilar ⟨rfl, rfl, Nat.le_of_ble_eq_true rfl, Nat.le_of_ble_eq_true rfl⟩ rfl rfl (Nat.le_of_ble_eq_true rfl) ?_
        cases h
        exact jt_iret C dX9_vertex_137 hQ hr
      · replace h := jm_iff c41 h
        refine jt_iload_n C dX9_vertex_44 rfl 1 rfl ?_
        refine jt_iconst (v := (1 : Int32)) C dX9_vertex_45 (by decide) ?_
        refine jt_icmp_ne (tgt := 52) C dX9_vertex_46 (by decide) (fun c46 => ?_) (fun c46 => ?_)
        · replace h := jm_iff c46 h
          refine jt_iload_n C dX9_vertex_52 rfl 4 rfl ?_
          by_cases c53_0 : v2 = (0 : Int32)
          · replace h := jm_ift c53_0 h
            refine jt_tblIn (v := 0) (tgt := 88) C dX9_vertex_53 c53_0 (by decide) (by decide) rfl (by decide) ?_
            refine jt_iload C dX9_vertex_88 0 rfl ?_
            obtain ⟨x13, ex13, h⟩ := jm_bind h
            refine jt_callSi (As := [_]) (rest := []) C dX9_vertex_90 (c_X9_bits (jx_l X) k n _ _ _ ex13) (k_goodIn (g_RX9_118)) rfl h_X9_bits ⟨rfl, rfl, Nat.le_of_ble_eq_true rfl, Nat.le_of_ble_eq_true rfl⟩ rfl rfl (Nat.le_of_ble_eq_true rfl) ?_
            cases h
            exact jt_iret C dX9_vertex_93 hQ hr
          replace h := jm_iff c53_0 h
          by_cases c53_1 : v2 = (1 : Int32)
          · replace h := jm_ift c53_1 h
            refine jt_tblIn (v := 1) (tgt := 94) C dX9_vertex_53 c53_1 (by decide) (by decide) rfl (by decide) ?_
            refine jt_iload C dX9_vertex_94 0 rfl ?_
            cases h
            exact jt_iret C dX9_vertex_96 hQ hr
          replace h := jm_iff c53_1 h
          by_cases c53_2 : v2 = (2 : Int32)
          · replace h := jm_ift c53_2 h
            refine jt_tblIn (v := 2) (tgt := 97) C dX9_vertex_53 c53_2 (by decide) (by decide) rfl (by decide) ?_
            refine jt_aload_n C dX9_vertex_97 rfl 2 rfl ?_
            refine jt_iload_n C dX9_vertex_98 rfl 1 rfl ?_
            refine jt_aload_n C dX9_vertex_99 rfl 2 rfl ?_
            refine jt_getR (Tf := TX9) (N := 17) C dX9_vertex_100 hr0 rfl i_9 0 (by decide) rfl m_RX9_7 rfl ?_
            refine jt_iconst (v := (1 : Int32)) C dX9_vertex_103 (by decide) ?_
            obtain ⟨x14, ex14, h⟩ := jm_bind h
            refine jt_iald C dX9_vertex_104 (jm_f8_0 hr0) ex14 ?_
            refine jt_iload_n C dX9_vertex_105 rfl 3 rfl ?_
            obtain ⟨⟨x15a, x15b⟩, ex15, h⟩ := jm_bind h
            try dsimp only at h
            refine jt_callVi (As := [_, _, _]) (rest := []) C hr0 rfl dX9_vertex_106 (c_X9_cardOf (jx_l X) k n _ _ _ _ _ hr0 _ _ ex15) (k_goodIn (g_RX9_103)) rfl h_X9_cardOf ⟨rfl, rfl, Nat.le_of_ble_eq_true rfl, Nat.le_of_ble_eq_true rfl⟩ rfl rfl (Nat.le_of_ble_eq_true rfl) ?_
            cases h
            exact jt_iret C dX9_vertex_109 hQ hr
          replace h := jm_iff c53_2 h
          by_cases c53_3 : v2 = (3 : Int32)
          · replace h := jm_ift c53_3 h
            refine jt_tblIn (v := 3) (tgt := 110) C dX9_vertex_53 c53_3 (by decide) (by decide) rfl (by decide) ?_
            refine jt_aload_n C dX9_vertex_110 rfl 2 rfl ?_
            refine jt_getR (Tf := TX9) (N := 17) C dX9_vertex_111 hr0 rfl i_9 0 (by decide) rfl m_RX9_7 rfl ?_
            refine jt_iconst (v := (1 : Int32)) C dX9_vertex_114 (by decide) ?_
            obtain ⟨x16, ex16, h⟩ := jm_bind h
            refine jt_iald C dX9_vertex_115 (jm_f8_0 hr0) ex16 ?_
            obtain ⟨x17, ex17, h⟩ := jm_bind h
            refine jt_callSi (As := [_]) (rest := []) C dX9_vertex_116 (c_X9_bits (jx_l X) k n _ _ _ ex17) (k_goodIn (g_RX9_118)) rfl h_X9_bits ⟨rfl, rfl, Nat.le_of_ble_eq_true rfl, Nat.le_of_ble_eq_true rfl⟩ rfl rfl (Nat.le_of_ble_eq_true rfl) ?_
            refine jt_iload C dX9_vertex_119 0 rfl ?_
            obtain ⟨x18, ex18, h⟩ := jm_bind h
            refine jt_callSi (As := [_]) (rest := [_]) C dX9_vertex_121 (c_X9_bits (jx_l X) k n _ _ _ ex18) (k_goodIn (g_RX9_118)) rfl h_X9_bits ⟨rfl, rfl, Nat.le_of_ble_eq_true rfl, Nat.le_of_ble_eq_true rfl⟩ rfl rfl (Nat.le_of_ble_eq_true rfl) ?_
            refine jt_isub C dX9_vertex_124 ?_
            cases h
            exact jt_iret C dX9_vertex_125 hQ hr
          replace h := jm_iff c53_3 h
          by_cases c53_4 : v2 = (4 : Int32)
          · replace h := jm_ift c53_4 h
            refine jt_tblIn (v := 4) (tgt := 126) C dX9_vertex_53 c53_4 (by decide) (by decide) rfl (by decide) ?_
            refine jt_aload_n C dX9_vertex_126 rfl 2 rfl ?_
            refine jt_iload_n C dX9_vertex_127 rfl 3 rfl ?_
            obtain ⟨⟨x19a, x19b⟩, ex19, h⟩ := jm_bind h
            try dsimp only at h
            refine jt_callVi (As := [_]) (rest := []) C hr0 rfl dX9_vertex_128 (c_X9_similar (jx_l X) k n _ _ _ hr0 _ _ ex19) (k_goodIn (g_RX9_134)) rfl h_X9_similar ⟨rfl, rfl, Nat.le_of_ble_eq_true rfl, Nat.le_of_ble_eq_true rfl⟩ rfl rfl (Nat.le_of_ble_eq_true rfl) ?_
            cases h
            exact jt_iret C dX9_vertex_131 hQ hr
          replace h := jm_iff c53_4 h
          refine jt_tblOut (tgt := 132) C dX9_vertex_53 (by have a0 := jm_nei 0 c53_0; simp at a0; have a1 := jm_nei 1 c53_1; simp at a1; have a2 := jm_nei 2 c53_2; simp at a2; have a3 := jm_nei 3 c53_3; simp at a3; have a4 := jm_nei 4 c53_4; simp at a4; omega) (by decide) ?_
          refine jt_aload_n C dX9_vertex_132 rfl 2 rfl ?_
          refine jt_iload_n C dX9_vertex_133 rfl 3 rfl ?_
          obtain ⟨⟨x20a, x20b⟩, ex20, h⟩ := jm_bind h
          try dsimp only at h
          refine jt_callVi (As := [_]) (rest := []) C hr0 rfl dX9_vertex_134 (c_X9_pseudoSimilar (jx_l X) k n _ _ _ hr0 _ _ ex20) (k_goodIn (g_RX9_137)) rfl h_X9_pseudoSimilar ⟨rfl, rfl, Nat.le_of_ble_eq_true rfl, Nat.le_of_ble_eq_true rfl⟩ rfl rfl (Nat.le_of_ble_eq_true rfl) ?_
          cases h
          exact jt_iret C dX9_vertex_137 hQ hr
        · replace h := jm_ift c46 h
          refine jt_bipush (v := (-9 : Int32)) C dX9_vertex_49 (by decide) ?_
          cases h
          exact jt_iret C dX9_vertex_51 hQ hr
    · replace h := jm_ift c14 h
      refine jt_iconst (v := (-1 : Int32)) C dX9_vertex_17 (by decide) ?_
      cases h
      exact jt_iret C dX9_vertex_18 hQ hr
theorem h_X9_image : yX9_image.cls = RX9 ∧ yX9_image.cls ≠ "java/lang/invoke/MethodHandle" ∧ yX9_image.cls ≠ "java/lang/invoke/VarHandle" ∧ (parseMethodDescriptor yX9_image.desc).map (fun d => d.parameters.length) = some 3 := by decide +kernel
set_option maxHeartbeats 4000000 in
set_option maxRecDepth 100000 in
theorem c_X9_image (l : Launch) (k : jm_C) (n : Nat) (r0 : Nat) (v1 : Int32) (v2 : Int32) (v3 : Int32) (M : jm_M) (hr0 : jm_is r0 (3, 8)) (q1 : Int32) (q2 : jm_M) (h : X9_image n r0 v1 v2 v3 M = some (q1, q2)) : jm_Ci l k yX9_image w_X9_image { frames := 5, cells := 0, slots := 0, locals := 200 } [.ref (jm_ad k r0), .int v1, .int v2, .int v3] M q1 q2 := by
  refine jm_entry_i (cc := cX9_image) (nL := 4) (ret := (some .int)) (by decide) rfl (Nat.le_of_ble_eq_true rfl) ?_
  intro X hX C hQ hr
  subst hX
  unfold X9_image at h
  refine jt_aload_n C dX9_image_0 rfl 0 rfl ?_
  refine jt_iload_n C dX9_image_1 rfl 1 rfl ?_
  obtain ⟨x1, ex1, h⟩ := jm_bind h
  refine jt_callVi (As := [_]) (rest := []) C hr0 rfl dX9_image_2 (c_X9_isVertex (jx_l X) k _ _ _ hr0 _ ex1) (k_goodIn (g_RX9_73)) rfl h_X9_isVertex ⟨rfl, rfl, Nat.le_of_ble_eq_true rfl, Nat.le_of_ble_eq_true rfl⟩ rfl rfl (Nat.le_of_ble_eq_true rfl) ?_
  refine jt_if_eq (tgt := 24) C dX9_image_5 (by decide) (fun c5 => ?_) (fun c5 => ?_)
  · replace h := jm_ift c5 h
    refine jt_iconst (v := (-1 : Int32)) C dX9_image_24 (by decide) ?_
    cases h
    exact jt_iret C dX9_image_25 hQ hr
  · replace h := jm_iff c5 h
    refine jt_aload_n C dX9_image_8 rfl 0 rfl ?_
    refine jt_iload_n C dX9_image_9 rfl 2 rfl ?_
    obtain ⟨x2, ex2, h⟩ := jm_bind h
    refine jt_callVi (As := [_]) (rest := []) C hr0 rfl dX9_image_10 (c_X9_isVertex (jx_l X) k _ _ _ hr0 _ ex2) (k_goodIn (g_RX9_73)) rfl h_X9_isVertex ⟨rfl, rfl, Nat.le_of_ble_eq_true rfl, Nat.le_of_ble_eq_true rfl⟩ rfl rfl (Nat.le_of_ble_eq_true rfl) ?_
    refine jt_if_eq (tgt := 24) C dX9_image_13 (by decide) (fun c13 => ?_) (fun c13 => ?_)
    · replace h := jm_ift c13 h
      refine jt_iconst (v := (-1 : Int32)) C dX9_image_24 (by decide) ?_
      cases h
      exact jt_iret C dX9_image_25 hQ hr
    · replace h := jm_iff c13 h
      refine jt_aload_n C dX9_image_16 rfl 0 rfl ?_
      refine jt_iload_n C dX9_image_17 rfl 3 rfl ?_
      obtain ⟨x3, ex3, h⟩ := jm_bind h
      refine jt_callVi (As := [_]) (rest := []) C hr0 rfl dX9_image_18 (c_X9_isVertex (jx_l X) k _ _ _ hr0 _ ex3) (k_goodIn (g_RX9_73)) rfl h_X9_isVertex ⟨rfl, rfl, Nat.le_of_ble_eq_true rfl, Nat.le_of_ble_eq_true rfl⟩ rfl rfl (Nat.le_of_ble_eq_true rfl) ?_
      refine jt_if_ne (tgt := 26) C dX9_image_21 (by decide) (fun c21 => ?_) (fun c21 => ?_)
      · replace h := jm_iff c21 h
        refine jt_aload_n C dX9_image_26 rfl 0 rfl ?_
        refine jt_aload_n C dX9_image_27 rfl 0 rfl ?_
        refine jt_getR (Tf := TX9) (N := 17) C dX9_image_28 hr0 rfl i_9 0 (by decide) rfl m_RX9_7 rfl ?_
        refine jt_iconst (v := (0 : Int32)) C dX9_image_31 (by decide) ?_
        obtain ⟨x4, ex4, h⟩ := jm_bind h
        refine jt_iald C dX9_image_32 (jm_f8_0 hr0) ex4 ?_
        refine jt_aload_n C dX9_image_33 rfl 0 rfl ?_
        refine jt_getR (Tf := TX9) (N := 17) C dX9_image_34 hr0 rfl i_9 0 (by decide) rfl m_RX9_7 rfl ?_
        refine jt_iconst (v := (1 : Int32)) C dX9_image_37 (by decide) ?_
        obtain ⟨x5, ex5, h⟩ := jm_bind h
        refine jt_iald C dX9_image_38 (jm_f8_0 hr0) ex5 ?_
        refine jt_iload_n C dX9_image_39 rfl 1 rfl ?_
        refine jt_iload_n C dX9_image_40 rfl 2 rfl ?_
        obtain ⟨⟨x6a, x6b⟩, ex6, h⟩ := jm_bind h
        try dsimp only at h
        refine jt_callVi (As := [_, _, _, _]) (rest := []) C hr0 rfl dX9_image_41 (c_X9_goThrough (jx_l X) k n _ _ _ _ _ _ hr0 _ _ ex6) (k_goodIn (g_RX9_100)) rfl h_X9_goThrough ⟨rfl, rfl, Nat.le_of_ble_eq_true rfl, Nat.le_of_ble_eq_true rfl⟩ rfl rfl (Nat.le_of_ble_eq_true rfl) ?_
        refine jt_if_eq (tgt := 56) C dX9_image_44 (by decide) (fun c44 => ?_) (fun c44 => ?_)
        · replace h := jm_ift c44 h
          refine jt_bipush (v := (-9 : Int32)) C dX9_image_56 (by decide) ?_
          cases h
          exact jt_iret C dX9_image_58 hQ hr
        · replace h := jm_iff c44 h
          refine jt_aload_n C dX9_image_47 rfl 0 rfl ?_
          refine jt_getR (Tf := TX9) (N := 17) C dX9_image_48 hr0 rfl i_9 6 (by decide) rfl m_RX9_25 rfl ?_
          refine jt_iload_n C dX9_image_51 rfl 3 rfl ?_
          obtain ⟨x7, ex7, h⟩ := jm_bind h
          refine jt_iald C dX9_image_52 (jm_f8_6 hr0) ex7 ?_
          refine jt_goto (tgt := 58) C dX9_image_53 (by decide) ?_
          cases h
          exact jt_iret C dX9_image_58 hQ hr
      · replace h := jm_ift c21 h
        refine jt_iconst (v := (-1 : Int32)) C dX9_image_24 (by decide) ?_
        cases h
        exact jt_iret C dX9_image_25 hQ hr
theorem h_X9_two : yX9_two.cls ≠ "java/lang/invoke/MethodHandle" ∧ yX9_two.cls ≠ "java/lang/invoke/VarHandle" ∧ (parseMethodDescriptor yX9_two.desc).map (fun d => d.parameters.length) = some 1 := by decide +kernel
set_option maxHeartbeats 4000000 in
set_option maxRecDepth 100000 in
theorem c_X9_two (l : Launch) (k : jm_C) (v0 : Int32) (M : jm_M)  (q : Int32) (h : X9_two v0 = q) : jm_Ci l k yX9_two w_X9_two { frames := 0, cells := 0, slots := 0, locals := 0 } [.int v0] M q M := by
  refine jm_entry_i (cc := cX9_two) (nL := 1) (ret := (some .int)) (by decide) rfl (Nat.le_of_ble_eq_true rfl) ?_
  intro X hX C hQ hr
  subst hX
  unfold X9_two at h
  refine jt_iload_n C dX9_two_0 rfl 0 rfl ?_
  refine jt_iload_n C dX9_two_1 rfl 0 rfl ?_
  refine jt_iconst (v := (1 : Int32)) C dX9_two_2 (by decide) ?_
  refine jt_isub C dX9_two_3 ?_
  refine jt_imul C dX9_two_4 ?_
  refine jt_iconst (v := (2 : Int32)) C dX9_two_5 (by decide) ?_
  refine jt_idiv C dX9_two_6 (if_neg (by decide)) ?_
  subst h
  exact jt_iret C dX9_two_7 hQ hr
theorem h_X9_common : yX9_common.cls = RX9 ∧ yX9_common.cls ≠ "java/lang/invoke/MethodHandle" ∧ yX9_common.cls ≠ "java/lang/invoke/VarHandle" ∧ (parseMethodDescriptor yX9_common.desc).map (fun d => d.parameters.length) = some 2 := by decide +kernel
set_option maxHeartbeats 4000000 in
set_option maxRecDepth 100000 in
theorem c_X9_common (l : Launch) (k : jm_C) (n : Nat) (r0 : Nat) (v1 : Int32) (v2 : Int32) (M : jm_M) (hr0 : jm_is r0 (3, 8)) (q : Int32) (h : X9_common n r0 v1 v2 M = some q) : jm_Ci l k yX9_common w_X9_common { frames := 1, cells := 0, slots := 0, locals := 40 } [.ref (jm_ad k r0), .int v1, .int v2] M q M := by
  refine jm_entry_i (cc := cX9_common) (nL := 3) (ret := (some .int)) (by decide) rfl (Nat.le_of_ble_eq_true rfl) ?_
  intro X hX C hQ hr
  subst hX
  unfold X9_common at h
  refine jt_aload_n C dX9_common_0 rfl 0 rfl ?_
  refine jt_getR (Tf := TX9) (N := 17) C dX9_common_1 hr0 rfl i_9 3 (by decide) rfl m_RX9_16 rfl ?_
  refine jt_iload_n C dX9_common_4 rfl 1 rfl ?_
  obtain ⟨x1, ex1, h⟩ := jm_bind h
  refine jt_iald C dX9_common_5 (jm_f8_3 hr0) ex1 ?_
  refine jt_aload_n C dX9_common_6 rfl 0 rfl ?_
  refine jt_getR (Tf := TX9) (N := 17) C dX9_common_7 hr0 rfl i_9 3 (by decide) rfl m_RX9_16 rfl ?_
  refine jt_iload_n C dX9_common_10 rfl 2 rfl ?_
  obtain ⟨x2, ex2, h⟩ := jm_bind h
  refine jt_iald C dX9_common_11 (jm_f8_3 hr0) ex2 ?_
  refine jt_iand C dX9_common_12 ?_
  obtain ⟨x3, ex3, h⟩ := jm_bind h
  refine jt_callSi (As := [_]) (rest := []) C dX9_common_13 (c_X9_bits (jx_l X) k n _ _ _ ex3) (k_goodIn (g_RX9_118)) rfl h_X9_bits ⟨rfl, rfl, Nat.le_of_ble_eq_true rfl, Nat.le_of_ble_eq_true rfl⟩ rfl rfl (Nat.le_of_ble_eq_true rfl) ?_
  cases h
  exact jt_iret C dX9_common_16 hQ hr
theorem h_X9_triangles : yX9_triangles.cls = RX9 ∧ yX9_triangles.cls ≠ "java/lang/invoke/MethodHandle" ∧ yX9_triangles.cls ≠ "java/lang/invoke/VarHandle" ∧ (parseMethodDescriptor yX9_triangles.desc).map (fun d => d.parameters.length) = some 1 := by decide +kernel
set_option maxHeartbeats 4000000 in
set_option maxRecDepth 100000 in
theorem t_X9_triangles_L12 {X : jm_X} {k : jm_C} (C : jm_Cx X k cX9_triangles 5 RX9 w_X9_triangles) (n : Nat) (r0 : Nat) (v1 : Int32) (v3 : Int32) (M : jm_M) (hr0 : jm_is r0 (3, 8)) : ∀ (m : Nat) (s : Int32 × Int32) (r : Int32), jm_loop (X9_triangles_B12 n r0 v1 v3 M) m s = some r → jm_T X { frames := 2, cells := 0, slots := 0, locals := 80 } k 5 M 53 [(0, .ref (jm_ad k r0)), (1, .int v1), (2, .int r), (3, .int v3)] [] → (∀ (b0 : Int32) (b1 : Int32), s = (b0, b1) → jm_T X { frames := 2, cells := 0, slots := 0, locals := 80 } k 5 M 12 [(0, .ref (jm_ad k r0)), (1, .int v1), (2, .int b0), (3, .int v3), (4, .int b1)] []) := by
  refine jm_loop_ind (P := fun (s : Int32 × Int32) => (∀ (b0 : Int32) (b1 : Int32), s = (b0, b1) → jm_T X { frames := 2, cells := 0, slots := 0, locals := 80 } k 5 M 12 [(0, .ref (jm_ad k r0)), (1, .int v1), (2, .int b0), (3, .int v3), (4, .int b1)] [])) (K := fun (r : Int32) => jm_T X { frames := 2, cells := 0, slots := 0, locals := 80 } k 5 M 53 [(0, .ref (jm_ad k r0)), (1, .int v1), (2, .int r), (3, .int v3)] []) ?_
  intro s q h h1 h2
  intro b0 b1 hs
  subst hs
  unfold X9_triangles_B12 at h
  try dsimp only at h
  refine jt_iload C dX9_triangles_12 4 rfl ?_
  refine jt_iload_n C dX9_triangles_14 rfl 3 rfl ?_
  refine jt_icmp_ge (tgt := 53) C dX9_triangles_15 (by decide) (fun c15 => ?_) (fun c15 => ?_)
  · replace h := jm_ift c15 h
    cases h
    exact jt_sub [0, 1, 2, 3] rfl (h2 _ rfl)
  · replace h := jm_iff c15 h
    refine jt_iload_n C dX9_triangles_18 rfl 2 rfl ?_
    refine jt_aload_n C dX9_triangles_19 rfl 0 rfl ?_
    refine jt_getR (Tf := TX9) (N := 17) C dX9_triangles_20 hr0 rfl i_9 3 (by decide) rfl m_RX9_16 rfl ?_
    refine jt_iload_n C dX9_triangles_23 rfl 3 rfl ?_
    obtain ⟨x1, ex1, h⟩ := jm_bind h
    refine jt_iald C dX9_triangles_24 (jm_f8_3 hr0) ex1 ?_
    refine jt_iload C dX9_triangles_25 4 rfl ?_
    refine jt_ishr C dX9_triangles_27 ?_
    refine jt_iconst (v := (1 : Int32)) C dX9_triangles_28 (by decide) ?_
    refine jt_iand C dX9_triangles_29 ?_
    refine jt_iconst (v := (1 : Int32)) C dX9_triangles_30 (by decide) ?_
    refine jt_icmp_ne (tgt := 44) C dX9_triangles_31 (by decide) (fun c31 => ?_) (fun c31 => ?_)
    · replace h := jm_iff c31 h
      refine jt_iconst (v := (0 : Int32)) C dX9_triangles_44 (by decide) ?_
      refine jt_iadd C dX9_triangles_45 ?_
      refine jt_istore_n (lv' := [(2, _), (0, _), (1, _), (3, _), (4, _)]) C dX9_triangles_46 rfl (by decide) rfl ?_
      refine jt_iinc (v := (1 : Int32)) (lv' := [(4, _), (2, _), (0, _), (1, _), (3, _)]) C dX9_triangles_47 4 rfl (by decide) (by decide) rfl ?_
      refine jt_goto (tgt := 12) C dX9_triangles_50 (by decide) ?_
      cases h
      exact jt_sub [2, 3, 1, 4, 0] rfl (h1 _ rfl _ _ rfl)
    · replace h := jm_ift c31 h
      refine jt_aload_n C dX9_triangles_34 rfl 0 rfl ?_
      refine jt_iload_n C dX9_triangles_35 rfl 3 rfl ?_
      refine jt_iload C dX9_triangles_36 4 rfl ?_
      obtain ⟨x2, ex2, h⟩ := jm_bind h
      refine jt_callVi (As := [_, _]) (rest := [_]) C hr0 rfl dX9_triangles_38 (c_X9_common (jx_l X) k n _ _ _ _ hr0 _ ex2) (k_goodIn (g_RX9_140)) rfl h_X9_common ⟨rfl, rfl, Nat.le_of_ble_eq_true rfl, Nat.le_of_ble_eq_true rfl⟩ rfl rfl (Nat.le_of_ble_eq_true rfl) ?_
      refine jt_goto (tgt := 45) C dX9_triangles_41 (by decide) ?_
      refine jt_iadd C dX9_triangles_45 ?_
      refine jt_istore_n (lv' := [(2, _), (0, _), (1, _), (3, _), (4, _)]) C dX9_triangles_46 rfl (by decide) rfl ?_
      refine jt_iinc (v := (1 : Int32)) (lv' := [(4, _), (2, _), (0, _), (1, _), (3, _)]) C dX9_triangles_47 4 rfl (by decide) (by decide) rfl ?_
      refine jt_goto (tgt := 12) C dX9_triangles_50 (by decide) ?_
      cases h
      exact jt_sub [2, 3, 1, 4, 0] rfl (h1 _ rfl _ _ rfl)
set_option maxHeartbeats 4000000 in
set_option maxRecDepth 100000 in
theorem t_X9_triangles_L4 {X : jm_X} {k : jm_C} (C : jm_Cx X k cX9_triangles 5 RX9 w_X9_triangles) (n : Nat) (r0 : Nat) (v1 : Int32) (M : jm_M) (hr0 : jm_is r0 (3, 8)) : ∀ (m : Nat) (s : Int32 × Int32) (r : Int32), jm_loop (X9_triangles_B4 n r0 v1 M) m s = some r → jm_T X { frames := 2, cells := 0, slots := 0, locals := 80 } k 5 M 59 [(2, .int r)] [] → (∀ (b0 : Int32) (b1 : Int32), s = (b0, b1) → jm_T X { frames := 2, cells := 0, slots := 0, locals := 80 } k 5 M 4 [(0, .ref (jm_ad k r0)), (1, .int v1), (2, .int b0), (3, .int b1)] []) := by
  refine jm_loop_ind (P := fun (s : Int32 × Int32) => (∀ (b0 : Int32) (b1 : Int32), s = (b0, b1) → jm_T X { frames := 2, cells := 0, slots := 0, locals := 80 } k 5 M 4 [(0, .ref (jm_ad k r0)), (1, .int v1), (2, .int b0), (3, .int b1)] [])) (K := fun (r : Int32) => jm_T X { frames := 2, cells := 0, slots := 0, locals := 80 } k 5 M 59 [(2, .int r)] []) ?_
  intro s q h h1 h2
  intro b0 b1 hs
  subst hs
  unfold X9_triangles_B4 at h
  try dsimp only at h
  refine jt_iload_n C dX9_triangles_4 rfl 3 rfl ?_
  refine jt_iload_n C dX9_triangles_5 rfl 1 rfl ?_
  refine jt_icmp_ge (tgt := 59) C dX9_triangles_6 (by decide) (fun c6 => ?_) (fun c6 => ?_)
  · replace h := jm_ift c6 h
    cases h
    exact jt_sub [2] rfl (h2 _ rfl)
  · replace h := jm_iff c6 h
    refine jt_iconst (v := (0 : Int32)) C dX9_triangles_9 (by decide) ?_
    refine jt_istore (lv' := [(4, _), (0, _), (1, _), (2, _), (3, _)]) C dX9_triangles_10 (by decide) rfl ?_
    obtain ⟨q3, eq3, h⟩ := jm_bind h
    refine jt_sub [1, 2, 3, 4, 0] rfl ?_
    refine t_X9_triangles_L12 C n _ _ _ _ hr0 n _ _ eq3 ?_ _ _ rfl
    refine jt_iinc (v := (1 : Int32)) (lv' := [(3, _), (0, _), (1, _), (2, _)]) C dX9_triangles_53 3 rfl (by decide) (by decide) rfl ?_
    refine jt_goto (tgt := 4) C dX9_triangles_56 (by decide) ?_
    cases h
    exact jt_sub [1, 2, 3, 0] rfl (h1 _ rfl _ _ rfl)
set_option maxHeartbeats 4000000 in
set_option maxRecDepth 100000 in
theorem c_X9_triangles (l : Launch) (k : jm_C) (n : Nat) (r0 : Nat) (v1 : Int32) (M : jm_M) (hr0 : jm_is r0 (3, 8)) (q : Int32) (h : X9_triangles n r0 v1 M = some q) : jm_Ci l k yX9_triangles w_X9_triangles { frames := 2, cells := 0, slots := 0, locals := 80 } [.ref (jm_ad k r0), .int v1] M q M := by
  refine jm_entry_i (cc := cX9_triangles) (nL := 5) (ret := (some .int)) (by decide) rfl (Nat.le_of_ble_eq_true rfl) ?_
  intro X hX C hQ hr
  subst hX
  unfold X9_triangles at h
  refine jt_iconst (v := (0 : Int32)) C dX9_triangles_0 (by decide) ?_
  refine jt_istore_n (lv' := [(2, _), (0, _), (1, _)]) C dX9_triangles_1 rfl (by decide) rfl ?_
  refine jt_iconst (v := (0 : Int32)) C dX9_triangles_2 (by decide) ?_
  refine jt_istore_n (lv' := [(3, _), (2, _), (0, _), (1, _)]) C dX9_triangles_3 rfl (by decide) rfl ?_
  obtain ⟨q4, eq4, h⟩ := jm_bind h
  refine jt_sub [2, 3, 1, 0] rfl ?_
  refine t_X9_triangles_L4 C n _ _ _ hr0 n _ _ eq4 ?_ _ _ rfl
  refine jt_iload_n C dX9_triangles_59 rfl 0 rfl ?_
  refine jt_iconst (v := (3 : Int32)) C dX9_triangles_60 (by decide) ?_
  refine jt_idiv C dX9_triangles_61 (if_neg (by decide)) ?_
  cases h
  exact jt_iret C dX9_triangles_62 hQ hr
theorem h_X9_ofVertex : yX9_ofVertex.cls = RX9 ∧ yX9_ofVertex.cls ≠ "java/lang/invoke/MethodHandle" ∧ yX9_ofVertex.cls ≠ "java/lang/invoke/VarHandle" ∧ (parseMethodDescriptor yX9_ofVertex.desc).map (fun d => d.parameters.length) = some 3 := by decide +kernel
set_option maxHeartbeats 4000000 in
set_option maxRecDepth 100000 in
theorem t_X9_ofVertex_L49 {X : jm_X} {k : jm_C} (C : jm_Cx X k cX9_ofVertex 7 RX9 w_X9_ofVertex) (n : Nat) (r0 : Nat) (v1 : Int32) (v2 : Int32) (v4 : Int32) (M : jm_M) (hr0 : jm_is r0 (3, 8)) : ∀ (m : Nat) (s : Int32 × Int32) (r : Int32), jm_loop (X9_ofVertex_B49 n r0 v1 v2 v4 M) m s = some r → jm_T X { frames := 2, cells := 0, slots := 0, locals := 80 } k 7 M 92 [(4, .int v4), (5, .int r)] [] → (∀ (b0 : Int32) (b1 : Int32), s = (b0, b1) → jm_T X { frames := 2, cells := 0, slots := 0, locals := 80 } k 7 M 49 [(0, .ref (jm_ad k r0)), (1, .int v1), (2, .int v2), (4, .int v4), (5, .int b0), (6, .int b1)] []) := by
  refine jm_loop_ind (P := fun (s : Int32 × Int32) => (∀ (b0 : Int32) (b1 : Int32), s = (b0, b1) → jm_T X { frames := 2, cells := 0, slots := 0, locals := 80 } k 7 M 49 [(0, .ref (jm_ad k r0)), (1, .int v1), (2, .int v2), (4, .int v4), (5, .int b0), (6, .int b1)] [])) (K := fun (r : Int32) => jm_T X { frames := 2, cells := 0, slots := 0, locals := 80 } k 7 M 92 [(4, .int v4), (5, .int r)] []) ?_
  intro s q h h1 h2
  intro b0 b1 hs
  subst hs
  unfold X9_ofVertex_B49 at h
  try dsimp only at h
  refine jt_iload C dX9_ofVertex_49 5 rfl ?_
  refine jt_iload_n C dX9_ofVertex_51 rfl 1 rfl ?_
  refine jt_icmp_ge (tgt := 92) C dX9_ofVertex_52 (by decide) (fun c52 => ?_) (fun c52 => ?_)
  · replace h := jm_ift c52 h
    cases h
    exact jt_sub [3, 4] rfl (h2 _ rfl)
  · replace h := jm_iff c52 h
    refine jt_iload C dX9_ofVertex_55 4 rfl ?_
    refine jt_aload_n C dX9_ofVertex_57 rfl 0 rfl ?_
    refine jt_getR (Tf := TX9) (N := 17) C dX9_ofVertex_58 hr0 rfl i_9 3 (by decide) rfl m_RX9_16 rfl ?_
    refine jt_iload_n C dX9_ofVertex_61 rfl 2 rfl ?_
    obtain ⟨x3, ex3, h⟩ := jm_bind h
    refine jt_iald C dX9_ofVertex_62 (jm_f8_3 hr0) ex3 ?_
    refine jt_iload C dX9_ofVertex_63 5 rfl ?_
    refine jt_ishr C dX9_ofVertex_65 ?_
    refine jt_iconst (v := (1 : Int32)) C dX9_ofVertex_66 (by decide) ?_
    refine jt_iand C dX9_ofVertex_67 ?_
    refine jt_iconst (v := (1 : Int32)) C dX9_ofVertex_68 (by decide) ?_
    refine jt_icmp_ne (tgt := 82) C dX9_ofVertex_69 (by decide) (fun c69 => ?_) (fun c69 => ?_)
    · replace h := jm_iff c69 h
      refine jt_iconst (v := (0 : Int32)) C dX9_ofVertex_82 (by decide) ?_
      refine jt_iadd C dX9_ofVertex_83 ?_
      refine jt_istore (lv' := [(5, _), (0, _), (1, _), (2, _), (4, _), (6, _)]) C dX9_ofVertex_84 (by decide) rfl ?_
      refine jt_iinc (v := (1 : Int32)) (lv' := [(6, _), (5, _), (0, _), (1, _), (2, _), (4, _)]) C dX9_ofVertex_86 5 rfl (by decide) (by decide) rfl ?_
      refine jt_goto (tgt := 49) C dX9_ofVertex_89 (by decide) ?_
      cases h
      exact jt_sub [2, 3, 4, 5, 1, 0] rfl (h1 _ rfl _ _ rfl)
    · replace h := jm_ift c69 h
      refine jt_aload_n C dX9_ofVertex_72 rfl 0 rfl ?_
      refine jt_iload C dX9_ofVertex_73 5 rfl ?_
      refine jt_iload_n C dX9_ofVertex_75 rfl 2 rfl ?_
      obtain ⟨x4, ex4, h⟩ := jm_bind h
      refine jt_callVi (As := [_, _]) (rest := [_]) C hr0 rfl dX9_ofVertex_76 (c_X9_common (jx_l X) k n _ _ _ _ hr0 _ ex4) (k_goodIn (g_RX9_140)) rfl h_X9_common ⟨rfl, rfl, Nat.le_of_ble_eq_true rfl, Nat.le_of_ble_eq_true rfl⟩ rfl rfl (Nat.le_of_ble_eq_true rfl) ?_
      refine jt_goto (tgt := 83) C dX9_ofVertex_79 (by decide) ?_
      refine jt_iadd C dX9_ofVertex_83 ?_
      refine jt_istore (lv' := [(5, _), (0, _), (1, _), (2, _), (4, _), (6, _)]) C dX9_ofVertex_84 (by decide) rfl ?_
      refine jt_iinc (v := (1 : Int32)) (lv' := [(6, _), (5, _), (0, _), (1, _), (2, _), (4, _)]) C dX9_ofVertex_86 5 rfl (by decide) (by decide) rfl ?_
      refine jt_goto (tgt := 49) C dX9_ofVertex_89 (by decide) ?_
      cases h
      exact jt_sub [2, 3, 4, 5, 1, 0] rfl (h1 _ rfl _ _ rfl)
set_option maxHeartbeats 4000000 in
set_option maxRecDepth 100000 in
theorem c_X9_ofVertex (l : Launch) (k : jm_C) (n : Nat) (r0 : Nat) (v1 : Int32) (v2 : Int32) (v3 : Int32) (M : jm_M) (hr0 : jm_is r0 (3, 8)) (q : Int32) (h : X9_ofVertex n r0 v1 v2 v3 M = some q) : jm_Ci l k yX9_ofVertex w_X9_ofVertex { frames := 2, cells := 0, slots := 0, locals := 80 } [.ref (jm_ad k r0), .int v1, .int v2, .int v3] M q M := by
  refine jm_entry_i (cc := cX9_ofVertex) (nL := 7) (ret := (some .int)) (by decide) rfl (Nat.le_of_ble_eq_true rfl) ?_
  intro X hX C hQ hr
  subst hX
  unfold X9_ofVertex at h
  refine jt_aload_n C dX9_ofVertex_0 rfl 0 rfl ?_
  refine jt_getR (Tf := TX9) (N := 17) C dX9_ofVertex_1 hr0 rfl i_9 3 (by decide) rfl m_RX9_16 rfl ?_
  refine jt_iload_n C dX9_ofVertex_4 rfl 2 rfl ?_
  obtain ⟨x1, ex1, h⟩ := jm_bind h
  refine jt_iald C dX9_ofVertex_5 (jm_f8_3 hr0) ex1 ?_
  obtain ⟨x2, ex2, h⟩ := jm_bind h
  refine jt_callSi (As := [_]) (rest := []) C dX9_ofVertex_6 (c_X9_bits (jx_l X) k n _ _ _ ex2) (k_goodIn (g_RX9_118)) rfl h_X9_bits ⟨rfl, rfl, Nat.le_of_ble_eq_true rfl, Nat.le_of_ble_eq_true rfl⟩ rfl rfl (Nat.le_of_ble_eq_true rfl) ?_
  refine jt_istore (lv' := [(4, _), (0, _), (1, _), (2, _), (3, _)]) C dX9_ofVertex_9 (by decide) rfl ?_
  refine jt_iload_n C dX9_ofVertex_11 rfl 4 rfl ?_
  refine jt_iconst (v := (1 : Int32)) C dX9_ofVertex_12 (by decide) ?_
  refine jt_icmp_ne (tgt := 22) C dX9_ofVertex_13 (by decide) (fun c13 => ?_) (fun c13 => ?_)
  · replace h := jm_iff c13 h
    refine jt_iload_n C dX9_ofVertex_22 rfl 4 rfl ?_
    refine jt_iconst (v := (3 : Int32)) C dX9_ofVertex_23 (by decide) ?_
    refine jt_icmp_ne (tgt := 43) C dX9_ofVertex_24 (by decide) (fun c24 => ?_) (fun c24 => ?_)
    · replace h := jm_iff c24 h
      refine jt_iconst (v := (0 : Int32)) C dX9_ofVertex_43 (by decide) ?_
      refine jt_istore (lv' := [(5, _), (4, _), (0, _), (1, _), (2, _), (3, _)]) C dX9_ofVertex_44 (by decide) rfl ?_
      refine jt_iconst (v := (0 : Int32)) C dX9_ofVertex_46 (by decide) ?_
      refine jt_istore (lv' := [(6, _), (5, _), (4, _), (0, _), (1, _), (2, _), (3, _)]) C dX9_ofVertex_47 (by decide) rfl ?_
      obtain ⟨q5, eq5, h⟩ := jm_bind h
      refine jt_sub [3, 4, 5, 2, 1, 0] rfl ?_
      refine t_X9_ofVertex_L49 C n _ _ _ _ _ hr0 n _ _ eq5 ?_ _ _ rfl
      refine jt_iload C dX9_ofVertex_92 1 rfl ?_
      refine jt_iconst (v := (2 : Int32)) C dX9_ofVertex_94 (by decide) ?_
      refine jt_idiv C dX9_ofVertex_95 (if_neg (by decide)) ?_
      refine jt_iload C dX9_ofVertex_96 0 rfl ?_
      refine jt_iconst (v := (2 : Int32)) C dX9_ofVertex_98 (by decide) ?_
      refine jt_isub C dX9_ofVertex_99 ?_
      refine jt_imul C dX9_ofVertex_100 ?_
      cases h
      exact jt_iret C dX9_ofVertex_101 hQ hr
    · replace h := jm_ift c24 h
      refine jt_iload C dX9_ofVertex_27 0 rfl ?_
      refine jt_iload C dX9_ofVertex_29 0 rfl ?_
      refine jt_iconst (v := (1 : Int32)) C dX9_ofVertex_31 (by decide) ?_
      refine jt_isub C dX9_ofVertex_32 ?_
      refine jt_imul C dX9_ofVertex_33 ?_
      refine jt_iload C dX9_ofVertex_34 0 rfl ?_
      refine jt_iconst (v := (2 : Int32)) C dX9_ofVertex_36 (by decide) ?_
      refine jt_isub C dX9_ofVertex_37 ?_
      refine jt_imul C dX9_ofVertex_38 ?_
      refine jt_bipush (v := (6 : Int32)) C dX9_ofVertex_39 (by decide) ?_
      refine jt_idiv C dX9_ofVertex_41 (if_neg (by decide)) ?_
      cases h
      exact jt_iret C dX9_ofVertex_42 hQ hr
  · replace h := jm_ift c13 h
    refine jt_iload C dX9_ofVertex_16 0 rfl ?_
    refine jt_callSi (As := [_]) (rest := []) C dX9_ofVertex_18 (c_X9_two (jx_l X) k _ _ _ rfl) (k_goodIn (g_RX9_143)) rfl h_X9_two ⟨rfl, rfl, Nat.le_of_ble_eq_true rfl, Nat.le_of_ble_eq_true rfl⟩ rfl rfl (Nat.le_of_ble_eq_true rfl) ?_
    cases h
    exact jt_iret C dX9_ofVertex_21 hQ hr
theorem h_X9_insideOf : yX9_insideOf.cls = RX9 ∧ yX9_insideOf.cls ≠ "java/lang/invoke/MethodHandle" ∧ yX9_insideOf.cls ≠ "java/lang/invoke/VarHandle" ∧ (parseMethodDescriptor yX9_insideOf.desc).map (fun d => d.parameters.length) = some 1 := by decide +kernel
set_option maxHeartbeats 4000000 in
set_option maxRecDepth 100000 in
theorem t_X9_insideOf_L4 {X : jm_X} {k : jm_C} (C : jm_Cx X k cX9_insideOf 4 RX9 w_X9_insideOf) (n : Nat) (r0 : Nat) (v1 : Int32) (M : jm_M) (hr0 : jm_is r0 (3, 8)) : ∀ (m : Nat) (s : Int32 × Int32) (r : Int32), jm_loop (X9_insideOf_B4 n r0 v1 M) m s = some r → jm_T X { frames := 1, cells := 0, slots := 0, locals := 40 } k 4 M 43 [(2, .int r)] [] → (∀ (b0 : Int32) (b1 : Int32), s = (b0, b1) → jm_T X { frames := 1, cells := 0, slots := 0, locals := 40 } k 4 M 4 [(0, .ref (jm_ad k r0)), (1, .int v1), (2, .int b0), (3, .int b1)] []) := by
  refine jm_loop_ind (P := fun (s : Int32 × Int32) => (∀ (b0 : Int32) (b1 : Int32), s = (b0, b1) → jm_T X { frames := 1, cells := 0, slots := 0, locals := 40 } k 4 M 4 [(0, .ref (jm_ad k r0)), (1, .int v1), (2, .int b0), (3, .int b1)] [])) (K := fun (r : Int32) => jm_T X { frames := 1, cells := 0, slots := 0, locals := 40 } k 4 M 43 [(2, .int r)] []) ?_
  intro s q h h1 h2
  intro b0 b1 hs
  subst hs
  unfold X9_insideOf_B4 at h
  try dsimp only at h
  refine jt_iload_n C dX9_insideOf_4 rfl 3 rfl ?_
  refine jt_bipush (v := (8 : Int32)) C dX9_insideOf_5 (by decide) ?_
  refine jt_icmp_ge (tgt := 43) C dX9_insideOf_7 (by decide) (fun c7 => ?_) (fun c7 => ?_)
  · replace h := jm_ift c7 h
    cases h
    exact jt_sub [2] rfl (h2 _ rfl)
  · replace h := jm_iff c7 h
    refine jt_iload_n C dX9_insideOf_10 rfl 2 rfl ?_
    refine jt_iload_n C dX9_insideOf_11 rfl 1 rfl ?_
    refine jt_iload_n C dX9_insideOf_12 rfl 3 rfl ?_
    refine jt_ishr C dX9_insideOf_13 ?_
    refine jt_iconst (v := (1 : Int32)) C dX9_insideOf_14 (by decide) ?_
    refine jt_iand C dX9_insideOf_15 ?_
    refine jt_iconst (v := (1 : Int32)) C dX9_insideOf_16 (by decide) ?_
    refine jt_icmp_ne (tgt := 34) C dX9_insideOf_17 (by decide) (fun c17 => ?_) (fun c17 => ?_)
    · replace h := jm_iff c17 h
      refine jt_iconst (v := (0 : Int32)) C dX9_insideOf_34 (by decide) ?_
      refine jt_iadd C dX9_insideOf_35 ?_
      refine jt_istore_n (lv' := [(2, _), (0, _), (1, _), (3, _)]) C dX9_insideOf_36 rfl (by decide) rfl ?_
      refine jt_iinc (v := (1 : Int32)) (lv' := [(3, _), (2, _), (0, _), (1, _)]) C dX9_insideOf_37 3 rfl (by decide) (by decide) rfl ?_
      refine jt_goto (tgt := 4) C dX9_insideOf_40 (by decide) ?_
      cases h
      exact jt_sub [2, 3, 1, 0] rfl (h1 _ rfl _ _ rfl)
    · replace h := jm_ift c17 h
      refine jt_aload_n C dX9_insideOf_20 rfl 0 rfl ?_
      refine jt_getR (Tf := TX9) (N := 17) C dX9_insideOf_21 hr0 rfl i_9 3 (by decide) rfl m_RX9_16 rfl ?_
      refine jt_iload_n C dX9_insideOf_24 rfl 3 rfl ?_
      obtain ⟨x1, ex1, h⟩ := jm_bind h
      refine jt_iald C dX9_insideOf_25 (jm_f8_3 hr0) ex1 ?_
      refine jt_iload_n C dX9_insideOf_26 rfl 1 rfl ?_
      refine jt_iand C dX9_insideOf_27 ?_
      obtain ⟨x2, ex2, h⟩ := jm_bind h
      refine jt_callSi (As := [_]) (rest := [_]) C dX9_insideOf_28 (c_X9_bits (jx_l X) k n _ _ _ ex2) (k_goodIn (g_RX9_118)) rfl h_X9_bits ⟨rfl, rfl, Nat.le_of_ble_eq_true rfl, Nat.le_of_ble_eq_true rfl⟩ rfl rfl (Nat.le_of_ble_eq_true rfl) ?_
      refine jt_goto (tgt := 35) C dX9_insideOf_31 (by decide) ?_
      refine jt_iadd C dX9_insideOf_35 ?_
      refine jt_istore_n (lv' := [(2, _), (0, _), (1, _), (3, _)]) C dX9_insideOf_36 rfl (by decide) rfl ?_
      refine jt_iinc (v := (1 : Int32)) (lv' := [(3, _), (2, _), (0, _), (1, _)]) C dX9_insideOf_37 3 rfl (by decide) (by decide) rfl ?_
      refine jt_goto (tgt := 4) C dX9_insideOf_40 (by decide) ?_
      cases h
      exact jt_sub [2, 3, 1, 0] rfl (h1 _ rfl _ _ rfl)
set_option maxHeartbeats 4000000 in
set_option maxRecDepth 100000 in
theorem c_X9_insideOf (l : Launch) (k : jm_C) (n : Nat) (r0 : Nat) (v1 : Int32) (M : jm_M) (hr0 : jm_is r0 (3, 8)) (q : Int32) (h : X9_insideOf n r0 v1 M = some q) : jm_Ci l k yX9_insideOf w_X9_insideOf { frames := 1, cells := 0, slots := 0, locals := 40 } [.ref (jm_ad k r0), .int v1] M q M := by
  refine jm_entry_i (cc := cX9_insideOf) (nL := 4) (ret := (some .int)) (by decide) rfl (Nat.le_of_ble_eq_true rfl) ?_
  intro X hX C hQ hr
  subst hX
  unfold X9_insideOf at h
  refine jt_iconst (v := (0 : Int32)) C dX9_insideOf_0 (by decide) ?_
  refine jt_istore_n (lv' := [(2, _), (0, _), (1, _)]) C dX9_insideOf_1 rfl (by decide) rfl ?_
  refine jt_iconst (v := (0 : Int32)) C dX9_insideOf_2 (by decide) ?_
  refine jt_istore_n (lv' := [(3, _), (2, _), (0, _), (1, _)]) C dX9_insideOf_3 rfl (by decide) rfl ?_
  obtain ⟨q3, eq3, h⟩ := jm_bind h
  refine jt_sub [2, 3, 1, 0] rfl ?_
  refine t_X9_insideOf_L4 C n _ _ _ hr0 n _ _ eq3 ?_ _ _ rfl
  refine jt_iload_n C dX9_insideOf_43 rfl 0 rfl ?_
  refine jt_iconst (v := (2 : Int32)) C dX9_insideOf_44 (by decide) ?_
  refine jt_idiv C dX9_insideOf_45 (if_neg (by decide)) ?_
  cases h
  exact jt_iret C dX9_insideOf_46 hQ hr
theorem h_X9_ofPair : yX9_ofPair.cls = RX9 ∧ yX9_ofPair.cls ≠ "java/lang/invoke/MethodHandle" ∧ yX9_ofPair.cls ≠ "java/lang/invoke/VarHandle" ∧ (parseMethodDescriptor yX9_ofPair.desc).map (fun d => d.parameters.length) = some 3 := by decide +kernel
set_option maxHeartbeats 4000000 in
set_option maxRecDepth 100000 in
theorem c_X9_ofPair (l : Launch) (k : jm_C) (n : Nat) (r0 : Nat) (v1 : Int32) (v2 : Int32) (v3 : Int32) (M : jm_M) (hr0 : jm_is r0 (3, 8)) (q : Int32) (h : X9_ofPair n r0 v1 v2 v3 M = some q) : jm_Ci l k yX9_ofPair w_X9_ofPair { frames := 2, cells := 0, slots := 0, locals := 80 } [.ref (jm_ad k r0), .int v1, .int v2, .int v3] M q M := by
  refine jm_entry_i (cc := cX9_ofPair) (nL := 5) (ret := (some .int)) (by decide) rfl (Nat.le_of_ble_eq_true rfl) ?_
  intro X hX C hQ hr
  subst hX
  unfold X9_ofPair at h
  refine jt_aload_n C dX9_ofPair_0 rfl 0 rfl ?_
  refine jt_iload_n C dX9_ofPair_1 rfl 1 rfl ?_
  refine jt_iload_n C dX9_ofPair_2 rfl 2 rfl ?_
  obtain ⟨x1, ex1, h⟩ := jm_bind h
  refine jt_callVi (As := [_, _]) (rest := []) C hr0 rfl dX9_ofPair_3 (c_X9_common (jx_l X) k n _ _ _ _ hr0 _ ex1) (k_goodIn (g_RX9_140)) rfl h_X9_common ⟨rfl, rfl, Nat.le_of_ble_eq_true rfl, Nat.le_of_ble_eq_true rfl⟩ rfl rfl (Nat.le_of_ble_eq_true rfl) ?_
  refine jt_istore (lv' := [(4, _), (0, _), (1, _), (2, _), (3, _)]) C dX9_ofPair_6 (by decide) rfl ?_
  refine jt_iload_n C dX9_ofPair_8 rfl 4 rfl ?_
  refine jt_iconst (v := (5 : Int32)) C dX9_ofPair_9 (by decide) ?_
  refine jt_icmp_ne (tgt := 19) C dX9_ofPair_10 (by decide) (fun c10 => ?_) (fun c10 => ?_)
  · replace h := jm_iff c10 h
    refine jt_aload_n C dX9_ofPair_19 rfl 1 rfl ?_
    refine jt_getR (Tf := TX9) (N := 17) C dX9_ofPair_20 hr0 rfl i_9 3 (by decide) rfl m_RX9_16 rfl ?_
    refine jt_iload_n C dX9_ofPair_23 rfl 2 rfl ?_
    obtain ⟨x2, ex2, h⟩ := jm_bind h
    refine jt_iald C dX9_ofPair_24 (jm_f8_3 hr0) ex2 ?_
    refine jt_iload_n C dX9_ofPair_25 rfl 3 rfl ?_
    refine jt_ishr C dX9_ofPair_26 ?_
    refine jt_iconst (v := (1 : Int32)) C dX9_ofPair_27 (by decide) ?_
    refine jt_iand C dX9_ofPair_28 ?_
    refine jt_if_ne (tgt := 34) C dX9_ofPair_29 (by decide) (fun c29 => ?_) (fun c29 => ?_)
    · replace h := jm_iff c29 h
      refine jt_iload_n C dX9_ofPair_34 rfl 4 rfl ?_
      refine jt_iconst (v := (4 : Int32)) C dX9_ofPair_35 (by decide) ?_
      refine jt_icmp_ne (tgt := 63) C dX9_ofPair_36 (by decide) (fun c36 => ?_) (fun c36 => ?_)
      · replace h := jm_iff c36 h
        refine jt_iload_n C dX9_ofPair_63 rfl 4 rfl ?_
        refine jt_bipush (v := (7 : Int32)) C dX9_ofPair_64 (by decide) ?_
        refine jt_icmp_ne (tgt := 77) C dX9_ofPair_66 (by decide) (fun c66 => ?_) (fun c66 => ?_)
        · replace h := jm_iff c66 h
          refine jt_aload_n C dX9_ofPair_77 rfl 1 rfl ?_
          refine jt_aload_n C dX9_ofPair_78 rfl 1 rfl ?_
          refine jt_getR (Tf := TX9) (N := 17) C dX9_ofPair_79 hr0 rfl i_9 3 (by decide) rfl m_RX9_16 rfl ?_
          refine jt_iload_n C dX9_ofPair_82 rfl 2 rfl ?_
          obtain ⟨x3, ex3, h⟩ := jm_bind h
          refine jt_iald C dX9_ofPair_83 (jm_f8_3 hr0) ex3 ?_
          refine jt_aload_n C dX9_ofPair_84 rfl 1 rfl ?_
          refine jt_getR (Tf := TX9) (N := 17) C dX9_ofPair_85 hr0 rfl i_9 3 (by decide) rfl m_RX9_16 rfl ?_
          refine jt_iload_n C dX9_ofPair_88 rfl 3 rfl ?_
          obtain ⟨x4, ex4, h⟩ := jm_bind h
          refine jt_iald C dX9_ofPair_89 (jm_f8_3 hr0) ex4 ?_
          refine jt_iand C dX9_ofPair_90 ?_
          obtain ⟨x5, ex5, h⟩ := jm_bind h
          refine jt_callVi (As := [_]) (rest := []) C hr0 rfl dX9_ofPair_91 (c_X9_insideOf (jx_l X) k n _ _ _ hr0 _ ex5) (k_goodIn (g_RX9_146)) rfl h_X9_insideOf ⟨rfl, rfl, Nat.le_of_ble_eq_true rfl, Nat.le_of_ble_eq_true rfl⟩ rfl rfl (Nat.le_of_ble_eq_true rfl) ?_
          cases h
          exact jt_iret C dX9_ofPair_94 hQ hr
        · replace h := jm_ift c66 h
          refine jt_iload C dX9_ofPair_69 0 rfl ?_
          refine jt_callSi (As := [_]) (rest := []) C dX9_ofPair_71 (c_X9_two (jx_l X) k _ _ _ rfl) (k_goodIn (g_RX9_143)) rfl h_X9_two ⟨rfl, rfl, Nat.le_of_ble_eq_true rfl, Nat.le_of_ble_eq_true rfl⟩ rfl rfl (Nat.le_of_ble_eq_true rfl) ?_
          refine jt_goto (tgt := 94) C dX9_ofPair_74 (by decide) ?_
          cases h
          exact jt_iret C dX9_ofPair_94 hQ hr
      · replace h := jm_ift c36 h
        refine jt_aload_n C dX9_ofPair_39 rfl 1 rfl ?_
        refine jt_getR (Tf := TX9) (N := 17) C dX9_ofPair_40 hr0 rfl i_9 3 (by decide) rfl m_RX9_16 rfl ?_
        refine jt_iload_n C dX9_ofPair_43 rfl 2 rfl ?_
        obtain ⟨x6, ex6, h⟩ := jm_bind h
        refine jt_iald C dX9_ofPair_44 (jm_f8_3 hr0) ex6 ?_
        obtain ⟨x7, ex7, h⟩ := jm_bind h
        refine jt_callSi (As := [_]) (rest := []) C dX9_ofPair_45 (c_X9_bits (jx_l X) k n _ _ _ ex7) (k_goodIn (g_RX9_118)) rfl h_X9_bits ⟨rfl, rfl, Nat.le_of_ble_eq_true rfl, Nat.le_of_ble_eq_true rfl⟩ rfl rfl (Nat.le_of_ble_eq_true rfl) ?_
        refine jt_iconst (v := (1 : Int32)) C dX9_ofPair_48 (by decide) ?_
        refine jt_isub C dX9_ofPair_49 ?_
        refine jt_aload_n C dX9_ofPair_50 rfl 1 rfl ?_
        refine jt_getR (Tf := TX9) (N := 17) C dX9_ofPair_51 hr0 rfl i_9 3 (by decide) rfl m_RX9_16 rfl ?_
        refine jt_iload_n C dX9_ofPair_54 rfl 3 rfl ?_
        obtain ⟨x8, ex8, h⟩ := jm_bind h
        refine jt_iald C dX9_ofPair_55 (jm_f8_3 hr0) ex8 ?_
        obtain ⟨x9, ex9, h⟩ := jm_bind h
        refine jt_callSi (As := [_]) (rest := [_]) C dX9_ofPair_56 (c_X9_bits (jx_l X) k n _ _ _ ex9) (k_goodIn (g_RX9_118)) rfl h_X9_bits ⟨rfl, rfl, Nat.le_of_ble_eq_true rfl, Nat.le_of_ble_eq_true rfl⟩ rfl rfl (Nat.le_of_ble_eq_true rfl) ?_
        refine jt_iconst (v := (1 : Int32)) C dX9_ofPair_59 (by decide) ?_
        refine jt_isub C dX9_ofPair_60 ?_
        refine jt_imul C dX9_ofPair_61 ?_
        cases h
        exact jt_iret C dX9_ofPair_62 hQ hr
    · replace h := jm_ift c29 h
      refine jt_iconst (v := (0 : Int32)) C dX9_ofPair_32 (by decide) ?_
      cases h
      exact jt_iret C dX9_ofPair_33 hQ hr
  · replace h := jm_ift c10 h
    refine jt_iload C dX9_ofPair_13 0 rfl ?_
    refine jt_callSi (As := [_]) (rest := []) C dX9_ofPair_15 (c_X9_two (jx_l X) k _ _ _ rfl) (k_goodIn (g_RX9_143)) rfl h_X9_two ⟨rfl, rfl, Nat.le_of_ble_eq_true rfl, Nat.le_of_ble_eq_true rfl⟩ rfl rfl (Nat.le_of_ble_eq_true rfl) ?_
    cases h
    exact jt_iret C dX9_ofPair_18 hQ hr
