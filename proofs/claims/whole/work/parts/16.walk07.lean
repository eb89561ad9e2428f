theorem h_X8_isDeckOfGraph : yX8_isDeckOfGraph.cls = RX8 ∧ yX8_isDeckOfGraph.cls ≠ "java/lang/invoke/MethodHandle" ∧ yX8_isDeckOfGraph.cls ≠ "java/lang/invoke/VarHandle" ∧ (parseMethodDescriptor yX8_isDeckOfGraph.desc).map (fun d => d.parameters.length) = some 0 := by decide +kernel
set_option maxHeartbeats 4000000 in
set_option maxRecDepth 100000 in
theorem c_X8_isDeckOfGraph (l : Launch) (k : jm_C) (n : Nat) (r0 : Nat) (M : jm_M) (hr0 : jm_is r0 (3, 7)) (q1 : Int32) (q2 : jm_M) (h : X8_isDeckOfGraph n r0 M = some (q1, q2)) : jm_Ci l k yX8_isDeckOfGraph w_X8_isDeckOfGraph { frames := 17, cells := 0, slots := 0, locals := 680 } [.ref (jm_ad k r0)] M q1 q2 := by
  refine jm_entry_i (cc := cX8_isDeckOfGraph) (nL := 1) (ret := (some .boolean)) (by decide) rfl (Nat.le_of_ble_eq_true rfl) ?_
  intro X hX C hQ hr
  subst hX
  unfold X8_isDeckOfGraph at h
  refine jt_aload_n C dX8_isDeckOfGraph_0 rfl 0 rfl ?_
  refine jt_getR (Tf := TX8) (N := 8) C dX8_isDeckOfGraph_1 hr0 rfl i_8 0 (by decide) rfl m_RX8_10 rfl ?_
  refine jt_callVi (As := []) (rest := []) C (jm_f7_0 hr0) rfl dX8_isDeckOfGraph_4 (c_X4_size (jx_l X) k _ _ (jm_f7_0 hr0) _ rfl) (k_goodIn (g_RX8_61)) rfl h_X4_size ⟨rfl, rfl, Nat.le_of_ble_eq_true rfl, Nat.le_of_ble_eq_true rfl⟩ rfl rfl (Nat.le_of_ble_eq_true rfl) ?_
  refine jt_aload_n C dX8_isDeckOfGraph_7 rfl 0 rfl ?_
  refine jt_getR (Tf := TX8) (N := 8) C dX8_isDeckOfGraph_8 hr0 rfl i_8 1 (by decide) rfl m_RX8_19 rfl ?_
  refine jt_callVi (As := []) (rest := [_]) C (jm_f7_1 hr0) rfl dX8_isDeckOfGraph_11 (c_X3_h (jx_l X) k _ _ (jm_f7_1 hr0) _ rfl) (k_goodIn (g_RX8_159)) rfl h_X3_h ⟨rfl, rfl, Nat.le_of_ble_eq_true rfl, Nat.le_of_ble_eq_true rfl⟩ rfl rfl (Nat.le_of_ble_eq_true rfl) ?_
  refine jt_icmp_ne (tgt := 27) C dX8_isDeckOfGraph_14 (by decide) (fun c14 => ?_) (fun c14 => ?_)
  · replace h := jm_iff c14 h
    refine jt_iconst (v := (0 : Int32)) C dX8_isDeckOfGraph_27 (by decide) ?_
    cases h
    exact jt_zret C dX8_isDeckOfGraph_28 hQ hr (Or.inl rfl)
  · replace h := jm_ift c14 h
    refine jt_aload_n C dX8_isDeckOfGraph_17 rfl 0 rfl ?_
    refine jt_getR (Tf := TX8) (N := 8) C dX8_isDeckOfGraph_18 hr0 rfl i_8 1 (by decide) rfl m_RX8_19 rfl ?_
    refine jt_callVi (As := []) (rest := []) C (jm_f7_1 hr0) rfl dX8_isDeckOfGraph_21 (c_X3_lost (jx_l X) k _ _ (jm_f7_1 hr0) _ rfl) (k_goodIn (g_RX8_162)) rfl h_X3_lost ⟨rfl, rfl, Nat.le_of_ble_eq_true rfl, Nat.le_of_ble_eq_true rfl⟩ rfl rfl (Nat.le_of_ble_eq_true rfl) ?_
    refine jt_if_eq (tgt := 29) C dX8_isDeckOfGraph_24 (by decide) (fun c24 => ?_) (fun c24 => ?_)
    · replace h := jm_ift c24 h
      refine jt_aload_n C dX8_isDeckOfGraph_29 rfl 0 rfl ?_
      refine jt_getR (Tf := TX8) (N := 8) C dX8_isDeckOfGraph_30 hr0 rfl i_8 7 (by decide) rfl m_RX8_58 rfl ?_
      refine jt_aload_n C dX8_isDeckOfGraph_33 rfl 0 rfl ?_
      refine jt_getR (Tf := TX8) (N := 8) C dX8_isDeckOfGraph_34 hr0 rfl i_8 0 (by decide) rfl m_RX8_10 rfl ?_
      refine jt_aload_n C dX8_isDeckOfGraph_37 rfl 0 rfl ?_
      refine jt_getR (Tf := TX8) (N := 8) C dX8_isDeckOfGraph_38 hr0 rfl i_8 3 (by decide) rfl m_RX8_33 rfl ?_
      obtain ⟨M1, eM1, h⟩ := jm_bind h
      refine jt_callVv (As := [_, _]) (rest := []) C (jm_f7_7 hr0) rfl dX8_isDeckOfGraph_41 (c_X3_fill (jx_l X) k n _ _ _ _ (jm_f7_7 hr0) (jm_f7_0 hr0) (jm_f7_3 hr0) _ eM1) (k_goodIn (g_RX8_155)) rfl h_X3_fill ⟨rfl, rfl, Nat.le_of_ble_eq_true rfl, Nat.le_of_ble_eq_true rfl⟩ rfl rfl (Nat.le_of_ble_eq_true rfl) ?_
      refine jt_aload_n C dX8_isDeckOfGraph_44 rfl 0 rfl ?_
      refine jt_getR (Tf := TX8) (N := 8) C dX8_isDeckOfGraph_45 hr0 rfl i_8 7 (by decide) rfl m_RX8_58 rfl ?_
      refine jt_aload_n C dX8_isDeckOfGraph_48 rfl 0 rfl ?_
      refine jt_getR (Tf := TX8) (N := 8) C dX8_isDeckOfGraph_49 hr0 rfl i_8 1 (by decide) rfl m_RX8_19 rfl ?_
      obtain ⟨x2, ex2, h⟩ := jm_bind h
      refine jt_callVi (As := [_]) (rest := []) C (jm_f7_7 hr0) rfl dX8_isDeckOfGraph_52 (c_X3_contains (jx_l X) k n _ _ _ (jm_f7_7 hr0) (jm_f7_1 hr0) _ ex2) (k_goodIn (g_RX8_225)) rfl h_X3_contains ⟨rfl, rfl, Nat.le_of_ble_eq_true rfl, Nat.le_of_ble_eq_true rfl⟩ rfl rfl (Nat.le_of_ble_eq_true rfl) ?_
      obtain ⟨x3, ex3, h⟩ := jm_bind h
      cases h
      obtain ⟨hz, rfl⟩ := jm_zb_s ex3
      exact jt_zret C dX8_isDeckOfGraph_55 hQ hr hz
    · replace h := jm_iff c24 h
      refine jt_iconst (v := (0 : Int32)) C dX8_isDeckOfGraph_27 (by decide) ?_
      cases h
      exact jt_zret C dX8_isDeckOfGraph_28 hQ hr (Or.inl rfl)
theorem h_X8_deck : yX8_deck.cls = RX8 ∧ yX8_deck.cls ≠ "java/lang/invoke/MethodHandle" ∧ yX8_deck.cls ≠ "java/lang/invoke/VarHandle" ∧ (parseMethodDescriptor yX8_deck.desc).map (fun d => d.parameters.length) = some 1 := by decide +kernel
set_option maxHeartbeats 4000000 in
set_option maxRecDepth 100000 in
theorem c_X8_deck (l : Launch) (k : jm_C) (n : Nat) (r0 : Nat) (v1 : Int32) (M : jm_M) (hr0 : jm_is r0 (3, 7)) (q1 : Int32) (q2 : jm_M) (h : X8_deck n r0 v1 M = some (q1, q2)) : jm_Ci l k yX8_deck w_X8_deck { frames := 19, cells := 0, slots := 0, locals := 760 } [.ref (jm_ad k r0), .int v1] M q1 q2 := by
  refine jm_entry_i (cc := cX8_deck) (nL := 2) (ret := (some .int)) (by decide) rfl (Nat.le_of_ble_eq_true rfl) ?_
  intro X hX C hQ hr
  subst hX
  unfold X8_deck at h
  refine jt_iload_n C dX8_deck_0 rfl 1 rfl ?_
  refine jt_bipush (v := (6 : Int32)) C dX8_deck_1 (by decide) ?_
  refine jt_icmp_eq (tgt := 12) C dX8_deck_3 (by decide) (fun c3 => ?_) (fun c3 => ?_)
  · replace h := jm_ift c3 h
    refine jt_aload_n C dX8_deck_12 rfl 0 rfl ?_
    refine jt_getR (Tf := TX8) (N := 8) C dX8_deck_13 hr0 rfl i_8 1 (by decide) rfl m_RX8_19 rfl ?_
    refine jt_callVi (As := []) (rest := []) C (jm_f7_1 hr0) rfl dX8_deck_16 (c_X3_size (jx_l X) k _ _ (jm_f7_1 hr0) _ rfl) (k_goodIn (g_RX8_150)) rfl h_X3_size ⟨rfl, rfl, Nat.le_of_ble_eq_true rfl, Nat.le_of_ble_eq_true rfl⟩ rfl rfl (Nat.le_of_ble_eq_true rfl) ?_
    refine jt_if_ne (tgt := 25) C dX8_deck_19 (by decide) (fun c19 => ?_) (fun c19 => ?_)
    · replace h := jm_iff c19 h
      refine jt_iload_n C dX8_deck_25 rfl 1 rfl ?_
      by_cases c26_0 : v1 = (0 : Int32)
      · replace h := jm_ift c26_0 h
        refine jt_tblIn (v := 0) (tgt := 76) C dX8_deck_26 c26_0 (by decide) (by decide) rfl (by decide) ?_
        refine jt_aload_n C dX8_deck_76 rfl 0 rfl ?_
        refine jt_getR (Tf := TX8) (N := 8) C dX8_deck_77 hr0 rfl i_8 1 (by decide) rfl m_RX8_19 rfl ?_
        refine jt_callVi (As := []) (rest := []) C (jm_f7_1 hr0) rfl dX8_deck_80 (c_X3_h (jx_l X) k _ _ (jm_f7_1 hr0) _ rfl) (k_goodIn (g_RX8_159)) rfl h_X3_h ⟨rfl, rfl, Nat.le_of_ble_eq_true rfl, Nat.le_of_ble_eq_true rfl⟩ rfl rfl (Nat.le_of_ble_eq_true rfl) ?_
        cases h
        exact jt_iret C dX8_deck_83 hQ hr
      replace h := jm_iff c26_0 h
      by_cases c26_1 : v1 = (1 : Int32)
      · replace h := jm_ift c26_1 h
        refine jt_tblIn (v := 1) (tgt := 84) C dX8_deck_26 c26_1 (by decide) (by decide) rfl (by decide) ?_
        refine jt_aload_n C dX8_deck_84 rfl 0 rfl ?_
        refine jt_getR (Tf := TX8) (N := 8) C dX8_deck_85 hr0 rfl i_8 1 (by decide) rfl m_RX8_19 rfl ?_
        refine jt_callVi (As := []) (rest := []) C (jm_f7_1 hr0) rfl dX8_deck_88 (c_X3_size (jx_l X) k _ _ (jm_f7_1 hr0) _ rfl) (k_goodIn (g_RX8_150)) rfl h_X3_size ⟨rfl, rfl, Nat.le_of_ble_eq_true rfl, Nat.le_of_ble_eq_true rfl⟩ rfl rfl (Nat.le_of_ble_eq_true rfl) ?_
        cases h
        exact jt_iret C dX8_deck_91 hQ hr
      replace h := jm_iff c26_1 h
      by_cases c26_2 : v1 = (2 : Int32)
      · replace h := jm_ift c26_2 h
        refine jt_tblIn (v := 2) (tgt := 92) C dX8_deck_26 c26_2 (by decide) (by decide) rfl (by decide) ?_
        refine jt_aload_n C dX8_deck_92 rfl 0 rfl ?_
        refine jt_getR (Tf := TX8) (N := 8) C dX8_deck_93 hr0 rfl i_8 1 (by decide) rfl m_RX8_19 rfl ?_
        obtain ⟨x1, ex1, h⟩ := jm_bind h
        refine jt_callVi (As := []) (rest := []) C (jm_f7_1 hr0) rfl dX8_deck_96 (c_X3_different (jx_l X) k n _ _ (jm_f7_1 hr0) _ ex1) (k_goodIn (g_RX8_189)) rfl h_X3_different ⟨rfl, rfl, Nat.le_of_ble_eq_true rfl, Nat.le_of_ble_eq_true rfl⟩ rfl rfl (Nat.le_of_ble_eq_true rfl) ?_
        cases h
        exact jt_iret C dX8_deck_99 hQ hr
      replace h := jm_iff c26_2 h
      by_cases c26_3 : v1 = (3 : Int32)
      · replace h := jm_ift c26_3 h
        refine jt_tblIn (v := 3) (tgt := 100) C dX8_deck_26 c26_3 (by decide) (by decide) rfl (by decide) ?_
        refine jt_aload_n C dX8_deck_100 rfl 0 rfl ?_
        refine jt_getR (Tf := TX8) (N := 8) C dX8_deck_101 hr0 rfl i_8 1 (by decide) rfl m_RX8_19 rfl ?_
        refine jt_callVi (As := []) (rest := []) C (jm_f7_1 hr0) rfl dX8_deck_104 (c_X3_lost (jx_l X) k _ _ (jm_f7_1 hr0) _ rfl) (k_goodIn (g_RX8_162)) rfl h_X3_lost ⟨rfl, rfl, Nat.le_of_ble_eq_true rfl, Nat.le_of_ble_eq_true rfl⟩ rfl rfl (Nat.le_of_ble_eq_true rfl) ?_
        cases h
        exact jt_iret C dX8_deck_107 hQ hr
      replace h := jm_iff c26_3 h
      by_cases c26_4 : v1 = (4 : Int32)
      · replace h := jm_ift c26_4 h
        refine jt_tblIn (v := 4) (tgt := 108) C dX8_deck_26 c26_4 (by decide) (by decide) rfl (by decide) ?_
        refine jt_aload_n C dX8_deck_108 rfl 0 rfl ?_
        refine jt_getR (Tf := TX8) (N := 8) C dX8_deck_109 hr0 rfl i_8 5 (by decide) rfl m_RX8_47 rfl ?_
        refine jt_aload_n C dX8_deck_112 rfl 0 rfl ?_
        refine jt_getR (Tf := TX8) (N := 8) C dX8_deck_113 hr0 rfl i_8 1 (by decide) rfl m_RX8_19 rfl ?_
        obtain ⟨⟨x2a, x2b⟩, ex2, h⟩ := jm_bind h
        try dsimp only at h
        refine jt_callVi (As := [_]) (rest := []) C (jm_f7_5 hr0) rfl dX8_deck_116 (c_X2_edges (jx_l X) k n _ _ _ (jm_f7_5 hr0) (jm_f7_1 hr0) _ _ ex2) (k_goodIn (g_RX8_192)) rfl h_X2_edges ⟨rfl, rfl, Nat.le_of_ble_eq_true rfl, Nat.le_of_ble_eq_true rfl⟩ rfl rfl (Nat.le_of_ble_eq_true rfl) ?_
        cases h
        exact jt_iret C dX8_deck_119 hQ hr
      replace h := jm_iff c26_4 h
      by_cases c26_5 : v1 = (5 : Int32)
      · replace h := jm_ift c26_5 h
        refine jt_tblIn (v := 5) (tgt := 120) C dX8_deck_26 c26_5 (by decide) (by decide) rfl (by decide) ?_
        refine jt_aload_n C dX8_deck_120 rfl 0 rfl ?_
        refine jt_getR (Tf := TX8) (N := 8) C dX8_deck_121 hr0 rfl i_8 5 (by decide) rfl m_RX8_47 rfl ?_
        refine jt_aload_n C dX8_deck_124 rfl 0 rfl ?_
        refine jt_getR (Tf := TX8) (N := 8) C dX8_deck_125 hr0 rfl i_8 1 (by decide) rfl m_RX8_19 rfl ?_
        obtain ⟨⟨x3a, x3b⟩, ex3, h⟩ := jm_bind h
        try dsimp only at h
        refine jt_callVi (As := [_]) (rest := []) C (jm_f7_5 hr0) rfl dX8_deck_128 (c_X2_firstFailed (jx_l X) k n _ _ _ (jm_f7_5 hr0) (jm_f7_1 hr0) _ _ ex3) (k_goodIn (g_RX8_195)) rfl h_X2_firstFailed ⟨rfl, rfl, Nat.le_of_ble_eq_true rfl, Nat.le_of_ble_eq_true rfl⟩ rfl rfl (Nat.le_of_ble_eq_true rfl) ?_
        cases h
        exact jt_iret C dX8_deck_131 hQ hr
      replace h := jm_iff c26_5 h
      by_cases c26_6 : v1 = (6 : Int32)
      · replace h := jm_ift c26_6 h
        refine jt_tblIn (v := 6) (tgt := 132) C dX8_deck_26 c26_6 (by decide) (by decide) rfl (by decide) ?_
        refine jt_aload_n C dX8_deck_132 rfl 0 rfl ?_
        refine jt_getR (Tf := TX8) (N := 8) C dX8_deck_133 hr0 rfl i_8 6 (by decide) rfl m_RX8_54 rfl ?_
        refine jt_aload_n C dX8_deck_136 rfl 0 rfl ?_
        refine jt_getR (Tf := TX8) (N := 8) C dX8_deck_137 hr0 rfl i_8 1 (by decide) rfl m_RX8_19 rfl ?_
        refine jt_aload_n C dX8_deck_140 rfl 0 rfl ?_
        refine jt_getR (Tf := TX8) (N := 8) C dX8_deck_141 hr0 rfl i_8 1 (by decide) rfl m_RX8_19 rfl ?_
        refine jt_callVi (As := []) (rest := [_, _]) C (jm_f7_1 hr0) rfl dX8_deck_144 (c_X3_everyCard (jx_l X) k _ _ (jm_f7_1 hr0) _ rfl) (k_goodIn (g_RX8_198)) rfl h_X3_everyCard ⟨rfl, rfl, Nat.le_of_ble_eq_true rfl, Nat.le_of_ble_eq_true rfl⟩ rfl rfl (Nat.le_of_ble_eq_true rfl) ?_
        refine jt_aload_n C dX8_deck_147 rfl 0 rfl ?_
        refine jt_getR (Tf := TX8) (N := 8) C dX8_deck_148 hr0 rfl i_8 3 (by decide) rfl m_RX8_33 rfl ?_
        obtain ⟨⟨x4a, x4b⟩, ex4, h⟩ := jm_bind h
        try dsimp only at h
        refine jt_callVi (As := [_, _, _]) (rest := []) C (jm_f7_6 hr0) rfl dX8_deck_151 (c_X0_find (jx_l X) k n _ _ _ _ _ (jm_f7_6 hr0) (jm_f7_1 hr0) (jm_f7_3 hr0) _ _ ex4) (k_goodIn (g_RX8_201)) rfl h_X0_find ⟨rfl, rfl, Nat.le_of_ble_eq_true rfl, Nat.le_of_ble_eq_true rfl⟩ rfl rfl (Nat.le_of_ble_eq_true rfl) ?_
        cases h
        exact jt_iret C dX8_deck_154 hQ hr
      replace h := jm_iff c26_6 h
      by_cases c26_7 : v1 = (7 : Int32)
      · replace h := jm_ift c26_7 h
        refine jt_tblIn (v := 7) (tgt := 155) C dX8_deck_26 c26_7 (by decide) (by decide) rfl (by decide) ?_
        refine jt_aload_n C dX8_deck_155 rfl 0 rfl ?_
        obtain ⟨⟨x5a, x5b⟩, ex5, h⟩ := jm_bind h
        try dsimp only at h
        refine jt_callVi (As := []) (rest := []) C hr0 rfl dX8_deck_156 (c_X8_enoughCards (jx_l X) k n _ _ hr0 _ _ ex5) (k_goodIn (g_RX8_204)) rfl h_X8_enoughCards ⟨rfl, rfl, Nat.le_of_ble_eq_true rfl, Nat.le_of_ble_eq_true rfl⟩ rfl rfl (Nat.le_of_ble_eq_true rfl) ?_
        cases h
        exact jt_iret C dX8_deck_159 hQ hr
      replace h := jm_iff c26_7 h
      by_cases c26_8 : v1 = (8 : Int32)
      · replace h := jm_ift c26_8 h
        refine jt_tblIn (v := 8) (tgt := 160) C dX8_deck_26 c26_8 (by decide) (by decide) rfl (by decide) ?_
        refine jt_aload_n C dX8_deck_160 rfl 0 rfl ?_
        obtain ⟨⟨x6a, x6b⟩, ex6, h⟩ := jm_bind h
        try dsimp only at h
        refine jt_callVi (As := []) (rest := []) C hr0 rfl dX8_deck_161 (c_X8_isDeckOfGraph (jx_l X) k n _ _ hr0 _ _ ex6) (k_goodIn (g_RX8_207)) rfl h_X8_isDeckOfGraph ⟨rfl, rfl, Nat.le_of_ble_eq_true rfl, Nat.le_of_ble_eq_true rfl⟩ rfl rfl (Nat.le_of_ble_eq_true rfl) ?_
        refine jt_if_eq (tgt := 171) C dX8_deck_164 (by decide) (fun c164 => ?_) (fun c164 => ?_)
        · replace h := jm_ift c164 h
          refine jt_iconst (v := (0 : Int32)) C dX8_deck_171 (by decide) ?_
          cases h
          exact jt_iret C dX8_deck_172 hQ hr
        · replace h := jm_iff c164 h
          refine jt_iconst (v := (1 : Int32)) C dX8_deck_167 (by decide) ?_
          refine jt_goto (tgt := 172) C dX8_deck_168 (by decide) ?_
          cases h
          exact jt_iret C dX8_deck_172 hQ hr
      replace h := jm_iff c26_8 h
      refine jt_tblOut (tgt := 173) C dX8_deck_26 (by have a0 := jm_nei 0 c26_0; simp at a0; have a1 := jm_nei 1 c26_1; simp at a1; have a2 := jm_nei 2 c26_2; simp at a2; have a3 := jm_nei 3 c26_3; simp at a3; have a4 := jm_nei 4 c26_4; simp at a4; have a5 := jm_nei 5 c26_5; simp at a5; have a6 := jm_nei 6 c26_6; simp at a6; have a7 := jm_nei 7 c26_7; simp at a7; have a8 := jm_nei 8 c26_8; simp at a8; omega) (by decide) ?_
      refine jt_iconst (v := (-1 : Int32)) C dX8_deck_173 (by decide) ?_
      cases h
      exact jt_iret C dX8_deck_174 hQ hr
    · replace h := jm_ift c19 h
      refine jt_bipush (v := (-2 : Int32)) C dX8_deck_22 (by decide) ?_
      cases h
      exact jt_iret C dX8_deck_24 hQ hr
  · replace h := jm_iff c3 h
    refine jt_iload_n C dX8_deck_6 rfl 1 rfl ?_
    refine jt_bipush (v := (7 : Int32)) C dX8_deck_7 (by decide) ?_
    refine jt_icmp_ne (tgt := 25) C dX8_deck_9 (by decide) (fun c9 => ?_) (fun c9 => ?_)
    · replace h := jm_iff c9 h
      refine jt_iload_n C dX8_deck_25 rfl 1 rfl ?_
      by_cases c26_0 : v1 = (0 : Int32)
      · replace h := jm_ift c26_0 h
        refine jt_tblIn (v := 0) (tgt := 76) C dX8_deck_26 c26_0 (by decide) (by decide) rfl (by decide) ?_
        refine jt_aload_n C dX8_deck_76 rfl 0 rfl ?_
        refine jt_getR (Tf := TX8) (N := 8) C dX8_deck_77 hr0 rfl i_8 1 (by decide) rfl m_RX8_19 rfl ?_
        refine jt_callVi (As := []) (rest := []) C (jm_f7_1 hr0) rfl dX8_deck_80 (c_X3_h (jx_l X) k _ _ (jm_f7_1 hr0) _ rfl) (k_goodIn (g_RX8_159)) rfl h_X3_h ⟨rfl, rfl, Nat.le_of_ble_eq_true rfl, Nat.le_of_ble_eq_true rfl⟩ rfl rfl (Nat.le_of_ble_eq_true rfl) ?_
        cases h
        exact jt_iret C dX8_deck_83 hQ hr
      replace h := jm_iff c26_0 h
      by_cases c26_1 : v1 = (1 : Int32)
      · replace h := jm_ift c26_1 h
        refine jt_tblIn (v := 1) (tgt := 84) C dX8_deck_26 c26_1 (by decide) (by decide) rfl (by decide) ?_
        refine jt_aload_n C dX8_deck_84 rfl 0 rfl ?_
        refine jt_getR (Tf := TX8) (N := 8) C dX8_deck_85 hr0 rfl i_8 1 (by decide) rfl m_RX8_19 rfl ?_
        refine jt_callVi (As := []) (rest := []) C (jm_f7_1 hr0) rfl dX8_deck_88 (c_X3_size (jx_l X) k _ _ (jm_f7_1 hr0) _ rfl) (k_goodIn (g_RX8_150)) rfl h_X3_size ⟨rfl, rfl, Nat.le_of_ble_eq_true rfl, Nat.le_of_ble_eq_true rfl⟩ rfl rfl (Nat.le_of_ble_eq_true rfl) ?_
        cases h
        exact jt_iret C dX8_deck_91 hQ hr
      replace h := jm_iff c26_1 h
      by_cases c26_2 : v1 = (2 : Int32)
      · replace h := jm_ift c26_2 h
        refine jt_tblIn (v := 2) (tgt := 92) C dX8_deck_26 c26_2 (by decide) (by decide) rfl (by decide) ?_
        refine jt_aload_n C dX8_deck_92 rfl 0 rfl ?_
        refine jt_getR (Tf := TX8) (N := 8) C dX8_deck_93 hr0 rfl i_8 1 (by decide) rfl m_RX8_19 rfl ?_
        obtain ⟨x7, ex7, h⟩ := jm_bind h
        refine jt_callVi (As := []) (rest := []) C (jm_f7_1 hr0) rfl dX8_deck_96 (c_X3_different (jx_l X) k n _ _ (jm_f7_1 hr0) _ ex7) (k_goodIn (g_RX8_189)) rfl h_X3_different ⟨rfl, rfl, Nat.le_of_ble_eq_true rfl, Nat.le_of_ble_eq_true rfl⟩ rfl rfl (Nat.le_of_ble_eq_true rfl) ?_
        cases h
        exact jt_iret C dX8_deck_99 hQ hr
      replace h := jm_iff c26_2 h
      by_cases c26_3 : v1 = (3 : Int32)
      · replace h := jm_ift c26_3 h
        refine jt_tblIn (v := 3) (tgt := 100) C dX8_deck_26 c26_3 (by decide) (by decide) rfl (by decide) ?_
        refine jt_aload_n C dX8_deck_100 rfl 0 rfl ?_
        refine jt_getR (Tf := TX8) (N := 8) C dX8_deck_101 hr0 rfl i_8 1 (by decide) rfl m_RX8_19 rfl ?_
        refine jt_callVi (As := []) (rest := []) C (jm_f7_1 hr0) rfl dX8_deck_104 (c_X3_lost (jx_l X) k _ _ (jm_f7_1 hr0) _ rfl) (k_goodIn (g_RX8_162)) rfl h_X3_lost ⟨rfl, rfl, Nat.le_of_ble_eq_true rfl, Nat.le_of_ble_eq_true rfl⟩ rfl rfl (Nat.le_of_ble_eq_true rfl) ?_
        cases h
        exact jt_iret C dX8_deck_107 hQ hr
      replace h := jm_iff c26_3 h
      by_cases c26_4 : v1 = (4 : Int32)
      · replace h := jm_ift c26_4 h
        refine jt_tblIn (v := 4) (tgt := 108) C dX8_deck_26 c26_4 (by decide) (by decide) rfl (by decide) ?_
        refine jt_aload_n C dX8_deck_108 rfl 0 rfl ?_
        refine jt_getR (Tf := TX8) (N := 8) C dX8_deck_109 hr0 rfl i_8 5 (by decide) rfl m_RX8_47 rfl ?_
        refine jt_aload_n C dX8_deck_112 rfl 0 rfl ?_
        refine jt_getR (Tf := TX8) (N := 8) C dX8_deck_113 hr0 rfl i_8 1 (by decide) rfl m_RX8_19 rfl ?_
        obtain ⟨⟨x8a, x8b⟩, ex8, h⟩ := jm_bind h
        try dsimp only at h
        refine jt_callVi (As := [_]) (rest := []) C (jm_f7_5 hr0) rfl dX8_deck_116 (c_X2_edges (jx_l X) k n _ _ _ (jm_f7_5 hr0) (jm_f7_1 hr0) _ _ ex8) (k_goodIn (g_RX8_192)) rfl h_X2_edges ⟨rfl, rfl, Nat.le_of_ble_eq_true rfl, Nat.le_of_ble_eq_true rfl⟩ rfl rfl (Nat.le_of_ble_eq_true rfl) ?_
        cases h
        exact jt_iret C dX8_deck_119 hQ hr
      replace h := jm_iff c26_4 h
      by_cases c26_5 : v1 = (5 : Int32)
      · replace h := jm_ift c26_5 h
        refine jt_tblIn (v := 5) (tgt := 120) C dX8_deck_26 c26_5 (by decide) (by decide) rfl (by decide) ?_
        refine jt_aload_n C dX8_deck_120 rfl 0 rfl ?_
        refine jt_getR (Tf := TX8) (N := 8) C dX8_deck_121 hr0 rfl i_8 5 (by decide) rfl m_RX8_47 rfl ?_
        refine jt_aload_n C dX8_deck_124 rfl 0 rfl ?_
        refine jt_getR (Tf := TX8) (N := 8) C dX8_deck_125 hr0 rfl i_8 1 (by decide) rfl m_RX8_19 rfl ?_
        obtain ⟨⟨x9a, x9b⟩, ex9, h⟩ := jm_bind h
        try dsimp only at h
        refine jt_callVi (As := [_]) (rest := []) C (jm_f7_5 hr0) rfl dX8_deck_128 (c_X2_firstFailed (jx_l X) k n _ _ _ (jm_f7_5 hr0) (jm_f7_1 hr0) _ _ ex9) (k_goodIn (g_RX8_195)) rfl h_X2_firstFailed ⟨rfl, rfl, Nat.le_of_ble_eq_true rfl, Nat.le_of_ble_eq_true rfl⟩ rfl rfl (Nat.le_of_ble_eq_true rfl) ?_
        cases h
        exact jt_iret C dX8_deck_131 hQ hr
      replace h := jm_iff c26_5 h
      by_cases c26_6 : v1 = (6 : Int32)
      · replace h := jm_ift c26_6 h
        refine jt_tblIn (v := 6) (tgt := 132) C dX8_deck_26 c26_6 (by decide) (by decide) rfl (by decide) ?_
        refine jt_aload_n C dX8_deck_132 rfl 0 rfl ?_
        refine jt_getR (Tf := TX8) (N := 8) C dX8_deck_133 hr0 rfl i_8 6 (by decide) rfl m_RX8_54 rfl ?_
        refine jt_aload_n C dX8_deck_136 rfl 0 rfl ?_
        refine jt_getR (Tf := TX8) (N := 8) C dX8_deck_137 hr0 rfl i_8 1 (by decide) rfl m_RX8_19 rfl ?_
        refine jt_aload_n C dX8_deck_140 rfl 0 rfl ?_
        refine jt_getR (Tf := TX8) (N := 8) C dX8_deck_141 hr0 rfl i_8 1 (by decide) rfl m_RX8_19 rfl ?_
        refine jt_callVi (As := []) (rest := [_, _]) C (jm_f7_1 hr0) rfl dX8_deck_144 (c_X3_everyCard (jx_l X) k _ _ (jm_f7_1 hr0) _ rfl) (k_goodIn (g_RX8_198)) rfl h_X3_everyCard ⟨rfl, rfl, Nat.le_of_ble_eq_true rfl, Nat.le_of_ble_eq_true rfl⟩ rfl rfl (Nat.le_of_ble_eq_true rfl) ?_
        refine jt_aload_n C dX8_deck_147 rfl 0 rfl ?_
        refine jt_getR (Tf := TX8) (N := 8) C dX8_deck_148 hr0 rfl i_8 3 (by decide) rfl m_RX8_33 rfl ?_
        obtain ⟨⟨x10a, x10b⟩, ex10, h⟩ := jm_bind h
        try dsimp only at h
        refine jt_callVi (As := [_, _, _]) (rest := []) C (jm_f7_6 hr0) rfl dX8_deck_151 (c_X0_find (jx_l X) k n _ _ _ _ _ (jm_f7_6 hr0) (jm_f7_1 hr0) (jm_f7_3 hr0) _ _ ex10) (k_goodIn (g_RX8_201)) rfl h_X0_find ⟨rfl, rfl, Nat.le_of_ble_eq_true rfl, Nat.le_of_ble_eq_true rfl⟩ rfl rfl (Nat.le_of_ble_eq_true rfl) ?_
        cases h
        exact jt_iret C dX8_deck_154 hQ hr
      replace h := jm_iff c26_6 h
      by_cases c26_7 : v1 = (7 : Int32)
      · replace h := jm_ift c26_7 h
        refine jt_tblIn (v := 7) (tgt := 155) C dX8_deck_26 c26_7 (by decide) (by decide) rfl (by decide) ?_
        refine jt_aload_n C dX8_deck_155 rfl 0 rfl ?_
        obtain ⟨⟨x11a, x11b⟩, ex11, h⟩ := jm_bind h
        try dsimp only at h
        refine jt_callVi (As := []) (rest := []) C hr0 rfl dX8_deck_156 (c_X8_enoughCards (jx_l X) k n _ _ hr0 _ _ ex11) (k_goodIn (g_RX8_204)) rfl h_X8_enoughCards ⟨rfl, rfl, Nat.le_of_ble_eq_true rfl, Nat.le_of_ble_eq_true rfl⟩ rfl rfl (Nat.le_of_ble_eq_true rfl) ?_
        cases h
        exact jt_iret C dX8_deck_159 hQ hr
      replace h := jm_iff c26_7 h
      by_cases c26_8 : v1 = (8 : Int32)
      · replace h := jm_ift c26_8 h
        refine jt_tblIn (v := 8) (tgt := 160) C dX8_deck_26 c26_8 (by decide) (by decide) rfl (by decide) ?_
        refine jt_aload_n C dX8_deck_160 rfl 0 rfl ?_
        obtain ⟨⟨x12a, x12b⟩, ex12, h⟩ := jm_bind h
        try dsimp only at h
        refine jt_callVi (As := []) (rest := []) C hr0 rfl dX8_deck_161 (c_X8_isDeckOfGraph (jx_l X) k n _ _ hr0 _ _ ex12) (k_goodIn (g_RX8_207)) rfl h_X8_isDeckOfGraph ⟨rfl, rfl, Nat.le_of_ble_eq_true rfl, Nat.le_of_ble_eq_true rfl⟩ rfl rfl (Nat.le_of_ble_eq_true rfl) ?_
        refine jt_if_eq (tgt := 171) C dX8_deck_164 (by decide) (fun c164 => ?_) (fun c164 => ?_)
        · replace h := jm_ift c164 h
          refine jt_iconst (v := (0 : Int32)) C dX8_deck_171 (by decide) ?_
          cases h
          exact jt_iret C dX8_deck_172 hQ hr
        · replace h := jm_iff c164 h
          refine jt_iconst (v := (1 : Int32)) C dX8_deck_167 (by decide) ?_
          refine jt_goto (tgt := 172) C dX8_deck_168 (by decide) ?_
          cases h
          exact jt_iret C dX8_deck_172 hQ hr
      replace h := jm_iff c26_8 h
      refine jt_tblOut (tgt := 173) C dX8_deck_26 (by have a0 := jm_nei 0 c26_0; simp at a0; have a1 := jm_nei 1 c26_1; simp at a1; have a2 := jm_nei 2 c26_2; simp at a2; have a3 := jm_nei 3 c26_3; simp at a3; have a4 := jm_nei 4 c26_4; simp at a4; have a5 := jm_nei 5 c26_5; simp at a5; have a6 := jm_nei 6 c26_6; simp at a6; have a7 := jm_nei 7 c26_7; simp at a7; have a8 := jm_nei 8 c26_8; simp at a8; omega) (by decide) ?_
      refine jt_iconst (v := (-1 : Int32)) C dX8_deck_173 (by decide) ?_
      cases h
      exact jt_iret C dX8_deck_174 hQ hr
    · replace h := jm_ift c9 h
      refine jt_aload_n C dX8_deck_12 rfl 0 rfl ?_
      refine jt_getR (Tf := TX8) (N := 8) C dX8_deck_13 hr0 rfl i_8 1 (by decide) rfl m_RX8_19 rfl ?_
      refine jt_callVi (As := []) (rest := []) C (jm_f7_1 hr0) rfl dX8_deck_16 (c_X3_size (jx_l X) k _ _ (jm_f7_1 hr0) _ rfl) (k_goodIn (g_RX8_150)) rfl h_X3_size ⟨rfl, rfl, Nat.le_of_ble_eq_true rfl, Nat.le_of_ble_eq_true rfl⟩ rfl rfl (Nat.le_of_ble_eq_true rfl) ?_
      refine jt_if_ne (tgt := 25) C dX8_deck_19 (by decide) (fun c19 => ?_) (fun c19 => ?_)
      · replace h := jm_iff c19 h
        refine jt_iload_n C dX8_deck_25 rfl 1 rfl ?_
        by_cases c26_0 : v1 = (0 : Int32)
        · replace h := jm_ift c26_0 h
          refine jt_tblIn (v := 0) (tgt := 76) C dX8_deck_26 c26_0 (by decide) (by decide) rfl (by decide) ?_
          refine jt_aload_n C dX8_deck_76 rfl 0 rfl ?_
          refine jt_getR (Tf := TX8) (N := 8) C dX8_deck_77 hr0 rfl i_8 1 (by decide) rfl m_RX8_19 rfl ?_
          refine jt_callVi (As := []) (rest := []) C (jm_f7_1 hr0) rfl dX8_deck_80 (c_X3_h (jx_l X) k _ _ (jm_f7_1 hr0) _ rfl) (k_goodIn (g_RX8_159)) rfl h_X3_h ⟨rfl, rfl, Nat.le_of_ble_eq_true rfl, Nat.le_of_ble_eq_true rfl⟩ rfl rfl (Nat.le_of_ble_eq_true rfl) ?_
          cases h
          exact jt_iret C dX8_deck_83 hQ hr
        replace h := jm_iff c26_0 h
        by_cases c26_1 : v1 = (1 : Int32)
        · replace h := jm_ift c26_1 h
          refine jt_tblIn (v := 1) (tgt := 84) C dX8_deck_26 c26_1 (by decide) (by decide) rfl (by decide) ?_
          refine jt_aload_n C dX8_deck_84 rfl 0 rfl ?_
          refine jt_getR (Tf := TX8) (N := 8) C dX8_deck_85 hr0 rfl i_8 1 (by decide) rfl m_RX8_19 rfl ?_
          refine jt_callVi (As := []) (rest := []) C (jm_f7_1 hr0) rfl dX8_deck_88 (c_X3_size (jx_l X) k _ _ (jm_f7_1 hr0) _ rfl) (k_goodIn (g_RX8_150)) rfl h_X3_size ⟨rfl, rfl, Nat.le_of_ble_eq_true rfl, Nat.le_of_ble_eq_true rfl⟩ rfl rfl (Nat.le_of_ble_eq_true rfl) ?_
          cases h
          exact jt_iret C dX8_deck_91 hQ hr
        replace h := jm_iff c26_1 h
        by_cases c26_2 : v1 = (2 : Int32)
        · replace h := jm_ift c26_2 h
          refine jt_tblIn (v := 2) (tgt := 92) C dX8_deck_26 c26_2 (by decide) (by decide) rfl (by decide) ?_
          refine jt_aload_n C dX8_deck_92 rfl 0 rfl ?_
          refine jt_getR (Tf := TX8) (N := 8) C dX8_deck_93 hr0 rfl i_8 1 (by decide) rfl m_RX8_19 rfl ?_
          obtain ⟨x13, ex13, h⟩ := jm_bind h
          refine jt_callVi (As := []) (rest := []) C (jm_f7_1 hr0) rfl dX8_deck_96 (c_X3_different (jx_l X) k n _ _ (jm_f7_1 hr0) _ ex13) (k_goodIn (g_RX8_189)) rfl h_X3_different ⟨rfl, rfl, Nat.le_of_ble_eq_true rfl, Nat.le_of_ble_eq_true rfl⟩ rfl rfl (Nat.le_of_ble_eq_true rfl) ?_
          cases h
          exact jt_iret C dX8_deck_99 hQ hr
        replace h := jm_iff c26_2 h
        by_cases c26_3 : v1 = (3 : Int32)
        · replace h := jm_ift c26_3 h
          refine jt_tblIn (v := 3) (tgt := 100) C dX8_deck_26 c26_3 (by decide) (by decide) rfl (by decide) ?_
          refine jt_aload_n C dX8_deck_100 rfl 0 rfl ?_
          refine jt_getR (Tf := TX8) (N := 8) C dX8_deck_101 hr0 rfl i_8 1 (by decide) rfl m_RX8_19 rfl ?_
          refine jt_callVi (As := []) (rest := []) C (jm_f7_1 hr0) rfl dX8_deck_104 (c_X3_lost (jx_l X) k _ _ (jm_f7_1 hr0) _ rfl) (k_goodIn (g_RX8_162)) rfl h_X3_lost ⟨rfl, rfl, Nat.le_of_ble_eq_true rfl, Nat.le_of_ble_eq_true rfl⟩ rfl rfl (Nat.le_of_ble_eq_true rfl) ?_
          cases h
          exact jt_iret C dX8_deck_107 hQ hr
        replace h := jm_iff c26_3 h
        by_cases c26_4 : v1 = (4 : Int32)
        · replace h := jm_ift c26_4 h
          refine jt_tblIn (v := 4) (tgt := 108) C dX8_deck_26 c26_4 (by decide) (by decide) rfl (by decide) ?_
          refine jt_aload_n C dX8_deck_108 rfl 0 rfl ?_
          refine jt_getR (Tf := TX8) (N := 8) C dX8_deck_109 hr0 rfl i_8 5 (by decide) rfl m_RX8_47 rfl ?_
          refine jt_aload_n C dX8_deck_112 rfl 0 rfl ?_
          refine jt_getR (Tf := TX8) (N := 8) C dX8_deck_113 hr0 rfl i_8 1 (by decide) rfl m_RX8_19 rfl ?_
          obtain ⟨⟨x14a, x14b⟩, ex14, h⟩ := jm_bind h
          try dsimp only at h
          refine jt_callVi (As := [_]) (rest := []) C (jm_f7_5 hr0) rfl dX8_deck_116 (c_X2_edges (jx_l X) k n _ _ _ (jm_f7_5 hr0) (jm_f7_1 hr0) _ _ ex14) (k_goodIn (g_RX8_192)) rfl h_X2_edges ⟨rfl, rfl, Nat.le_of_ble_eq_true rfl, Nat.le_of_ble_eq_true rfl⟩ rfl rfl (Nat.le_of_ble_eq_true rfl) ?_
          cases h
          exact jt_iret C dX8_deck_119 hQ hr
        replace h := jm_iff c26_4 h
        by_cases c26_5 : v1 = (5 : Int32)
        · replace h := jm_ift c26_5 h
          refine jt_tblIn (v := 5) (tgt := 120) C dX8_deck_26 c26_5 (by decide) (by decide) rfl (by decide) ?_
          refine jt_aload_n C dX8_deck_120 rfl 0 rfl ?_
          refine jt_getR (Tf := TX8) (N := 8) C dX8_deck_121 hr0 rfl i_8 5 (by decide) rfl m_RX8_47 rfl ?_
          refine jt_aload_n C dX8_deck_124 rfl 0 rfl ?_
          refine jt_getR (Tf := TX8) (N := 8) C dX8_deck_125 hr0 rfl i_8 1 (by decide) rfl m_RX8_19 rfl ?_
          obtain ⟨⟨x15a, x15b⟩, ex15, h⟩ := jm_bind h
          try dsimp only at h
          refine jt_callVi (As := [_]) (rest := []) C (jm_f7_5 hr0) rfl dX8_deck_128 (c_X2_firstFailed (jx_l X) k n _ _ _ (jm_f7_5 hr0) (jm_f7_1 hr0) _ _ ex15) (k_goodIn (g_RX8_195)) rfl h_X2_firstFailed ⟨rfl, rfl, Nat.le_of_ble_eq_true rfl, Nat.le_of_ble_eq_true rfl⟩ rfl rfl (Nat.le_of_ble_eq_true rfl) ?_
          cases h
          exact jt_iret C dX8_deck_131 hQ hr
        replace h := jm_iff c26_5 h
        by_cases c26_6 : v1 = (6 : Int32)
        · replace h := jm_ift c26_6 h
          refine jt_tblIn (v := 6) (tgt := 132) C dX8_deck_26 c26_6 (by decide) (by decide) rfl (by decide) ?_
          refine jt_aload_n C dX8_deck_132 rfl 0 rfl ?_
          refine jt_getR (Tf := TX8) (N := 8) C dX8_deck_133 hr0 rfl i_8 6 (by decide) rfl m_RX8_54 rfl ?_
          refine jt_aload_n C dX8_deck_136 rfl 0 rfl ?_
          refine jt_getR (Tf := TX8) (N := 8) C dX8_deck_137 hr0 rfl i_8 1 (by decide) rfl m_RX8_19 rfl ?_
          refine jt_aload_n C dX8_deck_140 rfl 0 rfl ?_
          refine jt_getR (Tf := TX8) (N := 8) C dX8_deck_141 hr0 rfl i_8 1 (by decide) rfl m_RX8_19 rfl ?_
          refine jt_callVi (As := []) (rest := [_, _]) C (jm_f7_1 hr0) rfl dX8_deck_144 (c_X3_everyCard (jx_l X) k _ _ (jm_f7_1 hr0) _ rfl) (k_goodIn (g_RX8_198)) rfl h_X3_everyCard ⟨rfl, rfl, Nat.le_of_ble_eq_true rfl, Nat.le_of_ble_eq_true rfl⟩ rfl rfl (Nat.le_of_ble_eq_true rfl) ?_
          refine jt_aload_n C dX8_deck_147 rfl 0 rfl ?_
          refine jt_getR (Tf := TX8) (N := 8) C dX8_deck_148 hr0 rfl i_8 3 (by decide) rfl m_RX8_33 rfl ?_
          obtain ⟨⟨x16a, x16b⟩, ex16, h⟩ := jm_bind h
          try dsimp only at h
          refine jt_callVi (As := [_, _, _]) (rest := []) C (jm_f7_6 hr0) rfl dX8_deck_151 (c_X0_find (jx_l X) k n _ _ _ _ _ (jm_f7_6 hr0) (jm_f7_1 hr0) (jm_f7_3 hr0) _ _ ex16) (k_goodIn (g_RX8_201)) rfl h_X0_find ⟨rfl, rfl, Nat.le_of_ble_eq_true rfl, Nat.le_of_ble_eq_true rfl⟩ rfl rfl (Nat.le_of_ble_eq_true rfl) ?_
          cases h
          exact jt_iret C dX8_deck_154 hQ hr
        replace h := jm_iff c26_6 h
        by_cases c26_7 : v1 = (7 : Int32)
        · replace h := jm_ift c26_7 h
          refine jt_tblIn (v := 7) (tgt := 155) C dX8_deck_26 c26_7 (by decide) (by decide) rfl (by decide) ?_
          refine jt_aload_n C dX8_deck_155 rfl 0 rfl ?_
          obtain ⟨⟨x17a, x17b⟩, ex17, h⟩ := jm_bind h
          try dsimp only at h
          refine jt_callVi (As := []) (rest := []) C hr0 rfl dX8_deck_156 (c_X8_enoughCards (jx_l X) k n _ _ hr0 _ _ ex17) (k_goodIn (g_RX8_204)) rfl h_X8_enoughCards ⟨rfl, rfl, Nat.le_of_ble_eq_true rfl, Nat.le_of_ble_eq_true rfl⟩ rfl rfl (Nat.le_of_ble_eq_true rfl) ?_
          cases h
          exact jt_iret C dX8_deck_159 hQ hr
        replace h := jm_iff c26_7 h
        by_cases c26_8 : v1 = (8 : Int32)
        · replace h := jm_ift c26_8 h
          refine jt_tblIn (v := 8) (tgt := 160) C dX8_deck_26 c26_8 (by decide) (by decide) rfl (by decide) ?_
          refine jt_aload_n C dX8_deck_160 rfl 0 rfl ?_
          obtain ⟨⟨x18a, x18b⟩, ex18, h⟩ := jm_bind h
          try dsimp only at h
          refine jt_callVi (As := []) (rest := []) C hr0 rfl dX8_deck_161 (c_X8_isDeckOfGraph (jx_l X) k n _ _ hr0 _ _ ex18) (k_goodIn (g_RX8_207)) rfl h_X8_isDeckOfGraph ⟨rfl, rfl, Nat.le_of_ble_eq_true rfl, Nat.le_of_ble_eq_true rfl⟩ rfl rfl (Nat.le_of_ble_eq_true rfl) ?_
          refine jt_if_eq (tgt := 171) C dX8_deck_164 (by decide) (fun c164 => ?_) (fun c164 => ?_)
          · replace h := jm_ift c164 h
            refine jt_iconst (v := (0 : Int32)) C dX8_deck_171 (by decide) ?_
            cases h
            exact jt_iret C dX8_deck_172 hQ hr
          · replace h := jm_iff c164 h
            refine jt_iconst (v := (1 : Int32)) C dX8_deck_167 (by decide) ?_
            refine jt_goto (tgt := 172) C dX8_deck_168 (by decide) ?_
            cases h
            exact jt_iret C dX8_deck_172 hQ hr
        replace h := jm_iff c26_8 h
        refine jt_tblOut (tgt := 173) C dX8_deck_26 (by have a0 := jm_nei 0 c26_0; simp at a0; have a1 := jm_nei 1 c26_1; simp at a1; have a2 := jm_nei 2 c26_2; simp at a2; have a3 := jm_nei 3 c26_3; simp at a3; have a4 := jm_nei 4 c26_4; simp at a4; have a5 := jm_nei 5 c26_5; simp at a5; have a6 := jm_nei 6 c26_6; simp at a6; have a7 := jm_nei 7 c26_7; simp at a7; have a8 := jm_nei 8 c26_8; simp at a8; omega) (by decide) ?_
        refine jt_iconst (v := (-1 : Int32)) C dX8_deck_173 (by decide) ?_
        cases h
        exact jt_iret C dX8_deck_174 hQ hr
      · replace h := jm_ift c19 h
        refine jt_bipush (v := (-2 : Int32)) C dX8_deck_22 (by decide) ?_
        cases h
        exact jt_iret C dX8_deck_24 hQ hr
theorem h_X8_counted : yX8_counted.cls = RX8 ∧ yX8_counted.cls ≠ "java/lang/invoke/MethodHandle" ∧ yX8_counted.cls ≠ "java/lang/invoke/VarHandle" ∧ (parseMethodDescriptor yX8_counted.desc).map (fun d => d.parameters.length) = some 1 := by decide +kernel
set_option maxHeartbeats 4000000 in
set_option maxRecDepth 100000 in
theorem c_X8_counted (l : Launch) (k : jm_C) (n : Nat) (r0 : Nat) (v1 : Int32) (M : jm_M) (hr0 : jm_is r0 (3, 7)) (q1 : Int32) (q2 : jm_M) (h : X8_counted n r0 v1 M = some (q1, q2)) : jm_Ci l k yX8_counted w_X8_counted { frames := 6, cells := 0, slots := 0, locals := 240 } [.ref (jm_ad k r0), .int v1] M q1 q2 := by
  refine jm_entry_i (cc := cX8_counted) (nL := 2) (ret := (some .int)) (by decide) rfl (Nat.le_of_ble_eq_true rfl) ?_
  intro X hX C hQ hr
  subst hX
  unfold X8_counted at h
  refine jt_iload_n C dX8_counted_0 rfl 1 rfl ?_
  refine jt_callSi (As := [_]) (rest := []) C dX8_counted_1 (c_X6_isPattern (jx_l X) k _ _ _ rfl) (k_goodIn (g_RX8_142)) rfl h_X6_isPattern ⟨rfl, rfl, Nat.le_of_ble_eq_true rfl, Nat.le_of_ble_eq_true rfl⟩ rfl rfl (Nat.le_of_ble_eq_true rfl) ?_
  refine jt_if_eq (tgt := 22) C dX8_counted_4 (by decide) (fun c4 => ?_) (fun c4 => ?_)
  · replace h := jm_ift c4 h
    refine jt_iconst (v := (-1 : Int32)) C dX8_counted_22 (by decide) ?_
    cases h
    exact jt_iret C dX8_counted_23 hQ hr
  · replace h := jm_iff c4 h
    refine jt_aload_n C dX8_counted_7 rfl 0 rfl ?_
    refine jt_getR (Tf := TX8) (N := 8) C dX8_counted_8 hr0 rfl i_8 5 (by decide) rfl m_RX8_47 rfl ?_
    refine jt_aload_n C dX8_counted_11 rfl 0 rfl ?_
    refine jt_getR (Tf := TX8) (N := 8) C dX8_counted_12 hr0 rfl i_8 1 (by decide) rfl m_RX8_19 rfl ?_
    refine jt_iload_n C dX8_counted_15 rfl 1 rfl ?_
    obtain ⟨⟨x1a, x1b⟩, ex1, h⟩ := jm_bind h
    try dsimp only at h
    refine jt_callVi (As := [_, _]) (rest := []) C (jm_f7_5 hr0) rfl dX8_counted_16 (c_X2_patterns (jx_l X) k n _ _ _ _ (jm_f7_5 hr0) (jm_f7_1 hr0) _ _ ex1) (k_goodIn (g_RX8_211)) rfl h_X2_patterns ⟨rfl, rfl, Nat.le_of_ble_eq_true rfl, Nat.le_of_ble_eq_true rfl⟩ rfl rfl (Nat.le_of_ble_eq_true rfl) ?_
    refine jt_goto (tgt := 23) C dX8_counted_19 (by decide) ?_
    cases h
    exact jt_iret C dX8_counted_23 hQ hr
theorem h_X0_codeAt : yX0_codeAt.cls = RX0 ∧ yX0_codeAt.cls ≠ "java/lang/invoke/MethodHandle" ∧ yX0_codeAt.cls ≠ "java/lang/invoke/VarHandle" ∧ (parseMethodDescriptor yX0_codeAt.desc).map (fun d => d.parameters.length) = some 1 := by decide +kernel
set_option maxHeartbeats 4000000 in
set_option maxRecDepth 100000 in
theorem c_X0_codeAt (l : Launch) (k : jm_C) (r0 : Nat) (v1 : Int32) (M : jm_M) (hr0 : jm_is r0 (3, 0)) (q : Int32) (h : X0_codeAt r0 v1 M = some q) : jm_Ci l k yX0_codeAt w_X0_codeAt { frames := 0, cells := 0, slots := 0, locals := 0 } [.ref (jm_ad k r0), .int v1] M q M := by
  refine jm_entry_i (cc := cX0_codeAt) (nL := 2) (ret := (some .int)) (by decide) rfl (Nat.le_of_ble_eq_true rfl) ?_
  intro X hX C hQ hr
  subst hX
  unfold X0_codeAt at h
  refine jt_iload_n C dX0_codeAt_0 rfl 1 rfl ?_
  refine jt_if_lt (tgt := 21) C dX0_codeAt_1 (by decide) (fun c1 => ?_) (fun c1 => ?_)
  · replace h := jm_ift c1 h
    refine jt_bipush (v := (-9 : Int32)) C dX0_codeAt_21 (by decide) ?_
    cases h
    exact jt_iret C dX0_codeAt_23 hQ hr
  · replace h := jm_iff c1 h
    refine jt_iload_n C dX0_codeAt_4 rfl 1 rfl ?_
    refine jt_aload_n C dX0_codeAt_5 rfl 0 rfl ?_
    refine jt_getI (Tf := TX0) (N := 5) C dX0_codeAt_6 hr0 rfl i_0 4 (by decide) rfl m_RX0_32 rfl ?_
    refine jt_icmp_ge (tgt := 21) C dX0_codeAt_9 (by decide) (fun c9 => ?_) (fun c9 => ?_)
    · replace h := jm_ift c9 h
      refine jt_bipush (v := (-9 : Int32)) C dX0_codeAt_21 (by decide) ?_
      cases h
      exact jt_iret C dX0_codeAt_23 hQ hr
    · replace h := jm_iff c9 h
      refine jt_aload_n C dX0_codeAt_12 rfl 0 rfl ?_
      refine jt_getR (Tf := TX0) (N := 5) C dX0_codeAt_13 hr0 rfl i_0 3 (by decide) rfl m_RX0_28 rfl ?_
      refine jt_iload_n C dX0_codeAt_16 rfl 1 rfl ?_
      obtain ⟨x1, ex1, h⟩ := jm_bind h
      refine jt_iald C dX0_codeAt_17 (jm_f0_3 hr0) ex1 ?_
      refine jt_goto (tgt := 23) C dX0_codeAt_18 (by decide) ?_
      cases h
      exact jt_iret C dX0_codeAt_23 hQ hr
theorem h_X8_answer : yX8_answer.cls = RX8 ∧ yX8_answer.cls ≠ "java/lang/invoke/MethodHandle" ∧ yX8_answer.cls ≠ "java/lang/invoke/VarHandle" ∧ (parseMethodDescriptor yX8_answer.desc).map (fun d => d.parameters.length) = some 1 := by decide +kernel
set_option maxHeartbeats 4000000 in
set_option maxRecDepth 100000 in
theorem c_X8_answer (l : Launch) (k : jm_C) (n : Nat) (r0 : Nat) (v1 : Int32) (M : jm_M) (hr0 : jm_is r0 (3, 7)) (q1 : Int32) (q2 : jm_M) (h : X8_answer n r0 v1 M = some (q1, q2)) : jm_Ci l k yX8_answer w_X8_answer { frames := 18, cells := 0, slots := 0, locals := 720 } [.ref (jm_ad k r0), .int v1] M q1 q2 := by
  refine jm_entry_i (cc := cX8_answer) (nL := 2) (ret := (some .int)) (by decide) rfl (Nat.le_of_ble_eq_true rfl) ?_
  intro X hX C hQ hr
  subst hX
  unfold X8_answer at h
  refine jt_iload_n C dX8_answer_0 rfl 1 rfl ?_
  refine jt_if_ge (tgt := 6) C dX8_answer_1 (by decide) (fun c1 => ?_) (fun c1 => ?_)
  · replace h := jm_ift c1 h
    refine jt_aload_n C dX8_answer_6 rfl 0 rfl ?_
    refine jt_getR (Tf := TX8) (N := 8) C dX8_answer_7 hr0 rfl i_8 1 (by decide) rfl m_RX8_19 rfl ?_
    refine jt_callVi (As := []) (rest := []) C (jm_f7_1 hr0) rfl dX8_answer_10 (c_X3_size (jx_l X) k _ _ (jm_f7_1 hr0) _ rfl) (k_goodIn (g_RX8_150)) rfl h_X3_size ⟨rfl, rfl, Nat.le_of_ble_eq_true rfl, Nat.le_of_ble_eq_true rfl⟩ rfl rfl (Nat.le_of_ble_eq_true rfl) ?_
    refine jt_if_ne (tgt := 19) C dX8_answer_13 (by decide) (fun c13 => ?_) (fun c13 => ?_)
    · replace h := jm_iff c13 h
      refine jt_iload_n C dX8_answer_19 rfl 1 rfl ?_
      refine jt_aload_n C dX8_answer_20 rfl 0 rfl ?_
      refine jt_getR (Tf := TX8) (N := 8) C dX8_answer_21 hr0 rfl i_8 6 (by decide) rfl m_RX8_54 rfl ?_
      refine jt_aload_n C dX8_answer_24 rfl 0 rfl ?_
      refine jt_getR (Tf := TX8) (N := 8) C dX8_answer_25 hr0 rfl i_8 1 (by decide) rfl m_RX8_19 rfl ?_
      refine jt_aload_n C dX8_answer_28 rfl 0 rfl ?_
      refine jt_getR (Tf := TX8) (N := 8) C dX8_answer_29 hr0 rfl i_8 1 (by decide) rfl m_RX8_19 rfl ?_
      refine jt_callVi (As := []) (rest := [_, _, _]) C (jm_f7_1 hr0) rfl dX8_answer_32 (c_X3_everyCard (jx_l X) k _ _ (jm_f7_1 hr0) _ rfl) (k_goodIn (g_RX8_198)) rfl h_X3_everyCard ⟨rfl, rfl, Nat.le_of_ble_eq_true rfl, Nat.le_of_ble_eq_true rfl⟩ rfl rfl (Nat.le_of_ble_eq_true rfl) ?_
      refine jt_aload_n C dX8_answer_35 rfl 0 rfl ?_
      refine jt_getR (Tf := TX8) (N := 8) C dX8_answer_36 hr0 rfl i_8 3 (by decide) rfl m_RX8_33 rfl ?_
      obtain ⟨⟨x1a, x1b⟩, ex1, h⟩ := jm_bind h
      try dsimp only at h
      refine jt_callVi (As := [_, _, _]) (rest := [_]) C (jm_f7_6 hr0) rfl dX8_answer_39 (c_X0_find (jx_l X) k n _ _ _ _ _ (jm_f7_6 hr0) (jm_f7_1 hr0) (jm_f7_3 hr0) _ _ ex1) (k_goodIn (g_RX8_201)) rfl h_X0_find ⟨rfl, rfl, Nat.le_of_ble_eq_true rfl, Nat.le_of_ble_eq_true rfl⟩ rfl rfl (Nat.le_of_ble_eq_true rfl) ?_
      refine jt_icmp_ge (tgt := 56) C dX8_answer_42 (by decide) (fun c42 => ?_) (fun c42 => ?_)
      · replace h := jm_ift c42 h
        refine jt_bipush (v := (-9 : Int32)) C dX8_answer_56 (by decide) ?_
        cases h
        exact jt_iret C dX8_answer_58 hQ hr
      · replace h := jm_iff c42 h
        refine jt_aload_n C dX8_answer_45 rfl 0 rfl ?_
        refine jt_getR (Tf := TX8) (N := 8) C dX8_answer_46 hr0 rfl i_8 6 (by decide) rfl m_RX8_54 rfl ?_
        refine jt_iload_n C dX8_answer_49 rfl 1 rfl ?_
        obtain ⟨x2, ex2, h⟩ := jm_bind h
        refine jt_callVi (As := [_]) (rest := []) C (jm_f7_6 hr0) rfl dX8_answer_50 (c_X0_codeAt (jx_l X) k _ _ _ (jm_f7_6 hr0) _ ex2) (k_goodIn (g_RX8_214)) rfl h_X0_codeAt ⟨rfl, rfl, Nat.le_of_ble_eq_true rfl, Nat.le_of_ble_eq_true rfl⟩ rfl rfl (Nat.le_of_ble_eq_true rfl) ?_
        refine jt_goto (tgt := 58) C dX8_answer_53 (by decide) ?_
        cases h
        exact jt_iret C dX8_answer_58 hQ hr
    · replace h := jm_ift c13 h
      refine jt_bipush (v := (-2 : Int32)) C dX8_answer_16 (by decide) ?_
      cases h
      exact jt_iret C dX8_answer_18 hQ hr
  · replace h := jm_iff c1 h
    refine jt_iconst (v := (-1 : Int32)) C dX8_answer_4 (by decide) ?_
    cases h
    exact jt_iret C dX8_answer_5 hQ hr
theorem h_X0_deckOf : yX0_deckOf.cls = RX0 ∧ yX0_deckOf.cls ≠ "java/lang/invoke/MethodHandle" ∧ yX0_deckOf.cls ≠ "java/lang/invoke/VarHandle" ∧ (parseMethodDescriptor yX0_deckOf.desc).map (fun d => d.parameters.length) = some 3 := by decide +kernel
set_option maxHeartbeats 4000000 in
set_option maxRecDepth 100000 in
theorem c_X0_deckOf (l : Launch) (k : jm_C) (n : Nat) (r0 : Nat) (v1 : Int32) (r2 : Nat) (r3 : Nat) (M : jm_M) (hr0 : jm_is r0 (3, 0)) (hr2 : jm_is r2 (3, 3)) (hr3 : jm_is r3 (3, 1)) (q : jm_M) (h : X0_deckOf n r0 v1 r2 r3 M = some q) : jm_Cv l k yX0_deckOf w_X0_deckOf { frames := 17, cells := 0, slots := 0, locals := 680 } [.ref (jm_ad k r0), .int v1, .ref (jm_ad k r2), .ref (jm_ad k r3)] M q := by
  refine jm_entry_v (cc := cX0_deckOf) (nL := 4) (ret := none) (by decide) rfl (Nat.le_of_ble_eq_true rfl) ?_
  intro X hX C hQ hr
  subst hX
  unfold X0_deckOf at h
  refine jt_iload_n C dX0_deckOf_0 rfl 1 rfl ?_
  refine jt_if_lt (tgt := 41) C dX0_deckOf_1 (by decide) (fun c1 => ?_) (fun c1 => ?_)
  · replace h := jm_ift c1 h
    cases h
    exact jt_vret C dX0_deckOf_41 hQ hr
  · replace h := jm_iff c1 h
    refine jt_iload_n C dX0_deckOf_4 rfl 1 rfl ?_
    refine jt_aload_n C dX0_deckOf_5 rfl 0 rfl ?_
    refine jt_getI (Tf := TX0) (N := 5) C dX0_deckOf_6 hr0 rfl i_0 4 (by decide) rfl m_RX0_32 rfl ?_
    refine jt_icmp_ge (tgt := 41) C dX0_deckOf_9 (by decide) (fun c9 => ?_) (fun c9 => ?_)
    · replace h := jm_ift c9 h
      cases h
      exact jt_vret C dX0_deckOf_41 hQ hr
    · replace h := jm_iff c9 h
      refine jt_aload_n C dX0_deckOf_12 rfl 0 rfl ?_
      refine jt_getR (Tf := TX0) (N := 5) C dX0_deckOf_13 hr0 rfl i_0 0 (by decide) rfl m_RX0_12 rfl ?_
      refine jt_aload_n C dX0_deckOf_16 rfl 0 rfl ?_
      refine jt_getR (Tf := TX0) (N := 5) C dX0_deckOf_17 hr0 rfl i_0 1 (by decide) rfl m_RX0_21 rfl ?_
      refine jt_callVi (As := []) (rest := [_]) C (jm_f0_1 hr0) rfl dX0_deckOf_20 (c_X3_h (jx_l X) k _ _ (jm_f0_1 hr0) _ rfl) (k_goodIn (g_RX0_43)) rfl h_X3_h ⟨rfl, rfl, Nat.le_of_ble_eq_true rfl, Nat.le_of_ble_eq_true rfl⟩ rfl rfl (Nat.le_of_ble_eq_true rfl) ?_
      refine jt_aload_n C dX0_deckOf_23 rfl 0 rfl ?_
      refine jt_getR (Tf := TX0) (N := 5) C dX0_deckOf_24 hr0 rfl i_0 3 (by decide) rfl m_RX0_28 rfl ?_
      refine jt_iload_n C dX0_deckOf_27 rfl 1 rfl ?_
      obtain ⟨x1, ex1, h⟩ := jm_bind h
      refine jt_iald C dX0_deckOf_28 (jm_f0_3 hr0) ex1 ?_
      obtain ⟨M2, eM2, h⟩ := jm_bind h
      refine jt_callVv (As := [_, _]) (rest := []) C (jm_f0_0 hr0) rfl dX0_deckOf_29 (c_X4_load (jx_l X) k n _ _ _ _ (jm_f0_0 hr0) _ eM2) (k_goodIn (g_RX0_50)) rfl h_X4_load ⟨rfl, rfl, Nat.le_of_ble_eq_true rfl, Nat.le_of_ble_eq_true rfl⟩ rfl rfl (Nat.le_of_ble_eq_true rfl) ?_
      refine jt_aload_n C dX0_deckOf_32 rfl 2 rfl ?_
      refine jt_aload_n C dX0_deckOf_33 rfl 0 rfl ?_
      refine jt_getR (Tf := TX0) (N := 5) C dX0_deckOf_34 hr0 rfl i_0 0 (by decide) rfl m_RX0_12 rfl ?_
      refine jt_aload_n C dX0_deckOf_37 rfl 3 rfl ?_
      obtain ⟨M3, eM3, h⟩ := jm_bind h
      refine jt_callVv (As := [_, _]) (rest := []) C hr2 rfl dX0_deckOf_38 (c_X3_fill (jx_l X) k n _ _ _ _ hr2 (jm_f0_0 hr0) hr3 _ eM3) (k_goodIn (g_RX0_54)) rfl h_X3_fill ⟨rfl, rfl, Nat.le_of_ble_eq_true rfl, Nat.le_of_ble_eq_true rfl⟩ rfl rfl (Nat.le_of_ble_eq_true rfl) ?_
      cases h
      exact jt_vret C dX0_deckOf_41 hQ hr
theorem h_X3_leftAfter : yX3_leftAfter.cls = RX3 ∧ yX3_leftAfter.cls ≠ "java/lang/invoke/MethodHandle" ∧ yX3_leftAfter.cls ≠ "java/lang/invoke/VarHandle" ∧ (parseMethodDescriptor yX3_leftAfter.desc).map (fun d => d.parameters.length) = some 2 := by decide +kernel
set_option maxHeartbeats 4000000 in
set_option maxRecDepth 100000 in
theorem t_X3_leftAfter_L8 {X : jm_X} {k : jm_C} (C : jm_Cx X k cX3_leftAfter 6 RX3 w_X3_leftAfter) (r0 : Nat) (r1 : Nat) (v2 : Int32) (M : jm_M) (hr0 : jm_is r0 (3, 3)) (hr1 : jm_is r1 (3, 3)) : ∀ (m : Nat) (s : Int32 × Int32 × Int32) (r : (Int32) ⊕ (Unit)), jm_loop (X3_leftAfter_B8 r0 r1 v2 M) m s = some r → (match r with | .inl z => ∀ (pc1 : Nat) (lv1 : List (Nat × Value)), decode cX3_leftAfter pc1 = .ok (.ireturn, 1) → jm_T X { frames := 2, cells := 0, slots := 0, locals := 80 } k 6 M pc1 lv1 [.int z] | .inr w => jm_T X { frames := 2, cells := 0, slots := 0, locals := 80 } k 6 M 70 [] []) → (∀ (b0 : Int32) (b1 : Int32) (b2 : Int32), s = (b0, b1, b2) → jm_T X { frames := 2, cells := 0, slots := 0, locals := 80 } k 6 M 8 [(0, .ref (jm_ad k r0)), (1, .ref (jm_ad k r1)), (2, .int v2), (3, .int b0), (4, .int b1), (5, .int b2)] []) := by
  refine jm_loop_ind (P := fun (s : Int32 × Int32 × Int32) => (∀ (b0 : Int32) (b1 : Int32) (b2 : Int32), s = (b0, b1, b2) → jm_T X { frames := 2, cells := 0, slots := 0, locals := 80 } k 6 M 8 [(0, .ref (jm_ad k r0)), (1, .ref (jm_ad k r1)), (2, .int v2), (3, .int b0), (4, .int b1), (5, .int b2)] [])) (K := fun (r : (Int32) ⊕ (Unit)) => match r with | .inl z => ∀ (pc1 : Nat) (lv1 : List (Nat × Value)), decode cX3_leftAfter pc1 = .ok (.ireturn, 1) → jm_T X { frames := 2, cells := 0, slots := 0, locals := 80 } k 6 M pc1 lv1 [.int z] | .inr w => jm_T X { frames := 2, cells := 0, slots := 0, locals := 80 } k 6 M 70 [] []) ?_
  intro s q h h1 h2
  intro b0 b1 b2 hs
  subst hs
  unfold X3_leftAfter_B8 at h
  try dsimp only at h
  refine jt_iload C dX3_leftAfter_8 5 rfl ?_
  refine jt_aload_n C dX3_leftAfter_10 rfl 0 rfl ?_
  refine jt_getI (Tf := TX3) (N := 3) C dX3_leftAfter_11 hr0 rfl i_3 2 (by decide) rfl m_RX3_19 rfl ?_
  refine jt_icmp_ge (tgt := 70) C dX3_leftAfter_14 (by decide) (fun c14 => ?_) (fun c14 => ?_)
  · replace h := jm_ift c14 h
    cases h
    exact jt_sub [] rfl (h2 _ rfl)
  · replace h := jm_iff c14 h
    refine jt_aload_n C dX3_leftAfter_17 rfl 1 rfl ?_
    refine jt_iload C dX3_leftAfter_18 4 rfl ?_
    refine jt_callVi (As := [_]) (rest := []) C hr1 rfl dX3_leftAfter_20 (c_X3_has (jx_l X) k _ _ _ hr1 _ rfl) (k_goodIn (g_RX3_22)) rfl h_X3_has ⟨rfl, rfl, Nat.le_of_ble_eq_true rfl, Nat.le_of_ble_eq_true rfl⟩ rfl rfl (Nat.le_of_ble_eq_true rfl) ?_
    refine jt_if_eq (tgt := 48) C dX3_leftAfter_23 (by decide) (fun c23 => ?_) (fun c23 => ?_)
    · replace h := jm_ift c23 h
      refine jt_iload_n C dX3_leftAfter_48 rfl 3 rfl ?_
      refine jt_iload_n C dX3_leftAfter_49 rfl 2 rfl ?_
      refine jt_icmp_ne (tgt := 61) C dX3_leftAfter_50 (by decide) (fun c50 => ?_) (fun c50 => ?_)
      · replace h := jm_iff c50 h
        refine jt_iinc (v := (1 : Int32)) (lv' := [(3, _), (0, _), (1, _), (2, _), (4, _), (5, _)]) C dX3_leftAfter_61 3 rfl (by decide) (by decide) rfl ?_
        refine jt_iinc (v := (1 : Int32)) (lv' := [(5, _), (3, _), (0, _), (1, _), (2, _), (4, _)]) C dX3_leftAfter_64 5 rfl (by decide) (by decide) rfl ?_
        refine jt_goto (tgt := 8) C dX3_leftAfter_67 (by decide) ?_
        cases h
        exact jt_sub [2, 3, 4, 1, 5, 0] rfl (h1 _ rfl _ _ _ rfl)
      · replace h := jm_ift c50 h
        refine jt_aload_n C dX3_leftAfter_53 rfl 0 rfl ?_
        refine jt_getR (Tf := TX3) (N := 3) C dX3_leftAfter_54 hr0 rfl i_3 0 (by decide) rfl m_RX3_9 rfl ?_
        refine jt_iload C dX3_leftAfter_57 5 rfl ?_
        obtain ⟨x1, ex1, h⟩ := jm_bind h
        refine jt_iald C dX3_leftAfter_59 (jm_f3_0 hr0) ex1 ?_
        cases h
        exact h2 _ rfl _ _ dX3_leftAfter_60
    · replace h := jm_iff c23 h
      refine jt_aload_n C dX3_leftAfter_26 rfl 1 rfl ?_
      refine jt_iload C dX3_leftAfter_27 4 rfl ?_
      obtain ⟨x2, ex2, h⟩ := jm_bind h
      refine jt_callVi (As := [_]) (rest := []) C hr1 rfl dX3_leftAfter_29 (c_X3_codeAt (jx_l X) k _ _ _ hr1 _ ex2) (k_goodIn (g_RX3_49)) rfl h_X3_codeAt ⟨rfl, rfl, Nat.le_of_ble_eq_true rfl, Nat.le_of_ble_eq_true rfl⟩ rfl rfl (Nat.le_of_ble_eq_true rfl) ?_
      refine jt_aload_n C dX3_leftAfter_32 rfl 0 rfl ?_
      refine jt_getR (Tf := TX3) (N := 3) C dX3_leftAfter_33 hr0 rfl i_3 0 (by decide) rfl m_RX3_9 rfl ?_
      refine jt_iload C dX3_leftAfter_36 5 rfl ?_
      obtain ⟨x3, ex3, h⟩ := jm_bind h
      refine jt_iald C dX3_leftAfter_38 (jm_f3_0 hr0) ex3 ?_
      refine jt_icmp_ne (tgt := 48) C dX3_leftAfter_39 (by decide) (fun c39 => ?_) (fun c39 => ?_)
      · replace h := jm_iff c39 h
        refine jt_iload_n C dX3_leftAfter_48 rfl 3 rfl ?_
        refine jt_iload_n C dX3_leftAfter_49 rfl 2 rfl ?_
        refine jt_icmp_ne (tgt := 61) C dX3_leftAfter_50 (by decide) (fun c50 => ?_) (fun c50 => ?_)
        · replace h := jm_iff c50 h
          refine jt_iinc (v := (1 : Int32)) (lv' := [(3, _), (0, _), (1, _), (2, _), (4, _), (5, _)]) C dX3_leftAfter_61 3 rfl (by decide) (by decide) rfl ?_
          refine jt_iinc (v := (1 : Int32)) (lv' := [(5, _), (3, _), (0, _), (1, _), (2, _), (4, _)]) C dX3_leftAfter_64 5 rfl (by decide) (by decide) rfl ?_
          refine jt_goto (tgt := 8) C dX3_leftAfter_67 (by decide) ?_
          cases h
          exact jt_sub [2, 3, 4, 1, 5, 0] rfl (h1 _ rfl _ _ _ rfl)
        · replace h := jm_ift c50 h
          refine jt_aload_n C dX3_leftAfter_53 rfl 0 rfl ?_
          refine jt_getR (Tf := TX3) (N := 3) C dX3_leftAfter_54 hr0 rfl i_3 0 (by decide) rfl m_RX3_9 rfl ?_
          refine jt_iload C dX3_leftAfter_57 5 rfl ?_
          obtain ⟨x4, ex4, h⟩ := jm_bind h
          refine jt_iald C dX3_leftAfter_59 (jm_f3_0 hr0) ex4 ?_
          cases h
          exact h2 _ rfl _ _ dX3_leftAfter_60
      · replace h := jm_ift c39 h
        refine jt_iinc (v := (1 : Int32)) (lv' := [(4, _), (0, _), (1, _), (2, _), (3, _), (5, _)]) C dX3_leftAfter_42 4 rfl (by decide) (by decide) rfl ?_
        refine jt_goto (tgt := 64) C dX3_leftAfter_45 (by decide) ?_
        refine jt_iinc (v := (1 : Int32)) (lv' := [(5, _), (4, _), (0, _), (1, _), (2, _), (3, _)]) C dX3_leftAfter_64 5 rfl (by decide) (by decide) rfl ?_
        refine jt_goto (tgt := 8) C dX3_leftAfter_67 (by decide) ?_
        cases h
        exact jt_sub [2, 3, 4, 5, 1, 0] rfl (h1 _ rfl _ _ _ rfl)
set_option maxHeartbeats 4000000 in
set_option maxRecDepth 100000 in
theorem c_X3_leftAfter (l : Launch) (k : jm_C) (n : Nat) (r0 : Nat) (r1 : Nat) (v2 : Int32) (M : jm_M) (hr0 : jm_is r0 (3, 3)) (hr1 : jm_is r1 (3, 3)) (q : Int32) (h : X3_leftAfter n r0 r1 v2 M = some q) : jm_Ci l k yX3_leftAfter w_X3_leftAfter { frames := 2, cells := 0, slots := 0, locals := 80 } [.ref (jm_ad k r0), .ref (jm_ad k r1), .int v2] M q M := by
  refine jm_entry_i (cc := cX3_leftAfter) (nL := 6) (ret := (some .int)) (by decide) rfl (Nat.le_of_ble_eq_true rfl) ?_
  intro X hX C hQ hr
  subst hX
  unfold X3_leftAfter at h
  refine jt_iconst (v := (0 : Int32)) C dX3_leftAfter_0 (by decide) ?_
  refine jt_istore_n (lv' := [(3, _), (0, _), (1, _), (2, _)]) C dX3_leftAfter_1 rfl (by decide) rfl ?_
  refine jt_iconst (v := (0 : Int32)) C dX3_leftAfter_2 (by decide) ?_
  refine jt_istore (lv' := [(4, _), (3, _), (0, _), (1, _), (2, _)]) C dX3_leftAfter_3 (by decide) rfl ?_
  refine jt_iconst (v := (0 : Int32)) C dX3_leftAfter_5 (by decide) ?_
  refine jt_istore (lv' := [(5, _), (4, _), (3, _), (0, _), (1, _), (2, _)]) C dX3_leftAfter_6 (by decide) rfl ?_
  obtain ⟨q5, eq5, h⟩ := jm_bind h
  refine jt_sub [3, 4, 5, 2, 1, 0] rfl ?_
  refine t_X3_leftAfter_L8 C _ _ _ _ hr0 hr1 n _ _ eq5 ?_ _ _ _ rfl
  rcases q5 with z6 | w7
  · replace h := jm_inl h
    intro pc1 lv1 hp1
    cases h
    exact jt_iret C hp1 hQ hr
  · replace h := jm_inr h
    show jm_T _ _ _ _ _ _ _ _
    refine jt_bipush (v := (-9 : Int32)) C dX3_leftAfter_70 (by decide) ?_
    cases h
    exact jt_iret C dX3_leftAfter_72 hQ hr
theorem h_X8_missing : yX8_missing.cls = RX8 ∧ yX8_missing.cls ≠ "java/lang/invoke/MethodHandle" ∧ yX8_missing.cls ≠ "java/lang/invoke/VarHandle" ∧ (parseMethodDescriptor yX8_missing.desc).map (fun d => d.parameters.length) = some 1 := by decide +kernel
set_option maxHeartbeats 4000000 in
set_option maxRecDepth 100000 in
theorem c_X8_missing (l : Launch) (k : jm_C) (n : Nat) (r0 : Nat) (v1 : Int32) (M : jm_M) (hr0 : jm_is r0 (3, 7)) (q1 : Int32) (q2 : jm_M) (h : X8_missing n r0 v1 M = some (q1, q2)) : jm_Ci l k yX8_missing w_X8_missing { frames := 18, cells := 0, slots := 0, locals := 720 } [.ref (jm_ad k r0), .int v1] M q1 q2 := by
  refine jm_entry_i (cc := cX8_missing) (nL := 2) (ret := (some .int)) (by decide) rfl (Nat.le_of_ble_eq_true rfl) ?_
  intro X hX C hQ hr
  subst hX
  unfold X8_missing at h
  refine jt_iload_n C dX8_missing_0 rfl 1 rfl ?_
  refine jt_if_ge (tgt := 6) C dX8_missing_1 (by decide) (fun c1 => ?_) (fun c1 => ?_)
  · replace h := jm_ift c1 h
    refine jt_aload_n C dX8_missing_6 rfl 0 rfl ?_
    refine jt_getR (Tf := TX8) (N := 8) C dX8_missing_7 hr0 rfl i_8 1 (by decide) rfl m_RX8_19 rfl ?_
    refine jt_callVi (As := []) (rest := []) C (jm_f7_1 hr0) rfl dX8_missing_10 (c_X3_size (jx_l X) k _ _ (jm_f7_1 hr0) _ rfl) (k_goodIn (g_RX8_150)) rfl h_X3_size ⟨rfl, rfl, Nat.le_of_ble_eq_true rfl, Nat.le_of_ble_eq_true rfl⟩ rfl rfl (Nat.le_of_ble_eq_true rfl) ?_
    refine jt_if_ne (tgt := 19) C dX8_missing_13 (by decide) (fun c13 => ?_) (fun c13 => ?_)
    · replace h := jm_iff c13 h
      refine jt_aload_n C dX8_missing_19 rfl 0 rfl ?_
      refine jt_getR (Tf := TX8) (N := 8) C dX8_missing_20 hr0 rfl i_8 6 (by decide) rfl m_RX8_54 rfl ?_
      refine jt_aload_n C dX8_missing_23 rfl 0 rfl ?_
      refine jt_getR (Tf := TX8) (N := 8) C dX8_missing_24 hr0 rfl i_8 1 (by decide) rfl m_RX8_19 rfl ?_
      refine jt_aload_n C dX8_missing_27 rfl 0 rfl ?_
      refine jt_getR (Tf := TX8) (N := 8) C dX8_missing_28 hr0 rfl i_8 1 (by decide) rfl m_RX8_19 rfl ?_
      refine jt_callVi (As := []) (rest := [_, _]) C (jm_f7_1 hr0) rfl dX8_missing_31 (c_X3_everyCard (jx_l X) k _ _ (jm_f7_1 hr0) _ rfl) (k_goodIn (g_RX8_198)) rfl h_X3_everyCard ⟨rfl, rfl, Nat.le_of_ble_eq_true rfl, Nat.le_of_ble_eq_true rfl⟩ rfl rfl (Nat.le_of_ble_eq_true rfl) ?_
      refine jt_aload_n C dX8_missing_34 rfl 0 rfl ?_
      refine jt_getR (Tf := TX8) (N := 8) C dX8_missing_35 hr0 rfl i_8 3 (by decide) rfl m_RX8_33 rfl ?_
      obtain ⟨⟨x1a, x1b⟩, ex1, h⟩ := jm_bind h
      try dsimp only at h
      refine jt_callVi (As := [_, _, _]) (rest := []) C (jm_f7_6 hr0) rfl dX8_missing_38 (c_X0_find (jx_l X) k n _ _ _ _ _ (jm_f7_6 hr0) (jm_f7_1 hr0) (jm_f7_3 hr0) _ _ ex1) (k_goodIn (g_RX8_201)) rfl h_X0_find ⟨rfl, rfl, Nat.le_of_ble_eq_true rfl, Nat.le_of_ble_eq_true rfl⟩ rfl rfl (Nat.le_of_ble_eq_true rfl) ?_
      refine jt_iconst (v := (1 : Int32)) C dX8_missing_41 (by decide) ?_
      refine jt_icmp_eq (tgt := 48) C dX8_missing_42 (by decide) (fun c42 => ?_) (fun c42 => ?_)
      · replace h := jm_ift c42 h
        refine jt_aload_n C dX8_missing_48 rfl 0 rfl ?_
        refine jt_getR (Tf := TX8) (N := 8) C dX8_missing_49 hr0 rfl i_8 6 (by decide) rfl m_RX8_54 rfl ?_
        refine jt_iconst (v := (0 : Int32)) C dX8_missing_52 (by decide) ?_
        refine jt_aload_n C dX8_missing_53 rfl 0 rfl ?_
        refine jt_getR (Tf := TX8) (N := 8) C dX8_missing_54 hr0 rfl i_8 7 (by decide) rfl m_RX8_58 rfl ?_
        refine jt_aload_n C dX8_missing_57 rfl 0 rfl ?_
        refine jt_getR (Tf := TX8) (N := 8) C dX8_missing_58 hr0 rfl i_8 3 (by decide) rfl m_RX8_33 rfl ?_
        obtain ⟨M2, eM2, h⟩ := jm_bind h
        refine jt_callVv (As := [_, _, _]) (rest := []) C (jm_f7_6 hr0) rfl dX8_missing_61 (c_X0_deckOf (jx_l X) k n _ _ _ _ _ (jm_f7_6 hr0) (jm_f7_7 hr0) (jm_f7_3 hr0) _ eM2) (k_goodIn (g_RX8_215)) rfl h_X0_deckOf ⟨rfl, rfl, Nat.le_of_ble_eq_true rfl, Nat.le_of_ble_eq_true rfl⟩ rfl rfl (Nat.le_of_ble_eq_true rfl) ?_
        refine jt_aload_n C dX8_missing_64 rfl 0 rfl ?_
        refine jt_getR (Tf := TX8) (N := 8) C dX8_missing_65 hr0 rfl i_8 7 (by decide) rfl m_RX8_58 rfl ?_
        refine jt_aload_n C dX8_missing_68 rfl 0 rfl ?_
        refine jt_getR (Tf := TX8) (N := 8) C dX8_missing_69 hr0 rfl i_8 1 (by decide) rfl m_RX8_19 rfl ?_
        refine jt_iload_n C dX8_missing_72 rfl 1 rfl ?_
        obtain ⟨x3, ex3, h⟩ := jm_bind h
        refine jt_callVi (As := [_, _]) (rest := []) C (jm_f7_7 hr0) rfl dX8_missing_73 (c_X3_leftAfter (jx_l X) k n _ _ _ _ (jm_f7_7 hr0) (jm_f7_1 hr0) _ ex3) (k_goodIn (g_RX8_219)) rfl h_X3_leftAfter ⟨rfl, rfl, Nat.le_of_ble_eq_true rfl, Nat.le_of_ble_eq_true rfl⟩ rfl rfl (Nat.le_of_ble_eq_true rfl) ?_
        cases h
        exact jt_iret C dX8_missing_76 hQ hr
      · replace h := jm_iff c42 h
        refine jt_bipush (v := (-9 : Int32)) C dX8_missing_45 (by decide) ?_
        cases h
        exact jt_iret C dX8_missing_47 hQ hr
    · replace h := jm_ift c13 h
      refine jt_bipush (v := (-2 : Int32)) C dX8_missing_16 (by decide) ?_
      cases h
      exact jt_iret C dX8_missing_18 hQ hr
  · replace h := jm_iff c1 h
    refine jt_iconst (v := (-1 : Int32)) C dX8_missing_4 (by decide) ?_
    cases h
    exact jt_iret C dX8_missing_5 hQ hr
theorem h_X8_accept : yX8_accept.cls = RX8 ∧ yX8_accept.cls ≠ "java/lang/invoke/MethodHandle" ∧ yX8_accept.cls ≠ "java/lang/invoke/VarHandle" ∧ (parseMethodDescriptor yX8_accept.desc).map (fun d => d.parameters.length) = some 1 := by decide +kernel
set_option maxHeartbeats 4000000 in
set_option maxRecDepth 100000 in
theorem c_X8_accept (l : Launch) (k : jm_C) (n : Nat) (r0 : Nat) (v1 : Int32) (M : jm_M) (hr0 : jm_is r0 (3, 7)) (q1 : Int32) (q2 : jm_M) (h : X8_accept n r0 v1 M = some (q1, q2)) : jm_Ci l k yX8_accept w_X8_accept { frames := 18, cells := 0, slots := 0, locals := 720 } [.ref (jm_ad k r0), .int v1] M q1 q2 := by
  refine jm_entry_i (cc := cX8_accept) (nL := 2) (ret := (some .int)) (by decide) rfl (Nat.le_of_ble_eq_true rfl) ?_
  intro X hX C hQ hr
  subst hX
  unfold X8_accept at h
  refine jt_iload_n C dX8_accept_0 rfl 1 rfl ?_
  refine jt_if_lt (tgt := 40) C dX8_accept_1 (by decide) (fun c1 => ?_) (fun c1 => ?_)
  · replace h := jm_ift c1 h
    refine jt_iconst (v := (-1 : Int32)) C dX8_accept_40 (by decide) ?_
    cases h
    exact jt_iret C dX8_accept_41 hQ hr
  · replace h := jm_iff c1 h
    refine jt_aload_n C dX8_accept_4 rfl 0 rfl ?_
    refine jt_getR (Tf := TX8) (N := 8) C dX8_accept_5 hr0 rfl i_8 1 (by decide) rfl m_RX8_19 rfl ?_
    refine jt_callVi (As := []) (rest := []) C (jm_f7_1 hr0) rfl dX8_accept_8 (c_X3_size (jx_l X) k _ _ (jm_f7_1 hr0) _ rfl) (k_goodIn (g_RX8_150)) rfl h_X3_size ⟨rfl, rfl, Nat.le_of_ble_eq_true rfl, Nat.le_of_ble_eq_true rfl⟩ rfl rfl (Nat.le_of_ble_eq_true rfl) ?_
    refine jt_if_eq (tgt := 40) C dX8_accept_11 (by decide) (fun c11 => ?_) (fun c11 => ?_)
    · replace h := jm_ift c11 h
      refine jt_iconst (v := (-1 : Int32)) C dX8_accept_40 (by decide) ?_
      cases h
      exact jt_iret C dX8_accept_41 hQ hr
    · replace h := jm_iff c11 h
      refine jt_iload_n C dX8_accept_14 rfl 1 rfl ?_
      refine jt_aload_n C dX8_accept_15 rfl 0 rfl ?_
      refine jt_getR (Tf := TX8) (N := 8) C dX8_accept_16 hr0 rfl i_8 6 (by decide) rfl m_RX8_54 rfl ?_
      refine jt_aload_n C dX8_accept_19 rfl 0 rfl ?_
      refine jt_getR (Tf := TX8) (N := 8) C dX8_accept_20 hr0 rfl i_8 1 (by decide) rfl m_RX8_19 rfl ?_
      refine jt_aload_n C dX8_accept_23 rfl 0 rfl ?_
      refine jt_getR (Tf := TX8) (N := 8) C dX8_accept_24 hr0 rfl i_8 1 (by decide) rfl m_RX8_19 rfl ?_
      refine jt_callVi (As := []) (rest := [_, _, _]) C (jm_f7_1 hr0) rfl dX8_accept_27 (c_X3_everyCard (jx_l X) k _ _ (jm_f7_1 hr0) _ rfl) (k_goodIn (g_RX8_198)) rfl h_X3_everyCard ⟨rfl, rfl, Nat.le_of_ble_eq_true rfl, Nat.le_of_ble_eq_true rfl⟩ rfl rfl (Nat.le_of_ble_eq_true rfl) ?_
      refine jt_aload_n C dX8_accept_30 rfl 0 rfl ?_
      refine jt_getR (Tf := TX8) (N := 8) C dX8_accept_31 hr0 rfl i_8 3 (by decide) rfl m_RX8_33 rfl ?_
      obtain ⟨⟨x1a, x1b⟩, ex1, h⟩ := jm_bind h
      try dsimp only at h
      refine jt_callVi (As := [_, _, _]) (rest := [_]) C (jm_f7_6 hr0) rfl dX8_accept_34 (c_X0_find (jx_l X) k n _ _ _ _ _ (jm_f7_6 hr0) (jm_f7_1 hr0) (jm_f7_3 hr0) _ _ ex1) (k_goodIn (g_RX8_201)) rfl h_X0_find ⟨rfl, rfl, Nat.le_of_ble_eq_true rfl, Nat.le_of_ble_eq_true rfl⟩ rfl rfl (Nat.le_of_ble_eq_true rfl) ?_
      refine jt_icmp_lt (tgt := 42) C dX8_accept_37 (by decide) (fun c37 => ?_) (fun c37 => ?_)
      · replace h := jm_ift c37 h
        refine jt_aload_n C dX8_accept_42 rfl 0 rfl ?_
        refine jt_getR (Tf := TX8) (N := 8) C dX8_accept_43 hr0 rfl i_8 2 (by decide) rfl m_RX8_26 rfl ?_
        refine jt_aload_n C dX8_accept_46 rfl 0 rfl ?_
        refine jt_getR (Tf := TX8) (N := 8) C dX8_accept_47 hr0 rfl i_8 0 (by decide) rfl m_RX8_10 rfl ?_
        refine jt_aload_n C dX8_accept_50 rfl 0 rfl ?_
        refine jt_getR (Tf := TX8) (N := 8) C dX8_accept_51 hr0 rfl i_8 1 (by decide) rfl m_RX8_19 rfl ?_
        obtain ⟨M2, eM2, h⟩ := jm_bind h
        refine jt_callVv (As := [_, _]) (rest := []) C (jm_f7_2 hr0) rfl dX8_accept_54 (c_X5_save (jx_l X) k n _ _ _ _ (jm_f7_2 hr0) (jm_f7_0 hr0) (jm_f7_1 hr0) _ eM2) (k_goodIn (g_RX8_65)) rfl h_X5_save ⟨rfl, rfl, Nat.le_of_ble_eq_true rfl, Nat.le_of_ble_eq_true rfl⟩ rfl rfl (Nat.le_of_ble_eq_true rfl) ?_
        refine jt_aload_n C dX8_accept_57 rfl 0 rfl ?_
        refine jt_getR (Tf := TX8) (N := 8) C dX8_accept_58 hr0 rfl i_8 0 (by decide) rfl m_RX8_10 rfl ?_
        refine jt_aload_n C dX8_accept_61 rfl 0 rfl ?_
        refine jt_getR (Tf := TX8) (N := 8) C dX8_accept_62 hr0 rfl i_8 1 (by decide) rfl m_RX8_19 rfl ?_
        refine jt_callVi (As := []) (rest := [_]) C (jm_f7_1 hr0) rfl dX8_accept_65 (c_X3_h (jx_l X) k _ _ (jm_f7_1 hr0) _ rfl) (k_goodIn (g_RX8_159)) rfl h_X3_h ⟨rfl, rfl, Nat.le_of_ble_eq_true rfl, Nat.le_of_ble_eq_true rfl⟩ rfl rfl (Nat.le_of_ble_eq_true rfl) ?_
        refine jt_aload_n C dX8_accept_68 rfl 0 rfl ?_
        refine jt_getR (Tf := TX8) (N := 8) C dX8_accept_69 hr0 rfl i_8 6 (by decide) rfl m_RX8_54 rfl ?_
        refine jt_iload_n C dX8_accept_72 rfl 1 rfl ?_
        obtain ⟨x3, ex3, h⟩ := jm_bind h
        refine jt_callVi (As := [_]) (rest := [_, _]) C (jm_f7_6 hr0) rfl dX8_accept_73 (c_X0_codeAt (jx_l X) k _ _ _ (jm_f7_6 hr0) _ ex3) (k_goodIn (g_RX8_214)) rfl h_X0_codeAt ⟨rfl, rfl, Nat.le_of_ble_eq_true rfl, Nat.le_of_ble_eq_true rfl⟩ rfl rfl (Nat.le_of_ble_eq_true rfl) ?_
        obtain ⟨M4, eM4, h⟩ := jm_bind h
        refine jt_callVv (As := [_, _]) (rest := []) C (jm_f7_0 hr0) rfl dX8_accept_76 (c_X4_load (jx_l X) k n _ _ _ _ (jm_f7_0 hr0) _ eM4) (k_goodIn (g_RX8_69)) rfl h_X4_load ⟨rfl, rfl, Nat.le_of_ble_eq_true rfl, Nat.le_of_ble_eq_true rfl⟩ rfl rfl (Nat.le_of_ble_eq_true rfl) ?_
        refine jt_aload_n C dX8_accept_79 rfl 0 rfl ?_
        refine jt_getR (Tf := TX8) (N := 8) C dX8_accept_80 hr0 rfl i_8 0 (by decide) rfl m_RX8_10 rfl ?_
        obtain ⟨x5, ex5, h⟩ := jm_bind h
        refine jt_callVi (As := []) (rest := []) C (jm_f7_0 hr0) rfl dX8_accept_83 (c_X4_edges (jx_l X) k n _ _ (jm_f7_0 hr0) _ ex5) (k_goodIn (g_RX8_96)) rfl h_X4_edges ⟨rfl, rfl, Nat.le_of_ble_eq_true rfl, Nat.le_of_ble_eq_true rfl⟩ rfl rfl (Nat.le_of_ble_eq_true rfl) ?_
        cases h
        exact jt_iret C dX8_accept_86 hQ hr
      · replace h := jm_iff c37 h
        refine jt_iconst (v := (-1 : Int32)) C dX8_accept_40 (by decide) ?_
        cases h
        exact jt_iret C dX8_accept_41 hQ hr
theorem h_X9_isIn : yX9_isIn.cls ≠ "java/lang/invoke/MethodHandle" ∧ yX9_isIn.cls ≠ "java/lang/invoke/VarHandle" ∧ (parseMethodDescriptor yX9_isIn.desc).map (fun d => d.parameters.length) = some 3 := by decide +kernel
set_option maxHeartbeats 4000000 in
set_option maxRecDepth 100000 in
theorem c_X9_isIn (l : Launch) (k : jm_C) (v0 : Int32) (v1 : Int32) (v2 : Int32) (M : jm_M)  (q : Int32) (h : X9_isIn v0 v1 v2 = q) : jm_Ci l k yX9_isIn w_X9_isIn { frames := 0, cells := 0, slots := 0, locals := 0 } [.int v0, .int v1, .int v2] M q M := by
  refine jm_entry_i (cc := cX9_isIn) (nL := 3) (ret := (some .boolean)) (by decide) rfl (Nat.le_of_ble_eq_true rfl) ?_
  intro X hX C hQ hr
  subst hX
  unfold X9_isIn at h
  refine jt_iload_n C dX9_isIn_0 rfl 0 rfl ?_
  refine jt_iload_n C dX9_isIn_1 rfl 1 rfl ?_
  refine jt_icmp_lt (tgt := 14) C dX9_isIn_2 (by decide) (fun c2 => ?_) (fun c2 => ?_)
  · replace h := jm_ift c2 h
    refine jt_iconst (v := (0 : Int32)) C dX9_isIn_14 (by decide) ?_
    subst h
    exact jt_zret C dX9_isIn_15 hQ hr (Or.inl rfl)
  · replace h := jm_iff c2 h
    refine jt_iload_n C dX9_isIn_5 rfl 0 rfl ?_
    refine jt_iload_n C dX9_isIn_6 rfl 2 rfl ?_
    refine jt_icmp_gt (tgt := 14) C dX9_isIn_7 (by decide) (fun c7 => ?_) (fun c7 => ?_)
    · replace h := jm_ift c7 h
      refine jt_iconst (v := (0 : Int32)) C dX9_isIn_14 (by decide) ?_
      subst h
      exact jt_zret C dX9_isIn_15 hQ hr (Or.inl rfl)
    · replace h := jm_iff c7 h
      refine jt_iconst (v := (1 : Int32)) C dX9_isIn_10 (by decide) ?_
      refine jt_goto (tgt := 15) C dX9_isIn_11 (by decide) ?_
      subst h
      exact jt_zret C dX9_isIn_15 hQ hr (Or.inr rfl)
theorem h_X9_pairs : yX9_pairs.cls ≠ "java/lang/invoke/MethodHandle" ∧ yX9_pairs.cls ≠ "java/lang/invoke/VarHandle" ∧ (parseMethodDescriptor yX9_pairs.desc).map (fun d => d.parameters.length) = some 1 := by decide +kernel
set_option maxHeartbeats 4000000 in
set_option maxRecDepth 100000 in
theorem c_X9_pairs (l : Launch) (k : jm_C) (v0 : Int32) (M : jm_M)  (q : Int32) (h : X9_pairs v0 = q) : jm_Ci l k yX9_pairs w_X9_pairs { frames := 0, cells := 0, slots := 0, locals := 0 } [.int v0] M q M := by
  refine jm_entry_i (cc := cX9_pairs) (nL := 1) (ret := (some .int)) (by decide) rfl (Nat.le_of_ble_eq_true rfl) ?_
  intro X hX C hQ hr
  subst hX
  unfold X9_pairs at h
  refine jt_iload_n C dX9_pairs_0 rfl 0 rfl ?_
  refine jt_iload_n C dX9_pairs_1 rfl 0 rfl ?_
  refine jt_iconst (v := (1 : Int32)) C dX9_pairs_2 (by decide) ?_
  refine jt_isub C dX9_pairs_3 ?_
  refine jt_imul C dX9_pairs_4 ?_
  refine jt_iconst (v := (2 : Int32)) C dX9_pairs_5 (by decide) ?_
  refine jt_idiv C dX9_pairs_6 (if_neg (by decide)) ?_
  subst h
  exact jt_iret C dX9_pairs_7 hQ hr
theorem h_X9_isVertex : yX9_isVertex.cls = RX9 ∧ yX9_isVertex.cls ≠ "java/lang/invoke/MethodHandle" ∧ yX9_isVertex.cls ≠ "java/lang/invoke/VarHandle" ∧ (parseMethodDescriptor yX9_isVertex.desc).map (fun d => d.parameters.length) = some 1 := by decide +kernel
set_option maxHeartbeats 4000000 in
set_option maxRecDepth 100000 in
theorem c_X9_isVertex (l : Launch) (k : jm_C) (r0 : Nat) (v1 : Int32) (M : jm_M) (hr0 : jm_is r0 (3, 8)) (q : Int32) (h : X9_isVertex r0 v1 M = some q) : jm_Ci l k yX9_isVertex w_X9_isVertex { frames := 1, cells := 0, slots := 0, locals := 40 } [.ref (jm_ad k r0), .int v1] M q M := by
  refine jm_entry_i (cc := cX9_isVertex) (nL := 2) (ret := (some .boolean)) (by decide) rfl (Nat.le_of_ble_eq_true rfl) ?_
  intro X hX C hQ hr
  subst hX
  unfold X9_isVertex at h
  refine jt_iload_n C dX9_isVertex_0 rfl 1 rfl ?_
  refine jt_iconst (v := (0 : Int32)) C dX9_isVertex_1 (by decide) ?_
  refine jt_aload_n C dX9_isVertex_2 rfl 0 rfl ?_
  refine jt_getR (Tf := TX9) (N := 17) C dX9_isVertex_3 hr0 rfl i_9 0 (by decide) rfl m_RX9_7 rfl ?_
  refine jt_iconst (v := (0 : Int32)) C dX9_isVertex_6 (by decide) ?_
  obtain ⟨x1, ex1, h⟩ := jm_bind h
  refine jt_iald C dX9_isVertex_7 (jm_f8_0 hr0) ex1 ?_
  refine jt_iconst (v := (1 : Int32)) C dX9_isVertex_8 (by decide) ?_
  refine jt_isub C dX9_isVertex_9 ?_
  refine jt_callSi (As := [_, _, _]) (rest := []) C dX9_isVertex_10 (c_X9_isIn (jx_l X) k _ _ _ _ _ rfl) (k_goodIn (g_RX9_50)) rfl h_X9_isIn ⟨rfl, rfl, Nat.le_of_ble_eq_true rfl, Nat.le_of_ble_eq_true rfl⟩ rfl rfl (Nat.le_of_ble_eq_true rfl) ?_
  obtain ⟨x2, ex2, h⟩ := jm_bind h
  cases h
  obtain ⟨hz, rfl⟩ := jm_zb_s ex2
  exact jt_zret C dX9_isVertex_13 hQ hr hz
theorem h_X9_remember : yX9_remember.cls = RX9 ∧ yX9_remember.cls ≠ "java/lang/invoke/MethodHandle" ∧ yX9_remember.cls ≠ "java/lang/invoke/VarHandle" ∧ (parseMethodDescriptor yX9_remember.desc).map (fun d => d.parameters.length) = some 0 := by decide +kernel
set_option maxHeartbeats 4000000 in
set_option maxRecDepth 100000 in
theorem t_X9_remember_L50 {X : jm_X} {k : jm_C} (C : jm_Cx X k cX9_remember 2 RX9 w_X9_remember) (r0 : Nat) (hr0 : jm_is r0 (3, 8)) : ∀ (m : Nat) (s : Int32 × jm_M) (r : jm_M), jm_loop (X9_remember_B50 r0) m s = some r → jm_T X { frames := 0, cells := 0, slots := 0, locals := 0 } k 2 r 82 [(0, .ref (jm_ad k r0))] [] → (∀ (b0 : Int32) (b1 : jm_M), s = (b0, b1) → jm_T X { frames := 0, cells := 0, slots := 0, locals := 0 } k 2 b1 50 [(0, .ref (jm_ad k r0)), (1, .int b0)] []) := by
  refine jm_loop_ind (P := fun (s : Int32 × jm_M) => (∀ (b0 : Int32) (b1 : jm_M), s = (b0, b1) → jm_T X { frames := 0, cells := 0, slots := 0, locals := 0 } k 2 b1 50 [(0, .ref (jm_ad k r0)), (1, .int b0)] [])) (K := fun (r : jm_M) => jm_T X { frames := 0, cells := 0, slots := 0, locals := 0 } k 2 r 82 [(0, .ref (jm_ad k r0))] []) ?_
  intro s q h h1 h2
  intro b0 b1 hs
  subst hs
  unfold X9_remember_B50 at h
  try dsimp only at h
  refine jt_iload_n C dX9_remember_50 rfl 1 rfl ?_
  refine jt_bipush (v := (10 : Int32)) C dX9_remember_51 (by decide) ?_
  refine jt_icmp_ge (tgt := 82) C dX9_remember_53 (by decide) (fun c53 => ?_) (fun c53 => ?_)
  · replace h := jm_ift c53 h
    cases h
    exact jt_sub [0] rfl (h2 _ rfl)
  · replace h := jm_iff c53 h
    refine jt_aload_n C dX9_remember_56 rfl 0 rfl ?_
    refine jt_getR (Tf := TX9) (N := 17) C dX9_remember_57 hr0 rfl i_9 1 (by decide) rfl m_RX9_13 rfl ?_
    refine jt_bipush (v := (10 : Int32)) C dX9_remember_60 (by decide) ?_
    refine jt_aload_n C dX9_remember_62 rfl 0 rfl ?_
    refine jt_getI (Tf := TX9) (N := 17) C dX9_remember_63 hr0 rfl i_9 2 (by decide) rfl m_RX9_54 rfl ?_
    refine jt_imul C dX9_remember_66 ?_
    refine jt_iload_n C dX9_remember_67 rfl 1 rfl ?_
    refine jt_iadd C dX9_remember_68 ?_
    refine jt_aload_n C dX9_remember_69 rfl 0 rfl ?_
    refine jt_getR (Tf := TX9) (N := 17) C dX9_remember_70 hr0 rfl i_9 0 (by decide) rfl m_RX9_7 rfl ?_
    refine jt_iload_n C dX9_remember_73 rfl 1 rfl ?_
    obtain ⟨x1, ex1, h⟩ := jm_bind h
    refine jt_iald C dX9_remember_74 (jm_f8_0 hr0) ex1 ?_
    obtain ⟨M2, eM2, h⟩ := jm_bind h
    refine jt_iast C dX9_remember_75 (jm_f8_1 hr0) eM2 ?_
    refine jt_iinc (v := (1 : Int32)) (lv' := [(1, _), (0, _)]) C dX9_remember_76 1 rfl (by decide) (by decide) rfl ?_
    refine jt_goto (tgt := 50) C dX9_remember_79 (by decide) ?_
    cases h
    exact jt_sub [1, 0] rfl (h1 _ rfl _ _ rfl)
set_option maxHeartbeats 4000000 in
set_option maxRecDepth 100000 in
theorem t_X9_remember_L11 {X : jm_X} {k : jm_C} (C : jm_Cx X k cX9_remember 2 RX9 w_X9_remember) (r0 : Nat) (hr0 : jm_is r0 (3, 8)) : ∀ (m : Nat) (s : Int32 × jm_M) (r : jm_M), jm_loop (X9_remember_B11 r0) m s = some r → jm_T X { frames := 0, cells := 0, slots := 0, locals := 0 } k 2 r 38 [(0, .ref (jm_ad k r0))] [] → (∀ (b0 : Int32) (b1 : jm_M), s = (b0, b1) → jm_T X { frames := 0, cells := 0, slots := 0, locals := 0 } k 2 b1 11 [(0, .ref (jm_ad k r0)), (1, .int b0)] []) := by
  refine jm_loop_ind (P := fun (s : Int32 × jm_M) => (∀ (b0 : Int32) (b1 : jm_M), s = (b0, b1) → jm_T X { frames := 0, cells := 0, slots := 0, locals := 0 } k 2 b1 11 [(0, .ref (jm_ad k r0)), (1, .int b0)] [])) (K := fun (r : jm_M) => jm_T X { frames := 0, cells := 0, slots := 0, locals := 0 } k 2 r 38 [(0, .ref (jm_ad k r0))] []) ?_
  intro s q h h1 h2
  intro b0 b1 hs
  subst hs
  unfold X9_remember_B11 at h
  try dsimp only at h
  refine jt_iload_n C dX9_remember_11 rfl 1 rfl ?_
  refine jt_bipush (v := (70 : Int32)) C dX9_remember_12 (by decide) ?_
  refine jt_icmp_ge (tgt := 38) C dX9_remember_14 (by decide) (fun c14 => ?_) (fun c14 => ?_)
  · replace h := jm_ift c14 h
    cases h
    exact jt_sub [0] rfl (h2 _ rfl)
  · replace h := jm_iff c14 h
    refine jt_aload_n C dX9_remember_17 rfl 0 rfl ?_
    refine jt_getR (Tf := TX9) (N := 17) C dX9_remember_18 hr0 rfl i_9 1 (by decide) rfl m_RX9_13 rfl ?_
    refine jt_iload_n C dX9_remember_21 rfl 1 rfl ?_
    refine jt_aload_n C dX9_remember_22 rfl 0 rfl ?_
    refine jt_getR (Tf := TX9) (N := 17) C dX9_remember_23 hr0 rfl i_9 1 (by decide) rfl m_RX9_13 rfl ?_
    refine jt_iload_n C dX9_remember_26 rfl 1 rfl ?_
    refine jt_bipush (v := (10 : Int32)) C dX9_remember_27 (by decide) ?_
    refine jt_iadd C dX9_remember_29 ?_
    obtain ⟨x4, ex4, h⟩ := jm_bind h
    refine jt_iald C dX9_remember_30 (jm_f8_1 hr0) ex4 ?_
    obtain ⟨M5, eM5, h⟩ := jm_bind h
    refine jt_iast C dX9_remember_31 (jm_f8_1 hr0) eM5 ?_
    refine jt_iinc (v := (1 : Int32)) (lv' := [(1, _), (0, _)]) C dX9_remember_32 1 rfl (by decide) (by decide) rfl ?_
    refine jt_goto (tgt := 11) C dX9_remember_35 (by decide) ?_
    cases h
    exact jt_sub [1, 0] rfl (h1 _ rfl _ _ rfl)
set_option maxHeartbeats 4000000 in
set_option maxRecDepth 100000 in
theorem c_X9_remember (l : Launch) (k : jm_C) (n : Nat) (r0 : Nat) (M : jm_M) (hr0 : jm_is r0 (3, 8)) (q : jm_M) (h : X9_remember n r0 M = some q) : jm_Cv l k yX9_remember w_X9_remember { frames := 0, cells := 0, slots := 0, locals := 0 } [.ref (jm_ad k r0)] M q := by
  refine jm_entry_v (cc := cX9_remember) (nL := 2) (ret := none) (by decide) rfl (Nat.le_of_ble_eq_true rfl) ?_
  intro X hX C hQ hr
  subst hX
  unfold X9_remember at h
  refine jt_aload_n C dX9_remember_0 rfl 0 rfl ?_
  refine jt_getI (Tf := TX9) (N := 17) C dX9_remember_1 hr0 rfl i_9 2 (by decide) rfl m_RX9_54 rfl ?_
  refine jt_bipush (v := (8 : Int32)) C dX9_remember_4 (by decide) ?_
  refine jt_icmp_ne (tgt := 48) C dX9_remember_6 (by decide) (fun c6 => ?_) (fun c6 => ?_)
  · replace h := jm_iff c6 h
    refine jt_iconst (v := (0 : Int32)) C dX9_remember_48 (by decide) ?_
    refine jt_istore_n (lv' := [(1, _), (0, _)]) C dX9_remember_49 rfl (by decide) rfl ?_
    obtain ⟨q3, eq3, h⟩ := jm_bind h
    refine jt_sub [1, 0] rfl ?_
    refine t_X9_remember_L50 C _ hr0 n _ _ eq3 ?_ _ _ rfl
    refine jt_aload_n C dX9_remember_82 rfl 0 rfl ?_
    refine jt_dup C dX9_remember_83 rfl ?_
    refine jt_getI (Tf := TX9) (N := 17) C dX9_remember_84 hr0 rfl i_9 2 (by decide) rfl m_RX9_54 rfl ?_
    refine jt_iconst (v := (1 : Int32)) C dX9_remember_87 (by decide) ?_
    refine jt_iadd C dX9_remember_88 ?_
    refine jt_putI (Tf := TX9) (N := 17) C dX9_remember_89 hr0 rfl i_9 tyX9 tyX9_ok nmX9 2 (by decide) rfl m_RX9_54 rfl rfl (by decide +kernel) ?_
    cases h
    exact jt_vret C dX9_remember_92 hQ hr
  · replace h := jm_ift c6 h
    refine jt_iconst (v := (0 : Int32)) C dX9_remember_9 (by decide) ?_
    refine jt_istore_n (lv' := [(1, _), (0, _)]) C dX9_remember_10 rfl (by decide) rfl ?_
    obtain ⟨q6, eq6, h⟩ := jm_bind h
    refine jt_sub [1, 0] rfl ?_
    refine t_X9_remember_L11 C _ hr0 n _ _ eq6 ?_ _ _ rfl
    refine jt_aload_n C dX9_remember_38 rfl 0 rfl ?_
    refine jt_dup C dX9_remember_39 rfl ?_
    refine jt_getI (Tf := TX9) (N := 17) C dX9_remember_40 hr0 rfl i_9 2 (by decide) rfl m_RX9_54 rfl ?_
    refine jt_iconst (v := (1 : Int32)) C dX9_remember_43 (by decide) ?_
    refine jt_isub C dX9_remember_44 ?_
    refine jt_putI (Tf := TX9) (N := 17) C dX9_remember_45 hr0 rfl i_9 tyX9 tyX9_ok nmX9 2 (by decide) rfl m_RX9_54 rfl rfl (by decide +kernel) ?_
    refine jt_iconst (v := (0 : Int32)) C dX9_remember_48 (by decide) ?_
    refine jt_istore_n (lv' := [(1, _), (0, _)]) C dX9_remember_49 rfl (by decide) rfl ?_
    obtain ⟨q7, eq7, h⟩ := jm_bind h
    refine jt_sub [1, 0] rfl ?_
    refine t_X9_remember_L50 C _ hr0 n _ _ eq7 ?_ _ _ rfl
    refine jt_aload_n C dX9_remember_82 rfl 0 rfl ?_
    refine jt_dup C dX9_remember_83 rfl ?_
    refine jt_getI (Tf := TX9) (N := 17) C dX9_remember_84 hr0 rfl i_9 2 (by decide) rfl m_RX9_54 rfl ?_
    refine jt_iconst (v := (1 : Int32)) C dX9_remember_87 (by decide) ?_
    refine jt_iadd C dX9_remember_88 ?_
    refine jt_putI (Tf := TX9) (N := 17) C dX9_remember_89 hr0 rfl i_9 tyX9 tyX9_ok nmX9 2 (by decide) rfl m_RX9_54 rfl rfl (by decide +kernel) ?_
    cases h
    exact jt_vret C dX9_remember_92 hQ hr
