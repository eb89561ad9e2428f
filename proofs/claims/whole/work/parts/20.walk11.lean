theorem h_X9_copiesIn : yX9_copiesIn.cls = RX9 ∧ yX9_copiesIn.cls ≠ "java/lang/invoke/MethodHandle" ∧ yX9_copiesIn.cls ≠ "java/lang/invoke/VarHandle" ∧ (parseMethodDescriptor yX9_copiesIn.desc).map (fun d => d.parameters.length) = some 3 := by decide +kernel
set_option maxHeartbeats 4000000 in
set_option maxRecDepth 100000 in
theorem t_X9_copiesIn_L3 {X : jm_X} {k : jm_C} (C : jm_Cx X k cX9_copiesIn 8 RX9 w_X9_copiesIn) (n : Nat) (r0 : Nat) (v1 : Int32) (v2 : Int32) (v3 : Int32) (hr0 : jm_is r0 (3, 8)) : ∀ (m : Nat) (s : Int32 × jm_M) (r : jm_M), jm_loop (X9_copiesIn_B3 n r0 v1 v2 v3) m s = some r → jm_T X { frames := 4, cells := 0, slots := 0, locals := 160 } k 8 r 40 [(0, .ref (jm_ad k r0)), (1, .int v1), (2, .int v2), (3, .int v3)] [] → (∀ (b0 : Int32) (b1 : jm_M), s = (b0, b1) → jm_T X { frames := 4, cells := 0, slots := 0, locals := 160 } k 8 b1 3 [(0, .ref (jm_ad k r0)), (1, .int v1), (2, .int v2), (3, .int v3), (4, .int b0)] []) := by
  refine jm_loop_ind (P := fun (s : Int32 × jm_M) => (∀ (b0 : Int32) (b1 : jm_M), s = (b0, b1) → jm_T X { frames := 4, cells := 0, slots := 0, locals := 160 } k 8 b1 3 [(0, .ref (jm_ad k r0)), (1, .int v1), (2, .int v2), (3, .int v3), (4, .int b0)] [])) (K := fun (r : jm_M) => jm_T X { frames := 4, cells := 0, slots := 0, locals := 160 } k 8 r 40 [(0, .ref (jm_ad k r0)), (1, .int v1), (2, .int v2), (3, .int v3)] []) ?_
  intro s q h h1 h2
  intro b0 b1 hs
  subst hs
  unfold X9_copiesIn_B3 at h
  try dsimp only at h
  refine jt_iload C dX9_copiesIn_3 4 rfl ?_
  refine jt_bipush (v := (8 : Int32)) C dX9_copiesIn_5 (by decide) ?_
  refine jt_icmp_ge (tgt := 40) C dX9_copiesIn_7 (by decide) (fun c7 => ?_) (fun c7 => ?_)
  · replace h := jm_ift c7 h
    cases h
    exact jt_sub [0, 1, 2, 3] rfl (h2 _ rfl)
  · replace h := jm_iff c7 h
    refine jt_aload_n C dX9_copiesIn_10 rfl 0 rfl ?_
    refine jt_getR (Tf := TX9) (N := 17) C dX9_copiesIn_11 hr0 rfl i_9 3 (by decide) rfl m_RX9_16 rfl ?_
    refine jt_iload C dX9_copiesIn_14 4 rfl ?_
    refine jt_iload C dX9_copiesIn_16 4 rfl ?_
    refine jt_iload_n C dX9_copiesIn_18 rfl 1 rfl ?_
    refine jt_icmp_ge (tgt := 32) C dX9_copiesIn_19 (by decide) (fun c19 => ?_) (fun c19 => ?_)
    · replace h := jm_ift c19 h
      refine jt_iconst (v := (0 : Int32)) C dX9_copiesIn_32 (by decide) ?_
      obtain ⟨M1, eM1, h⟩ := jm_bind h
      refine jt_iast C dX9_copiesIn_33 (jm_f8_3 hr0) eM1 ?_
      refine jt_iinc (v := (1 : Int32)) (lv' := [(4, _), (0, _), (1, _), (2, _), (3, _)]) C dX9_copiesIn_34 4 rfl (by decide) (by decide) rfl ?_
      refine jt_goto (tgt := 3) C dX9_copiesIn_37 (by decide) ?_
      cases h
      exact jt_sub [1, 2, 3, 4, 0] rfl (h1 _ rfl _ _ rfl)
    · replace h := jm_iff c19 h
      refine jt_iload_n C dX9_copiesIn_22 rfl 1 rfl ?_
      refine jt_iload_n C dX9_copiesIn_23 rfl 2 rfl ?_
      refine jt_iload C dX9_copiesIn_24 4 rfl ?_
      obtain ⟨x2, ex2, h⟩ := jm_bind h
      refine jt_callSi (As := [_, _, _]) (rest := [_, _]) C dX9_copiesIn_26 (c_X9_neighbours (jx_l X) k n _ _ _ _ _ ex2) (k_goodIn (g_RX9_77)) rfl h_X9_neighbours ⟨rfl, rfl, Nat.le_of_ble_eq_true rfl, Nat.le_of_ble_eq_true rfl⟩ rfl rfl (Nat.le_of_ble_eq_true rfl) ?_
      refine jt_goto (tgt := 33) C dX9_copiesIn_29 (by decide) ?_
      obtain ⟨M3, eM3, h⟩ := jm_bind h
      refine jt_iast C dX9_copiesIn_33 (jm_f8_3 hr0) eM3 ?_
      refine jt_iinc (v := (1 : Int32)) (lv' := [(4, _), (0, _), (1, _), (2, _), (3, _)]) C dX9_copiesIn_34 4 rfl (by decide) (by decide) rfl ?_
      refine jt_goto (tgt := 3) C dX9_copiesIn_37 (by decide) ?_
      cases h
      exact jt_sub [1, 2, 3, 4, 0] rfl (h1 _ rfl _ _ rfl)
set_option maxHeartbeats 4000000 in
set_option maxRecDepth 100000 in
theorem t_X9_copiesIn_L120 {X : jm_X} {k : jm_C} (C : jm_Cx X k cX9_copiesIn 8 RX9 w_X9_copiesIn) (n : Nat) (r0 : Nat) (v1 : Int32) (v3 : Int32) (v4 : Int32) (v6 : Int32) (M : jm_M) (hr0 : jm_is r0 (3, 8)) : ∀ (m : Nat) (s : Int32 × Int32) (r : Int32), jm_loop (X9_copiesIn_B120 n r0 v1 v3 v4 v6 M) m s = some r → jm_T X { frames := 4, cells := 0, slots := 0, locals := 160 } k 8 M 152 [(0, .ref (jm_ad k r0)), (1, .int v1), (3, .int v3), (4, .int v4), (5, .int r), (6, .int v6)] [] → (∀ (b0 : Int32) (b1 : Int32), s = (b0, b1) → jm_T X { frames := 4, cells := 0, slots := 0, locals := 160 } k 8 M 120 [(0, .ref (jm_ad k r0)), (1, .int v1), (3, .int v3), (4, .int v4), (5, .int b0), (6, .int v6), (7, .int b1)] []) := by
  refine jm_loop_ind (P := fun (s : Int32 × Int32) => (∀ (b0 : Int32) (b1 : Int32), s = (b0, b1) → jm_T X { frames := 4, cells := 0, slots := 0, locals := 160 } k 8 M 120 [(0, .ref (jm_ad k r0)), (1, .int v1), (3, .int v3), (4, .int v4), (5, .int b0), (6, .int v6), (7, .int b1)] [])) (K := fun (r : Int32) => jm_T X { frames := 4, cells := 0, slots := 0, locals := 160 } k 8 M 152 [(0, .ref (jm_ad k r0)), (1, .int v1), (3, .int v3), (4, .int v4), (5, .int r), (6, .int v6)] []) ?_
  intro s q h h1 h2
  intro b0 b1 hs
  subst hs
  unfold X9_copiesIn_B120 at h
  try dsimp only at h
  refine jt_iload C dX9_copiesIn_120 6 rfl ?_
  refine jt_iload C dX9_copiesIn_122 5 rfl ?_
  refine jt_icmp_ge (tgt := 152) C dX9_copiesIn_124 (by decide) (fun c124 => ?_) (fun c124 => ?_)
  · replace h := jm_ift c124 h
    cases h
    exact jt_sub [0, 1, 2, 3, 4, 5] rfl (h2 _ rfl)
  · replace h := jm_iff c124 h
    refine jt_iload C dX9_copiesIn_127 3 rfl ?_
    refine jt_if_ne (tgt := 152) C dX9_copiesIn_129 (by decide) (fun c129 => ?_) (fun c129 => ?_)
    · replace h := jm_iff c129 h
      cases h
      exact jt_sub [0, 1, 2, 3, 4, 5] rfl (h2 _ rfl)
    · replace h := jm_ift c129 h
      refine jt_iload C dX9_copiesIn_132 4 rfl ?_
      refine jt_aload_n C dX9_copiesIn_134 rfl 0 rfl ?_
      refine jt_iload C dX9_copiesIn_135 6 rfl ?_
      refine jt_iload C dX9_copiesIn_137 5 rfl ?_
      refine jt_iload_n C dX9_copiesIn_139 rfl 2 rfl ?_
      obtain ⟨x5, ex5, h⟩ := jm_bind h
      refine jt_callVi (As := [_, _, _]) (rest := [_]) C hr0 rfl dX9_copiesIn_140 (c_X9_ofPair (jx_l X) k n _ _ _ _ _ hr0 _ ex5) (k_goodIn (g_RX9_155)) rfl h_X9_ofPair ⟨rfl, rfl, Nat.le_of_ble_eq_true rfl, Nat.le_of_ble_eq_true rfl⟩ rfl rfl (Nat.le_of_ble_eq_true rfl) ?_
      refine jt_iadd C dX9_copiesIn_143 ?_
      refine jt_istore (lv' := [(5, _), (0, _), (1, _), (3, _), (4, _), (6, _), (7, _)]) C dX9_copiesIn_144 (by decide) rfl ?_
      refine jt_iinc (v := (1 : Int32)) (lv' := [(7, _), (5, _), (0, _), (1, _), (3, _), (4, _), (6, _)]) C dX9_copiesIn_146 6 rfl (by decide) (by decide) rfl ?_
      refine jt_goto (tgt := 120) C dX9_copiesIn_149 (by decide) ?_
      cases h
      exact jt_sub [2, 3, 4, 5, 1, 6, 0] rfl (h1 _ rfl _ _ rfl)
set_option maxHeartbeats 4000000 in
set_option maxRecDepth 100000 in
theorem t_X9_copiesIn_L89 {X : jm_X} {k : jm_C} (C : jm_Cx X k cX9_copiesIn 8 RX9 w_X9_copiesIn) (n : Nat) (r0 : Nat) (v1 : Int32) (v3 : Int32) (v4 : Int32) (M : jm_M) (hr0 : jm_is r0 (3, 8)) : ∀ (m : Nat) (s : Int32 × Int32) (r : Int32), jm_loop (X9_copiesIn_B89 n r0 v1 v3 v4 M) m s = some r → jm_T X { frames := 4, cells := 0, slots := 0, locals := 160 } k 8 M 158 [(0, .ref (jm_ad k r0)), (1, .int v1), (3, .int v3), (5, .int r)] [] → (∀ (b0 : Int32) (b1 : Int32), s = (b0, b1) → jm_T X { frames := 4, cells := 0, slots := 0, locals := 160 } k 8 M 89 [(0, .ref (jm_ad k r0)), (1, .int v1), (3, .int v3), (4, .int v4), (5, .int b0), (6, .int b1)] []) := by
  refine jm_loop_ind (P := fun (s : Int32 × Int32) => (∀ (b0 : Int32) (b1 : Int32), s = (b0, b1) → jm_T X { frames := 4, cells := 0, slots := 0, locals := 160 } k 8 M 89 [(0, .ref (jm_ad k r0)), (1, .int v1), (3, .int v3), (4, .int v4), (5, .int b0), (6, .int b1)] [])) (K := fun (r : Int32) => jm_T X { frames := 4, cells := 0, slots := 0, locals := 160 } k 8 M 158 [(0, .ref (jm_ad k r0)), (1, .int v1), (3, .int v3), (5, .int r)] []) ?_
  intro s q h h1 h2
  intro b0 b1 hs
  subst hs
  unfold X9_copiesIn_B89 at h
  try dsimp only at h
  refine jt_iload C dX9_copiesIn_89 5 rfl ?_
  refine jt_iload_n C dX9_copiesIn_91 rfl 1 rfl ?_
  refine jt_icmp_ge (tgt := 158) C dX9_copiesIn_92 (by decide) (fun c92 => ?_) (fun c92 => ?_)
  · replace h := jm_ift c92 h
    cases h
    exact jt_sub [0, 1, 2, 4] rfl (h2 _ rfl)
  · replace h := jm_iff c92 h
    refine jt_iload C dX9_copiesIn_95 4 rfl ?_
    refine jt_iload C dX9_copiesIn_97 3 rfl ?_
    refine jt_if_eq (tgt := 113) C dX9_copiesIn_99 (by decide) (fun c99 => ?_) (fun c99 => ?_)
    · replace h := jm_ift c99 h
      refine jt_iconst (v := (0 : Int32)) C dX9_copiesIn_113 (by decide) ?_
      refine jt_iadd C dX9_copiesIn_114 ?_
      refine jt_istore (lv' := [(5, _), (0, _), (1, _), (3, _), (4, _), (6, _)]) C dX9_copiesIn_115 (by decide) rfl ?_
      refine jt_iconst (v := (0 : Int32)) C dX9_copiesIn_117 (by decide) ?_
      refine jt_istore (lv' := [(7, _), (5, _), (0, _), (1, _), (3, _), (4, _), (6, _)]) C dX9_copiesIn_118 (by decide) rfl ?_
      obtain ⟨q6, eq6, h⟩ := jm_bind h
      refine jt_sub [2, 3, 4, 5, 1, 6, 0] rfl ?_
      refine t_X9_copiesIn_L120 C n _ _ _ _ _ _ hr0 n _ _ eq6 ?_ _ _ rfl
      refine jt_iinc (v := (1 : Int32)) (lv' := [(6, _), (0, _), (1, _), (3, _), (4, _), (5, _)]) C dX9_copiesIn_152 5 rfl (by decide) (by decide) rfl ?_
      refine jt_goto (tgt := 89) C dX9_copiesIn_155 (by decide) ?_
      cases h
      exact jt_sub [1, 2, 3, 4, 5, 0] rfl (h1 _ rfl _ _ rfl)
    · replace h := jm_iff c99 h
      refine jt_aload_n C dX9_copiesIn_102 rfl 0 rfl ?_
      refine jt_iload_n C dX9_copiesIn_103 rfl 1 rfl ?_
      refine jt_iload C dX9_copiesIn_104 5 rfl ?_
      refine jt_iload_n C dX9_copiesIn_106 rfl 2 rfl ?_
      obtain ⟨x7, ex7, h⟩ := jm_bind h
      refine jt_callVi (As := [_, _, _]) (rest := [_]) C hr0 rfl dX9_copiesIn_107 (c_X9_ofVertex (jx_l X) k n _ _ _ _ _ hr0 _ ex7) (k_goodIn (g_RX9_152)) rfl h_X9_ofVertex ⟨rfl, rfl, Nat.le_of_ble_eq_true rfl, Nat.le_of_ble_eq_true rfl⟩ rfl rfl (Nat.le_of_ble_eq_true rfl) ?_
      refine jt_goto (tgt := 114) C dX9_copiesIn_110 (by decide) ?_
      refine jt_iadd C dX9_copiesIn_114 ?_
      refine jt_istore (lv' := [(5, _), (0, _), (1, _), (3, _), (4, _), (6, _)]) C dX9_copiesIn_115 (by decide) rfl ?_
      refine jt_iconst (v := (0 : Int32)) C dX9_copiesIn_117 (by decide) ?_
      refine jt_istore (lv' := [(7, _), (5, _), (0, _), (1, _), (3, _), (4, _), (6, _)]) C dX9_copiesIn_118 (by decide) rfl ?_
      obtain ⟨q8, eq8, h⟩ := jm_bind h
      refine jt_sub [2, 3, 4, 5, 1, 6, 0] rfl ?_
      refine t_X9_copiesIn_L120 C n _ _ _ _ _ _ hr0 n _ _ eq8 ?_ _ _ rfl
      refine jt_iinc (v := (1 : Int32)) (lv' := [(6, _), (0, _), (1, _), (3, _), (4, _), (5, _)]) C dX9_copiesIn_152 5 rfl (by decide) (by decide) rfl ?_
      refine jt_goto (tgt := 89) C dX9_copiesIn_155 (by decide) ?_
      cases h
      exact jt_sub [1, 2, 3, 4, 5, 0] rfl (h1 _ rfl _ _ rfl)
set_option maxHeartbeats 4000000 in
set_option maxRecDepth 100000 in
theorem c_X9_copiesIn (l : Launch) (k : jm_C) (n : Nat) (r0 : Nat) (v1 : Int32) (v2 : Int32) (v3 : Int32) (M : jm_M) (hr0 : jm_is r0 (3, 8)) (q1 : Int32) (q2 : jm_M) (h : X9_copiesIn n r0 v1 v2 v3 M = some (q1, q2)) : jm_Ci l k yX9_copiesIn w_X9_copiesIn { frames := 4, cells := 0, slots := 0, locals := 160 } [.ref (jm_ad k r0), .int v1, .int v2, .int v3] M q1 q2 := by
  refine jm_entry_i (cc := cX9_copiesIn) (nL := 8) (ret := (some .int)) (by decide) rfl (Nat.le_of_ble_eq_true rfl) ?_
  intro X hX C hQ hr
  subst hX
  unfold X9_copiesIn at h
  refine jt_iconst (v := (0 : Int32)) C dX9_copiesIn_0 (by decide) ?_
  refine jt_istore (lv' := [(4, _), (0, _), (1, _), (2, _), (3, _)]) C dX9_copiesIn_1 (by decide) rfl ?_
  obtain ⟨q4, eq4, h⟩ := jm_bind h
  refine jt_sub [1, 2, 3, 4, 0] rfl ?_
  refine t_X9_copiesIn_L3 C n _ _ _ _ hr0 n _ _ eq4 ?_ _ _ rfl
  refine jt_iload_n C dX9_copiesIn_40 rfl 3 rfl ?_
  refine jt_if_ne (tgt := 49) C dX9_copiesIn_41 (by decide) (fun c41 => ?_) (fun c41 => ?_)
  · replace h := jm_iff c41 h
    refine jt_iload_n C dX9_copiesIn_49 rfl 3 rfl ?_
    refine jt_iconst (v := (2 : Int32)) C dX9_copiesIn_50 (by decide) ?_
    refine jt_icmp_ne (tgt := 60) C dX9_copiesIn_51 (by decide) (fun c51 => ?_) (fun c51 => ?_)
    · replace h := jm_iff c51 h
      refine jt_iload_n C dX9_copiesIn_60 rfl 3 rfl ?_
      refine jt_iconst (v := (1 : Int32)) C dX9_copiesIn_61 (by decide) ?_
      refine jt_icmp_eq (tgt := 76) C dX9_copiesIn_62 (by decide) (fun c62 => ?_) (fun c62 => ?_)
      · replace h := jm_ift c62 h
        refine jt_iconst (v := (1 : Int32)) C dX9_copiesIn_76 (by decide) ?_
        refine jt_goto (tgt := 81) C dX9_copiesIn_77 (by decide) ?_
        refine jt_istore (lv' := [(4, _), (0, _), (1, _), (2, _), (3, _)]) C dX9_copiesIn_81 (by decide) rfl ?_
        refine jt_iconst (v := (0 : Int32)) C dX9_copiesIn_83 (by decide) ?_
        refine jt_istore (lv' := [(5, _), (4, _), (0, _), (1, _), (2, _), (3, _)]) C dX9_copiesIn_84 (by decide) rfl ?_
        refine jt_iconst (v := (0 : Int32)) C dX9_copiesIn_86 (by decide) ?_
        refine jt_istore (lv' := [(6, _), (5, _), (4, _), (0, _), (1, _), (2, _), (3, _)]) C dX9_copiesIn_87 (by decide) rfl ?_
        obtain ⟨q9, eq9, h⟩ := jm_bind h
        refine jt_sub [3, 4, 6, 2, 1, 0] rfl ?_
        refine t_X9_copiesIn_L89 C n _ _ _ _ _ hr0 n _ _ eq9 ?_ _ _ rfl
        refine jt_iload_n C dX9_copiesIn_158 rfl 2 rfl ?_
        refine jt_iconst (v := (4 : Int32)) C dX9_copiesIn_159 (by decide) ?_
        refine jt_icmp_ne (tgt := 176) C dX9_copiesIn_160 (by decide) (fun c160 => ?_) (fun c160 => ?_)
        · replace h := jm_iff c160 h
          refine jt_iload_n C dX9_copiesIn_176 rfl 2 rfl ?_
          refine jt_iconst (v := (5 : Int32)) C dX9_copiesIn_177 (by decide) ?_
          refine jt_icmp_ne (tgt := 188) C dX9_copiesIn_178 (by decide) (fun c178 => ?_) (fun c178 => ?_)
          · replace h := jm_iff c178 h
            refine jt_iload_n C dX9_copiesIn_188 rfl 2 rfl ?_
            refine jt_bipush (v := (8 : Int32)) C dX9_copiesIn_189 (by decide) ?_
            refine jt_icmp_ne (tgt := 202) C dX9_copiesIn_191 (by decide) (fun c191 => ?_) (fun c191 => ?_)
            · replace h := jm_iff c191 h
              refine jt_iload C dX9_copiesIn_202 3 rfl ?_
              cases h
              exact jt_iret C dX9_copiesIn_204 hQ hr
            · replace h := jm_ift c191 h
              refine jt_iload C dX9_copiesIn_194 3 rfl ?_
              refine jt_bipush (v := (6 : Int32)) C dX9_copiesIn_196 (by decide) ?_
              refine jt_idiv C dX9_copiesIn_198 (if_neg (by decide)) ?_
              refine jt_goto (tgt := 204) C dX9_copiesIn_199 (by decide) ?_
              cases h
              exact jt_iret C dX9_copiesIn_204 hQ hr
          · replace h := jm_ift c178 h
            refine jt_iload C dX9_copiesIn_181 3 rfl ?_
            refine jt_iconst (v := (2 : Int32)) C dX9_copiesIn_183 (by decide) ?_
            refine jt_idiv C dX9_copiesIn_184 (if_neg (by decide)) ?_
            refine jt_goto (tgt := 204) C dX9_copiesIn_185 (by decide) ?_
            cases h
            exact jt_iret C dX9_copiesIn_204 hQ hr
        · replace h := jm_ift c160 h
          refine jt_iload C dX9_copiesIn_163 3 rfl ?_
          refine jt_iconst (v := (3 : Int32)) C dX9_copiesIn_165 (by decide) ?_
          refine jt_aload_n C dX9_copiesIn_166 rfl 0 rfl ?_
          refine jt_iload_n C dX9_copiesIn_167 rfl 1 rfl ?_
          obtain ⟨x10, ex10, h⟩ := jm_bind h
          refine jt_callVi (As := [_]) (rest := [_, _]) C hr0 rfl dX9_copiesIn_168 (c_X9_triangles (jx_l X) k n _ _ _ hr0 _ ex10) (k_goodIn (g_RX9_149)) rfl h_X9_triangles ⟨rfl, rfl, Nat.le_of_ble_eq_true rfl, Nat.le_of_ble_eq_true rfl⟩ rfl rfl (Nat.le_of_ble_eq_true rfl) ?_
          refine jt_imul C dX9_copiesIn_171 ?_
          refine jt_isub C dX9_copiesIn_172 ?_
          refine jt_goto (tgt := 204) C dX9_copiesIn_173 (by decide) ?_
          cases h
          exact jt_iret C dX9_copiesIn_204 hQ hr
      · replace h := jm_iff c62 h
        refine jt_iload_n C dX9_copiesIn_65 rfl 3 rfl ?_
        refine jt_iconst (v := (3 : Int32)) C dX9_copiesIn_66 (by decide) ?_
        refine jt_icmp_eq (tgt := 76) C dX9_copiesIn_67 (by decide) (fun c67 => ?_) (fun c67 => ?_)
        · replace h := jm_ift c67 h
          refine jt_iconst (v := (1 : Int32)) C dX9_copiesIn_76 (by decide) ?_
          refine jt_goto (tgt := 81) C dX9_copiesIn_77 (by decide) ?_
          refine jt_istore (lv' := [(4, _), (0, _), (1, _), (2, _), (3, _)]) C dX9_copiesIn_81 (by decide) rfl ?_
          refine jt_iconst (v := (0 : Int32)) C dX9_copiesIn_83 (by decide) ?_
          refine jt_istore (lv' := [(5, _), (4, _), (0, _), (1, _), (2, _), (3, _)]) C dX9_copiesIn_84 (by decide) rfl ?_
          refine jt_iconst (v := (0 : Int32)) C dX9_copiesIn_86 (by decide) ?_
          refine jt_istore (lv' := [(6, _), (5, _), (4, _), (0, _), (1, _), (2, _), (3, _)]) C dX9_copiesIn_87 (by decide) rfl ?_
          obtain ⟨q11, eq11, h⟩ := jm_bind h
          refine jt_sub [3, 4, 6, 2, 1, 0] rfl ?_
          refine t_X9_copiesIn_L89 C n _ _ _ _ _ hr0 n _ _ eq11 ?_ _ _ rfl
          refine jt_iload_n C dX9_copiesIn_158 rfl 2 rfl ?_
          refine jt_iconst (v := (4 : Int32)) C dX9_copiesIn_159 (by decide) ?_
          refine jt_icmp_ne (tgt := 176) C dX9_copiesIn_160 (by decide) (fun c160 => ?_) (fun c160 => ?_)
          · replace h := jm_iff c160 h
            refine jt_iload_n C dX9_copiesIn_176 rfl 2 rfl ?_
            refine jt_iconst (v := (5 : Int32)) C dX9_copiesIn_177 (by decide) ?_
            refine jt_icmp_ne (tgt := 188) C dX9_copiesIn_178 (by decide) (fun c178 => ?_) (fun c178 => ?_)
            · replace h := jm_iff c178 h
              refine jt_iload_n C dX9_copiesIn_188 rfl 2 rfl ?_
              refine jt_bipush (v := (8 : Int32)) C dX9_copiesIn_189 (by decide) ?_
              refine jt_icmp_ne (tgt := 202) C dX9_copiesIn_191 (by decide) (fun c191 => ?_) (fun c191 => ?_)
              · replace h := jm_iff c191 h
                refine jt_iload C dX9_copiesIn_202 3 rfl ?_
                cases h
                exact jt_iret C dX9_copiesIn_204 hQ hr
              · replace h := jm_ift c191 h
                refine jt_iload C dX9_copiesIn_194 3 rfl ?_
                refine jt_bipush (v := (6 : Int32)) C dX9_copiesIn_196 (by decide) ?_
                refine jt_idiv C dX9_copiesIn_198 (if_neg (by decide)) ?_
                refine jt_goto (tgt := 204) C dX9_copiesIn_199 (by decide) ?_
                cases h
                exact jt_iret C dX9_copiesIn_204 hQ hr
            · replace h := jm_ift c178 h
              refine jt_iload C dX9_copiesIn_181 3 rfl ?_
              refine jt_iconst (v := (2 : Int32)) C dX9_copiesIn_183 (by decide) ?_
              refine jt_idiv C dX9_copiesIn_184 (if_neg (by decide)) ?_
              refine jt_goto (tgt := 204) C dX9_copiesIn_185 (by decide) ?_
              cases h
              exact jt_iret C dX9_copiesIn_204 hQ hr
          · replace h := jm_ift c160 h
            refine jt_iload C dX9_copiesIn_163 3 rfl ?_
            refine jt_iconst (v := (3 : Int32)) C dX9_copiesIn_165 (by decide) ?_
            refine jt_aload_n C dX9_copiesIn_166 rfl 0 rfl ?_
            refine jt_iload_n C dX9_copiesIn_167 rfl 1 rfl ?_
            obtain ⟨x12, ex12, h⟩ := jm_bind h
            refine jt_callVi (As := [_]) (rest := [_, _]) C hr0 rfl dX9_copiesIn_168 (c_X9_triangles (jx_l X) k n _ _ _ hr0 _ ex12) (k_goodIn (g_RX9_149)) rfl h_X9_triangles ⟨rfl, rfl, Nat.le_of_ble_eq_true rfl, Nat.le_of_ble_eq_true rfl⟩ rfl rfl (Nat.le_of_ble_eq_true rfl) ?_
            refine jt_imul C dX9_copiesIn_171 ?_
            refine jt_isub C dX9_copiesIn_172 ?_
            refine jt_goto (tgt := 204) C dX9_copiesIn_173 (by decide) ?_
            cases h
            exact jt_iret C dX9_copiesIn_204 hQ hr
        · replace h := jm_iff c67 h
          refine jt_iload_n C dX9_copiesIn_70 rfl 3 rfl ?_
          refine jt_bipush (v := (6 : Int32)) C dX9_copiesIn_71 (by decide) ?_
          refine jt_icmp_ne (tgt := 80) C dX9_copiesIn_73 (by decide) (fun c73 => ?_) (fun c73 => ?_)
          · replace h := jm_iff c73 h
            refine jt_iconst (v := (0 : Int32)) C dX9_copiesIn_80 (by decide) ?_
            refine jt_istore (lv' := [(4, _), (0, _), (1, _), (2, _), (3, _)]) C dX9_copiesIn_81 (by decide) rfl ?_
            refine jt_iconst (v := (0 : Int32)) C dX9_copiesIn_83 (by decide) ?_
            refine jt_istore (lv' := [(5, _), (4, _), (0, _), (1, _), (2, _), (3, _)]) C dX9_copiesIn_84 (by decide) rfl ?_
            refine jt_iconst (v := (0 : Int32)) C dX9_copiesIn_86 (by decide) ?_
            refine jt_istore (lv' := [(6, _), (5, _), (4, _), (0, _), (1, _), (2, _), (3, _)]) C dX9_copiesIn_87 (by decide) rfl ?_
            obtain ⟨q13, eq13, h⟩ := jm_bind h
            refine jt_sub [3, 4, 6, 2, 1, 0] rfl ?_
            refine t_X9_copiesIn_L89 C n _ _ _ _ _ hr0 n _ _ eq13 ?_ _ _ rfl
            refine jt_iload_n C dX9_copiesIn_158 rfl 2 rfl ?_
            refine jt_iconst (v := (4 : Int32)) C dX9_copiesIn_159 (by decide) ?_
            refine jt_icmp_ne (tgt := 176) C dX9_copiesIn_160 (by decide) (fun c160 => ?_) (fun c160 => ?_)
            · replace h := jm_iff c160 h
              refine jt_iload_n C dX9_copiesIn_176 rfl 2 rfl ?_
              refine jt_iconst (v := (5 : Int32)) C dX9_copiesIn_177 (by decide) ?_
              refine jt_icmp_ne (tgt := 188) C dX9_copiesIn_178 (by decide) (fun c178 => ?_) (fun c178 => ?_)
              · replace h := jm_iff c178 h
                refine jt_iload_n C dX9_copiesIn_188 rfl 2 rfl ?_
                refine jt_bipush (v := (8 : Int32)) C dX9_copiesIn_189 (by decide) ?_
                refine jt_icmp_ne (tgt := 202) C dX9_copiesIn_191 (by decide) (fun c191 => ?_) (fun c191 => ?_)
                · replace h := jm_iff c191 h
                  refine jt_iload C dX9_copiesIn_202 3 rfl ?_
                  cases h
                  exact jt_iret C dX9_copiesIn_204 hQ hr
                · replace h := jm_ift c191 h
                  refine jt_iload C dX9_copiesIn_194 3 rfl ?_
                  refine jt_bipush (v := (6 : Int32)) C dX9_copiesIn_196 (by decide) ?_
                  refine jt_idiv C dX9_copiesIn_198 (if_neg (by decide)) ?_
                  refine jt_goto (tgt := 204) C dX9_copiesIn_199 (by decide) ?_
                  cases h
                  exact jt_iret C dX9_copiesIn_204 hQ hr
              · replace h := jm_ift c178 h
                refine jt_iload C dX9_copiesIn_181 3 rfl ?_
                refine jt_iconst (v := (2 : Int32)) C dX9_copiesIn_183 (by decide) ?_
                refine jt_idiv C dX9_copiesIn_184 (if_neg (by decide)) ?_
                refine jt_goto (tgt := 204) C dX9_copiesIn_185 (by decide) ?_
                cases h
                exact jt_iret C dX9_copiesIn_204 hQ hr
            · replace h := jm_ift c160 h
              refine jt_iload C dX9_copiesIn_163 3 rfl ?_
              refine jt_iconst (v := (3 : Int32)) C dX9_copiesIn_165 (by decide) ?_
              refine jt_aload_n C dX9_copiesIn_166 rfl 0 rfl ?_
              refine jt_iload_n C dX9_copiesIn_167 rfl 1 rfl ?_
              obtain ⟨x14, ex14, h⟩ := jm_bind h
              refine jt_callVi (As := [_]) (rest := [_, _]) C hr0 rfl dX9_copiesIn_168 (c_X9_triangles (jx_l X) k n _ _ _ hr0 _ ex14) (k_goodIn (g_RX9_149)) rfl h_X9_triangles ⟨rfl, rfl, Nat.le_of_ble_eq_true rfl, Nat.le_of_ble_eq_true rfl⟩ rfl rfl (Nat.le_of_ble_eq_true rfl) ?_
              refine jt_imul C dX9_copiesIn_171 ?_
              refine jt_isub C dX9_copiesIn_172 ?_
              refine jt_goto (tgt := 204) C dX9_copiesIn_173 (by decide) ?_
              cases h
              exact jt_iret C dX9_copiesIn_204 hQ hr
          · replace h := jm_ift c73 h
            refine jt_iconst (v := (1 : Int32)) C dX9_copiesIn_76 (by decide) ?_
            refine jt_goto (tgt := 81) C dX9_copiesIn_77 (by decide) ?_
            refine jt_istore (lv' := [(4, _), (0, _), (1, _), (2, _), (3, _)]) C dX9_copiesIn_81 (by decide) rfl ?_
            refine jt_iconst (v := (0 : Int32)) C dX9_copiesIn_83 (by decide) ?_
            refine jt_istore (lv' := [(5, _), (4, _), (0, _), (1, _), (2, _), (3, _)]) C dX9_copiesIn_84 (by decide) rfl ?_
            refine jt_iconst (v := (0 : Int32)) C dX9_copiesIn_86 (by decide) ?_
            refine jt_istore (lv' := [(6, _), (5, _), (4, _), (0, _), (1, _), (2, _), (3, _)]) C dX9_copiesIn_87 (by decide) rfl ?_
            obtain ⟨q15, eq15, h⟩ := jm_bind h
            refine jt_sub [3, 4, 6, 2, 1, 0] rfl ?_
            refine t_X9_copiesIn_L89 C n _ _ _ _ _ hr0 n _ _ eq15 ?_ _ _ rfl
            refine jt_iload_n C dX9_copiesIn_158 rfl 2 rfl ?_
            refine jt_iconst (v := (4 : Int32)) C dX9_copiesIn_159 (by decide) ?_
            refine jt_icmp_ne (tgt := 176) C dX9_copiesIn_160 (by decide) (fun c160 => ?_) (fun c160 => ?_)
            · replace h := jm_iff c160 h
              refine jt_iload_n C dX9_copiesIn_176 rfl 2 rfl ?_
              refine jt_iconst (v := (5 : Int32)) C dX9_copiesIn_177 (by decide) ?_
              refine jt_icmp_ne (tgt := 188) C dX9_copiesIn_178 (by decide) (fun c178 => ?_) (fun c178 => ?_)
              · replace h := jm_iff c178 h
                refine jt_iload_n C dX9_copiesIn_188 rfl 2 rfl ?_
                refine jt_bipush (v := (8 : Int32)) C dX9_copiesIn_189 (by decide) ?_
                refine jt_icmp_ne (tgt := 202) C dX9_copiesIn_191 (by decide) (fun c191 => ?_) (fun c191 => ?_)
                · replace h := jm_iff c191 h
                  refine jt_iload C dX9_copiesIn_202 3 rfl ?_
                  cases h
                  exact jt_iret C dX9_copiesIn_204 hQ hr
                · replace h := jm_ift c191 h
                  refine jt_iload C dX9_copiesIn_194 3 rfl ?_
                  refine jt_bipush (v := (6 : Int32)) C dX9_copiesIn_196 (by decide) ?_
                  refine jt_idiv C dX9_copiesIn_198 (if_neg (by decide)) ?_
                  refine jt_goto (tgt := 204) C dX9_copiesIn_199 (by decide) ?_
                  cases h
                  exact jt_iret C dX9_copiesIn_204 hQ hr
              · replace h := jm_ift c178 h
                refine jt_iload C dX9_copiesIn_181 3 rfl ?_
                refine jt_iconst (v := (2 : Int32)) C dX9_copiesIn_183 (by decide) ?_
                refine jt_idiv C dX9_copiesIn_184 (if_neg (by decide)) ?_
                refine jt_goto (tgt := 204) C dX9_copiesIn_185 (by decide) ?_
                cases h
                exact jt_iret C dX9_copiesIn_204 hQ hr
            · replace h := jm_ift c160 h
              refine jt_iload C dX9_copiesIn_163 3 rfl ?_
              refine jt_iconst (v := (3 : Int32)) C dX9_copiesIn_165 (by decide) ?_
              refine jt_aload_n C dX9_copiesIn_166 rfl 0 rfl ?_
              refine jt_iload_n C dX9_copiesIn_167 rfl 1 rfl ?_
              obtain ⟨x16, ex16, h⟩ := jm_bind h
              refine jt_callVi (As := [_]) (rest := [_, _]) C hr0 rfl dX9_copiesIn_168 (c_X9_triangles (jx_l X) k n _ _ _ hr0 _ ex16) (k_goodIn (g_RX9_149)) rfl h_X9_triangles ⟨rfl, rfl, Nat.le_of_ble_eq_true rfl, Nat.le_of_ble_eq_true rfl⟩ rfl rfl (Nat.le_of_ble_eq_true rfl) ?_
              refine jt_imul C dX9_copiesIn_171 ?_
              refine jt_isub C dX9_copiesIn_172 ?_
              refine jt_goto (tgt := 204) C dX9_copiesIn_173 (by decide) ?_
              cases h
              exact jt_iret C dX9_copiesIn_204 hQ hr
    · replace h := jm_ift c51 h
      refine jt_aload_n C dX9_copiesIn_54 rfl 0 rfl ?_
      refine jt_iload_n C dX9_copiesIn_55 rfl 1 rfl ?_
      obtain ⟨x17, ex17, h⟩ := jm_bind h
      refine jt_callVi (As := [_]) (rest := []) C hr0 rfl dX9_copiesIn_56 (c_X9_triangles (jx_l X) k n _ _ _ hr0 _ ex17) (k_goodIn (g_RX9_149)) rfl h_X9_triangles ⟨rfl, rfl, Nat.le_of_ble_eq_true rfl, Nat.le_of_ble_eq_true rfl⟩ rfl rfl (Nat.le_of_ble_eq_true rfl) ?_
      cases h
      exact jt_iret C dX9_copiesIn_59 hQ hr
  · replace h := jm_ift c41 h
    refine jt_iload_n C dX9_copiesIn_44 rfl 2 rfl ?_
    obtain ⟨x18, ex18, h⟩ := jm_bind h
    refine jt_callSi (As := [_]) (rest := []) C dX9_copiesIn_45 (c_X9_bits (jx_l X) k n _ _ _ ex18) (k_goodIn (g_RX9_118)) rfl h_X9_bits ⟨rfl, rfl, Nat.le_of_ble_eq_true rfl, Nat.le_of_ble_eq_true rfl⟩ rfl rfl (Nat.le_of_ble_eq_true rfl) ?_
    cases h
    exact jt_iret C dX9_copiesIn_48 hQ hr
theorem h_X9_copies : yX9_copies.cls = RX9 ∧ yX9_copies.cls ≠ "java/lang/invoke/MethodHandle" ∧ yX9_copies.cls ≠ "java/lang/invoke/VarHandle" ∧ (parseMethodDescriptor yX9_copies.desc).map (fun d => d.parameters.length) = some 1 := by decide +kernel
set_option maxHeartbeats 4000000 in
set_option maxRecDepth 100000 in
theorem c_X9_copies (l : Launch) (k : jm_C) (n : Nat) (r0 : Nat) (v1 : Int32) (M : jm_M) (hr0 : jm_is r0 (3, 8)) (q1 : Int32) (q2 : jm_M) (h : X9_copies n r0 v1 M = some (q1, q2)) : jm_Ci l k yX9_copies w_X9_copies { frames := 5, cells := 0, slots := 0, locals := 200 } [.ref (jm_ad k r0), .int v1] M q1 q2 := by
  refine jm_entry_i (cc := cX9_copies) (nL := 2) (ret := (some .int)) (by decide) rfl (Nat.le_of_ble_eq_true rfl) ?_
  intro X hX C hQ hr
  subst hX
  unfold X9_copies at h
  refine jt_iload_n C dX9_copies_0 rfl 1 rfl ?_
  refine jt_iconst (v := (0 : Int32)) C dX9_copies_1 (by decide) ?_
  refine jt_bipush (v := (8 : Int32)) C dX9_copies_2 (by decide) ?_
  refine jt_callSi (As := [_, _, _]) (rest := []) C dX9_copies_4 (c_X9_isIn (jx_l X) k _ _ _ _ _ rfl) (k_goodIn (g_RX9_50)) rfl h_X9_isIn ⟨rfl, rfl, Nat.le_of_ble_eq_true rfl, Nat.le_of_ble_eq_true rfl⟩ rfl rfl (Nat.le_of_ble_eq_true rfl) ?_
  refine jt_if_eq (tgt := 30) C dX9_copies_7 (by decide) (fun c7 => ?_) (fun c7 => ?_)
  · replace h := jm_ift c7 h
    refine jt_iconst (v := (-1 : Int32)) C dX9_copies_30 (by decide) ?_
    cases h
    exact jt_iret C dX9_copies_31 hQ hr
  · replace h := jm_iff c7 h
    refine jt_aload_n C dX9_copies_10 rfl 0 rfl ?_
    refine jt_aload_n C dX9_copies_11 rfl 0 rfl ?_
    refine jt_getR (Tf := TX9) (N := 17) C dX9_copies_12 hr0 rfl i_9 0 (by decide) rfl m_RX9_7 rfl ?_
    refine jt_iconst (v := (0 : Int32)) C dX9_copies_15 (by decide) ?_
    obtain ⟨x1, ex1, h⟩ := jm_bind h
    refine jt_iald C dX9_copies_16 (jm_f8_0 hr0) ex1 ?_
    refine jt_aload_n C dX9_copies_17 rfl 0 rfl ?_
    refine jt_getR (Tf := TX9) (N := 17) C dX9_copies_18 hr0 rfl i_9 0 (by decide) rfl m_RX9_7 rfl ?_
    refine jt_iconst (v := (1 : Int32)) C dX9_copies_21 (by decide) ?_
    obtain ⟨x2, ex2, h⟩ := jm_bind h
    refine jt_iald C dX9_copies_22 (jm_f8_0 hr0) ex2 ?_
    refine jt_iload_n C dX9_copies_23 rfl 1 rfl ?_
    obtain ⟨⟨x3a, x3b⟩, ex3, h⟩ := jm_bind h
    try dsimp only at h
    refine jt_callVi (As := [_, _, _]) (rest := []) C hr0 rfl dX9_copies_24 (c_X9_copiesIn (jx_l X) k n _ _ _ _ _ hr0 _ _ ex3) (k_goodIn (g_RX9_158)) rfl h_X9_copiesIn ⟨rfl, rfl, Nat.le_of_ble_eq_true rfl, Nat.le_of_ble_eq_true rfl⟩ rfl rfl (Nat.le_of_ble_eq_true rfl) ?_
    refine jt_goto (tgt := 31) C dX9_copies_27 (by decide) ?_
    cases h
    exact jt_iret C dX9_copies_31 hQ hr
theorem h_X9_turned : yX9_turned.cls = RX9 ∧ yX9_turned.cls ≠ "java/lang/invoke/MethodHandle" ∧ yX9_turned.cls ≠ "java/lang/invoke/VarHandle" ∧ (parseMethodDescriptor yX9_turned.desc).map (fun d => d.parameters.length) = some 2 := by decide +kernel
set_option maxHeartbeats 4000000 in
set_option maxRecDepth 100000 in
theorem t_X9_turned_L14 {X : jm_X} {k : jm_C} (C : jm_Cx X k cX9_turned 6 RX9 w_X9_turned) (r0 : Nat) (v1 : Int32) (v2 : Int32) (v4 : Int32) (M : jm_M) (hr0 : jm_is r0 (3, 8)) : ∀ (m : Nat) (s : Int32 × Int32) (r : Int32), jm_loop (X9_turned_B14 r0 v1 v2 v4 M) m s = some r → jm_T X { frames := 3, cells := 0, slots := 0, locals := 120 } k 6 M 51 [(0, .ref (jm_ad k r0)), (1, .int v1), (2, .int v2), (3, .int r), (4, .int v4)] [] → (∀ (b0 : Int32) (b1 : Int32), s = (b0, b1) → jm_T X { frames := 3, cells := 0, slots := 0, locals := 120 } k 6 M 14 [(0, .ref (jm_ad k r0)), (1, .int v1), (2, .int v2), (3, .int b0), (4, .int v4), (5, .int b1)] []) := by
  refine jm_loop_ind (P := fun (s : Int32 × Int32) => (∀ (b0 : Int32) (b1 : Int32), s = (b0, b1) → jm_T X { frames := 3, cells := 0, slots := 0, locals := 120 } k 6 M 14 [(0, .ref (jm_ad k r0)), (1, .int v1), (2, .int v2), (3, .int b0), (4, .int v4), (5, .int b1)] [])) (K := fun (r : Int32) => jm_T X { frames := 3, cells := 0, slots := 0, locals := 120 } k 6 M 51 [(0, .ref (jm_ad k r0)), (1, .int v1), (2, .int v2), (3, .int r), (4, .int v4)] []) ?_
  intro s q h h1 h2
  intro b0 b1 hs
  subst hs
  unfold X9_turned_B14 at h
  try dsimp only at h
  refine jt_iload C dX9_turned_14 5 rfl ?_
  refine jt_iload C dX9_turned_16 4 rfl ?_
  refine jt_icmp_ge (tgt := 51) C dX9_turned_18 (by decide) (fun c18 => ?_) (fun c18 => ?_)
  · replace h := jm_ift c18 h
    cases h
    exact jt_sub [0, 1, 2, 3, 4] rfl (h2 _ rfl)
  · replace h := jm_iff c18 h
    refine jt_iconst (v := (2 : Int32)) C dX9_turned_21 (by decide) ?_
    refine jt_iload_n C dX9_turned_22 rfl 3 rfl ?_
    refine jt_imul C dX9_turned_23 ?_
    refine jt_iload_n C dX9_turned_24 rfl 1 rfl ?_
    refine jt_iload_n C dX9_turned_25 rfl 2 rfl ?_
    refine jt_aload_n C dX9_turned_26 rfl 0 rfl ?_
    refine jt_getR (Tf := TX9) (N := 17) C dX9_turned_27 hr0 rfl i_9 6 (by decide) rfl m_RX9_25 rfl ?_
    refine jt_iload C dX9_turned_30 5 rfl ?_
    obtain ⟨x1, ex1, h⟩ := jm_bind h
    refine jt_iald C dX9_turned_32 (jm_f8_6 hr0) ex1 ?_
    refine jt_aload_n C dX9_turned_33 rfl 0 rfl ?_
    refine jt_getR (Tf := TX9) (N := 17) C dX9_turned_34 hr0 rfl i_9 6 (by decide) rfl m_RX9_25 rfl ?_
    refine jt_iload C dX9_turned_37 4 rfl ?_
    obtain ⟨x2, ex2, h⟩ := jm_bind h
    refine jt_iald C dX9_turned_39 (jm_f8_6 hr0) ex2 ?_
    refine jt_callSi (As := [_, _, _, _]) (rest := [_]) C dX9_turned_40 (c_X9_isEdge (jx_l X) k _ _ _ _ _ _ rfl) (k_goodIn (g_RX9_66)) rfl h_X9_isEdge ⟨rfl, rfl, Nat.le_of_ble_eq_true rfl, Nat.le_of_ble_eq_true rfl⟩ rfl rfl (Nat.le_of_ble_eq_true rfl) ?_
    refine jt_iadd C dX9_turned_43 ?_
    refine jt_istore_n (lv' := [(3, _), (0, _), (1, _), (2, _), (4, _), (5, _)]) C dX9_turned_44 rfl (by decide) rfl ?_
    refine jt_iinc (v := (1 : Int32)) (lv' := [(5, _), (3, _), (0, _), (1, _), (2, _), (4, _)]) C dX9_turned_45 5 rfl (by decide) (by decide) rfl ?_
    refine jt_goto (tgt := 14) C dX9_turned_48 (by decide) ?_
    cases h
    exact jt_sub [2, 3, 4, 1, 5, 0] rfl (h1 _ rfl _ _ rfl)
set_option maxHeartbeats 4000000 in
set_option maxRecDepth 100000 in
theorem t_X9_turned_L5 {X : jm_X} {k : jm_C} (C : jm_Cx X k cX9_turned 6 RX9 w_X9_turned) (n : Nat) (r0 : Nat) (v1 : Int32) (v2 : Int32) (M : jm_M) (hr0 : jm_is r0 (3, 8)) : ∀ (m : Nat) (s : Int32 × Int32) (r : Int32), jm_loop (X9_turned_B5 n r0 v1 v2 M) m s = some r → jm_T X { frames := 3, cells := 0, slots := 0, locals := 120 } k 6 M 57 [(3, .int r)] [] → (∀ (b0 : Int32) (b1 : Int32), s = (b0, b1) → jm_T X { frames := 3, cells := 0, slots := 0, locals := 120 } k 6 M 5 [(0, .ref (jm_ad k r0)), (1, .int v1), (2, .int v2), (3, .int b0), (4, .int b1)] []) := by
  refine jm_loop_ind (P := fun (s : Int32 × Int32) => (∀ (b0 : Int32) (b1 : Int32), s = (b0, b1) → jm_T X { frames := 3, cells := 0, slots := 0, locals := 120 } k 6 M 5 [(0, .ref (jm_ad k r0)), (1, .int v1), (2, .int v2), (3, .int b0), (4, .int b1)] [])) (K := fun (r : Int32) => jm_T X { frames := 3, cells := 0, slots := 0, locals := 120 } k 6 M 57 [(3, .int r)] []) ?_
  intro s q h h1 h2
  intro b0 b1 hs
  subst hs
  unfold X9_turned_B5 at h
  try dsimp only at h
  refine jt_iload C dX9_turned_5 4 rfl ?_
  refine jt_iload_n C dX9_turned_7 rfl 1 rfl ?_
  refine jt_icmp_ge (tgt := 57) C dX9_turned_8 (by decide) (fun c8 => ?_) (fun c8 => ?_)
  · replace h := jm_ift c8 h
    cases h
    exact jt_sub [3] rfl (h2 _ rfl)
  · replace h := jm_iff c8 h
    refine jt_iconst (v := (0 : Int32)) C dX9_turned_11 (by decide) ?_
    refine jt_istore (lv' := [(5, _), (0, _), (1, _), (2, _), (3, _), (4, _)]) C dX9_turned_12 (by decide) rfl ?_
    obtain ⟨q3, eq3, h⟩ := jm_bind h
    refine jt_sub [1, 2, 3, 4, 5, 0] rfl ?_
    refine t_X9_turned_L14 C _ _ _ _ _ hr0 n _ _ eq3 ?_ _ _ rfl
    refine jt_iinc (v := (1 : Int32)) (lv' := [(4, _), (0, _), (1, _), (2, _), (3, _)]) C dX9_turned_51 4 rfl (by decide) (by decide) rfl ?_
    refine jt_goto (tgt := 5) C dX9_turned_54 (by decide) ?_
    cases h
    exact jt_sub [1, 2, 3, 4, 0] rfl (h1 _ rfl _ _ rfl)
set_option maxHeartbeats 4000000 in
set_option maxRecDepth 100000 in
theorem c_X9_turned (l : Launch) (k : jm_C) (n : Nat) (r0 : Nat) (v1 : Int32) (v2 : Int32) (M : jm_M) (hr0 : jm_is r0 (3, 8)) (q : Int32) (h : X9_turned n r0 v1 v2 M = some q) : jm_Ci l k yX9_turned w_X9_turned { frames := 3, cells := 0, slots := 0, locals := 120 } [.ref (jm_ad k r0), .int v1, .int v2] M q M := by
  refine jm_entry_i (cc := cX9_turned) (nL := 6) (ret := (some .int)) (by decide) rfl (Nat.le_of_ble_eq_true rfl) ?_
  intro X hX C hQ hr
  subst hX
  unfold X9_turned at h
  refine jt_iconst (v := (0 : Int32)) C dX9_turned_0 (by decide) ?_
  refine jt_istore_n (lv' := [(3, _), (0, _), (1, _), (2, _)]) C dX9_turned_1 rfl (by decide) rfl ?_
  refine jt_iconst (v := (1 : Int32)) C dX9_turned_2 (by decide) ?_
  refine jt_istore (lv' := [(4, _), (3, _), (0, _), (1, _), (2, _)]) C dX9_turned_3 (by decide) rfl ?_
  obtain ⟨q4, eq4, h⟩ := jm_bind h
  refine jt_sub [2, 3, 4, 1, 0] rfl ?_
  refine t_X9_turned_L5 C n _ _ _ _ hr0 n _ _ eq4 ?_ _ _ rfl
  refine jt_iload_n C dX9_turned_57 rfl 0 rfl ?_
  cases h
  exact jt_iret C dX9_turned_58 hQ hr
theorem h_X9_renumber : yX9_renumber.cls = RX9 ∧ yX9_renumber.cls ≠ "java/lang/invoke/MethodHandle" ∧ yX9_renumber.cls ≠ "java/lang/invoke/VarHandle" ∧ (parseMethodDescriptor yX9_renumber.desc).map (fun d => d.parameters.length) = some 2 := by decide +kernel
set_option maxHeartbeats 4000000 in
set_option maxRecDepth 100000 in
theorem t_X9_renumber_L47 {X : jm_X} {k : jm_C} (C : jm_Cx X k cX9_renumber 7 RX9 w_X9_renumber) (r0 : Nat) (v1 : Int32) (v2 : Int32) (v3 : Int32) (v4 : Int32) (M : jm_M) (hr0 : jm_is r0 (3, 8)) : ∀ (m : Nat) (s : Int32 × Int32) (r : Int32), jm_loop (X9_renumber_B47 r0 v1 v2 v3 v4 M) m s = some r → jm_T X { frames := 4, cells := 0, slots := 0, locals := 160 } k 7 M 83 [(0, .ref (jm_ad k r0)), (1, .int v1), (2, .int v2), (3, .int v3), (4, .int v4), (5, .int r)] [] → (∀ (b0 : Int32) (b1 : Int32), s = (b0, b1) → jm_T X { frames := 4, cells := 0, slots := 0, locals := 160 } k 7 M 47 [(0, .ref (jm_ad k r0)), (1, .int v1), (2, .int v2), (3, .int v3), (4, .int v4), (5, .int b0), (6, .int b1)] []) := by
  refine jm_loop_ind (P := fun (s : Int32 × Int32) => (∀ (b0 : Int32) (b1 : Int32), s = (b0, b1) → jm_T X { frames := 4, cells := 0, slots := 0, locals := 160 } k 7 M 47 [(0, .ref (jm_ad k r0)), (1, .int v1), (2, .int v2), (3, .int v3), (4, .int v4), (5, .int b0), (6, .int b1)] [])) (K := fun (r : Int32) => jm_T X { frames := 4, cells := 0, slots := 0, locals := 160 } k 7 M 83 [(0, .ref (jm_ad k r0)), (1, .int v1), (2, .int v2), (3, .int v3), (4, .int v4), (5, .int r)] []) ?_
  intro s q h h1 h2
  intro b0 b1 hs
  subst hs
  unfold X9_renumber_B47 at h
  try dsimp only at h
  refine jt_iload C dX9_renumber_47 6 rfl ?_
  refine jt_iload_n C dX9_renumber_49 rfl 3 rfl ?_
  refine jt_icmp_ge (tgt := 83) C dX9_renumber_50 (by decide) (fun c50 => ?_) (fun c50 => ?_)
  · replace h := jm_ift c50 h
    cases h
    exact jt_sub [0, 1, 2, 3, 4, 5] rfl (h2 _ rfl)
  · replace h := jm_iff c50 h
    refine jt_iload C dX9_renumber_53 5 rfl ?_
    refine jt_if_eq (tgt := 83) C dX9_renumber_55 (by decide) (fun c55 => ?_) (fun c55 => ?_)
    · replace h := jm_ift c55 h
      cases h
      exact jt_sub [0, 1, 2, 3, 4, 5] rfl (h2 _ rfl)
    · replace h := jm_iff c55 h
      refine jt_aload_n C dX9_renumber_58 rfl 0 rfl ?_
      refine jt_getR (Tf := TX9) (N := 17) C dX9_renumber_59 hr0 rfl i_9 6 (by decide) rfl m_RX9_25 rfl ?_
      refine jt_iload C dX9_renumber_62 6 rfl ?_
      obtain ⟨x5, ex5, h⟩ := jm_bind h
      refine jt_iald C dX9_renumber_64 (jm_f8_6 hr0) ex5 ?_
      refine jt_iload C dX9_renumber_65 4 rfl ?_
      refine jt_icmp_eq (tgt := 74) C dX9_renumber_67 (by decide) (fun c67 => ?_) (fun c67 => ?_)
      · replace h := jm_ift c67 h
        refine jt_iconst (v := (0 : Int32)) C dX9_renumber_74 (by decide) ?_
        refine jt_istore (lv' := [(5, _), (0, _), (1, _), (2, _), (3, _), (4, _), (6, _)]) C dX9_renumber_75 (by decide) rfl ?_
        refine jt_iinc (v := (1 : Int32)) (lv' := [(6, _), (5, _), (0, _), (1, _), (2, _), (3, _), (4, _)]) C dX9_renumber_77 6 rfl (by decide) (by decide) rfl ?_
        refine jt_goto (tgt := 47) C dX9_renumber_80 (by decide) ?_
        cases h
        exact jt_sub [2, 3, 4, 5, 6, 1, 0] rfl (h1 _ rfl _ _ rfl)
      · replace h := jm_iff c67 h
        refine jt_iconst (v := (1 : Int32)) C dX9_renumber_70 (by decide) ?_
        refine jt_goto (tgt := 75) C dX9_renumber_71 (by decide) ?_
        refine jt_istore (lv' := [(5, _), (0, _), (1, _), (2, _), (3, _), (4, _), (6, _)]) C dX9_renumber_75 (by decide) rfl ?_
        refine jt_iinc (v := (1 : Int32)) (lv' := [(6, _), (5, _), (0, _), (1, _), (2, _), (3, _), (4, _)]) C dX9_renumber_77 6 rfl (by decide) (by decide) rfl ?_
        refine jt_goto (tgt := 47) C dX9_renumber_80 (by decide) ?_
        cases h
        exact jt_sub [2, 3, 4, 5, 6, 1, 0] rfl (h1 _ rfl _ _ rfl)
set_option maxHeartbeats 4000000 in
set_option maxRecDepth 100000 in
theorem t_X9_renumber_L9 {X : jm_X} {k : jm_C} (C : jm_Cx X k cX9_renumber 7 RX9 w_X9_renumber) (n : Nat) (r0 : Nat) (v1 : Int32) (v2 : Int32) (hr0 : jm_is r0 (3, 8)) : ∀ (m : Nat) (s : Int32 × jm_M) (r : jm_M), jm_loop (X9_renumber_B9 n r0 v1 v2) m s = some r → jm_T X { frames := 4, cells := 0, slots := 0, locals := 160 } k 7 r 140 [] [] → (∀ (b0 : Int32) (b1 : jm_M), s = (b0, b1) → jm_T X { frames := 4, cells := 0, slots := 0, locals := 160 } k 7 b1 9 [(0, .ref (jm_ad k r0)), (1, .int v1), (2, .int v2), (3, .int b0)] []) := by
  refine jm_loop_ind (P := fun (s : Int32 × jm_M) => (∀ (b0 : Int32) (b1 : jm_M), s = (b0, b1) → jm_T X { frames := 4, cells := 0, slots := 0, locals := 160 } k 7 b1 9 [(0, .ref (jm_ad k r0)), (1, .int v1), (2, .int v2), (3, .int b0)] [])) (K := fun (r : jm_M) => jm_T X { frames := 4, cells := 0, slots := 0, locals := 160 } k 7 r 140 [] []) ?_
  intro s q h h1 h2
  intro b0 b1 hs
  subst hs
  unfold X9_renumber_B9 at h
  try dsimp only at h
  refine jt_iload_n C dX9_renumber_9 rfl 3 rfl ?_
  refine jt_if_lt (tgt := 140) C dX9_renumber_10 (by decide) (fun c10 => ?_) (fun c10 => ?_)
  · replace h := jm_ift c10 h
    cases h
    exact jt_sub [] rfl (h2 _ rfl)
  · replace h := jm_iff c10 h
    refine jt_aload_n C dX9_renumber_13 rfl 0 rfl ?_
    refine jt_getR (Tf := TX9) (N := 17) C dX9_renumber_14 hr0 rfl i_9 6 (by decide) rfl m_RX9_25 rfl ?_
    refine jt_iload_n C dX9_renumber_17 rfl 3 rfl ?_
    refine jt_dup2 C dX9_renumber_18 rfl rfl ?_
    obtain ⟨x2, ex2, h⟩ := jm_bind h
    refine jt_iald C dX9_renumber_19 (jm_f8_6 hr0) ex2 ?_
    refine jt_iconst (v := (1 : Int32)) C dX9_renumber_20 (by decide) ?_
    refine jt_iadd C dX9_renumber_21 ?_
    obtain ⟨M3, eM3, h⟩ := jm_bind h
    refine jt_iast C dX9_renumber_22 (jm_f8_6 hr0) eM3 ?_
    refine jt_aload_n C dX9_renumber_23 rfl 0 rfl ?_
    refine jt_getR (Tf := TX9) (N := 17) C dX9_renumber_24 hr0 rfl i_9 6 (by decide) rfl m_RX9_25 rfl ?_
    refine jt_iload_n C dX9_renumber_27 rfl 3 rfl ?_
    obtain ⟨x4, ex4, h⟩ := jm_bind h
    refine jt_iald C dX9_renumber_28 (jm_f8_6 hr0) ex4 ?_
    refine jt_istore (lv' := [(4, _), (0, _), (1, _), (2, _), (3, _)]) C dX9_renumber_29 (by decide) rfl ?_
    refine jt_iload C dX9_renumber_31 0 rfl ?_
    refine jt_iload_n C dX9_renumber_33 rfl 2 rfl ?_
    refine jt_icmp_ge (tgt := 41) C dX9_renumber_34 (by decide) (fun c34 => ?_) (fun c34 => ?_)
    · replace h := jm_ift c34 h
      refine jt_iconst (v := (0 : Int32)) C dX9_renumber_41 (by decide) ?_
      refine jt_istore (lv' := [(5, _), (4, _), (0, _), (1, _), (2, _), (3, _)]) C dX9_renumber_42 (by decide) rfl ?_
      refine jt_iconst (v := (0 : Int32)) C dX9_renumber_44 (by decide) ?_
      refine jt_istore (lv' := [(6, _), (5, _), (4, _), (0, _), (1, _), (2, _), (3, _)]) C dX9_renumber_45 (by decide) rfl ?_
      obtain ⟨q6, eq6, h⟩ := jm_bind h
      refine jt_sub [3, 4, 5, 6, 2, 1, 0] rfl ?_
      refine t_X9_renumber_L47 C _ _ _ _ _ _ hr0 n _ _ eq6 ?_ _ _ rfl
      refine jt_iload C dX9_renumber_83 4 rfl ?_
      refine jt_iload_n C dX9_renumber_85 rfl 1 rfl ?_
      refine jt_icmp_lt (tgt := 95) C dX9_renumber_86 (by decide) (fun c86 => ?_) (fun c86 => ?_)
      · replace h := jm_ift c86 h
        refine jt_iload C dX9_renumber_95 5 rfl ?_
        refine jt_if_eq (tgt := 120) C dX9_renumber_97 (by decide) (fun c97 => ?_) (fun c97 => ?_)
        · replace h := jm_ift c97 h
          refine jt_iload C dX9_renumber_120 5 rfl ?_
          refine jt_if_eq (tgt := 137) C dX9_renumber_122 (by decide) (fun c122 => ?_) (fun c122 => ?_)
          · replace h := jm_ift c122 h
            refine jt_goto (tgt := 9) C dX9_renumber_137 (by decide) ?_
            cases h
            exact jt_sub [0, 1, 2, 3] rfl (h1 _ rfl _ _ rfl)
          · replace h := jm_iff c122 h
            refine jt_aload_n C dX9_renumber_125 rfl 0 rfl ?_
            refine jt_getR (Tf := TX9) (N := 17) C dX9_renumber_126 hr0 rfl i_9 10 (by decide) rfl m_RX9_35 rfl ?_
            refine jt_aload_n C dX9_renumber_129 rfl 0 rfl ?_
            refine jt_iload_n C dX9_renumber_130 rfl 1 rfl ?_
            refine jt_iload_n C dX9_renumber_131 rfl 2 rfl ?_
            obtain ⟨x7, ex7, h⟩ := jm_bind h
            refine jt_callVi (As := [_, _]) (rest := [_]) C hr0 rfl dX9_renumber_132 (c_X9_turned (jx_l X) k n _ _ _ _ hr0 _ ex7) (k_goodIn (g_RX9_168)) rfl h_X9_turned ⟨rfl, rfl, Nat.le_of_ble_eq_true rfl, Nat.le_of_ble_eq_true rfl⟩ rfl rfl (Nat.le_of_ble_eq_true rfl) ?_
            refine jt_iload_n C dX9_renumber_135 rfl 2 rfl ?_
            obtain ⟨M8, eM8, h⟩ := jm_bind h
            refine jt_iast C dX9_renumber_136 (jm_f8_10 hr0) eM8 ?_
            refine jt_goto (tgt := 9) C dX9_renumber_137 (by decide) ?_
            cases h
            exact jt_sub [0, 1, 2, 3] rfl (h1 _ rfl _ _ rfl)
        · replace h := jm_iff c97 h
          refine jt_iload_n C dX9_renumber_100 rfl 3 rfl ?_
          refine jt_iload_n C dX9_renumber_101 rfl 1 rfl ?_
          refine jt_iconst (v := (1 : Int32)) C dX9_renumber_102 (by decide) ?_
          refine jt_isub C dX9_renumber_103 ?_
          refine jt_icmp_ge (tgt := 120) C dX9_renumber_104 (by decide) (fun c104 => ?_) (fun c104 => ?_)
          · replace h := jm_ift c104 h
            refine jt_iload C dX9_renumber_120 5 rfl ?_
            refine jt_if_eq (tgt := 137) C dX9_renumber_122 (by decide) (fun c122 => ?_) (fun c122 => ?_)
            · replace h := jm_ift c122 h
              refine jt_goto (tgt := 9) C dX9_renumber_137 (by decide) ?_
              cases h
              exact jt_sub [0, 1, 2, 3] rfl (h1 _ rfl _ _ rfl)
            · replace h := jm_iff c122 h
              refine jt_aload_n C dX9_renumber_125 rfl 0 rfl ?_
              refine jt_getR (Tf := TX9) (N := 17) C dX9_renumber_126 hr0 rfl i_9 10 (by decide) rfl m_RX9_35 rfl ?_
              refine jt_aload_n C dX9_renumber_129 rfl 0 rfl ?_
              refine jt_iload_n C dX9_renumber_130 rfl 1 rfl ?_
              refine jt_iload_n C dX9_renumber_131 rfl 2 rfl ?_
              obtain ⟨x9, ex9, h⟩ := jm_bind h
              refine jt_callVi (As := [_, _]) (rest := [_]) C hr0 rfl dX9_renumber_132 (c_X9_turned (jx_l X) k n _ _ _ _ hr0 _ ex9) (k_goodIn (g_RX9_168)) rfl h_X9_turned ⟨rfl, rfl, Nat.le_of_ble_eq_true rfl, Nat.le_of_ble_eq_true rfl⟩ rfl rfl (Nat.le_of_ble_eq_true rfl) ?_
              refine jt_iload_n C dX9_renumber_135 rfl 2 rfl ?_
              obtain ⟨M10, eM10, h⟩ := jm_bind h
              refine jt_iast C dX9_renumber_136 (jm_f8_10 hr0) eM10 ?_
              refine jt_goto (tgt := 9) C dX9_renumber_137 (by decide) ?_
              cases h
              exact jt_sub [0, 1, 2, 3] rfl (h1 _ rfl _ _ rfl)
          · replace h := jm_iff c104 h
            refine jt_iinc (v := (1 : Int32)) (lv' := [(3, _), (0, _), (1, _), (2, _), (4, _), (5, _)]) C dX9_renumber_107 3 rfl (by decide) (by decide) rfl ?_
            refine jt_aload_n C dX9_renumber_110 rfl 1 rfl ?_
            refine jt_getR (Tf := TX9) (N := 17) C dX9_renumber_111 hr0 rfl i_9 6 (by decide) rfl m_RX9_25 rfl ?_
            refine jt_iload_n C dX9_renumber_114 rfl 0 rfl ?_
            refine jt_iconst (v := (-1 : Int32)) C dX9_renumber_115 (by decide) ?_
            obtain ⟨M11, eM11, h⟩ := jm_bind h
            refine jt_iast C dX9_renumber_116 (jm_f8_6 hr0) eM11 ?_
            refine jt_goto (tgt := 137) C dX9_renumber_117 (by decide) ?_
            refine jt_goto (tgt := 9) C dX9_renumber_137 (by decide) ?_
            cases h
            exact jt_sub [1, 2, 3, 0] rfl (h1 _ rfl _ _ rfl)
      · replace h := jm_iff c86 h
        refine jt_iinc (v := (-1 : Int32)) (lv' := [(3, _), (0, _), (1, _), (2, _), (4, _), (5, _)]) C dX9_renumber_89 3 rfl (by decide) (by decide) rfl ?_
        refine jt_goto (tgt := 137) C dX9_renumber_92 (by decide) ?_
        refine jt_goto (tgt := 9) C dX9_renumber_137 (by decide) ?_
        cases h
        exact jt_sub [1, 2, 3, 0] rfl (h1 _ rfl _ _ rfl)
    · replace h := jm_iff c34 h
      refine jt_iconst (v := (1 : Int32)) C dX9_renumber_37 (by decide) ?_
      refine jt_goto (tgt := 42) C dX9_renumber_38 (by decide) ?_
      refine jt_istore (lv' := [(5, _), (4, _), (0, _), (1, _), (2, _), (3, _)]) C dX9_renumber_42 (by decide) rfl ?_
      refine jt_iconst (v := (0 : Int32)) C dX9_renumber_44 (by decide) ?_
      refine jt_istore (lv' := [(6, _), (5, _), (4, _), (0, _), (1, _), (2, _), (3, _)]) C dX9_renumber_45 (by decide) rfl ?_
      obtain ⟨q12, eq12, h⟩ := jm_bind h
      refine jt_sub [3, 4, 5, 6, 2, 1, 0] rfl ?_
      refine t_X9_renumber_L47 C _ _ _ _ _ _ hr0 n _ _ eq12 ?_ _ _ rfl
      refine jt_iload C dX9_renumber_83 4 rfl ?_
      refine jt_iload_n C dX9_renumber_85 rfl 1 rfl ?_
      refine jt_icmp_lt (tgt := 95) C dX9_renumber_86 (by decide) (fun c86 => ?_) (fun c86 => ?_)
      · replace h := jm_ift c86 h
        refine jt_iload C dX9_renumber_95 5 rfl ?_
        refine jt_if_eq (tgt := 120) C dX9_renumber_97 (by decide) (fun c97 => ?_) (fun c97 => ?_)
        · replace h := jm_ift c97 h
          refine jt_iload C dX9_renumber_120 5 rfl ?_
          refine jt_if_eq (tgt := 137) C dX9_renumber_122 (by decide) (fun c122 => ?_) (fun c122 => ?_)
          · replace h := jm_ift c122 h
            refine jt_goto (tgt := 9) C dX9_renumber_137 (by decide) ?_
            cases h
            exact jt_sub [0, 1, 2, 3] rfl (h1 _ rfl _ _ rfl)
          · replace h := jm_iff c122 h
            refine jt_aload_n C dX9_renumber_125 rfl 0 rfl ?_
            refine jt_getR (Tf := TX9) (N := 17) C dX9_renumber_126 hr0 rfl i_9 10 (by decide) rfl m_RX9_35 rfl ?_
            refine jt_aload_n C dX9_renumber_129 rfl 0 rfl ?_
            refine jt_iload_n C dX9_renumber_130 rfl 1 rfl ?_
            refine jt_iload_n C dX9_renumber_131 rfl 2 rfl ?_
            obtain ⟨x13, ex13, h⟩ := jm_bind h
            refine jt_callVi (As := [_, _]) (rest := [_]) C hr0 rfl dX9_renumber_132 (c_X9_turned (jx_l X) k n _ _ _ _ hr0 _ ex13) (k_goodIn (g_RX9_168)) rfl h_X9_turned ⟨rfl, rfl, Nat.le_of_ble_eq_true rfl, Nat.le_of_ble_eq_true rfl⟩ rfl rfl (Nat.le_of_ble_eq_true rfl) ?_
            refine jt_iload_n C dX9_renumber_135 rfl 2 rfl ?_
            obtain ⟨M14, eM14, h⟩ := jm_bind h
            refine jt_iast C dX9_renumber_136 (jm_f8_10 hr0) eM14 ?_
            refine jt_goto (tgt := 9) C dX9_renumber_137 (by decide) ?_
            cases h
            exact jt_sub [0, 1, 2, 3] rfl (h1 _ rfl _ _ rfl)
        · replace h := jm_iff c97 h
          refine jt_iload_n C dX9_renumber_100 rfl 3 rfl ?_
          refine jt_iload_n C dX9_renumber_101 rfl 1 rfl ?_
          refine jt_iconst (v := (1 : Int32)) C dX9_renumber_102 (by decide) ?_
          refine jt_isub C dX9_renumber_103 ?_
          refine jt_icmp_ge (tgt := 120) C dX9_renumber_104 (by decide) (fun c104 => ?_) (fun c104 => ?_)
          · replace h := jm_ift c104 h
            refine jt_iload C dX9_renumber_120 5 rfl ?_
            refine jt_if_eq (tgt := 137) C dX9_renumber_122 (by decide) (fun c122 => ?_) (fun c122 => ?_)
            · replace h := jm_ift c122 h
              refine jt_goto (tgt := 9) C dX9_renumber_137 (by decide) ?_
              cases h
              exact jt_sub [0, 1, 2, 3] rfl (h1 _ rfl _ _ rfl)
            · replace h := jm_iff c122 h
              refine jt_aload_n C dX9_renumber_125 rfl 0 rfl ?_
              refine jt_getR (Tf := TX9) (N := 17) C dX9_renumber_126 hr0 rfl i_9 10 (by decide) rfl m_RX9_35 rfl ?_
              refine jt_aload_n C dX9_renumber_129 rfl 0 rfl ?_
              refine jt_iload_n C dX9_renumber_130 rfl 1 rfl ?_
              refine jt_iload_n C dX9_renumber_131 rfl 2 rfl ?_
              obtain ⟨x15, ex15, h⟩ := jm_bind h
              refine jt_callVi (As := [_, _]) (rest := [_]) C hr0 rfl dX9_renumber_132 (c_X9_turned (jx_l X) k n _ _ _ _ hr0 _ ex15) (k_goodIn (g_RX9_168)) rfl h_X9_turned ⟨rfl, rfl, Nat.le_of_ble_eq_true rfl, Nat.le_of_ble_eq_true rfl⟩ rfl rfl (Nat.le_of_ble_eq_true rfl) ?_
              refine jt_iload_n C dX9_renumber_135 rfl 2 rfl ?_
              obtain ⟨M16, eM16, h⟩ := jm_bind h
              refine jt_iast C dX9_renumber_136 (jm_f8_10 hr0) eM16 ?_
              refine jt_goto (tgt := 9) C dX9_renumber_137 (by decide) ?_
              cases h
              exact jt_sub [0, 1, 2, 3] rfl (h1 _ rfl _ _ rfl)
          · replace h := jm_iff c104 h
            refine jt_iinc (v := (1 : Int32)) (lv' := [(3, _), (0, _), (1, _), (2, _), (4, _), (5, _)]) C dX9_renumber_107 3 rfl (by decide) (by decide) rfl ?_
            refine jt_aload_n C dX9_renumber_110 rfl 1 rfl ?_
            refine jt_getR (Tf := TX9) (N := 17) C dX9_renumber_111 hr0 rfl i_9 6 (by decide) rfl m_RX9_25 rfl ?_
            refine jt_iload_n C dX9_renumber_114 rfl 0 rfl ?_
            refine jt_iconst (v := (-1 : Int32)) C dX9_renumber_115 (by decide) ?_
            obtain ⟨M17, eM17, h⟩ := jm_bind h
            refine jt_iast C dX9_renumber_116 (jm_f8_6 hr0) eM17 ?_
            refine jt_goto (tgt := 137) C dX9_renumber_117 (by decide) ?_
            refine jt_goto (tgt := 9) C dX9_renumber_137 (by decide) ?_
            cases h
            exact jt_sub [1, 2, 3, 0] rfl (h1 _ rfl _ _ rfl)
      · replace h := jm_iff c86 h
        refine jt_iinc (v := (-1 : Int32)) (lv' := [(3, _), (0, _), (1, _), (2, _), (4, _), (5, _)]) C dX9_renumber_89 3 rfl (by decide) (by decide) rfl ?_
        refine jt_goto (tgt := 137) C dX9_renumber_92 (by decide) ?_
        refine jt_goto (tgt := 9) C dX9_renumber_137 (by decide) ?_
        cases h
        exact jt_sub [1, 2, 3, 0] rfl (h1 _ rfl _ _ rfl)
set_option maxHeartbeats 4000000 in
set_option maxRecDepth 100000 in
theorem c_X9_renumber (l : Launch) (k : jm_C) (n : Nat) (r0 : Nat) (v1 : Int32) (v2 : Int32) (M : jm_M) (hr0 : jm_is r0 (3, 8)) (q : jm_M) (h : X9_renumber n r0 v1 v2 M = some q) : jm_Cv l k yX9_renumber w_X9_renumber { frames := 4, cells := 0, slots := 0, locals := 160 } [.ref (jm_ad k r0), .int v1, .int v2] M q := by
  refine jm_entry_v (cc := cX9_renumber) (nL := 7) (ret := none) (by decide) rfl (Nat.le_of_ble_eq_true rfl) ?_
  intro X hX C hQ hr
  subst hX
  unfold X9_renumber at h
  refine jt_iconst (v := (0 : Int32)) C dX9_renumber_0 (by decide) ?_
  refine jt_istore_n (lv' := [(3, _), (0, _), (1, _), (2, _)]) C dX9_renumber_1 rfl (by decide) rfl ?_
  refine jt_aload_n C dX9_renumber_2 rfl 1 rfl ?_
  refine jt_getR (Tf := TX9) (N := 17) C dX9_renumber_3 hr0 rfl i_9 6 (by decide) rfl m_RX9_25 rfl ?_
  refine jt_iconst (v := (0 : Int32)) C dX9_renumber_6 (by decide) ?_
  refine jt_iconst (v := (-1 : Int32)) C dX9_renumber_7 (by decide) ?_
  obtain ⟨M1, eM1, h⟩ := jm_bind h
  refine jt_iast C dX9_renumber_8 (jm_f8_6 hr0) eM1 ?_
  obtain ⟨q18, eq18, h⟩ := jm_bind h
  refine jt_sub [1, 2, 3, 0] rfl ?_
  refine t_X9_renumber_L9 C n _ _ _ hr0 n _ _ eq18 ?_ _ _ rfl
  cases h
  exact jt_vret C dX9_renumber_140 hQ hr
theorem h_X9_layKinds : yX9_layKinds.cls = RX9 ∧ yX9_layKinds.cls ≠ "java/lang/invoke/MethodHandle" ∧ yX9_layKinds.cls ≠ "java/lang/invoke/VarHandle" ∧ (parseMethodDescriptor yX9_layKinds.desc).map (fun d => d.parameters.length) = some 1 := by decide +kernel
set_option maxHeartbeats 4000000 in
set_option maxRecDepth 100000 in
theorem t_X9_layKinds_L7 {X : jm_X} {k : jm_C} (C : jm_Cx X k cX9_layKinds 3 RX9 w_X9_layKinds) (r0 : Nat) (v1 : Int32) (hr0 : jm_is r0 (3, 8)) : ∀ (m : Nat) (s : Int32 × jm_M) (r : jm_M), jm_loop (X9_layKinds_B7 r0 v1) m s = some r → jm_T X { frames := 5, cells := 0, slots := 0, locals := 200 } k 3 r 30 [(0, .ref (jm_ad k r0)), (1, .int v1)] [] → (∀ (b0 : Int32) (b1 : jm_M), s = (b0, b1) → jm_T X { frames := 5, cells := 0, slots := 0, locals := 200 } k 3 b1 7 [(0, .ref (jm_ad k r0)), (1, .int v1), (2, .int b0)] []) := by
  refine jm_loop_ind (P := fun (s : Int32 × jm_M) => (∀ (b0 : Int32) (b1 : jm_M), s = (b0, b1) → jm_T X { frames := 5, cells := 0, slots := 0, locals := 200 } k 3 b1 7 [(0, .ref (jm_ad k r0)), (1, .int v1), (2, .int b0)] [])) (K := fun (r : jm_M) => jm_T X { frames := 5, cells := 0, slots := 0, locals := 200 } k 3 r 30 [(0, .ref (jm_ad k r0)), (1, .int v1)] []) ?_
  intro s q h h1 h2
  intro b0 b1 hs
  subst hs
  unfold X9_layKinds_B7 at h
  try dsimp only at h
  refine jt_iload_n C dX9_layKinds_7 rfl 2 rfl ?_
  refine jt_iconst (v := (1 : Int32)) C dX9_layKinds_8 (by decide) ?_
  refine jt_iload_n C dX9_layKinds_9 rfl 1 rfl ?_
  refine jt_callSi (As := [_]) (rest := [_, _]) C dX9_layKinds_10 (c_X9_pairs (jx_l X) k _ _ _ rfl) (k_goodIn (g_RX9_58)) rfl h_X9_pairs ⟨rfl, rfl, Nat.le_of_ble_eq_true rfl, Nat.le_of_ble_eq_true rfl⟩ rfl rfl (Nat.le_of_ble_eq_true rfl) ?_
  refine jt_ishl C dX9_layKinds_13 ?_
  refine jt_icmp_ge (tgt := 30) C dX9_layKinds_14 (by decide) (fun c14 => ?_) (fun c14 => ?_)
  · replace h := jm_ift c14 h
    cases h
    exact jt_sub [0, 1] rfl (h2 _ rfl)
  · replace h := jm_iff c14 h
    refine jt_aload_n C dX9_layKinds_17 rfl 0 rfl ?_
    refine jt_getR (Tf := TX9) (N := 17) C dX9_layKinds_18 hr0 rfl i_9 10 (by decide) rfl m_RX9_35 rfl ?_
    refine jt_iload_n C dX9_layKinds_21 rfl 2 rfl ?_
    refine jt_iconst (v := (-1 : Int32)) C dX9_layKinds_22 (by decide) ?_
    obtain ⟨M1, eM1, h⟩ := jm_bind h
    refine jt_iast C dX9_layKinds_23 (jm_f8_10 hr0) eM1 ?_
    refine jt_iinc (v := (1 : Int32)) (lv' := [(2, _), (0, _), (1, _)]) C dX9_layKinds_24 2 rfl (by decide) (by decide) rfl ?_
    refine jt_goto (tgt := 7) C dX9_layKinds_27 (by decide) ?_
    cases h
    exact jt_sub [1, 2, 0] rfl (h1 _ rfl _ _ rfl)
set_option maxHeartbeats 4000000 in
set_option maxRecDepth 100000 in
theorem t_X9_layKinds_L32 {X : jm_X} {k : jm_C} (C : jm_Cx X k cX9_layKinds 3 RX9 w_X9_layKinds) (n : Nat) (r0 : Nat) (v1 : Int32) (hr0 : jm_is r0 (3, 8)) : ∀ (m : Nat) (s : Int32 × jm_M) (r : jm_M), jm_loop (X9_layKinds_B32 n r0 v1) m s = some r → jm_T X { frames := 5, cells := 0, slots := 0, locals := 200 } k 3 r 83 [] [] → (∀ (b0 : Int32) (b1 : jm_M), s = (b0, b1) → jm_T X { frames := 5, cells := 0, slots := 0, locals := 200 } k 3 b1 32 [(0, .ref (jm_ad k r0)), (1, .int v1), (2, .int b0)] []) := by
  refine jm_loop_ind (P := fun (s : Int32 × jm_M) => (∀ (b0 : Int32) (b1 : jm_M), s = (b0, b1) → jm_T X { frames := 5, cells := 0, slots := 0, locals := 200 } k 3 b1 32 [(0, .ref (jm_ad k r0)), (1, .int v1), (2, .int b0)] [])) (K := fun (r : jm_M) => jm_T X { frames := 5, cells := 0, slots := 0, locals := 200 } k 3 r 83 [] []) ?_
  intro s q h h1 h2
  intro b0 b1 hs
  subst hs
  unfold X9_layKinds_B32 at h
  try dsimp only at h
  refine jt_iload_n C dX9_layKinds_32 rfl 2 rfl ?_
  refine jt_iconst (v := (1 : Int32)) C dX9_layKinds_33 (by decide) ?_
  refine jt_iload_n C dX9_layKinds_34 rfl 1 rfl ?_
  refine jt_callSi (As := [_]) (rest := [_, _]) C dX9_layKinds_35 (c_X9_pairs (jx_l X) k _ _ _ rfl) (k_goodIn (g_RX9_58)) rfl h_X9_pairs ⟨rfl, rfl, Nat.le_of_ble_eq_true rfl, Nat.le_of_ble_eq_true rfl⟩ rfl rfl (Nat.le_of_ble_eq_true rfl) ?_
  refine jt_ishl C dX9_layKinds_38 ?_
  refine jt_icmp_ge (tgt := 83) C dX9_layKinds_39 (by decide) (fun c39 => ?_) (fun c39 => ?_)
  · replace h := jm_ift c39 h
    cases h
    exact jt_sub [] rfl (h2 _ rfl)
  · replace h := jm_iff c39 h
    refine jt_aload_n C dX9_layKinds_42 rfl 0 rfl ?_
    refine jt_getR (Tf := TX9) (N := 17) C dX9_layKinds_43 hr0 rfl i_9 10 (by decide) rfl m_RX9_35 rfl ?_
    refine jt_iload_n C dX9_layKinds_46 rfl 2 rfl ?_
    obtain ⟨x3, ex3, h⟩ := jm_bind h
    refine jt_iald C dX9_layKinds_47 (jm_f8_10 hr0) ex3 ?_
    refine jt_if_ge (tgt := 77) C dX9_layKinds_48 (by decide) (fun c48 => ?_) (fun c48 => ?_)
    · replace h := jm_ift c48 h
      refine jt_iinc (v := (1 : Int32)) (lv' := [(2, _), (0, _), (1, _)]) C dX9_layKinds_77 2 rfl (by decide) (by decide) rfl ?_
      refine jt_goto (tgt := 32) C dX9_layKinds_80 (by decide) ?_
      cases h
      exact jt_sub [1, 2, 0] rfl (h1 _ rfl _ _ rfl)
    · replace h := jm_iff c48 h
      refine jt_aload_n C dX9_layKinds_51 rfl 0 rfl ?_
      refine jt_getR (Tf := TX9) (N := 17) C dX9_layKinds_52 hr0 rfl i_9 11 (by decide) rfl m_RX9_38 rfl ?_
      refine jt_aload_n C dX9_layKinds_55 rfl 0 rfl ?_
      refine jt_getI (Tf := TX9) (N := 17) C dX9_layKinds_56 hr0 rfl i_9 13 (by decide) rfl m_RX9_161 rfl ?_
      refine jt_iload_n C dX9_layKinds_59 rfl 2 rfl ?_
      obtain ⟨M4, eM4, h⟩ := jm_bind h
      refine jt_iast C dX9_layKinds_60 (jm_f8_11 hr0) eM4 ?_
      refine jt_aload_n C dX9_layKinds_61 rfl 0 rfl ?_
      refine jt_dup C dX9_layKinds_62 rfl ?_
      refine jt_getI (Tf := TX9) (N := 17) C dX9_layKinds_63 hr0 rfl i_9 13 (by decide) rfl m_RX9_161 rfl ?_
      refine jt_iconst (v := (1 : Int32)) C dX9_layKinds_66 (by decide) ?_
      refine jt_iadd C dX9_layKinds_67 ?_
      refine jt_putI (Tf := TX9) (N := 17) C dX9_layKinds_68 hr0 rfl i_9 tyX9 tyX9_ok nmX9 13 (by decide) rfl m_RX9_161 rfl rfl (by decide +kernel) ?_
      refine jt_aload_n C dX9_layKinds_71 rfl 0 rfl ?_
      refine jt_iload_n C dX9_layKinds_72 rfl 1 rfl ?_
      refine jt_iload_n C dX9_layKinds_73 rfl 2 rfl ?_
      obtain ⟨M5, eM5, h⟩ := jm_bind h
      refine jt_callVv (As := [_, _]) (rest := []) C hr0 rfl dX9_layKinds_74 (c_X9_renumber (jx_l X) k n _ _ _ _ hr0 _ eM5) (k_goodIn (g_RX9_164)) rfl h_X9_renumber ⟨rfl, rfl, Nat.le_of_ble_eq_true rfl, Nat.le_of_ble_eq_true rfl⟩ rfl rfl (Nat.le_of_ble_eq_true rfl) ?_
      refine jt_iinc (v := (1 : Int32)) (lv' := [(2, _), (0, _), (1, _)]) C dX9_layKinds_77 2 rfl (by decide) (by decide) rfl ?_
      refine jt_goto (tgt := 32) C dX9_layKinds_80 (by decide) ?_
      cases h
      exact jt_sub [1, 2, 0] rfl (h1 _ rfl _ _ rfl)
set_option maxHeartbeats 4000000 in
set_option maxRecDepth 100000 in
theorem c_X9_layKinds (l : Launch) (k : jm_C) (n : Nat) (r0 : Nat) (v1 : Int32) (M : jm_M) (hr0 : jm_is r0 (3, 8)) (q : jm_M) (h : X9_layKinds n r0 v1 M = some q) : jm_Cv l k yX9_layKinds w_X9_layKinds { frames := 5, cells := 0, slots := 0, locals := 200 } [.ref (jm_ad k r0), .int v1] M q := by
  refine jm_entry_v (cc := cX9_layKinds) (nL := 3) (ret := none) (by decide) rfl (Nat.le_of_ble_eq_true rfl) ?_
  intro X hX C hQ hr
  subst hX
  unfold X9_layKinds at h
  refine jt_aload_n C dX9_layKinds_0 rfl 0 rfl ?_
  refine jt_iconst (v := (0 : Int32)) C dX9_layKinds_1 (by decide) ?_
  refine jt_putI (Tf := TX9) (N := 17) C dX9_layKinds_2 hr0 rfl i_9 tyX9 tyX9_ok nmX9 13 (by decide) rfl m_RX9_161 rfl rfl (by decide +kernel) ?_
  refine jt_iconst (v := (0 : Int32)) C dX9_layKinds_5 (by decide) ?_
  refine jt_istore_n (lv' := [(2, _), (0, _), (1, _)]) C dX9_layKinds_6 rfl (by decide) rfl ?_
  obtain ⟨q2, eq2, h⟩ := jm_bind h
  refine jt_sub [1, 2, 0] rfl ?_
  refine t_X9_layKinds_L7 C _ _ hr0 n _ _ eq2 ?_ _ _ rfl
  refine jt_iconst (v := (0 : Int32)) C dX9_layKinds_30 (by decide) ?_
  refine jt_istore_n (lv' := [(2, _), (0, _), (1, _)]) C dX9_layKinds_31 rfl (by decide) rfl ?_
  obtain ⟨q6, eq6, h⟩ := jm_bind h
  refine jt_sub [1, 2, 0] rfl ?_
  refine t_X9_layKinds_L32 C n _ _ hr0 n _ _ eq6 ?_ _ _ rfl
  cases h
  exact jt_vret C dX9_layKinds_83 hQ hr
