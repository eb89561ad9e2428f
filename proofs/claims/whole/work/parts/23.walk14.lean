theorem h_X9_counted : yX9_counted.cls = RX9 ∧ yX9_counted.cls ≠ "java/lang/invoke/MethodHandle" ∧ yX9_counted.cls ≠ "java/lang/invoke/VarHandle" ∧ (parseMethodDescriptor yX9_counted.desc).map (fun d => d.parameters.length) = some 1 := by decide +kernel
set_option maxHeartbeats 4000000 in
set_option maxRecDepth 100000 in
theorem t_X9_counted_L56 {X : jm_X} {k : jm_C} (C : jm_Cx X k cX9_counted 5 RX9 w_X9_counted) (n : Nat) (r0 : Nat) (v1 : Int32) (v2 : Int32) (hr0 : jm_is r0 (3, 8)) : ∀ (m : Nat) (s : Int32 × Int32 × jm_M) (r : Int32 × jm_M), jm_loop (X9_counted_B56 n r0 v1 v2) m s = some r → (∀ (b0 : Int32) (b1 : jm_M), r = (b0, b1) → jm_T X { frames := 5, cells := 0, slots := 0, locals := 200 } k 5 b1 98 [(0, .ref (jm_ad k r0)), (2, .int v2), (3, .int b0)] []) → (∀ (b0 : Int32) (b1 : Int32) (b2 : jm_M), s = (b0, b1, b2) → jm_T X { frames := 5, cells := 0, slots := 0, locals := 200 } k 5 b2 56 [(0, .ref (jm_ad k r0)), (1, .int v1), (2, .int v2), (3, .int b0), (4, .int b1)] []) := by
  refine jm_loop_ind (P := fun (s : Int32 × Int32 × jm_M) => (∀ (b0 : Int32) (b1 : Int32) (b2 : jm_M), s = (b0, b1, b2) → jm_T X { frames := 5, cells := 0, slots := 0, locals := 200 } k 5 b2 56 [(0, .ref (jm_ad k r0)), (1, .int v1), (2, .int v2), (3, .int b0), (4, .int b1)] [])) (K := fun (r : Int32 × jm_M) => ∀ (b0 : Int32) (b1 : jm_M), r = (b0, b1) → jm_T X { frames := 5, cells := 0, slots := 0, locals := 200 } k 5 b1 98 [(0, .ref (jm_ad k r0)), (2, .int v2), (3, .int b0)] []) ?_
  intro s q h h1 h2
  intro b0 b1 b2 hs
  subst hs
  unfold X9_counted_B56 at h
  try dsimp only at h
  refine jt_iload C dX9_counted_56 4 rfl ?_
  refine jt_aload_n C dX9_counted_58 rfl 0 rfl ?_
  refine jt_getR (Tf := TX9) (N := 17) C dX9_counted_59 hr0 rfl i_9 0 (by decide) rfl m_RX9_7 rfl ?_
  refine jt_iconst (v := (3 : Int32)) C dX9_counted_62 (by decide) ?_
  obtain ⟨x3, ex3, h⟩ := jm_bind h
  refine jt_iald C dX9_counted_63 (jm_f8_0 hr0) ex3 ?_
  refine jt_icmp_ge (tgt := 98) C dX9_counted_64 (by decide) (fun c64 => ?_) (fun c64 => ?_)
  · replace h := jm_ift c64 h
    cases h
    exact jt_sub [0, 2, 3] rfl (h2 _ rfl _ _ rfl)
  · replace h := jm_iff c64 h
    refine jt_iload_n C dX9_counted_67 rfl 3 rfl ?_
    refine jt_aload_n C dX9_counted_68 rfl 0 rfl ?_
    refine jt_aload_n C dX9_counted_69 rfl 0 rfl ?_
    refine jt_getR (Tf := TX9) (N := 17) C dX9_counted_70 hr0 rfl i_9 0 (by decide) rfl m_RX9_7 rfl ?_
    refine jt_iconst (v := (2 : Int32)) C dX9_counted_73 (by decide) ?_
    obtain ⟨x4, ex4, h⟩ := jm_bind h
    refine jt_iald C dX9_counted_74 (jm_f8_0 hr0) ex4 ?_
    refine jt_iconst (v := (1 : Int32)) C dX9_counted_75 (by decide) ?_
    refine jt_isub C dX9_counted_76 ?_
    refine jt_aload_n C dX9_counted_77 rfl 0 rfl ?_
    refine jt_getR (Tf := TX9) (N := 17) C dX9_counted_78 hr0 rfl i_9 0 (by decide) rfl m_RX9_7 rfl ?_
    refine jt_iconst (v := (4 : Int32)) C dX9_counted_81 (by decide) ?_
    refine jt_iload C dX9_counted_82 4 rfl ?_
    refine jt_iadd C dX9_counted_84 ?_
    obtain ⟨x5, ex5, h⟩ := jm_bind h
    refine jt_iald C dX9_counted_85 (jm_f8_0 hr0) ex5 ?_
    refine jt_iload_n C dX9_counted_86 rfl 1 rfl ?_
    obtain ⟨⟨x6a, x6b⟩, ex6, h⟩ := jm_bind h
    try dsimp only at h
    refine jt_callVi (As := [_, _, _]) (rest := [_]) C hr0 rfl dX9_counted_87 (c_X9_copiesIn (jx_l X) k n _ _ _ _ _ hr0 _ _ ex6) (k_goodIn (g_RX9_158)) rfl h_X9_copiesIn ⟨rfl, rfl, Nat.le_of_ble_eq_true rfl, Nat.le_of_ble_eq_true rfl⟩ rfl rfl (Nat.le_of_ble_eq_true rfl) ?_
    refine jt_iadd C dX9_counted_90 ?_
    refine jt_istore_n (lv' := [(3, _), (0, _), (1, _), (2, _), (4, _)]) C dX9_counted_91 rfl (by decide) rfl ?_
    refine jt_iinc (v := (1 : Int32)) (lv' := [(4, _), (3, _), (0, _), (1, _), (2, _)]) C dX9_counted_92 4 rfl (by decide) (by decide) rfl ?_
    refine jt_goto (tgt := 56) C dX9_counted_95 (by decide) ?_
    cases h
    exact jt_sub [2, 3, 4, 1, 0] rfl (h1 _ rfl _ _ _ rfl)
set_option maxHeartbeats 4000000 in
set_option maxRecDepth 100000 in
theorem c_X9_counted (l : Launch) (k : jm_C) (n : Nat) (r0 : Nat) (v1 : Int32) (M : jm_M) (hr0 : jm_is r0 (3, 8)) (q1 : Int32) (q2 : jm_M) (h : X9_counted n r0 v1 M = some (q1, q2)) : jm_Ci l k yX9_counted w_X9_counted { frames := 5, cells := 0, slots := 0, locals := 200 } [.ref (jm_ad k r0), .int v1] M q1 q2 := by
  refine jm_entry_i (cc := cX9_counted) (nL := 5) (ret := (some .int)) (by decide) rfl (Nat.le_of_ble_eq_true rfl) ?_
  intro X hX C hQ hr
  subst hX
  unfold X9_counted at h
  refine jt_iload_n C dX9_counted_0 rfl 1 rfl ?_
  refine jt_iconst (v := (0 : Int32)) C dX9_counted_1 (by decide) ?_
  refine jt_bipush (v := (8 : Int32)) C dX9_counted_2 (by decide) ?_
  refine jt_callSi (As := [_, _, _]) (rest := []) C dX9_counted_4 (c_X9_isIn (jx_l X) k _ _ _ _ _ rfl) (k_goodIn (g_RX9_50)) rfl h_X9_isIn ⟨rfl, rfl, Nat.le_of_ble_eq_true rfl, Nat.le_of_ble_eq_true rfl⟩ rfl rfl (Nat.le_of_ble_eq_true rfl) ?_
  refine jt_if_ne (tgt := 12) C dX9_counted_7 (by decide) (fun c7 => ?_) (fun c7 => ?_)
  · replace h := jm_iff c7 h
    refine jt_iload_n C dX9_counted_12 rfl 1 rfl ?_
    refine jt_if_ne (tgt := 20) C dX9_counted_13 (by decide) (fun c13 => ?_) (fun c13 => ?_)
    · replace h := jm_iff c13 h
      refine jt_iload_n C dX9_counted_20 rfl 1 rfl ?_
      refine jt_iconst (v := (3 : Int32)) C dX9_counted_21 (by decide) ?_
      refine jt_icmp_ge (tgt := 29) C dX9_counted_22 (by decide) (fun c22 => ?_) (fun c22 => ?_)
      · replace h := jm_ift c22 h
        refine jt_iconst (v := (4 : Int32)) C dX9_counted_29 (by decide) ?_
        refine jt_istore_n (lv' := [(2, _), (0, _), (1, _)]) C dX9_counted_30 rfl (by decide) rfl ?_
        refine jt_aload_n C dX9_counted_31 rfl 1 rfl ?_
        obtain ⟨x1, ex1, h⟩ := jm_bind h
        refine jt_callVi (As := []) (rest := []) C hr0 rfl dX9_counted_32 (c_X9_isWhole (jx_l X) k _ _ hr0 _ ex1) (k_goodIn (g_RX9_195)) rfl h_X9_isWhole ⟨rfl, rfl, Nat.le_of_ble_eq_true rfl, Nat.le_of_ble_eq_true rfl⟩ rfl rfl (Nat.le_of_ble_eq_true rfl) ?_
        refine jt_if_eq (tgt := 48) C dX9_counted_35 (by decide) (fun c35 => ?_) (fun c35 => ?_)
        · replace h := jm_ift c35 h
          refine jt_bipush (v := (-9 : Int32)) C dX9_counted_48 (by decide) ?_
          cases h
          exact jt_iret C dX9_counted_50 hQ hr
        · replace h := jm_iff c35 h
          refine jt_iload_n C dX9_counted_38 rfl 0 rfl ?_
          refine jt_aload_n C dX9_counted_39 rfl 1 rfl ?_
          refine jt_getR (Tf := TX9) (N := 17) C dX9_counted_40 hr0 rfl i_9 0 (by decide) rfl m_RX9_7 rfl ?_
          refine jt_iconst (v := (2 : Int32)) C dX9_counted_43 (by decide) ?_
          obtain ⟨x2, ex2, h⟩ := jm_bind h
          refine jt_iald C dX9_counted_44 (jm_f8_0 hr0) ex2 ?_
          refine jt_icmp_lt (tgt := 51) C dX9_counted_45 (by decide) (fun c45 => ?_) (fun c45 => ?_)
          · replace h := jm_ift c45 h
            refine jt_iconst (v := (0 : Int32)) C dX9_counted_51 (by decide) ?_
            refine jt_istore_n (lv' := [(3, _), (2, _), (0, _), (1, _)]) C dX9_counted_52 rfl (by decide) rfl ?_
            refine jt_iconst (v := (0 : Int32)) C dX9_counted_53 (by decide) ?_
            refine jt_istore (lv' := [(4, _), (3, _), (2, _), (0, _), (1, _)]) C dX9_counted_54 (by decide) rfl ?_
            obtain ⟨q7, eq7, h⟩ := jm_bind h
            refine jt_sub [3, 4, 2, 1, 0] rfl ?_
            refine t_X9_counted_L56 C n _ _ _ hr0 n _ _ eq7 ?_ _ _ _ rfl
            intro y8_0 y8_1 hq8
            subst hq8
            try dsimp only at h
            refine jt_iload_n C dX9_counted_98 rfl 2 rfl ?_
            refine jt_aload_n C dX9_counted_99 rfl 0 rfl ?_
            refine jt_getR (Tf := TX9) (N := 17) C dX9_counted_100 hr0 rfl i_9 0 (by decide) rfl m_RX9_7 rfl ?_
            refine jt_iconst (v := (2 : Int32)) C dX9_counted_103 (by decide) ?_
            obtain ⟨x9, ex9, h⟩ := jm_bind h
            refine jt_iald C dX9_counted_104 (jm_f8_0 hr0) ex9 ?_
            refine jt_iload_n C dX9_counted_105 rfl 1 rfl ?_
            refine jt_isub C dX9_counted_106 ?_
            obtain ⟨x10, ex10, h⟩ := jm_bind h
            refine jt_irem C dX9_counted_107 ex10 ?_
            refine jt_if_ne (tgt := 124) C dX9_counted_108 (by decide) (fun c108 => ?_) (fun c108 => ?_)
            · replace h := jm_iff c108 h
              refine jt_bipush (v := (-9 : Int32)) C dX9_counted_124 (by decide) ?_
              cases h
              exact jt_iret C dX9_counted_126 hQ hr
            · replace h := jm_ift c108 h
              refine jt_iload_n C dX9_counted_111 rfl 2 rfl ?_
              refine jt_aload_n C dX9_counted_112 rfl 0 rfl ?_
              refine jt_getR (Tf := TX9) (N := 17) C dX9_counted_113 hr0 rfl i_9 0 (by decide) rfl m_RX9_7 rfl ?_
              refine jt_iconst (v := (2 : Int32)) C dX9_counted_116 (by decide) ?_
              obtain ⟨x11, ex11, h⟩ := jm_bind h
              refine jt_iald C dX9_counted_117 (jm_f8_0 hr0) ex11 ?_
              refine jt_iload_n C dX9_counted_118 rfl 1 rfl ?_
              refine jt_isub C dX9_counted_119 ?_
              obtain ⟨x12, ex12, h⟩ := jm_bind h
              refine jt_idiv C dX9_counted_120 ex12 ?_
              refine jt_goto (tgt := 126) C dX9_counted_121 (by decide) ?_
              cases h
              exact jt_iret C dX9_counted_126 hQ hr
          · replace h := jm_iff c45 h
            refine jt_bipush (v := (-9 : Int32)) C dX9_counted_48 (by decide) ?_
            cases h
            exact jt_iret C dX9_counted_50 hQ hr
      · replace h := jm_iff c22 h
        refine jt_iconst (v := (3 : Int32)) C dX9_counted_25 (by decide) ?_
        refine jt_goto (tgt := 30) C dX9_counted_26 (by decide) ?_
        refine jt_istore_n (lv' := [(2, _), (0, _), (1, _)]) C dX9_counted_30 rfl (by decide) rfl ?_
        refine jt_aload_n C dX9_counted_31 rfl 1 rfl ?_
        obtain ⟨x13, ex13, h⟩ := jm_bind h
        refine jt_callVi (As := []) (rest := []) C hr0 rfl dX9_counted_32 (c_X9_isWhole (jx_l X) k _ _ hr0 _ ex13) (k_goodIn (g_RX9_195)) rfl h_X9_isWhole ⟨rfl, rfl, Nat.le_of_ble_eq_true rfl, Nat.le_of_ble_eq_true rfl⟩ rfl rfl (Nat.le_of_ble_eq_true rfl) ?_
        refine jt_if_eq (tgt := 48) C dX9_counted_35 (by decide) (fun c35 => ?_) (fun c35 => ?_)
        · replace h := jm_ift c35 h
          refine jt_bipush (v := (-9 : Int32)) C dX9_counted_48 (by decide) ?_
          cases h
          exact jt_iret C dX9_counted_50 hQ hr
        · replace h := jm_iff c35 h
          refine jt_iload_n C dX9_counted_38 rfl 0 rfl ?_
          refine jt_aload_n C dX9_counted_39 rfl 1 rfl ?_
          refine jt_getR (Tf := TX9) (N := 17) C dX9_counted_40 hr0 rfl i_9 0 (by decide) rfl m_RX9_7 rfl ?_
          refine jt_iconst (v := (2 : Int32)) C dX9_counted_43 (by decide) ?_
          obtain ⟨x14, ex14, h⟩ := jm_bind h
          refine jt_iald C dX9_counted_44 (jm_f8_0 hr0) ex14 ?_
          refine jt_icmp_lt (tgt := 51) C dX9_counted_45 (by decide) (fun c45 => ?_) (fun c45 => ?_)
          · replace h := jm_ift c45 h
            refine jt_iconst (v := (0 : Int32)) C dX9_counted_51 (by decide) ?_
            refine jt_istore_n (lv' := [(3, _), (2, _), (0, _), (1, _)]) C dX9_counted_52 rfl (by decide) rfl ?_
            refine jt_iconst (v := (0 : Int32)) C dX9_counted_53 (by decide) ?_
            refine jt_istore (lv' := [(4, _), (3, _), (2, _), (0, _), (1, _)]) C dX9_counted_54 (by decide) rfl ?_
            obtain ⟨q15, eq15, h⟩ := jm_bind h
            refine jt_sub [3, 4, 2, 1, 0] rfl ?_
            refine t_X9_counted_L56 C n _ _ _ hr0 n _ _ eq15 ?_ _ _ _ rfl
            intro y16_0 y16_1 hq16
            subst hq16
            try dsimp only at h
            refine jt_iload_n C dX9_counted_98 rfl 2 rfl ?_
            refine jt_aload_n C dX9_counted_99 rfl 0 rfl ?_
            refine jt_getR (Tf := TX9) (N := 17) C dX9_counted_100 hr0 rfl i_9 0 (by decide) rfl m_RX9_7 rfl ?_
            refine jt_iconst (v := (2 : Int32)) C dX9_counted_103 (by decide) ?_
            obtain ⟨x17, ex17, h⟩ := jm_bind h
            refine jt_iald C dX9_counted_104 (jm_f8_0 hr0) ex17 ?_
            refine jt_iload_n C dX9_counted_105 rfl 1 rfl ?_
            refine jt_isub C dX9_counted_106 ?_
            obtain ⟨x18, ex18, h⟩ := jm_bind h
            refine jt_irem C dX9_counted_107 ex18 ?_
            refine jt_if_ne (tgt := 124) C dX9_counted_108 (by decide) (fun c108 => ?_) (fun c108 => ?_)
            · replace h := jm_iff c108 h
              refine jt_bipush (v := (-9 : Int32)) C dX9_counted_124 (by decide) ?_
              cases h
              exact jt_iret C dX9_counted_126 hQ hr
            · replace h := jm_ift c108 h
              refine jt_iload_n C dX9_counted_111 rfl 2 rfl ?_
              refine jt_aload_n C dX9_counted_112 rfl 0 rfl ?_
              refine jt_getR (Tf := TX9) (N := 17) C dX9_counted_113 hr0 rfl i_9 0 (by decide) rfl m_RX9_7 rfl ?_
              refine jt_iconst (v := (2 : Int32)) C dX9_counted_116 (by decide) ?_
              obtain ⟨x19, ex19, h⟩ := jm_bind h
              refine jt_iald C dX9_counted_117 (jm_f8_0 hr0) ex19 ?_
              refine jt_iload_n C dX9_counted_118 rfl 1 rfl ?_
              refine jt_isub C dX9_counted_119 ?_
              obtain ⟨x20, ex20, h⟩ := jm_bind h
              refine jt_idiv C dX9_counted_120 ex20 ?_
              refine jt_goto (tgt := 126) C dX9_counted_121 (by decide) ?_
              cases h
              exact jt_iret C dX9_counted_126 hQ hr
          · replace h := jm_iff c45 h
            refine jt_bipush (v := (-9 : Int32)) C dX9_counted_48 (by decide) ?_
            cases h
            exact jt_iret C dX9_counted_50 hQ hr
    · replace h := jm_ift c13 h
      refine jt_iconst (v := (2 : Int32)) C dX9_counted_16 (by decide) ?_
      refine jt_goto (tgt := 30) C dX9_counted_17 (by decide) ?_
      refine jt_istore_n (lv' := [(2, _), (0, _), (1, _)]) C dX9_counted_30 rfl (by decide) rfl ?_
      refine jt_aload_n C dX9_counted_31 rfl 1 rfl ?_
      obtain ⟨x21, ex21, h⟩ := jm_bind h
      refine jt_callVi (As := []) (rest := []) C hr0 rfl dX9_counted_32 (c_X9_isWhole (jx_l X) k _ _ hr0 _ ex21) (k_goodIn (g_RX9_195)) rfl h_X9_isWhole ⟨rfl, rfl, Nat.le_of_ble_eq_true rfl, Nat.le_of_ble_eq_true rfl⟩ rfl rfl (Nat.le_of_ble_eq_true rfl) ?_
      refine jt_if_eq (tgt := 48) C dX9_counted_35 (by decide) (fun c35 => ?_) (fun c35 => ?_)
      · replace h := jm_ift c35 h
        refine jt_bipush (v := (-9 : Int32)) C dX9_counted_48 (by decide) ?_
        cases h
        exact jt_iret C dX9_counted_50 hQ hr
      · replace h := jm_iff c35 h
        refine jt_iload_n C dX9_counted_38 rfl 0 rfl ?_
        refine jt_aload_n C dX9_counted_39 rfl 1 rfl ?_
        refine jt_getR (Tf := TX9) (N := 17) C dX9_counted_40 hr0 rfl i_9 0 (by decide) rfl m_RX9_7 rfl ?_
        refine jt_iconst (v := (2 : Int32)) C dX9_counted_43 (by decide) ?_
        obtain ⟨x22, ex22, h⟩ := jm_bind h
        refine jt_iald C dX9_counted_44 (jm_f8_0 hr0) ex22 ?_
        refine jt_icmp_lt (tgt := 51) C dX9_counted_45 (by decide) (fun c45 => ?_) (fun c45 => ?_)
        · replace h := jm_ift c45 h
          refine jt_iconst (v := (0 : Int32)) C dX9_counted_51 (by decide) ?_
          refine jt_istore_n (lv' := [(3, _), (2, _), (0, _), (1, _)]) C dX9_counted_52 rfl (by decide) rfl ?_
          refine jt_iconst (v := (0 : Int32)) C dX9_counted_53 (by decide) ?_
          refine jt_istore (lv' := [(4, _), (3, _), (2, _), (0, _), (1, _)]) C dX9_counted_54 (by decide) rfl ?_
          obtain ⟨q23, eq23, h⟩ := jm_bind h
          refine jt_sub [3, 4, 2, 1, 0] rfl ?_
          refine t_X9_counted_L56 C n _ _ _ hr0 n _ _ eq23 ?_ _ _ _ rfl
          intro y24_0 y24_1 hq24
          subst hq24
          try dsimp only at h
          refine jt_iload_n C dX9_counted_98 rfl 2 rfl ?_
          refine jt_aload_n C dX9_counted_99 rfl 0 rfl ?_
          refine jt_getR (Tf := TX9) (N := 17) C dX9_counted_100 hr0 rfl i_9 0 (by decide) rfl m_RX9_7 rfl ?_
          refine jt_iconst (v := (2 : Int32)) C dX9_counted_103 (by decide) ?_
          obtain ⟨x25, ex25, h⟩ := jm_bind h
          refine jt_iald C dX9_counted_104 (jm_f8_0 hr0) ex25 ?_
          refine jt_iload_n C dX9_counted_105 rfl 1 rfl ?_
          refine jt_isub C dX9_counted_106 ?_
          obtain ⟨x26, ex26, h⟩ := jm_bind h
          refine jt_irem C dX9_counted_107 ex26 ?_
          refine jt_if_ne (tgt := 124) C dX9_counted_108 (by decide) (fun c108 => ?_) (fun c108 => ?_)
          · replace h := jm_iff c108 h
            refine jt_bipush (v := (-9 : Int32)) C dX9_counted_124 (by decide) ?_
            cases h
            exact jt_iret C dX9_counted_126 hQ hr
          · replace h := jm_ift c108 h
            refine jt_iload_n C dX9_counted_111 rfl 2 rfl ?_
            refine jt_aload_n C dX9_counted_112 rfl 0 rfl ?_
            refine jt_getR (Tf := TX9) (N := 17) C dX9_counted_113 hr0 rfl i_9 0 (by decide) rfl m_RX9_7 rfl ?_
            refine jt_iconst (v := (2 : Int32)) C dX9_counted_116 (by decide) ?_
            obtain ⟨x27, ex27, h⟩ := jm_bind h
            refine jt_iald C dX9_counted_117 (jm_f8_0 hr0) ex27 ?_
            refine jt_iload_n C dX9_counted_118 rfl 1 rfl ?_
            refine jt_isub C dX9_counted_119 ?_
            obtain ⟨x28, ex28, h⟩ := jm_bind h
            refine jt_idiv C dX9_counted_120 ex28 ?_
            refine jt_goto (tgt := 126) C dX9_counted_121 (by decide) ?_
            cases h
            exact jt_iret C dX9_counted_126 hQ hr
        · replace h := jm_iff c45 h
          refine jt_bipush (v := (-9 : Int32)) C dX9_counted_48 (by decide) ?_
          cases h
          exact jt_iret C dX9_counted_50 hQ hr
  · replace h := jm_ift c7 h
    refine jt_iconst (v := (-1 : Int32)) C dX9_counted_10 (by decide) ?_
    cases h
    exact jt_iret C dX9_counted_11 hQ hr
theorem h_X9_answer : yX9_answer.cls = RX9 ∧ yX9_answer.cls ≠ "java/lang/invoke/MethodHandle" ∧ yX9_answer.cls ≠ "java/lang/invoke/VarHandle" ∧ (parseMethodDescriptor yX9_answer.desc).map (fun d => d.parameters.length) = some 1 := by decide +kernel
set_option maxHeartbeats 4000000 in
set_option maxRecDepth 100000 in
theorem c_X9_answer (l : Launch) (k : jm_C) (n : Nat) (r0 : Nat) (v1 : Int32) (M : jm_M) (hr0 : jm_is r0 (3, 8)) (q1 : Int32) (q2 : jm_M) (h : X9_answer n r0 v1 M = some (q1, q2)) : jm_Ci l k yX9_answer w_X9_answer { frames := 9, cells := 0, slots := 0, locals := 360 } [.ref (jm_ad k r0), .int v1] M q1 q2 := by
  refine jm_entry_i (cc := cX9_answer) (nL := 3) (ret := (some .int)) (by decide) rfl (Nat.le_of_ble_eq_true rfl) ?_
  intro X hX C hQ hr
  subst hX
  unfold X9_answer at h
  refine jt_iload_n C dX9_answer_0 rfl 1 rfl ?_
  refine jt_if_ge (tgt := 6) C dX9_answer_1 (by decide) (fun c1 => ?_) (fun c1 => ?_)
  · replace h := jm_ift c1 h
    refine jt_aload_n C dX9_answer_6 rfl 0 rfl ?_
    refine jt_getR (Tf := TX9) (N := 17) C dX9_answer_7 hr0 rfl i_9 0 (by decide) rfl m_RX9_7 rfl ?_
    refine jt_iconst (v := (3 : Int32)) C dX9_answer_10 (by decide) ?_
    obtain ⟨x1, ex1, h⟩ := jm_bind h
    refine jt_iald C dX9_answer_11 (jm_f8_0 hr0) ex1 ?_
    refine jt_if_ne (tgt := 18) C dX9_answer_12 (by decide) (fun c12 => ?_) (fun c12 => ?_)
    · replace h := jm_iff c12 h
      refine jt_aload_n C dX9_answer_18 rfl 0 rfl ?_
      refine jt_iload_n C dX9_answer_19 rfl 1 rfl ?_
      obtain ⟨⟨x2a, x2b⟩, ex2, h⟩ := jm_bind h
      try dsimp only at h
      refine jt_callVi (As := [_]) (rest := []) C hr0 rfl dX9_answer_20 (c_X9_answerAt (jx_l X) k n _ _ _ hr0 _ _ ex2) (k_goodIn (g_RX9_232)) rfl h_X9_answerAt ⟨rfl, rfl, Nat.le_of_ble_eq_true rfl, Nat.le_of_ble_eq_true rfl⟩ rfl rfl (Nat.le_of_ble_eq_true rfl) ?_
      refine jt_istore_n (lv' := [(2, _), (0, _), (1, _)]) C dX9_answer_23 rfl (by decide) rfl ?_
      refine jt_iload_n C dX9_answer_24 rfl 0 rfl ?_
      refine jt_bipush (v := (-9 : Int32)) C dX9_answer_25 (by decide) ?_
      refine jt_icmp_ne (tgt := 35) C dX9_answer_27 (by decide) (fun c27 => ?_) (fun c27 => ?_)
      · replace h := jm_iff c27 h
        refine jt_aload_n C dX9_answer_35 rfl 1 rfl ?_
        refine jt_getR (Tf := TX9) (N := 17) C dX9_answer_36 hr0 rfl i_9 11 (by decide) rfl m_RX9_38 rfl ?_
        refine jt_iload_n C dX9_answer_39 rfl 0 rfl ?_
        obtain ⟨x3, ex3, h⟩ := jm_bind h
        refine jt_iald C dX9_answer_40 (jm_f8_11 hr0) ex3 ?_
        cases h
        exact jt_iret C dX9_answer_41 hQ hr
      · replace h := jm_ift c27 h
        refine jt_bipush (v := (-9 : Int32)) C dX9_answer_30 (by decide) ?_
        refine jt_goto (tgt := 41) C dX9_answer_32 (by decide) ?_
        cases h
        exact jt_iret C dX9_answer_41 hQ hr
    · replace h := jm_ift c12 h
      refine jt_bipush (v := (-2 : Int32)) C dX9_answer_15 (by decide) ?_
      cases h
      exact jt_iret C dX9_answer_17 hQ hr
  · replace h := jm_iff c1 h
    refine jt_iconst (v := (-1 : Int32)) C dX9_answer_4 (by decide) ?_
    cases h
    exact jt_iret C dX9_answer_5 hQ hr
theorem h_X9_missing : yX9_missing.cls = RX9 ∧ yX9_missing.cls ≠ "java/lang/invoke/MethodHandle" ∧ yX9_missing.cls ≠ "java/lang/invoke/VarHandle" ∧ (parseMethodDescriptor yX9_missing.desc).map (fun d => d.parameters.length) = some 1 := by decide +kernel
set_option maxHeartbeats 4000000 in
set_option maxRecDepth 100000 in
theorem t_X9_missing_L47 {X : jm_X} {k : jm_C} (C : jm_Cx X k cX9_missing 6 RX9 w_X9_missing) (r0 : Nat) (v2 : Int32) (M : jm_M) (hr0 : jm_is r0 (3, 8)) : ∀ (m : Nat) (s : Int32 × Int32 × Int32) (r : (Int32 × jm_M) ⊕ (Unit)), jm_loop (X9_missing_B47 r0 v2 M) m s = some r → (match r with | .inl z => ∀ (z1 : Int32) (z2 : jm_M), z = (z1, z2) → ∀ (pc1 : Nat) (lv1 : List (Nat × Value)), decode cX9_missing pc1 = .ok (.ireturn, 1) → jm_T X { frames := 9, cells := 0, slots := 0, locals := 360 } k 6 z2 pc1 lv1 [.int z1] | .inr w => jm_T X { frames := 9, cells := 0, slots := 0, locals := 360 } k 6 M 125 [] []) → (∀ (b0 : Int32) (b1 : Int32) (b2 : Int32), s = (b0, b1, b2) → jm_T X { frames := 9, cells := 0, slots := 0, locals := 360 } k 6 M 47 [(0, .ref (jm_ad k r0)), (2, .int v2), (3, .int b0), (4, .int b1), (5, .int b2)] []) := by
  refine jm_loop_ind (P := fun (s : Int32 × Int32 × Int32) => (∀ (b0 : Int32) (b1 : Int32) (b2 : Int32), s = (b0, b1, b2) → jm_T X { frames := 9, cells := 0, slots := 0, locals := 360 } k 6 M 47 [(0, .ref (jm_ad k r0)), (2, .int v2), (3, .int b0), (4, .int b1), (5, .int b2)] [])) (K := fun (r : (Int32 × jm_M) ⊕ (Unit)) => match r with | .inl z => ∀ (z1 : Int32) (z2 : jm_M), z = (z1, z2) → ∀ (pc1 : Nat) (lv1 : List (Nat × Value)), decode cX9_missing pc1 = .ok (.ireturn, 1) → jm_T X { frames := 9, cells := 0, slots := 0, locals := 360 } k 6 z2 pc1 lv1 [.int z1] | .inr w => jm_T X { frames := 9, cells := 0, slots := 0, locals := 360 } k 6 M 125 [] []) ?_
  intro s q h h1 h2
  intro b0 b1 b2 hs
  subst hs
  unfold X9_missing_B47 at h
  try dsimp only at h
  refine jt_iload C dX9_missing_47 4 rfl ?_
  refine jt_aload_n C dX9_missing_49 rfl 0 rfl ?_
  refine jt_getR (Tf := TX9) (N := 17) C dX9_missing_50 hr0 rfl i_9 0 (by decide) rfl m_RX9_7 rfl ?_
  refine jt_iconst (v := (2 : Int32)) C dX9_missing_53 (by decide) ?_
  obtain ⟨x5, ex5, h⟩ := jm_bind h
  refine jt_iald C dX9_missing_54 (jm_f8_0 hr0) ex5 ?_
  refine jt_icmp_ge (tgt := 125) C dX9_missing_55 (by decide) (fun c55 => ?_) (fun c55 => ?_)
  · replace h := jm_ift c55 h
    cases h
    exact jt_sub [] rfl (h2 _ rfl)
  · replace h := jm_iff c55 h
    refine jt_iload C dX9_missing_58 3 rfl ?_
    refine jt_aload_n C dX9_missing_60 rfl 0 rfl ?_
    refine jt_getR (Tf := TX9) (N := 17) C dX9_missing_61 hr0 rfl i_9 0 (by decide) rfl m_RX9_7 rfl ?_
    refine jt_iconst (v := (3 : Int32)) C dX9_missing_64 (by decide) ?_
    obtain ⟨x6, ex6, h⟩ := jm_bind h
    refine jt_iald C dX9_missing_65 (jm_f8_0 hr0) ex6 ?_
    refine jt_icmp_ge (tgt := 99) C dX9_missing_66 (by decide) (fun c66 => ?_) (fun c66 => ?_)
    · replace h := jm_ift c66 h
      refine jt_iload_n C dX9_missing_99 rfl 2 rfl ?_
      refine jt_if_ne (tgt := 116) C dX9_missing_100 (by decide) (fun c100 => ?_) (fun c100 => ?_)
      · replace h := jm_iff c100 h
        refine jt_iinc (v := (-1 : Int32)) (lv' := [(3, _), (0, _), (2, _), (4, _), (5, _)]) C dX9_missing_116 2 rfl (by decide) (by decide) rfl ?_
        refine jt_iinc (v := (1 : Int32)) (lv' := [(5, _), (3, _), (0, _), (2, _), (4, _)]) C dX9_missing_119 4 rfl (by decide) (by decide) rfl ?_
        refine jt_goto (tgt := 47) C dX9_missing_122 (by decide) ?_
        cases h
        exact jt_sub [2, 3, 1, 4, 0] rfl (h1 _ rfl _ _ _ rfl)
      · replace h := jm_ift c100 h
        refine jt_aload_n C dX9_missing_103 rfl 0 rfl ?_
        refine jt_getR (Tf := TX9) (N := 17) C dX9_missing_104 hr0 rfl i_9 12 (by decide) rfl m_RX9_41 rfl ?_
        refine jt_bipush (v := (6 : Int32)) C dX9_missing_107 (by decide) ?_
        refine jt_iload_n C dX9_missing_109 rfl 1 rfl ?_
        refine jt_imul C dX9_missing_110 ?_
        refine jt_iload C dX9_missing_111 4 rfl ?_
        refine jt_iadd C dX9_missing_113 ?_
        obtain ⟨x7, ex7, h⟩ := jm_bind h
        refine jt_iald C dX9_missing_114 (jm_f8_12 hr0) ex7 ?_
        cases h
        exact h2 _ rfl _ _ rfl _ _ dX9_missing_115
    · replace h := jm_iff c66 h
      refine jt_aload_n C dX9_missing_69 rfl 0 rfl ?_
      refine jt_getR (Tf := TX9) (N := 17) C dX9_missing_70 hr0 rfl i_9 0 (by decide) rfl m_RX9_7 rfl ?_
      refine jt_iconst (v := (4 : Int32)) C dX9_missing_73 (by decide) ?_
      refine jt_iload C dX9_missing_74 3 rfl ?_
      refine jt_iadd C dX9_missing_76 ?_
      obtain ⟨x8, ex8, h⟩ := jm_bind h
      refine jt_iald C dX9_missing_77 (jm_f8_0 hr0) ex8 ?_
      refine jt_aload_n C dX9_missing_78 rfl 0 rfl ?_
      refine jt_getR (Tf := TX9) (N := 17) C dX9_missing_79 hr0 rfl i_9 12 (by decide) rfl m_RX9_41 rfl ?_
      refine jt_bipush (v := (6 : Int32)) C dX9_missing_82 (by decide) ?_
      refine jt_iload_n C dX9_missing_84 rfl 1 rfl ?_
      refine jt_imul C dX9_missing_85 ?_
      refine jt_iload C dX9_missing_86 4 rfl ?_
      refine jt_iadd C dX9_missing_88 ?_
      obtain ⟨x9, ex9, h⟩ := jm_bind h
      refine jt_iald C dX9_missing_89 (jm_f8_12 hr0) ex9 ?_
      refine jt_icmp_ne (tgt := 99) C dX9_missing_90 (by decide) (fun c90 => ?_) (fun c90 => ?_)
      · replace h := jm_iff c90 h
        refine jt_iload_n C dX9_missing_99 rfl 2 rfl ?_
        refine jt_if_ne (tgt := 116) C dX9_missing_100 (by decide) (fun c100 => ?_) (fun c100 => ?_)
        · replace h := jm_iff c100 h
          refine jt_iinc (v := (-1 : Int32)) (lv' := [(3, _), (0, _), (2, _), (4, _), (5, _)]) C dX9_missing_116 2 rfl (by decide) (by decide) rfl ?_
          refine jt_iinc (v := (1 : Int32)) (lv' := [(5, _), (3, _), (0, _), (2, _), (4, _)]) C dX9_missing_119 4 rfl (by decide) (by decide) rfl ?_
          refine jt_goto (tgt := 47) C dX9_missing_122 (by decide) ?_
          cases h
          exact jt_sub [2, 3, 1, 4, 0] rfl (h1 _ rfl _ _ _ rfl)
        · replace h := jm_ift c100 h
          refine jt_aload_n C dX9_missing_103 rfl 0 rfl ?_
          refine jt_getR (Tf := TX9) (N := 17) C dX9_missing_104 hr0 rfl i_9 12 (by decide) rfl m_RX9_41 rfl ?_
          refine jt_bipush (v := (6 : Int32)) C dX9_missing_107 (by decide) ?_
          refine jt_iload_n C dX9_missing_109 rfl 1 rfl ?_
          refine jt_imul C dX9_missing_110 ?_
          refine jt_iload C dX9_missing_111 4 rfl ?_
          refine jt_iadd C dX9_missing_113 ?_
          obtain ⟨x10, ex10, h⟩ := jm_bind h
          refine jt_iald C dX9_missing_114 (jm_f8_12 hr0) ex10 ?_
          cases h
          exact h2 _ rfl _ _ rfl _ _ dX9_missing_115
      · replace h := jm_ift c90 h
        refine jt_iinc (v := (1 : Int32)) (lv' := [(4, _), (0, _), (2, _), (3, _), (5, _)]) C dX9_missing_93 3 rfl (by decide) (by decide) rfl ?_
        refine jt_goto (tgt := 119) C dX9_missing_96 (by decide) ?_
        refine jt_iinc (v := (1 : Int32)) (lv' := [(5, _), (4, _), (0, _), (2, _), (3, _)]) C dX9_missing_119 4 rfl (by decide) (by decide) rfl ?_
        refine jt_goto (tgt := 47) C dX9_missing_122 (by decide) ?_
        cases h
        exact jt_sub [2, 3, 4, 1, 0] rfl (h1 _ rfl _ _ _ rfl)
set_option maxHeartbeats 4000000 in
set_option maxRecDepth 100000 in
theorem c_X9_missing (l : Launch) (k : jm_C) (n : Nat) (r0 : Nat) (v1 : Int32) (M : jm_M) (hr0 : jm_is r0 (3, 8)) (q1 : Int32) (q2 : jm_M) (h : X9_missing n r0 v1 M = some (q1, q2)) : jm_Ci l k yX9_missing w_X9_missing { frames := 9, cells := 0, slots := 0, locals := 360 } [.ref (jm_ad k r0), .int v1] M q1 q2 := by
  refine jm_entry_i (cc := cX9_missing) (nL := 6) (ret := (some .int)) (by decide) rfl (Nat.le_of_ble_eq_true rfl) ?_
  intro X hX C hQ hr
  subst hX
  unfold X9_missing at h
  refine jt_iload_n C dX9_missing_0 rfl 1 rfl ?_
  refine jt_if_ge (tgt := 6) C dX9_missing_1 (by decide) (fun c1 => ?_) (fun c1 => ?_)
  · replace h := jm_ift c1 h
    refine jt_aload_n C dX9_missing_6 rfl 0 rfl ?_
    refine jt_getR (Tf := TX9) (N := 17) C dX9_missing_7 hr0 rfl i_9 0 (by decide) rfl m_RX9_7 rfl ?_
    refine jt_iconst (v := (3 : Int32)) C dX9_missing_10 (by decide) ?_
    obtain ⟨x1, ex1, h⟩ := jm_bind h
    refine jt_iald C dX9_missing_11 (jm_f8_0 hr0) ex1 ?_
    refine jt_if_ne (tgt := 18) C dX9_missing_12 (by decide) (fun c12 => ?_) (fun c12 => ?_)
    · replace h := jm_iff c12 h
      refine jt_aload_n C dX9_missing_18 rfl 0 rfl ?_
      refine jt_aload_n C dX9_missing_19 rfl 0 rfl ?_
      obtain ⟨x2, ex2, h⟩ := jm_bind h
      refine jt_callVi (As := []) (rest := [_]) C hr0 rfl dX9_missing_20 (c_X9_all (jx_l X) k _ _ hr0 _ ex2) (k_goodIn (g_RX9_189)) rfl h_X9_all ⟨rfl, rfl, Nat.le_of_ble_eq_true rfl, Nat.le_of_ble_eq_true rfl⟩ rfl rfl (Nat.le_of_ble_eq_true rfl) ?_
      obtain ⟨⟨x3a, x3b⟩, ex3, h⟩ := jm_bind h
      try dsimp only at h
      refine jt_callVi (As := [_]) (rest := []) C hr0 rfl dX9_missing_23 (c_X9_answers (jx_l X) k n _ _ _ hr0 _ _ ex3) (k_goodIn (g_RX9_211)) rfl h_X9_answers ⟨rfl, rfl, Nat.le_of_ble_eq_true rfl, Nat.le_of_ble_eq_true rfl⟩ rfl rfl (Nat.le_of_ble_eq_true rfl) ?_
      refine jt_iconst (v := (1 : Int32)) C dX9_missing_26 (by decide) ?_
      refine jt_icmp_eq (tgt := 33) C dX9_missing_27 (by decide) (fun c27 => ?_) (fun c27 => ?_)
      · replace h := jm_ift c27 h
        refine jt_aload_n C dX9_missing_33 rfl 0 rfl ?_
        refine jt_iconst (v := (0 : Int32)) C dX9_missing_34 (by decide) ?_
        obtain ⟨⟨x4a, x4b⟩, ex4, h⟩ := jm_bind h
        try dsimp only at h
        refine jt_callVi (As := [_]) (rest := []) C hr0 rfl dX9_missing_35 (c_X9_answerAt (jx_l X) k n _ _ _ hr0 _ _ ex4) (k_goodIn (g_RX9_232)) rfl h_X9_answerAt ⟨rfl, rfl, Nat.le_of_ble_eq_true rfl, Nat.le_of_ble_eq_true rfl⟩ rfl rfl (Nat.le_of_ble_eq_true rfl) ?_
        refine jt_istore_n (lv' := [(2, _), (0, _), (1, _)]) C dX9_missing_38 rfl (by decide) rfl ?_
        refine jt_iload_n C dX9_missing_39 rfl 2 rfl ?_
        refine jt_istore_n (lv' := [(3, _), (2, _), (0, _), (1, _)]) C dX9_missing_40 rfl (by decide) rfl ?_
        refine jt_iconst (v := (0 : Int32)) C dX9_missing_41 (by decide) ?_
        refine jt_istore (lv' := [(4, _), (3, _), (2, _), (0, _), (1, _)]) C dX9_missing_42 (by decide) rfl ?_
        refine jt_iconst (v := (0 : Int32)) C dX9_missing_44 (by decide) ?_
        refine jt_istore (lv' := [(5, _), (4, _), (3, _), (2, _), (0, _), (1, _)]) C dX9_missing_45 (by decide) rfl ?_
        obtain ⟨q11, eq11, h⟩ := jm_bind h
        refine jt_sub [4, 3, 2, 1, 0] rfl ?_
        refine t_X9_missing_L47 C _ _ _ hr0 n _ _ eq11 ?_ _ _ _ rfl
        rcases q11 with z12 | w13
        · replace h := jm_inl h
          intro z1 z2 hz pc1 lv1 hp1
          subst hz
          cases h
          exact jt_iret C hp1 hQ hr
        · replace h := jm_inr h
          show jm_T _ _ _ _ _ _ _ _
          refine jt_bipush (v := (-9 : Int32)) C dX9_missing_125 (by decide) ?_
          cases h
          exact jt_iret C dX9_missing_127 hQ hr
      · replace h := jm_iff c27 h
        refine jt_bipush (v := (-9 : Int32)) C dX9_missing_30 (by decide) ?_
        cases h
        exact jt_iret C dX9_missing_32 hQ hr
    · replace h := jm_ift c12 h
      refine jt_bipush (v := (-2 : Int32)) C dX9_missing_15 (by decide) ?_
      cases h
      exact jt_iret C dX9_missing_17 hQ hr
  · replace h := jm_iff c1 h
    refine jt_iconst (v := (-1 : Int32)) C dX9_missing_4 (by decide) ?_
    cases h
    exact jt_iret C dX9_missing_5 hQ hr
theorem h_X9_accept : yX9_accept.cls = RX9 ∧ yX9_accept.cls ≠ "java/lang/invoke/MethodHandle" ∧ yX9_accept.cls ≠ "java/lang/invoke/VarHandle" ∧ (parseMethodDescriptor yX9_accept.desc).map (fun d => d.parameters.length) = some 1 := by decide +kernel
set_option maxHeartbeats 4000000 in
set_option maxRecDepth 100000 in
theorem c_X9_accept (l : Launch) (k : jm_C) (n : Nat) (r0 : Nat) (v1 : Int32) (M : jm_M) (hr0 : jm_is r0 (3, 8)) (q1 : Int32) (q2 : jm_M) (h : X9_accept n r0 v1 M = some (q1, q2)) : jm_Ci l k yX9_accept w_X9_accept { frames := 9, cells := 0, slots := 0, locals := 360 } [.ref (jm_ad k r0), .int v1] M q1 q2 := by
  refine jm_entry_i (cc := cX9_accept) (nL := 3) (ret := (some .int)) (by decide) rfl (Nat.le_of_ble_eq_true rfl) ?_
  intro X hX C hQ hr
  subst hX
  unfold X9_accept at h
  refine jt_iload_n C dX9_accept_0 rfl 1 rfl ?_
  refine jt_if_lt (tgt := 13) C dX9_accept_1 (by decide) (fun c1 => ?_) (fun c1 => ?_)
  · replace h := jm_ift c1 h
    refine jt_bipush (v := (-9 : Int32)) C dX9_accept_13 (by decide) ?_
    refine jt_goto (tgt := 23) C dX9_accept_15 (by decide) ?_
    refine jt_istore_n (lv' := [(2, _), (0, _), (1, _)]) C dX9_accept_23 rfl (by decide) rfl ?_
    refine jt_iload_n C dX9_accept_24 rfl 0 rfl ?_
    refine jt_bipush (v := (-9 : Int32)) C dX9_accept_25 (by decide) ?_
    refine jt_icmp_ne (tgt := 32) C dX9_accept_27 (by decide) (fun c => absurd c (by decide)) (fun _ => ?_)
    refine jt_iconst (v := (-1 : Int32)) C dX9_accept_30 (by decide) ?_
    cases h
    exact jt_iret C dX9_accept_31 hQ hr
  · replace h := jm_iff c1 h
    refine jt_aload_n C dX9_accept_4 rfl 0 rfl ?_
    refine jt_getR (Tf := TX9) (N := 17) C dX9_accept_5 hr0 rfl i_9 0 (by decide) rfl m_RX9_7 rfl ?_
    refine jt_iconst (v := (3 : Int32)) C dX9_accept_8 (by decide) ?_
    obtain ⟨x1, ex1, h⟩ := jm_bind h
    refine jt_iald C dX9_accept_9 (jm_f8_0 hr0) ex1 ?_
    refine jt_if_ne (tgt := 18) C dX9_accept_10 (by decide) (fun c10 => ?_) (fun c10 => ?_)
    · replace h := jm_iff c10 h
      refine jt_aload_n C dX9_accept_18 rfl 0 rfl ?_
      refine jt_iload_n C dX9_accept_19 rfl 1 rfl ?_
      obtain ⟨⟨x2a, x2b⟩, ex2, h⟩ := jm_bind h
      try dsimp only at h
      refine jt_callVi (As := [_]) (rest := []) C hr0 rfl dX9_accept_20 (c_X9_answerAt (jx_l X) k n _ _ _ hr0 _ _ ex2) (k_goodIn (g_RX9_232)) rfl h_X9_answerAt ⟨rfl, rfl, Nat.le_of_ble_eq_true rfl, Nat.le_of_ble_eq_true rfl⟩ rfl rfl (Nat.le_of_ble_eq_true rfl) ?_
      refine jt_istore_n (lv' := [(2, _), (0, _), (1, _)]) C dX9_accept_23 rfl (by decide) rfl ?_
      refine jt_iload_n C dX9_accept_24 rfl 0 rfl ?_
      refine jt_bipush (v := (-9 : Int32)) C dX9_accept_25 (by decide) ?_
      refine jt_icmp_ne (tgt := 32) C dX9_accept_27 (by decide) (fun c27 => ?_) (fun c27 => ?_)
      · replace h := jm_iff c27 h
        refine jt_aload_n C dX9_accept_32 rfl 1 rfl ?_
        obtain ⟨M3, eM3, h⟩ := jm_bind h
        refine jt_callVv (As := []) (rest := []) C hr0 rfl dX9_accept_33 (c_X9_remember (jx_l X) k n _ _ hr0 _ eM3) (k_goodIn (g_RX9_70)) rfl h_X9_remember ⟨rfl, rfl, Nat.le_of_ble_eq_true rfl, Nat.le_of_ble_eq_true rfl⟩ rfl rfl (Nat.le_of_ble_eq_true rfl) ?_
        refine jt_aload_n C dX9_accept_36 rfl 1 rfl ?_
        refine jt_getR (Tf := TX9) (N := 17) C dX9_accept_37 hr0 rfl i_9 0 (by decide) rfl m_RX9_7 rfl ?_
        refine jt_iconst (v := (0 : Int32)) C dX9_accept_40 (by decide) ?_
        refine jt_aload_n C dX9_accept_41 rfl 1 rfl ?_
        refine jt_getR (Tf := TX9) (N := 17) C dX9_accept_42 hr0 rfl i_9 0 (by decide) rfl m_RX9_7 rfl ?_
        refine jt_iconst (v := (2 : Int32)) C dX9_accept_45 (by decide) ?_
        obtain ⟨x4, ex4, h⟩ := jm_bind h
        refine jt_iald C dX9_accept_46 (jm_f8_0 hr0) ex4 ?_
        obtain ⟨M5, eM5, h⟩ := jm_bind h
        refine jt_iast C dX9_accept_47 (jm_f8_0 hr0) eM5 ?_
        refine jt_aload_n C dX9_accept_48 rfl 1 rfl ?_
        refine jt_getR (Tf := TX9) (N := 17) C dX9_accept_49 hr0 rfl i_9 0 (by decide) rfl m_RX9_7 rfl ?_
        refine jt_iconst (v := (1 : Int32)) C dX9_accept_52 (by decide) ?_
        refine jt_aload_n C dX9_accept_53 rfl 1 rfl ?_
        refine jt_getR (Tf := TX9) (N := 17) C dX9_accept_54 hr0 rfl i_9 11 (by decide) rfl m_RX9_38 rfl ?_
        refine jt_iload_n C dX9_accept_57 rfl 0 rfl ?_
        obtain ⟨x6, ex6, h⟩ := jm_bind h
        refine jt_iald C dX9_accept_58 (jm_f8_11 hr0) ex6 ?_
        obtain ⟨M7, eM7, h⟩ := jm_bind h
        refine jt_iast C dX9_accept_59 (jm_f8_0 hr0) eM7 ?_
        refine jt_aload_n C dX9_accept_60 rfl 1 rfl ?_
        refine jt_getR (Tf := TX9) (N := 17) C dX9_accept_61 hr0 rfl i_9 0 (by decide) rfl m_RX9_7 rfl ?_
        refine jt_iconst (v := (1 : Int32)) C dX9_accept_64 (by decide) ?_
        obtain ⟨x8, ex8, h⟩ := jm_bind h
        refine jt_iald C dX9_accept_65 (jm_f8_0 hr0) ex8 ?_
        obtain ⟨x9, ex9, h⟩ := jm_bind h
        refine jt_callSi (As := [_]) (rest := []) C dX9_accept_66 (c_X9_bits (jx_l X) k n _ _ _ ex9) (k_goodIn (g_RX9_118)) rfl h_X9_bits ⟨rfl, rfl, Nat.le_of_ble_eq_true rfl, Nat.le_of_ble_eq_true rfl⟩ rfl rfl (Nat.le_of_ble_eq_true rfl) ?_
        cases h
        exact jt_iret C dX9_accept_69 hQ hr
      · replace h := jm_ift c27 h
        refine jt_iconst (v := (-1 : Int32)) C dX9_accept_30 (by decide) ?_
        cases h
        exact jt_iret C dX9_accept_31 hQ hr
    · replace h := jm_ift c10 h
      refine jt_bipush (v := (-9 : Int32)) C dX9_accept_13 (by decide) ?_
      refine jt_goto (tgt := 23) C dX9_accept_15 (by decide) ?_
      refine jt_istore_n (lv' := [(2, _), (0, _), (1, _)]) C dX9_accept_23 rfl (by decide) rfl ?_
      refine jt_iload_n C dX9_accept_24 rfl 0 rfl ?_
      refine jt_bipush (v := (-9 : Int32)) C dX9_accept_25 (by decide) ?_
      refine jt_icmp_ne (tgt := 32) C dX9_accept_27 (by decide) (fun c => absurd c (by decide)) (fun _ => ?_)
      refine jt_iconst (v := (-1 : Int32)) C dX9_accept_30 (by decide) ?_
      cases h
      exact jt_iret C dX9_accept_31 hQ hr
