/-! THE LAW: its own judgement (cells and slots made stay counted), its loop over what class and reference do -/
def jl_T (X : jm_X) (k : jm_C) (cells slots : Nat) (M : jm_M) (pc : Nat) (lv : List (Nat × Value)) (st : List Value) : Prop :=
  ∀ (H : Heap) (locs : List Loc) (ls : Array Slot), va_P k.1 vwCl (jm_w k M) H → va_S (jx_A X) (jx_s X).heap H locs → lv_has ls 4 lv → W (jx_p X) (jx_l X) (jx_e X) room_1 (jx_s X) (jx_m X) (jx_a X) (jx_b X) (jx_me X) (jx_c X) H locs cells slots (jx_Q X) (F0 (jx_m X) pc ls st)
section JL
variable {X : jm_X} {k : jm_C} {cc : ByteArray} {own : String} {Ts : List Cond} {M : jm_M} {cells slots pc : Nat} {lv : List (Nat × Value)} {st : List Value}
theorem jl_iload (C : jm_Cx X k cc 4 own Ts) {f : Fin 4} {i : Nat} {x : Int32} (hd : decode cc pc = .ok (.iload_n f, 1)) (hi : (f : Nat) = i) (j : Nat) (hj : lv[j]? = some (i, .int x)) (kk : jl_T X k cells slots M (pc + 1) lv (.int x :: st)) : jl_T X k cells slots M pc lv st := fun H locs ls hP hS hl => lv_iload_n C.1 C.2.1 hd hi (lv_at hl j hj) (kk H locs ls hP hS hl)
theorem jl_aload (C : jm_Cx X k cc 4 own Ts) {f : Fin 4} {i x : Nat} (hd : decode cc pc = .ok (.aload_n f, 1)) (hi : (f : Nat) = i) (j : Nat) (hj : lv[j]? = some (i, .ref x)) (kk : jl_T X k cells slots M (pc + 1) lv (.ref x :: st)) : jl_T X k cells slots M pc lv st := fun H locs ls hP hS hl => lv_aload_n C.1 C.2.1 hd hi (lv_at hl j hj) (kk H locs ls hP hS hl)
theorem jl_iconst (C : jm_Cx X k cc 4 own Ts) {n : Int} {v : Int32} (hd : decode cc pc = .ok (.iconst n, 1)) (hv : Int32.ofInt n = v) (kk : jl_T X k cells slots M (pc + 1) lv (.int v :: st)) : jl_T X k cells slots M pc lv st := fun H locs ls hP hS hl => lv_iconst C.1 C.2.1 hd hv (kk H locs ls hP hS hl)
theorem jl_bipush (C : jm_Cx X k cc 4 own Ts) {n : Int} {v : Int32} (hd : decode cc pc = .ok (.bipush n, 2)) (hv : (Int8.ofInt n).toInt32 = v) (kk : jl_T X k cells slots M (pc + 2) lv (.int v :: st)) : jl_T X k cells slots M pc lv st := fun H locs ls hP hS hl => lv_bipush C.1 C.2.1 hd hv (kk H locs ls hP hS hl)
theorem jl_iadd (C : jm_Cx X k cc 4 own Ts) {x y : Int32} (hd : decode cc pc = .ok (.iadd, 1)) (kk : jl_T X k cells slots M (pc + 1) lv (.int (x + y) :: st)) : jl_T X k cells slots M pc lv (.int y :: .int x :: st) := fun H locs ls hP hS hl => lv_iadd C.1 C.2.1 hd (kk H locs ls hP hS hl)
theorem jl_isub (C : jm_Cx X k cc 4 own Ts) {x y : Int32} (hd : decode cc pc = .ok (.isub, 1)) (kk : jl_T X k cells slots M (pc + 1) lv (.int (x - y) :: st)) : jl_T X k cells slots M pc lv (.int y :: .int x :: st) := fun H locs ls hP hS hl => lv_isub C.1 C.2.1 hd (kk H locs ls hP hS hl)
theorem jl_iand (C : jm_Cx X k cc 4 own Ts) {x y : Int32} (hd : decode cc pc = .ok (.iand, 1)) (kk : jl_T X k cells slots M (pc + 1) lv (.int (x &&& y) :: st)) : jl_T X k cells slots M pc lv (.int y :: .int x :: st) := fun H locs ls hP hS hl => lv_iand C.1 C.2.1 hd (kk H locs ls hP hS hl)
theorem jl_slen (C : jm_Cx X k cc 4 own Ts) {b L : Nat} {xs : Nat → Int32} (hX : va_X b L xs (jx_s X) (jx_s X).heap) (hbl : b < (jx_s X).heap.size) (hbA : ¬ jx_A X b) (hd : decode cc pc = .ok (.arraylength, 1)) (kk : jl_T X k cells slots M (pc + 1) lv (.int (nI L) :: st)) : jl_T X k cells slots M pc lv (.ref b :: st) := fun H locs ls hP hS hl => va_slen C.1 C.2.1 hX hbl hbA hS hd (kk H locs ls hP hS hl)
theorem jl_sld (C : jm_Cx X k cc 4 own Ts) {b L : Nat} {xs : Nat → Int32} {j : Int32} (hX : va_X b L xs (jx_s X) (jx_s X).heap) (hbl : b < (jx_s X).heap.size) (hbA : ¬ jx_A X b) (hd : decode cc pc = .ok (.iaload, 1)) (hj : vp_in j L) (kk : jl_T X k cells slots M (pc + 1) lv (.int (xs j.toNatClampNeg) :: st)) : jl_T X k cells slots M pc lv (.int j :: .ref b :: st) := fun H locs ls hP hS hl => va_sld C.1 C.2.1 hX hbl hbA hS hj hd (kk H locs ls hP hS hl)
theorem jl_icmp_gt (C : jm_Cx X k cc 4 own Ts) {x y : Int32} {off : Int} {tgt : Nat} (hd : decode cc pc = .ok (.if_icmp .gt off, 3)) (ht : (pc : Int) + off = (tgt : Int)) (kt : y < x → jl_T X k cells slots M tgt lv st) (kf : ¬ y < x → jl_T X k cells slots M (pc + 3) lv st) : jl_T X k cells slots M pc lv (.int y :: .int x :: st) := fun H locs ls hP hS hl => lv_icmp_gt C.1 C.2.1 hd ht (fun h => kt h H locs ls hP hS hl) (fun h => kf h H locs ls hP hS hl)
theorem jl_icmp_eq (C : jm_Cx X k cc 4 own Ts) {x y : Int32} {off : Int} {tgt : Nat} (hd : decode cc pc = .ok (.if_icmp .eq off, 3)) (ht : (pc : Int) + off = (tgt : Int)) (hxy : x = y) (kt : jl_T X k cells slots M tgt lv st) : jl_T X k cells slots M pc lv (.int y :: .int x :: st) := fun H locs ls hP hS hl => lv_icmp_eq C.1 C.2.1 hd ht (fun h => kt H locs ls hP hS hl) (fun h => absurd hxy h)
theorem jl_goto (C : jm_Cx X k cc 4 own Ts) {off : Int} {tgt : Nat} (hd : decode cc pc = .ok (.goto off, 3)) (ht : (pc : Int) + off = (tgt : Int)) (kk : jl_T X k cells slots M tgt lv st) : jl_T X k cells slots M pc lv st := fun H locs ls hP hS hl => lv_goto C.1 C.2.1 hd ht (kk H locs ls hP hS hl)
theorem jl_iinc (C : jm_Cx X k cc 4 own Ts) {i : Nat} {n : Int} {x v : Int32} {lv' : List (Nat × Value)} (hd : decode cc pc = .ok (.iinc i n, 3)) (j : Nat) (hj : lv[j]? = some (i, .int x)) (hv : Int32.ofInt n = v) (hn : i < 4) (hl' : (i, Value.int (x + v)) :: lv.filter (fun q => !(q.1 == i) && !(q.1 + 1 == i && q.2.category == 2)) = lv') (kk : jl_T X k cells slots M (pc + 3) lv' st) : jl_T X k cells slots M pc lv st := fun H locs ls hP hS hl => lv_iinc (v := x + v) C.1 C.2.1 hd hl hj (by rw [hv]) hn hl' (fun ls' h' => kk H locs ls' hP hS h')
theorem jl_tblIn (C : jm_Cx X k cc 4 own Ts) {dflt lo hi : Int} {offs : Array Int} {len : Nat} {x v : Int32} {off : Int} {tgt : Nat} (hd : decode cc pc = .ok (.tableswitch dflt lo hi offs, len)) (hx : x = v) (h1 : ¬ v.toInt < lo) (h2 : ¬ hi < v.toInt) (ho : offs[(v.toInt - lo).toNat]? = some off) (ht : (pc : Int) + off = (tgt : Int)) (kk : jl_T X k cells slots M tgt lv st) : jl_T X k cells slots M pc lv (.int x :: st) := fun H locs ls hP hS hl => by subst hx; exact lv_tableIn C.1 C.2.1 hd h1 h2 ho ht (kk H locs ls hP hS hl)
theorem jl_tblOut (C : jm_Cx X k cc 4 own Ts) {dflt lo hi : Int} {offs : Array Int} {len : Nat} {x : Int32} {tgt : Nat} (hd : decode cc pc = .ok (.tableswitch dflt lo hi offs, len)) (h : x.toInt < lo ∨ hi < x.toInt) (ht : (pc : Int) + dflt = (tgt : Int)) (kk : jl_T X k cells slots M tgt lv st) : jl_T X k cells slots M pc lv (.int x :: st) := fun H locs ls hP hS hl => lv_tableOut C.1 C.2.1 hd h ht (kk H locs ls hP hS hl)
theorem jl_sub {lv' : List (Nat × Value)} (ks : List Nat) (hl' : lv_pick lv ks = lv') (kk : jl_T X k cells slots M pc lv' st) : jl_T X k cells slots M pc lv st := fun H locs ls hP hS hl => kk H locs ls hP hS (lv_sub hl ks hl')
theorem jl_call (C : jm_Cx X k cc 4 own Ts) {index n maxL : Nat} {y : MethodName} {ws ws' : List Cond} {rm : Room} {bytes : ByteArray} {ret : Option FieldType} {As rest st0 : List Value} {r : Int32} {M' : jm_M} {b c : Nat} {Cn : String} {Tf : u_T} {N : Nat} (hi : jm_is b (3, c)) (hc : vwCl[c]? = some (Cn, Tf, N)) (hd : decode cc pc = .ok (.invokevirtual index, 3)) (hM : jm_Ci (jx_l X) k y ws rm (.ref (jm_ad k b) :: As) M r M') (hG : GoodIn Ts (wsV own index Cn y ws)) (hw : ws = Cond.code y bytes maxL ret :: ws') (hdd : y.cls = Cn ∧ y.cls ≠ "java/lang/invoke/MethodHandle" ∧ y.cls ≠ "java/lang/invoke/VarHandle" ∧ (parseMethodDescriptor y.desc).map (fun d => d.parameters.length) = some n) (hrm : rm.cells = 0 ∧ rm.slots = 0 ∧ rm.frames + 1 ≤ room_1.frames ∧ 8 + (maxL + 11) + rm.locals ≤ room_1.locals) (hn : As.length = n) (hst : st0 = As.reverse ++ .ref (jm_ad k b) :: rest) (hro : (rest.map fun v => v.category).sum ≤ 8) (hcs : cells + 0 ≤ room_1.cells ∧ slots + 0 ≤ room_1.slots)
    (kk : jl_T X k cells slots M' (pc + 3) lv (.int r :: rest)) : jl_T X k cells slots M pc lv st0 := fun H locs ls hP hS hl => by
  subst hst
  refine va_calli (va_runV (As := As) (rest := rest) ⟨C.1, C.2.1, C.2.2.1, C.2.2.2.1, C.2.2.2.2.1⟩ (hM H.size) (cwV n C.2.2.2.2.1 hG hw hrm.1 hrm.2.1 hdd hrm.2.2) ⟨jm_blind, va_recv C.2.2.2.2.2.1 hP hc (jm_w_o hi), jm_pre C hP hS⟩ rfl hn hl.1 rfl (lv_room hro) hd hcs) hS (fun q _ h => jm_A_in C hS q h) (jm_A_in C hS) (fun r1 u t H1 locs1 ht hvm hw1 hB hz1 hk1 hS1 => ?_)
  subst hw1
  exact kk H1 locs1 ls (by rw [← ht]; exact hB.1) hS1 hl
end JL
theorem jl_idx {x : Int32} {i L j : Nat} {v : Int32} (hx : x = nI i) (hv : v = nI j) (h : i + j < L) (hL : L ≤ 2048) : vp_in (x + v) L := by
  rw [hx, hv, nI_add]; exact vp_in_nI h (by omega)
theorem jl_idx0 {x : Int32} {i L : Nat} (hx : x = nI i) (h : i < L) (hL : L ≤ 2048) : vp_in x L := by
  rw [hx]; exact vp_in_nI h (by omega)
theorem jl_cond {x : Int32} {i L : Nat} (hx : x = nI i) (hi : i ≤ L + 4) (hL : L ≤ 2048) (h : ¬ nI L - 4 < x) : i + 4 ≤ L := by
  have e : nI L - 4 = Int32.ofInt ((L : Int) - 4) := by
    apply Int32.toInt_inj.mp
    rw [Int32.toInt_sub, nI_toInt (by omega), Int32.toInt_ofInt]
    rfl
  have e2 : (nI L - 4).toInt = (L : Int) - 4 := by
    rw [e, Int32.toInt_ofInt, Int.bmod_eq_of_le (by simp [Int32.size]; omega) (by simp [Int32.size]; omega)]
  rw [Int32.lt_iff_toInt_lt, e2, hx, nI_toInt (by omega)] at h
  omega
def jl_S0 (Inv : jm_M → Prop) : Prop := ∀ (M : jm_M) (a1 a2 a3 : Int32), Inv M → ∃ (n : Nat) (r : Int32) (M1 : jm_M) (M2 : jm_M), X8_begin n 0 a1 M = some (r, M1) ∧ X9_begin n 39 a1 M1 = some (r, M2) ∧ Inv M2
def jl_S1 (Inv : jm_M → Prop) : Prop := ∀ (M : jm_M) (a1 a2 a3 : Int32), Inv M → ∃ (n : Nat) (r : Int32) (M1 : jm_M) (M2 : jm_M), X8_edge n 0 a1 a2 a3 M = some (r, M1) ∧ X9_edge n 39 a1 a2 a3 M1 = some (r, M2) ∧ Inv M2
def jl_S2 (Inv : jm_M → Prop) : Prop := ∀ (M : jm_M) (a1 a2 a3 : Int32), Inv M → ∃ (n : Nat) (r : Int32) (M1 : jm_M) (M2 : jm_M), X8_become n 0 a1 M = some (r, M1) ∧ X9_become n 39 a1 M1 = some (r, M2) ∧ Inv M2
def jl_S3 (Inv : jm_M → Prop) : Prop := ∀ (M : jm_M) (a1 a2 a3 : Int32), Inv M → ∃ (n : Nat) (r : Int32) (M1 : jm_M) (M2 : jm_M), X8_undo n 0 M = some (r, M1) ∧ X9_undo n 39 M1 = some (r, M2) ∧ Inv M2
def jl_S4 (Inv : jm_M → Prop) : Prop := ∀ (M : jm_M) (a1 a2 a3 : Int32), Inv M → ∃ (n : Nat) (r : Int32) (M1 : jm_M) (M2 : jm_M), X8_told n 0 a1 M = some (r, M1) ∧ X9_told n 39 a1 M1 = some (r, M2) ∧ Inv M2
def jl_S5 (Inv : jm_M → Prop) : Prop := ∀ (M : jm_M) (a1 a2 a3 : Int32), Inv M → ∃ (n : Nat) (r : Int32) (M1 : jm_M) (M2 : jm_M), X8_vertex n 0 a1 a2 M = some (r, M1) ∧ X9_vertex n 39 a1 a2 M1 = some (r, M2) ∧ Inv M2
def jl_S6 (Inv : jm_M → Prop) : Prop := ∀ (M : jm_M) (a1 a2 a3 : Int32), Inv M → ∃ (n : Nat) (r : Int32) (M1 : jm_M) (M2 : jm_M), X8_image n 0 a1 a2 a3 M = some (r, M1) ∧ X9_image n 39 a1 a2 a3 M1 = some (r, M2) ∧ Inv M2
def jl_S7 (Inv : jm_M → Prop) : Prop := ∀ (M : jm_M) (a1 a2 a3 : Int32), Inv M → ∃ (n : Nat) (r : Int32) (M2 : jm_M), X8_copies n 0 a1 M = some r ∧ X9_copies n 39 a1 M = some (r, M2) ∧ Inv M2
def jl_S8 (Inv : jm_M → Prop) : Prop := ∀ (M : jm_M) (a1 a2 a3 : Int32), Inv M → ∃ (n : Nat) (r : Int32) (M1 : jm_M) (M2 : jm_M), X8_hold n 0 a1 M = some (r, M1) ∧ X9_hold n 39 a1 M1 = some (r, M2) ∧ Inv M2
def jl_S9 (Inv : jm_M → Prop) : Prop := ∀ (M : jm_M) (a1 a2 a3 : Int32), Inv M → ∃ (n : Nat) (r : Int32) (M1 : jm_M) (M2 : jm_M), X8_keepDeck n 0 M = some (r, M1) ∧ X9_keepDeck n 39 M1 = some (r, M2) ∧ Inv M2
def jl_S10 (Inv : jm_M → Prop) : Prop := ∀ (M : jm_M) (a1 a2 a3 : Int32), Inv M → ∃ (n : Nat) (r : Int32) (M1 : jm_M) (M2 : jm_M), X8_addCard n 0 a1 M = some (r, M1) ∧ X9_addCard n 39 a1 M1 = some (r, M2) ∧ Inv M2
def jl_S11 (Inv : jm_M → Prop) : Prop := ∀ (M : jm_M) (a1 a2 a3 : Int32), Inv M → ∃ (n : Nat) (r : Int32) (M1 : jm_M) (M2 : jm_M), X8_dropCard n 0 a1 M = some (r, M1) ∧ X9_dropCard n 39 a1 M1 = some (r, M2) ∧ Inv M2
def jl_S12 (Inv : jm_M → Prop) : Prop := ∀ (M : jm_M) (a1 a2 a3 : Int32), Inv M → ∃ (n : Nat) (r : Int32) (M1 : jm_M) (M2 : jm_M), X8_card n 0 a1 a2 M = some (r, M1) ∧ X9_card n 39 a1 a2 M1 = some (r, M2) ∧ Inv M2
def jl_S13 (Inv : jm_M → Prop) : Prop := ∀ (M : jm_M) (a1 a2 a3 : Int32), Inv M → ∃ (n : Nat) (r : Int32) (M1 : jm_M) (M2 : jm_M), X8_deck n 0 a1 M = some (r, M1) ∧ X9_deck n 39 a1 M1 = some (r, M2) ∧ Inv M2
def jl_S14 (Inv : jm_M → Prop) : Prop := ∀ (M : jm_M) (a1 a2 a3 : Int32), Inv M → ∃ (n : Nat) (r : Int32) (M1 : jm_M) (M2 : jm_M), X8_counted n 0 a1 M = some (r, M1) ∧ X9_counted n 39 a1 M1 = some (r, M2) ∧ Inv M2
def jl_S15 (Inv : jm_M → Prop) : Prop := ∀ (M : jm_M) (a1 a2 a3 : Int32), Inv M → ∃ (n : Nat) (r : Int32) (M1 : jm_M) (M2 : jm_M), X8_answer n 0 a1 M = some (r, M1) ∧ X9_answer n 39 a1 M1 = some (r, M2) ∧ Inv M2
def jl_S16 (Inv : jm_M → Prop) : Prop := ∀ (M : jm_M) (a1 a2 a3 : Int32), Inv M → ∃ (n : Nat) (r : Int32) (M1 : jm_M) (M2 : jm_M), X8_missing n 0 a1 M = some (r, M1) ∧ X9_missing n 39 a1 M1 = some (r, M2) ∧ Inv M2
def jl_S17 (Inv : jm_M → Prop) : Prop := ∀ (M : jm_M) (a1 a2 a3 : Int32), Inv M → ∃ (n : Nat) (r : Int32) (M1 : jm_M) (M2 : jm_M), X8_accept n 0 a1 M = some (r, M1) ∧ X9_accept n 39 a1 M1 = some (r, M2) ∧ Inv M2
def jl_Steps (Inv : jm_M → Prop) : Prop := jl_S0 Inv ∧ jl_S1 Inv ∧ jl_S2 Inv ∧ jl_S3 Inv ∧ jl_S4 Inv ∧ jl_S5 Inv ∧ jl_S6 Inv ∧ jl_S7 Inv ∧ jl_S8 Inv ∧ jl_S9 Inv ∧ jl_S10 Inv ∧ jl_S11 Inv ∧ jl_S12 Inv ∧ jl_S13 Inv ∧ jl_S14 Inv ∧ jl_S15 Inv ∧ jl_S16 Inv ∧ jl_S17 Inv
theorem g_RL_13 : ∀ w ∈ wsV RL 13 RX8 yX8_begin w_X8_begin, w ∈ k_tbl := k_V k_ml_RL_13 k_im_yX8_begin k_sel_yX8_begin k_ini_GraphDeck k_code_yX8_begin
theorem g_RL_17 : ∀ w ∈ wsV RL 17 RX9 yX9_begin w_X9_begin, w ∈ k_tbl := k_V k_ml_RL_17 k_im_yX9_begin k_sel_yX9_begin k_ini_GraphDeckModel k_code_yX9_begin
theorem g_RL_18 : ∀ w ∈ wsV RL 18 RX8 yX8_edge w_X8_edge, w ∈ k_tbl := k_V k_ml_RL_18 k_im_yX8_edge k_sel_yX8_edge k_ini_GraphDeck k_code_yX8_edge
theorem g_RL_22 : ∀ w ∈ wsV RL 22 RX9 yX9_edge w_X9_edge, w ∈ k_tbl := k_V k_ml_RL_22 k_im_yX9_edge k_sel_yX9_edge k_ini_GraphDeckModel k_code_yX9_edge
theorem g_RL_23 : ∀ w ∈ wsV RL 23 RX8 yX8_become w_X8_become, w ∈ k_tbl := k_V k_ml_RL_23 k_im_yX8_become k_sel_yX8_become k_ini_GraphDeck k_code_yX8_become
theorem g_RL_26 : ∀ w ∈ wsV RL 26 RX9 yX9_become w_X9_become, w ∈ k_tbl := k_V k_ml_RL_26 k_im_yX9_become k_sel_yX9_become k_ini_GraphDeckModel k_code_yX9_become
theorem g_RL_27 : ∀ w ∈ wsV RL 27 RX8 yX8_undo w_X8_undo, w ∈ k_tbl := k_V k_ml_RL_27 k_im_yX8_undo k_sel_yX8_undo k_ini_GraphDeck k_code_yX8_undo
theorem g_RL_31 : ∀ w ∈ wsV RL 31 RX9 yX9_undo w_X9_undo, w ∈ k_tbl := k_V k_ml_RL_31 k_im_yX9_undo k_sel_yX9_undo k_ini_GraphDeckModel k_code_yX9_undo
theorem g_RL_32 : ∀ w ∈ wsV RL 32 RX8 yX8_told w_X8_told, w ∈ k_tbl := k_V k_ml_RL_32 k_im_yX8_told k_sel_yX8_told k_ini_GraphDeck k_code_yX8_told
theorem g_RL_35 : ∀ w ∈ wsV RL 35 RX9 yX9_told w_X9_told, w ∈ k_tbl := k_V k_ml_RL_35 k_im_yX9_told k_sel_yX9_told k_ini_GraphDeckModel k_code_yX9_told
theorem g_RL_36 : ∀ w ∈ wsV RL 36 RX8 yX8_vertex w_X8_vertex, w ∈ k_tbl := k_V k_ml_RL_36 k_im_yX8_vertex k_sel_yX8_vertex k_ini_GraphDeck k_code_yX8_vertex
theorem g_RL_40 : ∀ w ∈ wsV RL 40 RX9 yX9_vertex w_X9_vertex, w ∈ k_tbl := k_V k_ml_RL_40 k_im_yX9_vertex k_sel_yX9_vertex k_ini_GraphDeckModel k_code_yX9_vertex
theorem g_RL_41 : ∀ w ∈ wsV RL 41 RX8 yX8_image w_X8_image, w ∈ k_tbl := k_V k_ml_RL_41 k_im_yX8_image k_sel_yX8_image k_ini_GraphDeck k_code_yX8_image
theorem g_RL_44 : ∀ w ∈ wsV RL 44 RX9 yX9_image w_X9_image, w ∈ k_tbl := k_V k_ml_RL_44 k_im_yX9_image k_sel_yX9_image k_ini_GraphDeckModel k_code_yX9_image
theorem g_RL_45 : ∀ w ∈ wsV RL 45 RX8 yX8_copies w_X8_copies, w ∈ k_tbl := k_V k_ml_RL_45 k_im_yX8_copies k_sel_yX8_copies k_ini_GraphDeck k_code_yX8_copies
theorem g_RL_48 : ∀ w ∈ wsV RL 48 RX9 yX9_copies w_X9_copies, w ∈ k_tbl := k_V k_ml_RL_48 k_im_yX9_copies k_sel_yX9_copies k_ini_GraphDeckModel k_code_yX9_copies
theorem g_RL_49 : ∀ w ∈ wsV RL 49 RX8 yX8_hold w_X8_hold, w ∈ k_tbl := k_V k_ml_RL_49 k_im_yX8_hold k_sel_yX8_hold k_ini_GraphDeck k_code_yX8_hold
theorem g_RL_52 : ∀ w ∈ wsV RL 52 RX9 yX9_hold w_X9_hold, w ∈ k_tbl := k_V k_ml_RL_52 k_im_yX9_hold k_sel_yX9_hold k_ini_GraphDeckModel k_code_yX9_hold
theorem g_RL_53 : ∀ w ∈ wsV RL 53 RX8 yX8_keepDeck w_X8_keepDeck, w ∈ k_tbl := k_V k_ml_RL_53 k_im_yX8_keepDeck k_sel_yX8_keepDeck k_ini_GraphDeck k_code_yX8_keepDeck
theorem g_RL_56 : ∀ w ∈ wsV RL 56 RX9 yX9_keepDeck w_X9_keepDeck, w ∈ k_tbl := k_V k_ml_RL_56 k_im_yX9_keepDeck k_sel_yX9_keepDeck k_ini_GraphDeckModel k_code_yX9_keepDeck
theorem g_RL_57 : ∀ w ∈ wsV RL 57 RX8 yX8_addCard w_X8_addCard, w ∈ k_tbl := k_V k_ml_RL_57 k_im_yX8_addCard k_sel_yX8_addCard k_ini_GraphDeck k_code_yX8_addCard
theorem g_RL_60 : ∀ w ∈ wsV RL 60 RX9 yX9_addCard w_X9_addCard, w ∈ k_tbl := k_V k_ml_RL_60 k_im_yX9_addCard k_sel_yX9_addCard k_ini_GraphDeckModel k_code_yX9_addCard
theorem g_RL_61 : ∀ w ∈ wsV RL 61 RX8 yX8_dropCard w_X8_dropCard, w ∈ k_tbl := k_V k_ml_RL_61 k_im_yX8_dropCard k_sel_yX8_dropCard k_ini_GraphDeck k_code_yX8_dropCard
theorem g_RL_64 : ∀ w ∈ wsV RL 64 RX9 yX9_dropCard w_X9_dropCard, w ∈ k_tbl := k_V k_ml_RL_64 k_im_yX9_dropCard k_sel_yX9_dropCard k_ini_GraphDeckModel k_code_yX9_dropCard
theorem g_RL_65 : ∀ w ∈ wsV RL 65 RX8 yX8_card w_X8_card, w ∈ k_tbl := k_V k_ml_RL_65 k_im_yX8_card k_sel_yX8_card k_ini_GraphDeck k_code_yX8_card
theorem g_RL_68 : ∀ w ∈ wsV RL 68 RX9 yX9_card w_X9_card, w ∈ k_tbl := k_V k_ml_RL_68 k_im_yX9_card k_sel_yX9_card k_ini_GraphDeckModel k_code_yX9_card
theorem g_RL_69 : ∀ w ∈ wsV RL 69 RX8 yX8_deck w_X8_deck, w ∈ k_tbl := k_V k_ml_RL_69 k_im_yX8_deck k_sel_yX8_deck k_ini_GraphDeck k_code_yX8_deck
theorem g_RL_72 : ∀ w ∈ wsV RL 72 RX9 yX9_deck w_X9_deck, w ∈ k_tbl := k_V k_ml_RL_72 k_im_yX9_deck k_sel_yX9_deck k_ini_GraphDeckModel k_code_yX9_deck
theorem g_RL_73 : ∀ w ∈ wsV RL 73 RX8 yX8_counted w_X8_counted, w ∈ k_tbl := k_V k_ml_RL_73 k_im_yX8_counted k_sel_yX8_counted k_ini_GraphDeck k_code_yX8_counted
theorem g_RL_76 : ∀ w ∈ wsV RL 76 RX9 yX9_counted w_X9_counted, w ∈ k_tbl := k_V k_ml_RL_76 k_im_yX9_counted k_sel_yX9_counted k_ini_GraphDeckModel k_code_yX9_counted
theorem g_RL_77 : ∀ w ∈ wsV RL 77 RX8 yX8_answer w_X8_answer, w ∈ k_tbl := k_V k_ml_RL_77 k_im_yX8_answer k_sel_yX8_answer k_ini_GraphDeck k_code_yX8_answer
theorem g_RL_80 : ∀ w ∈ wsV RL 80 RX9 yX9_answer w_X9_answer, w ∈ k_tbl := k_V k_ml_RL_80 k_im_yX9_answer k_sel_yX9_answer k_ini_GraphDeckModel k_code_yX9_answer
theorem g_RL_81 : ∀ w ∈ wsV RL 81 RX8 yX8_missing w_X8_missing, w ∈ k_tbl := k_V k_ml_RL_81 k_im_yX8_missing k_sel_yX8_missing k_ini_GraphDeck k_code_yX8_missing
theorem g_RL_84 : ∀ w ∈ wsV RL 84 RX9 yX9_missing w_X9_missing, w ∈ k_tbl := k_V k_ml_RL_84 k_im_yX9_missing k_sel_yX9_missing k_ini_GraphDeckModel k_code_yX9_missing
theorem g_RL_85 : ∀ w ∈ wsV RL 85 RX8 yX8_accept w_X8_accept, w ∈ k_tbl := k_V k_ml_RL_85 k_im_yX8_accept k_sel_yX8_accept k_ini_GraphDeck k_code_yX8_accept
theorem g_RL_88 : ∀ w ∈ wsV RL 88 RX9 yX9_accept w_X9_accept, w ∈ k_tbl := k_V k_ml_RL_88 k_im_yX9_accept k_sel_yX9_accept k_ini_GraphDeckModel k_code_yX9_accept
theorem k_goodInK {ws : List Cond} (h : ∀ w ∈ ws, w ∈ k_tbl) : GoodIn k_tbl ws := fun w hw => ⟨h w hw, good_of_word (List.mem_filter.mp (h w hw)).2⟩
set_option maxHeartbeats 4000000 in
set_option maxRecDepth 100000 in
theorem jl_case0 {X : jm_X} {k : jm_C} (C : jm_Cx X k cL_law 4 RL k_tbl) {b L : Nat} {xs : Nat → Int32} (hX : va_X b L xs (jx_s X) (jx_s X).heap) (hbl : b < (jx_s X).heap.size) (hbA : ¬ jx_A X b) {Inv : jm_M → Prop} (hs : jl_S0 Inv) {x3 : Int32} {i : Nat} (hx3 : x3 = nI i) (hi : i + 4 ≤ L) (hL : L ≤ 2048) {M : jm_M} (hM : Inv M) (hk : ∀ M2, Inv M2 → jl_T X k 53 38654 M2 574 [(0, .ref b), (1, .ref (jm_ad k 0)), (2, .ref (jm_ad k 39)), (3, .int x3)] []) : jl_T X k 53 38654 M 120 [(0, .ref b), (1, .ref (jm_ad k 0)), (2, .ref (jm_ad k 39)), (3, .int x3)] [] := by
  have hx : jm_is 0 (3, 7) := ⟨by decide, rfl⟩
  have hm : jm_is 39 (3, 8) := ⟨by decide, rfl⟩
  obtain ⟨n, r, M1, M2, h1, h2, h3⟩ := hs M (xs (x3 + 1).toNatClampNeg) (xs (x3 + 2).toNatClampNeg) (xs (x3 + 3).toNatClampNeg) hM
  refine jl_aload C dL_law_120 rfl 1 rfl ?_
  refine jl_aload C dL_law_121 rfl 0 rfl ?_
  refine jl_iload C dL_law_122 rfl 3 rfl ?_
  refine jl_iconst (v := 1) C dL_law_123 (by decide) ?_
  refine jl_iadd C dL_law_124 ?_
  refine jl_sld C hX hbl hbA dL_law_125 (jl_idx (j := 1) hx3 (by decide) (by omega) hL) ?_
  refine jl_call (As := [_]) (rest := []) C hx rfl dL_law_126 (c_X8_begin (jx_l X) k _ _ _ _ hx _ _ h1) (k_goodInK g_RL_13) rfl h_X8_begin ⟨rfl, rfl, Nat.le_of_ble_eq_true rfl, Nat.le_of_ble_eq_true rfl⟩ rfl rfl (Nat.le_of_ble_eq_true rfl) ⟨Nat.le_of_ble_eq_true rfl, Nat.le_of_ble_eq_true rfl⟩ ?_
  refine jl_aload C dL_law_129 rfl 2 rfl ?_
  refine jl_aload C dL_law_130 rfl 0 rfl ?_
  refine jl_iload C dL_law_131 rfl 3 rfl ?_
  refine jl_iconst (v := 1) C dL_law_132 (by decide) ?_
  refine jl_iadd C dL_law_133 ?_
  refine jl_sld C hX hbl hbA dL_law_134 (jl_idx (j := 1) hx3 (by decide) (by omega) hL) ?_
  refine jl_call (As := [_]) (rest := [_]) C hm rfl dL_law_135 (c_X9_begin (jx_l X) k _ _ _ _ hm _ _ h2) (k_goodInK g_RL_17) rfl h_X9_begin ⟨rfl, rfl, Nat.le_of_ble_eq_true rfl, Nat.le_of_ble_eq_true rfl⟩ rfl rfl (Nat.le_of_ble_eq_true rfl) ⟨Nat.le_of_ble_eq_true rfl, Nat.le_of_ble_eq_true rfl⟩ ?_
  refine jl_icmp_eq (tgt := 574) C dL_law_138 (by decide) rfl ?_
  exact hk _ h3
set_option maxHeartbeats 4000000 in
set_option maxRecDepth 100000 in
theorem jl_case1 {X : jm_X} {k : jm_C} (C : jm_Cx X k cL_law 4 RL k_tbl) {b L : Nat} {xs : Nat → Int32} (hX : va_X b L xs (jx_s X) (jx_s X).heap) (hbl : b < (jx_s X).heap.size) (hbA : ¬ jx_A X b) {Inv : jm_M → Prop} (hs : jl_S1 Inv) {x3 : Int32} {i : Nat} (hx3 : x3 = nI i) (hi : i + 4 ≤ L) (hL : L ≤ 2048) {M : jm_M} (hM : Inv M) (hk : ∀ M2, Inv M2 → jl_T X k 53 38654 M2 574 [(0, .ref b), (1, .ref (jm_ad k 0)), (2, .ref (jm_ad k 39)), (3, .int x3)] []) : jl_T X k 53 38654 M 143 [(0, .ref b), (1, .ref (jm_ad k 0)), (2, .ref (jm_ad k 39)), (3, .int x3)] [] := by
  have hx : jm_is 0 (3, 7) := ⟨by decide, rfl⟩
  have hm : jm_is 39 (3, 8) := ⟨by decide, rfl⟩
  obtain ⟨n, r, M1, M2, h1, h2, h3⟩ := hs M (xs (x3 + 1).toNatClampNeg) (xs (x3 + 2).toNatClampNeg) (xs (x3 + 3).toNatClampNeg) hM
  refine jl_aload C dL_law_143 rfl 1 rfl ?_
  refine jl_aload C dL_law_144 rfl 0 rfl ?_
  refine jl_iload C dL_law_145 rfl 3 rfl ?_
  refine jl_iconst (v := 1) C dL_law_146 (by decide) ?_
  refine jl_iadd C dL_law_147 ?_
  refine jl_sld C hX hbl hbA dL_law_148 (jl_idx (j := 1) hx3 (by decide) (by omega) hL) ?_
  refine jl_aload C dL_law_149 rfl 0 rfl ?_
  refine jl_iload C dL_law_150 rfl 3 rfl ?_
  refine jl_iconst (v := 2) C dL_law_151 (by decide) ?_
  refine jl_iadd C dL_law_152 ?_
  refine jl_sld C hX hbl hbA dL_law_153 (jl_idx (j := 2) hx3 (by decide) (by omega) hL) ?_
  refine jl_aload C dL_law_154 rfl 0 rfl ?_
  refine jl_iload C dL_law_155 rfl 3 rfl ?_
  refine jl_iconst (v := 3) C dL_law_156 (by decide) ?_
  refine jl_iadd C dL_law_157 ?_
  refine jl_sld C hX hbl hbA dL_law_158 (jl_idx (j := 3) hx3 (by decide) (by omega) hL) ?_
  refine jl_call (As := [_, _, _]) (rest := []) C hx rfl dL_law_159 (c_X8_edge (jx_l X) k _ _ _ _ _ _ hx _ _ h1) (k_goodInK g_RL_18) rfl h_X8_edge ⟨rfl, rfl, Nat.le_of_ble_eq_true rfl, Nat.le_of_ble_eq_true rfl⟩ rfl rfl (Nat.le_of_ble_eq_true rfl) ⟨Nat.le_of_ble_eq_true rfl, Nat.le_of_ble_eq_true rfl⟩ ?_
  refine jl_aload C dL_law_162 rfl 2 rfl ?_
  refine jl_aload C dL_law_163 rfl 0 rfl ?_
  refine jl_iload C dL_law_164 rfl 3 rfl ?_
  refine jl_iconst (v := 1) C dL_law_165 (by decide) ?_
  refine jl_iadd C dL_law_166 ?_
  refine jl_sld C hX hbl hbA dL_law_167 (jl_idx (j := 1) hx3 (by decide) (by omega) hL) ?_
  refine jl_aload C dL_law_168 rfl 0 rfl ?_
  refine jl_iload C dL_law_169 rfl 3 rfl ?_
  refine jl_iconst (v := 2) C dL_law_170 (by decide) ?_
  refine jl_iadd C dL_law_171 ?_
  refine jl_sld C hX hbl hbA dL_law_172 (jl_idx (j := 2) hx3 (by decide) (by omega) hL) ?_
  refine jl_aload C dL_law_173 rfl 0 rfl ?_
  refine jl_iload C dL_law_174 rfl 3 rfl ?_
  refine jl_iconst (v := 3) C dL_law_175 (by decide) ?_
  refine jl_iadd C dL_law_176 ?_
  refine jl_sld C hX hbl hbA dL_law_177 (jl_idx (j := 3) hx3 (by decide) (by omega) hL) ?_
  refine jl_call (As := [_, _, _]) (rest := [_]) C hm rfl dL_law_178 (c_X9_edge (jx_l X) k _ _ _ _ _ _ hm _ _ h2) (k_goodInK g_RL_22) rfl h_X9_edge ⟨rfl, rfl, Nat.le_of_ble_eq_true rfl, Nat.le_of_ble_eq_true rfl⟩ rfl rfl (Nat.le_of_ble_eq_true rfl) ⟨Nat.le_of_ble_eq_true rfl, Nat.le_of_ble_eq_true rfl⟩ ?_
  refine jl_icmp_eq (tgt := 574) C dL_law_181 (by decide) rfl ?_
  exact hk _ h3
set_option maxHeartbeats 4000000 in
set_option maxRecDepth 100000 in
theorem jl_case2 {X : jm_X} {k : jm_C} (C : jm_Cx X k cL_law 4 RL k_tbl) {b L : Nat} {xs : Nat → Int32} (hX : va_X b L xs (jx_s X) (jx_s X).heap) (hbl : b < (jx_s X).heap.size) (hbA : ¬ jx_A X b) {Inv : jm_M → Prop} (hs : jl_S2 Inv) {x3 : Int32} {i : Nat} (hx3 : x3 = nI i) (hi : i + 4 ≤ L) (hL : L ≤ 2048) {M : jm_M} (hM : Inv M) (hk : ∀ M2, Inv M2 → jl_T X k 53 38654 M2 574 [(0, .ref b), (1, .ref (jm_ad k 0)), (2, .ref (jm_ad k 39)), (3, .int x3)] []) : jl_T X k 53 38654 M 186 [(0, .ref b), (1, .ref (jm_ad k 0)), (2, .ref (jm_ad k 39)), (3, .int x3)] [] := by
  have hx : jm_is 0 (3, 7) := ⟨by decide, rfl⟩
  have hm : jm_is 39 (3, 8) := ⟨by decide, rfl⟩
  obtain ⟨n, r, M1, M2, h1, h2, h3⟩ := hs M (xs (x3 + 1).toNatClampNeg) (xs (x3 + 2).toNatClampNeg) (xs (x3 + 3).toNatClampNeg) hM
  refine jl_aload C dL_law_186 rfl 1 rfl ?_
  refine jl_aload C dL_law_187 rfl 0 rfl ?_
  refine jl_iload C dL_law_188 rfl 3 rfl ?_
  refine jl_iconst (v := 1) C dL_law_189 (by decide) ?_
  refine jl_iadd C dL_law_190 ?_
  refine jl_sld C hX hbl hbA dL_law_191 (jl_idx (j := 1) hx3 (by decide) (by omega) hL) ?_
  refine jl_call (As := [_]) (rest := []) C hx rfl dL_law_192 (c_X8_become (jx_l X) k _ _ _ _ hx _ _ h1) (k_goodInK g_RL_23) rfl h_X8_become ⟨rfl, rfl, Nat.le_of_ble_eq_true rfl, Nat.le_of_ble_eq_true rfl⟩ rfl rfl (Nat.le_of_ble_eq_true rfl) ⟨Nat.le_of_ble_eq_true rfl, Nat.le_of_ble_eq_true rfl⟩ ?_
  refine jl_aload C dL_law_195 rfl 2 rfl ?_
  refine jl_aload C dL_law_196 rfl 0 rfl ?_
  refine jl_iload C dL_law_197 rfl 3 rfl ?_
  refine jl_iconst (v := 1) C dL_law_198 (by decide) ?_
  refine jl_iadd C dL_law_199 ?_
  refine jl_sld C hX hbl hbA dL_law_200 (jl_idx (j := 1) hx3 (by decide) (by omega) hL) ?_
  refine jl_call (As := [_]) (rest := [_]) C hm rfl dL_law_201 (c_X9_become (jx_l X) k _ _ _ _ hm _ _ h2) (k_goodInK g_RL_26) rfl h_X9_become ⟨rfl, rfl, Nat.le_of_ble_eq_true rfl, Nat.le_of_ble_eq_true rfl⟩ rfl rfl (Nat.le_of_ble_eq_true rfl) ⟨Nat.le_of_ble_eq_true rfl, Nat.le_of_ble_eq_true rfl⟩ ?_
  refine jl_icmp_eq (tgt := 574) C dL_law_204 (by decide) rfl ?_
  exact hk _ h3
set_option maxHeartbeats 4000000 in
set_option maxRecDepth 100000 in
theorem jl_case3 {X : jm_X} {k : jm_C} (C : jm_Cx X k cL_law 4 RL k_tbl) {b L : Nat} {xs : Nat → Int32} (hX : va_X b L xs (jx_s X) (jx_s X).heap) (hbl : b < (jx_s X).heap.size) (hbA : ¬ jx_A X b) {Inv : jm_M → Prop} (hs : jl_S3 Inv) {x3 : Int32} {i : Nat} (hx3 : x3 = nI i) (hi : i + 4 ≤ L) (hL : L ≤ 2048) {M : jm_M} (hM : Inv M) (hk : ∀ M2, Inv M2 → jl_T X k 53 38654 M2 574 [(0, .ref b), (1, .ref (jm_ad k 0)), (2, .ref (jm_ad k 39)), (3, .int x3)] []) : jl_T X k 53 38654 M 209 [(0, .ref b), (1, .ref (jm_ad k 0)), (2, .ref (jm_ad k 39)), (3, .int x3)] [] := by
  have hx : jm_is 0 (3, 7) := ⟨by decide, rfl⟩
  have hm : jm_is 39 (3, 8) := ⟨by decide, rfl⟩
  obtain ⟨n, r, M1, M2, h1, h2, h3⟩ := hs M (xs (x3 + 1).toNatClampNeg) (xs (x3 + 2).toNatClampNeg) (xs (x3 + 3).toNatClampNeg) hM
  refine jl_aload C dL_law_209 rfl 1 rfl ?_
  refine jl_call (As := []) (rest := []) C hx rfl dL_law_210 (c_X8_undo (jx_l X) k _ _ _ hx _ _ h1) (k_goodInK g_RL_27) rfl h_X8_undo ⟨rfl, rfl, Nat.le_of_ble_eq_true rfl, Nat.le_of_ble_eq_true rfl⟩ rfl rfl (Nat.le_of_ble_eq_true rfl) ⟨Nat.le_of_ble_eq_true rfl, Nat.le_of_ble_eq_true rfl⟩ ?_
  refine jl_aload C dL_law_213 rfl 2 rfl ?_
  refine jl_call (As := []) (rest := [_]) C hm rfl dL_law_214 (c_X9_undo (jx_l X) k _ _ _ hm _ _ h2) (k_goodInK g_RL_31) rfl h_X9_undo ⟨rfl, rfl, Nat.le_of_ble_eq_true rfl, Nat.le_of_ble_eq_true rfl⟩ rfl rfl (Nat.le_of_ble_eq_true rfl) ⟨Nat.le_of_ble_eq_true rfl, Nat.le_of_ble_eq_true rfl⟩ ?_
  refine jl_icmp_eq (tgt := 574) C dL_law_217 (by decide) rfl ?_
  exact hk _ h3
set_option maxHeartbeats 4000000 in
set_option maxRecDepth 100000 in
theorem jl_case4 {X : jm_X} {k : jm_C} (C : jm_Cx X k cL_law 4 RL k_tbl) {b L : Nat} {xs : Nat → Int32} (hX : va_X b L xs (jx_s X) (jx_s X).heap) (hbl : b < (jx_s X).heap.size) (hbA : ¬ jx_A X b) {Inv : jm_M → Prop} (hs : jl_S4 Inv) {x3 : Int32} {i : Nat} (hx3 : x3 = nI i) (hi : i + 4 ≤ L) (hL : L ≤ 2048) {M : jm_M} (hM : Inv M) (hk : ∀ M2, Inv M2 → jl_T X k 53 38654 M2 574 [(0, .ref b), (1, .ref (jm_ad k 0)), (2, .ref (jm_ad k 39)), (3, .int x3)] []) : jl_T X k 53 38654 M 222 [(0, .ref b), (1, .ref (jm_ad k 0)), (2, .ref (jm_ad k 39)), (3, .int x3)] [] := by
  have hx : jm_is 0 (3, 7) := ⟨by decide, rfl⟩
  have hm : jm_is 39 (3, 8) := ⟨by decide, rfl⟩
  obtain ⟨n, r, M1, M2, h1, h2, h3⟩ := hs M (xs (x3 + 1).toNatClampNeg) (xs (x3 + 2).toNatClampNeg) (xs (x3 + 3).toNatClampNeg) hM
  refine jl_aload C dL_law_222 rfl 1 rfl ?_
  refine jl_aload C dL_law_223 rfl 0 rfl ?_
  refine jl_iload C dL_law_224 rfl 3 rfl ?_
  refine jl_iconst (v := 1) C dL_law_225 (by decide) ?_
  refine jl_iadd C dL_law_226 ?_
  refine jl_sld C hX hbl hbA dL_law_227 (jl_idx (j := 1) hx3 (by decide) (by omega) hL) ?_
  refine jl_call (As := [_]) (rest := []) C hx rfl dL_law_228 (c_X8_told (jx_l X) k _ _ _ _ hx _ _ h1) (k_goodInK g_RL_32) rfl h_X8_told ⟨rfl, rfl, Nat.le_of_ble_eq_true rfl, Nat.le_of_ble_eq_true rfl⟩ rfl rfl (Nat.le_of_ble_eq_true rfl) ⟨Nat.le_of_ble_eq_true rfl, Nat.le_of_ble_eq_true rfl⟩ ?_
  refine jl_aload C dL_law_231 rfl 2 rfl ?_
  refine jl_aload C dL_law_232 rfl 0 rfl ?_
  refine jl_iload C dL_law_233 rfl 3 rfl ?_
  refine jl_iconst (v := 1) C dL_law_234 (by decide) ?_
  refine jl_iadd C dL_law_235 ?_
  refine jl_sld C hX hbl hbA dL_law_236 (jl_idx (j := 1) hx3 (by decide) (by omega) hL) ?_
  refine jl_call (As := [_]) (rest := [_]) C hm rfl dL_law_237 (c_X9_told (jx_l X) k _ _ _ _ hm _ _ h2) (k_goodInK g_RL_35) rfl h_X9_told ⟨rfl, rfl, Nat.le_of_ble_eq_true rfl, Nat.le_of_ble_eq_true rfl⟩ rfl rfl (Nat.le_of_ble_eq_true rfl) ⟨Nat.le_of_ble_eq_true rfl, Nat.le_of_ble_eq_true rfl⟩ ?_
  refine jl_icmp_eq (tgt := 574) C dL_law_240 (by decide) rfl ?_
  exact hk _ h3
set_option maxHeartbeats 4000000 in
set_option maxRecDepth 100000 in
theorem jl_case5 {X : jm_X} {k : jm_C} (C : jm_Cx X k cL_law 4 RL k_tbl) {b L : Nat} {xs : Nat → Int32} (hX : va_X b L xs (jx_s X) (jx_s X).heap) (hbl : b < (jx_s X).heap.size) (hbA : ¬ jx_A X b) {Inv : jm_M → Prop} (hs : jl_S5 Inv) {x3 : Int32} {i : Nat} (hx3 : x3 = nI i) (hi : i + 4 ≤ L) (hL : L ≤ 2048) {M : jm_M} (hM : Inv M) (hk : ∀ M2, Inv M2 → jl_T X k 53 38654 M2 574 [(0, .ref b), (1, .ref (jm_ad k 0)), (2, .ref (jm_ad k 39)), (3, .int x3)] []) : jl_T X k 53 38654 M 245 [(0, .ref b), (1, .ref (jm_ad k 0)), (2, .ref (jm_ad k 39)), (3, .int x3)] [] := by
  have hx : jm_is 0 (3, 7) := ⟨by decide, rfl⟩
  have hm : jm_is 39 (3, 8) := ⟨by decide, rfl⟩
  obtain ⟨n, r, M1, M2, h1, h2, h3⟩ := hs M (xs (x3 + 1).toNatClampNeg) (xs (x3 + 2).toNatClampNeg) (xs (x3 + 3).toNatClampNeg) hM
  refine jl_aload C dL_law_245 rfl 1 rfl ?_
  refine jl_aload C dL_law_246 rfl 0 rfl ?_
  refine jl_iload C dL_law_247 rfl 3 rfl ?_
  refine jl_iconst (v := 1) C dL_law_248 (by decide) ?_
  refine jl_iadd C dL_law_249 ?_
  refine jl_sld C hX hbl hbA dL_law_250 (jl_idx (j := 1) hx3 (by decide) (by omega) hL) ?_
  refine jl_aload C dL_law_251 rfl 0 rfl ?_
  refine jl_iload C dL_law_252 rfl 3 rfl ?_
  refine jl_iconst (v := 2) C dL_law_253 (by decide) ?_
  refine jl_iadd C dL_law_254 ?_
  refine jl_sld C hX hbl hbA dL_law_255 (jl_idx (j := 2) hx3 (by decide) (by omega) hL) ?_
  refine jl_call (As := [_, _]) (rest := []) C hx rfl dL_law_256 (c_X8_vertex (jx_l X) k _ _ _ _ _ hx _ _ h1) (k_goodInK g_RL_36) rfl h_X8_vertex ⟨rfl, rfl, Nat.le_of_ble_eq_true rfl, Nat.le_of_ble_eq_true rfl⟩ rfl rfl (Nat.le_of_ble_eq_true rfl) ⟨Nat.le_of_ble_eq_true rfl, Nat.le_of_ble_eq_true rfl⟩ ?_
  refine jl_aload C dL_law_259 rfl 2 rfl ?_
  refine jl_aload C dL_law_260 rfl 0 rfl ?_
  refine jl_iload C dL_law_261 rfl 3 rfl ?_
  refine jl_iconst (v := 1) C dL_law_262 (by decide) ?_
  refine jl_iadd C dL_law_263 ?_
  refine jl_sld C hX hbl hbA dL_law_264 (jl_idx (j := 1) hx3 (by decide) (by omega) hL) ?_
  refine jl_aload C dL_law_265 rfl 0 rfl ?_
  refine jl_iload C dL_law_266 rfl 3 rfl ?_
  refine jl_iconst (v := 2) C dL_law_267 (by decide) ?_
  refine jl_iadd C dL_law_268 ?_
  refine jl_sld C hX hbl hbA dL_law_269 (jl_idx (j := 2) hx3 (by decide) (by omega) hL) ?_
  refine jl_call (As := [_, _]) (rest := [_]) C hm rfl dL_law_270 (c_X9_vertex (jx_l X) k _ _ _ _ _ hm _ _ h2) (k_goodInK g_RL_40) rfl h_X9_vertex ⟨rfl, rfl, Nat.le_of_ble_eq_true rfl, Nat.le_of_ble_eq_true rfl⟩ rfl rfl (Nat.le_of_ble_eq_true rfl) ⟨Nat.le_of_ble_eq_true rfl, Nat.le_of_ble_eq_true rfl⟩ ?_
  refine jl_icmp_eq (tgt := 574) C dL_law_273 (by decide) rfl ?_
  exact hk _ h3
set_option maxHeartbeats 4000000 in
set_option maxRecDepth 100000 in
theorem jl_case6 {X : jm_X} {k : jm_C} (C : jm_Cx X k cL_law 4 RL k_tbl) {b L : Nat} {xs : Nat → Int32} (hX : va_X b L xs (jx_s X) (jx_s X).heap) (hbl : b < (jx_s X).heap.size) (hbA : ¬ jx_A X b) {Inv : jm_M → Prop} (hs : jl_S6 Inv) {x3 : Int32} {i : Nat} (hx3 : x3 = nI i) (hi : i + 4 ≤ L) (hL : L ≤ 2048) {M : jm_M} (hM : Inv M) (hk : ∀ M2, Inv M2 → jl_T X k 53 38654 M2 574 [(0, .ref b), (1, .ref (jm_ad k 0)), (2, .ref (jm_ad k 39)), (3, .int x3)] []) : jl_T X k 53 38654 M 278 [(0, .ref b), (1, .ref (jm_ad k 0)), (2, .ref (jm_ad k 39)), (3, .int x3)] [] := by
  have hx : jm_is 0 (3, 7) := ⟨by decide, rfl⟩
  have hm : jm_is 39 (3, 8) := ⟨by decide, rfl⟩
  obtain ⟨n, r, M1, M2, h1, h2, h3⟩ := hs M (xs (x3 + 1).toNatClampNeg) (xs (x3 + 2).toNatClampNeg) (xs (x3 + 3).toNatClampNeg) hM
  refine jl_aload C dL_law_278 rfl 1 rfl ?_
  refine jl_aload C dL_law_279 rfl 0 rfl ?_
  refine jl_iload C dL_law_280 rfl 3 rfl ?_
  refine jl_iconst (v := 1) C dL_law_281 (by decide) ?_
  refine jl_iadd C dL_law_282 ?_
  refine jl_sld C hX hbl hbA dL_law_283 (jl_idx (j := 1) hx3 (by decide) (by omega) hL) ?_
  refine jl_aload C dL_law_284 rfl 0 rfl ?_
  refine jl_iload C dL_law_285 rfl 3 rfl ?_
  refine jl_iconst (v := 2) C dL_law_286 (by decide) ?_
  refine jl_iadd C dL_law_287 ?_
  refine jl_sld C hX hbl hbA dL_law_288 (jl_idx (j := 2) hx3 (by decide) (by omega) hL) ?_
  refine jl_aload C dL_law_289 rfl 0 rfl ?_
  refine jl_iload C dL_law_290 rfl 3 rfl ?_
  refine jl_iconst (v := 3) C dL_law_291 (by decide) ?_
  refine jl_iadd C dL_law_292 ?_
  refine jl_sld C hX hbl hbA dL_law_293 (jl_idx (j := 3) hx3 (by decide) (by omega) hL) ?_
  refine jl_call (As := [_, _, _]) (rest := []) C hx rfl dL_law_294 (c_X8_image (jx_l X) k _ _ _ _ _ _ hx _ _ h1) (k_goodInK g_RL_41) rfl h_X8_image ⟨rfl, rfl, Nat.le_of_ble_eq_true rfl, Nat.le_of_ble_eq_true rfl⟩ rfl rfl (Nat.le_of_ble_eq_true rfl) ⟨Nat.le_of_ble_eq_true rfl, Nat.le_of_ble_eq_true rfl⟩ ?_
  refine jl_aload C dL_law_297 rfl 2 rfl ?_
  refine jl_aload C dL_law_298 rfl 0 rfl ?_
  refine jl_iload C dL_law_299 rfl 3 rfl ?_
  refine jl_iconst (v := 1) C dL_law_300 (by decide) ?_
  refine jl_iadd C dL_law_301 ?_
  refine jl_sld C hX hbl hbA dL_law_302 (jl_idx (j := 1) hx3 (by decide) (by omega) hL) ?_
  refine jl_aload C dL_law_303 rfl 0 rfl ?_
  refine jl_iload C dL_law_304 rfl 3 rfl ?_
  refine jl_iconst (v := 2) C dL_law_305 (by decide) ?_
  refine jl_iadd C dL_law_306 ?_
  refine jl_sld C hX hbl hbA dL_law_307 (jl_idx (j := 2) hx3 (by decide) (by omega) hL) ?_
  refine jl_aload C dL_law_308 rfl 0 rfl ?_
  refine jl_iload C dL_law_309 rfl 3 rfl ?_
  refine jl_iconst (v := 3) C dL_law_310 (by decide) ?_
  refine jl_iadd C dL_law_311 ?_
  refine jl_sld C hX hbl hbA dL_law_312 (jl_idx (j := 3) hx3 (by decide) (by omega) hL) ?_
  refine jl_call (As := [_, _, _]) (rest := [_]) C hm rfl dL_law_313 (c_X9_image (jx_l X) k _ _ _ _ _ _ hm _ _ h2) (k_goodInK g_RL_44) rfl h_X9_image ⟨rfl, rfl, Nat.le_of_ble_eq_true rfl, Nat.le_of_ble_eq_true rfl⟩ rfl rfl (Nat.le_of_ble_eq_true rfl) ⟨Nat.le_of_ble_eq_true rfl, Nat.le_of_ble_eq_true rfl⟩ ?_
  refine jl_icmp_eq (tgt := 574) C dL_law_316 (by decide) rfl ?_
  exact hk _ h3
set_option maxHeartbeats 4000000 in
set_option maxRecDepth 100000 in
theorem jl_case7 {X : jm_X} {k : jm_C} (C : jm_Cx X k cL_law 4 RL k_tbl) {b L : Nat} {xs : Nat → Int32} (hX : va_X b L xs (jx_s X) (jx_s X).heap) (hbl : b < (jx_s X).heap.size) (hbA : ¬ jx_A X b) {Inv : jm_M → Prop} (hs : jl_S7 Inv) {x3 : Int32} {i : Nat} (hx3 : x3 = nI i) (hi : i + 4 ≤ L) (hL : L ≤ 2048) {M : jm_M} (hM : Inv M) (hk : ∀ M2, Inv M2 → jl_T X k 53 38654 M2 574 [(0, .ref b), (1, .ref (jm_ad k 0)), (2, .ref (jm_ad k 39)), (3, .int x3)] []) : jl_T X k 53 38654 M 321 [(0, .ref b), (1, .ref (jm_ad k 0)), (2, .ref (jm_ad k 39)), (3, .int x3)] [] := by
  have hx : jm_is 0 (3, 7) := ⟨by decide, rfl⟩
  have hm : jm_is 39 (3, 8) := ⟨by decide, rfl⟩
  obtain ⟨n, r, M2, h1, h2, h3⟩ := hs M (xs (x3 + 1).toNatClampNeg) (xs (x3 + 2).toNatClampNeg) (xs (x3 + 3).toNatClampNeg) hM
  refine jl_aload C dL_law_321 rfl 1 rfl ?_
  refine jl_aload C dL_law_322 rfl 0 rfl ?_
  refine jl_iload C dL_law_323 rfl 3 rfl ?_
  refine jl_iconst (v := 1) C dL_law_324 (by decide) ?_
  refine jl_iadd C dL_law_325 ?_
  refine jl_sld C hX hbl hbA dL_law_326 (jl_idx (j := 1) hx3 (by decide) (by omega) hL) ?_
  refine jl_call (As := [_]) (rest := []) C hx rfl dL_law_327 (c_X8_copies (jx_l X) k _ _ _ _ hx _ h1) (k_goodInK g_RL_45) rfl h_X8_copies ⟨rfl, rfl, Nat.le_of_ble_eq_true rfl, Nat.le_of_ble_eq_true rfl⟩ rfl rfl (Nat.le_of_ble_eq_true rfl) ⟨Nat.le_of_ble_eq_true rfl, Nat.le_of_ble_eq_true rfl⟩ ?_
  refine jl_aload C dL_law_330 rfl 2 rfl ?_
  refine jl_aload C dL_law_331 rfl 0 rfl ?_
  refine jl_iload C dL_law_332 rfl 3 rfl ?_
  refine jl_iconst (v := 1) C dL_law_333 (by decide) ?_
  refine jl_iadd C dL_law_334 ?_
  refine jl_sld C hX hbl hbA dL_law_335 (jl_idx (j := 1) hx3 (by decide) (by omega) hL) ?_
  refine jl_call (As := [_]) (rest := [_]) C hm rfl dL_law_336 (c_X9_copies (jx_l X) k _ _ _ _ hm _ _ h2) (k_goodInK g_RL_48) rfl h_X9_copies ⟨rfl, rfl, Nat.le_of_ble_eq_true rfl, Nat.le_of_ble_eq_true rfl⟩ rfl rfl (Nat.le_of_ble_eq_true rfl) ⟨Nat.le_of_ble_eq_true rfl, Nat.le_of_ble_eq_true rfl⟩ ?_
  refine jl_icmp_eq (tgt := 574) C dL_law_339 (by decide) rfl ?_
  exact hk _ h3
set_option maxHeartbeats 4000000 in
set_option maxRecDepth 100000 in
theorem jl_case8 {X : jm_X} {k : jm_C} (C : jm_Cx X k cL_law 4 RL k_tbl) {b L : Nat} {xs : Nat → Int32} (hX : va_X b L xs (jx_s X) (jx_s X).heap) (hbl : b < (jx_s X).heap.size) (hbA : ¬ jx_A X b) {Inv : jm_M → Prop} (hs : jl_S8 Inv) {x3 : Int32} {i : Nat} (hx3 : x3 = nI i) (hi : i + 4 ≤ L) (hL : L ≤ 2048) {M : jm_M} (hM : Inv M) (hk : ∀ M2, Inv M2 → jl_T X k 53 38654 M2 574 [(0, .ref b), (1, .ref (jm_ad k 0)), (2, .ref (jm_ad k 39)), (3, .int x3)] []) : jl_T X k 53 38654 M 344 [(0, .ref b), (1, .ref (jm_ad k 0)), (2, .ref (jm_ad k 39)), (3, .int x3)] [] := by
  have hx : jm_is 0 (3, 7) := ⟨by decide, rfl⟩
  have hm : jm_is 39 (3, 8) := ⟨by decide, rfl⟩
  obtain ⟨n, r, M1, M2, h1, h2, h3⟩ := hs M (xs (x3 + 1).toNatClampNeg) (xs (x3 + 2).toNatClampNeg) (xs (x3 + 3).toNatClampNeg) hM
  refine jl_aload C dL_law_344 rfl 1 rfl ?_
  refine jl_aload C dL_law_345 rfl 0 rfl ?_
  refine jl_iload C dL_law_346 rfl 3 rfl ?_
  refine jl_iconst (v := 1) C dL_law_347 (by decide) ?_
  refine jl_iadd C dL_law_348 ?_
  refine jl_sld C hX hbl hbA dL_law_349 (jl_idx (j := 1) hx3 (by decide) (by omega) hL) ?_
  refine jl_call (As := [_]) (rest := []) C hx rfl dL_law_350 (c_X8_hold (jx_l X) k _ _ _ _ hx _ _ h1) (k_goodInK g_RL_49) rfl h_X8_hold ⟨rfl, rfl, Nat.le_of_ble_eq_true rfl, Nat.le_of_ble_eq_true rfl⟩ rfl rfl (Nat.le_of_ble_eq_true rfl) ⟨Nat.le_of_ble_eq_true rfl, Nat.le_of_ble_eq_true rfl⟩ ?_
  refine jl_aload C dL_law_353 rfl 2 rfl ?_
  refine jl_aload C dL_law_354 rfl 0 rfl ?_
  refine jl_iload C dL_law_355 rfl 3 rfl ?_
  refine jl_iconst (v := 1) C dL_law_356 (by decide) ?_
  refine jl_iadd C dL_law_357 ?_
  refine jl_sld C hX hbl hbA dL_law_358 (jl_idx (j := 1) hx3 (by decide) (by omega) hL) ?_
  refine jl_call (As := [_]) (rest := [_]) C hm rfl dL_law_359 (c_X9_hold (jx_l X) k _ _ _ _ hm _ _ h2) (k_goodInK g_RL_52) rfl h_X9_hold ⟨rfl, rfl, Nat.le_of_ble_eq_true rfl, Nat.le_of_ble_eq_true rfl⟩ rfl rfl (Nat.le_of_ble_eq_true rfl) ⟨Nat.le_of_ble_eq_true rfl, Nat.le_of_ble_eq_true rfl⟩ ?_
  refine jl_icmp_eq (tgt := 574) C dL_law_362 (by decide) rfl ?_
  exact hk _ h3
set_option maxHeartbeats 4000000 in
set_option maxRecDepth 100000 in
theorem jl_case9 {X : jm_X} {k : jm_C} (C : jm_Cx X k cL_law 4 RL k_tbl) {b L : Nat} {xs : Nat → Int32} (hX : va_X b L xs (jx_s X) (jx_s X).heap) (hbl : b < (jx_s X).heap.size) (hbA : ¬ jx_A X b) {Inv : jm_M → Prop} (hs : jl_S9 Inv) {x3 : Int32} {i : Nat} (hx3 : x3 = nI i) (hi : i + 4 ≤ L) (hL : L ≤ 2048) {M : jm_M} (hM : Inv M) (hk : ∀ M2, Inv M2 → jl_T X k 53 38654 M2 574 [(0, .ref b), (1, .ref (jm_ad k 0)), (2, .ref (jm_ad k 39)), (3, .int x3)] []) : jl_T X k 53 38654 M 367 [(0, .ref b), (1, .ref (jm_ad k 0)), (2, .ref (jm_ad k 39)), (3, .int x3)] [] := by
  have hx : jm_is 0 (3, 7) := ⟨by decide, rfl⟩
  have hm : jm_is 39 (3, 8) := ⟨by decide, rfl⟩
  obtain ⟨n, r, M1, M2, h1, h2, h3⟩ := hs M (xs (x3 + 1).toNatClampNeg) (xs (x3 + 2).toNatClampNeg) (xs (x3 + 3).toNatClampNeg) hM
  refine jl_aload C dL_law_367 rfl 1 rfl ?_
  refine jl_call (As := []) (rest := []) C hx rfl dL_law_368 (c_X8_keepDeck (jx_l X) k _ _ _ hx _ _ h1) (k_goodInK g_RL_53) rfl h_X8_keepDeck ⟨rfl, rfl, Nat.le_of_ble_eq_true rfl, Nat.le_of_ble_eq_true rfl⟩ rfl rfl (Nat.le_of_ble_eq_true rfl) ⟨Nat.le_of_ble_eq_true rfl, Nat.le_of_ble_eq_true rfl⟩ ?_
  refine jl_aload C dL_law_371 rfl 2 rfl ?_
  refine jl_call (As := []) (rest := [_]) C hm rfl dL_law_372 (c_X9_keepDeck (jx_l X) k _ _ _ hm _ _ h2) (k_goodInK g_RL_56) rfl h_X9_keepDeck ⟨rfl, rfl, Nat.le_of_ble_eq_true rfl, Nat.le_of_ble_eq_true rfl⟩ rfl rfl (Nat.le_of_ble_eq_true rfl) ⟨Nat.le_of_ble_eq_true rfl, Nat.le_of_ble_eq_true rfl⟩ ?_
  refine jl_icmp_eq (tgt := 574) C dL_law_375 (by decide) rfl ?_
  exact hk _ h3
set_option maxHeartbeats 4000000 in
set_option maxRecDepth 100000 in
theorem jl_case10 {X : jm_X} {k : jm_C} (C : jm_Cx X k cL_law 4 RL k_tbl) {b L : Nat} {xs : Nat → Int32} (hX : va_X b L xs (jx_s X) (jx_s X).heap) (hbl : b < (jx_s X).heap.size) (hbA : ¬ jx_A X b) {Inv : jm_M → Prop} (hs : jl_S10 Inv) {x3 : Int32} {i : Nat} (hx3 : x3 = nI i) (hi : i + 4 ≤ L) (hL : L ≤ 2048) {M : jm_M} (hM : Inv M) (hk : ∀ M2, Inv M2 → jl_T X k 53 38654 M2 574 [(0, .ref b), (1, .ref (jm_ad k 0)), (2, .ref (jm_ad k 39)), (3, .int x3)] []) : jl_T X k 53 38654 M 380 [(0, .ref b), (1, .ref (jm_ad k 0)), (2, .ref (jm_ad k 39)), (3, .int x3)] [] := by
  have hx : jm_is 0 (3, 7) := ⟨by decide, rfl⟩
  have hm : jm_is 39 (3, 8) := ⟨by decide, rfl⟩
  obtain ⟨n, r, M1, M2, h1, h2, h3⟩ := hs M (xs (x3 + 1).toNatClampNeg) (xs (x3 + 2).toNatClampNeg) (xs (x3 + 3).toNatClampNeg) hM
  refine jl_aload C dL_law_380 rfl 1 rfl ?_
  refine jl_aload C dL_law_381 rfl 0 rfl ?_
  refine jl_iload C dL_law_382 rfl 3 rfl ?_
  refine jl_iconst (v := 1) C dL_law_383 (by decide) ?_
  refine jl_iadd C dL_law_384 ?_
  refine jl_sld C hX hbl hbA dL_law_385 (jl_idx (j := 1) hx3 (by decide) (by omega) hL) ?_
  refine jl_call (As := [_]) (rest := []) C hx rfl dL_law_386 (c_X8_addCard (jx_l X) k _ _ _ _ hx _ _ h1) (k_goodInK g_RL_57) rfl h_X8_addCard ⟨rfl, rfl, Nat.le_of_ble_eq_true rfl, Nat.le_of_ble_eq_true rfl⟩ rfl rfl (Nat.le_of_ble_eq_true rfl) ⟨Nat.le_of_ble_eq_true rfl, Nat.le_of_ble_eq_true rfl⟩ ?_
  refine jl_aload C dL_law_389 rfl 2 rfl ?_
  refine jl_aload C dL_law_390 rfl 0 rfl ?_
  refine jl_iload C dL_law_391 rfl 3 rfl ?_
  refine jl_iconst (v := 1) C dL_law_392 (by decide) ?_
  refine jl_iadd C dL_law_393 ?_
  refine jl_sld C hX hbl hbA dL_law_394 (jl_idx (j := 1) hx3 (by decide) (by omega) hL) ?_
  refine jl_call (As := [_]) (rest := [_]) C hm rfl dL_law_395 (c_X9_addCard (jx_l X) k _ _ _ _ hm _ _ h2) (k_goodInK g_RL_60) rfl h_X9_addCard ⟨rfl, rfl, Nat.le_of_ble_eq_true rfl, Nat.le_of_ble_eq_true rfl⟩ rfl rfl (Nat.le_of_ble_eq_true rfl) ⟨Nat.le_of_ble_eq_true rfl, Nat.le_of_ble_eq_true rfl⟩ ?_
  refine jl_icmp_eq (tgt := 574) C dL_law_398 (by decide) rfl ?_
  exact hk _ h3
set_option maxHeartbeats 4000000 in
set_option maxRecDepth 100000 in
theorem jl_case11 {X : jm_X} {k : jm_C} (C : jm_Cx X k cL_law 4 RL k_tbl) {b L : Nat} {xs : Nat → Int32} (hX : va_X b L xs (jx_s X) (jx_s X).heap) (hbl : b < (jx_s X).heap.size) (hbA : ¬ jx_A X b) {Inv : jm_M → Prop} (hs : jl_S11 Inv) {x3 : Int32} {i : Nat} (hx3 : x3 = nI i) (hi : i + 4 ≤ L) (hL : L ≤ 2048) {M : jm_M} (hM : Inv M) (hk : ∀ M2, Inv M2 → jl_T X k 53 38654 M2 574 [(0, .ref b), (1, .ref (jm_ad k 0)), (2, .ref (jm_ad k 39)), (3, .int x3)] []) : jl_T X k 53 38654 M 403 [(0, .ref b), (1, .ref (jm_ad k 0)), (2, .ref (jm_ad k 39)), (3, .int x3)] [] := by
  have hx : jm_is 0 (3, 7) := ⟨by decide, rfl⟩
  have hm : jm_is 39 (3, 8) := ⟨by decide, rfl⟩
  obtain ⟨n, r, M1, M2, h1, h2, h3⟩ := hs M (xs (x3 + 1).toNatClampNeg) (xs (x3 + 2).toNatClampNeg) (xs (x3 + 3).toNatClampNeg) hM
  refine jl_aload C dL_law_403 rfl 1 rfl ?_
  refine jl_aload C dL_law_404 rfl 0 rfl ?_
  refine jl_iload C dL_law_405 rfl 3 rfl ?_
  refine jl_iconst (v := 1) C dL_law_406 (by decide) ?_
  refine jl_iadd C dL_law_407 ?_
  refine jl_sld C hX hbl hbA dL_law_408 (jl_idx (j := 1) hx3 (by decide) (by omega) hL) ?_
  refine jl_call (As := [_]) (rest := []) C hx rfl dL_law_409 (c_X8_dropCard (jx_l X) k _ _ _ _ hx _ _ h1) (k_goodInK g_RL_61) rfl h_X8_dropCard ⟨rfl, rfl, Nat.le_of_ble_eq_true rfl, Nat.le_of_ble_eq_true rfl⟩ rfl rfl (Nat.le_of_ble_eq_true rfl) ⟨Nat.le_of_ble_eq_true rfl, Nat.le_of_ble_eq_true rfl⟩ ?_
  refine jl_aload C dL_law_412 rfl 2 rfl ?_
  refine jl_aload C dL_law_413 rfl 0 rfl ?_
  refine jl_iload C dL_law_414 rfl 3 rfl ?_
  refine jl_iconst (v := 1) C dL_law_415 (by decide) ?_
  refine jl_iadd C dL_law_416 ?_
  refine jl_sld C hX hbl hbA dL_law_417 (jl_idx (j := 1) hx3 (by decide) (by omega) hL) ?_
  refine jl_call (As := [_]) (rest := [_]) C hm rfl dL_law_418 (c_X9_dropCard (jx_l X) k _ _ _ _ hm _ _ h2) (k_goodInK g_RL_64) rfl h_X9_dropCard ⟨rfl, rfl, Nat.le_of_ble_eq_true rfl, Nat.le_of_ble_eq_true rfl⟩ rfl rfl (Nat.le_of_ble_eq_true rfl) ⟨Nat.le_of_ble_eq_true rfl, Nat.le_of_ble_eq_true rfl⟩ ?_
  refine jl_icmp_eq (tgt := 574) C dL_law_421 (by decide) rfl ?_
  exact hk _ h3
set_option maxHeartbeats 4000000 in
set_option maxRecDepth 100000 in
theorem jl_case12 {X : jm_X} {k : jm_C} (C : jm_Cx X k cL_law 4 RL k_tbl) {b L : Nat} {xs : Nat → Int32} (hX : va_X b L xs (jx_s X) (jx_s X).heap) (hbl : b < (jx_s X).heap.size) (hbA : ¬ jx_A X b) {Inv : jm_M → Prop} (hs : jl_S12 Inv) {x3 : Int32} {i : Nat} (hx3 : x3 = nI i) (hi : i + 4 ≤ L) (hL : L ≤ 2048) {M : jm_M} (hM : Inv M) (hk : ∀ M2, Inv M2 → jl_T X k 53 38654 M2 574 [(0, .ref b), (1, .ref (jm_ad k 0)), (2, .ref (jm_ad k 39)), (3, .int x3)] []) : jl_T X k 53 38654 M 426 [(0, .ref b), (1, .ref (jm_ad k 0)), (2, .ref (jm_ad k 39)), (3, .int x3)] [] := by
  have hx : jm_is 0 (3, 7) := ⟨by decide, rfl⟩
  have hm : jm_is 39 (3, 8) := ⟨by decide, rfl⟩
  obtain ⟨n, r, M1, M2, h1, h2, h3⟩ := hs M (xs (x3 + 1).toNatClampNeg) (xs (x3 + 2).toNatClampNeg) (xs (x3 + 3).toNatClampNeg) hM
  refine jl_aload C dL_law_426 rfl 1 rfl ?_
  refine jl_aload C dL_law_427 rfl 0 rfl ?_
  refine jl_iload C dL_law_428 rfl 3 rfl ?_
  refine jl_iconst (v := 1) C dL_law_429 (by decide) ?_
  refine jl_iadd C dL_law_430 ?_
  refine jl_sld C hX hbl hbA dL_law_431 (jl_idx (j := 1) hx3 (by decide) (by omega) hL) ?_
  refine jl_aload C dL_law_432 rfl 0 rfl ?_
  refine jl_iload C dL_law_433 rfl 3 rfl ?_
  refine jl_iconst (v := 2) C dL_law_434 (by decide) ?_
  refine jl_iadd C dL_law_435 ?_
  refine jl_sld C hX hbl hbA dL_law_436 (jl_idx (j := 2) hx3 (by decide) (by omega) hL) ?_
  refine jl_call (As := [_, _]) (rest := []) C hx rfl dL_law_437 (c_X8_card (jx_l X) k _ _ _ _ _ hx _ _ h1) (k_goodInK g_RL_65) rfl h_X8_card ⟨rfl, rfl, Nat.le_of_ble_eq_true rfl, Nat.le_of_ble_eq_true rfl⟩ rfl rfl (Nat.le_of_ble_eq_true rfl) ⟨Nat.le_of_ble_eq_true rfl, Nat.le_of_ble_eq_true rfl⟩ ?_
  refine jl_aload C dL_law_440 rfl 2 rfl ?_
  refine jl_aload C dL_law_441 rfl 0 rfl ?_
  refine jl_iload C dL_law_442 rfl 3 rfl ?_
  refine jl_iconst (v := 1) C dL_law_443 (by decide) ?_
  refine jl_iadd C dL_law_444 ?_
  refine jl_sld C hX hbl hbA dL_law_445 (jl_idx (j := 1) hx3 (by decide) (by omega) hL) ?_
  refine jl_aload C dL_law_446 rfl 0 rfl ?_
  refine jl_iload C dL_law_447 rfl 3 rfl ?_
  refine jl_iconst (v := 2) C dL_law_448 (by decide) ?_
  refine jl_iadd C dL_law_449 ?_
  refine jl_sld C hX hbl hbA dL_law_450 (jl_idx (j := 2) hx3 (by decide) (by omega) hL) ?_
  refine jl_call (As := [_, _]) (rest := [_]) C hm rfl dL_law_451 (c_X9_card (jx_l X) k _ _ _ _ _ hm _ _ h2) (k_goodInK g_RL_68) rfl h_X9_card ⟨rfl, rfl, Nat.le_of_ble_eq_true rfl, Nat.le_of_ble_eq_true rfl⟩ rfl rfl (Nat.le_of_ble_eq_true rfl) ⟨Nat.le_of_ble_eq_true rfl, Nat.le_of_ble_eq_true rfl⟩ ?_
  refine jl_icmp_eq (tgt := 574) C dL_law_454 (by decide) rfl ?_
  exact hk _ h3
set_option maxHeartbeats 4000000 in
set_option maxRecDepth 100000 in
theorem jl_case13 {X : jm_X} {k : jm_C} (C : jm_Cx X k cL_law 4 RL k_tbl) {b L : Nat} {xs : Nat → Int32} (hX : va_X b L xs (jx_s X) (jx_s X).heap) (hbl : b < (jx_s X).heap.size) (hbA : ¬ jx_A X b) {Inv : jm_M → Prop} (hs : jl_S13 Inv) {x3 : Int32} {i : Nat} (hx3 : x3 = nI i) (hi : i + 4 ≤ L) (hL : L ≤ 2048) {M : jm_M} (hM : Inv M) (hk : ∀ M2, Inv M2 → jl_T X k 53 38654 M2 574 [(0, .ref b), (1, .ref (jm_ad k 0)), (2, .ref (jm_ad k 39)), (3, .int x3)] []) : jl_T X k 53 38654 M 459 [(0, .ref b), (1, .ref (jm_ad k 0)), (2, .ref (jm_ad k 39)), (3, .int x3)] [] := by
  have hx : jm_is 0 (3, 7) := ⟨by decide, rfl⟩
  have hm : jm_is 39 (3, 8) := ⟨by decide, rfl⟩
  obtain ⟨n, r, M1, M2, h1, h2, h3⟩ := hs M (xs (x3 + 1).toNatClampNeg) (xs (x3 + 2).toNatClampNeg) (xs (x3 + 3).toNatClampNeg) hM
  refine jl_aload C dL_law_459 rfl 1 rfl ?_
  refine jl_aload C dL_law_460 rfl 0 rfl ?_
  refine jl_iload C dL_law_461 rfl 3 rfl ?_
  refine jl_iconst (v := 1) C dL_law_462 (by decide) ?_
  refine jl_iadd C dL_law_463 ?_
  refine jl_sld C hX hbl hbA dL_law_464 (jl_idx (j := 1) hx3 (by decide) (by omega) hL) ?_
  refine jl_call (As := [_]) (rest := []) C hx rfl dL_law_465 (c_X8_deck (jx_l X) k _ _ _ _ hx _ _ h1) (k_goodInK g_RL_69) rfl h_X8_deck ⟨rfl, rfl, Nat.le_of_ble_eq_true rfl, Nat.le_of_ble_eq_true rfl⟩ rfl rfl (Nat.le_of_ble_eq_true rfl) ⟨Nat.le_of_ble_eq_true rfl, Nat.le_of_ble_eq_true rfl⟩ ?_
  refine jl_aload C dL_law_468 rfl 2 rfl ?_
  refine jl_aload C dL_law_469 rfl 0 rfl ?_
  refine jl_iload C dL_law_470 rfl 3 rfl ?_
  refine jl_iconst (v := 1) C dL_law_471 (by decide) ?_
  refine jl_iadd C dL_law_472 ?_
  refine jl_sld C hX hbl hbA dL_law_473 (jl_idx (j := 1) hx3 (by decide) (by omega) hL) ?_
  refine jl_call (As := [_]) (rest := [_]) C hm rfl dL_law_474 (c_X9_deck (jx_l X) k _ _ _ _ hm _ _ h2) (k_goodInK g_RL_72) rfl h_X9_deck ⟨rfl, rfl, Nat.le_of_ble_eq_true rfl, Nat.le_of_ble_eq_true rfl⟩ rfl rfl (Nat.le_of_ble_eq_true rfl) ⟨Nat.le_of_ble_eq_true rfl, Nat.le_of_ble_eq_true rfl⟩ ?_
  refine jl_icmp_eq (tgt := 574) C dL_law_477 (by decide) rfl ?_
  exact hk _ h3
set_option maxHeartbeats 4000000 in
set_option maxRecDepth 100000 in
theorem jl_case14 {X : jm_X} {k : jm_C} (C : jm_Cx X k cL_law 4 RL k_tbl) {b L : Nat} {xs : Nat → Int32} (hX : va_X b L xs (jx_s X) (jx_s X).heap) (hbl : b < (jx_s X).heap.size) (hbA : ¬ jx_A X b) {Inv : jm_M → Prop} (hs : jl_S14 Inv) {x3 : Int32} {i : Nat} (hx3 : x3 = nI i) (hi : i + 4 ≤ L) (hL : L ≤ 2048) {M : jm_M} (hM : Inv M) (hk : ∀ M2, Inv M2 → jl_T X k 53 38654 M2 574 [(0, .ref b), (1, .ref (jm_ad k 0)), (2, .ref (jm_ad k 39)), (3, .int x3)] []) : jl_T X k 53 38654 M 482 [(0, .ref b), (1, .ref (jm_ad k 0)), (2, .ref (jm_ad k 39)), (3, .int x3)] [] := by
  have hx : jm_is 0 (3, 7) := ⟨by decide, rfl⟩
  have hm : jm_is 39 (3, 8) := ⟨by decide, rfl⟩
  obtain ⟨n, r, M1, M2, h1, h2, h3⟩ := hs M (xs (x3 + 1).toNatClampNeg) (xs (x3 + 2).toNatClampNeg) (xs (x3 + 3).toNatClampNeg) hM
  refine jl_aload C dL_law_482 rfl 1 rfl ?_
  refine jl_aload C dL_law_483 rfl 0 rfl ?_
  refine jl_iload C dL_law_484 rfl 3 rfl ?_
  refine jl_iconst (v := 1) C dL_law_485 (by decide) ?_
  refine jl_iadd C dL_law_486 ?_
  refine jl_sld C hX hbl hbA dL_law_487 (jl_idx (j := 1) hx3 (by decide) (by omega) hL) ?_
  refine jl_call (As := [_]) (rest := []) C hx rfl dL_law_488 (c_X8_counted (jx_l X) k _ _ _ _ hx _ _ h1) (k_goodInK g_RL_73) rfl h_X8_counted ⟨rfl, rfl, Nat.le_of_ble_eq_true rfl, Nat.le_of_ble_eq_true rfl⟩ rfl rfl (Nat.le_of_ble_eq_true rfl) ⟨Nat.le_of_ble_eq_true rfl, Nat.le_of_ble_eq_true rfl⟩ ?_
  refine jl_aload C dL_law_491 rfl 2 rfl ?_
  refine jl_aload C dL_law_492 rfl 0 rfl ?_
  refine jl_iload C dL_law_493 rfl 3 rfl ?_
  refine jl_iconst (v := 1) C dL_law_494 (by decide) ?_
  refine jl_iadd C dL_law_495 ?_
  refine jl_sld C hX hbl hbA dL_law_496 (jl_idx (j := 1) hx3 (by decide) (by omega) hL) ?_
  refine jl_call (As := [_]) (rest := [_]) C hm rfl dL_law_497 (c_X9_counted (jx_l X) k _ _ _ _ hm _ _ h2) (k_goodInK g_RL_76) rfl h_X9_counted ⟨rfl, rfl, Nat.le_of_ble_eq_true rfl, Nat.le_of_ble_eq_true rfl⟩ rfl rfl (Nat.le_of_ble_eq_true rfl) ⟨Nat.le_of_ble_eq_true rfl, Nat.le_of_ble_eq_true rfl⟩ ?_
  refine jl_icmp_eq (tgt := 574) C dL_law_500 (by decide) rfl ?_
  exact hk _ h3
set_option maxHeartbeats 4000000 in
set_option maxRecDepth 100000 in
theorem jl_case15 {X : jm_X} {k : jm_C} (C : jm_Cx X k cL_law 4 RL k_tbl) {b L : Nat} {xs : Nat → Int32} (hX : va_X b L xs (jx_s X) (jx_s X).heap) (hbl : b < (jx_s X).heap.size) (hbA : ¬ jx_A X b) {Inv : jm_M → Prop} (hs : jl_S15 Inv) {x3 : Int32} {i : Nat} (hx3 : x3 = nI i) (hi : i + 4 ≤ L) (hL : L ≤ 2048) {M : jm_M} (hM : Inv M) (hk : ∀ M2, Inv M2 → jl_T X k 53 38654 M2 574 [(0, .ref b), (1, .ref (jm_ad k 0)), (2, .ref (jm_ad k 39)), (3, .int x3)] []) : jl_T X k 53 38654 M 505 [(0, .ref b), (1, .ref (jm_ad k 0)), (2, .ref (jm_ad k 39)), (3, .int x3)] [] := by
  have hx : jm_is 0 (3, 7) := ⟨by decide, rfl⟩
  have hm : jm_is 39 (3, 8) := ⟨by decide, rfl⟩
  obtain ⟨n, r, M1, M2, h1, h2, h3⟩ := hs M (xs (x3 + 1).toNatClampNeg) (xs (x3 + 2).toNatClampNeg) (xs (x3 + 3).toNatClampNeg) hM
  refine jl_aload C dL_law_505 rfl 1 rfl ?_
  refine jl_aload C dL_law_506 rfl 0 rfl ?_
  refine jl_iload C dL_law_507 rfl 3 rfl ?_
  refine jl_iconst (v := 1) C dL_law_508 (by decide) ?_
  refine jl_iadd C dL_law_509 ?_
  refine jl_sld C hX hbl hbA dL_law_510 (jl_idx (j := 1) hx3 (by decide) (by omega) hL) ?_
  refine jl_call (As := [_]) (rest := []) C hx rfl dL_law_511 (c_X8_answer (jx_l X) k _ _ _ _ hx _ _ h1) (k_goodInK g_RL_77) rfl h_X8_answer ⟨rfl, rfl, Nat.le_of_ble_eq_true rfl, Nat.le_of_ble_eq_true rfl⟩ rfl rfl (Nat.le_of_ble_eq_true rfl) ⟨Nat.le_of_ble_eq_true rfl, Nat.le_of_ble_eq_true rfl⟩ ?_
  refine jl_aload C dL_law_514 rfl 2 rfl ?_
  refine jl_aload C dL_law_515 rfl 0 rfl ?_
  refine jl_iload C dL_law_516 rfl 3 rfl ?_
  refine jl_iconst (v := 1) C dL_law_517 (by decide) ?_
  refine jl_iadd C dL_law_518 ?_
  refine jl_sld C hX hbl hbA dL_law_519 (jl_idx (j := 1) hx3 (by decide) (by omega) hL) ?_
  refine jl_call (As := [_]) (rest := [_]) C hm rfl dL_law_520 (c_X9_answer (jx_l X) k _ _ _ _ hm _ _ h2) (k_goodInK g_RL_80) rfl h_X9_answer ⟨rfl, rfl, Nat.le_of_ble_eq_true rfl, Nat.le_of_ble_eq_true rfl⟩ rfl rfl (Nat.le_of_ble_eq_true rfl) ⟨Nat.le_of_ble_eq_true rfl, Nat.le_of_ble_eq_true rfl⟩ ?_
  refine jl_icmp_eq (tgt := 574) C dL_law_523 (by decide) rfl ?_
  exact hk _ h3
set_option maxHeartbeats 4000000 in
set_option maxRecDepth 100000 in
theorem jl_case16 {X : jm_X} {k : jm_C} (C : jm_Cx X k cL_law 4 RL k_tbl) {b L : Nat} {xs : Nat → Int32} (hX : va_X b L xs (jx_s X) (jx_s X).heap) (hbl : b < (jx_s X).heap.size) (hbA : ¬ jx_A X b) {Inv : jm_M → Prop} (hs : jl_S16 Inv) {x3 : Int32} {i : Nat} (hx3 : x3 = nI i) (hi : i + 4 ≤ L) (hL : L ≤ 2048) {M : jm_M} (hM : Inv M) (hk : ∀ M2, Inv M2 → jl_T X k 53 38654 M2 574 [(0, .ref b), (1, .ref (jm_ad k 0)), (2, .ref (jm_ad k 39)), (3, .int x3)] []) : jl_T X k 53 38654 M 528 [(0, .ref b), (1, .ref (jm_ad k 0)), (2, .ref (jm_ad k 39)), (3, .int x3)] [] := by
  have hx : jm_is 0 (3, 7) := ⟨by decide, rfl⟩
  have hm : jm_is 39 (3, 8) := ⟨by decide, rfl⟩
  obtain ⟨n, r, M1, M2, h1, h2, h3⟩ := hs M (xs (x3 + 1).toNatClampNeg) (xs (x3 + 2).toNatClampNeg) (xs (x3 + 3).toNatClampNeg) hM
  refine jl_aload C dL_law_528 rfl 1 rfl ?_
  refine jl_aload C dL_law_529 rfl 0 rfl ?_
  refine jl_iload C dL_law_530 rfl 3 rfl ?_
  refine jl_iconst (v := 1) C dL_law_531 (by decide) ?_
  refine jl_iadd C dL_law_532 ?_
  refine jl_sld C hX hbl hbA dL_law_533 (jl_idx (j := 1) hx3 (by decide) (by omega) hL) ?_
  refine jl_call (As := [_]) (rest := []) C hx rfl dL_law_534 (c_X8_missing (jx_l X) k _ _ _ _ hx _ _ h1) (k_goodInK g_RL_81) rfl h_X8_missing ⟨rfl, rfl, Nat.le_of_ble_eq_true rfl, Nat.le_of_ble_eq_true rfl⟩ rfl rfl (Nat.le_of_ble_eq_true rfl) ⟨Nat.le_of_ble_eq_true rfl, Nat.le_of_ble_eq_true rfl⟩ ?_
  refine jl_aload C dL_law_537 rfl 2 rfl ?_
  refine jl_aload C dL_law_538 rfl 0 rfl ?_
  refine jl_iload C dL_law_539 rfl 3 rfl ?_
  refine jl_iconst (v := 1) C dL_law_540 (by decide) ?_
  refine jl_iadd C dL_law_541 ?_
  refine jl_sld C hX hbl hbA dL_law_542 (jl_idx (j := 1) hx3 (by decide) (by omega) hL) ?_
  refine jl_call (As := [_]) (rest := [_]) C hm rfl dL_law_543 (c_X9_missing (jx_l X) k _ _ _ _ hm _ _ h2) (k_goodInK g_RL_84) rfl h_X9_missing ⟨rfl, rfl, Nat.le_of_ble_eq_true rfl, Nat.le_of_ble_eq_true rfl⟩ rfl rfl (Nat.le_of_ble_eq_true rfl) ⟨Nat.le_of_ble_eq_true rfl, Nat.le_of_ble_eq_true rfl⟩ ?_
  refine jl_icmp_eq (tgt := 574) C dL_law_546 (by decide) rfl ?_
  exact hk _ h3
set_option maxHeartbeats 4000000 in
set_option maxRecDepth 100000 in
theorem jl_case17 {X : jm_X} {k : jm_C} (C : jm_Cx X k cL_law 4 RL k_tbl) {b L : Nat} {xs : Nat → Int32} (hX : va_X b L xs (jx_s X) (jx_s X).heap) (hbl : b < (jx_s X).heap.size) (hbA : ¬ jx_A X b) {Inv : jm_M → Prop} (hs : jl_S17 Inv) {x3 : Int32} {i : Nat} (hx3 : x3 = nI i) (hi : i + 4 ≤ L) (hL : L ≤ 2048) {M : jm_M} (hM : Inv M) (hk : ∀ M2, Inv M2 → jl_T X k 53 38654 M2 574 [(0, .ref b), (1, .ref (jm_ad k 0)), (2, .ref (jm_ad k 39)), (3, .int x3)] []) : jl_T X k 53 38654 M 551 [(0, .ref b), (1, .ref (jm_ad k 0)), (2, .ref (jm_ad k 39)), (3, .int x3)] [] := by
  have hx : jm_is 0 (3, 7) := ⟨by decide, rfl⟩
  have hm : jm_is 39 (3, 8) := ⟨by decide, rfl⟩
  obtain ⟨n, r, M1, M2, h1, h2, h3⟩ := hs M (xs (x3 + 1).toNatClampNeg) (xs (x3 + 2).toNatClampNeg) (xs (x3 + 3).toNatClampNeg) hM
  refine jl_aload C dL_law_551 rfl 1 rfl ?_
  refine jl_aload C dL_law_552 rfl 0 rfl ?_
  refine jl_iload C dL_law_553 rfl 3 rfl ?_
  refine jl_iconst (v := 1) C dL_law_554 (by decide) ?_
  refine jl_iadd C dL_law_555 ?_
  refine jl_sld C hX hbl hbA dL_law_556 (jl_idx (j := 1) hx3 (by decide) (by omega) hL) ?_
  refine jl_call (As := [_]) (rest := []) C hx rfl dL_law_557 (c_X8_accept (jx_l X) k _ _ _ _ hx _ _ h1) (k_goodInK g_RL_85) rfl h_X8_accept ⟨rfl, rfl, Nat.le_of_ble_eq_true rfl, Nat.le_of_ble_eq_true rfl⟩ rfl rfl (Nat.le_of_ble_eq_true rfl) ⟨Nat.le_of_ble_eq_true rfl, Nat.le_of_ble_eq_true rfl⟩ ?_
  refine jl_aload C dL_law_560 rfl 2 rfl ?_
  refine jl_aload C dL_law_561 rfl 0 rfl ?_
  refine jl_iload C dL_law_562 rfl 3 rfl ?_
  refine jl_iconst (v := 1) C dL_law_563 (by decide) ?_
  refine jl_iadd C dL_law_564 ?_
  refine jl_sld C hX hbl hbA dL_law_565 (jl_idx (j := 1) hx3 (by decide) (by omega) hL) ?_
  refine jl_call (As := [_]) (rest := [_]) C hm rfl dL_law_566 (c_X9_accept (jx_l X) k _ _ _ _ hm _ _ h2) (k_goodInK g_RL_88) rfl h_X9_accept ⟨rfl, rfl, Nat.le_of_ble_eq_true rfl, Nat.le_of_ble_eq_true rfl⟩ rfl rfl (Nat.le_of_ble_eq_true rfl) ⟨Nat.le_of_ble_eq_true rfl, Nat.le_of_ble_eq_true rfl⟩ ?_
  refine jl_icmp_eq (tgt := 574) C dL_law_569 (by decide) rfl ?_
  exact hk _ h3
set_option maxHeartbeats 4000000 in
set_option maxRecDepth 100000 in
theorem jl_loop {X : jm_X} {k : jm_C} (C : jm_Cx X k cL_law 4 RL k_tbl) {b L : Nat} {xs : Nat → Int32} (hX : va_X b L xs (jx_s X) (jx_s X).heap) (hbl : b < (jx_s X).heap.size) (hbA : ¬ jx_A X b) {Inv : jm_M → Prop} (hs : jl_Steps Inv) (hL : L ≤ 2048) (hend : ∀ (M : jm_M) (x3 : Int32), jl_T X k 53 38654 M 580 [(0, .ref b), (1, .ref (jm_ad k 0)), (2, .ref (jm_ad k 39)), (3, .int x3)] []) : ∀ (n i : Nat) (x3 : Int32) (M : jm_M), i ≤ L + 4 → L + 8 ≤ i + n → x3 = nI i → Inv M → jl_T X k 53 38654 M 18 [(0, .ref b), (1, .ref (jm_ad k 0)), (2, .ref (jm_ad k 39)), (3, .int x3)] [] := by
  intro n
  induction n with
  | zero =>
    intro i x3 M h1 h2
    exact absurd h2 (by omega)
  | succ n ih =>
    intro i x3 M hi hin hx3 hM
    refine jl_iload C dL_law_18 rfl 3 rfl ?_
    refine jl_aload C dL_law_19 rfl 0 rfl ?_
    refine jl_slen C hX hbl hbA dL_law_20 ?_
    refine jl_iconst (v := 4) C dL_law_21 (by decide) ?_
    refine jl_isub C dL_law_22 ?_
    refine jl_icmp_gt (tgt := 580) C dL_law_23 (by decide) (fun c23 => ?_) (fun c23 => ?_)
    · exact hend M x3
    have hi4 : i + 4 ≤ L := jl_cond hx3 hi hL c23
    refine jl_aload C dL_law_26 rfl 0 rfl ?_
    refine jl_iload C dL_law_27 rfl 3 rfl ?_
    refine jl_sld C hX hbl hbA dL_law_28 (jl_idx0 hx3 (by omega) hL) ?_
    refine jl_bipush (v := 31) C dL_law_29 (by decide) ?_
    refine jl_iand C dL_law_31 ?_
    have hk : ∀ M2, Inv M2 → jl_T X k 53 38654 M2 574 [(0, .ref b), (1, .ref (jm_ad k 0)), (2, .ref (jm_ad k 39)), (3, .int x3)] [] := by
      intro M2 hM2
      refine jl_iinc (v := 4) (lv' := [(3, _), (0, _), (1, _), (2, _)]) C dL_law_574 3 rfl (by decide) (by decide) rfl ?_
      refine jl_goto (tgt := 18) C dL_law_577 (by decide) ?_
      exact jl_sub [1, 2, 3, 0] rfl (ih (i + 4) (x3 + 4) M2 (by omega) (by omega) (by rw [hx3]; exact nI_add i 4) hM2)
    generalize xs x3.toNatClampNeg &&& 31 = z
    by_cases c0 : z = 0
    · exact jl_tblIn (v := 0) (tgt := 120) C dL_law_32 c0 (by decide) (by decide) rfl (by decide) (jl_case0 C hX hbl hbA hs.1 hx3 hi4 hL hM hk)
    by_cases c1 : z = 1
    · exact jl_tblIn (v := 1) (tgt := 143) C dL_law_32 c1 (by decide) (by decide) rfl (by decide) (jl_case1 C hX hbl hbA hs.2.1 hx3 hi4 hL hM hk)
    by_cases c2 : z = 2
    · exact jl_tblIn (v := 2) (tgt := 186) C dL_law_32 c2 (by decide) (by decide) rfl (by decide) (jl_case2 C hX hbl hbA hs.2.2.1 hx3 hi4 hL hM hk)
    by_cases c3 : z = 3
    · exact jl_tblIn (v := 3) (tgt := 209) C dL_law_32 c3 (by decide) (by decide) rfl (by decide) (jl_case3 C hX hbl hbA hs.2.2.2.1 hx3 hi4 hL hM hk)
    by_cases c4 : z = 4
    · exact jl_tblIn (v := 4) (tgt := 222) C dL_law_32 c4 (by decide) (by decide) rfl (by decide) (jl_case4 C hX hbl hbA hs.2.2.2.2.1 hx3 hi4 hL hM hk)
    by_cases c5 : z = 5
    · exact jl_tblIn (v := 5) (tgt := 245) C dL_law_32 c5 (by decide) (by decide) rfl (by decide) (jl_case5 C hX hbl hbA hs.2.2.2.2.2.1 hx3 hi4 hL hM hk)
    by_cases c6 : z = 6
    · exact jl_tblIn (v := 6) (tgt := 278) C dL_law_32 c6 (by decide) (by decide) rfl (by decide) (jl_case6 C hX hbl hbA hs.2.2.2.2.2.2.1 hx3 hi4 hL hM hk)
    by_cases c7 : z = 7
    · exact jl_tblIn (v := 7) (tgt := 321) C dL_law_32 c7 (by decide) (by decide) rfl (by decide) (jl_case7 C hX hbl hbA hs.2.2.2.2.2.2.2.1 hx3 hi4 hL hM hk)
    by_cases c8 : z = 8
    · exact jl_tblIn (v := 8) (tgt := 344) C dL_law_32 c8 (by decide) (by decide) rfl (by decide) (jl_case8 C hX hbl hbA hs.2.2.2.2.2.2.2.2.1 hx3 hi4 hL hM hk)
    by_cases c9 : z = 9
    · exact jl_tblIn (v := 9) (tgt := 367) C dL_law_32 c9 (by decide) (by decide) rfl (by decide) (jl_case9 C hX hbl hbA hs.2.2.2.2.2.2.2.2.2.1 hx3 hi4 hL hM hk)
    by_cases c10 : z = 10
    · exact jl_tblIn (v := 10) (tgt := 380) C dL_law_32 c10 (by decide) (by decide) rfl (by decide) (jl_case10 C hX hbl hbA hs.2.2.2.2.2.2.2.2.2.2.1 hx3 hi4 hL hM hk)
    by_cases c11 : z = 11
    · exact jl_tblIn (v := 11) (tgt := 403) C dL_law_32 c11 (by decide) (by decide) rfl (by decide) (jl_case11 C hX hbl hbA hs.2.2.2.2.2.2.2.2.2.2.2.1 hx3 hi4 hL hM hk)
    by_cases c12 : z = 12
    · exact jl_tblIn (v := 12) (tgt := 426) C dL_law_32 c12 (by decide) (by decide) rfl (by decide) (jl_case12 C hX hbl hbA hs.2.2.2.2.2.2.2.2.2.2.2.2.1 hx3 hi4 hL hM hk)
    by_cases c13 : z = 13
    · exact jl_tblIn (v := 13) (tgt := 459) C dL_law_32 c13 (by decide) (by decide) rfl (by decide) (jl_case13 C hX hbl hbA hs.2.2.2.2.2.2.2.2.2.2.2.2.2.1 hx3 hi4 hL hM hk)
    by_cases c14 : z = 14
    · exact jl_tblIn (v := 14) (tgt := 482) C dL_law_32 c14 (by decide) (by decide) rfl (by decide) (jl_case14 C hX hbl hbA hs.2.2.2.2.2.2.2.2.2.2.2.2.2.2.1 hx3 hi4 hL hM hk)
    by_cases c15 : z = 15
    · exact jl_tblIn (v := 15) (tgt := 505) C dL_law_32 c15 (by decide) (by decide) rfl (by decide) (jl_case15 C hX hbl hbA hs.2.2.2.2.2.2.2.2.2.2.2.2.2.2.2.1 hx3 hi4 hL hM hk)
    by_cases c16 : z = 16
    · exact jl_tblIn (v := 16) (tgt := 528) C dL_law_32 c16 (by decide) (by decide) rfl (by decide) (jl_case16 C hX hbl hbA hs.2.2.2.2.2.2.2.2.2.2.2.2.2.2.2.2.1 hx3 hi4 hL hM hk)
    by_cases c17 : z = 17
    · exact jl_tblIn (v := 17) (tgt := 551) C dL_law_32 c17 (by decide) (by decide) rfl (by decide) (jl_case17 C hX hbl hbA hs.2.2.2.2.2.2.2.2.2.2.2.2.2.2.2.2.2 hx3 hi4 hL hM hk)
    exact jl_tblOut (tgt := 574) C dL_law_32 (by have a0 := jm_nei 0 c0; simp at a0; have a1 := jm_nei 1 c1; simp at a1; have a2 := jm_nei 2 c2; simp at a2; have a3 := jm_nei 3 c3; simp at a3; have a4 := jm_nei 4 c4; simp at a4; have a5 := jm_nei 5 c5; simp at a5; have a6 := jm_nei 6 c6; simp at a6; have a7 := jm_nei 7 c7; simp at a7; have a8 := jm_nei 8 c8; simp at a8; have a9 := jm_nei 9 c9; simp at a9; have a10 := jm_nei 10 c10; simp at a10; have a11 := jm_nei 11 c11; simp at a11; have a12 := jm_nei 12 c12; simp at a12; have a13 := jm_nei 13 c13; simp at a13; have a14 := jm_nei 14 c14; simp at a14; have a15 := jm_nei 15 c15; simp at a15; have a16 := jm_nei 16 c16; simp at a16; have a17 := jm_nei 17 c17; simp at a17; omega) (by decide) (hk M hM)
