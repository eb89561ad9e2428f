/-! answer, missing, accept -/
theorem x3_every {M : jm_M} {R : Nat → Nat} {H : Nat → Nat → Nat} {k : Nat} (h : XI M R H k) : X3_everyCard 3 M = nI (2 ^ R 3 - 1) := by
  have o5 := h.1.2.2.2.2.1
  have o6 := h.1.2.2.2.2.2.1
  unfold X3_everyCard
  rw [h.d.1, ni_p2 (by omega), ni_sub1 (Nat.two_pow_pos _)]
theorem bits_pos {s m : Nat} (h0 : 0 < s) (hs : s < 2 ^ m) : 0 < fb_ct (fun i => s.testBit i) m := by
  rcases Nat.eq_zero_or_pos (fb_ct (fun i => s.testBit i) m) with q | q
  · exfalso
    have : s = 0 := Nat.eq_of_testBit_eq (fun i => by
      rw [Nat.zero_testBit]
      by_cases c : i < m
      · exact fb_ct_zero.mp q i c
      · exact Nat.testBit_lt_two_pow (Nat.lt_of_lt_of_le hs (Nat.pow_le_pow_right (by decide) (by omega))))
    omega
  · exact q
theorem all_pos {m : Nat} (h : 0 < m) : 0 < fb_ct (fun i => (2 ^ m - 1).testBit i) m := by
  have h1 : 2 ^ 1 ≤ 2 ^ m := Nat.pow_le_pow_right (by decide) h
  exact bits_pos (by omega) (by omega)
theorem XI.fd {M M' : jm_M} {R : Nat → Nat} {H : Nat → Nat → Nat} {k : Nat} (h : XI M R H k) (e : jp_eq fdE M M') (hc : cxm M') : XI M' R H k := h.of e (by decide) hc
theorem ni_n9 {g : Nat} (h : g < 2 ^ 31) : ¬ nI g = (-9 : Int32) := fun q => by
  have h9 := congrArg Int32.toInt q
  rw [nI_toInt h] at h9
  have : (-9 : Int32).toInt = -9 := by decide
  omega
theorem nge0 {x : Int32} (h : ¬ (0 : Int32) ≤ x) : x < 0 := fa_of_nle h
/-- the answers to all held cards -/
noncomputable def aC (R : Nat → Nat) : Nat := fb_ct (anP (R 2) (acn (sD R) (R 3) (2 ^ R 3 - 1))) (2 ^ qg_tri (R 2))
noncomputable def aP (R : Nat → Nat) (x : Nat) : Bool := anP (R 2) (acn (sD R) (R 3) (2 ^ R 3 - 1)) x
theorem x_all {M : jm_M} {R : Nat → Nat} {H : Nat → Nat → Nat} {k : Nat} (h : XI M R H k) (hm : 0 < R 3) : ∃ M' Z, jp_eq fdE M M' ∧ XI M' R H k ∧ zk M' (aC R) Z ∧ (∀ i x, i < aC R → aP R x = true → fb_ct (aP R) x = i → Z i = x) ∧ aC R ≤ 32 ∧ M'.1 32 1 = nI (R 2) ∧ jp_E (fun f => X0_find f 29 3 (X3_everyCard 3 M) 15 M = some (nI (aC R), M')) := by
  have o5 := h.1.2.2.2.2.1
  have o6 := h.1.2.2.2.2.2.1
  obtain ⟨M', Z, e1, e2, e3, e4, e5, e6, e7⟩ := x0_find h (p31 (show R 3 ≤ 6 by omega)) (all_pos hm)
  refine ⟨M', Z, e1, h.fd e1 e2, e3, fun i x hi hx hq => ?_, e5, e6, ?_⟩
  · obtain ⟨_, w2, w3⟩ := e4 i hi
    exact fb_ct_kth_one w2 hx (by rw [w3]; exact hq.symm)
  · rw [x3_every h]; exact e7
theorem MI.tb {M M' : jm_M} (e : jp_eq tbE M M') : fM M M' := fM.of e (by decide)
theorem s_15 : jl_S15 Inv := fun M a1 _ _ ⟨R, H, k, h1, h2⟩ => by
  have o5 := h1.1.2.2.2.2.1
  have o6 := h1.1.2.2.2.2.2.1
  by_cases c : (0 : Int32) ≤ a1
  · by_cases cm : R 3 = 0
    · refine cstep (F := fun f M => X8_answer f 0 a1 M) (G := fun f M => X9_answer f 39 a1 M) (r := -2) (CX.no (fun M hM => jp_E.all (fun f => ?_))) (CM.no (fun M hM => jp_E.all (fun f => ?_))) h1 h2
      · unfold X8_answer X3_size
        rw [if_pos c, show jm_rf 0 1 = 3 from rfl, hM.d.1, cm, if_pos (show nI 0 = (0 : Int32) from rfl)]
      · unfold X9_answer
        rw [if_pos c, show jm_rf 39 0 = 40 from rfl, hM.w3, Option.bind_some, cm, if_pos (show nI 0 = (0 : Int32) from rfl)]
    · obtain ⟨kk, hk, rfl⟩ := nI_of (fun q => (fa_of_lt q).2.1 c)
      have hm0 : ¬ nI (R 3) = (0 : Int32) := nI_ne0 (by omega) (by omega)
      by_cases cz : kk < aC R
      · obtain ⟨x, hx, hxp, hxk⟩ := fb_ct_kth cz
        refine cstep (F := fun f M => X8_answer f 0 (nI kk) M) (G := fun f M => X9_answer f 39 (nI kk) M) (r := nI x) (R' := R) (H' := H) (k' := k) (fun M hM => ?_) (fun M hM => ?_) h1 h2
        · obtain ⟨M', Z, e1, e2, e3, e4, e5, _, e7⟩ := x_all hM (by omega)
          refine ⟨M', fX.of e1 (by decide), e2, e7.imp (fun f r => ?_)⟩
          show X8_answer f 0 (nI kk) M = _
          unfold X8_answer X3_size X0_codeAt
          rw [if_pos c, show jm_rf 0 1 = 3 from rfl, show jm_rf 0 6 = 29 from rfl, show jm_rf 0 3 = 15 from rfl, hM.d.1, if_neg hm0, r, Option.bind_some]
          dsimp only
          rw [if_neg (nI_ge cz (by omega)), if_neg (nI_pos hk), e3.1, if_neg (nI_ge cz (by omega)), show jm_rf 29 3 = 36 from rfl, jp_ga (by omega) (by decide), e3.2 kk cz, e4 kk x cz hxp hxk]; rfl
        · obtain ⟨M', e1, e2, e3, e4, _⟩ := m_ansAt hM hk
          obtain ⟨y, y1, y2, y3, y4, y5⟩ := e4 cz
          have hyx : y = x := fb_ct_kth_one y2 hxp (by rw [y3]; exact hxk.symm)
          refine ⟨M', MI.tb e1, e3, y5.imp (fun f r => ?_)⟩
          show X9_answer f 39 (nI kk) M = _
          unfold X9_answer
          rw [if_pos c, show jm_rf 39 0 = 40 from rfl, hM.w3, Option.bind_some, if_neg hm0, r, Option.bind_some]
          dsimp only
          rw [if_neg (ni_n9 (by omega)), show jm_rf 39 11 = 49 from rfl, jp_ga (by omega) (by decide), (e2.2 y y1 (anP_sub y y2)).1, hyx]; rfl
      · refine cstep (F := fun f M => X8_answer f 0 (nI kk) M) (G := fun f M => X9_answer f 39 (nI kk) M) (r := -9) (R' := R) (H' := H) (k' := k) (fun M hM => ?_) (fun M hM => ?_) h1 h2
        · obtain ⟨M', Z, e1, e2, e3, e4, e5, _, e7⟩ := x_all hM (by omega)
          refine ⟨M', fX.of e1 (by decide), e2, e7.imp (fun f r => ?_)⟩
          show X8_answer f 0 (nI kk) M = _
          unfold X8_answer X3_size
          rw [if_pos c, show jm_rf 0 1 = 3 from rfl, show jm_rf 0 6 = 29 from rfl, show jm_rf 0 3 = 15 from rfl, hM.d.1, if_neg hm0, r, Option.bind_some]
          dsimp only
          rw [if_pos (nI_le (by omega) hk)]
        · obtain ⟨M', e1, e2, e3, _, e4⟩ := m_ansAt hM hk
          refine ⟨M', MI.tb e1, e3, (e4 cz).imp (fun f r => ?_)⟩
          show X9_answer f 39 (nI kk) M = _
          unfold X9_answer
          rw [if_pos c, show jm_rf 39 0 = 40 from rfl, hM.w3, Option.bind_some, if_neg hm0, r, Option.bind_some]
          dsimp only
          rw [if_pos rfl]
  · refine cstep (F := fun f M => X8_answer f 0 a1 M) (G := fun f M => X9_answer f 39 a1 M) (r := -1) (CX.no (fun M hM => jp_E.all (fun f => ?_))) (CM.no (fun M hM => jp_E.all (fun f => ?_))) h1 h2
    · unfold X8_answer
      rw [if_neg c]
    · unfold X9_answer
      rw [if_neg c]
/-! accept -/
theorem s_17 : jl_S17 Inv := fun M a1 _ _ ⟨R, H, k, h1, h2⟩ => by
  have o := h1.1
  have o4 := h1.1.2.2.2.1
  have o5 := h1.1.2.2.2.2.1
  have o6 := h1.1.2.2.2.2.2.1
  by_cases c : a1 < 0
  · refine cstep (F := fun f M => X8_accept f 0 a1 M) (G := fun f M => X9_accept f 39 a1 M) (r := -1) (CX.no (fun M hM => jp_E.all (fun f => ?_))) (CM.no (fun M hM => jp_E.all (fun f => ?_))) h1 h2
    · unfold X8_accept
      rw [if_pos c]
    · unfold X9_accept
      rw [if_pos c]
  · by_cases cm : R 3 = 0
    · refine cstep (F := fun f M => X8_accept f 0 a1 M) (G := fun f M => X9_accept f 39 a1 M) (r := -1) (CX.no (fun M hM => jp_E.all (fun f => ?_))) (CM.no (fun M hM => jp_E.all (fun f => ?_))) h1 h2
      · unfold X8_accept X3_size
        rw [if_neg c, show jm_rf 0 1 = 3 from rfl, hM.d.1, cm, if_pos (show nI 0 = (0 : Int32) from rfl)]
      · unfold X9_accept
        rw [if_neg c, show jm_rf 39 0 = 40 from rfl, hM.w3, Option.bind_some, cm, if_pos (show nI 0 = (0 : Int32) from rfl)]
    · obtain ⟨kk, hk, rfl⟩ := nI_of c
      have hm0 : ¬ nI (R 3) = (0 : Int32) := nI_ne0 (by omega) (by omega)
      by_cases cz : kk < aC R
      · obtain ⟨x, hx, hxp, hxk⟩ := fb_ct_kth cz
        refine cstep (F := fun f M => X8_accept f 0 (nI kk) M) (G := fun f M => X9_accept f 39 (nI kk) M) (r := nI (qE (qg_ad (R 2) x) (R 2))) (R' := nwG R (R 2) x) (H' := push R H) (k' := min (k + 1) 8) (fun M hM => ?_) (fun M hM => ?_) h1 h2
        · obtain ⟨M1, Z, e1, e2, e3, e4, e5, _, e7⟩ := x_all hM (by omega)
          obtain ⟨M2, s1, s2, s3⟩ := x5_save e2
          obtain ⟨M3, l1, l2, l3⟩ := x_load s2 (n := R 2) (c := x) (by omega) (by omega) hx
          have ed := gx_edges' l2.2.2.1.1 (qg_ad_ok _ _) (show R 2 ≤ 8 by omega)
          refine ⟨M3, (fX.of e1 (by decide)).trans ((fX.of s1 (by decide)).trans (fX.of l1 (by decide))), l2, jp_E.imp4 e7 s3 l3 ed (fun f r1 r2 r3 r4 => ?_)⟩
          show X8_accept f 0 (nI kk) M = _
          unfold X8_accept X3_size X0_codeAt X3_h
          rw [if_neg c, show jm_rf 0 1 = 3 from rfl, show jm_rf 0 6 = 29 from rfl, show jm_rf 0 3 = 15 from rfl, show jm_rf 0 2 = 5 from rfl, show jm_rf 0 0 = 1 from rfl, hM.d.1, if_neg hm0, r1, Option.bind_some]
          dsimp only
          rw [if_pos (nI_lt cz (by omega)), r2, Option.bind_some, if_neg (nI_pos hk), (s1 29 (by decide)).1, e3.1, if_neg (nI_ge cz (by omega)), show jm_rf 29 3 = 36 from rfl, (s1 36 (by decide)).1, jp_ga (by omega) (by decide), Option.bind_some, e3.2 kk cz, e4 kk x cz hxp hxk, Option.bind_some, s2.h, r3, Option.bind_some, r4]; rfl
        · obtain ⟨M1, e1, e2, e3, e4, _⟩ := m_ansAt hM hk
          obtain ⟨y, y1, y2, y3, y4, y5⟩ := e4 cz
          obtain rfl : y = x := fb_ct_kth_one y2 hxp (by rw [y3]; exact hxk.symm)
          obtain ⟨M2, s1, _, s2, s3⟩ := m_remember e3
          have w := m_load s2 (n := R 2) (c := y) (by omega) (by omega) hx
          have ed := m_edges (show R 2 ≤ 8 by omega) hx
          have h49 : M2.1 49 (fb_ct (cnc (R 2)) y) = nI y := by rw [(s1 49 (by decide)).1]; exact (e2.2 y y1 (anP_sub y y2)).1
          refine ⟨_, (MI.tb e1).trans ((fM.of s1 (by decide)).trans (fM.of (jp_eq.rfl'.put (S := [40]) (by simp)) (by decide))), w, jp_E.imp3 y5 s3 ed (fun f r1 r2 r3 => ?_)⟩
          show X9_accept f 39 (nI kk) M = _
          unfold X9_accept
          rw [if_neg c, show jm_rf 39 0 = 40 from rfl, hM.w3, Option.bind_some, if_neg hm0, r1, Option.bind_some]
          dsimp only
          rw [if_neg (ni_n9 (by omega)), r2, Option.bind_some, s2.w2, Option.bind_some, w_s0, Option.bind_some, show jm_rf 39 11 = 49 from rfl, jm_put_ne _ _ (show 49 ≠ 40 by decide), jp_ga (by omega) (by decide), Option.bind_some, h49, w_s1, Option.bind_some, jm_put_put, jm_put_at, m_w1, Option.bind_some, jm_put_at, up_at, r3]; rfl
      · refine cstep (F := fun f M => X8_accept f 0 (nI kk) M) (G := fun f M => X9_accept f 39 (nI kk) M) (r := -1) (R' := R) (H' := H) (k' := k) (fun M hM => ?_) (fun M hM => ?_) h1 h2
        · obtain ⟨M', Z, e1, e2, e3, e4, e5, _, e7⟩ := x_all hM (by omega)
          refine ⟨M', fX.of e1 (by decide), e2, e7.imp (fun f r => ?_)⟩
          show X8_accept f 0 (nI kk) M = _
          unfold X8_accept X3_size
          rw [if_neg c, show jm_rf 0 1 = 3 from rfl, show jm_rf 0 6 = 29 from rfl, show jm_rf 0 3 = 15 from rfl, hM.d.1, if_neg hm0, r, Option.bind_some]
          dsimp only
          rw [if_neg (nI_nlt (by omega) hk)]
        · obtain ⟨M', e1, e2, e3, _, e4⟩ := m_ansAt hM hk
          refine ⟨M', MI.tb e1, e3, (e4 cz).imp (fun f r => ?_)⟩
          show X9_accept f 39 (nI kk) M = _
          unfold X9_accept
          rw [if_neg c, show jm_rf 39 0 = 40 from rfl, hM.w3, Option.bind_some, if_neg hm0, r, Option.bind_some]
          dsimp only
          rw [if_pos rfl]
/-! missing -/
theorem m_left {M : jm_M} {R : Nat → Nat} {H : Nat → Nat → Nat} {k g kk : Nat} {E : Nat → Nat} (h : MI M R H k) (hg : g < 160) (hE : ∀ i, i < R 2 → E i < 2 ^ 28) (hrow : ∀ j, j < R 2 → M.1 50 (6 * g + j) = nI (E j)) (hk : kk < 2 ^ 31) : jp_E (fun f => (jm_loop (X9_missing_B47 39 (nI g) M) f (nI kk, (0 : Int32), (0 : Int32))).bind (fun q11 => Sum.elim (fun z12 => some z12) (fun _ => some ((-9 : Int32), M)) q11) = some (lft E (sD R) (R 3) kk (R 2) 0 0 0, M)) := by
  have d := h.1.d
  obtain ⟨d1, d2, d3, d4, d5⟩ := id d
  have hrd : ∀ j, j < R 2 → jm_ga (M.1 50) 960 (((6 : Int32) * nI g) + nI j) = some (nI (E j)) := fun j hj => by
    rw [show (6 : Int32) = nI 6 from rfl, nI_mul, nI_add, jp_ga (by omega) (by decide), hrow j hj]
  have key : ∀ s j p c, j + s = R 2 → p ≤ j → c ≤ j → p ≤ kk → ∃ r, jp_L (fun _ => X9_missing_B47 39 (nI g) M) (nI (kk - p), nI c, nI j) r ∧ (Sum.elim (fun z => some z) (fun _ => some ((-9 : Int32), M)) r : Option (Int32 × jm_M)) = some (lft E (sD R) (R 3) kk s j p c, M) := by
    intro s
    induction s with
    | zero =>
      intro j p c e hp hc hpk
      refine ⟨.inr (), jp_L.done (jp_E.all (fun f => ?_)), rfl⟩
      unfold X9_missing_B47
      dsimp only
      rw [show jm_rf 39 0 = 40 from rfl, h.w2, Option.bind_some, if_pos (nI_le (by omega) (by omega))]
    | succ s ih =>
      intro j p c e hp hc hpk
      have hj := hE j (by omega)
      by_cases q : c < R 3 ∧ sD R c = E j
      · obtain ⟨r, a, b⟩ := ih (j + 1) p (c + 1) (by omega) (by omega) (by omega) hpk
        refine ⟨r, jp_L.step (jp_E.all (fun f => ?_)) a, by rw [b, lft_succ, if_pos q]⟩
        unfold X9_missing_B47
        dsimp only
        rw [show jm_rf 39 0 = 40 from rfl, h.w2, Option.bind_some, if_neg (nI_ge (by omega) (by omega)), h.w3, Option.bind_some, if_neg (nI_ge q.1 (by omega)), h.w q.1, Option.bind_some, show jm_rf 39 12 = 50 from rfl, hrd j (by omega), Option.bind_some, q.2, if_pos rfl, nI_1, nI_1]
      · by_cases hpk2 : p = kk
        · refine ⟨.inl (nI (E j), M), jp_L.done (jp_E.all (fun f => ?_)), by rw [lft_succ, if_neg q, if_pos hpk2]; rfl⟩
          unfold X9_missing_B47
          dsimp only
          rw [show jm_rf 39 0 = 40 from rfl, h.w2, Option.bind_some, if_neg (nI_ge (by omega) (by omega)), h.w3, Option.bind_some, show jm_rf 39 12 = 50 from rfl, hrd j (by omega), hpk2, Nat.sub_self, if_pos (show nI 0 = (0 : Int32) from rfl)]
          by_cases hcm : c < R 3
          · have := d.c28 hcm
            rw [if_neg (nI_ge hcm (by omega)), h.w hcm, Option.bind_some, Option.bind_some, if_neg (fun w => q ⟨hcm, (nI_eq (by omega) (by omega)).mp w⟩), Option.bind_some]
          · rw [if_pos (nI_le (by omega) (by omega)), Option.bind_some]
        · obtain ⟨r, a, b⟩ := ih (j + 1) (p + 1) c (by omega) (by omega) (by omega) (by omega)
          refine ⟨r, jp_L.step (jp_E.all (fun f => ?_)) a, by rw [b, lft_succ, if_neg q, if_neg hpk2]⟩
          unfold X9_missing_B47
          dsimp only
          rw [show jm_rf 39 0 = 40 from rfl, h.w2, Option.bind_some, if_neg (nI_ge (by omega) (by omega)), h.w3, Option.bind_some, show jm_rf 39 12 = 50 from rfl, hrd j (by omega), if_neg (nI_ne0 (show 0 < kk - p by omega) (by omega)), nI_m1 (by omega), nI_1, show kk - p - 1 = kk - (p + 1) by omega]
          by_cases hcm : c < R 3
          · have := d.c28 hcm
            rw [if_neg (nI_ge hcm (by omega)), h.w hcm, Option.bind_some, Option.bind_some, if_neg (fun w => q ⟨hcm, (nI_eq (by omega) (by omega)).mp w⟩)]
          · rw [if_pos (nI_le (by omega) (by omega))]
  obtain ⟨r, a, b⟩ := key (R 2) 0 0 0 (by omega) (Nat.le_refl 0) (Nat.le_refl 0) (Nat.zero_le _)
  refine a.use.imp (fun f e => ?_)
  rw [show (nI kk, (0 : Int32), (0 : Int32)) = (nI (kk - 0), nI 0, nI 0) from rfl, e, Option.bind_some]
  exact b
theorem s_16 : jl_S16 Inv := fun M a1 _ _ ⟨R, H, k, h1, h2⟩ => by
  have d := h1.1.d
  obtain ⟨d1, d2, d3, d4, d5⟩ := id d
  by_cases c : (0 : Int32) ≤ a1
  · by_cases cm : R 3 = 0
    · refine cstep (F := fun f M => X8_missing f 0 a1 M) (G := fun f M => X9_missing f 39 a1 M) (r := -2) (CX.no (fun M hM => jp_E.all (fun f => ?_))) (CM.no (fun M hM => jp_E.all (fun f => ?_))) h1 h2
      · unfold X8_missing X3_size
        rw [if_pos c, show jm_rf 0 1 = 3 from rfl, hM.d.1, cm, if_pos (show nI 0 = (0 : Int32) from rfl)]
      · unfold X9_missing
        rw [if_pos c, show jm_rf 39 0 = 40 from rfl, hM.w3, Option.bind_some, cm, if_pos (show nI 0 = (0 : Int32) from rfl)]
    · obtain ⟨kk, hk, rfl⟩ := nI_of (fun q => (fa_of_lt q).2.1 c)
      have hm0 : ¬ nI (R 3) = (0 : Int32) := nI_ne0 (by omega) (by omega)
      by_cases cz : aC R = 1
      · obtain ⟨x, hx, hxp, hxk⟩ := fb_ct_kth (show 0 < aC R by omega)
        have hEl : ∀ i, i < R 2 → srt (kc (R 2) (qg_ad (R 2) x)) (R 2) i < 2 ^ 28 := srt_all (P := fun y => y < 2 ^ 28) (fun i _ => kc_lt (A := qg_ad (R 2) x) (v := i) (by omega))
        refine cstep (F := fun f M => X8_missing f 0 (nI kk) M) (G := fun f M => X9_missing f 39 (nI kk) M) (r := lft (srt (kc (R 2) (qg_ad (R 2) x)) (R 2)) (sD R) (R 3) kk (R 2) 0 0 0) (R' := R) (H' := H) (k' := k) (fun M hM => ?_) (fun M hM => ?_) h1 h2
        · obtain ⟨M1, Z, e1, e2, e3, e4, e5, e6, e7⟩ := x_all hM (by omega)
          have hZ0 := e4 0 x (by omega) hxp hxk
          have l1 := xl_load (M := M1) (g := 30) (n := R 2) (c := x) (by omega) (by omega) (Nat.lt_trans (qt28 (by omega) hx) (by decide)) (by decide)
          have x3 := xl_gx (M := M1) (g := 30) (n := R 2) (c := x) (old := M1.1 (jm_rf 30 0)) (by decide)
          generalize hM3 : jm_put (jm_put M1 30 (upd (M1.1 30) 1 (nI (R 2)))) (jm_rf 30 0) (qg_ld (R 2) x 0 (M1.1 (jm_rf 30 0))) = M3 at l1 x3
          have m3 : jp_eq [30, 31] M1 M3 := by rw [← hM3]; exact (jp_eq.rfl'.put (by simp)).put (by decide)
          obtain ⟨M4, b1, b2, b3, b4, b5⟩ := x3_fill (qg_ad_ok _ _) (g := 37) (gg := 30) (by omega) (by omega) (by decide) x3 (e2.2.2.2.2.keep (m3 21 (by decide)).1 (m3 22 (by decide)).1)
          have k3 : dk M4 3 (R 3) (sD R) := (e2.d.keep (m3 3 (by decide)).1 (m3 4 (by decide)).1).keep (b1 3 (by decide)).1 (b1 4 (by decide)).1
          have lf := x3_left b4 (by omega) hEl k3 (by omega) (fun i hi => d.c28 hi) hk
          have eE : jp_eq [30, 31, 37, 38, 16, 17, 18, 19, 20, 21, 22] M1 M4 := (m3.sub (by simp)).trans (b1.sub (by decide))
          refine ⟨M4, (fX.of e1 (by decide)).trans (fX.of eE (by decide)), e2.of eE (by decide) b2, jp_E.imp4 e7 l1 b5 lf (fun f r1 r2 r3 r4 => ?_)⟩
          show X8_missing f 0 (nI kk) M = _
          unfold X8_missing X3_size X0_deckOf X3_h
          rw [if_pos c, show jm_rf 0 1 = 3 from rfl, show jm_rf 0 6 = 29 from rfl, show jm_rf 0 3 = 15 from rfl, show jm_rf 0 7 = 37 from rfl, hM.d.1, if_neg hm0, r1, Option.bind_some]
          dsimp only
          rw [if_pos (by rw [cz]; rfl), if_neg (show ¬ (0 : Int32) < 0 by decide), e3.1, if_neg (by rw [cz]; decide), show jm_rf 29 3 = 36 from rfl, show jm_rf 29 0 = 30 from rfl, show jm_rf 29 1 = 32 from rfl, jp_gaN (n := 32) (x := (0 : Int32)) 0 (by decide) (by decide) rfl, Option.bind_some, e3.2 0 (by omega), hZ0, e6, r2, Option.bind_some, r3, Option.bind_some, Option.bind_some, r4]; rfl
        · obtain ⟨M1, e1, e2, e3⟩ := m_answers hM (p31 (show R 3 ≤ 6 by omega))
          obtain ⟨M2, f1, f2, f3, f4, _⟩ := m_ansAt e2 (show 0 < 2 ^ 31 by decide)
          obtain ⟨y, y1, y2, y3, y4, y5⟩ := f4 (show 0 < aC R by omega)
          obtain rfl : y = x := fb_ct_kth_one y2 hxp (by rw [y3]; exact hxk.symm)
          have lf := m_left (kk := kk) f3 y4 hEl (f2.2 y y1 (anP_sub y y2)).2 hk
          refine ⟨M2, (MI.tb e1).trans (MI.tb f1), f3, jp_E.imp3 e3 y5 lf (fun f r1 r2 r3 => ?_)⟩
          show X9_missing f 39 (nI kk) M = _
          unfold X9_missing
          rw [if_pos c, show jm_rf 39 0 = 40 from rfl, hM.w3, Option.bind_some, if_neg hm0, m_all hM, Option.bind_some, r1, Option.bind_some]
          dsimp only
          rw [show fb_ct (anP (R 2) (acn (sD R) (R 3) (2 ^ R 3 - 1))) (2 ^ qg_tri (R 2)) = aC R from rfl, if_pos (show nI (aC R) = (1 : Int32) by rw [cz]; rfl), show (0 : Int32) = nI 0 from rfl, r2, Option.bind_some]
          exact r3
      · refine cstep (F := fun f M => X8_missing f 0 (nI kk) M) (G := fun f M => X9_missing f 39 (nI kk) M) (r := -9) (R' := R) (H' := H) (k' := k) (fun M hM => ?_) (fun M hM => ?_) h1 h2
        · obtain ⟨M', Z, e1, e2, e3, e4, e5, _, e7⟩ := x_all hM (by omega)
          refine ⟨M', fX.of e1 (by decide), e2, e7.imp (fun f r => ?_)⟩
          show X8_missing f 0 (nI kk) M = _
          unfold X8_missing X3_size
          rw [if_pos c, show jm_rf 0 1 = 3 from rfl, show jm_rf 0 6 = 29 from rfl, show jm_rf 0 3 = 15 from rfl, hM.d.1, if_neg hm0, r, Option.bind_some]
          dsimp only
          rw [if_neg (show ¬ nI (aC R) = (1 : Int32) from fun q => cz ((nI_eq (b := 1) (by omega) (by decide)).mp q))]
        · obtain ⟨M1, e1, e2, e3⟩ := m_answers hM (p31 (show R 3 ≤ 6 by omega))
          have hle : aC R ≤ 156 := Nat.le_trans (fb_ct_sub (fun k _ q => anP_sub k q)) (kinds_le d1 d2)
          refine ⟨M1, MI.tb e1, e2, e3.imp (fun f r1 => ?_)⟩
          show X9_missing f 39 (nI kk) M = _
          unfold X9_missing
          rw [if_pos c, show jm_rf 39 0 = 40 from rfl, hM.w3, Option.bind_some, if_neg hm0, m_all hM, Option.bind_some, r1, Option.bind_some]
          dsimp only
          rw [show fb_ct (anP (R 2) (acn (sD R) (R 3) (2 ^ R 3 - 1))) (2 ^ qg_tri (R 2)) = aC R from rfl, if_neg (show ¬ nI (aC R) = (1 : Int32) from fun q => cz ((nI_eq (b := 1) (by omega) (by decide)).mp q))]
  · refine cstep (F := fun f M => X8_missing f 0 a1 M) (G := fun f M => X9_missing f 39 a1 M) (r := -1) (CX.no (fun M hM => jp_E.all (fun f => ?_))) (CM.no (fun M hM => jp_E.all (fun f => ?_))) h1 h2
    · unfold X8_missing
      rw [if_neg c]
    · unfold X9_missing
      rw [if_neg c]
