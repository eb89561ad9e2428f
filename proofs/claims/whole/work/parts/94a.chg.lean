/-! CHANGES of the graph: begin, become, edge, undo, hold -/
def ru (R : Nat → Nat) (k v : Nat) : Nat → Nat := fun j => if j = k then v else R j
def nwG (R : Nat → Nat) (n c : Nat) : Nat → Nat := ru (ru R 0 n) 1 c
theorem nwG_ge {R : Nat → Nat} {n c j : Nat} (h : 2 ≤ j) : nwG R n c j = R j := by
  unfold nwG ru
  rw [if_neg (by omega), if_neg (by omega)]
theorem nwG_D (R : Nat → Nat) (n c : Nat) : sD (nwG R n c) = sD R := funext fun i => nwG_ge (by omega)
theorem nwG_ok {R : Nat → Nat} {n c : Nat} (h : sOK R) (h1 : 1 ≤ n) (h8 : n ≤ 8) (hc : c < 2 ^ qg_tri n) : sOK (nwG R n c) := by
  obtain ⟨_, _, _, o4, o5, o6, o7, o8⟩ := h
  refine ⟨h1, h8, hc, ?_, ?_, ?_, ?_, ?_⟩
  · rw [nwG_ge (by decide)]; exact o4
  · rw [nwG_ge (by decide)]; exact o5
  · rw [nwG_ge (by decide), nwG_ge (by decide)]; exact o6
  · rw [nwG_D, nwG_ge (by decide)]; exact o7
  · rw [nwG_D, nwG_ge (by decide), nwG_ge (by decide)]; exact o8
theorem x_load {M : jm_M} {R : Nat → Nat} {H : Nat → Nat → Nat} {k : Nat} (h : XI M R H k) {n c : Nat} (h1 : 1 ≤ n) (h8 : n ≤ 8) (hc : c < 2 ^ qg_tri n) : ∃ M', jp_eq [1, 2] M M' ∧ XI M' (nwG R n c) H k ∧ jp_E (fun f => X4_load f 1 (nI n) (nI c) M = some M') := by
  have e1 := xl_load (M := M) (g := 1) h8 h1 (Nat.lt_trans (qt28 h8 hc) (by decide)) (by decide)
  have g4 := xl_gx (M := M) (g := 1) (n := n) (c := c) (old := M.1 (jm_rf 1 0)) (by decide)
  generalize hM4 : jm_put (jm_put M 1 (upd (M.1 1) 1 (nI n))) (jm_rf 1 0) (qg_ld n c 0 (M.1 (jm_rf 1 0))) = M4 at e1 g4
  have m4 : jp_eq [1, 2] M M4 := by rw [← hM4]; exact (jp_eq.rfl'.put (by simp)).put (by decide)
  obtain ⟨o, oh, ⟨a1, a2, a3⟩, ⟨b1, b2, t, b3, b4, b5⟩, hcx⟩ := h
  refine ⟨M4, m4, ⟨nwG_ok o h1 h8 hc, oh, ⟨g4, ?_, ?_⟩, ⟨b1, ?_, t, b3, ?_, fun i hi j hj => ?_⟩, hcx.keep (m4 21 (by decide)).1 (m4 22 (by decide)).1⟩, e1⟩
  · rw [(m4 3 (by decide)).1, nwG_ge (by decide)]; exact a2
  · rw [nwG_D, nwG_ge (by decide)]; exact a3.keep (m4 3 (by decide)).1 (m4 4 (by decide)).1
  · rw [(m4 5 (by decide)).1]; exact b2
  · rw [(m4 5 (by decide)).1]; exact b4
  · rw [(m4 (7 + (t + 7 - i) % 8) (by simp; omega)).1]; exact b5 i hi j hj
theorem m_load {M : jm_M} {R : Nat → Nat} {H : Nat → Nat → Nat} {k : Nat} (h : MI M R H k) {n c : Nat} (h1 : 1 ≤ n) (h8 : n ≤ 8) (hc : c < 2 ^ qg_tri n) : MI (jm_put M 40 (upd (upd (M.1 40) 0 (nI n)) 1 (nI c))) (nwG R n c) H k := by
  obtain ⟨o, oh, a, ⟨b1, b2, b3⟩, L, t1, t2⟩ := h
  refine ⟨nwG_ok o h1 h8 hc, oh, fun j hj => ?_, ⟨b1, by rw [jm_put_ne _ _ (by decide)]; exact b2, fun i hi j hj => by rw [jm_put_ne _ _ (by decide)]; exact b3 i hi j hj⟩, L, by rw [jm_put_ne _ _ (by decide)]; exact t1, ?_⟩
  · rw [jm_put_at]
    rw [nwG_ge (by decide)] at hj
    unfold nwG ru upd
    by_cases c1 : j = 1
    · rw [if_pos c1, if_pos c1]
    · rw [if_neg c1, if_neg c1]
      by_cases c0 : j = 0
      · rw [if_pos c0, if_pos c0]
      · rw [if_neg c0, if_neg c0]; exact a j hj
  · rcases t2 with t2 | ⟨t2, t3, t4⟩
    · exact Or.inl t2
    · exact Or.inr ⟨t2, t3, t4.keep (by rw [jm_put_ne _ _ (by decide)]) (jm_put_ne _ _ (by decide)) (jm_put_ne _ _ (by decide))⟩
/-! begin -/
theorem cx_begin {R : Nat → Nat} {H : Nat → Nat → Nat} {k n : Nat} (h1 : 1 ≤ n) (h8 : n ≤ 8) : CX (fun f M => X8_begin f 0 (nI n) M) R H k (nI (R 0)) (nwG R n 0) (push R H) (min (k + 1) 8) := by
  intro M hM
  obtain ⟨M1, a1, a2, a3⟩ := x5_save hM
  obtain ⟨M2, b1, b2, b3⟩ := x_load a2 h1 h8 (Nat.two_pow_pos (qg_tri n))
  refine ⟨M2, (fX.of a1 (by decide)).trans (fX.of b1 (by decide)), b2, jp_E.imp2 a3 b3 (fun f e1 e2 => ?_)⟩
  show X8_begin f 0 (nI n) M = _
  unfold X8_begin X4_size
  rw [if_neg (show ¬ nI n < (1 : Int32) from nI_nlt (b := 1) h1 (by omega)), if_pos (show nI n ≤ (8 : Int32) from nI_le (b := 8) h8 (by decide)), show jm_rf 0 2 = 5 from rfl, show jm_rf 0 0 = 1 from rfl, show jm_rf 0 1 = 3 from rfl, e1, Option.bind_some, show (0 : Int32) = nI 0 from rfl, e2, Option.bind_some, hM.2.2.1.1.1]
theorem cm_begin {R : Nat → Nat} {H : Nat → Nat → Nat} {k n : Nat} (h1 : 1 ≤ n) (h8 : n ≤ 8) : CM (fun f M => X9_begin f 39 (nI n) M) R H k (nI (R 0)) (nwG R n 0) (push R H) (min (k + 1) 8) := by
  intro M hM
  obtain ⟨M1, a1, _, a2, a3⟩ := m_remember hM
  refine ⟨_, (fM.of a1 (by decide)).trans (fM.of (jp_eq.rfl'.put (S := [40]) (by simp)) (by decide)), m_load a2 h1 h8 (Nat.two_pow_pos (qg_tri n)), a3.imp (fun f e => ?_)⟩
  show X9_begin f 39 (nI n) M = _
  unfold X9_begin
  rw [show X9_isIn (nI n) (1 : Int32) (8 : Int32) = 1 from m_isIn1 (a := 1) (b := 8) h1 h8 (by decide), if_neg (show ¬ (1 : Int32) = 0 by decide), e, Option.bind_some, show jm_rf 39 0 = 40 from rfl, m_w0, Option.bind_some, w_s0, Option.bind_some, w_s1, Option.bind_some, jm_put_put, jm_put_at, a2.2.2.1 0 (by omega)]
  rfl
theorem cx_begin_no {R : Nat → Nat} {H : Nat → Nat → Nat} {k : Nat} {x : Int32} (h : ¬ ∃ n, 1 ≤ n ∧ n ≤ 8 ∧ x = nI n) : CX (fun f M => X8_begin f 0 x M) R H k (-1) R H k := CX.no (fun M hM => jp_E.all (fun f => by
  unfold X8_begin
  by_cases h0 : x < 1
  · rw [if_pos h0]
  · rw [if_neg h0]
    obtain ⟨j, hj, rfl⟩ := nI_of (show ¬ x < 0 from fun q => h0 (by rw [fa_lt] at q ⊢; have e1 : (0 : Int32).toInt = 0 := by decide
                                                                    have e2 : (1 : Int32).toInt = 1 := by decide
                                                                    omega))
    have h1 : 1 ≤ j := Nat.le_of_not_lt (fun q => h0 (nI_lt (b := 1) q (by decide)))
    by_cases hl : j ≤ 8
    · exact absurd ⟨j, h1, hl, rfl⟩ h
    · rw [if_neg (show ¬ nI j ≤ (8 : Int32) from nI_ge (a := 8) (by omega) hj)]))
theorem cm_begin_no {R : Nat → Nat} {H : Nat → Nat → Nat} {k : Nat} {x : Int32} (h : ¬ ∃ n, 1 ≤ n ∧ n ≤ 8 ∧ x = nI n) : CM (fun f M => X9_begin f 39 x M) R H k (-1) R H k := CM.no (fun M hM => jp_E.all (fun f => by
  unfold X9_begin
  rw [show X9_isIn x (1 : Int32) (8 : Int32) = 0 from m_isIn (a := 1) (b := 8) (by decide) (by decide) h, if_pos rfl]))
theorem s_0 : jl_S0 Inv := fun M a1 _ _ ⟨R, H, k, h1, h2⟩ => by
  by_cases c : ∃ n, 1 ≤ n ∧ n ≤ 8 ∧ a1 = nI n
  · obtain ⟨n, c1, c2, rfl⟩ := c
    exact cstep (cx_begin c1 c2) (cm_begin c1 c2) h1 h2
  · exact cstep (cx_begin_no c) (cm_begin_no c) h1 h2
/-! undo -/
theorem s_3 : jl_S3 Inv := fun M _ _ _ ⟨R, H, k, h1, h2⟩ => by
  by_cases c : k = 0
  · subst c
    refine cstep (F := fun f M => X8_undo f 0 M) (G := fun f M => X9_undo f 39 M) (r := -2) (CX.no (fun M hM => jp_E.all (fun f => ?_))) (CM.no (fun M hM => jp_E.all (fun f => ?_))) h1 h2
    · unfold X8_undo X5_size
      rw [show jm_rf 0 2 = 5 from rfl, hM.2.2.2.1.2.1, if_pos (show nI 0 = (0 : Int32) from rfl)]
    · unfold X9_undo
      rw [hM.2.2.2.1.2.1, if_pos (show nI 0 = (0 : Int32) from rfl)]
  · refine cstep (F := fun f M => X8_undo f 0 M) (G := fun f M => X9_undo f 39 M) (r := nI (k - 1)) (R' := H 0) (H' := pop H) (k' := k - 1) (fun M hM => ?_) (fun M hM => ?_) h1 h2
    · obtain ⟨M', e1, e2, e3⟩ := x5_restore hM (by omega)
      refine ⟨M', fX.of e1 (by decide), e2, e3.imp (fun f e => ?_)⟩
      have := hM.2.2.2.1.1
      show X8_undo f 0 M = _
      unfold X8_undo X5_size
      rw [show jm_rf 0 2 = 5 from rfl, show jm_rf 0 0 = 1 from rfl, show jm_rf 0 1 = 3 from rfl, hM.2.2.2.1.2.1, if_neg (nI_ne0 (by omega) (by omega)), e, Option.bind_some, e2.2.2.2.1.2.1]
    · obtain ⟨M', e1, e2, e3⟩ := m_undo hM (by omega)
      exact ⟨M', fM.of e1 (by decide), e2, e3⟩
/-! hold -/
def nwH (R : Nat → Nat) (h : Nat) : Nat → Nat := ru (ru R 2 h) 3 0
theorem nwH_ok {R : Nat → Nat} {h : Nat} (o : sOK R) (h3 : 3 ≤ h) (h6 : h ≤ 6) : sOK (nwH R h) := ⟨o.1, o.2.1, o.2.2.1, h3, h6, Nat.zero_le _, fun i j _ q => absurd q (Nat.not_lt_zero j), fun i q => absurd q (Nat.not_lt_zero i)⟩
theorem m_in36 {x : Int32} (h : ¬ ∃ n, 3 ≤ n ∧ n ≤ 6 ∧ x = nI n) : X9_isIn x (3 : Int32) (6 : Int32) = 0 := m_isIn (a := 3) (b := 6) (by decide) (by decide) h
theorem x_no36 {x : Int32} (h : ¬ ∃ n, 3 ≤ n ∧ n ≤ 6 ∧ x = nI n) : x < 3 ∨ ¬ x < 3 ∧ ¬ x ≤ 6 := by
  by_cases h0 : x < 3
  · exact Or.inl h0
  · refine Or.inr ⟨h0, ?_⟩
    obtain ⟨j, hj, rfl⟩ := nI_of (show ¬ x < 0 from fun q => h0 (by rw [fa_lt] at q ⊢; have e1 : (0 : Int32).toInt = 0 := by decide
                                                                    have e2 : (3 : Int32).toInt = 3 := by decide
                                                                    omega))
    have h1 : 3 ≤ j := Nat.le_of_not_lt (fun q => h0 (nI_lt (b := 3) q (by decide)))
    by_cases hl : j ≤ 6
    · exact absurd ⟨j, h1, hl, rfl⟩ h
    · exact nI_ge (a := 6) (by omega) hj
theorem s_8 : jl_S8 Inv := fun M a1 _ _ ⟨R, H, k, h1, h2⟩ => by
  by_cases c : ∃ n, 3 ≤ n ∧ n ≤ 6 ∧ a1 = nI n
  · obtain ⟨n, c1, c2, rfl⟩ := c
    refine cstep (F := fun f M => X8_hold f 0 (nI n) M) (G := fun f M => X9_hold f 39 (nI n) M) (r := nI (R 3)) (R' := nwH R n) (H' := push R H) (k' := min (k + 1) 8) (fun M hM => ?_) (fun M hM => ?_) h1 h2
    · obtain ⟨M1, a1, a2, a3⟩ := x5_save hM
      obtain ⟨o, oh, ⟨g1, g2, g3⟩, ⟨b1, b2, t, b3, b4, b5⟩, hcx⟩ := a2
      refine ⟨jm_put M1 3 (upd (upd (M1.1 3) 1 (nI n)) 2 0), (fX.of a1 (by decide)).trans (fX.of (jp_eq.rfl'.put (S := [3]) (by simp)) (by decide)), ⟨nwH_ok o c1 c2, oh, ⟨g1.keep (jm_put_ne _ _ (by decide)) (jm_put_ne _ _ (by decide)), by rw [jm_put_at]; rfl, ⟨by rw [jm_put_at]; rfl, fun i q => absurd q (Nat.not_lt_zero i)⟩⟩, ⟨b1, by rw [jm_put_ne _ _ (by decide)]; exact b2, t, b3, by rw [jm_put_ne _ _ (by decide)]; exact b4, fun i hi j hj => by rw [jm_put_ne _ _ (by omega)]; exact b5 i hi j hj⟩, hcx.keep (jm_put_ne _ _ (by decide)) (jm_put_ne _ _ (by decide))⟩, a3.imp (fun f e => ?_)⟩
      show X8_hold f 0 (nI n) M = _
      unfold X8_hold X3_size X3_start
      rw [if_neg (show ¬ nI n < (3 : Int32) from nI_nlt (b := 3) c1 (by omega)), if_pos (show nI n ≤ (6 : Int32) from nI_le (b := 6) c2 (by decide)), show jm_rf 0 2 = 5 from rfl, show jm_rf 0 0 = 1 from rfl, show jm_rf 0 1 = 3 from rfl, e, Option.bind_some, Option.bind_some, jm_set_put, jm_set_put, jm_put_put, jm_put_at, hM.2.2.1.2.2.1]
    · obtain ⟨M1, a1, _, a2, a3⟩ := m_remember hM
      obtain ⟨o, oh, a, ⟨b1, b2, b3⟩, L, t1, t2⟩ := a2
      refine ⟨jm_put M1 40 (upd (upd (M1.1 40) 2 (nI n)) 3 0), (fM.of a1 (by decide)).trans (fM.of (jp_eq.rfl'.put (S := [40]) (by simp)) (by decide)), ⟨nwH_ok o c1 c2, oh, fun j hj => ?_, ⟨b1, by rw [jm_put_ne _ _ (by decide)]; exact b2, fun i hi j hj => by rw [jm_put_ne _ _ (by decide)]; exact b3 i hi j hj⟩, L, by rw [jm_put_ne _ _ (by decide)]; exact t1, ?_⟩, a3.imp (fun f e => ?_)⟩
      · rw [jm_put_at]
        have hj4 : j < 4 := hj
        rcases (show j = 0 ∨ j = 1 ∨ j = 2 ∨ j = 3 by omega) with rfl | rfl | rfl | rfl
        · exact a 0 (by omega)
        · exact a 1 (by omega)
        · rfl
        · rfl
      · rcases t2 with t2 | ⟨t2, t3, t4⟩
        · exact Or.inl t2
        · exact Or.inr ⟨t2, t3, t4.keep (by rw [jm_put_ne _ _ (by decide)]) (jm_put_ne _ _ (by decide)) (jm_put_ne _ _ (by decide))⟩
      · show X9_hold f 39 (nI n) M = _
        unfold X9_hold
        rw [show X9_isIn (nI n) (3 : Int32) (6 : Int32) = 1 from m_isIn1 (a := 3) (b := 6) c1 c2 (by decide), if_neg (show ¬ (1 : Int32) = 0 by decide), e, Option.bind_some, show jm_rf 39 0 = 40 from rfl, w_g3, Option.bind_some, w_s2, Option.bind_some, w_s3, Option.bind_some, jm_put_put, jm_put_at, a 3 (by omega)]
  · refine cstep (F := fun f M => X8_hold f 0 a1 M) (G := fun f M => X9_hold f 39 a1 M) (r := -1) (CX.no (fun M hM => jp_E.all (fun f => ?_))) (CM.no (fun M hM => jp_E.all (fun f => ?_))) h1 h2
    · unfold X8_hold
      rcases x_no36 c with q | ⟨q1, q2⟩
      · rw [if_pos q]
      · rw [if_neg q1, if_neg q2]
    · unfold X9_hold
      rw [m_in36 c, if_pos rfl]
/-! become -/
theorem ni_tw2 : ∀ n, n < 9 → (1 : Int32) <<< (X9_pairs (nI n) &&& 31) = nI (2 ^ qg_tri n) := by decide +kernel
theorem tri28 {n : Nat} (h : n ≤ 8) : 2 ^ qg_tri n < 2 ^ 31 := Nat.pow_lt_pow_right (by decide) (by have := qg_tri8 n (by omega); omega)
theorem x8_isC {n c : Nat} (hn : n ≤ 8) (hc : c < 2 ^ qg_tri n) : X8_isCode (nI n) (nI c) = 1 := by
  have := tri28 hn
  unfold X8_isCode
  rw [if_neg (nI_pos (by omega)), show ((nI n * (nI n - (1 : Int32))) / (2 : Int32)) = X9_pairs (nI n) from rfl, ni_tw2 n (by omega), if_neg (nI_ge hc (by omega))]
theorem x8_isC_no {n : Nat} {x : Int32} (hn : n ≤ 8) (h : ¬ ∃ c, c < 2 ^ qg_tri n ∧ x = nI c) : X8_isCode (nI n) x = 0 := by
  unfold X8_isCode
  by_cases h0 : x < 0
  · rw [if_pos h0]
  · rw [if_neg h0]
    obtain ⟨j, hj, rfl⟩ := nI_of h0
    have hl : 2 ^ qg_tri n ≤ j := Nat.le_of_not_lt (fun q => h ⟨j, q, rfl⟩)
    rw [show ((nI n * (nI n - (1 : Int32))) / (2 : Int32)) = X9_pairs (nI n) from rfl, ni_tw2 n (by omega), if_pos (nI_le hl hj)]
theorem m_no_code {n : Nat} {x : Int32} (hn : n ≤ 8) (h : ¬ ∃ c, c < 2 ^ qg_tri n ∧ x = nI c) : x < 0 ∨ ¬ x < 0 ∧ ¬ x < (1 : Int32) <<< (X9_pairs (nI n) &&& 31) := by
  by_cases h0 : x < 0
  · exact Or.inl h0
  · refine Or.inr ⟨h0, ?_⟩
    obtain ⟨j, hj, rfl⟩ := nI_of h0
    have hl : 2 ^ qg_tri n ≤ j := Nat.le_of_not_lt (fun q => h ⟨j, q, rfl⟩)
    rw [ni_tw2 n (by omega)]
    exact nI_nlt hl hj
theorem s_2 : jl_S2 Inv := fun M a1 _ _ ⟨R, H, k, h1, h2⟩ => by
  have o := h1.1
  by_cases c : ∃ c, c < 2 ^ qg_tri (R 0) ∧ a1 = nI c
  · obtain ⟨c, hc, rfl⟩ := c
    have := tri28 o.2.1
    refine cstep (F := fun f M => X8_become f 0 (nI c) M) (G := fun f M => X9_become f 39 (nI c) M) (r := nI (R 1)) (R' := nwG R (R 0) c) (H' := push R H) (k' := min (k + 1) 8) (fun M hM => ?_) (fun M hM => ?_) h1 h2
    · obtain ⟨M1, a1, a2, a3⟩ := x5_save hM
      obtain ⟨M2, b1, b2, b3⟩ := x_load a2 o.1 o.2.1 hc
      have e0 := gx_code hM.2.2.1.1 (qg_ad_ok _ _) o.2.1 o.1
      rw [qg_cd_ad o.2.2.1] at e0
      refine ⟨M2, (fX.of a1 (by decide)).trans (fX.of b1 (by decide)), b2, jp_E.imp3 a3 b3 e0 (fun f e1 e2 e3 => ?_)⟩
      show X8_become f 0 (nI c) M = _
      unfold X8_become X4_size
      rw [show jm_rf 0 2 = 5 from rfl, show jm_rf 0 0 = 1 from rfl, show jm_rf 0 1 = 3 from rfl, hM.2.2.1.1.1, x8_isC o.2.1 hc, if_neg (show ¬ (1 : Int32) = 0 by decide), e3, Option.bind_some, e1, Option.bind_some, a2.2.2.1.1.1, e2, Option.bind_some]
    · obtain ⟨M1, a1, _, a2, a3⟩ := m_remember hM
      have w := m_load a2 o.1 o.2.1 hc
      have ew : jm_put M1 40 (upd (upd (M1.1 40) 0 (nI (R 0))) 1 (nI c)) = jm_put M1 40 (upd (M1.1 40) 1 (nI c)) := by rw [fa_upd_same (a2.2.2.1 0 (by omega))]
      rw [ew] at w
      refine ⟨_, (fM.of a1 (by decide)).trans (fM.of (jp_eq.rfl'.put (S := [40]) (by simp)) (by decide)), w, a3.imp (fun f e => ?_)⟩
      show X9_become f 39 (nI c) M = _
      unfold X9_become
      rw [if_neg (nI_pos (by omega)), show jm_rf 39 0 = 40 from rfl, m_w0, hM.2.2.1 0 (by omega), Option.bind_some, ni_tw2 (R 0) (by have := o.2.1; omega), if_pos (nI_lt hc (by omega)), e, Option.bind_some, m_w1, Option.bind_some, w_s1, Option.bind_some, a2.2.2.1 1 (by omega)]
  · refine cstep (F := fun f M => X8_become f 0 a1 M) (G := fun f M => X9_become f 39 a1 M) (r := -1) (CX.no (fun M hM => jp_E.all (fun f => ?_))) (CM.no (fun M hM => jp_E.all (fun f => ?_))) h1 h2
    · unfold X8_become X4_size
      rw [show jm_rf 0 0 = 1 from rfl, hM.2.2.1.1.1, x8_isC_no o.2.1 c, if_pos rfl]
    · unfold X9_become
      rcases m_no_code o.2.1 c with q | ⟨q1, q2⟩
      · rw [if_pos q]
      · rw [if_neg q1, show jm_rf 39 0 = 40 from rfl, m_w0, hM.2.2.1 0 (by omega), Option.bind_some, if_neg q2]
