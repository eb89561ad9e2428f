/-! told, vertex, image, copies: the steps -/
theorem t_1 {R : Nat → Nat} {H : Nat → Nat → Nat} {k : Nat} : CX (fun f M => X8_told f 0 1 M) R H k (nI (qE (qg_ad (R 0) (R 1)) (R 0))) R H k ∧ CM (fun f M => X9_told f 39 1 M) R H k (nI (qE (qg_ad (R 0) (R 1)) (R 0))) R H k := by
  refine ⟨CX.no (fun M hM => ?_), CM.no (fun M hM => ?_)⟩
  · refine (gx_edges' hM.2.2.1.1 (qg_ad_ok _ _) hM.1.2.1).imp (fun f e => ?_)
    unfold X8_told
    rw [if_neg (by decide), if_pos rfl, show jm_rf 0 0 = 1 from rfl, e]; rfl
  · refine (m_edges hM.1.2.1 hM.1.2.2.1).imp (fun f e => ?_)
    unfold X9_told
    rw [if_neg (by decide), if_pos rfl, show jm_rf 39 0 = 40 from rfl, m_w1, hM.2.2.1 1 (by omega), Option.bind_some, e]; rfl
theorem t_2 {R : Nat → Nat} {H : Nat → Nat → Nat} {k : Nat} : CX (fun f M => X8_told f 0 2 M) R H k (nI (R 1)) R H k ∧ CM (fun f M => X9_told f 39 2 M) R H k (nI (R 1)) R H k := by
  refine ⟨CX.no (fun M hM => ?_), CM.no (fun M hM => jp_E.all (fun f => ?_))⟩
  · have e0 := gx_code hM.2.2.1.1 (qg_ad_ok _ _) hM.1.2.1 hM.1.1
    rw [qg_cd_ad hM.1.2.2.1] at e0
    refine e0.imp (fun f e => ?_)
    unfold X8_told
    rw [if_neg (by decide), if_neg (by decide), if_pos rfl, show jm_rf 0 0 = 1 from rfl, e]; rfl
  · unfold X9_told
    rw [if_neg (by decide), if_neg (by decide), if_pos rfl, show jm_rf 39 0 = 40 from rfl, m_w1, hM.2.2.1 1 (by omega)]; rfl
theorem t_3 {R : Nat → Nat} {H : Nat → Nat → Nat} {k : Nat} : CX (fun f M => X8_told f 0 3 M) R H k (nI (cn (R 0) (qg_ad (R 0) (R 1)))) R H k ∧ CM (fun f M => X9_told f 39 3 M) R H k (nI (cn (R 0) (qg_ad (R 0) (R 1)))) R H k := by
  refine ⟨fun M hM => ?_, fun M hM => ?_⟩
  · have e0 := gx_code hM.2.2.1.1 (qg_ad_ok _ _) hM.1.2.1 hM.1.1
    rw [qg_cd_ad hM.1.2.2.1] at e0
    obtain ⟨M', a1, a2, a3⟩ := cx_of hM.1.2.1 hM.1.1 hM.1.2.2.1 hM.2.2.2.2
    refine ⟨M', fX.of a2 (by decide), hM.of a2 (by decide) a1, jp_E.imp2 e0 a3 (fun f e1 e2 => ?_)⟩
    show X8_told f 0 3 M = _
    unfold X8_told X4_size
    rw [if_neg (by decide), if_neg (by decide), if_neg (by decide), if_pos rfl, show jm_rf 0 0 = 1 from rfl, show jm_rf 0 3 = 15 from rfl, e1, Option.bind_some, hM.2.2.1.1.1, e2]; rfl
  · obtain ⟨M', a1, a2⟩ := m_canon hM.1.2.1 hM.1.1 hM.1.2.2.1 M
    have q : mkE M M' := mkE.c (a1.sub (by simp))
    refine ⟨M', q.f, hM.q q, a2.imp (fun f e => ?_)⟩
    show X9_told f 39 3 M = _
    unfold X9_told
    rw [if_neg (by decide), if_neg (by decide), if_neg (by decide), if_pos rfl, show jm_rf 39 0 = 40 from rfl, m_w0, hM.2.2.1 0 (by omega), Option.bind_some, m_w1, hM.2.2.1 1 (by omega), Option.bind_some, e]; rfl
theorem t_4 {R : Nat → Nat} {H : Nat → Nat → Nat} {k : Nat} : CX (fun f M => X8_told f 0 4 M) R H k (nI (nac (qg_ad (R 0) (R 1)) (R 0) (R 0) 0 (fun i => i))) R H k ∧ CM (fun f M => X9_told f 39 4 M) R H k (nI (nac (qg_ad (R 0) (R 1)) (R 0) (R 0) 0 (fun i => i))) R H k := by
  refine ⟨fun M hM => ?_, fun M hM => ?_⟩
  · obtain ⟨M', a1, a2⟩ := xs_aut (qg_ad_ok _ _) hM.1.2.1 hM.2.2.1.1
    refine ⟨M', fX.of a1.1 (by decide), hM.s a1.1, a2.imp (fun f e => ?_)⟩
    show X8_told f 0 4 M = _
    unfold X8_told
    rw [if_neg (by decide), if_neg (by decide), if_neg (by decide), if_neg (by decide), if_pos rfl, show jm_rf 0 0 = 1 from rfl, show jm_rf 0 4 = 23 from rfl, e]; rfl
  · obtain ⟨M', a1, a2, a3, _, a4⟩ := m_orb hM.1.2.1 hM.1.1 hM.1.c31 (hM.2.2.1 0 (by omega)) (hM.2.2.1 1 (by omega))
    have q := mkE.o a1 a2
    refine ⟨M', q.f, hM.q q, a4.imp (fun f e => ?_)⟩
    show X9_told f 39 4 M = _
    unfold X9_told
    rw [if_neg (by decide), if_neg (by decide), if_neg (by decide), if_neg (by decide), if_pos rfl, e, Option.bind_some, a3]
theorem t_5 {R : Nat → Nat} {H : Nat → Nat → Nat} {k : Nat} : CX (fun f M => X8_told f 0 5 M) R H k (nI (fb_ct (srep (R 0) (qg_ad (R 0) (R 1))) (R 0))) R H k ∧ CM (fun f M => X9_told f 39 5 M) R H k (nI (fb_ct (srep (R 0) (qg_ad (R 0) (R 1))) (R 0))) R H k := by
  refine ⟨fun M hM => ?_, fun M hM => ?_⟩
  · obtain ⟨M', a1, a2⟩ := xs_classes (qg_ad_ok _ _) hM.1.2.1 hM.2.2.1.1
    refine ⟨M', fX.of a1.1 (by decide), hM.s a1.1, a2.imp (fun f e => ?_)⟩
    show X8_told f 0 5 M = _
    unfold X8_told
    rw [if_neg (by decide), if_neg (by decide), if_neg (by decide), if_neg (by decide), if_neg (by decide), if_pos rfl, show jm_rf 0 0 = 1 from rfl, show jm_rf 0 4 = 23 from rfl, e]; rfl
  · obtain ⟨M', a1, a2, a4⟩ := m_classes hM.1.2.1 hM.1.1 hM.1.c31 (hM.2.2.1 0 (by omega)) (hM.2.2.1 1 (by omega))
    have q := mkE.o a1 a2
    refine ⟨M', q.f, hM.q q, a4.imp (fun f e => ?_)⟩
    show X9_told f 39 5 M = _
    unfold X9_told
    rw [if_neg (by decide), if_neg (by decide), if_neg (by decide), if_neg (by decide), if_neg (by decide), if_pos rfl, e]; rfl
theorem t_6 {R : Nat → Nat} {H : Nat → Nat → Nat} {k : Nat} : CX (fun f M => X8_told f 0 6 M) R H k (s_dc (R 0) (qg_ad (R 0) (R 1))) R H k ∧ CM (fun f M => X9_told f 39 6 M) R H k (s_dc (R 0) (qg_ad (R 0) (R 1))) R H k := by
  refine ⟨fun M hM => ?_, fun M hM => ?_⟩
  · obtain ⟨M', a1, a2, a3⟩ := x8_dc (qg_ad_ok _ _) hM.1.2.1 hM.1.1 hM.2.2.1.1 hM.2.2.2.2
    refine ⟨M', fX.of a1 (by decide), hM.of a1 (by decide) a2, a3.imp (fun f e => ?_)⟩
    show X8_told f 0 6 M = _
    unfold X8_told
    rw [if_neg (by decide), if_neg (by decide), if_neg (by decide), if_neg (by decide), if_neg (by decide), if_neg (by decide), if_pos rfl, e]; rfl
  · obtain ⟨M', q, a4⟩ := m_dc hM.1.2.1 hM.1.1 hM.1.c31 (hM.2.2.1 0 (by omega)) (hM.2.2.1 1 (by omega))
    refine ⟨M', q.f, hM.q q, a4.imp (fun f e => ?_)⟩
    show X9_told f 39 6 M = _
    unfold X9_told
    rw [if_neg (by decide), if_neg (by decide), if_neg (by decide), if_neg (by decide), if_neg (by decide), if_neg (by decide), if_pos rfl, e]; rfl
theorem t_7 {R : Nat → Nat} {H : Nat → Nat → Nat} {k : Nat} : CX (fun f M => X8_told f 0 7 M) R H k (nI (fb_ct (rrep (R 0) (qg_ad (R 0) (R 1))) (R 0))) R H k ∧ CM (fun f M => X9_told f 39 7 M) R H k (nI (fb_ct (rrep (R 0) (qg_ad (R 0) (R 1))) (R 0))) R H k := by
  refine ⟨CX.no (fun M hM => ?_), CM.no (fun M hM => ?_)⟩
  · refine (gx_comp hM.2.2.1.1 hM.1.2.1).imp (fun f e => ?_)
    unfold X8_told
    rw [if_neg (by decide), if_neg (by decide), if_neg (by decide), if_neg (by decide), if_neg (by decide), if_neg (by decide), if_neg (by decide), if_pos rfl, show jm_rf 0 0 = 1 from rfl, e]; rfl
  · refine (m_comp hM.1.2.1 hM.1.c31 (hM.2.2.1 0 (by omega)) (hM.2.2.1 1 (by omega))).imp (fun f e => ?_)
    unfold X9_told
    rw [if_neg (by decide), if_neg (by decide), if_neg (by decide), if_neg (by decide), if_neg (by decide), if_neg (by decide), if_neg (by decide), if_pos rfl, e]; rfl
theorem t_8 {R : Nat → Nat} {H : Nat → Nat → Nat} {k : Nat} : CX (fun f M => X8_told f 0 8 M) R H k (s_pp (R 0) (qg_ad (R 0) (R 1))) R H k ∧ CM (fun f M => X9_told f 39 8 M) R H k (s_pp (R 0) (qg_ad (R 0) (R 1))) R H k := by
  refine ⟨fun M hM => ?_, fun M hM => ?_⟩
  · obtain ⟨M', a1, a3⟩ := xk_pairs (qg_ad_ok _ _) hM.1.2.1 hM.1.1 hM.J
    refine ⟨M', fX.of a1.1 (by decide), hM.ofJ a1, a3.imp (fun f e => ?_)⟩
    show X8_told f 0 8 M = _
    unfold X8_told
    rw [if_neg (by decide), if_neg (by decide), if_neg (by decide), if_neg (by decide), if_neg (by decide), if_neg (by decide), if_neg (by decide), if_neg (by decide), if_pos rfl, e]; rfl
  · obtain ⟨M', q, a4⟩ := m_pairsP hM.1.2.1 hM.1.1 hM.1.c31 (hM.2.2.1 0 (by omega)) (hM.2.2.1 1 (by omega))
    refine ⟨M', q.f, hM.q q, a4.imp (fun f e => ?_)⟩
    show X9_told f 39 8 M = _
    unfold X9_told
    rw [if_neg (by decide), if_neg (by decide), if_neg (by decide), if_neg (by decide), if_neg (by decide), if_neg (by decide), if_neg (by decide), if_neg (by decide), if_pos rfl, e]; rfl
theorem s_4 : jl_S4 Inv := fun M a1 _ _ ⟨R, H, k, h1, h2⟩ => by
  by_cases c0 : a1 = 0
  · subst c0
    refine cstep (F := fun f M => X8_told f 0 0 M) (G := fun f M => X9_told f 39 0 M) (r := nI (R 0)) (CX.no (fun M hM => jp_E.all (fun f => ?_))) (CM.no (fun M hM => jp_E.all (fun f => ?_))) h1 h2
    · unfold X8_told X4_size
      rw [if_pos rfl, show jm_rf 0 0 = 1 from rfl, hM.2.2.1.1.1]
    · unfold X9_told
      rw [if_pos rfl, show jm_rf 39 0 = 40 from rfl, m_w0, hM.2.2.1 0 (by omega)]; rfl
  by_cases c1 : a1 = 1
  · subst c1; exact cstep t_1.1 t_1.2 h1 h2
  by_cases c2 : a1 = 2
  · subst c2; exact cstep t_2.1 t_2.2 h1 h2
  by_cases c3 : a1 = 3
  · subst c3; exact cstep t_3.1 t_3.2 h1 h2
  by_cases c4 : a1 = 4
  · subst c4; exact cstep t_4.1 t_4.2 h1 h2
  by_cases c5 : a1 = 5
  · subst c5; exact cstep t_5.1 t_5.2 h1 h2
  by_cases c6 : a1 = 6
  · subst c6; exact cstep t_6.1 t_6.2 h1 h2
  by_cases c7 : a1 = 7
  · subst c7; exact cstep t_7.1 t_7.2 h1 h2
  by_cases c8 : a1 = 8
  · subst c8; exact cstep t_8.1 t_8.2 h1 h2
  by_cases c9 : a1 = 9
  · subst c9
    refine cstep (F := fun f M => X8_told f 0 9 M) (G := fun f M => X9_told f 39 9 M) (r := nI k) (CX.no (fun M hM => jp_E.all (fun f => ?_))) (CM.no (fun M hM => jp_E.all (fun f => ?_))) h1 h2
    · unfold X8_told X5_size
      rw [if_neg (by decide), if_neg (by decide), if_neg (by decide), if_neg (by decide), if_neg (by decide), if_neg (by decide), if_neg (by decide), if_neg (by decide), if_neg (by decide), if_pos rfl, show jm_rf 0 2 = 5 from rfl, hM.2.2.2.1.2.1]
    · unfold X9_told
      rw [if_neg (by decide), if_neg (by decide), if_neg (by decide), if_neg (by decide), if_neg (by decide), if_neg (by decide), if_neg (by decide), if_neg (by decide), if_neg (by decide), if_pos rfl, hM.2.2.2.1.2.1]
  refine cstep (F := fun f M => X8_told f 0 a1 M) (G := fun f M => X9_told f 39 a1 M) (r := -1) (CX.no (fun M hM => jp_E.all (fun f => ?_))) (CM.no (fun M hM => jp_E.all (fun f => ?_))) h1 h2
  · unfold X8_told
    rw [if_neg c0, if_neg c1, if_neg c2, if_neg c3, if_neg c4, if_neg c5, if_neg c6, if_neg c7, if_neg c8, if_neg c9]
  · unfold X9_told
    rw [if_neg c0, if_neg c1, if_neg c2, if_neg c3, if_neg c4, if_neg c5, if_neg c6, if_neg c7, if_neg c8, if_neg c9]
theorem s_5 : jl_S5 Inv := fun M a1 a2 _ ⟨R, H, k, h1, h2⟩ => by
  by_cases c : ∃ v j, v < R 0 ∧ j < 6 ∧ a1 = nI v ∧ a2 = nI j
  · obtain ⟨v, j, hv, hj, rfl, rfl⟩ := c
    refine cstep (F := fun f M => X8_vertex f 0 (nI v) (nI j) M) (G := fun f M => X9_vertex f 39 (nI v) (nI j) M) (r := s_vx (R 0) (qg_ad (R 0) (R 1)) v j) (R' := R) (H' := H) (k' := k) (fun M hM => ?_) (fun M hM => ?_) h1 h2
    · obtain ⟨M', a1, a2⟩ := x8_vertex (qg_ad_ok _ _) hM.1.2.1 hv hj hM.J
      exact ⟨M', fX.of a1.1 (by decide), hM.ofJ a1, a2⟩
    · obtain ⟨M', a1, a2⟩ := m_vertex hM.1.2.1 hM.1.2.2.1 hv hj (hM.2.2.1 0 (by omega)) (hM.2.2.1 1 (by omega))
      exact ⟨M', a1.f, hM.q a1, a2⟩
  · exact cstep (F := fun f M => X8_vertex f 0 a1 a2 M) (G := fun f M => X9_vertex f 39 a1 a2 M) (r := -1) (CX.no (fun M hM => jp_E.all (fun f => x8_vertex_no hM.1.2.1 c hM.2.2.1.1 f))) (CM.no (fun M hM => jp_E.all (fun f => m_vertex_no hM.1.2.1 hM.1.1 c (hM.2.2.1 0 (by omega)) f))) h1 h2
theorem s_6 : jl_S6 Inv := fun M a1 a2 a3 ⟨R, H, k, h1, h2⟩ => by
  by_cases c : s_three (R 0) a1 a2 a3
  · obtain ⟨a, b, x, ha, hb, hx, rfl, rfl, rfl⟩ := c
    refine cstep (F := fun f M => X8_image f 0 (nI a) (nI b) (nI x) M) (G := fun f M => X9_image f 39 (nI a) (nI b) (nI x) M) (r := s_img (R 0) (qg_ad (R 0) (R 1)) a b x) (R' := R) (H' := H) (k' := k) (fun M hM => ?_) (fun M hM => ?_) h1 h2
    · obtain ⟨M', a1, a2⟩ := xs_image (qg_ad_ok _ _) hM.1.2.1 ha hb hx hM.2.2.1.1
      exact ⟨M', fX.of a1 (by decide), hM.s a1, a2⟩
    · obtain ⟨M', a1, a2, a3⟩ := m_image hM.1.2.1 hM.1.c31 ha hb hx (hM.2.2.1 0 (by omega)) (hM.2.2.1 1 (by omega))
      have q := mkE.o a1 a2
      exact ⟨M', q.f, hM.q q, a3⟩
  · exact cstep (F := fun f M => X8_image f 0 a1 a2 a3 M) (G := fun f M => X9_image f 39 a1 a2 a3 M) (r := -1) (CX.no (fun M hM => jp_E.all (fun f => xs_image_no hM.1.2.1 c hM.2.2.1.1 f))) (CM.no (fun M hM => jp_E.all (fun f => m_image_no hM.1.2.1 hM.1.1 c (hM.2.2.1 0 (by omega)) f))) h1 h2
theorem s_7 : jl_S7 Inv := fun M a1 _ _ ⟨R, H, k, h1, h2⟩ => by
  have x := x8_copies h1.2.2.1.1 (qg_ad_ok _ _) h1.1.2.1 h1.1.1 a1
  have m := m_copies h2.1.2.1 h2.1.2.2.1 (h2.2.2.1 0 (by omega)) (h2.2.2.1 1 (by omega)) a1
  by_cases c : ∃ p, p < 9 ∧ a1 = nI p
  · obtain ⟨p, hp, e⟩ := c
    obtain ⟨M', e1, e2⟩ := m.1 p hp e
    obtain ⟨n, q1, q2⟩ := jp_E.out2 (x.1 p hp e) e2
    have q : mkE M M' := ⟨e1.sub (by simp), fun i _ => by rw [(e1 39 (by decide)).1]⟩
    exact ⟨n, _, M', q1, q2, R, H, k, h1.keepM q.f, h2.q q⟩
  · exact ⟨0, -1, M, x.2 c 0, m.2 c 0, R, H, k, h1, h2⟩
