/-! deck: the step -/
theorem sid_01 (R : Nat → Nat) : sid R = 0 ∨ sid R = 1 := by
  unfold sid
  split
  · split
    · exact Or.inr rfl
    · exact Or.inl rfl
  · exact Or.inl rfl
theorem s_13 : jl_S13 Inv := fun M a1 _ _ ⟨R, H, k, h1, h2⟩ => by
  have o := h1.1
  have d := o.d
  obtain ⟨d1, d2, d3, d4, d5⟩ := id d
  by_cases c0 : a1 = 0
  · subst c0
    refine cstep (F := fun f M => X8_deck f 0 0 M) (G := fun f M => X9_deck f 39 0 M) (r := nI (R 2)) (CX.no (fun M hM => jp_E.all (fun f => ?_))) (CM.no (fun M hM => jp_E.all (fun f => ?_))) h1 h2
    · unfold X8_deck X3_h
      rw [if_neg (by decide), if_neg (by decide), if_pos rfl, show jm_rf 0 1 = 3 from rfl, hM.h]
    · unfold X9_deck
      rw [show X9_isIn (0 : Int32) (0 : Int32) (8 : Int32) = 1 by decide, if_neg (by decide), show X9_isIn (0 : Int32) (6 : Int32) (7 : Int32) = 0 by decide, if_pos rfl, if_pos rfl, show jm_rf 39 0 = 40 from rfl, hM.w2]; rfl
  by_cases c1 : a1 = 1
  · subst c1
    refine cstep (F := fun f M => X8_deck f 0 1 M) (G := fun f M => X9_deck f 39 1 M) (r := nI (R 3)) (CX.no (fun M hM => jp_E.all (fun f => ?_))) (CM.no (fun M hM => jp_E.all (fun f => ?_))) h1 h2
    · unfold X8_deck X3_size
      rw [if_neg (by decide), if_neg (by decide), if_neg (by decide), if_pos rfl, show jm_rf 0 1 = 3 from rfl, hM.d.1]
    · unfold X9_deck
      rw [show X9_isIn (1 : Int32) (0 : Int32) (8 : Int32) = 1 by decide, if_neg (by decide), show X9_isIn (1 : Int32) (6 : Int32) (7 : Int32) = 0 by decide, if_pos rfl, if_neg (by decide), if_pos rfl, show jm_rf 39 0 = 40 from rfl, hM.w3]; rfl
  by_cases c2 : a1 = 2
  · subst c2
    refine cstep (F := fun f M => X8_deck f 0 2 M) (G := fun f M => X9_deck f 39 2 M) (r := nI (fb_ct (dnd (sD R)) (R 3))) (CX.no (fun M hM => (x3_diff hM.d (by omega) (fun i hi => d.c28 hi)).imp (fun f e => ?_))) (CM.no (fun M hM => (m_diffH hM).imp (fun f e => ?_))) h1 h2
    · unfold X8_deck
      rw [if_neg (by decide), if_neg (by decide), if_neg (by decide), if_neg (by decide), if_pos rfl, show jm_rf 0 1 = 3 from rfl, e]; rfl
    · unfold X9_deck
      rw [show X9_isIn (2 : Int32) (0 : Int32) (8 : Int32) = 1 by decide, if_neg (by decide), show X9_isIn (2 : Int32) (6 : Int32) (7 : Int32) = 0 by decide, if_pos rfl, if_neg (by decide), if_neg (by decide), if_pos rfl, e]; rfl
  by_cases c3 : a1 = 3
  · subst c3
    refine cstep (F := fun f M => X8_deck f 0 3 M) (G := fun f M => X9_deck f 39 3 M) (r := nI (R 2 - R 3)) (CX.no (fun M hM => jp_E.all (fun f => ?_))) (CM.no (fun M hM => jp_E.all (fun f => ?_))) h1 h2
    · unfold X8_deck
      rw [if_neg (by decide), if_neg (by decide), if_neg (by decide), if_neg (by decide), if_neg (by decide), if_pos rfl, show jm_rf 0 1 = 3 from rfl, x3_lost hM]
    · unfold X9_deck
      rw [show X9_isIn (3 : Int32) (0 : Int32) (8 : Int32) = 1 by decide, if_neg (by decide), show X9_isIn (3 : Int32) (6 : Int32) (7 : Int32) = 0 by decide, if_pos rfl, if_neg (by decide), if_neg (by decide), if_neg (by decide), if_pos rfl, show jm_rf 39 0 = 40 from rfl, hM.w2, Option.bind_some, hM.w3, Option.bind_some, nI_sub d3]
  by_cases c4 : a1 = 4
  · subst c4
    refine cstep (F := fun f M => X8_deck f 0 4 M) (G := fun f M => X9_deck f 39 4 M) (r := pcs (R 2) (R 3) (sD R) 0) (R' := R) (H' := H) (k' := k) (fun M hM => ?_) (CM.no (fun M hM => (m_eCnt hM).imp (fun f e => ?_))) h1 h2
    · obtain ⟨M', e1, e2⟩ := x2_edges hM
      refine ⟨M', fX.of e1 (by decide), hM.p e1, e2.imp (fun f e => ?_)⟩
      show X8_deck f 0 4 M = _
      unfold X8_deck
      rw [if_neg (by decide), if_neg (by decide), if_neg (by decide), if_neg (by decide), if_neg (by decide), if_neg (by decide), if_pos rfl, show jm_rf 0 1 = 3 from rfl, show jm_rf 0 5 = 25 from rfl, e]; rfl
    · unfold X9_deck
      rw [show X9_isIn (4 : Int32) (0 : Int32) (8 : Int32) = 1 by decide, if_neg (by decide), show X9_isIn (4 : Int32) (6 : Int32) (7 : Int32) = 0 by decide, if_pos rfl, if_neg (by decide), if_neg (by decide), if_neg (by decide), if_neg (by decide), if_pos rfl, e]; rfl
  by_cases c5 : a1 = 5
  · subst c5
    refine cstep (F := fun f M => X8_deck f 0 5 M) (G := fun f M => X9_deck f 39 5 M) (r := sft (R 2) (R 3) (sD R)) (R' := R) (H' := H) (k' := k) (fun M hM => ?_) (fun M hM => ?_) h1 h2
    · obtain ⟨M', e1, e2⟩ := x2_first hM
      refine ⟨M', fX.of e1 (by decide), hM.of e1 (by decide) (hM.2.2.2.2.keep (e1 21 (by decide)).1 (e1 22 (by decide)).1), e2.imp (fun f e => ?_)⟩
      show X8_deck f 0 5 M = _
      unfold X8_deck
      rw [if_neg (by decide), if_neg (by decide), if_neg (by decide), if_neg (by decide), if_neg (by decide), if_neg (by decide), if_neg (by decide), if_pos rfl, show jm_rf 0 1 = 3 from rfl, show jm_rf 0 5 = 25 from rfl, e]; rfl
    · obtain ⟨M', e1, e2⟩ := m_first hM
      refine ⟨M', fM.of e1 (by decide), hM.d51 e1, e2.imp (fun f e => ?_)⟩
      show X9_deck f 39 5 M = _
      unfold X9_deck
      rw [show X9_isIn (5 : Int32) (0 : Int32) (8 : Int32) = 1 by decide, if_neg (by decide), show X9_isIn (5 : Int32) (6 : Int32) (7 : Int32) = 0 by decide, if_pos rfl, if_neg (by decide), if_neg (by decide), if_neg (by decide), if_neg (by decide), if_neg (by decide), if_pos rfl, e]; rfl
  by_cases c6 : a1 = 6
  · subst c6
    by_cases cm : R 3 = 0
    · refine cstep (F := fun f M => X8_deck f 0 6 M) (G := fun f M => X9_deck f 39 6 M) (r := -2) (CX.no (fun M hM => jp_E.all (fun f => ?_))) (CM.no (fun M hM => jp_E.all (fun f => ?_))) h1 h2
      · unfold X8_deck X3_size
        rw [if_pos rfl, show jm_rf 0 1 = 3 from rfl, hM.d.1, cm, if_pos (show nI 0 = (0 : Int32) from rfl)]
      · unfold X9_deck
        rw [show X9_isIn (6 : Int32) (0 : Int32) (8 : Int32) = 1 by decide, if_neg (by decide), show X9_isIn (6 : Int32) (6 : Int32) (7 : Int32) = 1 by decide, if_neg (by decide), show jm_rf 39 0 = 40 from rfl, hM.w3, Option.bind_some, cm, if_pos (show nI 0 = (0 : Int32) from rfl)]
    · have hm0 : ¬ nI (R 3) = (0 : Int32) := nI_ne0 (by omega) (by omega)
      have hp := p2_pos (show 0 < R 3 by omega)
      refine cstep (F := fun f M => X8_deck f 0 6 M) (G := fun f M => X9_deck f 39 6 M) (r := nI (aS R (2 ^ R 3 - 1))) (R' := R) (H' := H) (k' := k) (fun M hM => ?_) (fun M hM => ?_) h1 h2
      · obtain ⟨M', e1, e2, e3⟩ := x_ans hM hp (by omega)
        refine ⟨M', e1, e2, e3.imp (fun f e => ?_)⟩
        show X8_deck f 0 6 M = _
        unfold X8_deck X3_size
        rw [if_pos rfl, show jm_rf 0 1 = 3 from rfl, show jm_rf 0 6 = 29 from rfl, show jm_rf 0 3 = 15 from rfl, hM.d.1, if_neg hm0, if_neg (by decide), if_neg (by decide), if_neg (by decide), if_neg (by decide), if_neg (by decide), if_neg (by decide), if_pos rfl, x3_every hM, e]; rfl
      · obtain ⟨M', e1, e2, e3⟩ := m_ans hM (show 2 ^ R 3 - 1 < 2 ^ R 3 by omega)
        refine ⟨M', e1, e2, e3.imp (fun f e => ?_)⟩
        show X9_deck f 39 6 M = _
        unfold X9_deck
        rw [show X9_isIn (6 : Int32) (0 : Int32) (8 : Int32) = 1 by decide, if_neg (by decide), show X9_isIn (6 : Int32) (6 : Int32) (7 : Int32) = 1 by decide, if_neg (by decide), show jm_rf 39 0 = 40 from rfl, hM.w3, Option.bind_some, if_neg hm0, if_neg (by decide), if_neg (by decide), if_neg (by decide), if_neg (by decide), if_neg (by decide), if_neg (by decide), if_pos rfl, m_all hM, Option.bind_some, e]; rfl
  by_cases c7 : a1 = 7
  · subst c7
    by_cases cm : R 3 = 0
    · refine cstep (F := fun f M => X8_deck f 0 7 M) (G := fun f M => X9_deck f 39 7 M) (r := -2) (CX.no (fun M hM => jp_E.all (fun f => ?_))) (CM.no (fun M hM => jp_E.all (fun f => ?_))) h1 h2
      · unfold X8_deck X3_size
        rw [if_neg (by decide), if_pos rfl, show jm_rf 0 1 = 3 from rfl, hM.d.1, cm, if_pos (show nI 0 = (0 : Int32) from rfl)]
      · unfold X9_deck
        rw [show X9_isIn (7 : Int32) (0 : Int32) (8 : Int32) = 1 by decide, if_neg (by decide), show X9_isIn (7 : Int32) (6 : Int32) (7 : Int32) = 1 by decide, if_neg (by decide), show jm_rf 39 0 = 40 from rfl, hM.w3, Option.bind_some, cm, if_pos (show nI 0 = (0 : Int32) from rfl)]
    · have hm0 : ¬ nI (R 3) = (0 : Int32) := nI_ne0 (by omega) (by omega)
      refine cstep (F := fun f M => X8_deck f 0 7 M) (G := fun f M => X9_deck f 39 7 M) (r := enq R) (R' := R) (H' := H) (k' := k) (fun M hM => ?_) (fun M hM => ?_) h1 h2
      · obtain ⟨M', e1, e2, e3⟩ := x_enough hM (by omega)
        refine ⟨M', e1, e2, e3.imp (fun f e => ?_)⟩
        show X8_deck f 0 7 M = _
        unfold X8_deck X3_size
        rw [if_neg (by decide), if_pos rfl, show jm_rf 0 1 = 3 from rfl, hM.d.1, if_neg hm0, if_neg (by decide), if_neg (by decide), if_neg (by decide), if_neg (by decide), if_neg (by decide), if_neg (by decide), if_neg (by decide), if_pos rfl, e]; rfl
      · obtain ⟨M', e1, e2, e3⟩ := m_enough hM (by omega)
        refine ⟨M', e1, e2, e3.imp (fun f e => ?_)⟩
        show X9_deck f 39 7 M = _
        unfold X9_deck
        rw [show X9_isIn (7 : Int32) (0 : Int32) (8 : Int32) = 1 by decide, if_neg (by decide), show X9_isIn (7 : Int32) (6 : Int32) (7 : Int32) = 1 by decide, if_neg (by decide), show jm_rf 39 0 = 40 from rfl, hM.w3, Option.bind_some, if_neg hm0, if_neg (by decide), if_neg (by decide), if_neg (by decide), if_neg (by decide), if_neg (by decide), if_neg (by decide), if_neg (by decide), if_pos rfl, e]; rfl
  by_cases c8 : a1 = 8
  · subst c8
    refine cstep (F := fun f M => X8_deck f 0 8 M) (G := fun f M => X9_deck f 39 8 M) (r := sid R) (R' := R) (H' := H) (k' := k) (fun M hM => ?_) (fun M hM => ?_) h1 h2
    · obtain ⟨M', e1, e2, e3⟩ := x_sid hM
      refine ⟨M', e1, e2, e3.imp (fun f e => ?_)⟩
      show X8_deck f 0 8 M = _
      unfold X8_deck
      rw [if_neg (by decide), if_neg (by decide), if_neg (by decide), if_neg (by decide), if_neg (by decide), if_neg (by decide), if_neg (by decide), if_neg (by decide), if_neg (by decide), if_neg (by decide), if_pos rfl, e, Option.bind_some]
      dsimp only
      rcases sid_01 R with q | q
      · rw [q, if_pos rfl]
      · rw [q, if_neg (by decide)]
    · obtain ⟨M', e1, e2, e3⟩ := m_sid hM
      refine ⟨M', e1, e2, e3.imp (fun f e => ?_)⟩
      show X9_deck f 39 8 M = _
      unfold X9_deck
      rw [show X9_isIn (8 : Int32) (0 : Int32) (8 : Int32) = 1 by decide, if_neg (by decide), show X9_isIn (8 : Int32) (6 : Int32) (7 : Int32) = 0 by decide, if_pos rfl, if_neg (by decide), if_neg (by decide), if_neg (by decide), if_neg (by decide), if_neg (by decide), if_neg (by decide), if_neg (by decide), if_neg (by decide), e]; rfl
  refine cstep (F := fun f M => X8_deck f 0 a1 M) (G := fun f M => X9_deck f 39 a1 M) (r := -1) (CX.no (fun M hM => jp_E.all (fun f => ?_))) (CM.no (fun M hM => jp_E.all (fun f => ?_))) h1 h2
  · unfold X8_deck
    rw [if_neg c6, if_neg c7, if_neg c0, if_neg c1, if_neg c2, if_neg c3, if_neg c4, if_neg c5, if_neg c6, if_neg c7, if_neg c8]
  · have hno : X9_isIn a1 (0 : Int32) (8 : Int32) = 0 := m_isIn (a := 0) (b := 8) (by decide) (by decide) (fun ⟨w, _, w2, w3⟩ => by
      rcases (show w = 0 ∨ w = 1 ∨ w = 2 ∨ w = 3 ∨ w = 4 ∨ w = 5 ∨ w = 6 ∨ w = 7 ∨ w = 8 by omega) with rfl | rfl | rfl | rfl | rfl | rfl | rfl | rfl | rfl
      · exact c0 w3
      · exact c1 w3
      · exact c2 w3
      · exact c3 w3
      · exact c4 w3
      · exact c5 w3
      · exact c6 w3
      · exact c7 w3
      · exact c8 w3)
    unfold X9_deck
    rw [hno, if_pos rfl]
/-! the start -/
def R0 (j : Nat) : Nat := if j = 0 ∨ j = 2 then 4 else 0
theorem R0_ok : sOK R0 := ⟨by decide, by decide, by decide, by decide, by decide, by decide, fun i j _ q => absurd q (Nat.not_lt_zero j), fun i q => absurd q (Nat.not_lt_zero i)⟩
theorem inv0 : Inv jm_M0 := by
  refine ⟨R0, fun _ _ => 0, 0, ⟨R0_ok, fun i q => absurd q (Nat.not_lt_zero i), ⟨⟨rfl, fun v hv => ?_⟩, rfl, ⟨rfl, fun i q => absurd q (Nat.not_lt_zero i)⟩⟩, ⟨by decide, rfl, 0, by decide, rfl, fun i q => absurd q (Nat.not_lt_zero i)⟩, fun j _ => Or.inl rfl⟩, ⟨R0_ok, fun i q => absurd q (Nat.not_lt_zero i), fun j hj => ?_, ⟨by decide, rfl, fun i q => absurd q (Nat.not_lt_zero i)⟩, 0, rfl, Or.inl rfl⟩⟩
  · have hv4 : v < 4 := hv
    have e : ∀ v, v < 4 → (0 : Int32) = nI (qg_mask (qg_ad 4 0 v) 4) := by decide +kernel
    exact e v hv4
  · have hj4 : j < 4 := hj
    rcases (show j = 0 ∨ j = 1 ∨ j = 2 ∨ j = 3 by omega) with rfl | rfl | rfl | rfl <;> rfl
