/-! card; how many cards are enough; the deck of the graph -/
noncomputable def aS (R : Nat → Nat) (s : Nat) : Nat := fb_ct (anP (R 2) (acn (sD R) (R 3) s)) (2 ^ qg_tri (R 2))
theorem aS_le {R : Nat → Nat} (o : sOK R) (s : Nat) : aS R s ≤ 156 := Nat.le_trans (fb_ct_sub (fun k _ q => anP_sub k q)) (kinds_le o.d.1 o.d.2.1)
theorem s64 {R : Nat → Nat} (o : sOK R) {s : Nat} (hs : s < 2 ^ R 3) : s < 64 := by
  have h1 : 2 ^ R 3 ≤ 2 ^ 6 := Nat.pow_le_pow_right (by decide) (by have := o.d.2.1; have := o.d.2.2.1; omega)
  have e : (2 : Nat) ^ 6 = 64 := by decide
  omega
theorem x_ans {M : jm_M} {R : Nat → Nat} {H : Nat → Nat → Nat} {k s : Nat} (h : XI M R H k) (h0 : 0 < s) (hs : s < 2 ^ R 3) : ∃ M', fX M M' ∧ XI M' R H k ∧ jp_E (fun f => X0_find f 29 3 (nI s) 15 M = some (nI (aS R s), M')) := by
  have := s64 h.1 hs
  obtain ⟨M', Z, e1, e2, e3, e4, e5, e6, e7⟩ := x0_find h (show s < 2 ^ 31 by omega) (bits_pos h0 hs)
  exact ⟨M', fX.of e1 (by decide), h.fd e1 e2, e7⟩
theorem m_ans {M : jm_M} {R : Nat → Nat} {H : Nat → Nat → Nat} {k s : Nat} (h : MI M R H k) (hs : s < 2 ^ R 3) : ∃ M', fM M M' ∧ MI M' R H k ∧ jp_E (fun f => X9_answers f 39 (nI s) M = some (nI (aS R s), M')) := by
  have := s64 h.1 hs
  obtain ⟨M', e1, e2, e3⟩ := m_answers h (show s < 2 ^ 31 by omega)
  exact ⟨M', MI.tb e1, e2, e3⟩
theorem full_mask : ∀ m, qg_mask (fun _ => true) m = 2 ^ m - 1
  | 0 => rfl
  | m + 1 => by
    show qg_mask (fun _ => true) m + 1 * 2 ^ m = _
    rw [full_mask m, Nat.pow_succ]
    have := Nat.two_pow_pos m
    omega
theorem s4_eq {m v : Nat} (hm : m ≤ 6) (hv : v < m) : nI (2 ^ m - 1) &&& (((1 : Int32) <<< (nI v &&& 31)) ^^^ (-1 : Int32)) = nI (qg_mask (fun w => true && !(decide (w = v))) m) := by
  rw [← full_mask m, ni_clear (by omega) (by omega)]
theorem s4_pos {m v : Nat} (hm : 2 ≤ m) (hv : v < m) : 0 < qg_mask (fun w => true && !(decide (w = v))) m := by
  rcases Nat.eq_zero_or_pos (qg_mask (fun w => true && !(decide (w = v))) m) with q | q
  · exfalso
    have h1 : ∀ w, w < m → w ≠ v → False := fun w hw hne => by
      have := qg_mask_bit (fun w => true && !(decide (w = v))) m w
      rw [q, Nat.zero_testBit, decide_eq_true hw, decide_eq_false hne] at this
      exact absurd this (by decide)
    by_cases c : v = 0
    · exact h1 1 (by omega) (by omega)
    · exact h1 0 (by omega) (by omega)
  · exact q
theorem m_same {M : jm_M} {R : Nat → Nat} {H : Nat → Nat → Nat} {k v : Nat} (h : MI M R H k) (hv : v < R 3) : jp_E (fun f => X9_sameAs f 39 (nI v) M = some (nI (fb_ct (fun i => decide (sD R i = sD R v)) (R 3)))) := by
  have d := h.1.d
  obtain ⟨d1, d2, d3, d4, d5⟩ := id d
  have key := jp_K.for (body := X9_sameAs_B4 39 (nI v) M) (r := nI (fb_ct (fun i => decide (sD R i = sD R v)) (R 3))) (fun i => (nI (fb_ct (fun i => decide (sD R i = sD R v)) i), nI i)) (R 3) ?_ ?_ 0 (Nat.zero_le _)
  · refine jp_E.imp key (fun f e => ?_)
    unfold X9_sameAs
    rw [show ((0 : Int32), (0 : Int32)) = (nI (fb_ct (fun i => decide (sD R i = sD R v)) 0), nI 0) from rfl, e]; rfl
  · intro i hi
    have b1 := d.c28 hi
    have b2 := d.c28 hv
    unfold X9_sameAs_B4
    dsimp only
    rw [show jm_rf 39 0 = 40 from rfl, h.w3, Option.bind_some, if_neg (nI_ge hi (by omega)), h.w hi, Option.bind_some, h.w hv, Option.bind_some, fb_ct_succ]
    by_cases c : sD R i = sD R v
    · rw [if_pos (by rw [c]), decide_eq_true c, nI_1, nI_1]; rfl
    · rw [if_neg (fun q => c ((nI_eq (by omega) (by omega)).mp q)), decide_eq_false c, Int32.add_zero, nI_1]; rfl
  · unfold X9_sameAs_B4
    dsimp only
    rw [show jm_rf 39 0 = 40 from rfl, h.w3, Option.bind_some, if_pos (nI_le (Nat.le_refl _) (by omega))]
theorem s_12 : jl_S12 Inv := fun M a1 a2 _ ⟨R, H, k, h1, h2⟩ => by
  have d := h1.1.d
  obtain ⟨d1, d2, d3, d4, d5⟩ := id d
  by_cases c : ∃ v, v < R 3 ∧ a1 = nI v
  · obtain ⟨v, hv, rfl⟩ := c
    by_cases c0 : a2 = 0
    · subst c0
      refine cstep (F := fun f M => X8_card f 0 (nI v) 0 M) (G := fun f M => X9_card f 39 (nI v) 0 M) (r := nI (sD R v)) (CX.no (fun M hM => jp_E.all (fun f => ?_))) (CM.no (fun M hM => jp_E.all (fun f => ?_))) h1 h2
      · unfold X8_card
        rw [show jm_rf 0 1 = 3 from rfl, x3_has hM.d (by omega) hv, if_neg (show ¬ (1 : Int32) = 0 by decide), if_pos rfl, x3_at hM.d (by omega) hv]; rfl
      · unfold X9_card
        rw [m_isC (by omega) (hM.2.2.1 3 (by omega)) hv, Option.bind_some, if_neg (show ¬ (1 : Int32) = 0 by decide), show X9_isIn (0 : Int32) (0 : Int32) (4 : Int32) = 1 by decide, if_neg (show ¬ (1 : Int32) = 0 by decide), if_pos rfl, show jm_rf 39 0 = 40 from rfl, hM.w hv]; rfl
    by_cases c1 : a2 = 1
    · subst c1
      refine cstep (F := fun f M => X8_card f 0 (nI v) 1 M) (G := fun f M => X9_card f 39 (nI v) 1 M) (r := nI (qE (qg_ad (R 2 - 1) (sD R v)) (R 2 - 1))) (CX.no (fun M hM => jp_E.all (fun f => ?_))) (CM.no (fun M hM => (m_edges (n := R 2 - 1) (by omega) (d5 v hv).1).imp (fun f e => ?_))) h1 h2
      · unfold X8_card
        rw [show jm_rf 0 1 = 3 from rfl, x3_has hM.d (by omega) hv, if_neg (show ¬ (1 : Int32) = 0 by decide), if_neg (by decide), if_pos rfl, x3_at hM.d (by omega) hv, Option.bind_some, x_bc (by omega) (d5 v hv).1]
      · unfold X9_card
        rw [m_isC (by omega) (hM.2.2.1 3 (by omega)) hv, Option.bind_some, if_neg (show ¬ (1 : Int32) = 0 by decide), show X9_isIn (1 : Int32) (0 : Int32) (4 : Int32) = 1 by decide, if_neg (show ¬ (1 : Int32) = 0 by decide), if_neg (by decide), if_pos rfl, show jm_rf 39 0 = 40 from rfl, hM.w hv, Option.bind_some, e]; rfl
    by_cases c2 : a2 = 2
    · subst c2
      refine cstep (F := fun f M => X8_card f 0 (nI v) 2 M) (G := fun f M => X9_card f 39 (nI v) 2 M) (r := nI (fb_ct (fun i => decide (sD R i = sD R v)) (R 3))) (CX.no (fun M hM => (x3_often hM.d (by omega) (fun i hi => d.c28 hi) (d.c28 hv)).imp (fun f e => ?_))) (CM.no (fun M hM => (m_same hM hv).imp (fun f e => ?_))) h1 h2
      · unfold X8_card
        rw [show jm_rf 0 1 = 3 from rfl, x3_has hM.d (by omega) hv, if_neg (show ¬ (1 : Int32) = 0 by decide), if_neg (by decide), if_neg (by decide), if_pos rfl, x3_at hM.d (by omega) hv, Option.bind_some, e]; rfl
      · unfold X9_card
        rw [m_isC (by omega) (hM.2.2.1 3 (by omega)) hv, Option.bind_some, if_neg (show ¬ (1 : Int32) = 0 by decide), show X9_isIn (2 : Int32) (0 : Int32) (4 : Int32) = 1 by decide, if_neg (show ¬ (1 : Int32) = 0 by decide), if_neg (by decide), if_neg (by decide), if_pos rfl, e]; rfl
    by_cases c3 : a2 = 3
    · subst c3
      refine cstep (F := fun f M => X8_card f 0 (nI v) 3 M) (G := fun f M => X9_card f 39 (nI v) 3 M) (r := sdg (R 2) (R 3) (sD R) v) (R' := R) (H' := H) (k' := k) (fun M hM => ?_) (CM.no (fun M hM => (m_deg hM hv).imp (fun f e => ?_))) h1 h2
      · obtain ⟨M', e1, e2⟩ := x2_deg hM hv
        refine ⟨M', fX.of e1 (by decide), hM.p e1, e2.imp (fun f e => ?_)⟩
        show X8_card f 0 (nI v) 3 M = _
        unfold X8_card
        rw [show jm_rf 0 1 = 3 from rfl, x3_has hM.d (by omega) hv, if_neg (show ¬ (1 : Int32) = 0 by decide), if_neg (by decide), if_neg (by decide), if_neg (by decide), if_pos rfl, show jm_rf 0 5 = 25 from rfl, e]; rfl
      · unfold X9_card
        rw [m_isC (by omega) (hM.2.2.1 3 (by omega)) hv, Option.bind_some, if_neg (show ¬ (1 : Int32) = 0 by decide), show X9_isIn (3 : Int32) (0 : Int32) (4 : Int32) = 1 by decide, if_neg (show ¬ (1 : Int32) = 0 by decide), if_neg (by decide), if_neg (by decide), if_neg (by decide), if_pos rfl, e]; rfl
    by_cases c4 : a2 = 4
    · subst c4
      by_cases cm : R 3 = 1
      · refine cstep (F := fun f M => X8_card f 0 (nI v) 4 M) (G := fun f M => X9_card f 39 (nI v) 4 M) (r := -9) (CX.no (fun M hM => jp_E.all (fun f => ?_))) (CM.no (fun M hM => jp_E.all (fun f => ?_))) h1 h2
        · unfold X8_card X8_answersWithout X3_size
          rw [show jm_rf 0 1 = 3 from rfl, x3_has hM.d (by omega) hv, if_neg (show ¬ (1 : Int32) = 0 by decide), if_neg (by decide), if_neg (by decide), if_neg (by decide), if_neg (by decide), if_pos rfl, hM.d.1, cm, if_pos (show nI 1 = (1 : Int32) from rfl)]; rfl
        · unfold X9_card
          rw [m_isC (by omega) (hM.2.2.1 3 (by omega)) hv, Option.bind_some, if_neg (show ¬ (1 : Int32) = 0 by decide), show X9_isIn (4 : Int32) (0 : Int32) (4 : Int32) = 1 by decide, if_neg (show ¬ (1 : Int32) = 0 by decide), if_neg (by decide), if_neg (by decide), if_neg (by decide), if_neg (by decide), show jm_rf 39 0 = 40 from rfl, hM.w3, Option.bind_some, cm, if_pos (show nI 1 = (1 : Int32) from rfl)]
      · have hm1 : ¬ nI (R 3) = (1 : Int32) := fun q => cm ((ni_is1 (by omega)).mp q)
        have hp := s4_pos (show 2 ≤ R 3 by omega) hv
        have hl := qg_mask_lt (fun w => true && !(decide (w = v))) (R 3)
        refine cstep (F := fun f M => X8_card f 0 (nI v) 4 M) (G := fun f M => X9_card f 39 (nI v) 4 M) (r := nI (aS R (qg_mask (fun w => true && !(decide (w = v))) (R 3)))) (R' := R) (H' := H) (k' := k) (fun M hM => ?_) (fun M hM => ?_) h1 h2
        · obtain ⟨M', e1, e2, e3⟩ := x_ans hM hp hl
          refine ⟨M', e1, e2, e3.imp (fun f e => ?_)⟩
          show X8_card f 0 (nI v) 4 M = _
          unfold X8_card X8_answersWithout X3_size
          rw [show jm_rf 0 1 = 3 from rfl, x3_has hM.d (by omega) hv, if_neg (show ¬ (1 : Int32) = 0 by decide), if_neg (by decide), if_neg (by decide), if_neg (by decide), if_neg (by decide), if_pos rfl, hM.d.1, if_neg hm1, x3_every hM, s4_eq (by omega) hv, show jm_rf 0 6 = 29 from rfl, show jm_rf 0 3 = 15 from rfl, e]; rfl
        · obtain ⟨M', e1, e2, e3⟩ := m_ans hM hl
          refine ⟨M', e1, e2, e3.imp (fun f e => ?_)⟩
          show X9_card f 39 (nI v) 4 M = _
          unfold X9_card
          rw [m_isC (by omega) (hM.2.2.1 3 (by omega)) hv, Option.bind_some, if_neg (show ¬ (1 : Int32) = 0 by decide), show X9_isIn (4 : Int32) (0 : Int32) (4 : Int32) = 1 by decide, if_neg (show ¬ (1 : Int32) = 0 by decide), if_neg (by decide), if_neg (by decide), if_neg (by decide), if_neg (by decide), show jm_rf 39 0 = 40 from rfl, hM.w3, Option.bind_some, if_neg hm1, m_all hM, Option.bind_some, s4_eq (by omega) hv, e]; rfl
    refine cstep (F := fun f M => X8_card f 0 (nI v) a2 M) (G := fun f M => X9_card f 39 (nI v) a2 M) (r := -1) (CX.no (fun M hM => jp_E.all (fun f => ?_))) (CM.no (fun M hM => jp_E.all (fun f => ?_))) h1 h2
    · unfold X8_card
      rw [show jm_rf 0 1 = 3 from rfl, x3_has hM.d (by omega) hv, if_neg (show ¬ (1 : Int32) = 0 by decide), if_neg c0, if_neg c1, if_neg c2, if_neg c3, if_neg c4]
    · have hno : X9_isIn a2 (0 : Int32) (4 : Int32) = 0 := m_isIn (a := 0) (b := 4) (by decide) (by decide) (fun ⟨w, _, w2, w3⟩ => by
        rcases (show w = 0 ∨ w = 1 ∨ w = 2 ∨ w = 3 ∨ w = 4 by omega) with rfl | rfl | rfl | rfl | rfl
        · exact c0 w3
        · exact c1 w3
        · exact c2 w3
        · exact c3 w3
        · exact c4 w3)
      unfold X9_card
      rw [m_isC (by omega) (hM.2.2.1 3 (by omega)) hv, Option.bind_some, if_neg (show ¬ (1 : Int32) = 0 by decide), hno, if_pos rfl]
  · refine cstep (F := fun f M => X8_card f 0 a1 a2 M) (G := fun f M => X9_card f 39 a1 a2 M) (r := -1) (CX.no (fun M hM => jp_E.all (fun f => ?_))) (CM.no (fun M hM => jp_E.all (fun f => ?_))) h1 h2
    · unfold X8_card
      rw [show jm_rf 0 1 = 3 from rfl, x3_has_no hM.d c, if_pos rfl]
    · unfold X9_card
      rw [m_isC_no (by omega) (hM.2.2.1 3 (by omega)) c, Option.bind_some, if_pos rfl]
/-! a loop with an early end and a memory -/
theorem jp_L.forX {S Rr : Type} {body : Nat → S → Option (S ⊕ Rr)} {J : jm_M → Prop} (σ : Nat → jm_M → S) (ρ : jm_M → Rr) (ε : Nat → jm_M → Rr) (P : Nat → Prop) (a0 N : Nat) (hs : ∀ v M, a0 ≤ v → v < N → ¬ P v → J M → ∃ M', J M' ∧ jp_E (fun n => body n (σ v M) = some (.inl (σ (v + 1) M')))) (he : ∀ v M, a0 ≤ v → v < N → P v → J M → ∃ M', J M' ∧ jp_E (fun n => body n (σ v M) = some (.inr (ε v M')))) (hd : ∀ M, J M → jp_E (fun n => body n (σ N M) = some (.inr (ρ M)))) : ∀ M, a0 ≤ N → J M → (∃ v M', a0 ≤ v ∧ v < N ∧ P v ∧ (∀ u, a0 ≤ u → u < v → ¬ P u) ∧ J M' ∧ jp_L body (σ a0 M) (ε v M')) ∨ ((∀ v, a0 ≤ v → v < N → ¬ P v) ∧ ∃ M', J M' ∧ jp_L body (σ a0 M) (ρ M')) := by
  have key : ∀ j a M, a0 ≤ a → a + j = N → (∀ u, a0 ≤ u → u < a → ¬ P u) → J M → (∃ v M', a0 ≤ v ∧ v < N ∧ P v ∧ (∀ u, a0 ≤ u → u < v → ¬ P u) ∧ J M' ∧ jp_L body (σ a M) (ε v M')) ∨ ((∀ v, a0 ≤ v → v < N → ¬ P v) ∧ ∃ M', J M' ∧ jp_L body (σ a M) (ρ M')) := by
    intro j
    induction j with
    | zero =>
      intro a M h0 h hlow hJ
      obtain rfl : a = N := by omega
      exact Or.inr ⟨hlow, M, hJ, jp_L.done (hd M hJ)⟩
    | succ j ih =>
      intro a M h0 h hlow hJ
      by_cases c : P a
      · obtain ⟨M', h1, h2⟩ := he a M h0 (by omega) c hJ
        exact Or.inl ⟨a, M', h0, by omega, c, hlow, h1, jp_L.done h2⟩
      · obtain ⟨M1, h1, h2⟩ := hs a M h0 (by omega) c hJ
        rcases ih (a + 1) M1 (by omega) (by omega) (fun u w1 w2 => by
          by_cases e : u = a
          · rw [e]; exact c
          · exact hlow u w1 (by omega)) h1 with ⟨v, M', w1, w2, w3, w4, w5, w6⟩ | ⟨w1, M', w2, w3⟩
        · exact Or.inl ⟨v, M', w1, w2, w3, w4, w5, jp_L.step h2 w6⟩
        · exact Or.inr ⟨w1, M', w2, jp_L.step h2 w3⟩
  exact fun M h hJ => key (N - a0) a0 M (Nat.le_refl _) (by omega) (fun u w1 w2 => by omega) hJ
