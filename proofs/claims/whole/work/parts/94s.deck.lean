/-! how many cards are enough -/
def b10 (s : Nat) : Nat := fb_ct (fun u => s.testBit u) 10
theorem b10_pos : ∀ s, s < 64 → 0 < s → 0 < b10 s := by decide +kernel
theorem b10_le : ∀ s, s < 64 → b10 s ≤ 6 := by decide +kernel
theorem b10_all : ∀ m, m < 7 → b10 (2 ^ m - 1) = m := by decide +kernel
theorem x_b10 {s : Nat} (h : s < 64) : J6_bitCount_0f7a4 (nI s) = nI (b10 s) := ni_bc s (by omega)
theorem m_b10 {s : Nat} (h : s < 64) : jp_E (fun f => X9_bits f (nI s) = some (nI (b10 s))) := by
  refine (m_bits (show s < 2 ^ 31 by omega)).imp (fun f e => ?_)
  rw [e]
  congr 2
  have h2 := fb_ct_split (fun u => s.testBit u) 10 20
  have h3 : fb_ct (fun k => s.testBit (10 + k)) 20 = 0 := fb_ct_zero.mpr (fun k _ => Nat.testBit_lt_two_pow (Nat.lt_of_lt_of_le (show s < 2 ^ 10 by omega) (Nat.pow_le_pow_right (by decide) (by omega))))
  rw [h3, Nat.add_zero] at h2
  exact h2
noncomputable def lmn (R : Nat → Nat) : Nat → Nat
  | 0 => R 3
  | j + 1 => if pd (b10 (j + 1) < lmn R j ∧ aS R (j + 1) = 1) then b10 (j + 1) else lmn R j
theorem lmn_spec (R : Nat → Nat) : ∀ j, lmn R j ≤ R 3 ∧ (lmn R j = R 3 ∨ ∃ v, 1 ≤ v ∧ v ≤ j ∧ b10 v = lmn R j ∧ aS R v = 1) ∧ ∀ v, 1 ≤ v → v ≤ j → aS R v = 1 → lmn R j ≤ b10 v
  | 0 => ⟨Nat.le_refl _, Or.inl rfl, fun v h1 h2 => by omega⟩
  | j + 1 => by
    obtain ⟨h1, h2, h3⟩ := lmn_spec R j
    unfold lmn
    by_cases c : b10 (j + 1) < lmn R j ∧ aS R (j + 1) = 1
    · rw [if_pos (pd_t.mpr c)]
      refine ⟨by omega, Or.inr ⟨j + 1, by omega, Nat.le_refl _, rfl, c.2⟩, fun v w1 w2 w3 => ?_⟩
      by_cases e : v = j + 1
      · rw [e]; exact Nat.le_refl _
      · have := h3 v w1 (by omega) w3; omega
    · rw [if_neg (fun q => c (pd_t.mp q))]
      refine ⟨h1, ?_, fun v w1 w2 w3 => ?_⟩
      · rcases h2 with w | ⟨v, w1, w2, w3, w4⟩
        · exact Or.inl w
        · exact Or.inr ⟨v, w1, by omega, w3, w4⟩
      · by_cases e : v = j + 1
        · rw [e] at w3 ⊢
          exact Nat.le_of_not_lt (fun q => c ⟨q, w3⟩)
        · exact h3 v w1 (by omega) w3
/-- what both sides answer -/
noncomputable def enq (R : Nat → Nat) : Int32 := if R 2 = 6 ∨ aS R (2 ^ R 3 - 1) ≠ 1 then -9 else nI (lmn R (2 ^ R 3 - 1))
theorem p2_pos {m : Nat} (h : 0 < m) : 0 < 2 ^ m - 1 := by
  have h1 : 2 ^ 1 ≤ 2 ^ m := Nat.pow_le_pow_right (by decide) h
  omega
theorem x_every_any {M : jm_M} {R : Nat → Nat} {H : Nat → Nat → Nat} {k : Nat} (h : XI M R H k) : X3_everyCard 3 M = nI (2 ^ R 3 - 1) := x3_every h
theorem lmn_is {R : Nat → Nat} (o : sOK R) {q : Nat} (hq1 : 1 ≤ q) (hq : q ≤ R 3) (h1 : q = R 3 ∨ ∃ v, 1 ≤ v ∧ v < 2 ^ R 3 - 1 ∧ b10 v = q ∧ aS R v = 1) (h2 : ∀ u, 1 ≤ u → u < q → ¬ ∃ v, 1 ≤ v ∧ v < 2 ^ R 3 - 1 ∧ b10 v = u ∧ aS R v = 1) : lmn R (2 ^ R 3 - 1) = q := by
  obtain ⟨a1, a2, a3⟩ := lmn_spec R (2 ^ R 3 - 1)
  have hm6 : R 3 < 7 := by have := o.d.2.1; have := o.d.2.2.1; omega
  have hle : lmn R (2 ^ R 3 - 1) ≤ q := by
    rcases h1 with e | ⟨v, v1, v2, v3, v4⟩
    · omega
    · rw [← v3]; exact a3 v v1 (by omega) v4
  rcases Nat.lt_or_ge (lmn R (2 ^ R 3 - 1)) q with w | w
  · exfalso
    obtain ⟨v, v1, v2, v3, v4⟩ := a2.resolve_left (by omega)
    have hp := Nat.two_pow_pos (R 3)
    have hv64 := s64 o (show v < 2 ^ R 3 by omega)
    have hpos := b10_pos v hv64 v1
    have hne : v ≠ 2 ^ R 3 - 1 := fun e => by
      have := b10_all (R 3) hm6
      rw [← e] at this
      omega
    exact h2 (lmn R (2 ^ R 3 - 1)) (by omega) w ⟨v, v1, by omega, v3, v4⟩
  · omega
theorem x_enough {M : jm_M} {R : Nat → Nat} {H : Nat → Nat → Nat} {k : Nat} (h : XI M R H k) (hm : 0 < R 3) : ∃ M', fX M M' ∧ XI M' R H k ∧ jp_E (fun f => X8_enoughCards f 0 M = some (enq R, M')) := by
  have o := h.1
  obtain ⟨d1, d2, d3, d4, d5⟩ := o.d
  have hp := p2_pos hm
  have hp64 := s64 o (show 2 ^ R 3 - 1 < 2 ^ R 3 by omega)
  by_cases c6 : R 2 = 6
  · refine ⟨M, fX.rfl', h, jp_E.all (fun f => ?_)⟩
    unfold X8_enoughCards X3_h enq
    rw [show jm_rf 0 1 = 3 from rfl, h.h, if_pos (by rw [c6]; rfl), if_pos (Or.inl c6)]
  · have h6 : ¬ nI (R 2) = (6 : Int32) := fun q => c6 ((nI_eq (b := 6) (by omega) (by decide)).mp q)
    obtain ⟨M1, e1, e2, e3⟩ := x_ans h hp (by omega)
    have hal := aS_le o (2 ^ R 3 - 1)
    by_cases ca : aS R (2 ^ R 3 - 1) = 1
    · have hinner : ∀ many M2, 1 ≤ many → many < R 3 → (fX M M2 ∧ XI M2 R H k) → ((∃ v M', 1 ≤ v ∧ v < 2 ^ R 3 - 1 ∧ (b10 v = many ∧ aS R v = 1) ∧ (∀ u, 1 ≤ u → u < v → ¬ (b10 u = many ∧ aS R u = 1)) ∧ (fX M M' ∧ XI M' R H k) ∧ jp_L (fun f => X8_enoughCards_B56 f 0 (nI many)) (nI 1, M2) (.inl (nI many, M'))) ∨ ((∀ v, 1 ≤ v → v < 2 ^ R 3 - 1 → ¬ (b10 v = many ∧ aS R v = 1)) ∧ ∃ M', (fX M M' ∧ XI M' R H k) ∧ jp_L (fun f => X8_enoughCards_B56 f 0 (nI many)) (nI 1, M2) (.inr M'))) := by
        intro many M2 hm1 hmm hJ
        refine jp_L.forX (body := fun f => X8_enoughCards_B56 f 0 (nI many)) (J := fun M3 => fX M M3 ∧ XI M3 R H k) (fun v M3 => (nI v, M3)) (fun M3 => .inr M3) (fun _ M3 => .inl (nI many, M3)) (fun v => b10 v = many ∧ aS R v = 1) 1 (2 ^ R 3 - 1) ?_ ?_ ?_ M2 (by omega) hJ
        · intro v M3 hv1 hv2 hn hJ3
          have hv64 : v < 64 := by omega
          have hb := b10_le v hv64
          by_cases cb : b10 v = many
          · obtain ⟨M4, f1, f2, f3⟩ := x_ans hJ3.2 (show 0 < v by omega) (by omega)
            have hal2 := aS_le o v
            refine ⟨M4, ⟨hJ3.1.trans f1, f2⟩, f3.imp (fun f r => ?_)⟩
            unfold X8_enoughCards_B56
            dsimp only
            rw [show jm_rf 0 1 = 3 from rfl, show jm_rf 0 6 = 29 from rfl, show jm_rf 0 3 = 15 from rfl, x3_every hJ3.2, if_neg (nI_ge hv2 (by omega)), x_b10 hv64, cb, if_pos rfl, r, Option.bind_some]
            dsimp only
            rw [if_neg (show ¬ nI (aS R v) = (1 : Int32) from fun q => hn ⟨cb, (nI_eq (b := 1) (by omega) (by decide)).mp q⟩), nI_1]
          · refine ⟨M3, hJ3, jp_E.all (fun f => ?_)⟩
            unfold X8_enoughCards_B56
            dsimp only
            rw [show jm_rf 0 1 = 3 from rfl, x3_every hJ3.2, if_neg (nI_ge hv2 (by omega)), x_b10 hv64, if_neg (fun q => cb ((nI_eq (by omega) (by omega)).mp q)), nI_1]
        · intro v M3 hv1 hv2 hn hJ3
          have hv64 : v < 64 := by omega
          obtain ⟨M4, f1, f2, f3⟩ := x_ans hJ3.2 (show 0 < v by omega) (by omega)
          refine ⟨M4, ⟨hJ3.1.trans f1, f2⟩, f3.imp (fun f r => ?_)⟩
          unfold X8_enoughCards_B56
          dsimp only
          rw [show jm_rf 0 1 = 3 from rfl, show jm_rf 0 6 = 29 from rfl, show jm_rf 0 3 = 15 from rfl, x3_every hJ3.2, if_neg (nI_ge hv2 (by omega)), x_b10 hv64, hn.1, if_pos rfl, r, Option.bind_some]
          dsimp only
          rw [if_pos (show nI (aS R v) = (1 : Int32) by rw [hn.2]; rfl)]
        · intro M3 hJ3
          refine jp_E.all (fun f => ?_)
          unfold X8_enoughCards_B56
          dsimp only
          rw [show jm_rf 0 1 = 3 from rfl, x3_every hJ3.2, if_pos (nI_le (Nat.le_refl _) (by omega))]
      have houter := jp_L.forX (body := fun f => X8_enoughCards_B43 f 0) (J := fun M3 => fX M M3 ∧ XI M3 R H k) (fun v M3 => (nI v, M3)) (fun M3 => .inr M3) (fun v M3 => .inl (nI v, M3)) (fun many => ∃ v, 1 ≤ v ∧ v < 2 ^ R 3 - 1 ∧ b10 v = many ∧ aS R v = 1) 1 (R 3) ?_ ?_ ?_ M1 (by omega) ⟨e1, e2⟩
      · have hfin : ∀ q M', (∃ r, jp_L (fun f => X8_enoughCards_B43 f 0) (nI 1, M1) r ∧ ((r = .inl (nI q, M')) ∨ (r = .inr M' ∧ q = R 3 ∧ XI M' R H k))) → lmn R (2 ^ R 3 - 1) = q → jp_E (fun f => X8_enoughCards f 0 M = some (enq R, M')) := by
          rintro q M' ⟨r, hr, hr2⟩ hl
          refine jp_E.imp2 e3 hr.use (fun f r1 r2 => ?_)
          unfold X8_enoughCards X3_h enq
          rw [show jm_rf 0 1 = 3 from rfl, show jm_rf 0 6 = 29 from rfl, show jm_rf 0 3 = 15 from rfl, h.h, if_neg h6, x3_every h, r1, Option.bind_some]
          dsimp only
          rw [if_pos (show nI (aS R (2 ^ R 3 - 1)) = (1 : Int32) by rw [ca]; rfl), show (1 : Int32) = nI 1 from rfl, r2, Option.bind_some, if_neg (fun w => w.elim c6 (fun w2 => w2 ca)), hl]
          rcases hr2 with rfl | ⟨rfl, hq, hx⟩
          · rfl
          · show some (X3_size 3 M', M') = _
            unfold X3_size
            rw [hx.d.1, hq]
        rcases houter with ⟨v, M', w1, w2, w3, w4, w5, w6⟩ | ⟨w1, M', w2, w3⟩
        · exact ⟨M', w5.1, w5.2, hfin v M' ⟨_, w6, Or.inl rfl⟩ (lmn_is o w1 (by omega) (Or.inr w3) w4)⟩
        · exact ⟨M', w2.1, w2.2, hfin (R 3) M' ⟨_, w3, Or.inr ⟨rfl, rfl, w2.2⟩⟩ (lmn_is o (by omega) (Nat.le_refl _) (Or.inl rfl) w1)⟩
      · intro many M2 hm1 hmm hn hJ
        rcases hinner many M2 hm1 hmm hJ with ⟨v, M', w1, w2, w3, _, _, _⟩ | ⟨w1, M', w2, w3⟩
        · exact absurd ⟨v, w1, w2, w3.1, w3.2⟩ hn
        · refine ⟨M', w2, w3.use.imp (fun f r => ?_)⟩
          unfold X8_enoughCards_B43 X3_size
          dsimp only
          rw [show jm_rf 0 1 = 3 from rfl, hJ.2.d.1, if_neg (nI_ge hmm (by omega)), show (1 : Int32) = nI 1 from rfl, r, Option.bind_some, nI_add]; rfl
      · intro many M2 hm1 hmm ⟨v, v1, v2, v3, v4⟩ hJ
        rcases hinner many M2 hm1 hmm hJ with ⟨u, M', w1, w2, w3, _, w5, w6⟩ | ⟨w1, _⟩
        · refine ⟨M', w5, w6.use.imp (fun f r => ?_)⟩
          unfold X8_enoughCards_B43 X3_size
          dsimp only
          rw [show jm_rf 0 1 = 3 from rfl, hJ.2.d.1, if_neg (nI_ge hmm (by omega)), show (1 : Int32) = nI 1 from rfl, r, Option.bind_some]; rfl
        · exact absurd ⟨v3, v4⟩ (w1 v v1 v2)
      · intro M2 hJ
        refine jp_E.all (fun f => ?_)
        unfold X8_enoughCards_B43 X3_size
        dsimp only
        rw [show jm_rf 0 1 = 3 from rfl, hJ.2.d.1, if_pos (nI_le (Nat.le_refl _) (by omega))]
    · refine ⟨M1, e1, e2, e3.imp (fun f r => ?_)⟩
      unfold X8_enoughCards X3_h enq
      rw [show jm_rf 0 1 = 3 from rfl, show jm_rf 0 6 = 29 from rfl, show jm_rf 0 3 = 15 from rfl, h.h, if_neg h6, x3_every h, r, Option.bind_some]
      dsimp only
      rw [if_neg (show ¬ nI (aS R (2 ^ R 3 - 1)) = (1 : Int32) from fun q => ca ((nI_eq (b := 1) (by omega) (by decide)).mp q)), if_pos (Or.inr ca)]
theorem m_enough {M : jm_M} {R : Nat → Nat} {H : Nat → Nat → Nat} {k : Nat} (h : MI M R H k) (hm : 0 < R 3) : ∃ M', fM M M' ∧ MI M' R H k ∧ jp_E (fun f => X9_enough f 39 M = some (enq R, M')) := by
  have o := h.1
  obtain ⟨d1, d2, d3, d4, d5⟩ := o.d
  have hp := p2_pos hm
  have hp64 := s64 o (show 2 ^ R 3 - 1 < 2 ^ R 3 by omega)
  by_cases c6 : R 2 = 6
  · refine ⟨M, fM.rfl', h, jp_E.all (fun f => ?_)⟩
    unfold X9_enough enq
    rw [show jm_rf 39 0 = 40 from rfl, h.w2, Option.bind_some, if_pos (by rw [c6]; rfl), if_pos (Or.inl c6)]
  · have h6 : ¬ nI (R 2) = (6 : Int32) := fun q => c6 ((nI_eq (b := 6) (by omega) (by decide)).mp q)
    obtain ⟨M1, e1, e2, e3⟩ := m_ans h (show 2 ^ R 3 - 1 < 2 ^ R 3 by omega)
    have hal := aS_le o (2 ^ R 3 - 1)
    by_cases ca : aS R (2 ^ R 3 - 1) = 1
    · have key := jp_L.forM (body := fun f => X9_enough_B35 f 39) (J := fun M3 => fM M M3 ∧ MI M3 R H k) (fun j M3 => (nI (lmn R j), nI (j + 1), M3)) (fun M3 => (nI (lmn R (2 ^ R 3 - 1)), M3)) 0 (2 ^ R 3 - 1) ?_ ?_ M1 (Nat.zero_le _) ⟨e1, e2⟩
      · obtain ⟨M', g1, g2⟩ := key
        refine ⟨M', g1.1, g1.2, jp_E.imp2 e3 g2.use (fun f r1 r2 => ?_)⟩
        unfold X9_enough enq
        rw [show jm_rf 39 0 = 40 from rfl, h.w2, Option.bind_some, if_neg h6, m_all h, Option.bind_some, r1, Option.bind_some]
        dsimp only
        rw [if_pos (show nI (aS R (2 ^ R 3 - 1)) = (1 : Int32) by rw [ca]; rfl), e2.w3, Option.bind_some, show (nI (R 3), (1 : Int32), M1) = (nI (lmn R 0), nI (0 + 1), M1) from rfl, r2, if_neg (fun w => w.elim c6 (fun w2 => w2 ca))]; rfl
      · intro j M3 _ hj hJ
        have hv64 : j + 1 < 64 := by omega
        have hb := b10_le (j + 1) hv64
        have hlm := (lmn_spec R j).1
        by_cases cb : b10 (j + 1) < lmn R j
        · obtain ⟨M4, f1, f2, f3⟩ := m_ans hJ.2 (show j + 1 < 2 ^ R 3 by omega)
          have hal2 := aS_le o (j + 1)
          refine ⟨M4, ⟨hJ.1.trans f1, f2⟩, jp_E.imp2 (m_b10 hv64) f3 (fun f r1 r2 => ?_)⟩
          unfold X9_enough_B35
          dsimp only
          rw [m_all hJ.2, Option.bind_some, if_neg (nI_nlt (by omega) (by omega)), r1, Option.bind_some, if_neg (nI_ge cb (by omega)), r2, Option.bind_some, nI_1]
          dsimp only
          show _ = some (Sum.inl (nI (if pd (b10 (j + 1) < lmn R j ∧ aS R (j + 1) = 1) then b10 (j + 1) else lmn R j), nI (j + 1 + 1), M4))
          by_cases ca2 : aS R (j + 1) = 1
          · rw [if_pos (show nI (aS R (j + 1)) = (1 : Int32) by rw [ca2]; rfl), Option.bind_some, if_pos (pd_t.mpr ⟨cb, ca2⟩)]
          · rw [if_neg (show ¬ nI (aS R (j + 1)) = (1 : Int32) from fun q => ca2 ((nI_eq (b := 1) (by omega) (by decide)).mp q)), if_neg (fun q => ca2 (pd_t.mp q).2)]
        · refine ⟨M3, hJ, (m_b10 hv64).imp (fun f r1 => ?_)⟩
          unfold X9_enough_B35
          dsimp only
          rw [m_all hJ.2, Option.bind_some, if_neg (nI_nlt (by omega) (by omega)), r1, Option.bind_some, if_pos (nI_le (by omega) (by omega)), nI_1]
          show _ = some (Sum.inl (nI (if pd (b10 (j + 1) < lmn R j ∧ aS R (j + 1) = 1) then b10 (j + 1) else lmn R j), nI (j + 1 + 1), M3))
          rw [if_neg (fun q => cb (pd_t.mp q).1)]
      · intro M3 hJ
        refine jp_E.all (fun f => ?_)
        unfold X9_enough_B35
        dsimp only
        rw [m_all hJ.2, Option.bind_some, if_pos (nI_lt (by omega) (by omega))]
    · refine ⟨M1, e1, e2, e3.imp (fun f r => ?_)⟩
      unfold X9_enough enq
      rw [show jm_rf 39 0 = 40 from rfl, h.w2, Option.bind_some, if_neg h6, m_all h, Option.bind_some, r, Option.bind_some]
      dsimp only
      rw [if_neg (show ¬ nI (aS R (2 ^ R 3 - 1)) = (1 : Int32) from fun q => ca ((nI_eq (b := 1) (by omega) (by decide)).mp q)), if_pos (Or.inr ca)]
