/-! calls that need no deck -/
theorem x8_copies {M : jm_M} {n : Nat} {A : Nat → Nat → Bool} (h : gx M 1 n A) (hA : qg_ok A) (hn : n ≤ 8) (hn1 : 1 ≤ n) (x : Int32) : (∀ p, p < 9 → x = nI p → jp_E (fun f => X8_copies f 0 x M = some (s_cp A n p))) ∧ ((¬ ∃ p, p < 9 ∧ x = nI p) → ∀ f, X8_copies f 0 x M = some (-1)) := by
  refine ⟨fun p hp e => ?_, fun hx f => ?_⟩
  · subst e
    refine (x6_count h hA hn hn1 hp).imp (fun f e => ?_)
    unfold X8_copies X6_isPattern
    rw [if_neg (nI_pos (by omega)), show (9 : Int32) = nI 9 from rfl, if_neg (nI_ge hp (by omega)), if_neg (show ¬ (1 : Int32) = 0 by decide), show jm_rf 0 0 = 1 from rfl, e]; rfl
  · unfold X8_copies
    have : X6_isPattern x = 0 := by
      unfold X6_isPattern
      by_cases h0 : x < 0
      · rw [if_pos h0]
      · rw [if_neg h0]
        obtain ⟨j, hj, rfl⟩ := nI_of h0
        by_cases hl : 9 ≤ j
        · rw [show (9 : Int32) = nI 9 from rfl, if_pos (nI_le hl hj)]
        · exact absurd ⟨j, by omega, rfl⟩ hx
    rw [this, if_pos rfl]
theorem m_copies {M : jm_M} {n c : Nat} (hn : n ≤ 8) (hc : c < 2 ^ qg_tri n) (h0 : M.1 40 0 = nI n) (h1 : M.1 40 1 = nI c) (x : Int32) : (∀ p, p < 9 → x = nI p → ∃ M', jp_eq [42] M M' ∧ jp_E (fun f => X9_copies f 39 x M = some (s_cp (qg_ad n c) n p, M'))) ∧ ((¬ ∃ p, p < 9 ∧ x = nI p) → ∀ f, X9_copies f 39 x M = some (-1, M)) := by
  refine ⟨fun p hp e => ?_, fun hx f => ?_⟩
  · subst e
    obtain ⟨M', g1, g2⟩ := m_copiesIn hn hc hp M
    refine ⟨M', g1, g2.imp (fun f e => ?_)⟩
    unfold X9_copies
    rw [show X9_isIn (nI p) (0 : Int32) (8 : Int32) = 1 from m_isIn1 (a := 0) (b := 8) (Nat.zero_le p) (by omega) (by decide), if_neg (show ¬ (1 : Int32) = 0 by decide), show jm_rf 39 0 = 40 from rfl, m_w0, h0, Option.bind_some, m_w1, h1, Option.bind_some, e]; rfl
  · unfold X9_copies
    rw [show X9_isIn x (0 : Int32) (8 : Int32) = 0 from m_isIn (a := 0) (b := 8) (by decide) (by decide) (fun ⟨v, _, h2, h3⟩ => hx ⟨v, by omega, h3⟩), if_pos rfl]
