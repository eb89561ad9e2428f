/-! the call on a vertex: refusals -/
theorem x8_vertex_no {A : Nat → Nat → Bool} {n : Nat} (hn : n ≤ 8) {x y : Int32} (hx : ¬ ∃ v k, v < n ∧ k < 6 ∧ x = nI v ∧ y = nI k) {M : jm_M} (h : gx M 1 n A) (f : Nat) : X8_vertex f 0 x y M = some (-1, M) := by
  unfold X8_vertex
  rw [show jm_rf 0 0 = 1 from rfl]
  by_cases h1 : ∃ v, v < n ∧ x = nI v
  · obtain ⟨v, hv, rfl⟩ := h1
    rw [gx_has h hn hv, if_neg (show ¬ (1 : Int32) = 0 by decide)]
    by_cases h0 : y < 0
    · rw [if_pos h0]
    · rw [if_neg h0]
      obtain ⟨j, hj, rfl⟩ := nI_of h0
      by_cases hl : j < 6
      · exact absurd ⟨v, j, hv, hl, rfl, rfl⟩ hx
      · rw [if_neg (show ¬ nI j ≤ (5 : Int32) from nI_ge (a := 5) (by omega) (by omega))]
  · rw [gx_has_no h h1, if_pos rfl]
theorem m_vertex_no {n : Nat} (hn : n ≤ 8) (hn1 : 1 ≤ n) {x y : Int32} (hx : ¬ ∃ v k, v < n ∧ k < 6 ∧ x = nI v ∧ y = nI k) {M : jm_M} (h0 : M.1 40 0 = nI n) (f : Nat) : X9_vertex f 39 x y M = some (-1, M) := by
  unfold X9_vertex
  by_cases h1 : ∃ v, v < n ∧ x = nI v
  · obtain ⟨v, hv, rfl⟩ := h1
    rw [m_isV hn h0 hv, Option.bind_some, if_neg (show ¬ (1 : Int32) = 0 by decide), show X9_isIn y (0 : Int32) (5 : Int32) = 0 from m_isIn (a := 0) (b := 5) (by decide) (by decide) (fun ⟨k, _, h2, h3⟩ => hx ⟨v, k, hv, by omega, rfl, h3⟩), if_pos rfl]
  · rw [m_isV_no hn hn1 h0 h1, Option.bind_some, if_pos rfl]
