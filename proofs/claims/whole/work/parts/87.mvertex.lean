/-! the call on a vertex: the reference -/
theorem mkE.rfl' {M : jm_M} : mkE M M := ⟨jp_eq.rfl', fun _ _ => rfl⟩
theorem m_vertex {n c v k : Nat} (hn : n ≤ 8) (hc : c < 2 ^ qg_tri n) (hv : v < n) (hk : k < 6) {M : jm_M} (h0 : M.1 40 0 = nI n) (h1 : M.1 40 1 = nI c) : ∃ M', mkE M M' ∧ jp_E (fun f => X9_vertex f 39 (nI v) (nI k) M = some (s_vx n (qg_ad n c) v k, M')) := by
  have hc31 : c < 2 ^ 31 := Nat.lt_trans (qt28 hn hc) (by decide)
  have hin : X9_isIn (nI k) (0 : Int32) (5 : Int32) = 1 := m_isIn1 (a := 0) (b := 5) (Nat.zero_le k) (by omega) (by decide)
  have hnb := m_neigh hn hc31 hv
  have hbt := m_bitsM (qg_ad n c v) hn
  unfold s_vx
  by_cases k0 : k = 0
  · subst k0
    refine ⟨M, mkE.rfl', jp_E.imp2 hnb hbt (fun f e e2 => ?_)⟩
    unfold X9_vertex
    rw [m_isV hn h0 hv, Option.bind_some, if_neg (show ¬ (1 : Int32) = 0 by decide), hin, if_neg (show ¬ (1 : Int32) = 0 by decide), show jm_rf 39 0 = 40 from rfl, m_w0, h0, Option.bind_some, m_w1, h1, Option.bind_some, e, Option.bind_some, if_pos (by decide), if_pos (show nI 0 = (0 : Int32) from rfl), e2]; rfl
  by_cases k1 : k = 1
  · subst k1
    refine ⟨M, mkE.rfl', jp_E.imp2 hnb hbt (fun f e e2 => ?_)⟩
    unfold X9_vertex
    rw [m_isV hn h0 hv, Option.bind_some, if_neg (show ¬ (1 : Int32) = 0 by decide), hin, if_neg (show ¬ (1 : Int32) = 0 by decide), show jm_rf 39 0 = 40 from rfl, m_w0, h0, Option.bind_some, m_w1, h1, Option.bind_some, e, Option.bind_some, if_pos (by decide), if_neg (by decide), if_pos (show nI 1 = (1 : Int32) from rfl)]; rfl
  have hk2 : ¬ nI k ≤ (1 : Int32) := nI_ge (a := 1) (by omega) (by omega)
  by_cases hn1 : n = 1
  · refine ⟨M, mkE.rfl', hnb.imp (fun f e => ?_)⟩
    unfold X9_vertex
    rw [m_isV hn h0 hv, Option.bind_some, if_neg (show ¬ (1 : Int32) = 0 by decide), hin, if_neg (show ¬ (1 : Int32) = 0 by decide), show jm_rf 39 0 = 40 from rfl, m_w0, h0, Option.bind_some, m_w1, h1, Option.bind_some, e, Option.bind_some, if_neg hk2, if_pos ((ni_is1 hn).mpr hn1), if_neg k0, if_neg k1, if_pos hn1]
  have hn2 : ¬ nI n = (1 : Int32) := fun q => hn1 ((ni_is1 hn).mp q)
  by_cases k2 : k = 2
  · subst k2
    obtain ⟨M', g1, g2⟩ := m_cardOf (c := c) hn (by omega) hc31 hv M
    refine ⟨M', ⟨g1.sub (by simp), fun i _ => by rw [(g1 39 (by decide)).1]⟩, jp_E.imp2 hnb g2 (fun f e e2 => ?_)⟩
    unfold X9_vertex
    rw [m_isV hn h0 hv, Option.bind_some, if_neg (show ¬ (1 : Int32) = 0 by decide), hin, if_neg (show ¬ (1 : Int32) = 0 by decide), show jm_rf 39 0 = 40 from rfl, m_w0, h0, Option.bind_some, m_w1, h1, Option.bind_some, e, Option.bind_some, if_neg hk2, if_neg hn2, if_neg (by decide), if_neg (by decide), if_pos (show nI 2 = (2 : Int32) from rfl), Option.bind_some, e2, if_neg k0, if_neg k1, if_neg hn1]; rfl
  by_cases k3 : k = 3
  · subst k3
    refine ⟨M, mkE.rfl', jp_E.imp3 hnb hbt (m_edges hn hc) (fun f e e2 e3 => ?_)⟩
    unfold X9_vertex
    rw [m_isV hn h0 hv, Option.bind_some, if_neg (show ¬ (1 : Int32) = 0 by decide), hin, if_neg (show ¬ (1 : Int32) = 0 by decide), show jm_rf 39 0 = 40 from rfl, m_w0, h0, Option.bind_some, m_w1, h1, Option.bind_some, e, Option.bind_some, if_neg hk2, if_neg hn2, if_neg (by decide), if_neg (by decide), if_neg (by decide), if_pos (show nI 3 = (3 : Int32) from rfl), Option.bind_some, e3, Option.bind_some, e2, if_neg k0, if_neg k1, if_neg hn1]; rfl
  by_cases k4 : k = 4
  · subst k4
    obtain ⟨M', g1, g2, g3⟩ := m_sim hn hc31 hv h0 h1
    refine ⟨M', ⟨g1.sub (by simp), g2⟩, jp_E.imp2 hnb g3 (fun f e e2 => ?_)⟩
    unfold X9_vertex
    rw [m_isV hn h0 hv, Option.bind_some, if_neg (show ¬ (1 : Int32) = 0 by decide), hin, if_neg (show ¬ (1 : Int32) = 0 by decide), show jm_rf 39 0 = 40 from rfl, m_w0, h0, Option.bind_some, m_w1, h1, Option.bind_some, e, Option.bind_some, if_neg hk2, if_neg hn2, if_neg (by decide), if_neg (by decide), if_neg (by decide), if_neg (by decide), if_pos (show nI 4 = (4 : Int32) from rfl), e2, if_neg k0, if_neg k1, if_neg hn1]; rfl
  obtain rfl : k = 5 := by omega
  obtain ⟨M', g1, g2⟩ := m_pseudoSim hn (by omega) hc31 hv h0 h1
  refine ⟨M', g1, jp_E.imp2 hnb g2 (fun f e e2 => ?_)⟩
  unfold X9_vertex
  rw [m_isV hn h0 hv, Option.bind_some, if_neg (show ¬ (1 : Int32) = 0 by decide), hin, if_neg (show ¬ (1 : Int32) = 0 by decide), show jm_rf 39 0 = 40 from rfl, m_w0, h0, Option.bind_some, m_w1, h1, Option.bind_some, e, Option.bind_some, if_neg hk2, if_neg hn2, if_neg (by decide), if_neg (by decide), if_neg (by decide), if_neg (by decide), if_neg (by decide), e2, if_neg k0, if_neg k1, if_neg hn1]; rfl
