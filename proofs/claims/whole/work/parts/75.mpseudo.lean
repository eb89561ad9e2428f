/-! cards, pseudo-similar vertices: the reference's side -/
theorem jp_L.forV {S Rr : Type} {body : Nat → S → Option (S ⊕ Rr)} {J : Nat → jm_M → Prop} (σ : Nat → jm_M → S) (ρ : jm_M → Rr) (a0 N : Nat) (hs : ∀ v M, a0 ≤ v → v < N → J v M → ∃ M', J (v + 1) M' ∧ jp_E (fun n => body n (σ v M) = some (.inl (σ (v + 1) M')))) (hd : ∀ M, J N M → jp_E (fun n => body n (σ N M) = some (.inr (ρ M)))) : ∀ M, a0 ≤ N → J a0 M → ∃ M', J N M' ∧ jp_L body (σ a0 M) (ρ M') := by
  have key : ∀ j a M, a0 ≤ a → a + j = N → J a M → ∃ M', J N M' ∧ jp_L body (σ a M) (ρ M') := by
    intro j
    induction j with
    | zero => intro a M _ h hJ; obtain rfl : a = N := by omega
              exact ⟨M, hJ, jp_L.done (hd M hJ)⟩
    | succ j ih =>
      intro a M h0 h hJ
      obtain ⟨M1, h1, h2⟩ := hs a M h0 (by omega) hJ
      obtain ⟨M2, h3, h4⟩ := ih (a + 1) M1 (by omega) (by omega) h1
      exact ⟨M2, h3, jp_L.step h2 h4⟩
  exact fun M h => key (N - a0) a0 M (Nat.le_refl _) (by omega)
theorem m_cardOf {n c v : Nat} (hn : n ≤ 8) (hn2 : 2 ≤ n) (hc : c < 2 ^ 31) (hv : v < n) (M : jm_M) : ∃ M', jp_eq [42, 43, 44] M M' ∧ jp_E (fun f => X9_cardOf f 39 (nI n) (nI c) (nI v) M = some (nI (kc n (qg_ad n c) v), M')) := by
  obtain ⟨M', h1, h2⟩ := m_canon (n := n - 1) (c := qg_wo (qg_ad n c) v n) (by omega) (by omega) (qg_wo_lt hv) M
  refine ⟨M', h1, jp_E.imp2 h2 (m_wo hn (by omega) hc (show v < 8 by omega)) (fun f e e2 => ?_)⟩
  unfold X9_cardOf
  rw [e2, Option.bind_some, ni_sub1 (by omega), e]; rfl
def mcd (M : jm_M) (n : Nat) (A : Nat → Nat → Bool) (k : Nat) : Prop := ∀ v, v < k → M.1 47 v = nI (kc n A v)
theorem m_cards {n c : Nat} (hn : n ≤ 8) (hn2 : 2 ≤ n) (hc : c < 2 ^ 31) {M : jm_M} (h0 : M.1 40 0 = nI n) (h1 : M.1 40 1 = nI c) : ∃ M', jp_eq [42, 43, 44, 47] M M' ∧ mcd M' n (qg_ad n c) n ∧ jp_E (fun f => X9_layCards f 39 M = some M') := by
  have key := jp_L.forV (body := fun f => X9_layCards_B2 f 39) (J := fun k M1 => jp_eq [42, 43, 44, 47] M M1 ∧ mcd M1 n (qg_ad n c) k) (fun v M1 => (nI v, M1)) (fun M1 => M1) 0 n ?_ ?_ M (Nat.zero_le n) ⟨jp_eq.rfl', fun v hv => by omega⟩
  · obtain ⟨M', ⟨g1, g2⟩, g3⟩ := key
    refine ⟨M', g1, g2, g3.use.imp (fun f e => ?_)⟩
    unfold X9_layCards
    rw [show ((0 : Int32), M) = (nI 0, M) from rfl, e]; rfl
  · intro v M1 _ hv ⟨g1, g2⟩
    obtain ⟨M2, g3, g4⟩ := m_cardOf hn hn2 hc hv M1
    refine ⟨jm_put M2 47 (upd (M2.1 47) v (nI (kc n (qg_ad n c) v))), ⟨(g1.trans (g3.sub (by simp))).put (by simp), fun u hu => ?_⟩, g4.imp (fun f e => ?_)⟩
    · rw [jm_put_at]
      unfold upd
      by_cases e : u = v
      · rw [if_pos e, e]
      · rw [if_neg e, (g3 47 (by decide)).1, g2 u (by omega)]
    · have e0 : M1.1 40 0 = nI n := by rw [(g1 40 (by decide)).1, h0]
      have e1 : M1.1 40 1 = nI c := by rw [(g1 40 (by decide)).1, h1]
      unfold X9_layCards_B2
      dsimp only
      rw [show jm_rf 39 0 = 40 from rfl, m_w0, e0, Option.bind_some, if_neg (nI_ge hv (by omega)), Option.bind_some, m_w1, e1, Option.bind_some, e, Option.bind_some]
      dsimp only
      rw [show jm_rf 39 9 = 47 from rfl, jp_sa (by omega) (by decide), Option.bind_some, nI_1]
  · intro M1 ⟨g1, g2⟩
    refine jp_E.all (fun f => ?_)
    have e0 : M1.1 40 0 = nI n := by rw [(g1 40 (by decide)).1, h0]
    unfold X9_layCards_B2
    dsimp only
    rw [show jm_rf 39 0 = 40 from rfl, m_w0, e0, Option.bind_some, if_pos (nI_le (Nat.le_refl n) (by omega))]
theorem m_pseudo {n c a : Nat} (hn : n ≤ 8) (ha : a < n) {M : jm_M} (h0 : M.1 40 0 = nI n) (hcd : mcd M n (qg_ad n c) n) (hmo : mo M n (fun v y => pd (qs n (qg_ad n c) v y))) : jp_E (fun f => X9_pseudo f 39 (nI a) M = some (nI (qg_mask (ps n (qg_ad n c) a) n))) := by
  have key := jp_K.for (body := X9_pseudo_B4 39 (nI a) M) (r := nI (qg_mask (ps n (qg_ad n c) a) n)) (fun v => (nI (qg_mask (fun w => decide (w < v) && ps n (qg_ad n c) a w) n), nI v)) n ?_ ?_ 0 (Nat.zero_le n)
  · refine jp_E.imp key (fun f e => ?_)
    rw [mask_up0] at e
    unfold X9_pseudo
    rw [show ((0 : Int32), (0 : Int32)) = (nI 0, nI 0) from rfl, e]; rfl
  · intro v hv
    unfold X9_pseudo_B4
    dsimp only
    rw [show jm_rf 39 0 = 40 from rfl, m_w0, h0, Option.bind_some, if_neg (nI_ge hv (by omega)), Int32.or_zero]
    by_cases e : v = a
    · subst e
      rw [if_pos rfl, nI_1, mask_up (pd_f.mpr (fun h => h.1 rfl))]
    · rw [if_neg (fun q => e ((nI_eq (by omega) (by omega)).mp q)), show jm_rf 39 9 = 47 from rfl, jp_ga (by omega) (by decide), Option.bind_some, jp_ga (by omega) (by decide), Option.bind_some, hcd v hv, hcd a ha]
      have := kc_lt (A := qg_ad n c) (v := v) hn
      have := kc_lt (A := qg_ad n c) (v := a) hn
      by_cases hk : kc n (qg_ad n c) v = kc n (qg_ad n c) a
      · rw [if_pos (by rw [hk]), show jm_rf 39 7 = 46 from rfl, jp_ga (by omega) (by decide), Option.bind_some, hmo a ha, ni_bit (qg_mask_31 _ hn) (by omega), qg_mask_bit, decide_eq_true hv, Bool.true_and]
        dsimp only
        by_cases hq : qs n (qg_ad n c) a v
        · have hs : ps n (qg_ad n c) a v = false := pd_f.mpr (fun h => h.2.2 hq)
          rw [if_pos (pd_t.mpr hq), if_neg (show ¬ (1 : Int32) = 0 by decide), nI_1, mask_up hs]
        · have hs : ps n (qg_ad n c) a v = true := pd_t.mpr ⟨e, hk, hq⟩
          rw [if_neg (fun q => hq (pd_t.mp q)), if_pos rfl, ni_setb hv hn, nI_1, mask_up1 hs]
      · rw [if_neg (fun q => hk ((nI_eq (by omega) (by omega)).mp q)), nI_1, mask_up (pd_f.mpr (fun h => hk h.2.1))]
  · unfold X9_pseudo_B4
    dsimp only
    rw [show jm_rf 39 0 = 40 from rfl, m_w0, h0, Option.bind_some, if_pos (nI_le (Nat.le_refl n) (by omega)), mask_upn]
/-- what symmetry questions may change in the reference -/
def mkE (M M' : jm_M) : Prop := jp_eq [39, 42, 43, 44, 45, 46, 47] M M' ∧ ∀ i, i ≠ 8 → M'.1 39 i = M.1 39 i
theorem m_ready {n c : Nat} (hn : n ≤ 8) (hn2 : 2 ≤ n) (hc : c < 2 ^ 31) {M : jm_M} (h0 : M.1 40 0 = nI n) (h1 : M.1 40 1 = nI c) : ∃ Ma M', mkE M M' ∧ mcd M' n (qg_ad n c) n ∧ mo M' n (fun v y => pd (qs n (qg_ad n c) v y)) ∧ jp_E (fun f => X9_layCards f 39 M = some Ma ∧ X9_layOrbits f 39 Ma = some M') := by
  obtain ⟨Ma, g1, g2, g3⟩ := m_cards hn hn2 hc h0 h1
  obtain ⟨M', k1, k2, _, k4, k5⟩ := m_orb hn (by omega) hc (M := Ma) (by rw [(g1 40 (by decide)).1, h0]) (by rw [(g1 40 (by decide)).1, h1])
  refine ⟨Ma, M', ⟨(g1.sub (by simp)).trans (k1.sub (by simp)), fun i hi => ?_⟩, fun v hv => ?_, k4, jp_E.imp2 g3 k5 (fun f a b => ⟨a, b⟩)⟩
  · rw [k2 i hi, (g1 39 (by decide)).1]
  · rw [(k1 47 (by decide)).1, g2 v hv]
theorem m_pseudoSim {n c a : Nat} (hn : n ≤ 8) (hn2 : 2 ≤ n) (hc : c < 2 ^ 31) (ha : a < n) {M : jm_M} (h0 : M.1 40 0 = nI n) (h1 : M.1 40 1 = nI c) : ∃ M', mkE M M' ∧ jp_E (fun f => X9_pseudoSimilar f 39 (nI a) M = some (nI (qg_mask (ps n (qg_ad n c) a) n), M')) := by
  obtain ⟨Ma, M', g1, g2, g3, g4⟩ := m_ready hn hn2 hc h0 h1
  refine ⟨M', g1, jp_E.imp2 g4 (m_pseudo hn ha (by rw [(g1.1 40 (by decide)).1, h0]) g2 g3) (fun f e e2 => ?_)⟩
  unfold X9_pseudoSimilar
  rw [e.1, Option.bind_some, e.2, Option.bind_some, e2]; rfl
theorem m_bitsM (f : Nat → Bool) {n : Nat} (hn : n ≤ 8) : jp_E (fun k => X9_bits k (nI (qg_mask f n)) = some (nI (fb_ct f n))) := by
  have h := m_bits (qg_mask_31 f hn)
  have e : fb_ct (fun u => (qg_mask f n).testBit u) 30 = fb_ct f n := by
    have h2 := fb_ct_split (fun u => (qg_mask f n).testBit u) n (30 - n)
    rw [show n + (30 - n) = 30 by omega] at h2
    have h3 : fb_ct (fun k => (qg_mask f n).testBit (n + k)) (30 - n) = 0 := fb_ct_zero.mpr (fun k _ => by rw [qg_mask_bit, decide_eq_false (show ¬ n + k < n by omega), Bool.false_and])
    rw [h2, h3, Nat.add_zero]
    exact fb_ct_cong (fun k hk => by rw [qg_mask_bit]; simp [hk])
  rw [e] at h
  exact h
theorem m_pairsP {n c : Nat} (hn : n ≤ 8) (hn1 : 1 ≤ n) (hc : c < 2 ^ 31) {M : jm_M} (h0 : M.1 40 0 = nI n) (h1 : M.1 40 1 = nI c) : ∃ M', mkE M M' ∧ jp_E (fun f => X9_pseudoPairs f 39 M = some (s_pp n (qg_ad n c), M')) := by
  by_cases hn2 : n = 1
  · subst hn2
    refine ⟨M, ⟨jp_eq.rfl', fun _ _ => rfl⟩, jp_E.all (fun f => ?_)⟩
    unfold X9_pseudoPairs s_pp
    rw [show jm_rf 39 0 = 40 from rfl, m_w0, h0, Option.bind_some, if_pos ((ni_is1 hn).mpr rfl), if_pos rfl]
  · obtain ⟨Ma, M', g1, g2, g3, g4⟩ := m_ready hn (by omega) hc h0 h1
    have h0' : M'.1 40 0 = nI n := by rw [(g1.1 40 (by decide)).1, h0]
    have key := jp_L.for (body := fun f => X9_pseudoPairs_B24 f 39 M') (r := nI (fb_sm (fun v => fb_ct (ps n (qg_ad n c) v) n) n)) (fun v => (nI (fb_sm (fun v => fb_ct (ps n (qg_ad n c) v) n) v), nI v)) n ?_ ?_ 0 (Nat.zero_le n)
    · refine ⟨M', g1, jp_E.imp2 g4 key.use (fun f e e2 => ?_)⟩
      unfold X9_pseudoPairs s_pp
      rw [show jm_rf 39 0 = 40 from rfl, m_w0, h0, Option.bind_some, if_neg (fun q => hn2 ((ni_is1 hn).mp q)), e.1, Option.bind_some, e.2, Option.bind_some, show ((0 : Int32), (0 : Int32)) = (nI (fb_sm (fun v => fb_ct (ps n (qg_ad n c) v) n) 0), nI 0) from rfl, e2, if_neg hn2]; rfl
    · intro v hv
      refine jp_E.imp2 (m_pseudo hn hv h0' g2 g3) (m_bitsM (ps n (qg_ad n c) v) hn) (fun f e e2 => ?_)
      unfold X9_pseudoPairs_B24
      dsimp only
      rw [show jm_rf 39 0 = 40 from rfl, m_w0, h0', Option.bind_some, if_neg (nI_ge hv (by omega)), e, Option.bind_some, e2, Option.bind_some, nI_1, nI_add]; rfl
    · refine jp_E.all (fun f => ?_)
      unfold X9_pseudoPairs_B24
      dsimp only
      rw [show jm_rf 39 0 = 40 from rfl, m_w0, h0', Option.bind_some, if_pos (nI_le (Nat.le_refl n) (by omega))]
