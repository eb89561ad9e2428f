/-! THE REFERENCE's orbits, its similar vertices, its classes, its image -/
theorem m_w0 (f : Nat → Int32) : jm_ga f 10 (0 : Int32) = some (f 0) := jp_gaN 0 (by decide) (by decide) rfl
theorem m_w1 (f : Nat → Int32) : jm_ga f 10 (1 : Int32) = some (f 1) := jp_gaN 1 (by decide) (by decide) rfl
theorem m_s0 (M : jm_M) (a : Nat) (v : Int32) : jm_sa M a 8 (0 : Int32) v = some (jm_put M a (upd (M.1 a) 0 v)) := jp_saN 0 (by decide) (by decide) rfl
theorem mg_zero {M : jm_M} {n : Nat} {V2 V3 V4 : Int32} (hn : n ≤ 8) : jp_K (X9_goThrough_B8 39 (nI n) V2 V3 V4) (0, M) (jm_put M 46 (fun i => if i < n then 0 else M.1 46 i)) := by
  have key := jp_K.for (body := X9_goThrough_B8 39 (nI n) V2 V3 V4) (r := jm_put M 46 (fun i => if i < n then 0 else M.1 46 i)) (fun v => (nI v, jm_put M 46 (fun i => if i < v then 0 else M.1 46 i))) n ?_ ?_ 0 (Nat.zero_le n)
  · have e : jm_put M 46 (fun i => if i < 0 then 0 else M.1 46 i) = M := by
      have : (fun i => if i < 0 then (0 : Int32) else M.1 46 i) = M.1 46 := by funext i; simp
      rw [this, jm_put_self]
    rw [e] at key
    exact key
  · intro v hv
    unfold X9_goThrough_B8
    dsimp only
    rw [if_neg (nI_ge hv (by omega)), show jm_rf 39 7 = 46 from rfl, jp_sa (by omega) (by decide), Option.bind_some, nI_1, jm_put_put, jm_put_at]
    congr 4
    funext i
    unfold upd
    by_cases e : i = v
    · subst e; simp
    · by_cases h : i < v
      · simp [e, h, show i < v + 1 by omega]
      · simp [e, h, show ¬ i < v + 1 by omega]
  · unfold X9_goThrough_B8
    dsimp only
    rw [if_pos (nI_le (Nat.le_refl n) (by omega))]
theorem mg_at0 {M : jm_M} {n : Nat} {p : Nat → Nat} : mg_at (jm_put M 45 (upd (M.1 45) 0 (-1))) n 0 p 0 := by
  refine ⟨fun i hi => by omega, ?_, fun i hi => by omega⟩
  rw [jm_put_at]
  show upd _ 0 (-1) 0 + 1 = nI 0
  rw [show upd (M.1 45) 0 (-1) 0 = -1 by simp [upd]]
  rfl
theorem m_orb {n c : Nat} (hn : n ≤ 8) (hn1 : 1 ≤ n) (hc : c < 2 ^ 31) {M : jm_M} (h0 : M.1 40 0 = nI n) (h1 : M.1 40 1 = nI c) :
    ∃ M', jp_eq [39, 45, 46] M M' ∧ (∀ i, i ≠ 8 → M'.1 39 i = M.1 39 i) ∧ M'.1 39 8 = nI (nac (qg_ad n c) n n 0 (fun i => i)) ∧ mo M' n (fun v y => pd (qs n (qg_ad n c) v y)) ∧ jp_E (fun f => X9_layOrbits f 39 M = some M') := by
  generalize eM1 : jm_put (jm_put M 39 (upd (M.1 39) 8 0)) 46 (fun i => if i < n then 0 else M.1 46 i) = M1
  have hz := mg_zero (M := jm_put M 39 (upd (M.1 39) 8 0)) (V2 := nI c) (V3 := -9) (V4 := -9) hn
  rw [jm_put_ne _ _ (show 46 ≠ 39 by decide), eM1] at hz
  generalize eM2 : jm_put M1 45 (upd (M1.1 45) 0 (-1)) = M2
  have hat : mg_at M2 n 0 (fun i => i) 0 := by rw [← eM2]; exact mg_at0
  have hmo : mo M2 n (fun _ _ => false) := fun v hv => by
    rw [← eM2, jm_put_ne _ _ (show 46 ≠ 45 by decide), ← eM1, jm_put_at]
    simp only [hv, if_true]
    have : qg_mask (fun _ => false) n = 0 := by
      apply Nat.eq_of_testBit_eq
      intro w
      rw [qg_mask_bit]; simp
    rw [this]; rfl
  have h39 : M2.1 39 = upd (M.1 39) 8 0 := by
    rw [← eM2, jm_put_ne _ _ (show 39 ≠ 45 by decide), ← eM1, jm_put_ne _ _ (show 39 ≠ 46 by decide), jm_put_at]
  have heq : jp_eq [39, 45, 46] M M2 := by
    rw [← eM2, ← eM1]
    exact ((jp_eq.rfl'.put (by simp)).put (by simp)).put (by simp)
  obtain ⟨M', O', ⟨g1, g2, g3, g4, g5, _⟩, g6⟩ := mg_all (c := c) hn hc (n - 1) 0 (by omega) n (fun i => i) 0 M2 (fun _ _ => false) (by omega) hat (qy_id (Nat.zero_le n)) hmo
  refine ⟨M', heq.trans g1, fun i hi => ?_, ?_, fun v hv => ?_, ?_⟩
  · rw [g2 i hi, h39]; simp [upd, hi]
  · rw [g3, h39, ncw_0, show n - 1 + 1 = n by omega]
    simp [upd]
  · rw [g4 v hv]
    congr 1
    refine qg_mask_cong (fun y hy => ?_)
    rw [Bool.eq_iff_iff, g5 v y hv hy, pd_t]
    constructor
    · intro h
      rcases h with h | ⟨q, h2, _, h3⟩
      · exact absurd h (by simp)
      · exact ⟨q, h2.1, h3⟩
    · intro ⟨q, h2, h3⟩
      exact Or.inr ⟨q, ⟨h2, fun i hi => by omega⟩, Nat.zero_le _, h3⟩
  · have hl : jp_L (fun f => X9_goThrough_B38 f 39 (nI n) (nI c) (-9) (-9)) (nI 0, M2) (.inr M') := g6 _ (jp_L.done (jp_E.all (fun f => by
      unfold X9_goThrough_B38
      dsimp only
      rw [if_pos (show nI 0 + (-1) < (0 : Int32) by decide)])))
    refine jp_E.imp2 hz hl.use (fun f e1 e2 => ?_)
    unfold X9_layOrbits X9_goThrough
    rw [show jm_rf 39 0 = 40 from rfl, m_w0, h0, Option.bind_some, m_w1, h1, Option.bind_some, jm_set_put, e1, Option.bind_some, show jm_rf 39 6 = 45 from rfl, m_s0, Option.bind_some, eM2, show (0 : Int32) = nI 0 from rfl, e2]
    rfl
theorem m_sim {n c a : Nat} (hn : n ≤ 8) (hc : c < 2 ^ 31) (ha : a < n) {M : jm_M} (h0 : M.1 40 0 = nI n) (h1 : M.1 40 1 = nI c) :
    ∃ M', jp_eq [39, 45, 46] M M' ∧ (∀ i, i ≠ 8 → M'.1 39 i = M.1 39 i) ∧ jp_E (fun f => X9_similar f 39 (nI a) M = some (nI (qg_mask (sv n (qg_ad n c) a) n), M')) := by
  obtain ⟨M', g1, g2, _, g4, g5⟩ := m_orb hn (by omega) hc h0 h1
  refine ⟨M', g1, g2, g5.imp (fun f e => ?_)⟩
  unfold X9_similar
  rw [e, Option.bind_some, show jm_rf 39 7 = 46 from rfl, jp_ga (by omega) (by decide), Option.bind_some, g4 a ha, ni_clear hn (by omega)]
  congr 3
  refine qg_mask_cong (fun u _ => ?_)
  unfold sv
  rw [Bool.eq_iff_iff]
  simp only [Bool.and_eq_true, pd_t, Bool.not_eq_true', decide_eq_false_iff_not]
  exact ⟨fun h => ⟨h.2, h.1⟩, fun h => ⟨h.2, h.1⟩⟩
theorem m_classes {n c : Nat} (hn : n ≤ 8) (hn1 : 1 ≤ n) (hc : c < 2 ^ 31) {M : jm_M} (h0 : M.1 40 0 = nI n) (h1 : M.1 40 1 = nI c) :
    ∃ M', jp_eq [39, 45, 46] M M' ∧ (∀ i, i ≠ 8 → M'.1 39 i = M.1 39 i) ∧ jp_E (fun f => X9_classes f 39 M = some (nI (fb_ct (srep n (qg_ad n c)) n), M')) := by
  obtain ⟨M', g1, g2, _, g4, g5⟩ := m_orb hn (by omega) hc h0 h1
  have h40 : M'.1 40 0 = nI n := by rw [(g1 40 (by decide)).1, h0]
  have key := jp_K.for (body := X9_classes_B8 39 M') (r := nI (fb_ct (srep n (qg_ad n c)) n)) (fun v => (nI (fb_ct (srep n (qg_ad n c)) v), nI v)) n ?_ ?_ 0 (Nat.zero_le n)
  · refine ⟨M', g1, g2, jp_E.imp2 g5 key (fun f e e2 => ?_)⟩
    unfold X9_classes
    rw [e, Option.bind_some, show ((0 : Int32), (0 : Int32)) = (nI (fb_ct (srep n (qg_ad n c)) 0), nI 0) from rfl, e2]; rfl
  · intro v hv
    have hb : (nI (qg_mask (fun y => pd (qs n (qg_ad n c) v y)) n) &&& (((1 : Int32) <<< (nI v &&& 31)) - (1 : Int32)) = 0) ↔ srep n (qg_ad n c) v = true := by
      rw [ni_full (by omega), ni_anyz hn (by omega)]
      unfold srep
      rw [pd_t]
      constructor
      · intro h u hu h2
        exact h u (by omega) hu ⟨pd_t.mpr (qs_symm (by omega) h2), rfl⟩
      · intro h u hu huv h2
        exact h u huv (qs_symm hv (pd_t.mp h2.1))
    unfold X9_classes_B8
    dsimp only
    rw [show jm_rf 39 0 = 40 from rfl, m_w0, h40, Option.bind_some, if_neg (nI_ge hv (by omega)), show jm_rf 39 7 = 46 from rfl, jp_ga (by omega) (by decide), Option.bind_some, g4 v hv, fb_ct_succ]
    by_cases hs : srep n (qg_ad n c) v = true
    · rw [if_pos (hb.mpr hs), if_pos hs, nI_1, nI_1]
    · rw [if_neg (fun q => hs (hb.mp q)), if_neg hs, nI_1, Int32.add_zero]; rfl
  · unfold X9_classes_B8
    dsimp only
    rw [show jm_rf 39 0 = 40 from rfl, m_w0, h40, Option.bind_some, if_pos (nI_le (Nat.le_refl n) (by omega))]
