/-! THE REFERENCE: its small functions -/
theorem jp_gaN {f : Nat → Int32} {n : Nat} {x : Int32} (j : Nat) (h : j < n) (hn : n < 2 ^ 31) (hx : x = nI j) : jm_ga f n x = some (f j) := by rw [hx]; exact jp_ga h hn
theorem jp_saN {M : jm_M} {a n : Nat} {x v : Int32} (j : Nat) (h : j < n) (hn : n < 2 ^ 31) (hx : x = nI j) : jm_sa M a n x v = some (jm_put M a (upd (M.1 a) j v)) := by rw [hx]; exact jp_sa h hn
theorem m_pairs : ∀ n, n < 10 → X9_pairs (nI n) = nI (qg_tri n) := by decide +kernel
theorem m_bitOf' : ∀ n, n < 9 → ∀ v, v < n → ∀ u, u < v → X9_bitOf (nI n) (nI u) (nI v) = nI (qg_tri n - 1 - (qg_tri v + u)) ∧ X9_bitOf (nI n) (nI v) (nI u) = nI (qg_tri n - 1 - (qg_tri v + u)) := by decide +kernel
theorem m_bitOf {n u v : Nat} (hn : n ≤ 8) (hu : u < n) (hv : v < n) (huv : u ≠ v) : X9_bitOf (nI n) (nI u) (nI v) = nI (qg_tri n - 1 - (qg_tri (max u v) + min u v)) := by
  rcases Nat.lt_or_ge u v with h | h
  · rw [(m_bitOf' n (by omega) v hv u h).1, show max u v = v by omega, show min u v = u by omega]
  · rw [(m_bitOf' n (by omega) u hu v (by omega)).2, show max u v = u by omega, show min u v = v by omega]
theorem qg_tri8 : ∀ n, n < 9 → qg_tri n ≤ 28 := by decide +kernel
theorem m_isEdge {n c u v : Nat} (hn : n ≤ 8) (hc : c < 2 ^ 31) (hu : u < n) (hv : v < n) : X9_isEdge (nI n) (nI c) (nI u) (nI v) = if qg_ad n c u v then 1 else 0 := by
  unfold X9_isEdge
  by_cases h : u = v
  · subst h; rw [if_pos rfl, qg_ad_irr]; rfl
  · rw [if_neg (fun q => h ((nI_eq (by omega) (by omega)).mp q)), m_bitOf hn hu hv h]
    have h28 := qg_tri8 n (by omega)
    rw [ni_bit hc (by omega)]
    unfold qg_ad
    rw [if_neg h]
theorem ni_tn (b : Bool) : (if b then (1 : Int32) else 0) = nI b.toNat := by cases b <;> rfl
theorem m_bits {x : Nat} (hx : x < 2 ^ 31) : jp_E (fun k => X9_bits k (nI x) = some (nI (fb_ct (fun u => x.testBit u) 30))) := by
  have key := jp_K.for (body := X9_bits_B4 (nI x)) (r := nI (fb_ct (fun u => x.testBit u) 30)) (fun v => (nI (fb_ct (fun u => x.testBit u) v), nI v)) 30 ?_ ?_ 0 (Nat.zero_le 30)
  · refine jp_E.imp key (fun k e => ?_)
    unfold X9_bits
    rw [show ((0 : Int32), (0 : Int32)) = (nI (fb_ct (fun u => x.testBit u) 0), nI 0) from rfl, e]; rfl
  · intro v hv
    unfold X9_bits_B4
    dsimp only
    rw [if_neg (by rw [show (30 : Int32) = nI 30 from rfl]; exact nI_ge hv (by decide)), ni_bit hx (by omega), nI_1, ni_tn, nI_add, fb_ct_succ]
    cases x.testBit v <;> rfl
  · unfold X9_bits_B4
    dsimp only
    rw [if_pos (by decide)]
theorem m_neigh {n c v : Nat} (hn : n ≤ 8) (hc : c < 2 ^ 31) (hv : v < n) : jp_E (fun k => X9_neighbours k (nI n) (nI c) (nI v) = some (nI (qg_mask (qg_ad n c v) n))) := by
  have key := jp_K.for (body := X9_neighbours_B5 (nI n) (nI c) (nI v)) (r := nI (qg_mask (qg_ad n c v) n)) (fun u => (nI (qg_mask (qg_ad n c v) u), nI u)) n ?_ ?_ 0 (Nat.zero_le n)
  · refine jp_E.imp key (fun k e => ?_)
    unfold X9_neighbours
    rw [show ((0 : Int32), (0 : Int32)) = (nI (qg_mask (qg_ad n c v) 0), nI 0) from rfl, e]; rfl
  · intro u hu
    unfold X9_neighbours_B5
    dsimp only
    rw [if_neg (nI_ge hu (by omega)), m_isEdge hn hc hu hv, ni_tn, ni_shl _ (by omega), fa_or, nI_1, qg_ad_sym n c u v]
    congr 4
    show _ = qg_mask (qg_ad n c v) u + (qg_ad n c v u).toNat * 2 ^ u
    rw [Nat.shiftLeft_eq, Nat.add_comm, Nat.mul_comm, Nat.two_pow_add_eq_or_of_lt (qg_mask_lt _ u), Nat.or_comm]
  · unfold X9_neighbours_B5
    dsimp only
    rw [if_pos (nI_le (Nat.le_refl n) (by omega))]
theorem m_woI {n c : Nat} (hn : n ≤ 8) (hc : c < 2 ^ 31) {X : Int32} {x : Nat} (hX : ∀ a, a < 8 → (nI a = X ↔ a = x)) {b acc : Nat} (hb : b < n) : jp_K (X9_without_B14 (nI n) (nI c) X (nI b)) (nI acc, 0) (nI (qg_inn (qg_ad n c) x b acc b)) := by
  have key := jp_K.for (body := X9_without_B14 (nI n) (nI c) X (nI b)) (r := nI (qg_inn (qg_ad n c) x b acc b)) (fun a => (nI (qg_inn (qg_ad n c) x b acc a), nI a)) b ?_ ?_ 0 (Nat.zero_le b)
  · rw [qg_inn_0, nI_0] at key; exact key
  · intro a ha
    unfold X9_without_B14
    dsimp only
    rw [if_neg (nI_ge ha (by omega)), nI_1]
    by_cases h1 : a = x
    · rw [if_pos ((hX a (by omega)).mpr h1), qg_inn_skip (Or.inl h1)]
    · rw [if_neg (fun q => h1 ((hX a (by omega)).mp q))]
      by_cases h2 : b = x
      · rw [if_pos ((hX b (by omega)).mpr h2), qg_inn_skip (Or.inr h2)]
      · rw [if_neg (fun q => h2 ((hX b (by omega)).mp q)), m_isEdge hn hc (by omega) hb, qg_inn_step h1 h2, show (2 : Int32) = nI 2 from rfl, ni_dig2]
  · unfold X9_without_B14
    dsimp only
    rw [if_pos (nI_le (Nat.le_refl b) (by omega))]
theorem m_wo {n c : Nat} (hn : n ≤ 8) (hn1 : 1 ≤ n) (hc : c < 2 ^ 31) {x : Nat} (hx : x < 8) : jp_E (fun k => X9_without k (nI n) (nI c) (nI x) = some (nI (qg_wo (qg_ad n c) x n))) := by
  have key := jp_L.for (body := fun k => X9_without_B5 k (nI n) (nI c) (nI x)) (r := nI (qg_wo (qg_ad n c) x n)) (fun b => (nI (qg_wo (qg_ad n c) x b), nI b)) n ?_ ?_ 1 hn1
  · refine (key.use).imp (fun k e => ?_)
    unfold X9_without
    rw [qg_wo_1] at e
    rw [show ((0 : Int32), (1 : Int32)) = (nI 0, nI 1) from rfl, e]
    rfl
  · intro b hb
    refine jp_E.imp (m_woI hn hc (ni_x hx) (b := b) (acc := qg_wo (qg_ad n c) x b) hb) (fun k e => ?_)
    unfold X9_without_B5
    dsimp only
    rw [if_neg (nI_ge hb (by omega)), e, nI_1, qg_wo_succ]
    rfl
  · refine jp_E.all (fun k => ?_)
    unfold X9_without_B5
    dsimp only
    rw [if_pos (nI_le (Nat.le_refl n) (by omega))]
theorem m_isIn {x : Int32} {a b : Nat} (ha : a < 2 ^ 31) (hb : b < 2 ^ 31) (hx : ¬ ∃ v, a ≤ v ∧ v ≤ b ∧ x = nI v) : X9_isIn x (nI a) (nI b) = 0 := by
  unfold X9_isIn
  by_cases h1 : x < nI a
  · rw [if_pos h1]
  · rw [if_neg h1]
    have h0 : ¬ x < 0 := fun q => h1 (by
      rw [fa_lt, nI_toInt ha]
      have : x.toInt < (0 : Int32).toInt := (fa_lt x 0).mp q
      have e : (0 : Int32).toInt = 0 := by decide
      omega)
    obtain ⟨j, hj, rfl⟩ := nI_of h0
    have h2 : a ≤ j := by
      rcases Nat.lt_or_ge j a with q | q
      · exact absurd (nI_lt q ha) h1
      · exact q
    have h3 : b < j := by
      rcases Nat.lt_or_ge b j with q | q
      · exact q
      · exact absurd ⟨j, h2, q, rfl⟩ hx
    rw [if_pos (nI_lt h3 hj)]
theorem m_isIn1 {a b v : Nat} (h1 : a ≤ v) (h2 : v ≤ b) (hb : b < 2 ^ 31) : X9_isIn (nI v) (nI a) (nI b) = 1 := by
  unfold X9_isIn
  rw [if_neg (nI_nlt h1 (by omega)), if_neg (nI_nlt h2 hb)]
