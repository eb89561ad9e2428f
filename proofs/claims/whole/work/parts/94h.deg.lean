/-! edges and degrees by counting; the tests -/
theorem x_bc {n c : Nat} (hn : n ≤ 5) (hc : c < 2 ^ qg_tri n) : J6_bitCount_0f7a4 (nI c) = nI (qE (qg_ad n c) n) := by
  have h10 : ∀ n, n < 6 → qg_tri n ≤ 10 := by decide
  have hc2 : c < 1024 := Nat.lt_of_lt_of_le hc (Nat.pow_le_pow_right (by decide) (h10 n (by omega)))
  obtain ⟨f, e1, e2⟩ := jp_E.out2 (m_edges (show n ≤ 8 by omega) hc) (m_bits (show c < 2 ^ 31 by omega))
  rw [e1] at e2
  rw [ni_bc c hc2, Option.some.inj e2]
  congr 1
  have h2 := fb_ct_split (fun u => c.testBit u) 10 20
  have h3 : fb_ct (fun k => c.testBit (10 + k)) 20 = 0 := fb_ct_zero.mpr (fun k _ => Nat.testBit_lt_two_pow (Nat.lt_of_lt_of_le hc2 (show 2 ^ 10 ≤ 2 ^ (10 + k) from Nat.pow_le_pow_right (by decide) (by omega))))
  rw [h2, h3, Nat.add_zero]
theorem m_eAll {M : jm_M} {R : Nat → Nat} {H : Nat → Nat → Nat} {k : Nat} (h : MI M R H k) : jp_E (fun f => X9_edgesOfAll f 39 M = some (pcS (R 2) (R 3) (sD R) 0)) := by
  obtain ⟨d1, d2, d3, d4, d5⟩ := h.1.d
  have key := jp_L.for (body := fun f => X9_edgesOfAll_B4 f 39 M) (r := pcS (R 2) (R 3) (sD R) 0) (fun v => (pcS (R 2) v (sD R) 0, nI v)) (R 3) ?_ ?_ 0 (Nat.zero_le _)
  · refine key.use.imp (fun f e => ?_)
    unfold X9_edgesOfAll
    rw [show ((0 : Int32), (0 : Int32)) = (pcS (R 2) 0 (sD R) 0, nI 0) from rfl, e]; rfl
  · intro v hv
    refine (m_edges (n := R 2 - 1) (by omega) (d5 v hv).1).imp (fun f e => ?_)
    unfold X9_edgesOfAll_B4
    dsimp only
    rw [show jm_rf 39 0 = 40 from rfl, h.w3, Option.bind_some, if_neg (nI_ge hv (by omega)), h.w hv, Option.bind_some, e, Option.bind_some, nI_1]; rfl
  · refine jp_E.all (fun f => ?_)
    unfold X9_edgesOfAll_B4
    dsimp only
    rw [show jm_rf 39 0 = 40 from rfl, h.w3, Option.bind_some, if_pos (nI_le (Nat.le_refl _) (by omega))]
theorem m_eCnt {M : jm_M} {R : Nat → Nat} {H : Nat → Nat → Nat} {k : Nat} (h : MI M R H k) : jp_E (fun f => X9_edgesCounted f 39 M = some (pcs (R 2) (R 3) (sD R) 0)) := by
  obtain ⟨d1, d2, d3, d4, d5⟩ := h.1.d
  refine (m_eAll h).imp (fun f e => ?_)
  unfold X9_edgesCounted pcs
  rw [show jm_rf 39 0 = 40 from rfl, h.w2, Option.bind_some, m_whole h, Option.bind_some]
  by_cases c : R 3 = R 2
  · rw [if_pos c, if_neg (show ¬ (1 : Int32) = 0 by decide), e, Option.bind_some, if_pos ⟨c, show 2 < R 2 by omega⟩, show (2 : Int32) = nI 2 from rfl, nI_sub (by omega)]
    unfold jm_rm jm_dv dvd'
    have hz : ¬ nI (R 2 - 2) = 0 := nI_ne0 (by omega) (by omega)
    simp only [if_neg hz, Option.bind_some]
    show _ = some (if _ - _ / nI (R 2 - 2) * nI (R 2 - 2) = 0 then _ / nI (R 2 - 2) else -9)
    split <;> rfl
  · rw [if_neg c, if_pos rfl, if_neg (fun q => c q.1)]
noncomputable def sdg (h m : Nat) (D : Nat → Nat) (i : Nat) : Int32 := if pcs h m D 0 = -9 then -9 else pcs h m D 0 - nI (qE (qg_ad (h - 1) (D i)) (h - 1))
theorem m_deg {M : jm_M} {R : Nat → Nat} {H : Nat → Nat → Nat} {k i : Nat} (h : MI M R H k) (hi : i < R 3) : jp_E (fun f => X9_degreeCounted f 39 (nI i) M = some (sdg (R 2) (R 3) (sD R) i)) := by
  obtain ⟨d1, d2, d3, d4, d5⟩ := h.1.d
  refine jp_E.imp2 (m_eCnt h) (m_edges (n := R 2 - 1) (by omega) (d5 i hi).1) (fun f e e2 => ?_)
  unfold X9_degreeCounted sdg
  rw [e, Option.bind_some]
  by_cases c : pcs (R 2) (R 3) (sD R) 0 = -9
  · rw [if_pos c, if_pos c]
  · rw [if_neg c, if_neg c, show jm_rf 39 0 = 40 from rfl, h.w hi, Option.bind_some, e2]; rfl
theorem x2_edges {M : jm_M} {R : Nat → Nat} {H : Nat → Nat → Nat} {k : Nat} (h : XI M R H k) : ∃ M', jp_eq [26, 27] M M' ∧ jp_E (fun f => X2_edges f 25 3 M = some (pcs (R 2) (R 3) (sD R) 0, M')) := by
  obtain ⟨M', a1, a2⟩ := x2_pat h (show 0 < 9 by decide)
  refine ⟨M', a1, a2.imp (fun f e => ?_)⟩
  unfold X2_edges
  rw [show (0 : Int32) = nI 0 from rfl, e]; rfl
theorem x2_deg {M : jm_M} {R : Nat → Nat} {H : Nat → Nat → Nat} {k i : Nat} (h : XI M R H k) (hi : i < R 3) : ∃ M', jp_eq [26, 27] M M' ∧ jp_E (fun f => X2_degree f 25 3 (nI i) M = some (sdg (R 2) (R 3) (sD R) i, M')) := by
  obtain ⟨d1, d2, d3, d4, d5⟩ := h.1.d
  obtain ⟨M', a1, a2⟩ := x2_edges h
  refine ⟨M', a1, a2.imp (fun f e => ?_)⟩
  unfold X2_degree sdg
  rw [e, Option.bind_some]
  dsimp only
  by_cases c : pcs (R 2) (R 3) (sD R) 0 = -9
  · rw [if_pos c, if_pos c]
  · rw [if_neg c, if_neg c, x3_at (h.p a1).d (by omega) hi, Option.bind_some, x_bc (by omega) (d5 i hi).1]
/-! insertion sort of ints, descending -/
def ipos (D : Nat → Int32) (x : Int32) : Nat → Nat
  | 0 => 0
  | k + 1 => if D k < x then ipos D x k else k + 1
def idn (D : Nat → Int32) (p : Nat) (x : Int32) (i : Nat) : Int32 := if i < p then D i else if i = p then x else D (i - 1)
def isd (f : Nat → Int32) : Nat → Nat → Int32
  | 0 => fun _ => 0
  | k + 1 => idn (isd f k) (ipos (isd f k) (f k) k) (f k)
theorem ipos_spec (D : Nat → Int32) (x : Int32) : ∀ k, ipos D x k ≤ k ∧ (∀ i, ipos D x k ≤ i → i < k → D i < x) ∧ (0 < ipos D x k → ¬ D (ipos D x k - 1) < x)
  | 0 => ⟨Nat.le_refl 0, fun i _ h => absurd h (Nat.not_lt_zero i), fun h => absurd h (Nat.lt_irrefl 0)⟩
  | k + 1 => by
    obtain ⟨h1, h2, h3⟩ := ipos_spec D x k
    unfold ipos
    by_cases c : D k < x
    · rw [if_pos c]
      refine ⟨by omega, fun i a b => ?_, h3⟩
      by_cases e : i = k
      · rw [e]; exact c
      · exact h2 i a (by omega)
    · rw [if_neg c]
      exact ⟨Nat.le_refl _, fun i a b => by omega, fun _ => c⟩
theorem idn_all {P : Int32 → Prop} {D : Nat → Int32} {p m : Nat} {x : Int32} (hp : p ≤ m) : (∀ i, i < m + 1 → P (idn D p x i)) ↔ (∀ i, i < m → P (D i)) ∧ P x := by
  constructor
  · intro h
    refine ⟨fun i hi => ?_, ?_⟩
    · by_cases c : i < p
      · have := h i (by omega)
        unfold idn at this
        rw [if_pos c] at this
        exact this
      · have := h (i + 1) (by omega)
        unfold idn at this
        rw [if_neg (by omega), if_neg (by omega)] at this
        exact this
    · have := h p (by omega)
      unfold idn at this
      rw [if_neg (by omega), if_pos rfl] at this
      exact this
  · intro h i hi
    unfold idn
    by_cases c : i < p
    · rw [if_pos c]; exact h.1 i (by omega)
    · rw [if_neg c]
      by_cases c2 : i = p
      · rw [if_pos c2]; exact h.2
      · rw [if_neg c2]; exact h.1 (i - 1) (by omega)
theorem isd_all {P : Int32 → Prop} {f : Nat → Int32} : ∀ m, (∀ i, i < m → P (isd f m i)) ↔ ∀ i, i < m → P (f i)
  | 0 => ⟨fun _ i h => absurd h (Nat.not_lt_zero i), fun _ i h => absurd h (Nat.not_lt_zero i)⟩
  | m + 1 => by
    refine Iff.trans (idn_all (ipos_spec _ _ m).1) ?_
    rw [isd_all m]
    constructor
    · intro h i hi
      by_cases e : i = m
      · rw [e]; exact h.2
      · exact h.1 i (by omega)
    · intro h
      exact ⟨fun i hi => h i (by omega), h m (by omega)⟩
theorem x2_insL {M : jm_M} {k : Nat} {x V2 V3 : Int32} {D : Nat → Int32} (hk : k < 6) (h : ∀ i, i < k → M.1 28 i = D i) : jp_K (X2_sortDegrees_B31 25 3 V2 V3 x) (nI k, M) (nI (ipos D x k), jm_put M 28 (fun i => if ipos D x k < i ∧ i ≤ k then M.1 28 (i - 1) else M.1 28 i)) := by
  obtain ⟨hp, h2, h3⟩ := ipos_spec D x k
  generalize hr : ipos D x k = q at hp h2 h3
  have key := jp_K.for (body := X2_sortDegrees_B31 25 3 V2 V3 x) (r := (nI q, jm_put M 28 (fun i => if q < i ∧ i ≤ k then M.1 28 (i - 1) else M.1 28 i))) (fun j => (nI (k - j), jm_put M 28 (fun i => if k - j < i ∧ i ≤ k then M.1 28 (i - 1) else M.1 28 i))) (k - q) ?_ ?_ 0 (Nat.zero_le _)
  · have e : jm_put M 28 (fun i => if k - 0 < i ∧ i ≤ k then M.1 28 (i - 1) else M.1 28 i) = M := by
      have : (fun i => if k - 0 < i ∧ i ≤ k then M.1 28 (i - 1) else M.1 28 i) = M.1 28 := by
        funext i
        rw [if_neg (by omega)]
      rw [this, jm_put_self]
    rw [e] at key
    exact key
  · intro j hj
    have e1 : M.1 28 (k - j - 1) = D (k - j - 1) := h _ (by omega)
    have e2 := h2 (k - j - 1) (by omega) (by omega)
    unfold X2_sortDegrees_B31
    dsimp only
    rw [if_neg (nI_nle (by omega) (by omega)), show jm_rf 25 1 = 28 from rfl, ni_sub1 (by omega), jp_ga (by omega) (by decide), Option.bind_some, jm_put_at, if_neg (show ¬ (k - j < k - j - 1 ∧ k - j - 1 ≤ k) by omega), e1, if_neg (fa_of_lt e2).2.1, Option.bind_some, jp_sa (by omega) (by decide), Option.bind_some, nI_m1 (by omega), jm_put_put, jm_put_at, show k - j - 1 = k - (j + 1) by omega]
    congr 4
    funext i
    unfold upd
    by_cases e : i = k - j
    · rw [if_pos e, if_pos (by omega), show i - 1 = k - (j + 1) by omega, show k - (j + 1) = k - j - 1 by omega, e1]
    · rw [if_neg e]
      dsimp only
      by_cases h1 : k - j < i ∧ i ≤ k
      · rw [if_pos h1, if_pos (by omega)]
      · rw [if_neg h1, if_neg (by omega)]
  · unfold X2_sortDegrees_B31
    dsimp only
    rw [show k - (k - q) = q by omega]
    by_cases c : q = 0
    · rw [if_pos (by rw [c]; decide)]
    · have e1 : M.1 28 (q - 1) = D (q - 1) := h _ (by omega)
      rw [if_neg (nI_nle (by omega) (by omega)), show jm_rf 25 1 = 28 from rfl, ni_sub1 (by omega), jp_ga (by omega) (by decide), Option.bind_some, jm_put_at, if_neg (show ¬ (q < q - 1 ∧ q - 1 ≤ k) by omega), e1, if_pos (fa_of_nlt (h3 (by omega)))]
theorem m_insL {M : jm_M} {k : Nat} {x V1 : Int32} {D : Nat → Int32} (hk : k < 6) (h : ∀ i, i < k → M.1 51 i = D i) : jp_K (X9_isGraphic_B20 39 V1 x) (nI k, M) (nI (ipos D x k), jm_put M 51 (fun i => if ipos D x k < i ∧ i ≤ k then M.1 51 (i - 1) else M.1 51 i)) := by
  obtain ⟨hp, h2, h3⟩ := ipos_spec D x k
  generalize hr : ipos D x k = q at hp h2 h3
  have key := jp_K.for (body := X9_isGraphic_B20 39 V1 x) (r := (nI q, jm_put M 51 (fun i => if q < i ∧ i ≤ k then M.1 51 (i - 1) else M.1 51 i))) (fun j => (nI (k - j), jm_put M 51 (fun i => if k - j < i ∧ i ≤ k then M.1 51 (i - 1) else M.1 51 i))) (k - q) ?_ ?_ 0 (Nat.zero_le _)
  · have e : jm_put M 51 (fun i => if k - 0 < i ∧ i ≤ k then M.1 51 (i - 1) else M.1 51 i) = M := by
      have : (fun i => if k - 0 < i ∧ i ≤ k then M.1 51 (i - 1) else M.1 51 i) = M.1 51 := by
        funext i
        rw [if_neg (by omega)]
      rw [this, jm_put_self]
    rw [e] at key
    exact key
  · intro j hj
    have e1 : M.1 51 (k - j - 1) = D (k - j - 1) := h _ (by omega)
    have e2 := h2 (k - j - 1) (by omega) (by omega)
    unfold X9_isGraphic_B20
    dsimp only
    rw [if_neg (nI_nle (by omega) (by omega)), show jm_rf 39 15 = 51 from rfl, ni_sub1 (by omega), jp_ga (by omega) (by decide), Option.bind_some, jm_put_at, if_neg (show ¬ (k - j < k - j - 1 ∧ k - j - 1 ≤ k) by omega), e1, if_neg (fa_of_lt e2).2.1, Option.bind_some, jp_sa (by omega) (by decide), Option.bind_some, nI_m1 (by omega), jm_put_put, jm_put_at, show k - j - 1 = k - (j + 1) by omega]
    congr 4
    funext i
    unfold upd
    by_cases e : i = k - j
    · rw [if_pos e, if_pos (by omega), show i - 1 = k - (j + 1) by omega, show k - (j + 1) = k - j - 1 by omega, e1]
    · rw [if_neg e]
      dsimp only
      by_cases h1 : k - j < i ∧ i ≤ k
      · rw [if_pos h1, if_pos (by omega)]
      · rw [if_neg h1, if_neg (by omega)]
  · unfold X9_isGraphic_B20
    dsimp only
    rw [show k - (k - q) = q by omega]
    by_cases c : q = 0
    · rw [if_pos (by rw [c]; decide)]
    · have e1 : M.1 51 (q - 1) = D (q - 1) := h _ (by omega)
      rw [if_neg (nI_nle (by omega) (by omega)), show jm_rf 39 15 = 51 from rfl, ni_sub1 (by omega), jp_ga (by omega) (by decide), Option.bind_some, jm_put_at, if_neg (show ¬ (q < q - 1 ∧ q - 1 ≤ k) by omega), e1, if_pos (fa_of_nlt (h3 (by omega)))]
