/-! THE REFERENCE: all graphs that are isomorphic to one -/
theorem m_turned {M : jm_M} {n c : Nat} {p : Nat → Nat} (hn : n ≤ 8) (hn1 : 1 ≤ n) (hc : c < 2 ^ 31) (him : ∀ i, i < n → M.1 45 i = nI (p i)) (hp : ∀ i, i < n → p i < n) : jp_E (fun f => X9_turned f 39 (nI n) (nI c) M = some (nI (qc (qg_ad n c) p n))) := by
  have hin : ∀ b acc, b < n → jp_K (X9_turned_B14 39 (nI n) (nI c) (nI b) M) (nI acc, 0) (nI (acc * 2 ^ b + qg_col (fun i j => qg_ad n c (p i) (p j)) b b)) := by
    intro b acc hb
    have key := jp_K.for (body := X9_turned_B14 39 (nI n) (nI c) (nI b) M) (r := nI (acc * 2 ^ b + qg_col (fun i j => qg_ad n c (p i) (p j)) b b)) (fun a => (nI (acc * 2 ^ a + qg_col (fun i j => qg_ad n c (p i) (p j)) b a), nI a)) b ?_ ?_ 0 (Nat.zero_le b)
    · have e : acc * 2 ^ 0 + qg_col (fun i j => qg_ad n c (p i) (p j)) b 0 = acc := by show acc * 1 + 0 = acc; omega
      rw [e, nI_0] at key
      exact key
    · intro a ha
      unfold X9_turned_B14
      dsimp only
      rw [if_neg (nI_ge ha (by omega)), show jm_rf 39 6 = 45 from rfl, jp_ga (by omega) (by decide), Option.bind_some, jp_ga (by omega) (by decide), Option.bind_some, him a (by omega), him b hb, m_isEdge hn hc (hp a (by omega)) (hp b hb), show (2 : Int32) = nI 2 from rfl, ni_dig2, nI_1]
      congr 4
      show _ = acc * 2 ^ (a + 1) + (2 * qg_col (fun i j => qg_ad n c (p i) (p j)) b a + (qg_ad n c (p a) (p b)).toNat)
      have e3 : acc * 2 ^ (a + 1) = 2 * (acc * 2 ^ a) := by rw [Nat.pow_succ, ← Nat.mul_assoc, Nat.mul_comm]
      rw [e3, Nat.mul_add]
      omega
    · unfold X9_turned_B14
      dsimp only
      rw [if_pos (nI_le (Nat.le_refl b) (by omega))]
  have key := jp_L.for (body := fun f => X9_turned_B5 f 39 (nI n) (nI c) M) (r := nI (qc (qg_ad n c) p n)) (fun b => (nI (qg_cd (fun i j => qg_ad n c (p i) (p j)) b), nI b)) n ?_ ?_ 1 hn1
  · refine key.use.imp (fun f e => ?_)
    unfold X9_turned
    rw [show ((0 : Int32), (1 : Int32)) = (nI (qg_cd (fun i j => qg_ad n c (p i) (p j)) 1), nI 1) from rfl, e]; rfl
  · intro b hb
    refine jp_E.imp (hin b (qg_cd (fun i j => qg_ad n c (p i) (p j)) b) hb) (fun f e => ?_)
    unfold X9_turned_B5
    dsimp only
    rw [if_neg (nI_ge hb (by omega)), e, Option.bind_some, nI_1]; rfl
  · refine jp_E.all (fun f => ?_)
    unfold X9_turned_B5
    dsimp only
    rw [if_pos (nI_le (Nat.le_refl n) (by omega))]; rfl
theorem rn_free {M : jm_M} {n k w : Nat} {p : Nat → Nat} {V1 V2 : Int32} (hn : n ≤ 8) (hk : k < n) (hw : w < n) (him : ∀ i, i < k → M.1 45 i = nI (p i)) (hp : ∀ i, i < k → p i < n) : jp_K (X9_renumber_B47 39 V1 V2 (nI k) (nI w) M) (1, 0) (if qu p k w then 0 else 1) := by
  have key : ∀ j a, a + j = k → (∀ i, i < a → p i ≠ w) → jp_K (X9_renumber_B47 39 V1 V2 (nI k) (nI w) M) (1, nI a) (if qu p k w then 0 else 1) := by
    intro j
    induction j with
    | zero =>
      intro a e h
      have hq : ¬ qu p k w = true := fun q => by
        obtain ⟨i, h1, h2⟩ := qu_iff.mp q
        exact h i (by omega) h2
      rw [if_neg hq]
      refine jp_K.done ?_
      unfold X9_renumber_B47
      dsimp only
      rw [if_pos (nI_le (by omega) (by omega))]
    | succ j ih =>
      intro a e h
      have hpa := hp a (by omega)
      by_cases c : p a = w
      · rw [if_pos (qu_iff.mpr ⟨a, by omega, c⟩)]
        refine jp_K.step (s1 := (0, nI (a + 1))) ?_ (jp_K.done ?_)
        · unfold X9_renumber_B47
          dsimp only
          rw [if_neg (nI_ge (by omega) (by omega)), if_neg (show ¬ (1 : Int32) = 0 by decide), show jm_rf 39 6 = 45 from rfl, jp_ga (by omega) (by decide), Option.bind_some, him a (by omega), c, if_pos rfl, nI_1]
        · unfold X9_renumber_B47
          dsimp only
          split
          · rfl
          · rw [if_pos rfl]
      · refine jp_K.step (s1 := (1, nI (a + 1))) ?_ (ih (a + 1) (by omega) (fun i hi => ?_))
        · unfold X9_renumber_B47
          dsimp only
          rw [if_neg (nI_ge (by omega) (by omega)), if_neg (show ¬ (1 : Int32) = 0 by decide), show jm_rf 39 6 = 45 from rfl, jp_ga (by omega) (by decide), Option.bind_some, him a (by omega), if_neg (fun q => c ((nI_eq (by omega) (by omega)).mp q)), nI_1]
        · by_cases e2 : i = a
          · rw [e2]; exact c
          · exact h i (by omega)
  exact key k 0 (by omega) (fun i hi => absurd hi (Nat.not_lt_zero i))
theorem rn_end {M : jm_M} {n c k : Nat} {p : Nat → Nat} (hn : n ≤ 8) (hk : k < n) (h : mg_at M n k p n) : jp_E (fun f => X9_renumber_B9 f 39 (nI n) (nI c) (nI k, M) = some (.inl (nI k + (-1), jm_put M 45 (upd (M.1 45) k (nI n))))) := by
  have hl : jp_K (X9_renumber_B47 39 (nI n) (nI c) (nI k) (nI n) (jm_put M 45 (upd (M.1 45) k (nI n)))) (0, 0) 0 := jp_K.done (by
    unfold X9_renumber_B47
    dsimp only
    split
    · rfl
    · rw [if_pos rfl])
  refine jp_E.imp hl (fun f e => ?_)
  unfold X9_renumber_B9
  dsimp only
  rw [if_neg (nI_pos (by omega)), show jm_rf 39 6 = 45 from rfl, jp_ga (by omega) (by decide), Option.bind_some, h.2.1, jp_sa (by omega) (by decide), Option.bind_some, jm_put_at, jp_ga (by omega) (by decide), Option.bind_some, pk_us, if_pos (nI_le (Nat.le_refl n) (by omega)), e, Option.bind_some, if_neg (nI_nlt (Nat.le_refl _) (by omega))]
theorem rn_no {M : jm_M} {n c k w : Nat} {p : Nat → Nat} (hn : n ≤ 8) (hk : k < n) (hw : w < n) (h : mg_at M n k p w) (hno : qu p k w = true) : jp_E (fun f => X9_renumber_B9 f 39 (nI n) (nI c) (nI k, M) = some (.inl (nI k, jm_put M 45 (upd (M.1 45) k (nI w))))) := by
  have him : ∀ i, i < k → (jm_put M 45 (upd (M.1 45) k (nI w))).1 45 i = nI (p i) := fun i hi => by rw [jm_put_at, pk_un (by omega)]; exact h.1 i hi
  refine jp_E.imp (rn_free (V1 := nI n) (V2 := nI c) hn hk hw him h.2.2) (fun f e => ?_)
  rw [if_pos hno] at e
  unfold X9_renumber_B9
  dsimp only
  rw [if_neg (nI_pos (by omega)), show jm_rf 39 6 = 45 from rfl, jp_ga (by omega) (by decide), Option.bind_some, h.2.1, jp_sa (by omega) (by decide), Option.bind_some, jm_put_at, jp_ga (by omega) (by decide), Option.bind_some, pk_us, if_neg (nI_ge hw (by omega)), e, Option.bind_some, if_pos (nI_lt hw (by omega)), if_pos rfl, if_pos rfl]
theorem rn_down {M : jm_M} {n c k w : Nat} {p : Nat → Nat} (hn : n ≤ 8) (hk : k + 1 < n) (hw : w < n) (h : mg_at M n k p w) (ho : qu p k w = false) : jp_E (fun f => X9_renumber_B9 f 39 (nI n) (nI c) (nI k, M) = some (.inl (nI (k + 1), jm_put M 45 (upd (upd (M.1 45) k (nI w)) (k + 1) (-1))))) := by
  have him : ∀ i, i < k → (jm_put M 45 (upd (M.1 45) k (nI w))).1 45 i = nI (p i) := fun i hi => by rw [jm_put_at, pk_un (by omega)]; exact h.1 i hi
  refine jp_E.imp (rn_free (V1 := nI n) (V2 := nI c) hn (by omega) hw him h.2.2) (fun f e => ?_)
  rw [if_neg (by rw [ho]; decide)] at e
  unfold X9_renumber_B9
  dsimp only
  rw [if_neg (nI_pos (by omega)), show jm_rf 39 6 = 45 from rfl, jp_ga (by omega) (by decide), Option.bind_some, h.2.1, jp_sa (by omega) (by decide), Option.bind_some, jm_put_at, jp_ga (by omega) (by decide), Option.bind_some, pk_us, if_neg (nI_ge hw (by omega)), e, Option.bind_some, if_pos (nI_lt hw (by omega)), if_neg (show ¬ (1 : Int32) = 0 by decide), ni_sub1 (by omega), if_neg (nI_ge (by omega) (by omega)), nI_1, jp_sa (by omega) (by decide), Option.bind_some, jm_put_at, jm_put_put]
theorem tri15 : ∀ n, n < 7 → qg_tri n ≤ 15 := by decide
theorem rn_leaf {M : jm_M} {n c k w : Nat} {p : Nat → Nat} (hn : n ≤ 6) (hc : c < 2 ^ 31) (hk : k + 1 = n) (hw : w < n) (h : mg_at M n k p w) (ho : qu p k w = false) : jp_E (fun f => X9_renumber_B9 f 39 (nI n) (nI c) (nI k, M) = some (.inl (nI k, jm_put (jm_put M 45 (upd (M.1 45) k (nI w))) 48 (upd (M.1 48) (qc (qg_ad n c) (qset p k w) n) (nI c))))) := by
  have him : ∀ i, i < k → (jm_put M 45 (upd (M.1 45) k (nI w))).1 45 i = nI (p i) := fun i hi => by rw [jm_put_at, pk_un (by omega)]; exact h.1 i hi
  have him2 : ∀ i, i < n → (jm_put M 45 (upd (M.1 45) k (nI w))).1 45 i = nI (qset p k w i) := fun i hi => by
    by_cases e : i = k
    · rw [e, jm_put_at, pk_us, qset_at]
    · rw [qset_lt (show i < k by omega)]; exact him i (by omega)
  have hq2 : ∀ i, i < n → qset p k w i < n := fun i hi => by
    by_cases e : i = k
    · rw [e, qset_at]; exact hw
    · rw [qset_lt (show i < k by omega)]; exact h.2.2 i (by omega)
  have hy : qc (qg_ad n c) (qset p k w) n < 33000 := Nat.lt_of_lt_of_le (qg_cd_lt _ n) (Nat.le_trans (Nat.pow_le_pow_right (by decide) (tri15 n (by omega))) (by decide))
  refine jp_E.imp2 (rn_free (V1 := nI n) (V2 := nI c) (by omega) (by omega) hw him h.2.2) (m_turned (c := c) (by omega) (by omega) hc him2 hq2) (fun f e e2 => ?_)
  rw [if_neg (by rw [ho]; decide)] at e
  unfold X9_renumber_B9
  dsimp only
  rw [if_neg (nI_pos (by omega)), show jm_rf 39 6 = 45 from rfl, jp_ga (by omega) (by decide), Option.bind_some, h.2.1, jp_sa (by omega) (by decide), Option.bind_some, jm_put_at, jp_ga (by omega) (by decide), Option.bind_some, pk_us, if_neg (nI_ge hw (by omega)), e, Option.bind_some, if_pos (nI_lt hw (by omega)), if_neg (show ¬ (1 : Int32) = 0 by decide), ni_sub1 (by omega), if_pos (nI_le (by omega) (by omega)), if_neg (show ¬ (1 : Int32) = 0 by decide), e2, Option.bind_some, show jm_rf 39 10 = 48 from rfl, jp_sa hy (by decide), Option.bind_some, jm_put_ne _ _ (show 48 ≠ 45 by decide)]
def rh (n : Nat) (A : Nat → Nat → Bool) (k : Nat) (p : Nat → Nat) (w y : Nat) : Prop := ∃ q, qp n q ∧ (∀ i, i < k → q i = p i) ∧ w ≤ q k ∧ qc A q n = y
def rinj (k : Nat) (p : Nat → Nat) : Prop := ∀ i j, i < k → j < k → p i = p j → i = j
theorem rinj_set {k w : Nat} {p : Nat → Nat} (h : rinj k p) (hu : qu p k w = false) : rinj (k + 1) (qset p k w) := by
  have hne : ∀ i, i < k → p i ≠ w := fun i hi e => by
    have := qu_iff.mpr ⟨i, hi, e⟩
    rw [hu] at this
    exact absurd this (by decide)
  intro i j hi hj e
  by_cases c1 : i = k
  · by_cases c2 : j = k
    · omega
    · rw [c1, qset_at, qset_lt (show j < k by omega)] at e
      exact absurd e.symm (hne j (by omega))
  · by_cases c2 : j = k
    · rw [c2, qset_at, qset_lt (show i < k by omega)] at e
      exact absurd e (hne i (by omega))
    · rw [qset_lt (show i < k by omega), qset_lt (show j < k by omega)] at e
      exact h i j (by omega) (by omega) e
theorem rh_no {n : Nat} {A : Nat → Nat → Bool} {k w y : Nat} {p : Nat → Nat} (hk : k < n) (h : qu p k w = true) : rh n A k p w y ↔ rh n A k p (w + 1) y := by
  constructor
  · rintro ⟨q, q1, q2, q3, q4⟩
    have : q k ≠ w := fun e => by
      have := mc_fit q1 hk q2
      rw [e, h] at this
      exact absurd this (by decide)
    exact ⟨q, q1, q2, by omega, q4⟩
  · rintro ⟨q, q1, q2, q3, q4⟩
    exact ⟨q, q1, q2, by omega, q4⟩
theorem rh_down {n : Nat} {A : Nat → Nat → Bool} {k w y : Nat} {p : Nat → Nat} : rh n A k p w y ↔ rh n A (k + 1) (qset p k w) 0 y ∨ rh n A k p (w + 1) y := by
  constructor
  · rintro ⟨q, q1, q2, q3, q4⟩
    by_cases e : q k = w
    · refine Or.inl ⟨q, q1, fun i hi => ?_, Nat.zero_le _, q4⟩
      by_cases e1 : i = k
      · rw [e1, qset_at]; exact e
      · rw [qset_lt (show i < k by omega)]; exact q2 i (by omega)
    · exact Or.inr ⟨q, q1, q2, by omega, q4⟩
  · rintro (⟨q, q1, q2, q3, q4⟩ | ⟨q, q1, q2, q3, q4⟩)
    · exact ⟨q, q1, fun i hi => by rw [q2 i (by omega), qset_lt hi], by rw [q2 k (by omega), qset_at]; exact Nat.le_refl w, q4⟩
    · exact ⟨q, q1, q2, by omega, q4⟩
theorem rh_leaf {n : Nat} {A : Nat → Nat → Bool} {k w y : Nat} {p : Nat → Nat} (hk : k + 1 = n) (hq : qp n (qset p k w)) : rh n A (k + 1) (qset p k w) 0 y ↔ y = qc A (qset p k w) n := by
  constructor
  · rintro ⟨q, q1, q2, q3, q4⟩
    rw [← q4]
    exact qc_pre (fun i hi => q2 i (by omega))
  · intro e
    exact ⟨qset p k w, hq, fun _ _ => rfl, Nat.zero_le _, e.symm⟩
def rnr (n c k : Nat) (p : Nat → Nat) (w : Nat) (M M' : jm_M) : Prop := jp_eq [45, 48] M M' ∧ (∀ y, (rh n (qg_ad n c) k p w y → M'.1 48 y = nI c) ∧ (¬ rh n (qg_ad n c) k p w y → M'.1 48 y = M.1 48 y)) ∧ ∀ i, i < k → M'.1 45 i = M.1 45 i
theorem rn_all {n c : Nat} (hn : n ≤ 6) (hc : c < 2 ^ 31) : ∀ (d k : Nat), k + d + 1 = n → ∀ (j : Nat) (p : Nat → Nat) (w : Nat) (M : jm_M), w + j = n → mg_at M n k p w → rinj k p →
    ∃ (M' : jm_M), rnr n c k p w M M' ∧ jp_R (fun f => X9_renumber_B9 f 39 (nI n) (nI c)) (nI k, M) (nI k + (-1), M') := by
  have hend : ∀ (k : Nat) (p : Nat → Nat) (M : jm_M), k < n → mg_at M n k p n → ∃ (M' : jm_M), rnr n c k p n M M' ∧ jp_R (fun f => X9_renumber_B9 f 39 (nI n) (nI c)) (nI k, M) (nI k + (-1), M') := fun k p M hk hM => by
    refine ⟨_, ⟨jp_eq.rfl'.put (by decide), fun y => ⟨fun ⟨q, q1, _, q3, _⟩ => ?_, fun _ => by rw [jm_put_ne _ _ (by decide)]⟩, fun i hi => by rw [jm_put_at, pk_un (by omega)]⟩, jp_R.one (rn_end (by omega) hk hM)⟩
    have := q1.1 k hk
    omega
  have hskip : ∀ (k : Nat) (p : Nat → Nat) (w : Nat) (M : jm_M), k < n → w < n → mg_at M n k p w → qu p k w = true → (∀ M1, mg_at M1 n k p (w + 1) → ∃ M', rnr n c k p (w + 1) M1 M' ∧ jp_R (fun f => X9_renumber_B9 f 39 (nI n) (nI c)) (nI k, M1) (nI k + (-1), M')) → ∃ (M' : jm_M), rnr n c k p w M M' ∧ jp_R (fun f => X9_renumber_B9 f 39 (nI n) (nI c)) (nI k, M) (nI k + (-1), M') := fun k p w M hk hw hM hu ih => by
    have hM1 : mg_at (jm_put M 45 (upd (M.1 45) k (nI w))) n k p (w + 1) := ⟨fun i hi => by rw [jm_put_at, pk_un (by omega)]; exact hM.1 i hi, by rw [jm_put_at, pk_us, nI_1], hM.2.2⟩
    obtain ⟨M', ⟨r1, r2, r3⟩, r4⟩ := ih _ hM1
    refine ⟨M', ⟨(jp_eq.rfl'.put (by decide)).trans r1, fun y => ?_, fun i hi => by rw [r3 i hi, jm_put_at, pk_un (by omega)]⟩, (jp_R.one (rn_no (by omega) hk hw hM hu)).trans r4⟩
    rw [rh_no hk hu]
    refine ⟨(r2 y).1, fun q => ?_⟩
    rw [(r2 y).2 q, jm_put_ne _ _ (by decide)]
  intro d
  induction d with
  | zero =>
    intro k hk j
    induction j with
    | zero =>
      intro p w M hj hM hp
      have hwn : w = n := by omega
      subst hwn
      exact hend k p M (by omega) hM
    | succ j ih =>
      intro p w M hj hM hp
      cases hu : qu p k w with
      | true => exact hskip k p w M (by omega) (by omega) hM hu (fun M1 h1 => ih p (w + 1) M1 (by omega) h1 hp)
      | false =>
        have hi2 := rinj_set hp hu
        rw [show k + 1 = n by omega] at hi2
        have hqp : qp n (qset p k w) := ⟨fun i hi => by
          by_cases e : i = k
          · rw [e, qset_at]; omega
          · rw [qset_lt (show i < k by omega)]; exact hM.2.2 i (by omega), hi2⟩
        generalize eM2 : jm_put (jm_put M 45 (upd (M.1 45) k (nI w))) 48 (upd (M.1 48) (qc (qg_ad n c) (qset p k w) n) (nI c)) = M2
        have hst := rn_leaf (c := c) hn hc (by omega) (by omega) hM hu
        rw [eM2] at hst
        have hM2 : mg_at M2 n k p (w + 1) := by
          refine ⟨fun i hi => ?_, ?_, hM.2.2⟩
          · rw [← eM2, jm_put_ne _ _ (by decide), jm_put_at, pk_un (by omega)]; exact hM.1 i hi
          · rw [← eM2, jm_put_ne _ _ (by decide), jm_put_at, pk_us, nI_1]
        obtain ⟨M', ⟨r1, r2, r3⟩, r4⟩ := ih p (w + 1) M2 (by omega) hM2 hp
        have eq2 : jp_eq [45, 48] M M2 := by rw [← eM2]; exact (jp_eq.rfl'.put (by decide)).put (by decide)
        refine ⟨M', ⟨eq2.trans r1, fun y => ?_, fun i hi => by rw [r3 i hi, ← eM2, jm_put_ne _ _ (by decide), jm_put_at, pk_un (by omega)]⟩, (jp_R.one hst).trans r4⟩
        rw [rh_down, rh_leaf (by omega) hqp]
        by_cases q2 : rh n (qg_ad n c) k p (w + 1) y
        · exact ⟨fun _ => (r2 y).1 q2, fun q => absurd (Or.inr q2) q⟩
        · rw [(r2 y).2 q2, ← eM2, jm_put_at]
          refine ⟨fun q => ?_, fun q => ?_⟩
          · rw [q.resolve_right q2, pk_us]
          · rw [pk_un (fun e => q (Or.inl e))]
  | succ d ihd =>
    intro k hk j
    induction j with
    | zero =>
      intro p w M hj hM hp
      have hwn : w = n := by omega
      subst hwn
      exact hend k p M (by omega) hM
    | succ j ih =>
      intro p w M hj hM hp
      cases hu : qu p k w with
      | true => exact hskip k p w M (by omega) (by omega) hM hu (fun M1 h1 => ih p (w + 1) M1 (by omega) h1 hp)
      | false =>
        have hi2 := rinj_set hp hu
        have st := jp_R.one (rn_down (c := c) (by omega) (by omega) (by omega) hM hu)
        have hM1 : mg_at (jm_put M 45 (upd (upd (M.1 45) k (nI w)) (k + 1) (-1))) n (k + 1) (qset p k w) 0 := by
          refine ⟨fun i hi => ?_, by rw [jm_put_at, pk_us]; decide, fun i hi => ?_⟩
          · rw [jm_put_at, pk_un (by omega)]
            by_cases e : i = k
            · rw [e, pk_us, qset_at]
            · rw [pk_un e, qset_lt (show i < k by omega)]; exact hM.1 i (by omega)
          · by_cases e : i = k
            · rw [e, qset_at]; omega
            · rw [qset_lt (show i < k by omega)]; exact hM.2.2 i (by omega)
        obtain ⟨M1, ⟨s1, s2, s3⟩, s4⟩ := ihd (k + 1) (by omega) n (qset p k w) 0 _ (by omega) hM1 hi2
        rw [nI_m1 (by omega)] at s4
        have hM2 : mg_at M1 n k p (w + 1) := ⟨fun i hi => by rw [s3 i (by omega), jm_put_at, pk_un (by omega), pk_un (by omega)]; exact hM.1 i hi, by rw [s3 k (by omega), jm_put_at, pk_un (by omega), pk_us, nI_1], hM.2.2⟩
        obtain ⟨M', ⟨r1, r2, r3⟩, r4⟩ := ih p (w + 1) M1 (by omega) hM2 hp
        refine ⟨M', ⟨((jp_eq.rfl'.put (by decide)).trans s1).trans r1, fun y => ?_, fun i hi => by rw [r3 i hi, s3 i (by omega), jm_put_at, pk_un (by omega), pk_un (by omega)]⟩, (st.trans s4).trans r4⟩
        rw [rh_down]
        by_cases q2 : rh n (qg_ad n c) k p (w + 1) y
        · exact ⟨fun _ => (r2 y).1 q2, fun q => absurd (Or.inr q2) q⟩
        · rw [(r2 y).2 q2]
          refine ⟨fun q => (s2 y).1 (q.resolve_right q2), fun q => ?_⟩
          rw [(s2 y).2 (fun e => q (Or.inl e)), jm_put_ne _ _ (by decide)]
theorem m_renum {n c : Nat} (hn : n ≤ 6) (hn1 : 1 ≤ n) (hc : c < 2 ^ 31) (M : jm_M) : ∃ M', jp_eq [45, 48] M M' ∧ (∀ y, ((∃ q, qp n q ∧ qc (qg_ad n c) q n = y) → M'.1 48 y = nI c) ∧ ((¬ ∃ q, qp n q ∧ qc (qg_ad n c) q n = y) → M'.1 48 y = M.1 48 y)) ∧ jp_E (fun f => X9_renumber f 39 (nI n) (nI c) M = some M') := by
  have hat : mg_at (jm_put M 45 (upd (M.1 45) 0 (-1))) n 0 (fun i => i) 0 := mg_at0
  obtain ⟨M', ⟨r1, r2, _⟩, r4⟩ := rn_all (c := c) hn hc (n - 1) 0 (by omega) n (fun i => i) 0 _ (by omega) hat (fun i j hi _ _ => absurd hi (Nat.not_lt_zero i))
  have hrh : ∀ y, rh n (qg_ad n c) 0 (fun i => i) 0 y ↔ ∃ q, qp n q ∧ qc (qg_ad n c) q n = y := fun y => ⟨fun ⟨q, a, _, _, b⟩ => ⟨q, a, b⟩, fun ⟨q, a, b⟩ => ⟨q, a, fun i hi => absurd hi (Nat.not_lt_zero i), Nat.zero_le _, b⟩⟩
  have hl : jp_L (fun f => X9_renumber_B9 f 39 (nI n) (nI c)) (nI 0, jm_put M 45 (upd (M.1 45) 0 (-1))) M' := r4 _ (jp_L.done (jp_E.all (fun f => by
    unfold X9_renumber_B9
    dsimp only
    rw [if_pos (show nI 0 + (-1) < (0 : Int32) by decide)])))
  refine ⟨M', (jp_eq.rfl'.put (by decide)).trans r1, fun y => ?_, hl.use.imp (fun f e => ?_)⟩
  · have := r2 y
    rw [hrh y, jm_put_ne _ _ (by decide)] at this
    exact this
  · unfold X9_renumber
    rw [show jm_rf 39 6 = 45 from rfl, m_s0, Option.bind_some, show (0 : Int32) = nI 0 from rfl, e]; rfl
