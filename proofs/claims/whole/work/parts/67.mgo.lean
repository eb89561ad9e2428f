/-! THE REFERENCE's walk through the automorphisms -/
def okB (A : Nat → Nat → Bool) (k : Nat) (p : Nat → Nat) (x : Nat) : Prop := qu p k x = false ∧ ∀ w, w < k → A x (p w) = A k w
theorem mg_canL {M : jm_M} {n c k x : Nat} {p : Nat → Nat} (hn : n ≤ 8) (hc : c < 2 ^ 31) (hk : k < n) (hx : x < n) (him : ∀ w, w < k → M.1 45 w = nI (p w)) (hp : ∀ w, w < k → p w < n) :
    ∀ j w, w + j = k → ((∀ u, w ≤ u → u < k → p u ≠ x ∧ qg_ad n c u k = qg_ad n c (p u) x) ∧ jp_K (X9_canBe_B3 39 (nI n) (nI c) (nI k) (nI x) M) (nI w) (.inr ())) ∨ ((¬ ∀ u, w ≤ u → u < k → p u ≠ x ∧ qg_ad n c u k = qg_ad n c (p u) x) ∧ jp_K (X9_canBe_B3 39 (nI n) (nI c) (nI k) (nI x) M) (nI w) (.inl 0))
  | 0, w, h => Or.inl ⟨fun u q1 q2 => by omega, jp_K.done (by
      unfold X9_canBe_B3
      rw [if_pos (nI_le (by omega) (by omega))])⟩
  | j + 1, w, h => by
    have hpw := hp w (by omega)
    by_cases h1 : p w = x
    · refine Or.inr ⟨fun q => (q w (Nat.le_refl w) (by omega)).1 h1, jp_K.done ?_⟩
      unfold X9_canBe_B3
      rw [if_neg (nI_ge (by omega) (by omega)), show jm_rf 39 6 = 45 from rfl, jp_ga (by omega) (by decide), him w (by omega), Option.bind_some, if_pos (by rw [h1])]
    · have hne : ¬ nI (p w) = nI x := fun q => h1 ((nI_eq (by omega) (by omega)).mp q)
      by_cases he : qg_ad n c w k = qg_ad n c (p w) x
      · have st : X9_canBe_B3 39 (nI n) (nI c) (nI k) (nI x) M (nI w) = some (.inl (nI (w + 1))) := by
          unfold X9_canBe_B3
          rw [if_neg (nI_ge (by omega) (by omega)), show jm_rf 39 6 = 45 from rfl, jp_ga (by omega) (by decide), him w (by omega), Option.bind_some, if_neg hne, Option.bind_some, m_isEdge hn hc (by omega) hk, m_isEdge hn hc hpw hx, if_pos ((ni_beq _ _).mpr he), nI_1]
        rcases mg_canL (x := x) hn hc hk hx him hp j (w + 1) (by omega) with ⟨q1, q2⟩ | ⟨q1, q2⟩
        · refine Or.inl ⟨fun u u1 u2 => ?_, jp_K.step st q2⟩
          by_cases e : u = w
          · rw [e]; exact ⟨h1, he⟩
          · exact q1 u (by omega) u2
        · exact Or.inr ⟨fun q => q1 (fun u u1 u2 => q u (by omega) u2), jp_K.step st q2⟩
      · refine Or.inr ⟨fun q => he (q w (Nat.le_refl w) (by omega)).2, jp_K.done ?_⟩
        unfold X9_canBe_B3
        rw [if_neg (nI_ge (by omega) (by omega)), show jm_rf 39 6 = 45 from rfl, jp_ga (by omega) (by decide), him w (by omega), Option.bind_some, if_neg hne, Option.bind_some, m_isEdge hn hc (by omega) hk, m_isEdge hn hc hpw hx, if_neg (fun q => he ((ni_beq _ _).mp q))]
theorem mg_can {M : jm_M} {n c k x : Nat} {p : Nat → Nat} (hn : n ≤ 8) (hc : c < 2 ^ 31) (hk : k < n) (hx : x < n) (him : ∀ w, w < k → M.1 45 w = nI (p w)) (hp : ∀ w, w < k → p w < n) :
    (okB (qg_ad n c) k p x ∧ jp_E (fun f => X9_canBe f 39 (nI n) (nI c) (nI k) (nI x) M = some 1)) ∨ (¬ okB (qg_ad n c) k p x ∧ jp_E (fun f => X9_canBe f 39 (nI n) (nI c) (nI k) (nI x) M = some 0)) := by
  have hA := qg_ad_ok n c
  have hiff : okB (qg_ad n c) k p x ↔ ∀ u, 0 ≤ u → u < k → p u ≠ x ∧ qg_ad n c u k = qg_ad n c (p u) x := by
    constructor
    · rintro ⟨h1, h2⟩ u _ hu
      refine ⟨fun e => ?_, ?_⟩
      · have : qu p k x = true := qu_iff.mpr ⟨u, hu, e⟩
        rw [h1] at this; cases this
      · rw [hA.1 u k, ← h2 u hu, hA.1]
    · intro h
      refine ⟨?_, fun w hw => ?_⟩
      · cases e : qu p k x with
        | false => rfl
        | true =>
          obtain ⟨i, h1, h2⟩ := qu_iff.mp e
          exact absurd h2 (h i (Nat.zero_le i) h1).1
      · rw [hA.1, ← (h w (Nat.zero_le w) hw).2, hA.1]
  rcases mg_canL (x := x) hn hc hk hx him hp k 0 (by omega) with ⟨q1, q2⟩ | ⟨q1, q2⟩
  · refine Or.inl ⟨hiff.mpr q1, jp_E.imp q2 (fun f e => ?_)⟩
    unfold X9_canBe
    rw [nI_0] at e
    rw [e]; rfl
  · refine Or.inr ⟨fun h => q1 (hiff.mp h), jp_E.imp q2 (fun f e => ?_)⟩
    unfold X9_canBe
    rw [nI_0] at e
    rw [e]; rfl
/-- the walk's arrays at a node: the next image to try at place k is w -/
def mg_at (M : jm_M) (n k : Nat) (p : Nat → Nat) (w : Nat) : Prop := (∀ i, i < k → M.1 45 i = nI (p i)) ∧ M.1 45 k + 1 = nI w ∧ (∀ i, i < k → p i < n)
def mg_sel (V3 V4 : Int32) (k w : Nat) : Prop := ¬ nI k = V3 ∨ nI w = V4
theorem mg_end {M : jm_M} {n c k : Nat} {p : Nat → Nat} {V3 V4 : Int32} (hn : n ≤ 8) (hk : k < n) (h : mg_at M n k p n) : jp_E (fun f => X9_goThrough_B38 f 39 (nI n) (nI c) V3 V4 (nI k, M) = some (.inl (nI k + (-1), jm_put M 45 (upd (M.1 45) k (nI n))))) := by
  refine jp_E.all (fun f => ?_)
  unfold X9_goThrough_B38
  dsimp only
  rw [if_neg (nI_pos (by omega)), show jm_rf 39 6 = 45 from rfl, jp_ga (by omega) (by decide), Option.bind_some, h.2.1, jp_sa (by omega) (by decide), Option.bind_some, jm_put_at, jp_ga (by omega) (by decide), Option.bind_some, pk_us, if_neg (nI_nlt (Nat.le_refl _) (by omega))]
theorem mg_no {M : jm_M} {n c k w : Nat} {p : Nat → Nat} {V3 V4 : Int32} (hn : n ≤ 8) (hc : c < 2 ^ 31) (hk : k < n) (hw : w < n) (h : mg_at M n k p w) (hno : ¬ (mg_sel V3 V4 k w ∧ okB (qg_ad n c) k p w)) : jp_E (fun f => X9_goThrough_B38 f 39 (nI n) (nI c) V3 V4 (nI k, M) = some (.inl (nI k, jm_put M 45 (upd (M.1 45) k (nI w))))) := by
  have him : ∀ i, i < k → (jm_put M 45 (upd (M.1 45) k (nI w))).1 45 i = nI (p i) := fun i hi => by rw [jm_put_at, pk_un (by omega)]; exact h.1 i hi
  by_cases hs : mg_sel V3 V4 k w
  · rcases mg_can (M := jm_put M 45 (upd (M.1 45) k (nI w))) (x := w) hn hc hk hw him h.2.2 with ⟨q1, q2⟩ | ⟨q1, q2⟩
    · exact absurd ⟨hs, q1⟩ hno
    · refine q2.imp (fun f e => ?_)
      unfold X9_goThrough_B38
      dsimp only
      rw [if_neg (nI_pos (by omega)), show jm_rf 39 6 = 45 from rfl, jp_ga (by omega) (by decide), Option.bind_some, h.2.1, jp_sa (by omega) (by decide), Option.bind_some, jm_put_at, jp_ga (by omega) (by decide), Option.bind_some, pk_us, if_pos (nI_lt hw (by omega)), e]
      by_cases h3 : nI k = V3
      · rw [if_pos h3, if_pos (hs.resolve_left (fun q => q h3))]; rfl
      · rw [if_neg h3]; rfl
  · refine jp_E.all (fun f => ?_)
    have h3 : nI k = V3 := Classical.byContradiction (fun q => hs (Or.inl q))
    have h4 : ¬ nI w = V4 := fun q => hs (Or.inr q)
    unfold X9_goThrough_B38
    dsimp only
    rw [if_neg (nI_pos (by omega)), show jm_rf 39 6 = 45 from rfl, jp_ga (by omega) (by decide), Option.bind_some, h.2.1, jp_sa (by omega) (by decide), Option.bind_some, jm_put_at, jp_ga (by omega) (by decide), Option.bind_some, pk_us, if_pos (nI_lt hw (by omega)), if_pos h3, if_neg h4]
theorem mg_down {M : jm_M} {n c k w : Nat} {p : Nat → Nat} {V3 V4 : Int32} (hn : n ≤ 8) (hc : c < 2 ^ 31) (hk : k + 1 < n) (hw : w < n) (h : mg_at M n k p w) (hs : mg_sel V3 V4 k w) (ho : okB (qg_ad n c) k p w) : jp_E (fun f => X9_goThrough_B38 f 39 (nI n) (nI c) V3 V4 (nI k, M) = some (.inl (nI (k + 1), jm_put M 45 (upd (upd (M.1 45) k (nI w)) (k + 1) (-1))))) := by
  have him : ∀ i, i < k → (jm_put M 45 (upd (M.1 45) k (nI w))).1 45 i = nI (p i) := fun i hi => by rw [jm_put_at, pk_un (by omega)]; exact h.1 i hi
  rcases mg_can (M := jm_put M 45 (upd (M.1 45) k (nI w))) (x := w) hn hc (by omega) hw him h.2.2 with ⟨q1, q2⟩ | ⟨q1, q2⟩
  · refine q2.imp (fun f e => ?_)
    unfold X9_goThrough_B38
    dsimp only
    rw [if_neg (nI_pos (by omega)), show jm_rf 39 6 = 45 from rfl, jp_ga (by omega) (by decide), Option.bind_some, h.2.1, jp_sa (by omega) (by decide), Option.bind_some, jm_put_at, jp_ga (by omega) (by decide), Option.bind_some, pk_us, if_pos (nI_lt hw (by omega))]
    by_cases h3 : nI k = V3
    · rw [if_pos h3, if_pos (hs.resolve_left (fun q => q h3)), e, Option.bind_some, if_neg (show ¬ (1 : Int32) = 0 by decide), ni_sub1 (by omega), if_neg (nI_ge (by omega) (by omega)), nI_1, jp_sa (by omega) (by decide), Option.bind_some, jm_put_at, jm_put_put]
    · rw [if_neg h3, e, Option.bind_some, if_neg (show ¬ (1 : Int32) = 0 by decide), ni_sub1 (by omega), if_neg (nI_ge (by omega) (by omega)), nI_1, jp_sa (by omega) (by decide), Option.bind_some, jm_put_at, jm_put_put]
  · exact absurd ho q1
/-- the first automorphism in order that maps a to b -/
theorem mg_first {n c a b : Nat} (hn : n ≤ 8) (hc : c < 2 ^ 31) (ha : a < n) (hb : b < n) : ∀ (d k : Nat), k + d + 1 = n → ∀ (j : Nat) (p : Nat → Nat) (w : Nat) (M : jm_M), w + j = n → mg_at M n k p w → qy n (qg_ad n c) a b k p →
    ∃ (M' : jm_M), jp_eq [45] M M' ∧ ((∃ q, qx n (qg_ad n c) a b k p q ∧ w ≤ q k ∧ (∀ r, qx n (qg_ad n c) a b k p r → w ≤ r k → ql n q r) ∧ (∀ i, i < n → M'.1 45 i = nI (q i)) ∧ jp_L (fun f => X9_goThrough_B38 f 39 (nI n) (nI c) (nI a) (nI b)) (nI k, M) (.inl (1, M'))) ∨
      ((∀ q, qx n (qg_ad n c) a b k p q → ¬ w ≤ q k) ∧ (∀ i, i < k → M'.1 45 i = M.1 45 i) ∧ jp_R (fun f => X9_goThrough_B38 f 39 (nI n) (nI c) (nI a) (nI b)) (nI k, M) (nI k + (-1), M'))) := by
  have hA := qg_ad_ok n c
  have hsel : ∀ k w, k < n → w < n → (mg_sel (nI a) (nI b) k w ↔ (k = a → w = b)) := fun k w hk hw => by
    unfold mg_sel
    rw [nI_eq (by omega) (by omega), nI_eq (by omega) (by omega)]
    constructor
    · rintro (h | h) e
      · exact absurd e h
      · exact h
    · intro h
      by_cases e : k = a
      · exact Or.inr (h e)
      · exact Or.inl e
  have hok : ∀ k p q, k < n → qx n (qg_ad n c) a b k p q → mg_sel (nI a) (nI b) k (q k) ∧ okB (qg_ad n c) k p (q k) := fun k p q hk hq => by
    refine ⟨(hsel k (q k) hk (hq.1.1.1 k hk)).mpr (fun e => by rw [e]; exact hq.2.1), qx_free hk hq, fun w hw => ?_⟩
    rw [← hq.2.2 w hw, hq.1.2 k w hk (by omega)]
  intro d
  induction d with
  | zero =>
    intro k hk j
    induction j with
    | zero =>
      intro p w M hj hM hp
      have hwn : w = n := by omega
      subst hwn
      exact ⟨_, jp_eq.rfl'.put (by decide), Or.inr ⟨fun q hq h9 => by have := hq.1.1.1 k (by omega); omega, fun i hi => by rw [jm_put_at, pk_un (by omega)], jp_R.one (mg_end hn (by omega) hM)⟩⟩
    | succ j ih =>
      intro p w M hj hM hp
      by_cases hh : mg_sel (nI a) (nI b) k w ∧ okB (qg_ad n c) k p w
      · obtain ⟨hs, ho⟩ := hh
        have hy := qy_set hA hp (show w < n by omega) ho.1 ((hsel k w (by omega) (by omega)).mp hs) ho.2
        rw [show k + 1 = n by omega] at hy
        have hq := qy_full hy ha
        have him : ∀ i, i < k → (jm_put M 45 (upd (M.1 45) k (nI w))).1 45 i = nI (p i) := fun i hi => by rw [jm_put_at, pk_un (by omega)]; exact hM.1 i hi
        refine ⟨jm_put M 45 (upd (M.1 45) k (nI w)), jp_eq.rfl'.put (by decide), Or.inl ⟨qset p k w, ⟨hq.1.1, hq.1.2.1, fun i hi => qset_lt hi⟩, by rw [qset_at]; exact Nat.le_refl w, fun r hr hwr => ?_, fun i hi => ?_, jp_L.done ?_⟩⟩
        · by_cases e : r k = w
          · exact Or.inl (fun i hi => by
              by_cases e1 : i = k
              · rw [e1, qset_at]; exact e.symm
              · rw [qset_lt (show i < k by omega)]; exact (hr.2.2 i (by omega)).symm)
          · exact Or.inr ⟨k, by omega, fun i hi => by rw [qset_lt hi]; exact (hr.2.2 i hi).symm, by rw [qset_at]; omega⟩
        · rw [jm_put_at]
          by_cases e1 : i = k
          · rw [e1, pk_us, qset_at]
          · rw [pk_un e1, qset_lt (show i < k by omega)]; exact hM.1 i (by omega)
        · rcases mg_can (M := jm_put M 45 (upd (M.1 45) k (nI w))) (x := w) hn hc (by omega) (by omega) him hM.2.2 with ⟨q1, q2⟩ | ⟨q1, q2⟩
          · refine q2.imp (fun f e => ?_)
            unfold X9_goThrough_B38
            dsimp only
            have h99 : ¬ nI a = (-9 : Int32) := fun q => by
              have h9 := congrArg Int32.toInt q
              rw [nI_toInt (by omega)] at h9
              have : (-9 : Int32).toInt = -9 := by decide
              omega
            rw [if_neg (nI_pos (by omega)), show jm_rf 39 6 = 45 from rfl, jp_ga (by omega) (by decide), Option.bind_some, hM.2.1, jp_sa (by omega) (by decide), Option.bind_some, jm_put_at, jp_ga (by omega) (by decide), Option.bind_some, pk_us, if_pos (nI_lt (show w < n by omega) (by omega))]
            by_cases h3 : nI k = nI a
            · rw [if_pos h3, if_pos (hs.resolve_left (fun q => q h3)), e, Option.bind_some, if_neg (show ¬ (1 : Int32) = 0 by decide), ni_sub1 (by omega), if_pos (nI_le (by omega) (by omega)), if_neg h99]
            · rw [if_neg h3, e, Option.bind_some, if_neg (show ¬ (1 : Int32) = 0 by decide), ni_sub1 (by omega), if_pos (nI_le (by omega) (by omega)), if_neg h99]
          · exact absurd ho q1
      · have hM1 : mg_at (jm_put M 45 (upd (M.1 45) k (nI w))) n k p (w + 1) := ⟨fun i hi => by rw [jm_put_at, pk_un (by omega)]; exact hM.1 i hi, by rw [jm_put_at, pk_us, nI_1], hM.2.2⟩
        have st := jp_R.one (mg_no hn hc (by omega) (by omega) hM hh)
        obtain ⟨M', r1, r2⟩ := ih p (w + 1) _ (by omega) hM1 hp
        have hne : ∀ q, qx n (qg_ad n c) a b k p q → q k ≠ w := fun q hq e => hh (by rw [← e]; exact hok k p q (by omega) hq)
        refine ⟨M', (jp_eq.rfl'.put (by decide)).trans r1, ?_⟩
        rcases r2 with ⟨q, s1, s2, s3, s4, s5⟩ | ⟨s1, s2, s3⟩
        · exact Or.inl ⟨q, s1, by omega, fun r hr hwr => s3 r hr (by have := hne r hr; omega), s4, st _ s5⟩
        · exact Or.inr ⟨fun q hq h9 => s1 q hq (by have := hne q hq; omega), fun i hi => by rw [s2 i hi, jm_put_at, pk_un (by omega)], st.trans s3⟩
  | succ d ihd =>
    intro k hk j
    induction j with
    | zero =>
      intro p w M hj hM hp
      have hwn : w = n := by omega
      subst hwn
      exact ⟨_, jp_eq.rfl'.put (by decide), Or.inr ⟨fun q hq h9 => by have := hq.1.1.1 k (by omega); omega, fun i hi => by rw [jm_put_at, pk_un (by omega)], jp_R.one (mg_end hn (by omega) hM)⟩⟩
    | succ j ih =>
      intro p w M hj hM hp
      -- go on behind w
      have go : ∀ M1 : jm_M, jp_eq [45] M M1 → (∀ i, i < k → M1.1 45 i = M.1 45 i) → M1.1 45 k = nI w → (∀ q, qx n (qg_ad n c) a b k p q → q k ≠ w) → jp_R (fun f => X9_goThrough_B38 f 39 (nI n) (nI c) (nI a) (nI b)) (nI k, M) (nI k, M1) →
          ∃ (M' : jm_M), jp_eq [45] M M' ∧ ((∃ q, qx n (qg_ad n c) a b k p q ∧ w ≤ q k ∧ (∀ r, qx n (qg_ad n c) a b k p r → w ≤ r k → ql n q r) ∧ (∀ i, i < n → M'.1 45 i = nI (q i)) ∧ jp_L (fun f => X9_goThrough_B38 f 39 (nI n) (nI c) (nI a) (nI b)) (nI k, M) (.inl (1, M'))) ∨
          ((∀ q, qx n (qg_ad n c) a b k p q → ¬ w ≤ q k) ∧ (∀ i, i < k → M'.1 45 i = M.1 45 i) ∧ jp_R (fun f => X9_goThrough_B38 f 39 (nI n) (nI c) (nI a) (nI b)) (nI k, M) (nI k + (-1), M'))) := by
        intro M1 g1 g2 g3 hne st
        obtain ⟨M', r1, r2⟩ := ih p (w + 1) M1 (by omega) ⟨fun i hi => by rw [g2 i hi]; exact hM.1 i hi, by rw [g3, nI_1], hM.2.2⟩ hp
        refine ⟨M', g1.trans r1, ?_⟩
        rcases r2 with ⟨q, s1, s2, s3, s4, s5⟩ | ⟨s1, s2, s3⟩
        · exact Or.inl ⟨q, s1, by omega, fun r hr hwr => s3 r hr (by have := hne r hr; omega), s4, st _ s5⟩
        · exact Or.inr ⟨fun q hq h9 => s1 q hq (by have := hne q hq; omega), fun i hi => by rw [s2 i hi, g2 i hi], st.trans s3⟩
      by_cases hh : mg_sel (nI a) (nI b) k w ∧ okB (qg_ad n c) k p w
      · obtain ⟨hs, ho⟩ := hh
        have hy := qy_set hA hp (show w < n by omega) ho.1 ((hsel k w (by omega) (by omega)).mp hs) ho.2
        have st := jp_R.one (mg_down hn hc (by omega) (by omega) hM hs ho)
        have hM1 : mg_at (jm_put M 45 (upd (upd (M.1 45) k (nI w)) (k + 1) (-1))) n (k + 1) (qset p k w) 0 := by
          refine ⟨fun i hi => ?_, by rw [jm_put_at, pk_us]; decide, hy.1⟩
          rw [jm_put_at, pk_un (by omega)]
          by_cases e : i = k
          · rw [e, pk_us, qset_at]
          · rw [pk_un e, qset_lt (show i < k by omega)]; exact hM.1 i (by omega)
        obtain ⟨M1, r1, r2⟩ := ihd (k + 1) (by omega) n (qset p k w) 0 _ (by omega) hM1 hy
        rcases r2 with ⟨q, s1, s2, s3, s4, s5⟩ | ⟨s1, s2, s3⟩
        · refine ⟨M1, (jp_eq.rfl'.put (by decide)).trans r1, Or.inl ⟨q, ⟨s1.1, s1.2.1, fun i hi => by rw [s1.2.2 i (by omega), qset_lt hi]⟩, by rw [s1.2.2 k (by omega), qset_at]; exact Nat.le_refl w, fun r hr hwr => ?_, s4, st _ s5⟩⟩
          by_cases e : r k = w
          · exact s3 r (qx_down hr e) (Nat.zero_le _)
          · exact Or.inr ⟨k, by omega, fun i hi => by rw [s1.2.2 i (by omega), qset_lt hi]; exact (hr.2.2 i hi).symm, by rw [s1.2.2 k (by omega), qset_at]; omega⟩
        · rw [nI_m1 (by omega)] at s3
          exact go M1 ((jp_eq.rfl'.put (by decide)).trans r1) (fun i hi => by rw [s2 i (by omega), jm_put_at, pk_un (by omega), pk_un (by omega)]) (by rw [s2 k (by omega), jm_put_at, pk_un (by omega), pk_us]) (fun q hq e => s1 q (qx_down hq e) (Nat.zero_le _)) (st.trans s3)
      · exact go _ (jp_eq.rfl'.put (by decide)) (fun i hi => by rw [jm_put_at, pk_un (by omega)]) (by rw [jm_put_at, pk_us]) (fun q hq e => hh (by rw [← e]; exact hok k p q (by omega) hq)) (jp_R.one (mg_no hn hc (by omega) (by omega) hM hh))
