/-! the first test that is not passed -/
def hgi (D : Nat → Int32) (k : Nat) : Nat → Int32
  | 0 => nI k * (nI k - 1)
  | j + 1 => hgi D k j + (if nI k < D (k + j) then nI k else D (k + j))
def hgr (D : Nat → Int32) (h : Nat) : Prop := ∀ v, v < h → iS D (v + 1) ≤ hgi D (v + 1) (h - (v + 1))
def rng (h : Nat) (x : Int32) : Prop := ¬ x < 0 ∧ x ≤ nI h - 1
theorem x2_sort {M : jm_M} {R : Nat → Nat} {H : Nat → Nat → Nat} {k : Nat} (h : XI M R H k) (he : pcs (R 2) (R 3) (sD R) 0 ≠ -9) : ∃ M', jp_eq [28] M M' ∧ (∀ i, i < R 3 → M'.1 28 i = isd (sdg (R 2) (R 3) (sD R)) (R 3) i) ∧ jp_E (fun f => X2_sortDegrees f 25 3 (pcs (R 2) (R 3) (sD R) 0) M = some M') := by
  obtain ⟨d1, d2, d3, d4, d5⟩ := h.1.d
  have key := jp_L.forV (body := fun f => X2_sortDegrees_B2 f 25 3 (pcs (R 2) (R 3) (sD R) 0)) (J := fun v M1 => jp_eq [28] M M1 ∧ ∀ i, i < v → M1.1 28 i = isd (sdg (R 2) (R 3) (sD R)) v i) (fun v M1 => (nI v, M1)) (fun M1 => M1) 0 (R 3) ?_ ?_ M (Nat.zero_le _) ⟨jp_eq.rfl', fun i hi => absurd hi (Nat.not_lt_zero i)⟩
  · obtain ⟨M', ⟨g1, g2⟩, g3⟩ := key
    refine ⟨M', g1, g2, g3.use.imp (fun f e => ?_)⟩
    unfold X2_sortDegrees
    rw [show ((0 : Int32), M) = (nI 0, M) from rfl, e]; rfl
  · intro v M1 _ hv ⟨g1, g2⟩
    have hd1 := h.d.keep (g1 3 (by decide)).1 (g1 4 (by decide)).1
    have hx : pcs (R 2) (R 3) (sD R) 0 - J6_bitCount_0f7a4 (nI (sD R v)) = sdg (R 2) (R 3) (sD R) v := by
      unfold sdg
      rw [if_neg he, x_bc (by omega) (d5 v hv).1]
    have e2 := x2_insL (V2 := pcs (R 2) (R 3) (sD R) 0) (V3 := nI v) (x := sdg (R 2) (R 3) (sD R) v) (show v < 6 by omega) g2
    obtain ⟨hp, _, _⟩ := ipos_spec (isd (sdg (R 2) (R 3) (sD R)) v) (sdg (R 2) (R 3) (sD R) v) v
    generalize hqe : ipos (isd (sdg (R 2) (R 3) (sD R)) v) (sdg (R 2) (R 3) (sD R) v) v = q at hp e2
    generalize hF : (fun i => if q < i ∧ i ≤ v then M1.1 28 (i - 1) else M1.1 28 i) = F at e2
    refine ⟨jm_put M1 28 (upd F q (sdg (R 2) (R 3) (sD R) v)), ⟨g1.put (by simp), fun i hi => ?_⟩, jp_E.imp e2 (fun f r => ?_)⟩
    · rw [jm_put_at]
      show _ = idn (isd (sdg (R 2) (R 3) (sD R)) v) (ipos (isd (sdg (R 2) (R 3) (sD R)) v) (sdg (R 2) (R 3) (sD R) v) v) (sdg (R 2) (R 3) (sD R) v) i
      rw [hqe]
      unfold idn
      by_cases c1 : i < q
      · rw [up_ne _ _ (by omega), ← hF]
        dsimp only
        rw [if_neg (by omega), if_pos c1, g2 i (by omega)]
      · rw [if_neg c1]
        by_cases c2 : i = q
        · rw [if_pos c2, c2, up_at]
        · rw [if_neg c2, up_ne _ _ (by omega), ← hF]
          dsimp only
          rw [if_pos (by omega), g2 (i - 1) (by omega)]
    · unfold X2_sortDegrees_B2 X3_size
      dsimp only
      rw [hd1.1, if_neg (nI_ge hv (by omega)), show (6 : Int32) = nI 6 from rfl, if_neg (nI_ge (by omega) (by decide)), x3_at hd1 (by omega) hv, Option.bind_some, hx, r, Option.bind_some]
      dsimp only
      rw [show jm_rf 25 1 = 28 from rfl, jp_sa (by omega) (by decide), Option.bind_some, jm_put_put, jm_put_at, nI_1]
  · intro M1 ⟨g1, g2⟩
    refine jp_E.all (fun f => ?_)
    have hd1 := h.d.keep (g1 3 (by decide)).1 (g1 4 (by decide)).1
    unfold X2_sortDegrees_B2 X3_size
    dsimp only
    rw [hd1.1, if_pos (nI_le (Nat.le_refl _) (by omega))]
theorem x2_range {M : jm_M} {h : Nat} {D : Nat → Int32} (hh : h ≤ 6) (hD : ∀ i, i < h → M.1 28 i = D i) : jp_E (fun f => X2_areInRange f 25 (nI h) M = some (if pd (∀ i, i < h → rng h (D i)) then 1 else 0)) := by
  have key := jp_L.all0 (body := fun _ => X2_areInRange_B2 25 (nI h) M) (fun v => nI v) h (fun i => rng h (D i)) (.inr ()) (.inl 0) ?_ ?_ ?_
  · refine key.use.imp (fun f e => ?_)
    unfold X2_areInRange
    rw [show (0 : Int32) = nI 0 from rfl, e, Option.bind_some]
    split <;> rfl
  · intro v hv c
    refine jp_E.all (fun _ => ?_)
    unfold X2_areInRange_B2
    rw [if_neg (nI_ge hv (by omega)), show (6 : Int32) = nI 6 from rfl, if_neg (nI_ge (by omega) (by decide)), show jm_rf 25 1 = 28 from rfl, jp_ga (by omega) (by decide), Option.bind_some, hD v hv, if_neg c.1, Option.bind_some, if_pos c.2, nI_1]
  · intro v hv c
    refine jp_E.all (fun _ => ?_)
    unfold X2_areInRange_B2
    rw [if_neg (nI_ge hv (by omega)), show (6 : Int32) = nI 6 from rfl, if_neg (nI_ge (by omega) (by decide)), show jm_rf 25 1 = 28 from rfl, jp_ga (by omega) (by decide), Option.bind_some, hD v hv]
    by_cases c0 : D v < 0
    · rw [if_pos c0]
    · rw [if_neg c0, Option.bind_some, if_neg (fun q => c ⟨c0, q⟩)]
  · refine jp_E.all (fun _ => ?_)
    unfold X2_areInRange_B2
    rw [if_pos (nI_le (Nat.le_refl h) (by omega))]
theorem x2_graph {M : jm_M} {h : Nat} {D : Nat → Int32} (hh : h ≤ 6) (hD : ∀ i, i < h → M.1 28 i = D i) : jp_E (fun f => X2_hasGraph f 25 (nI h) M = some (if pd (hgr D h) then 1 else 0)) := by
  have hin : ∀ k V, k ≤ h → jp_K (X2_hasGraph_B36 25 (nI h) V (nI k) M) (nI k * (nI k - 1), nI k) (hgi D k (h - k)) := by
    intro k V hk
    refine jp_K.for (body := X2_hasGraph_B36 25 (nI h) V (nI k) M) (r := hgi D k (h - k)) (fun j => (hgi D k j, nI (k + j))) (h - k) ?_ ?_ 0 (Nat.zero_le _)
    · intro j hj
      unfold X2_hasGraph_B36
      dsimp only
      rw [if_neg (nI_ge (by omega) (by omega)), show (6 : Int32) = nI 6 from rfl, if_neg (nI_ge (by omega) (by decide)), show jm_rf 25 1 = 28 from rfl, jp_ga (by omega) (by decide), Option.bind_some, hD (k + j) (by omega), nI_1]; rfl
    · unfold X2_hasGraph_B36
      dsimp only
      rw [if_pos (nI_le (by omega) (by omega))]
  have key := jp_L.all0 (body := fun f => X2_hasGraph_B4 f 25 (nI h) M) (fun v => (iS D v, nI (v + 1))) h (fun v => iS D (v + 1) ≤ hgi D (v + 1) (h - (v + 1))) (.inr ()) (.inl 0) ?_ ?_ ?_
  · refine key.use.imp (fun f e => ?_)
    unfold X2_hasGraph hgr
    rw [show ((0 : Int32), (1 : Int32)) = (iS D 0, nI (0 + 1)) from rfl, e, Option.bind_some]
    split <;> rfl
  · intro v hv c
    refine jp_E.imp (hin (v + 1) (iS D (v + 1)) (by omega)) (fun f e => ?_)
    rw [ni_sub1 (show 1 ≤ v + 1 by omega), show v + 1 - 1 = v by omega] at e
    unfold X2_hasGraph_B4
    dsimp only
    rw [if_neg (nI_nlt (by omega) (by omega)), show (6 : Int32) = nI 6 from rfl, if_neg (nI_nlt (by omega) (by decide)), ni_sub1 (by omega), show v + 1 - 1 = v by omega, show jm_rf 25 1 = 28 from rfl, jp_ga (by omega) (by decide), Option.bind_some, hD v hv, show iS D v + D v = iS D (v + 1) from rfl, e, Option.bind_some, if_pos c, nI_1]
  · intro v hv c
    refine jp_E.imp (hin (v + 1) (iS D (v + 1)) (by omega)) (fun f e => ?_)
    rw [ni_sub1 (show 1 ≤ v + 1 by omega), show v + 1 - 1 = v by omega] at e
    unfold X2_hasGraph_B4
    dsimp only
    rw [if_neg (nI_nlt (by omega) (by omega)), show (6 : Int32) = nI 6 from rfl, if_neg (nI_nlt (by omega) (by decide)), ni_sub1 (by omega), show v + 1 - 1 = v by omega, show jm_rf 25 1 = 28 from rfl, jp_ga (by omega) (by decide), Option.bind_some, hD v hv, show iS D v + D v = iS D (v + 1) from rfl, e, Option.bind_some, if_neg c]
  · refine jp_E.all (fun _ => ?_)
    unfold X2_hasGraph_B4
    dsimp only
    rw [if_pos (nI_lt (by omega) (by omega))]
noncomputable def sft (h m : Nat) (D : Nat → Nat) : Int32 := if m = h then (if pcs h m D 0 = -9 then 1 else if pd (∀ i, i < m → rng h (sdg h m D i)) then (if pd (hgr (isd (sdg h m D) m) h) then 0 else 3) else 2) else -9
theorem x2_first {M : jm_M} {R : Nat → Nat} {H : Nat → Nat → Nat} {k : Nat} (h : XI M R H k) : ∃ M', jp_eq [26, 27, 28] M M' ∧ jp_E (fun f => X2_firstFailed f 25 3 M = some (sft (R 2) (R 3) (sD R), M')) := by
  obtain ⟨d1, d2, d3, d4, d5⟩ := h.1.d
  by_cases c : R 3 = R 2
  · obtain ⟨M1, a1, a2⟩ := x2_edges h
    have h1 := h.p a1
    by_cases ce : pcs (R 2) (R 3) (sD R) 0 = -9
    · refine ⟨M1, a1.sub (by simp), a2.imp (fun f e => ?_)⟩
      unfold X2_firstFailed sft
      rw [x3_lost h, if_pos ((lost0 h.1).mpr c), e, Option.bind_some, if_pos c]
      dsimp only
      rw [if_pos ce, if_pos ce]
    · obtain ⟨M2, b1, b2, b3⟩ := x2_sort h1 ce
      have b2' : ∀ i, i < R 2 → M2.1 28 i = isd (sdg (R 2) (R 3) (sD R)) (R 3) i := fun i hi => b2 i (by omega)
      have e1 := x2_range (h := R 2) (by omega) b2'
      have e2 := x2_graph (h := R 2) (by omega) b2'
      have hh : M2.1 3 1 = nI (R 2) := by rw [(b1 3 (by decide)).1]; exact h1.h
      have hp : pd (∀ i, i < R 2 → rng (R 2) (isd (sdg (R 2) (R 3) (sD R)) (R 3) i)) = pd (∀ i, i < R 3 → rng (R 2) (sdg (R 2) (R 3) (sD R) i)) := pd_cong (by
        refine Iff.trans ?_ (isd_all (P := rng (R 2)) (f := sdg (R 2) (R 3) (sD R)) (R 3))
        rw [c])
      rw [hp] at e1
      refine ⟨M2, (a1.sub (by simp)).trans (b1.sub (by simp)), jp_E.imp4 a2 b3 e1 e2 (fun f r1 r2 r3 r4 => ?_)⟩
      unfold X2_firstFailed sft X3_h
      rw [x3_lost h, if_pos ((lost0 h.1).mpr c), r1, Option.bind_some, if_pos c]
      dsimp only
      rw [if_neg ce, if_neg ce, r2, Option.bind_some, hh, r3, Option.bind_some, r4, Option.bind_some]
      by_cases q1 : pd (∀ i, i < R 3 → rng (R 2) (sdg (R 2) (R 3) (sD R) i)) = true
      · rw [if_pos q1, if_neg (show ¬ (1 : Int32) = 0 by decide), if_pos q1]
        by_cases q2 : pd (hgr (isd (sdg (R 2) (R 3) (sD R)) (R 3)) (R 2)) = true
        · rw [if_pos q2, if_neg (show ¬ (1 : Int32) = 0 by decide), if_pos q2]
        · rw [if_neg q2, if_pos rfl, if_neg q2]
      · rw [if_neg q1, if_pos rfl, if_neg q1]
  · refine ⟨M, jp_eq.rfl', jp_E.all (fun f => ?_)⟩
    unfold X2_firstFailed sft
    rw [x3_lost h, if_neg (fun q => c ((lost0 h.1).mp q)), if_neg c]
/-! the reference -/
theorem m_degIn {M : jm_M} {R : Nat → Nat} {H : Nat → Nat → Nat} {k : Nat} (h : MI M R H k) : jp_E (fun f => X9_areDegreesIn f 39 M = some (if pd (∀ i, i < R 3 → rng (R 2) (sdg (R 2) (R 3) (sD R) i)) then 1 else 0)) := by
  obtain ⟨d1, d2, d3, d4, d5⟩ := h.1.d
  have hin : ∀ x : Int32, (X9_isIn x 0 (nI (R 2) - 1) = 0) ↔ ¬ rng (R 2) x := fun x => by
    unfold X9_isIn rng
    by_cases c0 : x < 0
    · rw [if_pos c0]; simp [c0]
    · rw [if_neg c0]
      by_cases c1 : nI (R 2) - 1 < x
      · rw [if_pos c1]
        exact ⟨fun _ q => (fa_of_lt c1).2.1 q.2, fun _ => rfl⟩
      · rw [if_neg c1]
        exact ⟨fun q => absurd q (by decide), fun q => absurd ⟨c0, fa_of_nlt c1⟩ q⟩
  have key := jp_L.all0 (body := fun f => X9_areDegreesIn_B2 f 39 M) (fun v => nI v) (R 3) (fun i => rng (R 2) (sdg (R 2) (R 3) (sD R) i)) (.inr ()) (.inl 0) ?_ ?_ ?_
  · refine key.use.imp (fun f e => ?_)
    unfold X9_areDegreesIn
    rw [show (0 : Int32) = nI 0 from rfl, e, Option.bind_some]
    split <;> rfl
  · intro v hv c
    refine (m_deg h hv).imp (fun f e => ?_)
    unfold X9_areDegreesIn_B2
    rw [show jm_rf 39 0 = 40 from rfl, h.w3, Option.bind_some, if_neg (nI_ge hv (by omega)), e, Option.bind_some, h.w2, Option.bind_some, if_neg (fun q => (hin _).mp q c), nI_1]
  · intro v hv c
    refine (m_deg h hv).imp (fun f e => ?_)
    unfold X9_areDegreesIn_B2
    rw [show jm_rf 39 0 = 40 from rfl, h.w3, Option.bind_some, if_neg (nI_ge hv (by omega)), e, Option.bind_some, h.w2, Option.bind_some, if_pos ((hin _).mpr c)]
  · refine jp_E.all (fun _ => ?_)
    unfold X9_areDegreesIn_B2
    rw [show jm_rf 39 0 = 40 from rfl, h.w3, Option.bind_some, if_pos (nI_le (Nat.le_refl _) (by omega))]
theorem MI.d51 {M M' : jm_M} {R : Nat → Nat} {H : Nat → Nat → Nat} {k : Nat} (h : MI M R H k) (e : jp_eq [51] M M') : MI M' R H k := h.keep (e 40 (by decide)).1 (e 41 (by decide)).1 (e 49 (by decide)).1 (e 50 (by decide)).1 (fun i _ => by rw [(e 39 (by decide)).1])
theorem m_graphic {M : jm_M} {R : Nat → Nat} {H : Nat → Nat → Nat} {k : Nat} (h : MI M R H k) (hw : R 3 = R 2) : ∃ M', jp_eq [51] M M' ∧ jp_E (fun f => X9_isGraphic f 39 M = some (if pd (hgr (isd (sdg (R 2) (R 3) (sD R)) (R 3)) (R 2)) then 1 else 0, M')) := by
  obtain ⟨d1, d2, d3, d4, d5⟩ := h.1.d
  generalize hfe : sdg (R 2) (R 3) (sD R) = g
  have hdg : ∀ M1, jp_eq [51] M M1 → ∀ v, v < R 3 → jp_E (fun f => X9_degreeCounted f 39 (nI v) M1 = some (g v)) := fun M1 e v hv => by rw [← hfe]; exact m_deg (h.d51 e) hv
  have key := jp_L.forV (body := fun f => X9_isGraphic_B2 f 39) (J := fun v M1 => jp_eq [51] M M1 ∧ ∀ i, i < v → M1.1 51 i = isd g v i) (fun v M1 => (nI v, M1)) (fun M1 => M1) 0 (R 3) ?_ ?_ M (Nat.zero_le _) ⟨jp_eq.rfl', fun i hi => absurd hi (Nat.not_lt_zero i)⟩
  · obtain ⟨M', ⟨g1, g2⟩, g3⟩ := key
    have h' := h.d51 g1
    generalize hDe : isd g (R 3) = D at g2
    have hD : ∀ i, i < R 2 → M'.1 51 i = D i := fun i hi => g2 i (by omega)
    have hin : ∀ k V, k ≤ R 2 → jp_K (X9_isGraphic_B103 39 V (nI k) M') (nI k * (nI k - 1), nI k) (hgi D k (R 2 - k)) := by
      intro k V hk
      refine jp_K.for (body := X9_isGraphic_B103 39 V (nI k) M') (r := hgi D k (R 2 - k)) (fun j => (hgi D k j, nI (k + j))) (R 2 - k) ?_ ?_ 0 (Nat.zero_le _)
      · intro j hj
        unfold X9_isGraphic_B103
        dsimp only
        rw [show jm_rf 39 0 = 40 from rfl, h'.w2, Option.bind_some, if_neg (nI_ge (by omega) (by omega)), show jm_rf 39 15 = 51 from rfl, jp_ga (by omega) (by decide), Option.bind_some, hD (k + j) (by omega), nI_1]
        show _ = some (Sum.inl (hgi D k j + (if nI k < D (k + j) then nI k else D (k + j)), nI (k + j + 1)))
        by_cases c : nI k < D (k + j)
        · rw [if_pos c, if_pos (fa_of_lt c).1]
        · rw [if_neg c]
          by_cases c2 : nI k ≤ D (k + j)
          · have : nI k = D (k + j) := by
              rw [fa_le] at c2
              rw [fa_lt] at c
              rw [fa_eq]
              omega
            rw [if_pos c2, this]
          · rw [if_neg c2]; rfl
      · unfold X9_isGraphic_B103
        dsimp only
        rw [show jm_rf 39 0 = 40 from rfl, h'.w2, Option.bind_some, if_pos (nI_le (by omega) (by omega))]
    have key2 := jp_L.all0 (body := fun f => X9_isGraphic_B73 f 39 M') (fun v => (iS D v, nI (v + 1))) (R 2) (fun v => iS D (v + 1) ≤ hgi D (v + 1) (R 2 - (v + 1))) (.inr ()) (.inl ((0 : Int32), M')) ?_ ?_ ?_
    · refine ⟨M', g1, jp_E.imp2 g3.use key2.use (fun f e1 e2 => ?_)⟩
      unfold X9_isGraphic hgr
      rw [show ((0 : Int32), M) = (nI 0, M) from rfl, e1, Option.bind_some, show ((0 : Int32), (1 : Int32)) = (iS D 0, nI (0 + 1)) from rfl, e2, Option.bind_some]
      split <;> rfl
    · intro v hv c
      refine jp_E.imp (hin (v + 1) (iS D (v + 1)) (by omega)) (fun f e => ?_)
      rw [ni_sub1 (show 1 ≤ v + 1 by omega), show v + 1 - 1 = v by omega] at e
      unfold X9_isGraphic_B73
      dsimp only
      rw [show jm_rf 39 0 = 40 from rfl, h'.w2, Option.bind_some, if_neg (nI_nlt (by omega) (by omega)), ni_sub1 (by omega), show v + 1 - 1 = v by omega, show jm_rf 39 15 = 51 from rfl, jp_ga (by omega) (by decide), Option.bind_some, hD v hv, show iS D v + D v = iS D (v + 1) from rfl, e, Option.bind_some, if_pos c, nI_1]
    · intro v hv c
      refine jp_E.imp (hin (v + 1) (iS D (v + 1)) (by omega)) (fun f e => ?_)
      rw [ni_sub1 (show 1 ≤ v + 1 by omega), show v + 1 - 1 = v by omega] at e
      unfold X9_isGraphic_B73
      dsimp only
      rw [show jm_rf 39 0 = 40 from rfl, h'.w2, Option.bind_some, if_neg (nI_nlt (by omega) (by omega)), ni_sub1 (by omega), show v + 1 - 1 = v by omega, show jm_rf 39 15 = 51 from rfl, jp_ga (by omega) (by decide), Option.bind_some, hD v hv, show iS D v + D v = iS D (v + 1) from rfl, e, Option.bind_some, if_neg c]
    · refine jp_E.all (fun _ => ?_)
      unfold X9_isGraphic_B73
      dsimp only
      rw [show jm_rf 39 0 = 40 from rfl, h'.w2, Option.bind_some, if_pos (nI_lt (by omega) (by omega))]
  · intro v M1 _ hv ⟨g1, g2⟩
    have h1 := h.d51 g1
    have e2 := m_insL (V1 := nI v) (x := g v) (show v < 6 by omega) g2
    obtain ⟨hp, _, _⟩ := ipos_spec (isd g v) (g v) v
    generalize hqe : ipos (isd g v) (g v) v = q at hp e2
    generalize hF : (fun i => if q < i ∧ i ≤ v then M1.1 51 (i - 1) else M1.1 51 i) = F at e2
    refine ⟨jm_put M1 51 (upd F q (g v)), ⟨g1.put (by simp), fun i hi => ?_⟩, jp_E.imp2 (hdg M1 g1 v hv) e2 (fun f r1 r => ?_)⟩
    · rw [jm_put_at]
      show _ = idn (isd g v) (ipos (isd g v) (g v) v) (g v) i
      rw [hqe]
      unfold idn
      by_cases c1 : i < q
      · rw [up_ne _ _ (by omega), ← hF]
        dsimp only
        rw [if_neg (by omega), if_pos c1, g2 i (by omega)]
      · rw [if_neg c1]
        by_cases c2 : i = q
        · rw [if_pos c2, c2, up_at]
        · rw [if_neg c2, up_ne _ _ (by omega), ← hF]
          dsimp only
          rw [if_pos (by omega), g2 (i - 1) (by omega)]
    · unfold X9_isGraphic_B2
      dsimp only
      rw [show jm_rf 39 0 = 40 from rfl, h1.w3, Option.bind_some, if_neg (nI_ge hv (by omega)), r1, Option.bind_some, r, Option.bind_some]
      dsimp only
      rw [show jm_rf 39 15 = 51 from rfl, jp_sa (by omega) (by decide), Option.bind_some, jm_put_put, jm_put_at, nI_1]
  · intro M1 ⟨g1, g2⟩
    refine jp_E.all (fun f => ?_)
    unfold X9_isGraphic_B2
    dsimp only
    rw [show jm_rf 39 0 = 40 from rfl, (h.d51 g1).w3, Option.bind_some, if_pos (nI_le (Nat.le_refl _) (by omega))]
theorem m_first {M : jm_M} {R : Nat → Nat} {H : Nat → Nat → Nat} {k : Nat} (h : MI M R H k) : ∃ M', jp_eq [51] M M' ∧ jp_E (fun f => X9_firstTest f 39 M = some (sft (R 2) (R 3) (sD R), M')) := by
  by_cases c : R 3 = R 2
  · by_cases ce : pcs (R 2) (R 3) (sD R) 0 = -9
    · refine ⟨M, jp_eq.rfl', (m_eCnt h).imp (fun f e => ?_)⟩
      unfold X9_firstTest sft
      rw [m_whole h, Option.bind_some, if_pos c, if_neg (show ¬ (1 : Int32) = 0 by decide), e, Option.bind_some, if_pos ce, if_pos c, if_pos ce]
    · by_cases q1 : pd (∀ i, i < R 3 → rng (R 2) (sdg (R 2) (R 3) (sD R) i)) = true
      · obtain ⟨M', b1, b2⟩ := m_graphic h c
        refine ⟨M', b1, jp_E.imp3 (m_eCnt h) (m_degIn h) b2 (fun f e1 e2 e3 => ?_)⟩
        unfold X9_firstTest sft
        rw [m_whole h, Option.bind_some, if_pos c, if_neg (show ¬ (1 : Int32) = 0 by decide), e1, Option.bind_some, if_neg ce, e2, Option.bind_some, if_pos q1, if_neg (show ¬ (1 : Int32) = 0 by decide), e3, Option.bind_some, if_pos c, if_neg ce, if_pos q1]
        dsimp only
        by_cases q2 : pd (hgr (isd (sdg (R 2) (R 3) (sD R)) (R 3)) (R 2)) = true
        · rw [if_pos q2, if_neg (show ¬ (1 : Int32) = 0 by decide), if_pos q2]
        · rw [if_neg q2, if_pos rfl, if_neg q2]
      · refine ⟨M, jp_eq.rfl', jp_E.imp2 (m_eCnt h) (m_degIn h) (fun f e1 e2 => ?_)⟩
        unfold X9_firstTest sft
        rw [m_whole h, Option.bind_some, if_pos c, if_neg (show ¬ (1 : Int32) = 0 by decide), e1, Option.bind_some, if_neg ce, e2, Option.bind_some, if_neg q1, if_pos rfl, if_pos c, if_neg ce, if_neg q1]
  · refine ⟨M, jp_eq.rfl', jp_E.all (fun f => ?_)⟩
    unfold X9_firstTest sft
    rw [m_whole h, Option.bind_some, if_neg c, if_pos rfl, if_neg c]
