/-! addCard, dropCard -/
theorem m_addI {M : jm_M} {m x : Nat} {D : Nat → Nat} (hm : m < 6) (hs : dso D m) (hD : ∀ i, i < m → D i < 2 ^ 28) (hx : x < 2 ^ 28) (h : ∀ i, i < m → M.1 40 (4 + i) = nI (D i)) : jp_K (X9_addCard_B66 39 (nI x)) (nI m, M) (nI (dlo D m x), jm_put M 40 (fun i => if 4 + dlo D m x < i ∧ i ≤ 4 + m then M.1 40 (i - 1) else M.1 40 i)) := by
  have hp := dlo_le D m x
  generalize hr : dlo D m x = q at hp
  have key := jp_K.for (body := X9_addCard_B66 39 (nI x)) (r := (nI q, jm_put M 40 (fun i => if 4 + q < i ∧ i ≤ 4 + m then M.1 40 (i - 1) else M.1 40 i))) (fun j => (nI (m - j), jm_put M 40 (fun i => if 4 + (m - j) < i ∧ i ≤ 4 + m then M.1 40 (i - 1) else M.1 40 i))) (m - q) ?_ ?_ 0 (Nat.zero_le _)
  · have e : jm_put M 40 (fun i => if 4 + (m - 0) < i ∧ i ≤ 4 + m then M.1 40 (i - 1) else M.1 40 i) = M := by
      have : (fun i => if 4 + (m - 0) < i ∧ i ≤ 4 + m then M.1 40 (i - 1) else M.1 40 i) = M.1 40 := by
        funext i
        rw [if_neg (by omega)]
      rw [this, jm_put_self]
    rw [e] at key
    exact key
  · intro j hj
    have h1 : M.1 40 (4 + (m - j - 1)) = nI (D (m - j - 1)) := h _ (by omega)
    have h2 := hD (m - j - 1) (by omega)
    have h3 : x ≤ D (m - j - 1) := by
      have := dlo_iff (x := x) hs (show m - j - 1 < m by omega)
      omega
    unfold X9_addCard_B66
    dsimp only
    rw [if_neg (nI_nle (by omega) (by omega)), show jm_rf 39 0 = 40 from rfl, show (4 : Int32) + nI (m - j) = nI (4 + (m - j)) from nI_add 4 _, ni_sub1 (by omega), jp_ga (by omega) (by decide), Option.bind_some, jm_put_at, if_neg (show ¬ (4 + (m - j) < 4 + (m - j) - 1 ∧ 4 + (m - j) - 1 ≤ 4 + m) by omega), show 4 + (m - j) - 1 = 4 + (m - j - 1) by omega, h1, if_neg (nI_nlt h3 (by omega)), Option.bind_some, jp_sa (by omega) (by decide), Option.bind_some, nI_m1 (by omega), jm_put_put, jm_put_at, show m - j - 1 = m - (j + 1) by omega]
    congr 4
    funext i
    unfold upd
    by_cases e : i = 4 + (m - j)
    · rw [if_pos e, if_pos (by omega), show i - 1 = 4 + (m - j - 1) by omega, h1, show m - (j + 1) = m - j - 1 by omega]
    · rw [if_neg e]
      dsimp only
      by_cases h1 : 4 + (m - j) < i ∧ i ≤ 4 + m
      · rw [if_pos h1, if_pos (by omega)]
      · rw [if_neg h1, if_neg (by omega)]
  · unfold X9_addCard_B66
    dsimp only
    rw [show m - (m - q) = q by omega]
    by_cases c : q = 0
    · rw [if_pos (by rw [c]; decide)]
    · have h1 : M.1 40 (4 + (q - 1)) = nI (D (q - 1)) := h _ (by omega)
      have h3 : D (q - 1) < x := by
        have := dlo_iff (x := x) hs (show q - 1 < m by omega)
        omega
      rw [if_neg (nI_nle (by omega) (by omega)), show jm_rf 39 0 = 40 from rfl, show (4 : Int32) + nI q = nI (4 + q) from nI_add 4 _, ni_sub1 (by omega), jp_ga (by omega) (by decide), Option.bind_some, jm_put_at, if_neg (show ¬ (4 + q < 4 + q - 1 ∧ 4 + q - 1 ≤ 4 + m) by omega), show 4 + q - 1 = 4 + (q - 1) by omega, h1, if_pos (nI_lt h3 (by omega))]
theorem s_10 : jl_S10 Inv := fun M a1 _ _ ⟨R, H, k, h1, h2⟩ => by
  have o := h1.1
  have d := o.d
  obtain ⟨d1, d2, d3, d4, d5⟩ := id d
  by_cases c : ∃ c, c < 2 ^ qg_tri (R 2 - 1) ∧ a1 = nI c
  · obtain ⟨c, hc, rfl⟩ := c
    have h31 := tri28 (show R 2 - 1 ≤ 8 by omega)
    by_cases cf : R 3 = R 2
    · refine cstep (F := fun f M => X8_addCard f 0 (nI c) M) (G := fun f M => X9_addCard f 39 (nI c) M) (r := -3) (CX.no (fun M hM => jp_E.all (fun f => ?_))) (CM.no (fun M hM => jp_E.all (fun f => ?_))) h1 h2
      · unfold X8_addCard X3_h X3_lost
        rw [show jm_rf 0 1 = 3 from rfl, hM.2.2.1.2.1, hM.2.2.1.2.2.1, ni_sub1 (by omega), x8_isC (by omega) hc, if_neg (show ¬ (1 : Int32) = 0 by decide), nI_sub (by omega), cf, Nat.sub_self, if_pos (show nI 0 = (0 : Int32) from rfl)]
      · unfold X9_addCard
        rw [if_neg (nI_pos (by omega)), show jm_rf 39 0 = 40 from rfl, w_g2, hM.2.2.1 2 (by omega), Option.bind_some, ni_sub1 (by omega), ni_tw2 _ (by omega), if_pos (nI_lt hc (by omega)), w_g3, Option.bind_some, Option.bind_some, hM.2.2.1 3 (by omega), cf, if_pos rfl]
    · have dx : cn (R 2 - 1) (qg_ad (R 2 - 1) c) < 2 ^ qg_tri (R 2 - 1) ∧ cn (R 2 - 1) (qg_ad (R 2 - 1) (cn (R 2 - 1) (qg_ad (R 2 - 1) c))) = cn (R 2 - 1) (qg_ad (R 2 - 1) c) := ⟨cn_lt _ _, cn_idem (qg_ad_ok _ _)⟩
      have hx28 : cn (R 2 - 1) (qg_ad (R 2 - 1) c) < 2 ^ 28 := qt28 (by omega) dx.1
      generalize hxe : cn (R 2 - 1) (qg_ad (R 2 - 1) c) = x at dx hx28
      have dn : dOK (R 2) (R 3 + 1) (din (sD R) (dlo (sD R) (R 3) x) x) := ⟨d1, d2, by omega, din_so d4, din_all (P := fun y => y < 2 ^ qg_tri (R 2 - 1) ∧ cn (R 2 - 1) (qg_ad (R 2 - 1) y) = y) (dlo_le _ _ _) d5 dx⟩
      refine cstep (F := fun f M => X8_addCard f 0 (nI c) M) (G := fun f M => X9_addCard f 39 (nI c) M) (r := nI (dlo (sD R) (R 3) x)) (R' := nwD R (R 2) (R 3 + 1) (din (sD R) (dlo (sD R) (R 3) x) x)) (H' := push R H) (k' := min (k + 1) 8) (fun M hM => ?_) (fun M hM => ?_) h1 h2
      · obtain ⟨M1, a1, a2, a3⟩ := x5_save hM
        obtain ⟨M2, b1, b2, b3⟩ := cx_of (n := R 2 - 1) (by omega) (by omega) hc a2.2.2.2.2
        rw [hxe] at b3
        have g := a2.2.2.1.2.2.keep (b2 3 (by decide)).1 (b2 4 (by decide)).1
        obtain ⟨M3, e1, e2, e3, e4⟩ := x3_put (g := 3) (by decide) g (by omega) d4 (fun i hi => d.c28 hi) hx28
        have eE : jp_eq [3, 4, 16, 17, 18, 19, 20, 21, 22] M1 M3 := (b2.sub (by simp)).trans (e1.sub (by decide))
        refine ⟨M3, (fX.of a1 (by decide)).trans (fX.of eE (by decide)), a2.deck eE (by decide) dn (by rw [e2 1 (by decide), (b2 3 (by decide)).1]; exact a2.2.2.1.2.1) e3 (b1.keep (e1 21 (by decide)).1 (e1 22 (by decide)).1), jp_E.imp3 a3 b3 e4 (fun f r1 r2 r3 => ?_)⟩
        show X8_addCard f 0 (nI c) M = _
        unfold X8_addCard X3_h X3_lost
        rw [show jm_rf 0 1 = 3 from rfl, show jm_rf 0 2 = 5 from rfl, show jm_rf 0 0 = 1 from rfl, show jm_rf 0 3 = 15 from rfl, hM.2.2.1.2.1, hM.2.2.1.2.2.1, ni_sub1 (by omega), x8_isC (by omega) hc, if_neg (show ¬ (1 : Int32) = 0 by decide), nI_sub (by omega), if_neg (nI_ne0 (by omega) (by omega)), r1, Option.bind_some, a2.2.2.1.2.1, ni_sub1 (by omega), r2, Option.bind_some]
        dsimp only
        rw [r3]; rfl
      · obtain ⟨M1, a1, _, a2, a3⟩ := m_remember hM
        obtain ⟨M2, b1, b2⟩ := m_canon (n := R 2 - 1) (by omega) (by omega) hc M1
        rw [hxe] at b2
        have w : ∀ j, j < 4 + R 3 → M2.1 40 j = nI (R j) := fun j hj => by rw [(b1 40 (by decide)).1]; exact a2.2.2.1 j hj
        have e2 := m_addI (by omega) d4 (fun i hi => d.c28 hi) hx28 (fun i hi => w (4 + i) (by omega))
        have hp := dlo_le (sD R) (R 3) x
        generalize hqe : dlo (sD R) (R 3) x = q at hp e2 dn
        generalize hF : (fun i => if 4 + q < i ∧ i ≤ 4 + R 3 then M2.1 40 (i - 1) else M2.1 40 i) = F at e2
        have hF3 : ∀ j, j < 4 → upd F (4 + q) (nI x) j = nI (R j) := fun j hj => by
          rw [up_ne _ _ (by omega), ← hF]
          dsimp only
          rw [if_neg (by omega)]
          exact w j (by omega)
        have eE : jp_eq [42, 43, 44, 40] M1 (jm_put M2 40 (upd (upd F (4 + q) (nI x)) 3 (nI (R 3 + 1)))) := (b1.sub (by simp)).put (by simp)
        refine ⟨_, (fM.of a1 (by decide)).trans (fM.of eE (by decide)), a2.deck eE (by decide) dn ?_ ?_ ?_ ?_ (fun i hi => ?_), jp_E.imp3 a3 b2 e2 (fun f r1 r2 r3 => ?_)⟩
        · rw [jm_put_at, up_ne _ _ (by decide), hF3 0 (by decide)]; exact (a2.2.2.1 0 (by omega)).symm
        · rw [jm_put_at, up_ne _ _ (by decide), hF3 1 (by decide)]; exact (a2.2.2.1 1 (by omega)).symm
        · rw [jm_put_at, up_ne _ _ (by decide), hF3 2 (by decide)]
        · rw [jm_put_at, up_at]
        · rw [jm_put_at, up_ne _ _ (by omega)]
          unfold din
          by_cases c1 : i < q
          · rw [up_ne _ _ (by omega), ← hF]
            dsimp only
            rw [if_neg (by omega), if_pos c1]; exact w (4 + i) (by omega)
          · rw [if_neg c1]
            by_cases c2 : i = q
            · rw [if_pos c2, c2, up_at]
            · rw [if_neg c2, up_ne _ _ (by omega), ← hF]
              dsimp only
              rw [if_pos (by omega), show 4 + i - 1 = 4 + (i - 1) by omega]; exact w (4 + (i - 1)) (by omega)
        · show X9_addCard f 39 (nI c) M = _
          unfold X9_addCard
          rw [if_neg (nI_pos (by omega)), show jm_rf 39 0 = 40 from rfl, w_g2, hM.2.2.1 2 (by omega), Option.bind_some, ni_sub1 (by omega), ni_tw2 _ (by omega), if_pos (nI_lt hc (by omega)), w_g3, Option.bind_some, Option.bind_some, hM.2.2.1 3 (by omega), if_neg (fun q => cf ((nI_eq (by omega) (by omega)).mp q)), r1, Option.bind_some, w_g2, a2.2.2.1 2 (by omega), Option.bind_some, ni_sub1 (by omega), r2, Option.bind_some]
          dsimp only
          rw [w_g3, w 3 (by omega), Option.bind_some, r3, Option.bind_some]
          dsimp only
          rw [jp_saN (n := 10) (x := (4 : Int32) + nI q) (4 + q) (by omega) (by decide) (nI_add 4 q), Option.bind_some, w_g3, Option.bind_some, jm_put_put, jm_put_at, jm_put_at, hF3 3 (by decide), w_s3, Option.bind_some, jm_put_put, jm_put_at, nI_1]
  · refine cstep (F := fun f M => X8_addCard f 0 a1 M) (G := fun f M => X9_addCard f 39 a1 M) (r := -1) (CX.no (fun M hM => jp_E.all (fun f => ?_))) (CM.no (fun M hM => jp_E.all (fun f => ?_))) h1 h2
    · unfold X8_addCard X3_h
      rw [show jm_rf 0 1 = 3 from rfl, hM.2.2.1.2.1, ni_sub1 (by omega), x8_isC_no (by omega) c, if_pos rfl]
    · unfold X9_addCard
      rcases m_no_code (show R 2 - 1 ≤ 8 by omega) c with q | ⟨q1, q2⟩
      · rw [if_pos q]
      · rw [if_neg q1, show jm_rf 39 0 = 40 from rfl, w_g2, hM.2.2.1 2 (by omega), Option.bind_some, ni_sub1 (by omega), if_neg q2]
/-! dropCard -/
def drm (D : Nat → Nat) (p i : Nat) : Nat := if i < p then D i else D (i + 1)
theorem drm_dok {h m p : Nat} {D : Nat → Nat} (d : dOK h m D) (hp : p < m) : dOK h (m - 1) (drm D p) := by
  obtain ⟨d1, d2, d3, d4, d5⟩ := d
  refine ⟨d1, d2, by omega, fun i j hij hj => ?_, fun i hi => ?_⟩
  · unfold drm
    by_cases c1 : i < p
    · rw [if_pos c1]
      by_cases c2 : j < p
      · rw [if_pos c2]; exact d4 i j hij (by omega)
      · rw [if_neg c2]; exact d4 i (j + 1) (by omega) (by omega)
    · rw [if_neg c1, if_neg (by omega)]; exact d4 (i + 1) (j + 1) (by omega) (by omega)
  · unfold drm
    by_cases c1 : i < p
    · rw [if_pos c1]; exact d5 i (by omega)
    · rw [if_neg c1]; exact d5 (i + 1) (by omega)
theorem x3_remove {M : jm_M} {m p : Nat} {D : Nat → Nat} (h : dk M 3 m D) (hm : m ≤ 6) (hp : p < m) : ∃ M', jp_eq [3, 4] M M' ∧ M'.1 3 1 = M.1 3 1 ∧ dk M' 3 (m - 1) (drm D p) ∧ jp_E (fun f => X3_removeAt f 3 (nI p) M = some M') := by
  generalize hM1 : jm_put M 3 (upd (M.1 3) 2 (nI (m - 1))) = M1
  have h4 : M1.1 4 = M.1 4 := by rw [← hM1, jm_put_ne _ _ (by decide)]
  have h3 : M1.1 3 = upd (M.1 3) 2 (nI (m - 1)) := by rw [← hM1, jm_put_at]
  have key := jp_K.for (body := X3_removeAt_B21 3) (r := jm_put M1 4 (fun i => if p ≤ i ∧ i < m - 1 then M.1 4 (i + 1) else M.1 4 i)) (fun j => (nI (p + j), jm_put M1 4 (fun i => if p ≤ i ∧ i < p + j then M.1 4 (i + 1) else M.1 4 i))) (m - 1 - p) ?_ ?_ 0 (Nat.zero_le _)
  · have e : jm_put M1 4 (fun i => if p ≤ i ∧ i < p + 0 then M.1 4 (i + 1) else M.1 4 i) = M1 := by
      have : (fun i => if p ≤ i ∧ i < p + 0 then M.1 4 (i + 1) else M.1 4 i) = M1.1 4 := by
        funext i
        rw [if_neg (by omega), h4]
      rw [this, jm_put_self]
    rw [e] at key
    refine ⟨jm_put M1 4 (fun i => if p ≤ i ∧ i < m - 1 then M.1 4 (i + 1) else M.1 4 i), (show jp_eq [3, 4] M M1 by rw [← hM1]; exact jp_eq.rfl'.put (by simp)).put (by simp), by rw [jm_put_ne _ _ (by decide), h3]; rfl, ⟨by rw [jm_put_ne _ _ (by decide), h3, up_at], fun i hi => ?_⟩, jp_E.imp key (fun f r => ?_)⟩
    · show (jm_put M1 4 _).1 4 i = _
      rw [jm_put_at]
      unfold drm
      by_cases c : i < p
      · rw [if_neg (by omega), if_pos c]; exact h.2 i (by omega)
      · rw [if_pos (by omega), if_neg c]; exact h.2 (i + 1) (by omega)
    · unfold X3_removeAt
      rw [x3_has h (by omega) hp, if_neg (show ¬ (1 : Int32) = 0 by decide), jm_set_put, h.1, ni_sub1 (by omega), hM1, show nI p = nI (p + 0) from rfl, r]; rfl
  · intro j hj
    unfold X3_removeAt_B21
    dsimp only
    rw [jm_put_ne _ _ (show 3 ≠ 4 by decide), h3, up_at, if_neg (nI_ge (by omega) (by omega)), show jm_rf 3 0 = 4 from rfl, nI_1, jp_ga (by omega) (by decide), Option.bind_some, jm_put_at, if_neg (show ¬ (p ≤ p + j + 1 ∧ p + j + 1 < p + j) by omega), jp_sa (by omega) (by decide), Option.bind_some, jm_put_put, jm_put_at, show p + (j + 1) = p + j + 1 by omega]
    congr 4
    funext i
    unfold upd
    by_cases e : i = p + j
    · rw [if_pos e, if_pos (by omega), e]
    · rw [if_neg e]
      dsimp only
      by_cases h1 : p ≤ i ∧ i < p + j
      · rw [if_pos h1, if_pos (by omega)]
      · rw [if_neg h1, if_neg (by omega)]
  · unfold X3_removeAt_B21
    dsimp only
    rw [jm_put_ne _ _ (show 3 ≠ 4 by decide), h3, up_at, if_pos (nI_le (by omega) (by omega)), show p + (m - 1 - p) = m - 1 by omega]
theorem m_isC {M : jm_M} {m v : Nat} (hm : m ≤ 8) (h0 : M.1 40 3 = nI m) (hv : v < m) : X9_isCard 39 (nI v) M = some 1 := by
  unfold X9_isCard
  rw [show jm_rf 39 0 = 40 from rfl, w_g3, h0, Option.bind_some, ni_sub1 (by omega), show X9_isIn (nI v) (0 : Int32) (nI (m - 1)) = 1 from m_isIn1 (a := 0) (Nat.zero_le v) (by omega) (by omega)]
  rfl
theorem m_isC_no {M : jm_M} {m : Nat} {x : Int32} (hm : m ≤ 8) (h0 : M.1 40 3 = nI m) (hx : ¬ ∃ v, v < m ∧ x = nI v) : X9_isCard 39 x M = some 0 := by
  unfold X9_isCard
  rw [show jm_rf 39 0 = 40 from rfl, w_g3, h0, Option.bind_some]
  by_cases c : m = 0
  · subst c
    have : X9_isIn x (0 : Int32) (nI 0 - 1) = 0 := by
      unfold X9_isIn
      by_cases h0 : x < 0
      · rw [if_pos h0]
      · rw [if_neg h0, if_pos ?_]
        obtain ⟨j, hj, rfl⟩ := nI_of h0
        rw [fa_lt, nI_toInt hj, show (nI 0 - 1 : Int32).toInt = -1 by decide]
        omega
    rw [this]; rfl
  · rw [ni_sub1 (by omega), show X9_isIn x (0 : Int32) (nI (m - 1)) = 0 from m_isIn (a := 0) (by decide) (by omega) (fun ⟨v, _, h2, h3⟩ => hx ⟨v, by omega, h3⟩)]
    rfl
theorem s_11 : jl_S11 Inv := fun M a1 _ _ ⟨R, H, k, h1, h2⟩ => by
  have o := h1.1
  have d := o.d
  obtain ⟨d1, d2, d3, d4, d5⟩ := id d
  by_cases c : ∃ v, v < R 3 ∧ a1 = nI v
  · obtain ⟨p, hp, rfl⟩ := c
    have dn := drm_dok d hp
    refine cstep (F := fun f M => X8_dropCard f 0 (nI p) M) (G := fun f M => X9_dropCard f 39 (nI p) M) (r := nI (R 3 - 1)) (R' := nwD R (R 2) (R 3 - 1) (drm (sD R) p)) (H' := push R H) (k' := min (k + 1) 8) (fun M hM => ?_) (fun M hM => ?_) h1 h2
    · obtain ⟨M1, a1, a2, a3⟩ := x5_save hM
      obtain ⟨M2, b1, b2, b3, b4⟩ := x3_remove a2.2.2.1.2.2 (by omega) hp
      refine ⟨M2, (fX.of a1 (by decide)).trans (fX.of b1 (by decide)), a2.deck b1 (by decide) dn (by rw [b2]; exact a2.2.2.1.2.1) b3 (a2.2.2.2.2.keep (b1 21 (by decide)).1 (b1 22 (by decide)).1), jp_E.imp2 a3 b4 (fun f r1 r2 => ?_)⟩
      show X8_dropCard f 0 (nI p) M = _
      unfold X8_dropCard X3_size
      rw [show jm_rf 0 1 = 3 from rfl, show jm_rf 0 2 = 5 from rfl, show jm_rf 0 0 = 1 from rfl, x3_has hM.2.2.1.2.2 (by omega) hp, if_neg (show ¬ (1 : Int32) = 0 by decide), r1, Option.bind_some, r2, Option.bind_some, b3.1]
    · obtain ⟨M1, a1, _, a2, a3⟩ := m_remember hM
      have w := a2.2.2.1
      have key := jp_K.for (body := X9_dropCard_B16 39) (r := jm_put M1 40 (fun i => if 4 + p ≤ i ∧ i < 4 + (R 3 - 1) then M1.1 40 (i + 1) else M1.1 40 i)) (fun j => (nI (p + j), jm_put M1 40 (fun i => if 4 + p ≤ i ∧ i < 4 + (p + j) then M1.1 40 (i + 1) else M1.1 40 i))) (R 3 - 1 - p) ?_ ?_ 0 (Nat.zero_le _)
      · have e : jm_put M1 40 (fun i => if 4 + p ≤ i ∧ i < 4 + (p + 0) then M1.1 40 (i + 1) else M1.1 40 i) = M1 := by
          have : (fun i => if 4 + p ≤ i ∧ i < 4 + (p + 0) then M1.1 40 (i + 1) else M1.1 40 i) = M1.1 40 := by
            funext i
            rw [if_neg (by omega)]
          rw [this, jm_put_self]
        rw [e] at key
        generalize hF : (fun i => if 4 + p ≤ i ∧ i < 4 + (R 3 - 1) then M1.1 40 (i + 1) else M1.1 40 i) = F at key
        have hF3 : ∀ j, j < 4 → F j = nI (R j) := fun j hj => by
          rw [← hF]
          dsimp only
          rw [if_neg (by omega)]
          exact w j (by omega)
        have eE : jp_eq [40] M1 (jm_put M1 40 (upd F 3 (nI (R 3 - 1)))) := jp_eq.rfl'.put (by simp)
        refine ⟨_, (fM.of a1 (by decide)).trans (fM.of eE (by decide)), a2.deck eE (by decide) dn ?_ ?_ ?_ ?_ (fun i hi => ?_), jp_E.imp2 a3 key (fun f r1 r2 => ?_)⟩
        · rw [jm_put_at, up_ne _ _ (by decide), hF3 0 (by decide)]; exact (w 0 (by omega)).symm
        · rw [jm_put_at, up_ne _ _ (by decide), hF3 1 (by decide)]; exact (w 1 (by omega)).symm
        · rw [jm_put_at, up_ne _ _ (by decide), hF3 2 (by decide)]
        · rw [jm_put_at, up_at]
        · rw [jm_put_at, up_ne _ _ (by omega), ← hF]
          unfold drm sD
          dsimp only
          by_cases c1 : i < p
          · rw [if_neg (by omega), if_pos c1]; exact w (4 + i) (by omega)
          · rw [if_pos (by omega), if_neg c1]; exact w (4 + (i + 1)) (by omega)
        · show X9_dropCard f 39 (nI p) M = _
          unfold X9_dropCard
          rw [m_isC (by omega) (hM.2.2.1 3 (by omega)) hp, Option.bind_some, if_neg (show ¬ (1 : Int32) = 0 by decide), r1, Option.bind_some, show nI p = nI (p + 0) from rfl, r2, Option.bind_some, show jm_rf 39 0 = 40 from rfl, w_g3, Option.bind_some, jm_put_at, hF3 3 (by decide), w_s3, Option.bind_some, jm_put_put, jm_put_at, w_g3, Option.bind_some, jm_put_at, up_at, ni_sub1 (by omega)]
      · intro j hj
        unfold X9_dropCard_B16
        dsimp only
        rw [show jm_rf 39 0 = 40 from rfl, w_g3, Option.bind_some, jm_put_at, if_neg (show ¬ (4 + p ≤ 3 ∧ 3 < 4 + (p + j)) by omega), w 3 (by omega), ni_sub1 (by omega), if_neg (nI_ge (by omega) (by omega)), show (4 : Int32) + nI (p + j) = nI (4 + (p + j)) from nI_add 4 _, nI_1, jp_ga (by omega) (by decide), Option.bind_some, if_neg (show ¬ (4 + p ≤ 4 + (p + j) + 1 ∧ 4 + (p + j) + 1 < 4 + (p + j)) by omega), jp_sa (by omega) (by decide), Option.bind_some, jm_put_put, jm_put_at, nI_1, show p + j + 1 = p + (j + 1) by omega]
        congr 4
        funext i
        unfold upd
        by_cases e : i = 4 + (p + j)
        · rw [if_pos e, if_pos (by omega), e]
        · rw [if_neg e]
          dsimp only
          by_cases h1 : 4 + p ≤ i ∧ i < 4 + (p + j)
          · rw [if_pos h1, if_pos (by omega)]
          · rw [if_neg h1, if_neg (by omega)]
      · unfold X9_dropCard_B16
        dsimp only
        rw [show jm_rf 39 0 = 40 from rfl, w_g3, Option.bind_some, jm_put_at, if_neg (show ¬ (4 + p ≤ 3 ∧ 3 < 4 + (p + (R 3 - 1 - p))) by omega), w 3 (by omega), ni_sub1 (by omega), if_pos (nI_le (by omega) (by omega)), show p + (R 3 - 1 - p) = R 3 - 1 by omega]
  · refine cstep (F := fun f M => X8_dropCard f 0 a1 M) (G := fun f M => X9_dropCard f 39 a1 M) (r := -1) (CX.no (fun M hM => jp_E.all (fun f => ?_))) (CM.no (fun M hM => jp_E.all (fun f => ?_))) h1 h2
    · unfold X8_dropCard
      rw [show jm_rf 0 1 = 3 from rfl, x3_has_no hM.2.2.1.2.2 c, if_pos rfl]
    · unfold X9_dropCard
      rw [m_isC_no (by omega) (hM.2.2.1 3 (by omega)) c, Option.bind_some, if_pos rfl]
