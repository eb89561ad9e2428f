/-! THE REFERENCE: its tables of all graphs and their decks -/
theorem cn_class {n v y : Nat} (hv : cnc n v = true) (hy : y < 2 ^ qg_tri n) : (∃ q, qp n q ∧ qc (qg_ad n v) q n = y) ↔ cn n (qg_ad n y) = v := by
  constructor
  · rintro ⟨q, hq, rfl⟩
    have e : cn n (qg_ad n (qc (qg_ad n v) q n)) = cn n (fun i j => qg_ad n v (q i) (q j)) := cn_cong (fun i j hi hj => qg_ad_cd (qok_comp (qg_ad_ok n v) q) hi hj)
    rw [e, cn_iso hq]
    exact cnc_t.mp hv
  · intro h
    obtain ⟨q, hq, e⟩ := cn_same (n := n) (qg_ad_ok n y) (qg_ad_ok n v) (h.trans (cnc_t.mp hv).symm)
    refine ⟨q, hq, ?_⟩
    have e2 := qg_cd_ad hy
    have e3 : qg_cd (qg_ad n y) n = qc (qg_ad n v) q n := qg_cd_cong (fun a b h1 h2 => e a b (by omega) h2)
    rw [← e3]; exact e2
theorem m_kinds {n : Nat} (h3 : 3 ≤ n) (h6 : n ≤ 6) (M : jm_M) : ∃ M', jp_eq [39, 45, 48, 49] M M' ∧ (∀ i, i ≠ 13 → M'.1 39 i = M.1 39 i) ∧ M'.1 39 13 = nI (fb_ct (cnc n) (2 ^ qg_tri n)) ∧ (∀ x, x < 2 ^ qg_tri n → cnc n x = true → M'.1 49 (fb_ct (cnc n) x) = nI x) ∧ jp_E (fun f => X9_layKinds f 39 (nI n) M = some M') := by
  have hN : 2 ^ qg_tri n ≤ 32768 := Nat.le_trans (Nat.pow_le_pow_right (by decide) (tri15 n (by omega))) (by decide)
  have hkl := kinds_le h3 h6
  have htw := ni_tw2 n (by omega)
  generalize hNe : 2 ^ qg_tri n = N at hN hkl htw
  have key1 := jp_K.for (body := X9_layKinds_B7 39 (nI n)) (r := jm_put (jm_put M 39 (upd (M.1 39) 13 0)) 48 (fun i => if i < N then -1 else M.1 48 i)) (fun v => (nI v, jm_put (jm_put M 39 (upd (M.1 39) 13 0)) 48 (fun i => if i < v then -1 else M.1 48 i))) N ?_ ?_ 0 (Nat.zero_le N)
  · have e0 : jm_put (jm_put M 39 (upd (M.1 39) 13 0)) 48 (fun i => if i < 0 then -1 else M.1 48 i) = jm_put M 39 (upd (M.1 39) 13 0) := by
      have : (fun i => if i < 0 then -1 else M.1 48 i) = (jm_put M 39 (upd (M.1 39) 13 0)).1 48 := by
        funext i
        rw [if_neg (Nat.not_lt_zero i), jm_put_ne _ _ (by decide)]
      rw [this, jm_put_self]
    rw [e0] at key1
    generalize hM1 : jm_put (jm_put M 39 (upd (M.1 39) 13 0)) 48 (fun i => if i < N then -1 else M.1 48 i) = M1 at key1
    have q1 : jp_eq [39, 45, 48, 49] M M1 := by rw [← hM1]; exact (jp_eq.rfl'.put (by simp)).put (by simp)
    have q39 : M1.1 39 = upd (M.1 39) 13 0 := by rw [← hM1, jm_put_ne _ _ (by decide), jm_put_at]
    have q48 : ∀ x, x < N → M1.1 48 x = -1 := fun x hx => by rw [← hM1, jm_put_at]; exact if_pos hx
    have key := jp_L.forV (body := fun f => X9_layKinds_B32 f 39 (nI n)) (J := fun v M2 => jp_eq [39, 45, 48, 49] M M2 ∧ (∀ i, i ≠ 13 → M2.1 39 i = M.1 39 i) ∧ M2.1 39 13 = nI (fb_ct (cnc n) v) ∧ (∀ x, x < v → cnc n x = true → M2.1 49 (fb_ct (cnc n) x) = nI x) ∧ ∀ x, x < N → M2.1 48 x = if cn n (qg_ad n x) < v then nI (cn n (qg_ad n x)) else -1) (fun v M2 => (nI v, M2)) (fun M2 => M2) 0 N ?_ ?_ M1 (Nat.zero_le N) ⟨q1, fun i hi => by rw [q39, up_ne _ _ hi], by rw [q39, up_at]; rfl, fun x hx => absurd hx (Nat.not_lt_zero x), fun x hx => by rw [q48 x hx, if_neg (Nat.not_lt_zero _)]⟩
    · obtain ⟨M', ⟨g1, g2, g3, g4, _⟩, g6⟩ := key
      refine ⟨M', g1, g2, g3, g4, jp_E.imp2 key1 g6.use (fun f r1 r2 => ?_)⟩
      unfold X9_layKinds
      rw [jm_set_put, show ((0 : Int32), jm_put M 39 (upd (M.1 39) 13 0)) = (nI 0, jm_put M 39 (upd (M.1 39) 13 0)) from rfl, r1, Option.bind_some, show ((0 : Int32), M1) = (nI 0, M1) from rfl, r2]; rfl
    · intro v M2 _ hv ⟨g1, g2, g3, g4, g5⟩
      have hcl := cn_le (n := n) (c := v) (by rw [hNe]; exact hv)
      have hml := fb_ct_mono (cnc n) (show v + 1 ≤ N by omega)
      by_cases c : cnc n v = true
      · have hcv := cnc_t.mp c
        have ex : fb_ct (cnc n) (v + 1) = fb_ct (cnc n) v + 1 := by rw [fb_ct_succ, if_pos c]
        generalize hM3 : jm_put (jm_put M2 49 (upd (M2.1 49) (fb_ct (cnc n) v) (nI v))) 39 (upd (M2.1 39) 13 (nI (fb_ct (cnc n) v + 1))) = M3
        obtain ⟨M4, a1, a2, a3⟩ := m_renum (n := n) (c := v) (by omega) (by omega) (by omega) M3
        have q3 : jp_eq [39, 45, 48, 49] M2 M3 := by rw [← hM3]; exact (jp_eq.rfl'.put (by simp)).put (by simp)
        have h39 : M4.1 39 = upd (M2.1 39) 13 (nI (fb_ct (cnc n) v + 1)) := by rw [(a1 39 (by decide)).1, ← hM3, jm_put_at]
        have h49 : M4.1 49 = upd (M2.1 49) (fb_ct (cnc n) v) (nI v) := by rw [(a1 49 (by decide)).1, ← hM3, jm_put_ne _ _ (by decide), jm_put_at]
        have h48 : M3.1 48 = M2.1 48 := by rw [← hM3, jm_put_ne _ _ (by decide), jm_put_ne _ _ (by decide)]
        refine ⟨M4, ⟨(g1.trans q3).trans (a1.sub (by simp)), fun i hi => by rw [h39, up_ne _ _ hi]; exact g2 i hi, by rw [h39, up_at, ex], fun x hx hc => ?_, fun x hx => ?_⟩, a3.imp (fun f r => ?_)⟩
        · rw [h49]
          by_cases e : x = v
          · rw [e, up_at]
          · have h1 := fb_ct_mono (cnc n) (show x + 1 ≤ v by omega)
            rw [fb_ct_succ, if_pos hc] at h1
            rw [up_ne _ _ (by omega)]; exact g4 x (by omega) hc
        · have hcc := cn_class (y := x) c (by rw [hNe]; exact hx)
          by_cases e : cn n (qg_ad n x) = v
          · rw [(a2 x).1 (hcc.mpr e), if_pos (by omega), e]
          · rw [(a2 x).2 (fun q => e (hcc.mp q)), h48, g5 x hx]
            by_cases e2 : cn n (qg_ad n x) < v
            · rw [if_pos e2, if_pos (by omega)]
            · rw [if_neg e2, if_neg (by omega)]
        · have g5v := g5 v hv
          rw [hcv, if_neg (Nat.lt_irrefl v)] at g5v
          unfold X9_layKinds_B32
          dsimp only
          rw [htw, if_neg (nI_ge hv (by omega)), show jm_rf 39 10 = 48 from rfl, jp_ga (by omega) (by decide), Option.bind_some, g5v, if_neg (show ¬ (0 : Int32) ≤ -1 by decide), show jm_rf 39 11 = 49 from rfl, g3, jp_sa (by omega) (by decide), Option.bind_some, jm_set_put, jm_put_ne _ _ (show 39 ≠ 49 by decide), g3, nI_1, hM3, r, Option.bind_some, nI_1]
      · have hne : cn n (qg_ad n v) ≠ v := fun e => c (cnc_t.mpr e)
        have ex : fb_ct (cnc n) (v + 1) = fb_ct (cnc n) v := by rw [fb_ct_succ, if_neg c, Nat.add_zero]
        refine ⟨M2, ⟨g1, g2, by rw [ex]; exact g3, fun x hx hc => ?_, fun x hx => ?_⟩, jp_E.all (fun f => ?_)⟩
        · by_cases e : x = v
          · rw [e] at hc; exact absurd hc c
          · exact g4 x (by omega) hc
        · rw [g5 x hx]
          have e : cn n (qg_ad n x) ≠ v := fun e => c (cnc_t.mpr (by
            have := cn_idem (n := n) (qg_ad_ok n x)
            rw [e] at this
            exact this))
          by_cases e2 : cn n (qg_ad n x) < v
          · rw [if_pos e2, if_pos (by omega)]
          · rw [if_neg e2, if_neg (by omega)]
        · have g5v := g5 v hv
          rw [if_pos (by omega)] at g5v
          unfold X9_layKinds_B32
          dsimp only
          rw [htw, if_neg (nI_ge hv (by omega)), show jm_rf 39 10 = 48 from rfl, jp_ga (by omega) (by decide), Option.bind_some, g5v, if_pos (show (0 : Int32) ≤ nI (cn n (qg_ad n v)) from nI_le (a := 0) (Nat.zero_le _) (by omega)), nI_1]
    · intro M2 _
      refine jp_E.all (fun f => ?_)
      unfold X9_layKinds_B32
      dsimp only
      rw [htw, if_pos (nI_le (Nat.le_refl N) (by omega))]
  · intro v hv
    unfold X9_layKinds_B7
    dsimp only
    rw [htw, if_neg (nI_ge hv (by omega)), show jm_rf 39 10 = 48 from rfl, jp_sa (by omega) (by decide), Option.bind_some, jm_put_put, jm_put_at, nI_1]
    congr 4
    funext i
    unfold upd
    by_cases e : i = v
    · rw [if_pos e, if_pos (by omega)]
    · rw [if_neg e]
      by_cases h1 : i < v
      · rw [if_pos (show i < v + 1 by omega)]; exact if_pos h1
      · rw [if_neg (show ¬ i < v + 1 by omega)]; exact if_neg h1
  · unfold X9_layKinds_B7
    dsimp only
    rw [htw, if_pos (nI_le (Nat.le_refl N) (by omega))]
/-- what laying the tables may change -/
def tbE : List Nat := [39, 42, 43, 44, 45, 48, 49, 50]
theorem m_layG {M : jm_M} {R : Nat → Nat} {H : Nat → Nat → Nat} {k : Nat} (h : MI M R H k) : ∃ M', jp_eq tbE M M' ∧ mtab M' (R 2) ∧ MI M' R H k ∧ jp_E (fun f => X9_layGraphs f 39 M = some M') := by
  obtain ⟨o, oh, a, ⟨b1, b2, b3⟩, L, t1, t2⟩ := id h
  obtain ⟨d1, d2, d3, d4, d5⟩ := o.d
  have hL : L < 7 := by omega
  by_cases c : L = R 2
  · refine ⟨M, jp_eq.rfl', by rw [← c]; exact (t2.resolve_left (by omega)).2.2, h, jp_E.all (fun f => ?_)⟩
    unfold X9_layGraphs
    rw [show jm_rf 39 0 = 40 from rfl, h.w2, Option.bind_some, t1, c, if_pos rfl]
  · obtain ⟨M1, e1, e2, e3, e4, e5⟩ := m_kinds d1 d2 (jm_put M 39 (upd (M.1 39) 14 (nI (R 2))))
    have hkl := kinds_le d1 d2
    have q1 : jp_eq tbE M M1 := (jp_eq.rfl'.put (by decide)).trans (e1.sub (by decide))
    have s39 : ∀ i, i ≠ 13 → i ≠ 14 → M1.1 39 i = M.1 39 i := fun i h1 h2 => by rw [e2 i h1, jm_put_at, up_ne _ _ h2]
    have s14 : M1.1 39 14 = nI (R 2) := by rw [e2 14 (by decide), jm_put_at, up_at]
    have key := jp_L.forV (body := fun f => X9_layGraphs_B28 f 39 (nI (R 2))) (J := fun g M2 => jp_eq [42, 43, 44, 50] M1 M2 ∧ ∀ x, x < 2 ^ qg_tri (R 2) → cnc (R 2) x = true → fb_ct (cnc (R 2)) x < g → ∀ j, j < R 2 → M2.1 50 (6 * fb_ct (cnc (R 2)) x + j) = nI (srt (kc (R 2) (qg_ad (R 2) x)) (R 2) j)) (fun v M2 => (nI v, M2)) (fun M2 => M2) 0 (fb_ct (cnc (R 2)) (2 ^ qg_tri (R 2))) ?_ ?_ M1 (Nat.zero_le _) ⟨jp_eq.rfl', fun x _ _ q => absurd q (Nat.not_lt_zero _)⟩
    · obtain ⟨M', ⟨g1, g2⟩, g3⟩ := key
      have g39 : M'.1 39 = M1.1 39 := (g1 39 (by decide)).1
      have hT : mtab M' (R 2) := ⟨by rw [g39]; exact e3, fun x hx hc => ⟨by rw [(g1 49 (by decide)).1]; exact e4 x hx hc, g2 x hx hc (by
        have h1 := fb_ct_mono (cnc (R 2)) (show x + 1 ≤ 2 ^ qg_tri (R 2) by omega)
        rw [fb_ct_succ, if_pos hc] at h1
        omega)⟩⟩
      have q2 : jp_eq tbE M M' := q1.trans (g1.sub (by decide))
      refine ⟨M', q2, hT, ⟨o, oh, fun j hj => by rw [(q2 40 (by decide)).1]; exact a j hj, ⟨b1, by rw [g39, s39 2 (by decide) (by decide)]; exact b2, fun i hi j hj => by rw [(q2 41 (by decide)).1]; exact b3 i hi j hj⟩, R 2, by rw [g39]; exact s14, Or.inr ⟨d1, d2, hT⟩⟩, jp_E.imp2 e5 g3.use (fun f r1 r2 => ?_)⟩
      unfold X9_layGraphs
      rw [show jm_rf 39 0 = 40 from rfl, h.w2, Option.bind_some, t1, if_neg (fun q => c ((nI_eq (by omega) (by omega)).mp q)), jm_set_put, r1, Option.bind_some, show ((0 : Int32), M1) = (nI 0, M1) from rfl, r2]; rfl
    · intro g M2 _ hg ⟨g1, g2⟩
      obtain ⟨x, hx, hxc, hxg⟩ := fb_ct_kth hg
      have hc31 := Nat.lt_trans (qt28 (show R 2 ≤ 8 by omega) hx) (show 2 ^ 28 < 2 ^ 31 by decide)
      obtain ⟨M3, a1, a2, a3, a4⟩ := m_layDeck (n := R 2) (c := x) (r := 50) (b := 6 * g) (sz := 960) (by omega) (by omega) hc31 rfl (by omega) (by decide) (by decide) M2
      refine ⟨M3, ⟨g1.trans (a1.sub (by simp)), fun y hy hyc hyg j hj => ?_⟩, a4.imp (fun f r => ?_)⟩
      · by_cases e : fb_ct (cnc (R 2)) y = g
        · have hyx : y = x := fb_ct_kth_one hyc hxc (by rw [e, hxg])
          rw [hyx, hxg]; exact a3 j hj
        · rw [a2 _ (by omega)]; exact g2 y hy hyc (by omega) j hj
      · have h49 : M2.1 49 g = nI x := by rw [(g1 49 (by decide)).1, ← hxg]; exact e4 x hx hxc
        unfold X9_layGraphs_B28
        dsimp only
        rw [(g1 39 (by decide)).1, e3, if_neg (nI_ge hg (by omega)), show jm_rf 39 11 = 49 from rfl, jp_ga (by omega) (by decide), Option.bind_some, h49, show jm_rf 39 12 = 50 from rfl, show (6 : Int32) = nI 6 from rfl, nI_mul, r, Option.bind_some, nI_1]
    · intro M2 ⟨g1, g2⟩
      refine jp_E.all (fun f => ?_)
      unfold X9_layGraphs_B28
      dsimp only
      rw [(g1 39 (by decide)).1, e3, if_pos (nI_le (Nat.le_refl _) (by omega))]
