/-! ANSWERS: the reference's side -/
theorem acn_succ (W : Nat → Nat) (c s y : Nat) : acn W (c + 1) s y = acn W c s y + (if s.testBit c && decide (W c = y) then 1 else 0) := rfl
def hJ (E W : Nat → Nat) (h s c k : Nat) : Prop := (∀ y, acn W c s y ≤ fb_ct (fun i => decide (E i = y)) h) ∧ ∀ y, (∀ i, i < c → s.testBit i = true → W i ≤ y) → k ≤ dlo E h y + acn W c s y ∧ (0 < acn W c s y → k = dlo E h y + acn W c s y)
theorem hJ_skip {E W : Nat → Nat} {h s c k : Nat} (hj : hJ E W h s c k) (hb : ¬ s.testBit c = true) : hJ E W h s (c + 1) k := by
  have e : ∀ y, acn W (c + 1) s y = acn W c s y := fun y => by
    rw [acn_succ, Bool.eq_false_iff.mpr hb, Bool.false_and]; rfl
  exact ⟨fun y => by rw [e]; exact hj.1 y, fun y q => by rw [e]; exact hj.2 y (fun i hi => q i (by omega))⟩
theorem hJ_take {E W : Nat → Nat} {h s c k : Nat} (hs : dso E h) (hW : ∀ i, i < c → W i ≤ W c) (hj : hJ E W h s c k) (hb : s.testBit c = true) (hlt : dlo E h (W c) + acn W c s (W c) < dlo E h (W c + 1)) : hJ E W h s (c + 1) (dlo E h (W c) + acn W c s (W c) + 1) := by
  have hcnt := dlo_cnt E h (W c)
  have e0 : acn W (c + 1) s (W c) = acn W c s (W c) + 1 := by
    rw [acn_succ, hb, Bool.true_and, decide_eq_true rfl]; rfl
  have e1 : ∀ y, y ≠ W c → acn W (c + 1) s y = acn W c s y := fun y hy => by
    rw [acn_succ, decide_eq_false (fun q => hy q.symm), Bool.and_false]; rfl
  refine ⟨fun y => ?_, fun y q => ?_⟩
  · by_cases c1 : y = W c
    · rw [c1, e0]; omega
    · rw [e1 y c1]; exact hj.1 y
  · have hy := q c (by omega) hb
    by_cases c1 : y = W c
    · rw [c1, e0]; omega
    · have hz : acn W (c + 1) s y = 0 := by
        rw [e1 y c1]
        refine fb_ct_zero.mpr (fun i hi => ?_)
        have := hW i hi
        rw [decide_eq_false (show ¬ W i = y by omega), Bool.and_false]
      have hk : dlo E h (W c) + acn W c s (W c) < h := Nat.lt_of_lt_of_le hlt (dlo_le _ _ _)
      have hE := (dlo_mid (x := W c) hs hk).mpr ⟨by omega, hlt⟩
      have := (dlo_iff (x := y) hs hk).mp (by omega)
      rw [hz]
      exact ⟨by omega, fun w => absurd w (Nat.lt_irrefl 0)⟩
theorem acn_mono {W : Nat → Nat} {s y a b : Nat} (h : a ≤ b) : acn W a s y ≤ acn W b s y := fb_ct_mono _ h
theorem m_hasAll {M : jm_M} {R : Nat → Nat} {H : Nat → Nat → Nat} {k s x : Nat} (h : MI M R H k) (hT : mtab M (R 2)) (hs : s < 2 ^ 31) (hx : x < 2 ^ qg_tri (R 2)) (hc : cnc (R 2) x = true) : jp_E (fun f => X9_hasAll f 39 (nI (fb_ct (cnc (R 2)) x)) (nI s) M = some (if pd (gd (R 2) (qg_ad (R 2) x) (acn (sD R) (R 3) s)) then 1 else 0)) := by
  have d := h.1.d
  obtain ⟨d1, d2, d3, d4, d5⟩ := id d
  have hrow := (hT.2 x hx hc).2
  have hkl := kinds_le d1 d2
  have hg : fb_ct (cnc (R 2)) x < 160 := by
    have h1 := fb_ct_mono (cnc (R 2)) (show x ≤ 2 ^ qg_tri (R 2) by omega)
    omega
  have hEl : ∀ i, i < R 2 → srt (kc (R 2) (qg_ad (R 2) x)) (R 2) i < 2 ^ 28 := srt_all (P := fun y => y < 2 ^ 28) (fun i _ => kc_lt (A := qg_ad (R 2) x) (v := i) (by omega))
  have hEs := srt_so (kc (R 2) (qg_ad (R 2) x)) (R 2)
  have hgd : gd (R 2) (qg_ad (R 2) x) (acn (sD R) (R 3) s) ↔ ∀ y, acn (sD R) (R 3) s y ≤ fb_ct (fun i => decide (srt (kc (R 2) (qg_ad (R 2) x)) (R 2) i = y)) (R 2) := by
    unfold gd
    exact ⟨fun q y => by rw [srt_ct (fun z => decide (z = y))]; exact q y, fun q y => by have := q y; rw [srt_ct (fun z => decide (z = y))] at this; exact this⟩
  rw [pd_cong hgd]
  generalize fb_ct (cnc (R 2)) x = g at hg hrow
  generalize srt (kc (R 2) (qg_ad (R 2) x)) (R 2) = E at hrow hEl hEs
  have hrd : ∀ j, j < R 2 → jm_ga (M.1 50) 960 (((6 : Int32) * nI g) + nI j) = some (nI (E j)) := fun j hj => by
    rw [show (6 : Int32) = nI 6 from rfl, nI_mul, nI_add, jp_ga (by omega) (by decide), hrow j hj]
  have key : ∀ j c kk, c + j = R 3 → kk ≤ R 2 → hJ E (sD R) (R 2) s c kk → jp_L (fun f => X9_hasAll_B5 f 39 (nI g) (nI s) M) (nI kk, nI c) (if pd (∀ y, acn (sD R) (R 3) s y ≤ fb_ct (fun i => decide (E i = y)) (R 2)) then .inr () else .inl 0) := by
    intro j
    induction j with
    | zero =>
      intro c kk e hkk hj
      obtain rfl : c = R 3 := by omega
      rw [if_pos (pd_t.mpr hj.1)]
      refine jp_L.done (jp_E.all (fun f => ?_))
      unfold X9_hasAll_B5
      dsimp only
      rw [show jm_rf 39 0 = 40 from rfl, h.w3, Option.bind_some, if_pos (nI_le (Nat.le_refl _) (by omega))]
    | succ j ih =>
      intro c kk e hkk hj
      have hcm : c < R 3 := by omega
      by_cases hb : s.testBit c = true
      · have hW : ∀ i, i < c → sD R i ≤ sD R c := fun i hi => d4 i c (by omega) hcm
        obtain ⟨j1, j2⟩ := hj.2 (sD R c) (fun i hi _ => hW i hi)
        have hcnt := dlo_cnt E (R 2) (sD R c)
        have hj1 := hj.1 (sD R c)
        have hdl := dlo_le E (R 2) (sD R c + 1)
        have hWl := d.c28 hcm
        generalize hke : dlo E (R 2) (sD R c) + acn (sD R) c s (sD R c) = k' at j1 j2
        have hk'h : k' ≤ R 2 := by omega
        have hstop : X9_hasAll_B26 39 (nI g) (nI s) (nI c) M (nI k') = some (.inr (nI k')) := by
          unfold X9_hasAll_B26
          rw [show jm_rf 39 0 = 40 from rfl, h.w2, Option.bind_some]
          by_cases q : R 2 ≤ k'
          · rw [if_pos (nI_le q (by omega))]
          · have hge : ¬ E k' < sD R c := fun w => by
              have := (dlo_iff hEs (show k' < R 2 by omega)).mp w
              omega
            have := hEl k' (by omega)
            rw [if_neg (nI_ge (by omega) (by omega)), show jm_rf 39 12 = 50 from rfl, hrd k' (by omega), Option.bind_some, h.w hcm, Option.bind_some, if_pos (nI_le (by omega) (by omega))]
        have hin : jp_K (X9_hasAll_B26 39 (nI g) (nI s) (nI c) M) (nI kk) (nI k') := by
          by_cases ca : 0 < acn (sD R) c s (sD R c)
          · rw [j2 ca]; exact jp_K.done hstop
          · refine jp_K.for (body := X9_hasAll_B26 39 (nI g) (nI s) (nI c) M) (r := nI k') (fun v => nI v) k' (fun v hv => ?_) hstop kk j1
            have hlt : E v < sD R c := (dlo_iff hEs (show v < R 2 by omega)).mpr (by omega)
            unfold X9_hasAll_B26
            rw [show jm_rf 39 0 = 40 from rfl, h.w2, Option.bind_some, if_neg (nI_ge (by omega) (by omega)), show jm_rf 39 12 = 50 from rfl, hrd v (by omega), Option.bind_some, h.w hcm, Option.bind_some, if_neg (nI_ge hlt (by omega)), nI_1]
        by_cases hlt : k' < dlo E (R 2) (sD R c + 1)
        · have hE := (dlo_mid (x := sD R c) hEs (show k' < R 2 by omega)).mpr ⟨by omega, hlt⟩
          have hnx := hJ_take hEs hW hj hb (by rw [hke]; exact hlt)
          rw [hke] at hnx
          refine jp_L.step (jp_E.imp hin (fun f r => ?_)) (ih (c + 1) (k' + 1) (by omega) (by omega) hnx)
          unfold X9_hasAll_B5
          dsimp only
          rw [show jm_rf 39 0 = 40 from rfl, h.w3, Option.bind_some, if_neg (nI_ge hcm (by omega)), ni_bit hs (by omega), if_pos hb, if_pos rfl, r, Option.bind_some, h.w2, Option.bind_some, if_neg (fun q => by have := (nI_eq (by omega) (by omega)).mp q; omega), show jm_rf 39 12 = 50 from rfl, hrd k' (by omega), Option.bind_some, h.w hcm, Option.bind_some, hE, if_pos rfl, nI_1, nI_1]
        · have hno : ¬ ∀ y, acn (sD R) (R 3) s y ≤ fb_ct (fun i => decide (E i = y)) (R 2) := fun q => by
            have h1 := q (sD R c)
            have h2 : acn (sD R) (c + 1) s (sD R c) ≤ acn (sD R) (R 3) s (sD R c) := acn_mono (by omega)
            have h3 : acn (sD R) (c + 1) s (sD R c) = acn (sD R) c s (sD R c) + 1 := by
              rw [acn_succ, hb, Bool.true_and, decide_eq_true rfl]; rfl
            omega
          rw [if_neg (fun q => hno (pd_t.mp q))]
          refine jp_L.done (jp_E.imp hin (fun f r => ?_))
          unfold X9_hasAll_B5
          dsimp only
          rw [show jm_rf 39 0 = 40 from rfl, h.w3, Option.bind_some, if_neg (nI_ge hcm (by omega)), ni_bit hs (by omega), if_pos hb, if_pos rfl, r, Option.bind_some, h.w2, Option.bind_some]
          by_cases ck : k' = R 2
          · rw [if_pos (by rw [ck])]
          · have hE : E k' ≠ sD R c := fun q => hlt ((dlo_mid (x := sD R c) hEs (show k' < R 2 by omega)).mp q).2
            have := hEl k' (by omega)
            rw [if_neg (fun q => ck ((nI_eq (by omega) (by omega)).mp q)), show jm_rf 39 12 = 50 from rfl, hrd k' (by omega), Option.bind_some, h.w hcm, Option.bind_some, if_neg (fun q => hE ((nI_eq (by omega) (by omega)).mp q))]
      · refine jp_L.step (jp_E.all (fun f => ?_)) (ih (c + 1) kk (by omega) hkk (hJ_skip hj hb))
        unfold X9_hasAll_B5
        dsimp only
        rw [show jm_rf 39 0 = 40 from rfl, h.w3, Option.bind_some, if_neg (nI_ge hcm (by omega)), ni_bit hs (by omega), if_neg hb, if_neg (show ¬ (0 : Int32) = 1 by decide), nI_1]
  have h0 : hJ E (sD R) (R 2) s 0 0 := ⟨fun y => Nat.zero_le _, fun y _ => ⟨Nat.zero_le _, fun w => absurd w (Nat.lt_irrefl 0)⟩⟩
  refine (key (R 3) 0 0 (by omega) (Nat.zero_le _) h0).use.imp (fun f e => ?_)
  unfold X9_hasAll
  rw [show ((0 : Int32), (0 : Int32)) = (nI 0, nI 0) from rfl, e, Option.bind_some]
  split <;> rfl
/-! counting them -/
theorem bnd (P : Nat → Bool) (N : Nat) : ∃ Y : Nat → Nat, ∀ g, g ≤ fb_ct P N → Y g ≤ N ∧ fb_ct P (Y g) = g ∧ (g < fb_ct P N → Y g < N ∧ P (Y g) = true) ∧ (g = fb_ct P N → Y g = N) := by
  have h : ∀ g, ∃ y, g ≤ fb_ct P N → y ≤ N ∧ fb_ct P y = g ∧ (g < fb_ct P N → y < N ∧ P y = true) ∧ (g = fb_ct P N → y = N) := fun g => by
    by_cases c : g < fb_ct P N
    · obtain ⟨y, h1, h2, h3⟩ := fb_ct_kth c
      exact ⟨y, fun _ => ⟨by omega, h3, fun _ => ⟨h1, h2⟩, fun e => by omega⟩⟩
    · exact ⟨N, fun w => ⟨Nat.le_refl N, by omega, fun e => absurd e c, fun _ => rfl⟩⟩
  exact Classical.axiomOfChoice h
theorem bnd_q {P Q : Nat → Bool} (hQ : ∀ x, Q x = true → P x = true) {a b : Nat} (hab : a ≤ b) (h : fb_ct P a = fb_ct P b) : fb_ct Q a = fb_ct Q b := by
  have h1 := fb_ct_split P a (b - a)
  have h2 := fb_ct_split Q a (b - a)
  rw [show a + (b - a) = b by omega] at h1 h2
  have h3 : fb_ct (fun k => P (a + k)) (b - a) = 0 := by omega
  have h4 : fb_ct (fun k => Q (a + k)) (b - a) = 0 := fb_ct_zero.mpr (fun k hk => by
    have := fb_ct_zero.mp h3 k hk
    cases e : Q (a + k) with
    | false => rfl
    | true => rw [hQ _ e] at this; exact absurd this (by decide))
  omega
theorem bnd_step {P Q : Nat → Bool} (hQ : ∀ x, Q x = true → P x = true) {N : Nat} {Y : Nat → Nat} (hY : ∀ g, g ≤ fb_ct P N → Y g ≤ N ∧ fb_ct P (Y g) = g ∧ (g < fb_ct P N → Y g < N ∧ P (Y g) = true) ∧ (g = fb_ct P N → Y g = N)) {g : Nat} (hg : g < fb_ct P N) : fb_ct Q (Y (g + 1)) = fb_ct Q (Y g) + (if Q (Y g) then 1 else 0) := by
  obtain ⟨a1, a2, a3, _⟩ := hY g (by omega)
  obtain ⟨b1, b2, _, _⟩ := hY (g + 1) (by omega)
  have e : fb_ct P (Y g + 1) = g + 1 := by rw [fb_ct_succ, if_pos (a3 hg).2, a2]
  have hle : Y g + 1 ≤ Y (g + 1) := Nat.le_of_not_lt (fun q => by
    have := fb_ct_mono P (show Y (g + 1) ≤ Y g by omega)
    omega)
  rw [← bnd_q hQ hle (by omega), fb_ct_succ]
theorem bnd_0 {P Q : Nat → Bool} (hQ : ∀ x, Q x = true → P x = true) {y : Nat} (h : fb_ct P y = 0) : fb_ct Q y = 0 := by
  have := fb_ct_sub (n := y) (fun k _ q => hQ k q)
  omega
theorem anP_sub {h : Nat} {a : Nat → Nat} : ∀ x, anP h a x = true → cnc h x = true := fun x q => by
  unfold anP at q
  rw [Bool.and_eq_true] at q
  exact q.1
theorem anP_c {h x : Nat} {a : Nat → Nat} (hc : cnc h x = true) : anP h a x = pd (gd h (qg_ad h x) a) := by
  unfold anP
  rw [hc, Bool.true_and]
theorem m_answers {M : jm_M} {R : Nat → Nat} {H : Nat → Nat → Nat} {k s : Nat} (h : MI M R H k) (hs : s < 2 ^ 31) : ∃ M', jp_eq tbE M M' ∧ MI M' R H k ∧ jp_E (fun f => X9_answers f 39 (nI s) M = some (nI (fb_ct (anP (R 2) (acn (sD R) (R 3) s)) (2 ^ qg_tri (R 2))), M')) := by
  obtain ⟨d1, d2, d3, d4, d5⟩ := h.1.d
  have hkl := kinds_le d1 d2
  obtain ⟨M', e1, e2, e3, e4⟩ := m_layG h
  obtain ⟨Y, hY⟩ := bnd (cnc (R 2)) (2 ^ qg_tri (R 2))
  refine ⟨M', e1, e3, ?_⟩
  have hst := fun g hg => bnd_step (g := g) (Q := anP (R 2) (acn (sD R) (R 3) s)) anP_sub hY hg
  have hz := bnd_0 (Q := anP (R 2) (acn (sD R) (R 3) s)) anP_sub (hY 0 (Nat.zero_le _)).2.1
  have hl : Y (fb_ct (cnc (R 2)) (2 ^ qg_tri (R 2))) = 2 ^ qg_tri (R 2) := (hY _ (Nat.le_refl _)).2.2.2 rfl
  have key := jp_L.for (body := fun f => X9_answers_B8 f 39 (nI s) M') (r := nI (fb_ct (anP (R 2) (acn (sD R) (R 3) s)) (2 ^ qg_tri (R 2)))) (fun g => (nI (fb_ct (anP (R 2) (acn (sD R) (R 3) s)) (Y g)), nI g)) (fb_ct (cnc (R 2)) (2 ^ qg_tri (R 2))) ?_ ?_ 0 (Nat.zero_le _)
  · refine jp_E.imp2 e4 key.use (fun f r1 r2 => ?_)
    rw [hz] at r2
    unfold X9_answers
    rw [r1, Option.bind_some, show ((0 : Int32), (0 : Int32)) = (nI 0, nI 0) from rfl, r2]; rfl
  · intro g hg
    obtain ⟨_, a2, a3, _⟩ := hY g (by omega)
    have ha := m_hasAll e3 e2 hs (a3 hg).1 (a3 hg).2
    rw [a2, ← anP_c (a3 hg).2] at ha
    refine ha.imp (fun f r => ?_)
    unfold X9_answers_B8
    dsimp only
    rw [e2.1, if_neg (nI_ge hg (by omega)), r, Option.bind_some, hst g hg]
    by_cases c : anP (R 2) (acn (sD R) (R 3) s) (Y g) = true
    · rw [if_pos c, if_neg (show ¬ (1 : Int32) = 0 by decide), nI_1, nI_1, if_pos c]
    · rw [if_neg c, if_pos rfl, Int32.add_zero, nI_1, if_neg c]; rfl
  · refine jp_E.all (fun f => ?_)
    unfold X9_answers_B8
    dsimp only
    rw [e2.1, if_pos (nI_le (Nat.le_refl _) (by omega)), hl]
theorem m_all {M : jm_M} {R : Nat → Nat} {H : Nat → Nat → Nat} {k : Nat} (h : MI M R H k) : X9_all 39 M = some (nI (2 ^ R 3 - 1)) := by
  have o5 := h.1.2.2.2.2.1
  have o6 := h.1.2.2.2.2.2.1
  unfold X9_all
  rw [show jm_rf 39 0 = 40 from rfl, h.w3, Option.bind_some, ni_p2 (by omega), ni_sub1 (Nat.two_pow_pos _)]
theorem p31 {m : Nat} (h : m ≤ 6) : 2 ^ m - 1 < 2 ^ 31 := by
  have : 2 ^ m ≤ 2 ^ 6 := Nat.pow_le_pow_right (by decide) h
  have e : (2 : Nat) ^ 6 = 64 := by decide
  omega
theorem m_ansAt {M : jm_M} {R : Nat → Nat} {H : Nat → Nat → Nat} {k kk : Nat} (h : MI M R H k) (hk : kk < 2 ^ 31) : ∃ M', jp_eq tbE M M' ∧ mtab M' (R 2) ∧ MI M' R H k ∧ ((kk < fb_ct (anP (R 2) (acn (sD R) (R 3) (2 ^ R 3 - 1))) (2 ^ qg_tri (R 2)) → ∃ x, x < 2 ^ qg_tri (R 2) ∧ anP (R 2) (acn (sD R) (R 3) (2 ^ R 3 - 1)) x = true ∧ fb_ct (anP (R 2) (acn (sD R) (R 3) (2 ^ R 3 - 1))) x = kk ∧ fb_ct (cnc (R 2)) x < 160 ∧ jp_E (fun f => X9_answerAt f 39 (nI kk) M = some (nI (fb_ct (cnc (R 2)) x), M'))) ∧ (¬ kk < fb_ct (anP (R 2) (acn (sD R) (R 3) (2 ^ R 3 - 1))) (2 ^ qg_tri (R 2)) → jp_E (fun f => X9_answerAt f 39 (nI kk) M = some (-9, M')))) := by
  obtain ⟨d1, d2, d3, d4, d5⟩ := h.1.d
  have hkl := kinds_le d1 d2
  have hs := p31 (show R 3 ≤ 6 by omega)
  obtain ⟨M', e1, e2, e3, e4⟩ := m_layG h
  obtain ⟨Y, hY⟩ := bnd (cnc (R 2)) (2 ^ qg_tri (R 2))
  have hal := m_all e3
  generalize hse : 2 ^ R 3 - 1 = s at hs hal
  have hst := fun g hg => bnd_step (g := g) (Q := anP (R 2) (acn (sD R) (R 3) s)) anP_sub hY hg
  have hz := bnd_0 (Q := anP (R 2) (acn (sD R) (R 3) s)) anP_sub (hY 0 (Nat.zero_le _)).2.1
  have hl : Y (fb_ct (cnc (R 2)) (2 ^ qg_tri (R 2))) = 2 ^ qg_tri (R 2) := (hY _ (Nat.le_refl _)).2.2.2 rfl
  refine ⟨M', e1, e2, e3, ?_⟩
  have hsub := fb_ct_sub (n := 2 ^ qg_tri (R 2)) (fun k _ q => anP_sub (h := R 2) (a := acn (sD R) (R 3) s) k q)
  have key : ∀ j g, g + j = fb_ct (cnc (R 2)) (2 ^ qg_tri (R 2)) → fb_ct (anP (R 2) (acn (sD R) (R 3) s)) (Y g) ≤ kk →
      ((kk < fb_ct (anP (R 2) (acn (sD R) (R 3) s)) (2 ^ qg_tri (R 2)) → ∃ x, x < 2 ^ qg_tri (R 2) ∧ anP (R 2) (acn (sD R) (R 3) s) x = true ∧ fb_ct (anP (R 2) (acn (sD R) (R 3) s)) x = kk ∧ fb_ct (cnc (R 2)) x < 160 ∧ jp_L (fun f => X9_answerAt_B8 f 39 M') (nI (kk - fb_ct (anP (R 2) (acn (sD R) (R 3) s)) (Y g)), nI g) (.inl (nI (fb_ct (cnc (R 2)) x), M'))) ∧
       (¬ kk < fb_ct (anP (R 2) (acn (sD R) (R 3) s)) (2 ^ qg_tri (R 2)) → jp_L (fun f => X9_answerAt_B8 f 39 M') (nI (kk - fb_ct (anP (R 2) (acn (sD R) (R 3) s)) (Y g)), nI g) (.inr ()))) := by
    intro j
    induction j with
    | zero =>
      intro g hg hle
      obtain rfl : g = fb_ct (cnc (R 2)) (2 ^ qg_tri (R 2)) := by omega
      rw [hl] at hle ⊢
      refine ⟨fun q => by omega, fun _ => jp_L.done (jp_E.all (fun f => ?_))⟩
      unfold X9_answerAt_B8
      dsimp only
      rw [e2.1, if_pos (nI_le (Nat.le_refl _) (by omega))]
    | succ j ih =>
      intro g hg hle
      have hg1 : g < fb_ct (cnc (R 2)) (2 ^ qg_tri (R 2)) := by omega
      obtain ⟨_, a2, a3, _⟩ := hY g (by omega)
      have ha := m_hasAll e3 e2 hs (a3 hg1).1 (a3 hg1).2
      rw [a2, ← anP_c (a3 hg1).2] at ha
      have hs1 := hst g hg1
      by_cases c : anP (R 2) (acn (sD R) (R 3) s) (Y g) = true
      · rw [if_pos c] at hs1
        by_cases c0 : fb_ct (anP (R 2) (acn (sD R) (R 3) s)) (Y g) = kk
        · have hlt : kk < fb_ct (anP (R 2) (acn (sD R) (R 3) s)) (2 ^ qg_tri (R 2)) := by
            have h1 := fb_ct_mono (anP (R 2) (acn (sD R) (R 3) s)) (show Y g + 1 ≤ 2 ^ qg_tri (R 2) from (a3 hg1).1)
            rw [fb_ct_succ, if_pos c] at h1
            omega
          refine ⟨fun _ => ⟨Y g, (a3 hg1).1, c, c0, by rw [a2]; omega, jp_L.done (ha.imp (fun f r => ?_))⟩, fun q => absurd hlt q⟩
          unfold X9_answerAt_B8
          dsimp only
          rw [e2.1, if_neg (nI_ge hg1 (by omega)), hal, Option.bind_some, r, Option.bind_some, if_pos c, if_neg (show ¬ (1 : Int32) = 0 by decide), c0, Nat.sub_self, if_pos (show nI 0 = (0 : Int32) from rfl), a2]
        · have hlo : fb_ct (anP (R 2) (acn (sD R) (R 3) s)) (Y (g + 1)) ≤ kk := by omega
          have hstep : jp_E (fun f => X9_answerAt_B8 f 39 M' (nI (kk - fb_ct (anP (R 2) (acn (sD R) (R 3) s)) (Y g)), nI g) = some (.inl (nI (kk - fb_ct (anP (R 2) (acn (sD R) (R 3) s)) (Y (g + 1))), nI (g + 1)))) := ha.imp (fun f r => by
            unfold X9_answerAt_B8
            dsimp only
            rw [e2.1, if_neg (nI_ge hg1 (by omega)), hal, Option.bind_some, r, Option.bind_some, if_pos c, if_neg (show ¬ (1 : Int32) = 0 by decide), if_neg (nI_ne0 (by omega) (by omega)), nI_m1 (by omega), nI_1, hs1, show kk - fb_ct (anP (R 2) (acn (sD R) (R 3) s)) (Y g) - 1 = kk - (fb_ct (anP (R 2) (acn (sD R) (R 3) s)) (Y g) + 1) by omega])
          obtain ⟨i1, i2⟩ := ih (g + 1) (by omega) hlo
          refine ⟨fun q => ?_, fun q => jp_L.step hstep (i2 q)⟩
          obtain ⟨x, x1, x2, x3, x4, x5⟩ := i1 q
          exact ⟨x, x1, x2, x3, x4, jp_L.step hstep x5⟩
      · rw [if_neg c, Nat.add_zero] at hs1
        obtain ⟨i1, i2⟩ := ih (g + 1) (by omega) (by omega)
        have hstep : jp_E (fun f => X9_answerAt_B8 f 39 M' (nI (kk - fb_ct (anP (R 2) (acn (sD R) (R 3) s)) (Y g)), nI g) = some (.inl (nI (kk - fb_ct (anP (R 2) (acn (sD R) (R 3) s)) (Y (g + 1))), nI (g + 1)))) := ha.imp (fun f r => by
          unfold X9_answerAt_B8
          dsimp only
          rw [e2.1, if_neg (nI_ge hg1 (by omega)), hal, Option.bind_some, r, Option.bind_some, if_neg c, if_pos rfl, nI_1, hs1]
          rfl)
        refine ⟨fun q => ?_, fun q => jp_L.step hstep (i2 q)⟩
        obtain ⟨x, x1, x2, x3, x4, x5⟩ := i1 q
        exact ⟨x, x1, x2, x3, x4, jp_L.step hstep x5⟩
  obtain ⟨k1, k2⟩ := key _ 0 (Nat.zero_add _) (by omega)
  rw [hz, Nat.sub_zero] at k1 k2
  refine ⟨fun q => ?_, fun q => ?_⟩
  · obtain ⟨x, x1, x2, x3, x4, x5⟩ := k1 q
    refine ⟨x, x1, x2, x3, x4, jp_E.imp2 e4 x5.use (fun f r1 r2 => ?_)⟩
    unfold X9_answerAt
    rw [r1, Option.bind_some, show (nI kk, (0 : Int32)) = (nI kk, nI 0) from rfl, r2]; rfl
  · refine jp_E.imp2 e4 (k2 q).use (fun f r1 r2 => ?_)
    unfold X9_answerAt
    rw [r1, Option.bind_some, show (nI kk, (0 : Int32)) = (nI kk, nI 0) from rfl, r2]; rfl
