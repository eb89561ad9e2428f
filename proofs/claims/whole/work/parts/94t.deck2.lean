/-! whether the held deck is the deck of the graph; deck -/
theorem so_eq {E D : Nat → Nat} {h : Nat} (hE : dso E h) (hD : dso D h) : (∀ i, i < h → fb_ct (fun j => decide (D j = D i)) h ≤ fb_ct (fun j => decide (E j = D i)) h) ↔ ∀ i, i < h → E i = D i := by
  constructor
  · intro w
    have hx : ∀ x, fb_ct (fun j => decide (D j = x)) h ≤ fb_ct (fun j => decide (E j = x)) h := fun x => by
      by_cases c : ∃ i, i < h ∧ D i = x
      · obtain ⟨i, hi, rfl⟩ := c
        exact w i hi
      · rw [fb_ct_zero.mpr (fun k hk => decide_eq_false (fun q => c ⟨k, hk, q⟩))]
        exact Nat.zero_le _
    have hle : ∀ y, dlo D h y ≤ dlo E h y := fun y => by
      induction y with
      | zero => rw [show dlo D h 0 = 0 from fb_ct_zero.mpr (fun k _ => rfl)]; exact Nat.zero_le _
      | succ y ih => rw [dlo_cnt, dlo_cnt]; have := hx y; omega
    have hmo : ∀ t y, dlo E h y + dlo D h (y + t) ≤ dlo E h (y + t) + dlo D h y := fun t => by
      induction t with
      | zero => intro y; rw [Nat.add_zero]; exact Nat.le_refl _
      | succ t ih =>
        intro y
        have h1 := ih y
        have h2 := hx (y + t)
        rw [show y + (t + 1) = y + t + 1 by omega, dlo_cnt, dlo_cnt]
        omega
    obtain ⟨B, hB⟩ : ∃ B, ∀ i, i < h → E i < B ∧ D i < B := by
      by_cases c : h = 0
      · exact ⟨0, fun i hi => by omega⟩
      · refine ⟨E (h - 1) + D (h - 1) + 1, fun i hi => ?_⟩
        have h1 := hE i (h - 1) (by omega) (by omega)
        have h2 := hD i (h - 1) (by omega) (by omega)
        omega
    have hEB : ∀ t, dlo E h (B + t) = h := fun t => fb_ct_all.mpr (fun k hk => decide_eq_true (by have := (hB k hk).1; omega))
    have hDB : ∀ t, dlo D h (B + t) = h := fun t => fb_ct_all.mpr (fun k hk => decide_eq_true (by have := (hB k hk).2; omega))
    have heq : ∀ y, dlo E h y = dlo D h y := fun y => by
      have h1 := hmo B y
      have h2 := hle y
      rw [Nat.add_comm y B, hEB, hDB] at h1
      omega
    intro i hi
    have := (dlo_mid (x := D i) hD hi).mp rfl
    rw [← heq, ← heq] at this
    exact (dlo_mid (x := D i) hE hi).mpr this
  · intro w i hi
    rw [fb_ct_cong (q := fun j => decide (E j = D i)) (fun j hj => by rw [w j hj])]
    exact Nat.le_refl _
noncomputable def sid (R : Nat → Nat) : Int32 := if R 0 = R 2 ∧ R 3 = R 2 then (if pd (∀ i, i < R 3 → srt (kc (R 0) (qg_ad (R 0) (R 1))) (R 0) i = sD R i) then 1 else 0) else 0
theorem x_sid {M : jm_M} {R : Nat → Nat} {H : Nat → Nat → Nat} {k : Nat} (h : XI M R H k) : ∃ M', fX M M' ∧ XI M' R H k ∧ jp_E (fun f => X8_isDeckOfGraph f 0 M = some (sid R, M')) := by
  have o := h.1
  have d := o.d
  obtain ⟨d1, d2, d3, d4, d5⟩ := id d
  have h8 := o.2.1
  by_cases c0 : R 0 = R 2
  · by_cases c1 : R 3 = R 2
    · obtain ⟨M1, b1, b2, b3, b4, b5⟩ := x3_fill (qg_ad_ok _ _) (g := 37) (gg := 1) h8 (by omega) (by decide) h.2.2.1.1 h.2.2.2.2
      have k3 : dk M1 3 (R 3) (sD R) := h.d.keep (b1 3 (by decide)).1 (b1 4 (by decide)).1
      have e1 := x3_contains b4 h8 (srt_all (P := fun y => y < 2 ^ 28) (fun i _ => kc_lt (A := qg_ad (R 0) (R 1)) (v := i) h8)) k3 (by omega) (fun i hi => d.c28 hi)
      have hsd : dso (srt (kc (R 0) (qg_ad (R 0) (R 1))) (R 0)) (R 3) := by
        have := srt_so (kc (R 0) (qg_ad (R 0) (R 1))) (R 0)
        intro i j hij hj
        exact this i j hij (by omega)
      have hpq := pd_cong (so_eq hsd d4)
      have e1' : jp_E (fun f => X3_contains f 37 3 M1 = some (if pd (∀ i, i < R 3 → srt (kc (R 0) (qg_ad (R 0) (R 1))) (R 0) i = sD R i) then 1 else 0)) := by
        rw [← hpq]
        refine e1.imp (fun f r => ?_)
        rw [r, show R 0 = R 3 by omega]
      refine ⟨M1, fX.of b1 (by decide), h.of b1 (by decide) b2, jp_E.imp2 b5 e1' (fun f r1 r2 => ?_)⟩
      have hsid : sid R = if pd (∀ i, i < R 3 → srt (kc (R 0) (qg_ad (R 0) (R 1))) (R 0) i = sD R i) then 1 else 0 := if_pos ⟨c0, c1⟩
      unfold X8_isDeckOfGraph X4_size X3_h
      rw [hsid, show jm_rf 0 1 = 3 from rfl, show jm_rf 0 0 = 1 from rfl, show jm_rf 0 7 = 37 from rfl, show jm_rf 0 3 = 15 from rfl, h.2.2.1.1.1, h.h, if_pos (by rw [c0]), x3_lost h, if_pos ((lost0 o).mpr c1), r1, Option.bind_some, r2, Option.bind_some]
      by_cases q : pd (∀ i, i < R 3 → srt (kc (R 0) (qg_ad (R 0) (R 1))) (R 0) i = sD R i) = true
      · rw [if_pos q]; rfl
      · rw [if_neg q]; rfl
    · refine ⟨M, fX.rfl', h, jp_E.all (fun f => ?_)⟩
      unfold X8_isDeckOfGraph X4_size X3_h sid
      rw [show jm_rf 0 1 = 3 from rfl, show jm_rf 0 0 = 1 from rfl, h.2.2.1.1.1, h.h, if_pos (by rw [c0]), x3_lost h, if_neg (fun q => c1 ((lost0 o).mp q)), if_neg (fun q => c1 q.2)]
  · refine ⟨M, fX.rfl', h, jp_E.all (fun f => ?_)⟩
    unfold X8_isDeckOfGraph X4_size X3_h sid
    rw [show jm_rf 0 1 = 3 from rfl, show jm_rf 0 0 = 1 from rfl, h.2.2.1.1.1, h.h, if_neg (fun q => c0 ((nI_eq (by omega) (by omega)).mp q)), if_neg (fun q => c0 q.1)]
theorem m_sid {M : jm_M} {R : Nat → Nat} {H : Nat → Nat → Nat} {k : Nat} (h : MI M R H k) : ∃ M', fM M M' ∧ MI M' R H k ∧ jp_E (fun f => X9_isDeckOfGraph f 39 M = some (sid R, M')) := by
  have o := h.1
  have d := o.d
  obtain ⟨d1, d2, d3, d4, d5⟩ := id d
  have h8 := o.2.1
  have w0 := h.2.2.1 0 (by omega)
  have w1 := h.2.2.1 1 (by omega)
  by_cases c1 : R 3 = R 2
  · by_cases c0 : R 0 = R 2
    · obtain ⟨M1, b1, b2, b3, b4⟩ := m_layDeck (n := R 0) (c := R 1) (r := 52) (b := 0) (sz := 6) h8 (by omega) o.c31 rfl (by omega) (by decide) (by decide) M
      have h' : MI M1 R H k := h.keep (b1 40 (by decide)).1 (b1 41 (by decide)).1 (b1 49 (by decide)).1 (b1 50 (by decide)).1 (fun i _ => by rw [(b1 39 (by decide)).1])
      have hEl : ∀ i, i < R 0 → srt (kc (R 0) (qg_ad (R 0) (R 1))) (R 0) i < 2 ^ 28 := srt_all (P := fun y => y < 2 ^ 28) (fun i _ => kc_lt (A := qg_ad (R 0) (R 1)) (v := i) h8)
      have key := jp_L.all0 (body := fun _ => X9_isDeckOfGraph_B47 39 M1) (fun v => nI v) (R 3) (fun i => srt (kc (R 0) (qg_ad (R 0) (R 1))) (R 0) i = sD R i) (.inr ()) (.inl ((0 : Int32), M1)) ?_ ?_ ?_
      · refine ⟨M1, fM.of b1 (by decide), h', jp_E.imp2 b4 key.use (fun f r1 r2 => ?_)⟩
        have hsid : sid R = if pd (∀ i, i < R 3 → srt (kc (R 0) (qg_ad (R 0) (R 1))) (R 0) i = sD R i) then 1 else 0 := if_pos ⟨c0, c1⟩
        unfold X9_isDeckOfGraph
        rw [hsid, m_whole h, Option.bind_some, if_pos c1, if_neg (show ¬ (1 : Int32) = 0 by decide), show jm_rf 39 0 = 40 from rfl, m_w0, w0, Option.bind_some, h.w2, Option.bind_some, if_pos (by rw [c0]), Option.bind_some, m_w1, w1, Option.bind_some, show jm_rf 39 16 = 52 from rfl, show (0 : Int32) = nI 0 from rfl, r1, Option.bind_some, r2, Option.bind_some]
        by_cases q : pd (∀ i, i < R 3 → srt (kc (R 0) (qg_ad (R 0) (R 1))) (R 0) i = sD R i) = true
        · rw [if_pos q, if_pos q]; rfl
        · rw [if_neg q, if_neg q]; rfl
      · intro v hv e
        refine jp_E.all (fun f => ?_)
        have b3v := b3 v (by omega)
        rw [Nat.zero_add] at b3v
        unfold X9_isDeckOfGraph_B47
        rw [show jm_rf 39 0 = 40 from rfl, h'.w3, Option.bind_some, if_neg (nI_ge hv (by omega)), show jm_rf 39 16 = 52 from rfl, jp_ga (by omega) (by decide), Option.bind_some, h'.w hv, Option.bind_some, b3v, e, if_pos rfl, nI_1]
      · intro v hv e
        refine jp_E.all (fun f => ?_)
        have b3v := b3 v (by omega)
        rw [Nat.zero_add] at b3v
        have l1 := hEl v (by omega)
        have l2 := d.c28 hv
        unfold X9_isDeckOfGraph_B47
        rw [show jm_rf 39 0 = 40 from rfl, h'.w3, Option.bind_some, if_neg (nI_ge hv (by omega)), show jm_rf 39 16 = 52 from rfl, jp_ga (by omega) (by decide), Option.bind_some, h'.w hv, Option.bind_some, b3v, if_neg (fun q => e ((nI_eq (by omega) (by omega)).mp q))]
      · refine jp_E.all (fun f => ?_)
        unfold X9_isDeckOfGraph_B47
        rw [show jm_rf 39 0 = 40 from rfl, h'.w3, Option.bind_some, if_pos (nI_le (Nat.le_refl _) (by omega))]
    · refine ⟨M, fM.rfl', h, jp_E.all (fun f => ?_)⟩
      unfold X9_isDeckOfGraph sid
      rw [m_whole h, Option.bind_some, if_pos c1, if_neg (show ¬ (1 : Int32) = 0 by decide), show jm_rf 39 0 = 40 from rfl, m_w0, w0, Option.bind_some, h.w2, Option.bind_some, if_neg (fun q => c0 ((nI_eq (by omega) (by omega)).mp q)), if_neg (fun q => c0 q.1)]
  · refine ⟨M, fM.rfl', h, jp_E.all (fun f => ?_)⟩
    unfold X9_isDeckOfGraph sid
    rw [m_whole h, Option.bind_some, if_neg c1, if_pos rfl, if_neg (fun q => c1 q.2)]
theorem m_diffH {M : jm_M} {R : Nat → Nat} {H : Nat → Nat → Nat} {k : Nat} (h : MI M R H k) : jp_E (fun f => X9_differentHeld f 39 M = some (nI (fb_ct (dnd (sD R)) (R 3)))) := by
  have d := h.1.d
  obtain ⟨d1, d2, d3, d4, d5⟩ := id d
  have key := jp_K.for (body := X9_differentHeld_B4 39 M) (r := nI (fb_ct (dnd (sD R)) (R 3))) (fun v => (nI (fb_ct (dnd (sD R)) v), nI v)) (R 3) ?_ ?_ 0 (Nat.zero_le _)
  · refine jp_E.imp key (fun f e => ?_)
    unfold X9_differentHeld
    rw [show ((0 : Int32), (0 : Int32)) = (nI (fb_ct (dnd (sD R)) 0), nI 0) from rfl, e]; rfl
  · intro v hv
    unfold X9_differentHeld_B4
    dsimp only
    rw [show jm_rf 39 0 = 40 from rfl, h.w3, Option.bind_some, if_neg (nI_ge hv (by omega)), fb_ct_succ]
    by_cases c0 : v = 0
    · subst c0
      rw [if_pos (show nI 0 = (0 : Int32) from rfl), nI_1, nI_1]; rfl
    · have e2 : ((4 : Int32) + nI v) - 1 = (4 : Int32) + nI (v - 1) := by
        rw [show (4 : Int32) = nI 4 from rfl, nI_add, nI_add, ni_sub1 (by omega), show 4 + v - 1 = 4 + (v - 1) by omega]
      rw [if_neg (nI_ne0 (by omega) (by omega)), h.w hv, Option.bind_some, e2, h.w (show v - 1 < R 3 by omega), Option.bind_some]
      have l1 := d.c28 hv
      have l2 := d.c28 (show v - 1 < R 3 by omega)
      unfold dnd
      by_cases c : sD R v = sD R (v - 1)
      · rw [if_pos (by rw [c]), decide_eq_false c0, decide_eq_false (fun q => q c), Int32.add_zero, nI_1]; rfl
      · rw [if_neg (fun q => c ((nI_eq (by omega) (by omega)).mp q)), decide_eq_true c, Bool.or_true, nI_1, nI_1]; rfl
  · unfold X9_differentHeld_B4
    dsimp only
    rw [show jm_rf 39 0 = 40 from rfl, h.w3, Option.bind_some, if_pos (nI_le (Nat.le_refl _) (by omega))]
