/-! COUNTING in the held cards: patterns, edges, degrees -/
def vt (p : Nat) : Nat := if p = 0 then 2 else if p < 3 then 3 else 4
theorem vt_at : ∀ p, p < 9 → jm_vt p = nI (vt p) := by decide +kernel
theorem x6_pat {p : Nat} (hp : p < 9) : X6_isPattern (nI p) = 1 := by
  unfold X6_isPattern
  rw [if_neg (nI_pos (by omega)), show (9 : Int32) = nI 9 from rfl, if_neg (nI_ge hp (by omega))]
theorem x6_pat_no {x : Int32} (h : ¬ ∃ p, p < 9 ∧ x = nI p) : X6_isPattern x = 0 := by
  unfold X6_isPattern
  by_cases h0 : x < 0
  · rw [if_pos h0]
  · rw [if_neg h0]
    obtain ⟨j, hj, rfl⟩ := nI_of h0
    by_cases hl : 9 ≤ j
    · rw [show (9 : Int32) = nI 9 from rfl, if_pos (nI_le hl hj)]
    · exact absurd ⟨j, by omega, rfl⟩ h
theorem x6_vert {p : Nat} (hp : p < 9) (M : jm_M) : X6_vertices (nI p) M = some (nI (vt p)) := by
  unfold X6_vertices
  rw [x6_pat hp, if_neg (show ¬ (1 : Int32) = 0 by decide), jp_ga hp (by decide), vt_at p hp]; rfl
def pcS (h m : Nat) (D : Nat → Nat) (p : Nat) : Int32 := iS (fun i => s_cp (qg_ad (h - 1) (D i)) (h - 1) p) m
def dvd' (S : Int32) (y : Nat) : Int32 := if S - S / nI y * nI y = 0 then S / nI y else -9
def pcs (h m : Nat) (D : Nat → Nat) (p : Nat) : Int32 := if m = h ∧ vt p < h then dvd' (pcS h m D p) (h - vt p) else -9
theorem vt_le (p : Nat) : 2 ≤ vt p ∧ vt p ≤ 4 := by
  unfold vt
  split
  · omega
  · split <;> omega
theorem dvd_run {S : Int32} {y : Nat} (hy : 0 < y) (hy2 : y < 2 ^ 31) {α : Type} (M : α) : (jm_rm S (nI y)).bind (fun x7 => if x7 = (0 : Int32) then ((jm_dv S (nI y)).bind (fun x8 => some (x8, M))) else (some ((-9 : Int32), M))) = some (dvd' S y, M) := by
  unfold jm_rm jm_dv dvd'
  rw [if_neg (nI_ne0 hy hy2), if_neg (nI_ne0 hy hy2), Option.bind_some, Option.bind_some]
  split <;> rfl
theorem XI.d {M : jm_M} {R : Nat → Nat} {H : Nat → Nat → Nat} {k : Nat} (h : XI M R H k) : dk M 3 (R 3) (sD R) := h.2.2.1.2.2
theorem XI.h {M : jm_M} {R : Nat → Nat} {H : Nat → Nat → Nat} {k : Nat} (h : XI M R H k) : M.1 3 1 = nI (R 2) := h.2.2.1.2.1
theorem x3_lost {M : jm_M} {R : Nat → Nat} {H : Nat → Nat → Nat} {k : Nat} (h : XI M R H k) : X3_lost 3 M = nI (R 2 - R 3) := by
  unfold X3_lost
  rw [h.h, h.d.1, nI_sub h.1.2.2.2.2.2.1]
theorem lost0 {R : Nat → Nat} (o : sOK R) : (nI (R 2 - R 3) = (0 : Int32)) ↔ R 3 = R 2 := by
  obtain ⟨_, _, _, o4, o5, o6, _⟩ := o
  constructor
  · intro h
    have := (nI_eq (a := R 2 - R 3) (b := 0) (by omega) (by decide)).mp h
    omega
  · intro h
    rw [h, Nat.sub_self]; rfl
theorem x2_pat {M : jm_M} {R : Nat → Nat} {H : Nat → Nat → Nat} {k p : Nat} (h : XI M R H k) (hp : p < 9) : ∃ M', jp_eq [26, 27] M M' ∧ jp_E (fun f => X2_patterns f 25 3 (nI p) M = some (pcs (R 2) (R 3) (sD R) p, M')) := by
  have o := h.1
  have d := o.d
  obtain ⟨d1, d2, d3, d4, d5⟩ := id d
  have hv := vt_le p
  by_cases c : R 3 = R 2 ∧ vt p < R 2
  · have key := jp_L.forV (body := fun f => X2_patterns_B30 f 25 3 (nI p) (nI (R 2 - vt p))) (J := fun _ M1 => jp_eq [26, 27] M M1) (fun v M1 => (pcS (R 2) v (sD R) p, nI v, M1)) (fun M1 => (pcS (R 2) (R 3) (sD R) p, M1)) 0 (R 3) ?_ ?_ M (Nat.zero_le _) jp_eq.rfl'
    · obtain ⟨M', g1, g2⟩ := key
      refine ⟨M', g1, g2.use.imp (fun f e => ?_)⟩
      unfold X2_patterns X3_h pcs
      rw [x6_vert hp, Option.bind_some, x3_lost h, if_pos ((lost0 o).mpr c.1), h.h, nI_sub (by omega), if_pos (show (0 : Int32) < nI (R 2 - vt p) from nI_lt (a := 0) (by omega) (by omega)), show ((0 : Int32), (0 : Int32), M) = (pcS (R 2) 0 (sD R) p, nI 0, M) from rfl, e, Option.bind_some]
      dsimp only
      rw [dvd_run (by omega) (by omega), if_pos c]
    · intro v M1 _ hv g
      have hd1 := h.d.keep (g 3 (by decide)).1 (g 4 (by decide)).1
      have e1 := xl_load (M := M1) (g := 26) (n := R 2 - 1) (c := sD R v) (by omega) (by omega) (Nat.lt_trans (d.c28 hv) (by decide)) (by decide)
      have g4 := xl_gx (M := M1) (g := 26) (n := R 2 - 1) (c := sD R v) (old := M1.1 (jm_rf 26 0)) (by decide)
      generalize hM4 : jm_put (jm_put M1 26 (upd (M1.1 26) 1 (nI (R 2 - 1)))) (jm_rf 26 0) (qg_ld (R 2 - 1) (sD R v) 0 (M1.1 (jm_rf 26 0))) = M4 at e1 g4
      have m4 : jp_eq [26, 27] M1 M4 := by rw [← hM4]; exact (jp_eq.rfl'.put (by simp)).put (by decide)
      refine ⟨M4, g.trans m4, jp_E.imp2 e1 (x6_count g4 (qg_ad_ok _ _) (by omega) (by omega) hp) (fun f r1 r2 => ?_)⟩
      unfold X2_patterns_B30 X3_size X3_h
      dsimp only
      rw [hd1.1, if_neg (nI_ge hv (by omega)), x3_at hd1 (by omega) hv, Option.bind_some, show jm_rf 25 0 = 26 from rfl, (g 3 (by decide)).1, h.h, ni_sub1 (by omega), r1, Option.bind_some, r2, Option.bind_some, nI_1]; rfl
    · intro M1 g
      refine jp_E.all (fun f => ?_)
      have hd1 := h.d.keep (g 3 (by decide)).1 (g 4 (by decide)).1
      unfold X2_patterns_B30 X3_size
      dsimp only
      rw [hd1.1, if_pos (nI_le (Nat.le_refl _) (by omega))]
  · refine ⟨M, jp_eq.rfl', jp_E.all (fun f => ?_)⟩
    unfold X2_patterns X3_h pcs
    rw [x6_vert hp, Option.bind_some, x3_lost h, if_neg c, h.h]
    by_cases c1 : R 3 = R 2
    · rw [if_pos ((lost0 o).mpr c1), if_neg]
      intro q
      have c2 : R 2 ≤ vt p := Nat.le_of_not_lt (fun w => c ⟨c1, w⟩)
      have e : ∀ a, a < 7 → ∀ b, b < 7 → a ≤ b → ¬ (0 : Int32) < nI a - nI b := by decide +kernel
      exact e (R 2) (by omega) (vt p) (by omega) c2 q
    · rw [if_neg (fun q => c1 ((lost0 o).mp q))]
theorem XI.p {M M' : jm_M} {R : Nat → Nat} {H : Nat → Nat → Nat} {k : Nat} (h : XI M R H k) (e : jp_eq [26, 27] M M') : XI M' R H k := h.of e (by decide) (h.2.2.2.2.keep (e 21 (by decide)).1 (e 22 (by decide)).1)
theorem MI.w {M : jm_M} {R : Nat → Nat} {H : Nat → Nat → Nat} {k : Nat} (h : MI M R H k) {i : Nat} (hi : i < R 3) : jm_ga (M.1 40) 10 ((4 : Int32) + nI i) = some (nI (sD R i)) := by
  have o5 := h.1.2.2.2.2.1
  have o6 := h.1.2.2.2.2.2.1
  rw [jp_gaN (n := 10) (x := (4 : Int32) + nI i) (4 + i) (by omega) (by decide) (nI_add 4 i), h.2.2.1 (4 + i) (by omega)]; rfl
theorem MI.w2 {M : jm_M} {R : Nat → Nat} {H : Nat → Nat → Nat} {k : Nat} (h : MI M R H k) : jm_ga (M.1 40) 10 (2 : Int32) = some (nI (R 2)) := by rw [w_g2, h.2.2.1 2 (by omega)]
theorem MI.w3 {M : jm_M} {R : Nat → Nat} {H : Nat → Nat → Nat} {k : Nat} (h : MI M R H k) : jm_ga (M.1 40) 10 (3 : Int32) = some (nI (R 3)) := by rw [w_g3, h.2.2.1 3 (by omega)]
theorem m_whole {M : jm_M} {R : Nat → Nat} {H : Nat → Nat → Nat} {k : Nat} (h : MI M R H k) : X9_isWhole 39 M = some (if R 3 = R 2 then 1 else 0) := by
  have o5 := h.1.2.2.2.2.1
  have o6 := h.1.2.2.2.2.2.1
  unfold X9_isWhole
  rw [show jm_rf 39 0 = 40 from rfl, h.w3, Option.bind_some, h.w2, Option.bind_some]
  by_cases c : R 3 = R 2
  · rw [if_pos (by rw [c]), if_pos c]
  · rw [if_neg (fun q => c ((nI_eq (by omega) (by omega)).mp q)), if_neg c]
theorem m_cntL {M : jm_M} {R : Nat → Nat} {H : Nat → Nat → Nat} {k p : Nat} (h : MI M R H k) (hp : p < 9) (V : Int32) : ∃ M', jp_eq [42] M M' ∧ jp_E (fun f => jm_loop (X9_counted_B56 f 39 (nI p) V) f ((0 : Int32), (0 : Int32), M) = some (pcS (R 2) (R 3) (sD R) p, M')) := by
  obtain ⟨d1, d2, d3, d4, d5⟩ := h.1.d
  have hk : ∀ M1, jp_eq [42] M M1 → MI M1 R H k := fun M1 e => h.q ⟨e.sub (by simp), fun i _ => by rw [(e 39 (by decide)).1]⟩
  have key := jp_L.forV (body := fun f => X9_counted_B56 f 39 (nI p) V) (J := fun _ M1 => jp_eq [42] M M1) (fun v M1 => (pcS (R 2) v (sD R) p, nI v, M1)) (fun M1 => (pcS (R 2) (R 3) (sD R) p, M1)) 0 (R 3) ?_ ?_ M (Nat.zero_le _) jp_eq.rfl'
  · obtain ⟨M', g1, g2⟩ := key
    exact ⟨M', g1, g2.use⟩
  · intro v M1 _ hv g
    have h1 := hk M1 g
    obtain ⟨M2, a1, a2⟩ := m_copiesIn (n := R 2 - 1) (c := sD R v) (p := p) (by omega) (d5 v hv).1 hp M1
    refine ⟨M2, g.trans a1, a2.imp (fun f e => ?_)⟩
    unfold X9_counted_B56
    dsimp only
    rw [show jm_rf 39 0 = 40 from rfl, h1.w3, Option.bind_some, if_neg (nI_ge hv (by omega)), h1.w2, Option.bind_some, h1.w hv, Option.bind_some, ni_sub1 (by omega), e, Option.bind_some, nI_1]; rfl
  · intro M1 g
    refine jp_E.all (fun f => ?_)
    unfold X9_counted_B56
    dsimp only
    rw [show jm_rf 39 0 = 40 from rfl, (hk M1 g).w3, Option.bind_some, if_pos (nI_le (Nat.le_refl _) (by omega))]
theorem m_cntR {M : jm_M} {R : Nat → Nat} {H : Nat → Nat → Nat} {k p q : Nat} (h : MI M R H k) (hp : p < 9) (hq : q ≤ 4) (hq2 : 2 ≤ q) : ∃ M', jp_eq [42] M M' ∧ jp_E (fun f => ((X9_isWhole 39 M).bind (fun x1 => if x1 = (0 : Int32) then (some ((-9 : Int32), M)) else ((jm_ga (M.1 40) 10 (2 : Int32)).bind (fun x2 => if nI q < x2 then ((jm_loop (X9_counted_B56 f 39 (nI p) (nI q)) f ((0 : Int32), (0 : Int32), M)).bind (fun q7 => (jm_ga (q7.2.1 40) 10 (2 : Int32)).bind (fun x9 => (jm_rm q7.1 (x9 - nI q)).bind (fun x10 => if x10 = (0 : Int32) then ((jm_ga (q7.2.1 40) 10 (2 : Int32)).bind (fun x11 => (jm_dv q7.1 (x11 - nI q)).bind (fun x12 => some (x12, q7.2)))) else (some ((-9 : Int32), q7.2)))))) else (some ((-9 : Int32), M)))))) = some (if R 3 = R 2 ∧ q < R 2 then dvd' (pcS (R 2) (R 3) (sD R) p) (R 2 - q) else -9, M')) := by
  obtain ⟨d1, d2, d3, d4, d5⟩ := h.1.d
  have hw := m_whole h
  by_cases c1 : R 3 = R 2
  · rw [if_pos c1] at hw
    by_cases c2 : q < R 2
    · obtain ⟨M', a1, a2⟩ := m_cntL h hp (nI q)
      refine ⟨M', a1, a2.imp (fun f e => ?_)⟩
      have h1 : MI M' R H k := h.q ⟨a1.sub (by simp), fun i _ => by rw [(a1 39 (by decide)).1]⟩
      rw [hw, Option.bind_some, if_neg (show ¬ (1 : Int32) = 0 by decide), h.w2, Option.bind_some, if_pos (nI_lt c2 (by omega)), e, Option.bind_some]
      dsimp only
      rw [h1.w2, Option.bind_some, nI_sub (by omega)]
      have := dvd_run (S := pcS (R 2) (R 3) (sD R) p) (y := R 2 - q) (by omega) (by omega) M'
      rw [if_pos ⟨c1, c2⟩, ← this]
      simp only [Option.bind_some]
      rw [nI_sub (by omega)]
    · exact ⟨M, jp_eq.rfl', jp_E.all (fun f => by rw [hw, Option.bind_some, if_neg (show ¬ (1 : Int32) = 0 by decide), h.w2, Option.bind_some, if_neg (nI_nlt (by omega) (by omega)), if_neg (fun w => c2 w.2)])⟩
  · exact ⟨M, jp_eq.rfl', jp_E.all (fun f => by rw [hw, if_neg c1, Option.bind_some, if_pos rfl, if_neg (fun w => c1 w.1)])⟩
theorem s_14 : jl_S14 Inv := fun M a1 _ _ ⟨R, H, k, h1, h2⟩ => by
  by_cases c : ∃ p, p < 9 ∧ a1 = nI p
  · obtain ⟨p, hp, rfl⟩ := c
    refine cstep (F := fun f M => X8_counted f 0 (nI p) M) (G := fun f M => X9_counted f 39 (nI p) M) (r := pcs (R 2) (R 3) (sD R) p) (R' := R) (H' := H) (k' := k) (fun M hM => ?_) (fun M hM => ?_) h1 h2
    · obtain ⟨M', a1, a2⟩ := x2_pat hM hp
      refine ⟨M', fX.of a1 (by decide), hM.p a1, a2.imp (fun f e => ?_)⟩
      show X8_counted f 0 (nI p) M = _
      unfold X8_counted
      rw [x6_pat hp, if_neg (show ¬ (1 : Int32) = 0 by decide), show jm_rf 0 5 = 25 from rfl, show jm_rf 0 1 = 3 from rfl, e]; rfl
    · obtain ⟨M', a1, a2⟩ := m_cntR hM hp (vt_le p).2 (vt_le p).1
      have q : mkE M M' := ⟨a1.sub (by simp), fun i _ => by rw [(a1 39 (by decide)).1]⟩
      refine ⟨M', q.f, hM.q q, a2.imp (fun f e => ?_)⟩
      show X9_counted f 39 (nI p) M = _
      unfold X9_counted
      rw [show X9_isIn (nI p) (0 : Int32) (8 : Int32) = 1 from m_isIn1 (a := 0) (b := 8) (Nat.zero_le p) (by omega) (by decide), if_neg (show ¬ (1 : Int32) = 0 by decide)]
      by_cases c0 : p = 0
      · rw [if_pos (by rw [c0]; rfl)]
        rw [show vt p = 2 by rw [c0]; rfl] at e
        refine Eq.trans e ?_
        unfold pcs
        rw [show vt p = 2 by rw [c0]; rfl]
      · rw [if_neg (show ¬ nI p = (0 : Int32) from nI_ne0 (by omega) (by omega))]
        by_cases c3 : p < 3
        · rw [if_neg (show ¬ (3 : Int32) ≤ nI p from nI_ge (b := 3) c3 (by decide))]
          have ev : vt p = 3 := by unfold vt; rw [if_neg c0, if_pos c3]
          rw [ev] at e
          refine Eq.trans e ?_
          unfold pcs
          rw [ev]
        · rw [if_pos (show (3 : Int32) ≤ nI p from nI_le (a := 3) (by omega) (by omega))]
          have ev : vt p = 4 := by unfold vt; rw [if_neg c0, if_neg c3]
          rw [ev] at e
          refine Eq.trans e ?_
          unfold pcs
          rw [ev]
  · refine cstep (F := fun f M => X8_counted f 0 a1 M) (G := fun f M => X9_counted f 39 a1 M) (r := -1) (CX.no (fun M hM => jp_E.all (fun f => ?_))) (CM.no (fun M hM => jp_E.all (fun f => ?_))) h1 h2
    · unfold X8_counted
      rw [x6_pat_no c, if_pos rfl]
    · unfold X9_counted
      rw [show X9_isIn a1 (0 : Int32) (8 : Int32) = 0 from m_isIn (a := 0) (b := 8) (by decide) (by decide) (fun ⟨v, _, q2, q3⟩ => c ⟨v, by omega, q3⟩), if_pos rfl]
