/-! ANSWERS: the class's side -/
def acn (D : Nat → Nat) (m s x : Nat) : Nat := fb_ct (fun i => s.testBit i && decide (D i = x)) m
/-- the held answers of the class -/
def zk (M : jm_M) (z : Nat) (Z : Nat → Nat) : Prop := M.1 29 4 = nI z ∧ ∀ i, i < z → M.1 36 i = nI (Z i)
theorem zk_find {M : jm_M} {z x : Nat} {Z : Nat → Nat} (h : zk M z Z) (hz : z ≤ 32) (hs : dso Z z) (hZ : ∀ i, i < z → Z i < 2 ^ 28) (hx : x < 2 ^ 28) : jp_K (X0_keep_B2 29 (nI x) M) 0 (nI (dlo Z z x)) := by
  have hp := dlo_le Z z x
  refine jp_K.for (body := X0_keep_B2 29 (nI x) M) (r := nI (dlo Z z x)) (fun v => nI v) (dlo Z z x) ?_ ?_ 0 (Nat.zero_le _)
  · intro v hv
    unfold X0_keep_B2
    have h1 := (dlo_iff hs (show v < z by omega)).mpr hv
    have h2 := hZ v (by omega)
    rw [h.1, if_neg (nI_ge (by omega) (by omega)), show jm_rf 29 3 = 36 from rfl, jp_ga (by omega) (by decide), Option.bind_some, h.2 v (by omega), if_neg (nI_ge h1 (by omega)), nI_1]
  · unfold X0_keep_B2
    rw [h.1]
    by_cases e : z ≤ dlo Z z x
    · rw [if_pos (nI_le e (by omega))]
    · have h1 : x ≤ Z (dlo Z z x) := Nat.le_of_not_lt (fun q => by
        have := (dlo_iff hs (show dlo Z z x < z by omega)).mp q
        omega)
      have h2 := hZ (dlo Z z x) (by omega)
      rw [if_neg (nI_ge (by omega) (by omega)), show jm_rf 29 3 = 36 from rfl, jp_ga (by omega) (by decide), Option.bind_some, h.2 _ (by omega), if_pos (nI_le h1 (by omega))]
theorem zk_shift {M : jm_M} {m p : Nat} {V : Int32} (hm : m < 32) (hp : p ≤ m) : jp_K (X0_keep_B73 29 V (nI p)) (nI m, M) (jm_put M 36 (fun i => if p < i ∧ i ≤ m then M.1 36 (i - 1) else M.1 36 i)) := by
  have key := jp_K.for (body := X0_keep_B73 29 V (nI p)) (r := jm_put M 36 (fun i => if p < i ∧ i ≤ m then M.1 36 (i - 1) else M.1 36 i)) (fun j => (nI (m - j), jm_put M 36 (fun i => if m - j < i ∧ i ≤ m then M.1 36 (i - 1) else M.1 36 i))) (m - p) ?_ ?_ 0 (Nat.zero_le _)
  · have e : jm_put M 36 (fun i => if m - 0 < i ∧ i ≤ m then M.1 36 (i - 1) else M.1 36 i) = M := by
      have : (fun i => if m - 0 < i ∧ i ≤ m then M.1 36 (i - 1) else M.1 36 i) = M.1 36 := by
        funext i
        rw [if_neg (by omega)]
      rw [this, jm_put_self]
    rw [e] at key
    exact key
  · intro j hj
    unfold X0_keep_B73
    dsimp only
    rw [if_neg (nI_ge (by omega) (by omega)), show jm_rf 29 3 = 36 from rfl, ni_sub1 (by omega), jp_ga (by omega) (by decide), Option.bind_some, jp_sa (by omega) (by decide), Option.bind_some, nI_m1 (by omega), jm_put_put, jm_put_at, show m - j - 1 = m - (j + 1) by omega]
    congr 4
    funext i
    unfold upd
    by_cases e : i = m - j
    · rw [if_pos e, if_neg (by omega), if_pos (by omega), show m - (j + 1) = i - 1 by omega]
    · rw [if_neg e]
      dsimp only
      by_cases h1 : m - j < i ∧ i ≤ m
      · rw [if_pos h1, if_pos (by omega)]
      · rw [if_neg h1, if_neg (by omega)]
  · unfold X0_keep_B73
    dsimp only
    rw [if_pos (nI_le (by omega) (by omega)), show m - (m - p) = p by omega]
theorem x0_keep {M : jm_M} {z x : Nat} {Z : Nat → Nat} (h : zk M z Z) (hz : z < 32) (hs : dst Z z) (hZ : ∀ i, i < z → Z i < 2 ^ 28) (hx : x < 2 ^ 28) : ∃ M' z' Z', jp_eq [29, 36] M M' ∧ zk M' z' Z' ∧ z' ≤ z + 1 ∧ dst Z' z' ∧ (∀ y, (∃ i, i < z' ∧ Z' i = y) ↔ (∃ i, i < z ∧ Z i = y) ∨ y = x) ∧ jp_E (fun f => X0_keep f 29 (nI x) M = some M') := by
  have hp := dlo_le Z z x
  have e1 := zk_find h (by omega) (dst_so hs) hZ hx
  by_cases c : ∃ i, i < z ∧ Z i = x
  · obtain ⟨i, hi, e⟩ := c
    have hd := (dlo_mid (x := x) (dst_so hs) hi).mp e
    have hlt : dlo Z z x < z := by omega
    have hpx : Z (dlo Z z x) = x := (dlo_mid (x := x) (dst_so hs) hlt).mpr ⟨Nat.le_refl _, by omega⟩
    refine ⟨M, z, Z, jp_eq.rfl', h, by omega, hs, fun y => ⟨fun q => Or.inl q, fun q => q.elim (fun w => w) (fun w => ⟨i, hi, by rw [w]; exact e⟩)⟩, jp_E.imp e1 (fun f r => ?_)⟩
    unfold X0_keep
    rw [r, Option.bind_some, h.1, if_neg (nI_ge hlt (by omega)), show jm_rf 29 3 = 36 from rfl, jp_ga (by omega) (by decide), Option.bind_some, h.2 _ hlt, hpx, if_pos rfl]
  · have hne : ∀ i, i < z → Z i ≠ x := fun i hi e => c ⟨i, hi, e⟩
    have e2 := zk_shift (M := M) (V := nI x) hz hp
    have hres : ∀ f, jm_loop (X0_keep_B2 29 (nI x) M) f 0 = some (nI (dlo Z z x)) → jm_loop (X0_keep_B73 29 (nI x) (nI (dlo Z z x))) f (nI z, M) = some (jm_put M 36 (fun i => if dlo Z z x < i ∧ i ≤ z then M.1 36 (i - 1) else M.1 36 i)) → X0_keep f 29 (nI x) M = some (jm_put (jm_put M 36 (upd (fun i => if dlo Z z x < i ∧ i ≤ z then M.1 36 (i - 1) else M.1 36 i) (dlo Z z x) (nI x))) 29 (upd (M.1 29) 4 (nI (z + 1)))) := by
      intro f r1 r2
      have hc : ((jm_loop (X0_keep_B73 29 (nI x) (nI (dlo Z z x))) f (nI z, M)).bind (fun q5 => (jm_sa q5 36 32 (nI (dlo Z z x)) (nI x)).bind (fun M6 => some (jm_set M6 29 4 ((M6.1 29 4) + (1 : Int32)))))) = some (jm_put (jm_put M 36 (upd (fun i => if dlo Z z x < i ∧ i ≤ z then M.1 36 (i - 1) else M.1 36 i) (dlo Z z x) (nI x))) 29 (upd (M.1 29) 4 (nI (z + 1)))) := by
        rw [r2, Option.bind_some, jp_sa (by omega) (by decide), Option.bind_some, jm_put_put, jm_put_at, jm_set_put, jm_put_ne _ _ (show 29 ≠ 36 by decide), h.1, nI_1]
      unfold X0_keep
      rw [r1, Option.bind_some, h.1, show jm_rf 29 3 = 36 from rfl, if_pos (show nI z < (32 : Int32) from nI_lt (b := 32) hz (by decide)), hc]
      by_cases q : z ≤ dlo Z z x
      · rw [if_pos (nI_le q (by omega))]
      · have := hZ (dlo Z z x) (by omega)
        rw [if_neg (nI_ge (by omega) (by omega)), jp_ga (by omega) (by decide), Option.bind_some, h.2 _ (by omega), if_neg (fun w => hne _ (by omega) ((nI_eq (by omega) (by omega)).mp w))]
    refine ⟨_, z + 1, din Z (dlo Z z x) x, (jp_eq.rfl'.put (by simp)).put (by simp), ⟨by rw [jm_put_at, up_at], fun i hi => ?_⟩, Nat.le_refl _, din_st hs hne, din_mem hp, jp_E.imp2 e1 e2 hres⟩
    rw [jm_put_ne _ _ (by decide), jm_put_at]
    unfold upd din
    by_cases c1 : i = dlo Z z x
    · rw [if_pos c1, if_neg (by omega), if_pos c1]
    · rw [if_neg c1]
      dsimp only
      by_cases c2 : i < dlo Z z x
      · rw [if_neg (by omega), if_pos c2, h.2 i (by omega)]
      · rw [if_pos (by omega), if_neg c2, if_neg c1, h.2 (i - 1) (by omega)]
/-! choose -/
def chk (M : jm_M) (h m s : Nat) (D : Nat → Nat) (v : Nat) : Prop := M.1 32 1 = nI h ∧ ∃ F, dk M 32 (fb_ct (fun i => s.testBit i) v) F ∧ dOK h (fb_ct (fun i => s.testBit i) v) F ∧ ∀ x, fb_ct (fun i => decide (F i = x)) (fb_ct (fun i => s.testBit i) v) = acn D v s x
theorem x0_choose {M : jm_M} {R : Nat → Nat} {H : Nat → Nat → Nat} {k s : Nat} (h : XI M R H k) (hs : s < 2 ^ 31) : ∃ M', jp_eq [32, 33] M M' ∧ chk M' (R 2) (R 3) s (sD R) (R 3) ∧ jp_E (fun f => X0_choose f 29 3 (nI s) M = some M') := by
  have d := h.1.d
  obtain ⟨d1, d2, d3, d4, d5⟩ := id d
  have key := jp_L.forV (body := fun f => X0_choose_B13 f 29 3 (nI s)) (J := fun v M1 => jp_eq [32, 33] M M1 ∧ chk M1 (R 2) (R 3) s (sD R) v) (fun v M1 => (nI v, M1)) (fun M1 => M1) 0 (R 3) ?_ ?_ (jm_put M 32 (upd (upd (M.1 32) 1 (nI (R 2))) 2 0)) (Nat.zero_le _) ⟨jp_eq.rfl'.put (by simp), by rw [jm_put_at]; rfl, fun _ => 0, ⟨by rw [jm_put_at]; rfl, fun i hi => absurd hi (Nat.not_lt_zero i)⟩, ⟨d1, d2, Nat.zero_le _, fun i j _ q => absurd q (Nat.not_lt_zero j), fun i q => absurd q (Nat.not_lt_zero i)⟩, fun x => rfl⟩
  · obtain ⟨M', ⟨g1, g2⟩, g3⟩ := key
    refine ⟨M', g1, g2, g3.use.imp (fun f e => ?_)⟩
    unfold X0_choose X3_start X3_h
    rw [Option.bind_some, show jm_rf 29 1 = 32 from rfl, jm_set_put, jm_set_put, jm_put_put, jm_put_at, h.h, show (0 : Int32) = nI 0 from rfl]
    rw [show (0 : Int32) = nI 0 from rfl] at e
    rw [e]; rfl
  · intro v M1 _ hv ⟨g1, g2, F, f1, f2, f3⟩
    have hd1 := h.d.keep (g1 3 (by decide)).1 (g1 4 (by decide)).1
    have hcl := fb_ct_le (fun i => s.testBit i) v
    by_cases c : s.testBit v = true
    · have ex : fb_ct (fun i => s.testBit i) (v + 1) = fb_ct (fun i => s.testBit i) v + 1 := by rw [fb_ct_succ, c]; rfl
      obtain ⟨M2, b1, b2, b3, b4⟩ := x3_put (g := 32) (by decide) f1 (by omega) f2.2.2.2.1 (fun i hi => f2.c28 hi) (d.c28 hv)
      refine ⟨M2, ⟨g1.trans (b1.sub (by decide)), by rw [b2 1 (by decide)]; exact g2, din F (dlo F (fb_ct (fun i => s.testBit i) v) (sD R v)) (sD R v), by rw [ex]; exact b3, ?_, fun x => ?_⟩, b4.imp (fun f e => ?_)⟩
      · rw [ex]
        exact ⟨d1, d2, by omega, din_so f2.2.2.2.1, din_all (P := fun y => y < 2 ^ qg_tri (R 2 - 1) ∧ cn (R 2 - 1) (qg_ad (R 2 - 1) y) = y) (dlo_le _ _ _) f2.2.2.2.2 (d5 v hv)⟩
      · rw [ex, din_ct (fun y => decide (y = x)) F _ (dlo_le _ _ _), f3 x]
        unfold acn
        rw [fb_ct_succ, c, Bool.true_and]
      · unfold X0_choose_B13 X3_size
        dsimp only
        rw [hd1.1, if_neg (nI_ge hv (by omega)), ni_bit hs (by omega), if_pos c, if_pos rfl, x3_at hd1 (by omega) hv, Option.bind_some, show jm_rf 29 1 = 32 from rfl, e, Option.bind_some, nI_1]
    · have ex : fb_ct (fun i => s.testBit i) (v + 1) = fb_ct (fun i => s.testBit i) v := by rw [fb_ct_succ, if_neg c, Nat.add_zero]
      refine ⟨M1, ⟨g1, g2, F, by rw [ex]; exact f1, by rw [ex]; exact f2, fun x => ?_⟩, jp_E.all (fun f => ?_)⟩
      · rw [ex, f3 x]
        unfold acn
        rw [fb_ct_succ, Bool.eq_false_iff.mpr c, Bool.false_and]; rfl
      · unfold X0_choose_B13 X3_size
        dsimp only
        rw [hd1.1, if_neg (nI_ge hv (by omega)), ni_bit hs (by omega), if_neg c, if_neg (show ¬ (0 : Int32) = 1 by decide), nI_1]
  · intro M1 ⟨g1, g2⟩
    refine jp_E.all (fun f => ?_)
    have hd1 := h.d.keep (g1 3 (by decide)).1 (g1 4 (by decide)).1
    unfold X0_choose_B13 X3_size
    dsimp only
    rw [hd1.1, if_pos (nI_le (Nat.le_refl _) (by omega))]
