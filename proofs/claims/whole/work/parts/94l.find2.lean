/-! ANSWERS: find -/
theorem pow_h {h : Nat} (hh : h ≤ 6) : 2 ^ (h - 1) ≤ 32 := Nat.le_trans (Nat.pow_le_pow_right (by decide) (show h - 1 ≤ 5 by omega)) (by decide)
theorem ext_lt {h F l : Nat} (hh : 1 ≤ h) (hF : F < 2 ^ qg_tri (h - 1)) (hl : l < 2 ^ (h - 1)) : F * 2 ^ (h - 1) + l < 2 ^ qg_tri h := by
  have e : qg_tri h = qg_tri (h - 1) + (h - 1) := by
    conv => lhs; rw [show h = h - 1 + 1 by omega]
    rfl
  rw [e, Nat.pow_add]
  have : F * 2 ^ (h - 1) + 2 ^ (h - 1) ≤ 2 ^ qg_tri (h - 1) * 2 ^ (h - 1) := by
    rw [← Nat.succ_mul]
    exact Nat.mul_le_mul_right _ hF
  omega
theorem ni_ext {F l k : Nat} (hk : k < 32) (hl : l < 2 ^ k) : (nI F <<< (nI k &&& 31)) ||| nI l = nI (F * 2 ^ k + l) := by
  rw [ni_shl F hk, fa_or, Nat.shiftLeft_eq, Nat.mul_comm, Nat.two_pow_add_eq_or_of_lt hl]
theorem ni_p2 {k : Nat} (hk : k < 32) : (1 : Int32) <<< (nI k &&& 31) = nI (2 ^ k) := by
  rw [show (1 : Int32) = nI 1 from rfl, ni_shl 1 hk, Nat.shiftLeft_eq, Nat.one_mul]
def fdI : List Nat := [29, 30, 31, 34, 35, 36, 16, 17, 18, 19, 20, 21, 22]
def fdE : List Nat := [29, 30, 31, 32, 33, 34, 35, 36, 16, 17, 18, 19, 20, 21, 22]
theorem cont_gd {h m' : Nat} {A : Nat → Nat → Bool} {F a : Nat → Nat} (hF : ∀ x, fb_ct (fun i => decide (F i = x)) m' = a x) : (∀ i, i < m' → fb_ct (fun j => decide (F j = F i)) m' ≤ fb_ct (fun j => decide (srt (kc h A) h j = F i)) h) ↔ gd h A a := by
  have e : ∀ x, fb_ct (fun j => decide (srt (kc h A) h j = x)) h = fb_ct (fun v => decide (kc h A v = x)) h := fun x => srt_ct (fun y => decide (y = x)) (kc h A) h
  constructor
  · intro w x
    rw [← hF x]
    by_cases c : ∃ i, i < m' ∧ F i = x
    · obtain ⟨i, hi, rfl⟩ := c
      rw [← e]; exact w i hi
    · rw [fb_ct_zero.mpr (fun k hk => decide_eq_false (fun q => c ⟨k, hk, q⟩))]
      exact Nat.zero_le _
  · intro w i hi
    rw [e, hF]
    exact w (F i)
theorem x0_find {M : jm_M} {R : Nat → Nat} {H : Nat → Nat → Nat} {k s : Nat} (h : XI M R H k) (hs : s < 2 ^ 31) (hne : 0 < fb_ct (fun i => s.testBit i) (R 3)) : ∃ M' Z, jp_eq fdE M M' ∧ cxm M' ∧ zk M' (fb_ct (anP (R 2) (acn (sD R) (R 3) s)) (2 ^ qg_tri (R 2))) Z ∧ (∀ i, i < fb_ct (anP (R 2) (acn (sD R) (R 3) s)) (2 ^ qg_tri (R 2)) → Z i < 2 ^ qg_tri (R 2) ∧ anP (R 2) (acn (sD R) (R 3) s) (Z i) = true ∧ fb_ct (anP (R 2) (acn (sD R) (R 3) s)) (Z i) = i) ∧ fb_ct (anP (R 2) (acn (sD R) (R 3) s)) (2 ^ qg_tri (R 2)) ≤ 32 ∧ M'.1 32 1 = nI (R 2) ∧ jp_E (fun f => X0_find f 29 3 (nI s) 15 M = some (nI (fb_ct (anP (R 2) (acn (sD R) (R 3) s)) (2 ^ qg_tri (R 2))), M')) := by
  obtain ⟨d1, d2, d3, d4, d5⟩ := h.1.d
  have hW := pow_h d2
  have q0 : jp_eq [29] M (jm_put M 29 (upd (M.1 29) 4 0)) := jp_eq.rfl'.put (by simp)
  have h0 : XI (jm_put M 29 (upd (M.1 29) 4 0)) R H k := h.of q0 (by decide) (h.2.2.2.2.keep (q0 21 (by decide)).1 (q0 22 (by decide)).1)
  obtain ⟨M1, a1, ⟨a2, F, f1, f2, f3⟩, a3⟩ := x0_choose h0 hs
  have z1 : zk M1 0 (fun _ => 0) := ⟨by rw [(a1 29 (by decide)).1, jm_put_at, up_at]; rfl, fun i hi => absurd hi (Nat.not_lt_zero i)⟩
  generalize acn (sD R) (R 3) s = a at f3
  generalize fb_ct (fun i => s.testBit i) (R 3) = m' at hne f1 f2 f3
  have hc1 : cxm M1 := h0.2.2.2.2.keep (a1 21 (by decide)).1 (a1 22 (by decide)).1
  have hF0 := f2.2.2.2.2 0 hne
  have key := jp_L.forV (body := fun f => X0_find_B37 f 29 15 (nI (R 2 - 1))) (J := fun l M2 => jp_eq fdI M1 M2 ∧ cxm M2 ∧ ∃ z Z, zk M2 z Z ∧ z ≤ l ∧ dst Z z ∧ ∀ y, (∃ i, i < z ∧ Z i = y) ↔ ∃ l', l' < l ∧ gd (R 2) (qg_ad (R 2) (F 0 * 2 ^ (R 2 - 1) + l')) a ∧ cn (R 2) (qg_ad (R 2) (F 0 * 2 ^ (R 2 - 1) + l')) = y) (fun v M2 => (nI v, M2)) (fun M2 => M2) 0 (2 ^ (R 2 - 1)) ?_ ?_ M1 (Nat.zero_le _) ⟨jp_eq.rfl', hc1, 0, fun _ => 0, z1, Nat.le_refl 0, fun i j _ q => absurd q (Nat.not_lt_zero j), fun y => ⟨fun ⟨i, hi, _⟩ => absurd hi (Nat.not_lt_zero i), fun ⟨l, hl, _⟩ => absurd hl (Nat.not_lt_zero l)⟩⟩
  · obtain ⟨M', ⟨g1, g2, z, Z, g3, g4, g5, g6⟩, g7⟩ := key
    have hm : ∀ i, i < z → Z i < 2 ^ qg_tri (R 2) := fun i hi => by
      obtain ⟨l', _, _, e⟩ := (g6 (Z i)).mp ⟨i, hi, rfl⟩
      rw [← e]; exact cn_lt _ _
    have ha0 : 0 < a (F 0) := by
      rw [← f3 (F 0)]
      exact fb_ct_pos.mpr ⟨0, hne, decide_eq_true rfl⟩
    have hP : ∀ x, x < 2 ^ qg_tri (R 2) → (anP (R 2) a x = true ↔ ∃ i, i < z ∧ Z i = x) := fun x hx => by
      rw [g6 x]
      constructor
      · intro q
        obtain ⟨l, l1, l2, l3⟩ := an_ext (by omega) hF0.1 ha0 q
        exact ⟨l, l1, l2, l3⟩
      · rintro ⟨l, l1, l2, rfl⟩
        exact anP_cn (qg_ad_ok _ _) l2
    obtain ⟨e1, e2⟩ := enum g5 hm hP
    rw [e1]
    refine ⟨M', Z, (q0.sub (by decide)).trans ((a1.sub (by decide)).trans (g1.sub (by decide))), g2, g3, fun i hi => ⟨hm i hi, (hP (Z i) (hm i hi)).mpr ⟨i, hi, rfl⟩, e2 i hi⟩, by omega, by rw [(g1 32 (by decide)).1]; exact a2, jp_E.imp2 a3 g7.use (fun f r1 r2 => ?_)⟩
    unfold X0_find X3_size X3_h
    rw [jm_set_put, r1, Option.bind_some, show jm_rf 29 1 = 32 from rfl, f1.1, if_neg (nI_ne0 hne (by have := f2.2.2.1; omega)), a2, ni_sub1 (by omega), show ((0 : Int32), M1) = (nI 0, M1) from rfl, r2, Option.bind_some, g3.1]
  · intro l M2 _ hl ⟨g1, g2, z, Z, g3, g4, g5, g6⟩
    have hcl := ext_lt (by omega) hF0.1 hl
    have hcl31 := Nat.lt_trans (qt28 (by omega) hcl) (show 2 ^ 28 < 2 ^ 31 by decide)
    generalize hce : F 0 * 2 ^ (R 2 - 1) + l = c at hcl hcl31
    have e1 := xl_load (M := M2) (g := 30) (n := R 2) (c := c) (by omega) (by omega) hcl31 (by decide)
    have x3 := xl_gx (M := M2) (g := 30) (n := R 2) (c := c) (old := M2.1 (jm_rf 30 0)) (by decide)
    generalize hM3 : jm_put (jm_put M2 30 (upd (M2.1 30) 1 (nI (R 2)))) (jm_rf 30 0) (qg_ld (R 2) c 0 (M2.1 (jm_rf 30 0))) = M3 at e1 x3
    have m3 : jp_eq [30, 31] M2 M3 := by rw [← hM3]; exact (jp_eq.rfl'.put (by simp)).put (by decide)
    obtain ⟨M4, b1, b2, b3, b4, b5⟩ := x3_fill (qg_ad_ok _ _) (g := 34) (gg := 30) (by omega) (by omega) (by decide) x3 (g2.keep (m3 21 (by decide)).1 (m3 22 (by decide)).1)
    have k32 : dk M4 32 m' F := ((f1.keep (g1 32 (by decide)).1 (g1 33 (by decide)).1).keep (m3 32 (by decide)).1 (m3 33 (by decide)).1).keep (b1 32 (by decide)).1 (b1 33 (by decide)).1
    have h321 : M2.1 32 1 = nI (R 2) := by rw [(g1 32 (by decide)).1]; exact a2
    have h324 : M4.1 32 1 = nI (R 2) := by rw [(b1 32 (by decide)).1, (m3 32 (by decide)).1]; exact h321
    have c1 := x3_contains b4 (by omega) (srt_all (P := fun y => y < 2 ^ 28) (fun i _ => kc_lt (A := qg_ad (R 2) c) (v := i) (by omega))) k32 (by have := f2.2.2.1; omega) (fun i hi => f2.c28 hi)
    rw [pd_cong (cont_gd f3)] at c1
    have k2 : dk M2 32 m' F := f1.keep (g1 32 (by decide)).1 (g1 33 (by decide)).1
    have z4 : zk M4 z Z := by
      refine ⟨?_, fun i hi => ?_⟩
      · rw [(b1 29 (by decide)).1, (m3 29 (by decide)).1]; exact g3.1
      · rw [(b1 36 (by decide)).1, (m3 36 (by decide)).1]; exact g3.2 i hi
    have eE4 : jp_eq fdI M1 M4 := g1.trans ((m3.sub (by decide)).trans (b1.sub (by decide)))
    have hrun : ∀ f, X4_load f 30 (nI (R 2)) (nI c) M2 = some M3 → X3_fill f 34 30 15 M3 = some M4 → X3_contains f 34 32 M4 = some (if pd (gd (R 2) (qg_ad (R 2) c) a) then 1 else 0) → X0_find_B37 f 29 15 (nI (R 2 - 1)) (nI l, M2) = (if (if pd (gd (R 2) (qg_ad (R 2) c) a) then (1 : Int32) else 0) = (0 : Int32) then (some (.inl (nI (l + 1), M4))) else ((X1_of f 15 (nI (R 2)) (nI c) M4).bind (fun x6 => (X0_keep f 29 x6.1 x6.2).bind (fun M7 => some (.inl (nI (l + 1), M7)))))) := by
      intro f r1 r2 r3
      unfold X0_find_B37 X3_h
      dsimp only
      rw [ni_p2 (by omega), if_neg (nI_ge hl (by omega)), show jm_rf 29 1 = 32 from rfl, show jm_rf 29 0 = 30 from rfl, show jm_rf 29 2 = 34 from rfl, show (0 : Int32) = nI 0 from rfl, x3_at k2 (by have := f2.2.2.1; omega) hne, Option.bind_some, h321, ni_ext (by omega) hl, hce, r1, Option.bind_some, r2, Option.bind_some, r3, Option.bind_some, h324, nI_1]
      rfl
    by_cases q : pd (gd (R 2) (qg_ad (R 2) c) a) = true
    · obtain ⟨M5, t1, t2, t3⟩ := cx_of (M := M4) (n := R 2) (c := c) (by omega) (by omega) hcl b2
      have z5 : zk M5 z Z := ⟨by rw [(t2 29 (by decide)).1]; exact z4.1, fun i hi => by rw [(t2 36 (by decide)).1]; exact z4.2 i hi⟩
      have hZ28 : ∀ i, i < z → Z i < 2 ^ 28 := fun i hi => by
        obtain ⟨l', _, _, e⟩ := (g6 (Z i)).mp ⟨i, hi, rfl⟩
        rw [← e]; exact qt28 (by omega) (cn_lt _ _)
      obtain ⟨M6, z', Z', u1, u2, u3, u4, u5, u6⟩ := x0_keep z5 (by omega) g5 hZ28 (qt28 (show R 2 ≤ 8 by omega) (cn_lt (R 2) (qg_ad (R 2) c)))
      refine ⟨M6, ⟨(eE4.trans (t2.sub (by decide))).trans (u1.sub (by decide)), t1.keep (u1 21 (by decide)).1 (u1 22 (by decide)).1, z', Z', u2, by omega, u4, fun y => ?_⟩, jp_E.imp4 e1 (jp_E.imp2 b5 c1 (fun f r1 r2 => And.intro r1 r2)) t3 u6 (fun f r1 r2 r3 r4 => ?_)⟩
      · rw [u5 y, g6 y]
        constructor
        · rintro (⟨l', w1, w2, w3⟩ | w)
          · exact ⟨l', by omega, w2, w3⟩
          · exact ⟨l, by omega, by rw [hce]; exact pd_t.mp q, by rw [hce]; exact w.symm⟩
        · rintro ⟨l', w1, w2, w3⟩
          by_cases e : l' = l
          · rw [e, hce] at w3; exact Or.inr w3.symm
          · exact Or.inl ⟨l', by omega, w2, w3⟩
      · rw [hrun f r1 r2.1 r2.2, if_pos q, if_neg (show ¬ (1 : Int32) = 0 by decide), r3, Option.bind_some]
        dsimp only
        rw [r4]; rfl
    · refine ⟨M4, ⟨eE4, b2, z, Z, z4, by omega, g5, fun y => ?_⟩, jp_E.imp3 e1 b5 c1 (fun f r1 r2 r3 => ?_)⟩
      · rw [g6 y]
        constructor
        · rintro ⟨l', w1, w2, w3⟩
          exact ⟨l', by omega, w2, w3⟩
        · rintro ⟨l', w1, w2, w3⟩
          by_cases e : l' = l
          · rw [e, hce] at w2; exact absurd (pd_t.mpr w2) q
          · exact ⟨l', by omega, w2, w3⟩
      · rw [hrun f r1 r2 r3, if_neg q, if_pos rfl]
  · intro M2 _
    refine jp_E.all (fun f => ?_)
    unfold X0_find_B37
    dsimp only
    rw [ni_p2 (by omega), if_pos (nI_le (Nat.le_refl _) (by omega))]
