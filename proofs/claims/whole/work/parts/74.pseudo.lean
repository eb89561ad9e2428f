/-! cards, pseudo-similar vertices: both sides -/
noncomputable def kc (n : Nat) (A : Nat → Nat → Bool) (v : Nat) : Nat := cn (n - 1) (qg_ad (n - 1) (qg_wo A v n))
theorem qg_wo_lt {A : Nat → Nat → Bool} {n v : Nat} (hv : v < n) : qg_wo A v n < 2 ^ qg_tri (n - 1) := by
  rw [qg_wo_in hv]; exact qg_cd_lt _ _
theorem kc_lt {A : Nat → Nat → Bool} {n v : Nat} (hn : n ≤ 8) : kc n A v < 2 ^ 28 := qt28 (n := n - 1) (by omega) (cn_lt _ _)
def xkJ (M0 : jm_M) (n : Nat) (A : Nat → Nat → Bool) (M : jm_M) : Prop := jp_eq [16, 17, 18, 19, 20, 21, 22, 23, 24] M0 M ∧ gx M 1 n A ∧ cxm M
theorem gx.keep {M M' : jm_M} {g n : Nat} {A : Nat → Nat → Bool} (h : gx M g n A) (h1 : M'.1 g = M.1 g) (h2 : M'.1 (jm_rf g 0) = M.1 (jm_rf g 0)) : gx M' g n A := ⟨by rw [h1]; exact h.1, fun v hv => by rw [h2]; exact h.2 v hv⟩
theorem xkJ.c {M0 M M' : jm_M} {n : Nat} {A : Nat → Nat → Bool} (h : xkJ M0 n A M) (e : jp_eq [16, 17, 18, 19, 20, 21, 22] M M') (hc : cxm M') : xkJ M0 n A M' :=
  ⟨h.1.trans (e.sub (by simp)), h.2.1.keep (e 1 (by decide)).1 (e 2 (by decide)).1, hc⟩
theorem xkJ.s {M0 M M' : jm_M} {n : Nat} {A : Nat → Nat → Bool} (h : xkJ M0 n A M) (e : jp_eq [23, 24] M M') : xkJ M0 n A M' :=
  ⟨h.1.trans (e.sub (by simp)), h.2.1.keep (e 1 (by decide)).1 (e 2 (by decide)).1, h.2.2.keep (e 21 (by decide)).1 (e 22 (by decide)).1⟩
theorem xk_card {A : Nat → Nat → Bool} (hA : qg_ok A) {n v : Nat} (hn : n ≤ 8) (hn2 : 2 ≤ n) (hv : v < n) {M0 M : jm_M} (hJ : xkJ M0 n A M) : ∃ M', xkJ M0 n A M' ∧ jp_E (fun f => X8_cardCode f 0 (nI v) M = some (nI (kc n A v), M')) := by
  obtain ⟨M', h1, h2, h3⟩ := cx_of (M := M) (n := n - 1) (c := qg_wo A v n) (by omega) (by omega) (qg_wo_lt hv) hJ.2.2
  refine ⟨M', hJ.c h2 h1, jp_E.imp2 h3 (gx_wo hJ.2.1 hA hn (by omega) (ni_x (show v < 8 by omega))) (fun f e e2 => ?_)⟩
  unfold X8_cardCode X4_size
  rw [show jm_rf 0 0 = 1 from rfl, show jm_rf 0 3 = 15 from rfl, e2, Option.bind_some, hJ.2.1.1, ni_sub1 (by omega), e]
  rfl
noncomputable def ps (n : Nat) (A : Nat → Nat → Bool) (a w : Nat) : Bool := pd (w ≠ a ∧ kc n A w = kc n A a ∧ ¬ qs n A a w)
theorem mask_up {f : Nat → Bool} {n v : Nat} (h : f v = false) : qg_mask (fun w => decide (w < v + 1) && f w) n = qg_mask (fun w => decide (w < v) && f w) n := qg_mask_cong (fun u _ => by
  by_cases e : u = v
  · subst e; simp [h]
  · have : decide (u < v + 1) = decide (u < v) := by congr 1; exact propext ⟨fun _ => by omega, fun _ => by omega⟩
    rw [this])
theorem mask_up1 {f : Nat → Bool} {n v : Nat} (h : f v = true) : qg_mask (fun w => decide (w < v + 1) && f w) n = qg_mask (fun w => (decide (w < v) && f w) || decide (w = v)) n := qg_mask_cong (fun u _ => by
  by_cases e : u = v
  · subst e; simp [h]
  · have : decide (u < v + 1) = decide (u < v) := by congr 1; exact propext ⟨fun _ => by omega, fun _ => by omega⟩
    rw [this]; simp [e])
theorem mask_up0 (f : Nat → Bool) (n : Nat) : qg_mask (fun w => decide (w < 0) && f w) n = 0 := by
  apply Nat.eq_of_testBit_eq
  intro w
  rw [qg_mask_bit]; simp
theorem mask_upn (f : Nat → Bool) (n : Nat) : qg_mask (fun w => decide (w < n) && f w) n = qg_mask f n := qg_mask_cong (fun u hu => by simp [hu])
theorem xk_pseudo {A : Nat → Nat → Bool} (hA : qg_ok A) {n a : Nat} (hn : n ≤ 8) (hn2 : 2 ≤ n) (ha : a < n) {M0 M : jm_M} (hJ0 : xkJ M0 n A M) : ∃ M', xkJ M0 n A M' ∧ jp_E (fun f => X8_pseudoSimilarTo f 0 (nI a) M = some (nI (qg_mask (ps n A a) n), M')) := by
  obtain ⟨Ma, ha1, ha2⟩ := xk_card hA hn hn2 ha hJ0
  have key := jp_L.forM (body := fun f => X8_pseudoSimilarTo_B11 f 0 (nI a) (nI (kc n A a))) (J := xkJ M0 n A) (fun v M1 => (nI (qg_mask (fun w => decide (w < v) && ps n A a w) n), nI v, M1)) (fun M1 => (nI (qg_mask (ps n A a) n), M1)) 0 n ?_ ?_ Ma (Nat.zero_le n) ha1
  · obtain ⟨M', h1, h2⟩ := key
    refine ⟨M', h1, jp_E.imp2 h2.use ha2 (fun f e e2 => ?_)⟩
    rw [mask_up0] at e
    unfold X8_pseudoSimilarTo
    rw [e2, Option.bind_some]
    dsimp only
    rw [show ((0 : Int32), (0 : Int32), Ma) = (nI 0, nI 0, Ma) from rfl, e]; rfl
  · intro v M1 _ hv hJ
    by_cases e : v = a
    · subst e
      refine ⟨M1, hJ, jp_E.all (fun f => ?_)⟩
      unfold X8_pseudoSimilarTo_B11 X4_size
      dsimp only
      rw [show jm_rf 0 0 = 1 from rfl, hJ.2.1.1, if_neg (nI_ge hv (by omega)), if_pos rfl, nI_1, mask_up (pd_f.mpr (fun h => h.1 rfl))]
    · obtain ⟨M2, hJ2, c2⟩ := xk_card hA hn hn2 hv hJ
      have hne : ¬ nI v = nI a := fun q => e ((nI_eq (by omega) (by omega)).mp q)
      by_cases hk : kc n A v = kc n A a
      · obtain ⟨r, M3, e1, e2, e3⟩ := xs_find hA hn hv ha (Nat.zero_le v) hJ2.2.1
        refine ⟨M3, hJ2.s e1, jp_E.imp2 c2 e2 (fun f e4 e5 => ?_)⟩
        unfold X8_pseudoSimilarTo_B11 X4_size
        dsimp only
        rw [show jm_rf 0 0 = 1 from rfl, hJ.2.1.1, if_neg (nI_ge hv (by omega)), if_neg hne, e4, Option.bind_some]
        dsimp only
        rw [hk, if_pos rfl, show jm_rf 0 4 = 23 from rfl, show X7_find f 23 1 0 (nI v) (nI a) M2 = _ from e5, Option.bind_some]
        rcases e3 with ⟨rfl, q, h1, h2⟩ | ⟨rfl, h1⟩
        · have hs : ps n A a v = false := pd_f.mpr (fun h => h.2.2 (qs_symm hv ⟨q, h1.1.1, h1.1.2.1⟩))
          dsimp only
          rw [if_neg (show ¬ (1 : Int32) = 0 by decide), nI_1, mask_up hs]
        · have hs : ps n A a v = true := pd_t.mpr ⟨e, hk, fun h => by
            obtain ⟨q, h2, h3⟩ := qs_symm ha h
            exact h1 ⟨q, h2, h3, fun i hi => by omega⟩⟩
          dsimp only
          rw [if_pos rfl, ni_setb hv hn, nI_1, mask_up1 hs]
      · refine ⟨M2, hJ2, c2.imp (fun f e4 => ?_)⟩
        unfold X8_pseudoSimilarTo_B11 X4_size
        dsimp only
        rw [show jm_rf 0 0 = 1 from rfl, hJ.2.1.1, if_neg (nI_ge hv (by omega)), if_neg hne, e4, Option.bind_some]
        dsimp only
        have := kc_lt (A := A) (v := v) hn
        have := kc_lt (A := A) (v := a) hn
        rw [if_neg (fun q => hk ((nI_eq (by omega) (by omega)).mp q)), nI_1, mask_up (pd_f.mpr (fun h => hk h.2.1))]
  · intro M1 hJ
    refine jp_E.all (fun f => ?_)
    unfold X8_pseudoSimilarTo_B11 X4_size
    dsimp only
    rw [show jm_rf 0 0 = 1 from rfl, hJ.2.1.1, if_pos (nI_le (Nat.le_refl n) (by omega)), mask_upn]
noncomputable def s_pp (n : Nat) (A : Nat → Nat → Bool) : Int32 := if n = 1 then 0 else nI (fb_sm (fun v => fb_ct (ps n A v) n) n) / 2
theorem ni_is1 {n : Nat} (hn : n ≤ 8) : (nI n = (1 : Int32)) ↔ n = 1 := nI_eq (b := 1) (by omega) (by decide)
theorem xk_pairs {A : Nat → Nat → Bool} (hA : qg_ok A) {n : Nat} (hn : n ≤ 8) (hn1 : 1 ≤ n) {M0 M : jm_M} (hJ0 : xkJ M0 n A M) : ∃ M', xkJ M0 n A M' ∧ jp_E (fun f => X8_pseudoSimilarPairs f 0 M = some (s_pp n A, M')) := by
  by_cases h1 : n = 1
  · subst h1
    refine ⟨M, hJ0, jp_E.all (fun f => ?_)⟩
    unfold X8_pseudoSimilarPairs X4_size s_pp
    rw [show jm_rf 0 0 = 1 from rfl, hJ0.2.1.1, if_pos (ni_is1 hn |>.mpr rfl), if_pos rfl]
  · have key := jp_L.forM (body := fun f => X8_pseudoSimilarPairs_B17 f 0) (J := xkJ M0 n A) (fun v M1 => (nI (fb_sm (fun v => fb_ct (ps n A v) n) v), nI v, M1)) (fun M1 => (nI (fb_sm (fun v => fb_ct (ps n A v) n) n), M1)) 0 n ?_ ?_ M (Nat.zero_le n) hJ0
    · obtain ⟨M', h2, h3⟩ := key
      refine ⟨M', h2, h3.use.imp (fun f e => ?_)⟩
      unfold X8_pseudoSimilarPairs X4_size s_pp
      rw [show jm_rf 0 0 = 1 from rfl, hJ0.2.1.1, if_neg (fun q => h1 ((ni_is1 hn).mp q)), show ((0 : Int32), (0 : Int32), M) = (nI (fb_sm (fun v => fb_ct (ps n A v) n) 0), nI 0, M) from rfl, e, if_neg h1]; rfl
    · intro v M1 _ hv hJ
      obtain ⟨M2, h2, h3⟩ := xk_pseudo hA hn (by omega) hv hJ
      refine ⟨M2, h2, h3.imp (fun f e => ?_)⟩
      unfold X8_pseudoSimilarPairs_B17 X4_size
      dsimp only
      rw [show jm_rf 0 0 = 1 from rfl, hJ.2.1.1, if_neg (nI_ge hv (by omega)), e, Option.bind_some, ni_bcm _ (by omega), nI_1, nI_add]; rfl
    · intro M1 hJ
      refine jp_E.all (fun f => ?_)
      unfold X8_pseudoSimilarPairs_B17 X4_size
      dsimp only
      rw [show jm_rf 0 0 = 1 from rfl, hJ.2.1.1, if_pos (nI_le (Nat.le_refl n) (by omega))]
