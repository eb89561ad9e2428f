/-! the class's deck: put whole; sorted decks srt; fill -/
theorem x3_put {M : jm_M} {g m x : Nat} {D : Nat → Nat} (hg : jm_rf g 0 ≠ g) (h : dk M g m D) (hm : m < 8) (hs : dso D m) (hD : ∀ i, i < m → D i < 2 ^ 28) (hx : x < 2 ^ 28) : ∃ M', jp_eq [g, jm_rf g 0] M M' ∧ (∀ i, i ≠ 2 → M'.1 g i = M.1 g i) ∧ dk M' g (m + 1) (din D (dlo D m x) x) ∧ jp_E (fun f => X3_put f g (nI x) M = some (nI (dlo D m x), M')) := by
  have hp := dlo_le D m x
  have e1 := dk_find h (by omega) hs hD hx
  have e2 := dk_shift (M := M) (g := g) (V := nI x) hm hp
  refine ⟨jm_put (jm_put M (jm_rf g 0) (upd (fun i => if dlo D m x < i ∧ i ≤ m then M.1 (jm_rf g 0) (i - 1) else M.1 (jm_rf g 0) i) (dlo D m x) (nI x))) g (upd (M.1 g) 2 (nI (m + 1))), (jp_eq.rfl'.put (by simp)).put (by simp), fun i hi => ?_, ⟨?_, fun i hi => ?_⟩, jp_E.imp2 e1 e2 (fun f a b => ?_)⟩
  · rw [jm_put_at]; unfold upd; rw [if_neg hi]
  · rw [jm_put_at]; unfold upd; rw [if_pos rfl]
  · rw [jm_put_ne _ _ hg, jm_put_at]
    unfold upd din
    by_cases c1 : i = dlo D m x
    · rw [if_pos c1, if_neg (by omega), if_pos c1]
    · rw [if_neg c1]
      dsimp only
      by_cases c2 : i < dlo D m x
      · rw [if_neg (by omega), if_pos c2, h.2 i (by omega)]
      · rw [if_pos (by omega), if_neg c2, if_neg c1, h.2 (i - 1) (by omega)]
  · unfold X3_put
    rw [a, Option.bind_some, h.1, show (8 : Int32) = nI 8 from rfl, if_neg (nI_ge hm (by decide)), b, Option.bind_some, jp_sa (by omega) (by decide), Option.bind_some, jm_put_put, jm_put_at, jm_set_put, jm_put_ne _ _ (Ne.symm hg), h.1, nI_1]
def srt (f : Nat → Nat) : Nat → Nat → Nat
  | 0 => fun _ => 0
  | k + 1 => din (srt f k) (dlo (srt f k) k (f k)) (f k)
theorem srt_so (f : Nat → Nat) : ∀ k, dso (srt f k) k
  | 0 => fun i j _ h => absurd h (Nat.not_lt_zero j)
  | k + 1 => din_so (srt_so f k)
theorem din_all {P : Nat → Prop} {D : Nat → Nat} {p x m : Nat} (hp : p ≤ m) (hD : ∀ i, i < m → P (D i)) (hx : P x) : ∀ i, i < m + 1 → P (din D p x i) := by
  intro i hi
  unfold din
  by_cases c1 : i < p
  · rw [if_pos c1]; exact hD i (by omega)
  · rw [if_neg c1]
    by_cases c2 : i = p
    · rw [if_pos c2]; exact hx
    · rw [if_neg c2]; exact hD (i - 1) (by omega)
theorem srt_all {P : Nat → Prop} {f : Nat → Nat} : ∀ {k : Nat}, (∀ i, i < k → P (f i)) → ∀ i, i < k → P (srt f k i)
  | 0, _ => fun i h => absurd h (Nat.not_lt_zero i)
  | k + 1, hf => din_all (dlo_le _ _ _) (srt_all (k := k) (fun i hi => hf i (by omega))) (hf k (by omega))
theorem din_ct (q : Nat → Bool) (D : Nat → Nat) {p m : Nat} (x : Nat) (hp : p ≤ m) : fb_ct (fun i => q (din D p x i)) (m + 1) = fb_ct (fun i => q (D i)) m + (if q x then 1 else 0) := by
  have h1 := fb_ct_split (fun i => q (din D p x i)) p (1 + (m - p))
  rw [show p + (1 + (m - p)) = m + 1 by omega] at h1
  have h2 := fb_ct_split (fun k => q (din D p x (p + k))) 1 (m - p)
  have h3 := fb_ct_split (fun i => q (D i)) p (m - p)
  rw [show p + (m - p) = m by omega] at h3
  have a1 : fb_ct (fun i => q (din D p x i)) p = fb_ct (fun i => q (D i)) p := fb_ct_cong (fun k hk => by unfold din; rw [if_pos hk])
  have a2 : fb_ct (fun k => q (din D p x (p + k))) 1 = if q x then 1 else 0 := by
    have e : din D p x (p + 0) = x := by unfold din; rw [if_neg (by omega), if_pos (by omega)]
    rw [fb_ct_succ, e]
    exact Nat.zero_add _
  have a3 : fb_ct (fun k => q (din D p x (p + (1 + k)))) (m - p) = fb_ct (fun k => q (D (p + k))) (m - p) := fb_ct_cong (fun k hk => by unfold din; rw [if_neg (by omega), if_neg (by omega), show p + (1 + k) - 1 = p + k by omega])
  rw [h1, h2, a1, a2, a3, h3]; omega
theorem srt_ct (q : Nat → Bool) (f : Nat → Nat) : ∀ k, fb_ct (fun i => q (srt f k i)) k = fb_ct (fun i => q (f i)) k
  | 0 => rfl
  | k + 1 => by
    show fb_ct (fun i => q (din (srt f k) (dlo (srt f k) k (f k)) (f k) i)) (k + 1) = _
    rw [din_ct q _ _ (dlo_le _ _ _), srt_ct q f k, fb_ct_succ]
theorem dlo_mono {D : Nat → Nat} {m x y : Nat} (h : x ≤ y) : dlo D m x ≤ dlo D m y := fb_ct_sub (fun k _ e => decide_eq_true (Nat.lt_of_lt_of_le (of_decide_eq_true e) h))
theorem dlo_mid {D : Nat → Nat} {m x i : Nat} (hs : dso D m) (hi : i < m) : D i = x ↔ dlo D m x ≤ i ∧ i < dlo D m (x + 1) := by
  have h1 := dlo_iff (x := x) hs hi
  have h2 := dlo_iff (x := x + 1) hs hi
  omega
theorem dlo_cnt (D : Nat → Nat) (m x : Nat) : dlo D m (x + 1) = dlo D m x + fb_ct (fun i => decide (D i = x)) m := by
  unfold dlo
  rw [← fb_ct_or (fun k _ h => by
    have a := of_decide_eq_true h.1
    have b := of_decide_eq_true h.2
    omega)]
  refine fb_ct_cong (fun k _ => ?_)
  rw [Bool.eq_iff_iff, Bool.or_eq_true, decide_eq_true_eq, decide_eq_true_eq, decide_eq_true_eq]
  omega
/-- the place above equal cards gives the same row -/
theorem din_up {D : Nat → Nat} {m x : Nat} (hs : dso D m) : ∀ i, i < m + 1 → din D (dlo D m (x + 1)) x i = din D (dlo D m x) x i := by
  intro i hi
  have h1 : dlo D m x ≤ dlo D m (x + 1) := dlo_mono (by omega)
  have h2 := dlo_le D m (x + 1)
  have hmid : ∀ j, dlo D m x ≤ j → j < dlo D m (x + 1) → D j = x := fun j a b => (dlo_mid hs (by omega)).mpr ⟨a, b⟩
  unfold din
  by_cases c1 : i < dlo D m x
  · rw [if_pos c1, if_pos (by omega)]
  · rw [if_neg c1]
    by_cases c2 : i < dlo D m (x + 1)
    · rw [if_pos c2, hmid i (by omega) c2]
      by_cases c3 : i = dlo D m x
      · rw [if_pos c3]
      · rw [if_neg c3, hmid (i - 1) (by omega) (by omega)]
    · rw [if_neg c2]
      by_cases c3 : i = dlo D m (x + 1)
      · rw [if_pos c3]
        by_cases c4 : i = dlo D m x
        · rw [if_pos c4]
        · rw [if_neg c4, hmid (i - 1) (by omega) (by omega)]
      · rw [if_neg c3, if_neg (by omega)]
/-- a card that is not below any goes to the end -/
theorem din_end {D : Nat → Nat} {m x : Nat} (hs : dso D m) (hx : ∀ i, i < m → D i ≤ x) : ∀ i, i < m + 1 → din D (dlo D m x) x i = if i < m then D i else x := by
  intro i hi
  rw [← din_up hs i hi]
  have e : dlo D m (x + 1) = m := by
    unfold dlo
    exact fb_ct_all.mpr (fun k hk => decide_eq_true (by have := hx k hk; omega))
  rw [e]
  unfold din
  by_cases c : i < m
  · rw [if_pos c, if_pos c]
  · rw [if_neg c, if_neg c, if_pos (by omega)]
theorem din_cong {D E : Nat → Nat} {m p x : Nat} (hp : p ≤ m) (h : ∀ i, i < m → D i = E i) : ∀ i, i < m + 1 → din D p x i = din E p x i := by
  intro i hi
  unfold din
  by_cases c1 : i < p
  · rw [if_pos c1, if_pos c1, h i (by omega)]
  · rw [if_neg c1, if_neg c1]
    by_cases c2 : i = p
    · rw [if_pos c2, if_pos c2]
    · rw [if_neg c2, if_neg c2, h (i - 1) (by omega)]
theorem dlo_cong {D E : Nat → Nat} {m x : Nat} (h : ∀ i, i < m → D i = E i) : dlo D m x = dlo E m x := fb_ct_cong (fun k hk => by rw [h k hk])
theorem srt_cong {f g : Nat → Nat} : ∀ {k : Nat}, (∀ i, i < k → f i = g i) → srt f k = srt g k
  | 0, _ => rfl
  | k + 1, h => by
    show din (srt f k) _ (f k) = din (srt g k) _ (g k)
    rw [srt_cong (k := k) (fun i hi => h i (by omega)), h k (by omega)]
/-! fill -/
def flE (g : Nat) : List Nat := [g, jm_rf g 0, 16, 17, 18, 19, 20, 21, 22]
def flK (g gg : Nat) : Bool := decide (jm_rf g 0 ≠ g) && !((flE g).contains gg) && !((flE g).contains (jm_rf gg 0)) && decide (g ≠ 21) && decide (g ≠ 22) && decide (jm_rf g 0 ≠ 21) && decide (jm_rf g 0 ≠ 22) && !([16, 17, 18, 19, 20, 21, 22].contains g) && !([16, 17, 18, 19, 20, 21, 22].contains (jm_rf g 0))
theorem dk.keep {M M' : jm_M} {g m : Nat} {D : Nat → Nat} (h : dk M g m D) (h1 : M'.1 g = M.1 g) (h2 : M'.1 (jm_rf g 0) = M.1 (jm_rf g 0)) : dk M' g m D := ⟨by rw [h1]; exact h.1, fun v hv => by rw [h2]; exact h.2 v hv⟩
theorem x3_fill {A : Nat → Nat → Bool} (hA : qg_ok A) {n g gg : Nat} (hn : n ≤ 8) (hn2 : 2 ≤ n) (hk : flK g gg = true) {M : jm_M} (hG : gx M gg n A) (hc : cxm M) : ∃ M', jp_eq (flE g) M M' ∧ cxm M' ∧ M'.1 g 1 = nI n ∧ dk M' g n (srt (kc n A) n) ∧ jp_E (fun f => X3_fill f g gg 15 M = some M') := by
  unfold flK at hk
  simp only [Bool.and_eq_true, decide_eq_true_eq, Bool.not_eq_true', List.contains_eq_mem, decide_eq_false_iff_not] at hk
  obtain ⟨⟨⟨⟨⟨⟨⟨⟨k1, k2⟩, k3⟩, k4⟩, k5⟩, k6⟩, k7⟩, k8⟩, k9⟩ := hk
  have hM0 : jp_eq (flE g) M (jm_put M g (upd (upd (M.1 g) 1 (nI n)) 2 0)) := jp_eq.rfl'.put (by simp [flE])
  have hkeep : ∀ M1, jp_eq (flE g) M M1 → gx M1 gg n A := fun M1 e => hG.keep (e gg k2).1 (e _ k3).1
  have key := jp_L.forV (body := fun f => X3_fill_B10 f g gg 15) (J := fun k M1 => jp_eq (flE g) M M1 ∧ cxm M1 ∧ M1.1 g 1 = nI n ∧ dk M1 g k (srt (kc n A) k)) (fun v M1 => (nI v, M1)) (fun M1 => M1) 0 n ?_ ?_ (jm_put M g (upd (upd (M.1 g) 1 (nI n)) 2 0)) (Nat.zero_le n) ⟨hM0, hc.keep (jm_put_ne _ _ (Ne.symm k4)) (jm_put_ne _ _ (Ne.symm k5)), by rw [jm_put_at]; rfl, ⟨by rw [jm_put_at]; rfl, fun i hi => absurd hi (Nat.not_lt_zero i)⟩⟩
  · obtain ⟨M', ⟨g1, g2, g3, g4⟩, g5⟩ := key
    refine ⟨M', g1, g2, g3, g4, g5.use.imp (fun f e => ?_)⟩
    unfold X3_fill X3_start X4_size
    rw [hG.1, Option.bind_some, jm_set_put, jm_set_put, jm_put_put, jm_put_at, show (0 : Int32) = nI 0 from rfl]
    rw [show ((0 : Int32)) = nI 0 from rfl] at e
    rw [e]; rfl
  · intro v M1 _ hv ⟨g1, g2, g3, g4⟩
    have hG1 := hkeep M1 g1
    obtain ⟨M2, a1, a2, a3⟩ := cx_of (M := M1) (n := n - 1) (c := qg_wo A v n) (by omega) (by omega) (qg_wo_lt hv) g2
    have g4' : dk M2 g v (srt (kc n A) v) := g4.keep (a2 g k8).1 (a2 _ k9).1
    obtain ⟨M3, b1, b2, b3, b4⟩ := x3_put k1 g4' (by omega) (srt_so _ v) (srt_all (P := fun y => y < 2 ^ 28) (fun i _ => kc_lt (A := A) (v := i) hn)) (kc_lt (A := A) (v := v) hn)
    refine ⟨M3, ⟨(g1.trans (a2.sub (by simp [flE]))).trans (b1.sub (by simp [flE])), a1.keep (b1 21 (by simp [Ne.symm k4, Ne.symm k6])).1 (b1 22 (by simp [Ne.symm k5, Ne.symm k7])).1, by rw [b2 1 (by decide), (a2 g k8).1, g3], b3⟩, jp_E.imp3 (gx_wo hG1 hA hn (by omega) (ni_x (show v < 8 by omega))) a3 b4 (fun f e1 e2 e3 => ?_)⟩
    unfold X3_fill_B10 X4_size
    dsimp only
    rw [hG1.1, if_neg (nI_ge hv (by omega)), e1, Option.bind_some, ni_sub1 (by omega), e2, Option.bind_some]
    dsimp only
    rw [show cn (n - 1) (qg_ad (n - 1) (qg_wo A v n)) = kc n A v from rfl, e3, Option.bind_some, nI_1]
  · intro M1 ⟨g1, g2, g3, g4⟩
    refine jp_E.all (fun f => ?_)
    unfold X3_fill_B10 X4_size
    dsimp only
    rw [(hkeep M1 g1).1, if_pos (nI_le (Nat.le_refl n) (by omega))]
