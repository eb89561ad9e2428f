/-! decks: sorted rows of codes -/
def dso (D : Nat → Nat) (m : Nat) : Prop := ∀ i j, i ≤ j → j < m → D i ≤ D j
def dlo (D : Nat → Nat) (m x : Nat) : Nat := fb_ct (fun i => decide (D i < x)) m
def din (D : Nat → Nat) (p x i : Nat) : Nat := if i < p then D i else if i = p then x else D (i - 1)
theorem dlo_le (D : Nat → Nat) (m x : Nat) : dlo D m x ≤ m := fb_ct_le _ m
theorem dlo_iff {D : Nat → Nat} {m x i : Nat} (hs : dso D m) (hi : i < m) : D i < x ↔ i < dlo D m x := by
  constructor
  · intro h
    have h1 : fb_ct (fun i => decide (D i < x)) (i + 1) = i + 1 := fb_ct_all.mpr (fun k hk => decide_eq_true (Nat.lt_of_le_of_lt (hs k i (by omega) hi) h))
    have h2 := fb_ct_mono (fun i => decide (D i < x)) (show i + 1 ≤ m by omega)
    unfold dlo
    omega
  · intro h
    refine Classical.byContradiction (fun h1 => ?_)
    have h2 := fb_ct_split (fun i => decide (D i < x)) i (m - i)
    rw [show i + (m - i) = m by omega] at h2
    have h3 : fb_ct (fun k => decide (D (i + k) < x)) (m - i) = 0 := fb_ct_zero.mpr (fun k hk => decide_eq_false (by
      have := hs i (i + k) (by omega) (by omega)
      omega))
    have h4 := fb_ct_le (fun i => decide (D i < x)) i
    unfold dlo at h
    omega
theorem din_so {D : Nat → Nat} {m x : Nat} (hs : dso D m) : dso (din D (dlo D m x) x) (m + 1) := by
  intro i j hij hj
  have hp := dlo_le D m x
  have hlt : ∀ k, k < dlo D m x → D k < x := fun k hk => (dlo_iff hs (by omega)).mpr hk
  have hge : ∀ k, dlo D m x ≤ k → k < m → x ≤ D k := fun k hk hm => Nat.le_of_not_lt (fun h => by
    have := (dlo_iff hs hm).mp h
    omega)
  unfold din
  by_cases h1 : j < dlo D m x
  · rw [if_pos h1, if_pos (by omega)]
    exact hs i j hij (by omega)
  · rw [if_neg h1]
    by_cases h2 : j = dlo D m x
    · rw [if_pos h2]
      by_cases h3 : i < dlo D m x
      · rw [if_pos h3]; exact Nat.le_of_lt (hlt i h3)
      · rw [if_neg h3, if_pos (by omega)]; exact Nat.le_refl x
    · rw [if_neg h2]
      by_cases h3 : i < dlo D m x
      · rw [if_pos h3]; exact hs i (j - 1) (by omega) (by omega)
      · rw [if_neg h3]
        by_cases h4 : i = dlo D m x
        · rw [if_pos h4]; exact hge (j - 1) (by omega) (by omega)
        · rw [if_neg h4]; exact hs (i - 1) (j - 1) (by omega) (by omega)
