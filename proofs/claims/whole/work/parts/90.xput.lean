/-! the class's deck: a card goes in -/
def dk (M : jm_M) (g m : Nat) (D : Nat → Nat) : Prop := M.1 g 2 = nI m ∧ ∀ i, i < m → M.1 (jm_rf g 0) i = nI (D i)
theorem dk_find {M : jm_M} {g m x : Nat} {D : Nat → Nat} (h : dk M g m D) (hm : m ≤ 8) (hs : dso D m) (hD : ∀ i, i < m → D i < 2 ^ 28) (hx : x < 2 ^ 28) : jp_K (X3_put_B2 g (nI x) M) 0 (nI (dlo D m x)) := by
  have hp := dlo_le D m x
  refine jp_K.for (body := X3_put_B2 g (nI x) M) (r := nI (dlo D m x)) (fun v => nI v) (dlo D m x) ?_ ?_ 0 (Nat.zero_le _)
  · intro v hv
    unfold X3_put_B2
    have h1 := (dlo_iff hs (show v < m by omega)).mpr hv
    have h2 := hD v (by omega)
    rw [h.1, if_neg (nI_ge (by omega) (by omega)), jp_ga (by omega) (by decide), Option.bind_some, h.2 v (by omega), if_neg (nI_ge h1 (by omega)), nI_1]
  · unfold X3_put_B2
    rw [h.1]
    by_cases e : m ≤ dlo D m x
    · rw [if_pos (nI_le e (by omega))]
    · have h1 : x ≤ D (dlo D m x) := Nat.le_of_not_lt (fun q => by
        have := (dlo_iff hs (show dlo D m x < m by omega)).mp q
        omega)
      have h2 := hD (dlo D m x) (by omega)
      rw [if_neg (nI_ge (by omega) (by omega)), jp_ga (by omega) (by decide), Option.bind_some, h.2 _ (by omega), if_pos (nI_le h1 (by omega))]
theorem dk_shift {M : jm_M} {g m p : Nat} {V : Int32} (hm : m < 8) (hp : p ≤ m) : jp_K (X3_put_B40 g V (nI p)) (nI m, M) (jm_put M (jm_rf g 0) (fun i => if p < i ∧ i ≤ m then M.1 (jm_rf g 0) (i - 1) else M.1 (jm_rf g 0) i)) := by
  have key := jp_K.for (body := X3_put_B40 g V (nI p)) (r := jm_put M (jm_rf g 0) (fun i => if p < i ∧ i ≤ m then M.1 (jm_rf g 0) (i - 1) else M.1 (jm_rf g 0) i)) (fun j => (nI (m - j), jm_put M (jm_rf g 0) (fun i => if m - j < i ∧ i ≤ m then M.1 (jm_rf g 0) (i - 1) else M.1 (jm_rf g 0) i))) (m - p) ?_ ?_ 0 (Nat.zero_le _)
  · have e : jm_put M (jm_rf g 0) (fun i => if m - 0 < i ∧ i ≤ m then M.1 (jm_rf g 0) (i - 1) else M.1 (jm_rf g 0) i) = M := by
      have : (fun i => if m - 0 < i ∧ i ≤ m then M.1 (jm_rf g 0) (i - 1) else M.1 (jm_rf g 0) i) = M.1 (jm_rf g 0) := by
        funext i
        rw [if_neg (by omega)]
      rw [this, jm_put_self]
    rw [e] at key
    exact key
  · intro j hj
    unfold X3_put_B40
    dsimp only
    rw [if_neg (nI_ge (by omega) (by omega)), ni_sub1 (by omega), jp_ga (by omega) (by decide), Option.bind_some, jp_sa (by omega) (by decide), Option.bind_some, nI_m1 (by omega), jm_put_put, jm_put_at, show m - j - 1 = m - (j + 1) by omega]
    congr 4
    funext i
    unfold upd
    by_cases e : i = m - j
    · rw [if_pos e, if_neg (by omega), if_pos (by omega), show m - (j + 1) = i - 1 by omega]
    · rw [if_neg e]
      dsimp only
      by_cases h1 : m - j < i ∧ i ≤ m
      · rw [if_pos h1, if_pos (by omega)]
      · rw [if_neg h1, if_neg (by omega)]
  · unfold X3_put_B40
    dsimp only
    rw [if_pos (nI_le (by omega) (by omega)), show m - (m - p) = p by omega]
