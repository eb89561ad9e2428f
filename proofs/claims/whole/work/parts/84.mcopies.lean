/-! copies of a pattern: the reference -/
theorem m_sumV {M : jm_M} {n : Nat} {A : Nat → Nat → Bool} (h : mnr M n A 8) (hA : qg_ok A) (hn : n ≤ 8) {p : Nat} (hp : p = 1 ∨ p = 3 ∨ p = 6) {T : Nat → Int32} (hT : ∀ v, T v = if p = 1 then i2 (qdg A n v) else if p = 3 then (i2 (qdg A n v) * (qdg A n v - 2)) / 3 else qin A (A v) n * (qdg A n v - 2)) : jp_L (fun f => X9_copiesIn_B89 f 39 (nI n) (nI p) 1 M) (0, 0) (iS T n) := by
  refine jp_L.for (body := fun f => X9_copiesIn_B89 f 39 (nI n) (nI p) 1 M) (r := iS T n) (fun v => (iS T v, nI v)) n ?_ ?_ 0 (Nat.zero_le n)
  · intro v hv
    have hin : jp_L (fun f => X9_copiesIn_B120 f 39 (nI n) (nI p) 1 (nI v) M) (iS T v + T v, 0) (iS T v + T v) := jp_L.done (jp_E.all (fun f => by
      unfold X9_copiesIn_B120
      dsimp only
      rw [if_neg (show ¬ (1 : Int32) = 0 by decide)]
      split <;> rfl))
    refine jp_E.imp2 (m_ofV h hA hn hv hp) hin.use (fun f e e2 => ?_)
    rw [← hT v] at e
    unfold X9_copiesIn_B89
    dsimp only
    rw [if_neg (nI_ge hv (by omega)), if_neg (show ¬ (1 : Int32) = 0 by decide), e, Option.bind_some, e2, Option.bind_some, nI_1]; rfl
  · refine jp_E.all (fun f => ?_)
    unfold X9_copiesIn_B89
    dsimp only
    rw [if_pos (nI_le (Nat.le_refl n) (by omega))]
theorem m_sumP {M : jm_M} {n : Nat} {A : Nat → Nat → Bool} (h : mnr M n A 8) (hn : n ≤ 8) {p : Nat} (hp : p = 4 ∨ p = 5 ∨ p = 7 ∨ p = 8) : jp_L (fun f => X9_copiesIn_B89 f 39 (nI n) (nI p) 0 M) (0, 0) (iD (qpt A n p) n) := by
  refine dbl (n := n) (F := qpt A n p) (Bi := fun f v => X9_copiesIn_B120 f 39 (nI n) (nI p) 0 v M) (Bo := fun f => X9_copiesIn_B89 f 39 (nI n) (nI p) 0 M) ?_ ?_ ?_ ?_ 0 (Nat.zero_le n)
  · intro u v hu hv acc
    refine (m_ofP h hn (show u < n by omega) hv hp).imp (fun f e => ?_)
    unfold X9_copiesIn_B120
    dsimp only
    rw [if_neg (nI_ge hu (by omega)), if_pos rfl, e, Option.bind_some, nI_1]
  · intro v hv acc f
    unfold X9_copiesIn_B120
    dsimp only
    rw [if_pos (nI_le (Nat.le_refl v) (by omega))]
  · intro v hv acc f r e
    unfold X9_copiesIn_B89
    dsimp only
    rw [if_neg (nI_ge hv (by omega)), if_pos rfl, Int32.add_zero, show jm_loop (X9_copiesIn_B120 f 39 (nI n) (nI p) 0 (nI v) M) f (acc, 0) = _ from e, Option.bind_some, nI_1]
  · intro acc f
    unfold X9_copiesIn_B89
    dsimp only
    rw [if_pos (nI_le (Nat.le_refl n) (by omega))]
theorem m_copiesIn {n c p : Nat} (hn : n ≤ 8) (hc : c < 2 ^ qg_tri n) (hp : p < 9) (M : jm_M) : ∃ M', jp_eq [42] M M' ∧ jp_E (fun f => X9_copiesIn f 39 (nI n) (nI c) (nI p) M = some (s_cp (qg_ad n c) n p, M')) := by
  have hA := qg_ad_ok n c
  obtain ⟨M', g1, g2, g3⟩ := m_nearAll (V3 := nI p) hn (Nat.lt_trans (qt28 hn hc) (by decide)) M
  refine ⟨M', g1, ?_⟩
  have ht := m_tri g2 hn
  rw [tri_id hA hn] at ht
  unfold s_cp
  by_cases h0 : p = 0
  · subst h0
    refine jp_E.imp2 g3 (m_edges hn hc) (fun f e e2 => ?_)
    unfold X9_copiesIn
    rw [e, Option.bind_some, if_pos (show nI 0 = (0 : Int32) from rfl), e2]; rfl
  by_cases h2 : p = 2
  · subst h2
    refine jp_E.imp2 g3 ht (fun f e e2 => ?_)
    unfold X9_copiesIn
    rw [e, Option.bind_some, if_neg (show ¬ nI 2 = (0 : Int32) by decide), if_pos (show nI 2 = (2 : Int32) from rfl), e2]; rfl
  by_cases h1 : p = 1
  · subst h1
    refine jp_E.imp2 g3 (m_sumV g2 hA hn (p := 1) (Or.inl rfl) (T := fun v => i2 (qdg (qg_ad n c) n v)) (fun v => rfl)).use (fun f e e2 => ?_)
    unfold X9_copiesIn
    rw [e, Option.bind_some, if_neg (show ¬ nI 1 = (0 : Int32) by decide), if_neg (show ¬ nI 1 = (2 : Int32) by decide), if_pos (show nI 1 = (1 : Int32) from rfl), e2]; rfl
  by_cases h3 : p = 3
  · subst h3
    refine jp_E.imp2 g3 (m_sumV g2 hA hn (p := 3) (Or.inr (Or.inl rfl)) (T := fun v => (i2 (qdg (qg_ad n c) n v) * (qdg (qg_ad n c) n v - 2)) / 3) (fun v => rfl)).use (fun f e e2 => ?_)
    unfold X9_copiesIn
    rw [e, Option.bind_some, if_neg (show ¬ nI 3 = (0 : Int32) by decide), if_neg (show ¬ nI 3 = (2 : Int32) by decide), if_neg (show ¬ nI 3 = (1 : Int32) by decide), if_pos (show nI 3 = (3 : Int32) from rfl), e2]; rfl
  by_cases h6 : p = 6
  · subst h6
    refine jp_E.imp2 g3 (m_sumV g2 hA hn (p := 6) (Or.inr (Or.inr rfl)) (T := fun v => qin (qg_ad n c) (qg_ad n c v) n * (qdg (qg_ad n c) n v - 2)) (fun v => rfl)).use (fun f e e2 => ?_)
    unfold X9_copiesIn
    rw [e, Option.bind_some, if_neg (show ¬ nI 6 = (0 : Int32) by decide), if_neg (show ¬ nI 6 = (2 : Int32) by decide), if_neg (show ¬ nI 6 = (1 : Int32) by decide), if_neg (show ¬ nI 6 = (3 : Int32) by decide), if_pos (show nI 6 = (6 : Int32) from rfl), e2]; rfl
  have hp4 : p = 4 ∨ p = 5 ∨ p = 7 ∨ p = 8 := by omega
  refine jp_E.imp3 g3 ht (m_sumP g2 hn hp4).use (fun f e e2 e3 => ?_)
  unfold X9_copiesIn
  have hne : ∀ q, q < 9 → p ≠ q → ¬ nI p = nI q := fun q hq e e2 => e ((nI_eq (by omega) (by omega)).mp e2)
  rw [e, Option.bind_some, if_neg (show ¬ nI p = (0 : Int32) from hne 0 (by omega) h0), if_neg (show ¬ nI p = (2 : Int32) from hne 2 (by omega) h2), if_neg (show ¬ nI p = (1 : Int32) from hne 1 (by omega) h1), if_neg (show ¬ nI p = (3 : Int32) from hne 3 (by omega) h3), if_neg (show ¬ nI p = (6 : Int32) from hne 6 (by omega) h6), e3, Option.bind_some, e2, Option.bind_some]
  have hz : ∀ x : Int32, (0 : Int32) * x = 0 := fun x => Int32.zero_mul
  rcases hp4 with rfl | rfl | rfl | rfl
  · rw [if_pos (show nI 4 = (4 : Int32) from rfl)]
    have : iD (qpt (qg_ad n c) n 4) n = iD (fun u v => (qlk (qg_ad n c) u v * (qdg (qg_ad n c) n u - 1)) * (qdg (qg_ad n c) n v - 1)) n := iD_cong (fun u v _ _ => by
      unfold qpt qlk
      rw [if_neg (by decide), if_pos rfl]
      by_cases ha : qg_ad n c u v = true
      · rw [if_pos ha, if_pos ha, Int32.one_mul]
      · rw [if_neg ha, if_neg ha, hz, hz])
    rw [this]; rfl
  · have : iD (qpt (qg_ad n c) n 5) n = iD (fun u v => i2 (qcm (qg_ad n c) n u v)) n := iD_cong (fun u v _ _ => by
      unfold qpt
      rw [if_pos rfl])
    rw [this]; rfl
  · have : iD (qpt (qg_ad n c) n 7) n = iD (fun u v => qlk (qg_ad n c) u v * i2 (qcm (qg_ad n c) n u v)) n := iD_cong (fun u v _ _ => by
      unfold qpt qlk
      rw [if_neg (by decide), if_neg (show ¬ 7 = 4 by decide), if_pos rfl]
      by_cases ha : qg_ad n c u v = true
      · rw [if_pos ha, if_pos ha, Int32.one_mul]
      · rw [if_neg ha, if_neg ha, hz])
    rw [this]; rfl
  · have : iD (qpt (qg_ad n c) n 8) n = iD (fun u v => qlk (qg_ad n c) u v * qin (qg_ad n c) (fun x => qg_ad n c u x && qg_ad n c v x) n) n := iD_cong (fun u v _ _ => by
      unfold qpt qlk
      rw [if_neg (by decide), if_neg (show ¬ 8 = 4 by decide), if_neg (show ¬ 8 = 7 by decide)]
      by_cases ha : qg_ad n c u v = true
      · rw [if_pos ha, if_pos ha, Int32.one_mul]
      · rw [if_neg ha, if_neg ha, hz])
    rw [this]; rfl
