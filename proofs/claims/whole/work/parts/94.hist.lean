/-! HISTORY: restore of the class; remember and undo of the reference -/
theorem dk.cong {M : jm_M} {g m : Nat} {D E : Nat → Nat} (h : dk M g m D) (e : ∀ i, i < m → D i = E i) : dk M g m E := ⟨h.1, fun i hi => by rw [h.2 i hi, e i hi]⟩
theorem x5_restore {M : jm_M} {R : Nat → Nat} {H : Nat → Nat → Nat} {k : Nat} (h : XI M R H k) (hk : 0 < k) : ∃ M', jp_eq [1, 2, 3, 4, 5] M M' ∧ XI M' (H 0) (pop H) (k - 1) ∧ jp_E (fun f => X5_restore f 5 1 3 M = some M') := by
  obtain ⟨o, oh, ⟨a1, a2, a3⟩, ⟨b1, b2, t, b3, b4, b5⟩, hc⟩ := id h
  have hS := oh 0 hk
  obtain ⟨o1, o2, o3, o4, o5, o6, o7, o8⟩ := id hS
  have hrow : ∀ j, j < 4 + H 0 3 → M.1 (7 + (t + 7) % 8) j = nI (H 0 j) := fun j hj => b5 0 hk j hj
  have hq : 7 ≤ 7 + (t + 7) % 8 ∧ 7 + (t + 7) % 8 < 15 := by omega
  have ht1 : (t + 7) % 8 < 8 := by omega
  generalize hqe : 7 + (t + 7) % 8 = q at hq hrow
  have e0 : jm_set (jm_set M 5 1 ((M.1 5 1) - (1 : Int32))) 5 2 ((((jm_set M 5 1 ((M.1 5 1) - (1 : Int32))).1 5 2) - (1 : Int32)) &&& (7 : Int32)) = jm_put M 5 (upd (upd (M.1 5) 1 (nI (k - 1))) 2 (nI ((t + 7) % 8))) := by
    rw [jm_set_put, jm_set_put, jm_put_put, jm_put_at, up_ne _ _ (by decide), b4, h_and7d t b3, b2, ni_sub1 hk]
  generalize hM1 : jm_put M 5 (upd (upd (M.1 5) 1 (nI (k - 1))) 2 (nI ((t + 7) % 8))) = M1 at e0
  have m1 : jp_eq [1, 2, 3, 4, 5] M M1 := by rw [← hM1]; exact jp_eq.rfl'.put (by simp)
  have m1r : M1.1 q = M.1 q := (m1 q (by simp; omega)).1
  have m15 : M1.1 5 = upd (upd (M.1 5) 1 (nI (k - 1))) 2 (nI ((t + 7) % 8)) := by rw [← hM1, jm_put_at]
  have e1 := xl_load (M := M1) (g := 1) o2 o1 hS.c31 (by decide)
  have g4 := xl_gx (M := M1) (g := 1) (n := H 0 0) (c := H 0 1) (old := M1.1 (jm_rf 1 0)) (by decide)
  generalize hM4 : jm_put (jm_put M1 1 (upd (M1.1 1) 1 (nI (H 0 0)))) (jm_rf 1 0) (qg_ld (H 0 0) (H 0 1) 0 (M1.1 (jm_rf 1 0))) = M4 at e1 g4
  have m4 : jp_eq [1, 2] M1 M4 := by rw [← hM4]; exact (jp_eq.rfl'.put (by simp)).put (by decide)
  have m4r : M4.1 q = M.1 q := (m4 q (by simp; omega)).1.trans m1r
  have hJ0 : jp_eq [1, 2, 3, 4, 5] M (jm_put M4 3 (upd (upd (M4.1 3) 1 (nI (H 0 2))) 2 0)) := (m1.trans (m4.sub (by simp))).put (by simp)
  have key := jp_L.forV (body := fun f => X5_restore_B61 f 3 q) (J := fun v M7 => jp_eq [1, 2, 3, 4, 5] M M7 ∧ M7.1 5 = M1.1 5 ∧ gx M7 1 (H 0 0) (qg_ad (H 0 0) (H 0 1)) ∧ M7.1 3 1 = nI (H 0 2) ∧ dk M7 3 v (sD (H 0))) (fun v M7 => (nI v, M7)) (fun M7 => M7) 0 (H 0 3) ?_ ?_ (jm_put M4 3 (upd (upd (M4.1 3) 1 (nI (H 0 2))) 2 0)) (Nat.zero_le _) ⟨hJ0, (jm_put_ne _ _ (by decide)).trans (m4 5 (by simp)).1, g4.keep (jm_put_ne _ _ (by decide)) (jm_put_ne _ _ (by decide)), by rw [jm_put_at]; rfl, ⟨by rw [jm_put_at]; rfl, fun i hi => absurd hi (Nat.not_lt_zero i)⟩⟩
  · obtain ⟨M', ⟨c1, c2, c3, c4, c5⟩, c6⟩ := key
    refine ⟨M', c1, ⟨hS, fun i hi => oh (i + 1) (by omega), ⟨c3, c4, c5⟩, ⟨by omega, by rw [c2, m15]; rfl, (t + 7) % 8, ht1, by rw [c2, m15]; rfl, fun i hi j hj => ?_⟩, hc.keep (c1 21 (by simp)).1 (c1 22 (by simp)).1⟩, jp_E.imp2 e1 c6.use (fun f r1 r2 => ?_)⟩
    · rw [(c1 (7 + ((t + 7) % 8 + 7 - i) % 8) (by simp; omega)).1, show 7 + ((t + 7) % 8 + 7 - i) % 8 = 7 + (t + 7 - (i + 1)) % 8 by omega]
      exact b5 (i + 1) (by omega) j hj
    · unfold X5_restore
      rw [e0, b2, if_neg (nI_ne0 hk (by omega)), show jm_rf 5 0 = 6 from rfl, show M1.1 5 2 = nI ((t + 7) % 8) from (by rw [m15]; rfl), jp_gq ht1 (by decide), h_rf6 _ ht1, hqe, Option.bind_some, m1r, m_w0, Option.bind_some, m_w1, Option.bind_some, hrow 0 (by omega), hrow 1 (by omega), r1, Option.bind_some, m4r, w_g2, Option.bind_some, hrow 2 (by omega)]
      unfold X3_start
      rw [Option.bind_some, jm_set_put, jm_set_put, jm_put_put, jm_put_at, show (0 : Int32) = nI 0 from rfl]
      rw [show (0 : Int32) = nI 0 from rfl] at r2
      rw [r2]; rfl
  · intro v M7 _ hv ⟨c1, c2, c3, c4, c5⟩
    have r7 : M7.1 q = M.1 q := (c1 q (by simp; omega)).1
    obtain ⟨M8, d1, d2, d3, d4⟩ := x3_put (g := 3) (x := sD (H 0) v) (by decide) c5 (by omega) (fun i j h1 h2 => o7 i j h1 (by omega)) (fun i hi => hS.c28 (by omega)) (hS.c28 hv)
    refine ⟨M8, ⟨c1.trans (d1.sub (by decide)), (d1 5 (by decide)).1.trans c2, c3.keep (d1 1 (by decide)).1 (d1 2 (by decide)).1, by rw [d2 1 (by decide)]; exact c4, d3.cong (fun i hi => ?_)⟩, d4.imp (fun f e => ?_)⟩
    · rw [din_end (fun i j h1 h2 => o7 i j h1 (by omega)) (fun i hi => o7 i v (by omega) hv) i hi]
      by_cases c : i < v
      · rw [if_pos c]
      · rw [if_neg c, show i = v by omega]
    · unfold X5_restore_B61
      dsimp only
      rw [r7, w_g3, Option.bind_some, hrow 3 (by omega), if_neg (nI_ge hv (by omega)), show (6 : Int32) = nI 6 from rfl, if_neg (nI_ge (by omega) (by decide)), jp_gaN (n := 10) (x := (4 : Int32) + nI v) (4 + v) (by omega) (by decide) (nI_add 4 v), Option.bind_some, hrow (4 + v) (by omega), show nI (H 0 (4 + v)) = nI (sD (H 0) v) from rfl, e, Option.bind_some, nI_1]
  · intro M7 ⟨c1, c2, c3, c4, c5⟩
    refine jp_E.all (fun f => ?_)
    have r7 : M7.1 q = M.1 q := (c1 q (by simp; omega)).1
    unfold X5_restore_B61
    dsimp only
    rw [r7, w_g3, Option.bind_some, hrow 3 (by omega), if_pos (nI_le (Nat.le_refl _) (by omega))]
/-! the reference -/
theorem m_shift (M : jm_M) : jp_K (X9_remember_B11 39) (0, M) (jm_put M 41 (fun j => if j < 70 then M.1 41 (j + 10) else M.1 41 j)) := by
  have key := jp_K.for (body := X9_remember_B11 39) (r := jm_put M 41 (fun j => if j < 70 then M.1 41 (j + 10) else M.1 41 j)) (fun v => (nI v, jm_put M 41 (fun j => if j < v then M.1 41 (j + 10) else M.1 41 j))) 70 ?_ ?_ 0 (Nat.zero_le 70)
  · have e : (fun j => if j < 0 then M.1 41 (j + 10) else M.1 41 j) = M.1 41 := by
      funext j
      rw [if_neg (Nat.not_lt_zero j)]
    rw [e, jm_put_self] at key
    exact key
  · intro v hv
    have e : (fun j => if j < v + 1 then M.1 41 (j + 10) else M.1 41 j) = upd (fun j => if j < v then M.1 41 (j + 10) else M.1 41 j) v (M.1 41 (v + 10)) := by
      funext j
      unfold upd
      by_cases c : j = v
      · subst c; rw [if_pos (by omega), if_pos rfl]
      · rw [if_neg c]
        by_cases c2 : j < v
        · rw [if_pos (by omega)]; exact (if_pos c2).symm
        · rw [if_neg (by omega)]; exact (if_neg c2).symm
    unfold X9_remember_B11
    dsimp only
    rw [show (70 : Int32) = nI 70 from rfl, if_neg (nI_ge hv (by decide)), show jm_rf 39 1 = 41 from rfl, jp_gaN (n := 80) (x := nI v + (10 : Int32)) (v + 10) (by omega) (by decide) (nI_add v 10), Option.bind_some, jp_sa (by omega) (by decide), Option.bind_some, jm_put_put, jm_put_at, if_neg (show ¬ v + 10 < v by omega), nI_1, e]
  · unfold X9_remember_B11
    dsimp only
    rw [if_pos (by decide)]
theorem m_copy {M : jm_M} {b : Nat} (hb : b ≤ 7) (h : M.1 39 2 = nI b) : jp_K (X9_remember_B50 39) (0, M) (jm_put M 41 (fun j => if 10 * b ≤ j ∧ j < 10 * b + 10 then M.1 40 (j - 10 * b) else M.1 41 j)) := by
  have key := jp_K.for (body := X9_remember_B50 39) (r := jm_put M 41 (fun j => if 10 * b ≤ j ∧ j < 10 * b + 10 then M.1 40 (j - 10 * b) else M.1 41 j)) (fun v => (nI v, jm_put M 41 (fun j => if 10 * b ≤ j ∧ j < 10 * b + v then M.1 40 (j - 10 * b) else M.1 41 j))) 10 ?_ ?_ 0 (Nat.zero_le 10)
  · have e : (fun j => if 10 * b ≤ j ∧ j < 10 * b + 0 then M.1 40 (j - 10 * b) else M.1 41 j) = M.1 41 := by
      funext j
      rw [if_neg (by omega)]
    rw [e, jm_put_self] at key
    exact key
  · intro v hv
    have e : (fun j => if 10 * b ≤ j ∧ j < 10 * b + (v + 1) then M.1 40 (j - 10 * b) else M.1 41 j) = upd (fun j => if 10 * b ≤ j ∧ j < 10 * b + v then M.1 40 (j - 10 * b) else M.1 41 j) (10 * b + v) (M.1 40 v) := by
      funext j
      unfold upd
      by_cases c : j = 10 * b + v
      · rw [if_pos (by omega), if_pos c, show j - 10 * b = v by omega]
      · rw [if_neg c]
        by_cases c2 : 10 * b ≤ j ∧ j < 10 * b + v
        · rw [if_pos (by omega)]; exact (if_pos c2).symm
        · rw [if_neg (by omega)]; exact (if_neg c2).symm
    unfold X9_remember_B50
    dsimp only
    rw [show (10 : Int32) = nI 10 from rfl, if_neg (nI_ge hv (by decide)), show jm_rf 39 1 = 41 from rfl, show jm_rf 39 0 = 40 from rfl, jp_ga hv (by decide), Option.bind_some, jm_put_ne _ _ (by decide), jm_put_ne _ _ (by decide), h, nI_mul, nI_add, jp_sa (by omega) (by decide), Option.bind_some, jm_put_put, jm_put_at, nI_1, e]
  · unfold X9_remember_B50
    dsimp only
    rw [if_pos (by decide)]
theorem m_remember {M : jm_M} {R : Nat → Nat} {H : Nat → Nat → Nat} {k : Nat} (h : MI M R H k) : ∃ M', jp_eq [39, 41] M M' ∧ (∀ i, i ≠ 2 → M'.1 39 i = M.1 39 i) ∧ MI M' R (push R H) (min (k + 1) 8) ∧ jp_E (fun f => X9_remember f 39 M = some M') := by
  obtain ⟨o, oh, a, ⟨b1, b2, b3⟩, hT⟩ := id h
  obtain ⟨o1, o2, o3, o4, o5, o6, _⟩ := id o
  have hfin : ∀ (M1 : jm_M) (kk : Nat), kk ≤ 7 → kk + 1 = min (k + 1) 8 → jp_eq [39, 41] M M1 → (∀ i, i ≠ 2 → M1.1 39 i = M.1 39 i) → M1.1 39 2 = nI kk → (∀ i, i < kk → ∀ j, j < 4 + H i 3 → M1.1 41 (10 * (kk - 1 - i) + j) = nI (H i j)) → ∃ M', jp_eq [39, 41] M M' ∧ (∀ i, i ≠ 2 → M'.1 39 i = M.1 39 i) ∧ MI M' R (push R H) (min (k + 1) 8) ∧ jp_E (fun f => (jm_loop (X9_remember_B50 39) f ((0 : Int32), M1)).bind (fun q3 => some (jm_set q3 39 2 ((q3.1 39 2) + (1 : Int32)))) = some M') := by
    intro M1 kk hkk hk1 e1 e2 e3 e4
    have c := m_copy hkk e3
    generalize hF : (fun j => if 10 * kk ≤ j ∧ j < 10 * kk + 10 then M1.1 40 (j - 10 * kk) else M1.1 41 j) = F at c
    refine ⟨jm_put (jm_put M1 41 F) 39 (upd (M1.1 39) 2 (nI (kk + 1))), (e1.put (by simp)).put (by simp), fun i hi => by rw [jm_put_at, up_ne _ _ hi]; exact e2 i hi, ⟨o, push_ok o oh, fun j hj => ?_, ⟨by omega, ?_, fun i hi j hj => ?_⟩, ?_⟩, jp_E.imp c (fun f r => ?_)⟩
    · rw [jm_put_ne _ _ (by decide), jm_put_ne _ _ (by decide), (e1 40 (by decide)).1]; exact a j hj
    · rw [jm_put_at, up_at, hk1]
    · rw [jm_put_ne _ _ (by decide), jm_put_at, ← hk1, ← hF]
      unfold push at hj ⊢
      dsimp only
      by_cases c0 : i = 0
      · rw [if_pos c0] at hj ⊢
        rw [if_pos (by omega), show 10 * (kk + 1 - 1 - i) + j - 10 * kk = j by omega, (e1 40 (by decide)).1]
        exact a j hj
      · rw [if_neg c0] at hj ⊢
        have := (oh (i - 1) (by omega)).2.2.2.2.1
        have := (oh (i - 1) (by omega)).2.2.2.2.2.1
        rw [if_neg (by omega), show 10 * (kk + 1 - 1 - i) + j = 10 * (kk - 1 - (i - 1)) + j by omega]
        exact e4 (i - 1) (by omega) j hj
    · obtain ⟨L, t1, t2⟩ := hT
      have k39 : ∀ i, i ≠ 2 → (jm_put (jm_put M1 41 F) 39 (upd (M1.1 39) 2 (nI (kk + 1)))).1 39 i = M.1 39 i := fun i hi => by rw [jm_put_at, up_ne _ _ hi]; exact e2 i hi
      refine ⟨L, by rw [k39 14 (by decide)]; exact t1, ?_⟩
      rcases t2 with t2 | ⟨t2, t3, t4⟩
      · exact Or.inl t2
      · refine Or.inr ⟨t2, t3, t4.keep (k39 13 (by decide)) ?_ ?_⟩
        · rw [jm_put_ne _ _ (by decide), jm_put_ne _ _ (by decide), (e1 49 (by decide)).1]
        · rw [jm_put_ne _ _ (by decide), jm_put_ne _ _ (by decide), (e1 50 (by decide)).1]
    · rw [r, Option.bind_some, jm_set_put, jm_put_ne _ _ (show 39 ≠ 41 by decide), e3, nI_1]
  by_cases c8 : k = 8
  · subst c8
    have hsh := m_shift M
    generalize hF : (fun j => if j < 70 then M.1 41 (j + 10) else M.1 41 j) = F at hsh
    obtain ⟨M', g1, g2, g3, g4⟩ := hfin (jm_put (jm_put M 41 F) 39 (upd (M.1 39) 2 (nI 7))) 7 (by omega) (by omega) ((jp_eq.rfl'.put (by simp)).put (by simp)) (fun i hi => by rw [jm_put_at, up_ne _ _ hi]) (by rw [jm_put_at, up_at]) (fun i hi j hj => by
      have := (oh i (by omega)).2.2.2.2.1
      have := (oh i (by omega)).2.2.2.2.2.1
      rw [jm_put_ne _ _ (by decide), jm_put_at, ← hF]
      dsimp only
      rw [if_pos (by omega), show 10 * (7 - 1 - i) + j + 10 = 10 * (8 - 1 - i) + j by omega]
      exact b3 i (by omega) j hj)
    refine ⟨M', g1, g2, g3, jp_E.imp2 hsh g4 (fun f r1 r2 => ?_)⟩
    unfold X9_remember
    rw [b2, if_pos (show nI 8 = (8 : Int32) from rfl), r1, Option.bind_some, jm_set_put, jm_put_ne _ _ (show 39 ≠ 41 by decide), b2, ni_sub1 (by decide)]
    exact r2
  · obtain ⟨M', g1, g2, g3, g4⟩ := hfin M k (by omega) (by omega) jp_eq.rfl' (fun _ _ => rfl) b2 b3
    refine ⟨M', g1, g2, g3, g4.imp (fun f r => ?_)⟩
    unfold X9_remember
    rw [b2, if_neg (show ¬ nI k = (8 : Int32) from fun q => c8 ((nI_eq (b := 8) (by omega) (by decide)).mp q))]
    exact r
theorem m_undo {M : jm_M} {R : Nat → Nat} {H : Nat → Nat → Nat} {k : Nat} (h : MI M R H k) (hk : 0 < k) : ∃ M', jp_eq [39, 40] M M' ∧ MI M' (H 0) (pop H) (k - 1) ∧ jp_E (fun f => X9_undo f 39 M = some (nI (k - 1), M')) := by
  obtain ⟨o, oh, a, ⟨b1, b2, b3⟩, hT⟩ := id h
  have hS := oh 0 hk
  obtain ⟨o1, o2, o3, o4, o5, o6, _⟩ := id hS
  generalize hM1 : jm_put M 39 (upd (M.1 39) 2 (nI (k - 1))) = M1
  have m1 : jp_eq [39] M M1 := by rw [← hM1]; exact jp_eq.rfl'.put (by simp)
  have m12 : M1.1 39 = upd (M.1 39) 2 (nI (k - 1)) := by rw [← hM1, jm_put_at]
  have key := jp_K.for (body := X9_undo_B22 39) (r := jm_put M1 40 (fun j => if j < 10 then M.1 41 (10 * (k - 1) + j) else M1.1 40 j)) (fun v => (nI v, jm_put M1 40 (fun j => if j < v then M.1 41 (10 * (k - 1) + j) else M1.1 40 j))) 10 ?_ ?_ 0 (Nat.zero_le 10)
  · have e : (fun j => if j < 0 then M.1 41 (10 * (k - 1) + j) else M1.1 40 j) = M1.1 40 := by
      funext j
      rw [if_neg (Nat.not_lt_zero j)]
    rw [e, jm_put_self] at key
    generalize hF : (fun j => if j < 10 then M.1 41 (10 * (k - 1) + j) else M1.1 40 j) = F at key
    refine ⟨jm_put M1 40 F, (m1.sub (by simp)).put (by simp), ⟨hS, fun i hi => oh (i + 1) (by omega), fun j hj => ?_, ⟨by omega, ?_, fun i hi j hj => ?_⟩, ?_⟩, jp_E.imp key (fun f r => ?_)⟩
    · rw [jm_put_at, ← hF]
      dsimp only
      rw [if_pos (by omega), show 10 * (k - 1) + j = 10 * (k - 1 - 0) + j by omega]
      exact b3 0 hk j hj
    · rw [jm_put_ne _ _ (by decide), m12, up_at]
    · rw [jm_put_ne _ _ (by decide), (m1 41 (by decide)).1, show 10 * (k - 1 - 1 - i) + j = 10 * (k - 1 - (i + 1)) + j by omega]
      exact b3 (i + 1) (by omega) j hj
    · obtain ⟨L, t1, t2⟩ := hT
      have k39 : ∀ i, i ≠ 2 → (jm_put M1 40 F).1 39 i = M.1 39 i := fun i hi => by rw [jm_put_ne _ _ (by decide), m12, up_ne _ _ hi]
      refine ⟨L, by rw [k39 14 (by decide)]; exact t1, ?_⟩
      rcases t2 with t2 | ⟨t2, t3, t4⟩
      · exact Or.inl t2
      · exact Or.inr ⟨t2, t3, t4.keep (k39 13 (by decide)) (by rw [jm_put_ne _ _ (by decide), (m1 49 (by decide)).1]) (by rw [jm_put_ne _ _ (by decide), (m1 50 (by decide)).1])⟩
    · unfold X9_undo
      rw [b2, if_neg (nI_ne0 hk (by omega)), jm_set_put, ni_sub1 hk, hM1, show ((0 : Int32), M1) = (nI 0, M1) from rfl, r, Option.bind_some, jm_put_ne _ _ (by decide), m12, up_at]
  · intro v hv
    have e : (fun j => if j < v + 1 then M.1 41 (10 * (k - 1) + j) else M1.1 40 j) = upd (fun j => if j < v then M.1 41 (10 * (k - 1) + j) else M1.1 40 j) v (M.1 41 (10 * (k - 1) + v)) := by
      funext j
      unfold upd
      by_cases c : j = v
      · subst c; rw [if_pos (by omega), if_pos rfl]
      · rw [if_neg c]
        by_cases c2 : j < v
        · rw [if_pos (by omega)]; exact (if_pos c2).symm
        · rw [if_neg (by omega)]; exact (if_neg c2).symm
    unfold X9_undo_B22
    dsimp only
    rw [show (10 : Int32) = nI 10 from rfl, if_neg (nI_ge hv (by decide)), show jm_rf 39 1 = 41 from rfl, show jm_rf 39 0 = 40 from rfl, jm_put_ne _ _ (show 39 ≠ 40 by decide), jm_put_ne _ _ (show 41 ≠ 40 by decide), m12, up_at, (m1 41 (by decide)).1, nI_mul, nI_add, jp_ga (by omega) (by decide), Option.bind_some, jp_sa hv (by decide), Option.bind_some, jm_put_put, jm_put_at, nI_1, e]
  · unfold X9_undo_B22
    dsimp only
    rw [if_pos (by decide)]
