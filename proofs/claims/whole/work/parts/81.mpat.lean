/-! patterns: the reference's side -/
def mnr (M : jm_M) (n : Nat) (A : Nat → Nat → Bool) (k : Nat) : Prop := ∀ v, v < k → M.1 42 v = nI (if v < n then qg_mask (A v) n else 0)
theorem m_nearAll {n c : Nat} {V3 : Int32} (hn : n ≤ 8) (hc : c < 2 ^ 31) (M : jm_M) : ∃ M', jp_eq [42] M M' ∧ mnr M' n (qg_ad n c) 8 ∧ jp_E (fun f => jm_loop (X9_copiesIn_B3 f 39 (nI n) (nI c) V3) f (0, M) = some M') := by
  have key := jp_L.forV (body := fun f => X9_copiesIn_B3 f 39 (nI n) (nI c) V3) (J := fun k M1 => jp_eq [42] M M1 ∧ mnr M1 n (qg_ad n c) k) (fun v M1 => (nI v, M1)) (fun M1 => M1) 0 8 ?_ ?_ M (Nat.zero_le 8) ⟨jp_eq.rfl', fun v hv => by omega⟩
  · obtain ⟨M', ⟨g1, g2⟩, g3⟩ := key
    exact ⟨M', g1, g2, g3.use⟩
  · intro v M1 _ hv ⟨g1, g2⟩
    refine ⟨jm_put M1 42 (upd (M1.1 42) v (nI (if v < n then qg_mask (qg_ad n c v) n else 0))), ⟨g1.put (by simp), fun u hu => ?_⟩, ?_⟩
    · rw [jm_put_at]
      unfold upd
      by_cases e : u = v
      · rw [if_pos e, e]
      · rw [if_neg e, g2 u (by omega)]
    · by_cases h : v < n
      · refine (m_neigh hn hc h).imp (fun f e => ?_)
        unfold X9_copiesIn_B3
        dsimp only
        rw [show (8 : Int32) = nI 8 from rfl, if_neg (nI_ge hv (by omega)), if_neg (nI_ge h (by omega)), e, Option.bind_some, show jm_rf 39 3 = 42 from rfl, jp_sa hv (by decide), Option.bind_some, nI_1, if_pos h]
      · refine jp_E.all (fun f => ?_)
        unfold X9_copiesIn_B3
        dsimp only
        rw [show (8 : Int32) = nI 8 from rfl, if_neg (nI_ge hv (by omega)), if_pos (nI_le (by omega) (by omega)), show jm_rf 39 3 = 42 from rfl, jp_sa hv (by decide), Option.bind_some, nI_1, if_neg h]; rfl
  · intro M1 _
    refine jp_E.all (fun f => ?_)
    unfold X9_copiesIn_B3
    dsimp only
    rw [show (8 : Int32) = nI 8 from rfl, if_pos (nI_le (Nat.le_refl 8) (by omega))]
theorem mnr.at {M : jm_M} {n v : Nat} {A : Nat → Nat → Bool} (h : mnr M n A 8) (hn : n ≤ 8) (hv : v < n) : jm_ga (M.1 42) 8 (nI v) = some (nI (qg_mask (A v) n)) := by
  rw [jp_ga (by omega) (by decide), h v (by omega), if_pos hv]
theorem m_common {M : jm_M} {n u v : Nat} {A : Nat → Nat → Bool} (h : mnr M n A 8) (hn : n ≤ 8) (hu : u < n) (hv : v < n) : jp_E (fun f => X9_common f 39 (nI u) (nI v) M = some (qcm A n u v)) := by
  refine (m_bitsM (fun x => A u x && A v x) hn).imp (fun f e => ?_)
  unfold X9_common
  rw [show jm_rf 39 3 = 42 from rfl, h.at hn hu, Option.bind_some, h.at hn hv, Option.bind_some, fa_and, qg_mask_and, e]; rfl
theorem m_tri {M : jm_M} {n : Nat} {A : Nat → Nat → Bool} (h : mnr M n A 8) (hn : n ≤ 8) : jp_E (fun f => X9_triangles f 39 (nI n) M = some (iD (fun u v => if A v u then qcm A n v u else 0) n / 3)) := by
  have key := dbl (n := n) (F := fun u v => if A v u then qcm A n v u else 0) (Bi := fun f v => X9_triangles_B12 f 39 (nI n) v M) (Bo := fun f => X9_triangles_B4 f 39 (nI n) M) ?_ ?_ ?_ ?_ 0 (Nat.zero_le n)
  · refine key.use.imp (fun f e => ?_)
    unfold X9_triangles
    rw [show ((0 : Int32), (0 : Int32)) = (iD (fun u v => if A v u then qcm A n v u else 0) 0, nI 0) from rfl, e]; rfl
  · intro u v hu hv acc
    refine (m_common h hn hv (show u < n by omega)).imp (fun f e => ?_)
    unfold X9_triangles_B12
    dsimp only
    rw [if_neg (nI_ge hu (by omega)), show jm_rf 39 3 = 42 from rfl, h.at hn hv, Option.bind_some, ni_bit (qg_mask_31 _ hn) (by omega), qg_mask_bit, decide_eq_true (show u < n by omega), Bool.true_and]
    by_cases ha : A v u = true
    · rw [if_pos (if_pos ha), e, Option.bind_some, nI_1, if_pos ha]
    · rw [if_neg (by rw [if_neg ha]; decide), nI_1, if_neg ha]
  · intro v hv acc f
    unfold X9_triangles_B12
    dsimp only
    rw [if_pos (nI_le (Nat.le_refl v) (by omega))]
  · intro v hv acc f r e
    unfold X9_triangles_B4
    dsimp only
    rw [if_neg (nI_ge hv (by omega)), show jm_loop (X9_triangles_B12 f 39 (nI n) (nI v) M) f (acc, 0) = _ from e, Option.bind_some, nI_1]
  · intro acc f
    unfold X9_triangles_B4
    dsimp only
    rw [if_pos (nI_le (Nat.le_refl n) (by omega))]
theorem m_inside {M : jm_M} {n : Nat} {A : Nat → Nat → Bool} (h : mnr M n A 8) (hn : n ≤ 8) (S : Nat → Bool) : jp_E (fun f => X9_insideOf f 39 (nI (qg_mask S n)) M = some (qin A S n)) := by
  have hst : ∀ v, n ≤ v → fb_sm (fun v => if v < n then qg_win A S n v else 0) v = fb_sm (qg_win A S n) n := by
    intro v hv
    have e := fb_sm_split (fun v => if v < n then qg_win A S n v else 0) n (v - n)
    rw [show n + (v - n) = v by omega] at e
    rw [e, fb_sm_cong (g := fun _ => 0) (n := v - n) (fun k _ => if_neg (by omega)), fb_sm_const, Nat.mul_zero, Nat.add_zero]
    exact fb_sm_cong (fun k hk => if_pos hk)
  have key := jp_L.for (body := fun f => X9_insideOf_B4 f 39 (nI (qg_mask S n)) M) (r := nI (fb_sm (qg_win A S n) n)) (fun v => (nI (fb_sm (fun v => if v < n then qg_win A S n v else 0) v), nI v)) 8 ?_ ?_ 0 (Nat.zero_le 8)
  · refine key.use.imp (fun f e => ?_)
    unfold X9_insideOf
    rw [show ((0 : Int32), (0 : Int32)) = (nI (fb_sm (fun v => if v < n then qg_win A S n v else 0) 0), nI 0) from rfl, e]; rfl
  · intro v hv
    refine (m_bitsM (fun x => A v x && S x) hn).imp (fun f e => ?_)
    unfold X9_insideOf_B4
    dsimp only
    rw [show (8 : Int32) = nI 8 from rfl, if_neg (nI_ge hv (by omega)), ni_bit (qg_mask_31 _ hn) (by omega), qg_mask_bit, fb_sm_succ]
    by_cases hvn : v < n
    · rw [decide_eq_true hvn, Bool.true_and, if_pos hvn]
      unfold qg_win
      by_cases hs : S v = true
      · rw [if_pos (if_pos hs), show jm_rf 39 3 = 42 from rfl, h.at hn hvn, Option.bind_some, fa_and, qg_mask_and, e, Option.bind_some, nI_1, nI_add, if_pos hs]
      · rw [if_neg (by rw [if_neg hs]; decide), nI_1, if_neg hs, Int32.add_zero]; rfl
    · rw [decide_eq_false hvn, Bool.false_and, if_neg (by decide), if_neg hvn, nI_1, Int32.add_zero]; rfl
  · refine jp_E.all (fun f => ?_)
    unfold X9_insideOf_B4
    dsimp only
    rw [show (8 : Int32) = nI 8 from rfl, if_pos (nI_le (Nat.le_refl 8) (by omega)), hst 8 hn]
