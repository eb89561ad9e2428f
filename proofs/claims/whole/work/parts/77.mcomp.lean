/-! components: the sums -/
theorem nbv_rl {n : Nat} {A : Nat → Nat → Bool} {u k x : Nat} : (pd (rl n A u k x) || nbv A (fun v => pd (rl n A u k v)) n x) = pd (rl n A u (k + 1) x) := by
  rw [Bool.eq_iff_iff, Bool.or_eq_true]
  unfold nbv
  rw [pd_t, pd_t, pd_t]
  constructor
  · intro h
    rcases h with h | ⟨w, h1, h2, h3⟩
    · exact Or.inl h
    · exact Or.inr ⟨w, h1, pd_t.mp h2, h3⟩
  · intro h
    rcases h with h | ⟨w, h1, h2, h3⟩
    · exact Or.inl h
    · exact Or.inr ⟨w, h1, pd_t.mpr h2, h3⟩
theorem gx_reach {M : jm_M} {g n u : Nat} {A : Nat → Nat → Bool} (h : gx M g n A) (hn : n ≤ 8) (hu : u < n) : jp_E (fun f => X4_reachedFrom f g (nI u) M = some (nI (qg_mask (fun v => pd (rc n A u v)) n))) := by
  have key := jp_L.for (body := fun f => X4_reachedFrom_B6 f g M) (r := nI (qg_mask (fun v => pd (rc n A u v)) n)) (fun k => (nI (qg_mask (fun v => pd (rl n A u k v)) n), nI (k + 1))) (n - 1) ?_ ?_ 0 (Nat.zero_le _)
  · refine key.use.imp (fun f e => ?_)
    have e0 : qg_mask (fun v => pd (rl n A u 0 v)) n = qg_mask (fun w => decide (w = u)) n := qg_mask_cong (fun x _ => by
      rw [Bool.eq_iff_iff, pd_t, decide_eq_true_iff]; exact Iff.rfl)
    rw [e0] at e
    unfold X4_reachedFrom
    rw [ni_one hn hu, show (1 : Int32) = nI (0 + 1) from rfl, e]; rfl
  · intro k hk
    refine (gx_nb h hn (fun v => pd (rl n A u k v))).imp (fun f e => ?_)
    unfold X4_reachedFrom_B6
    dsimp only
    rw [h.1, if_neg (nI_ge (by omega) (by omega)), e, Option.bind_some, ni_orM, nI_1]
    congr 4
    exact qg_mask_cong (fun x _ => nbv_rl)
  · refine jp_E.all (fun f => ?_)
    unfold X4_reachedFrom_B6
    dsimp only
    rw [h.1, if_pos (nI_le (by omega) (by omega))]
    congr 3
    exact qg_mask_cong (fun x hx => pd_cong (rc_iff hu hx).symm)
theorem gx_comp {M : jm_M} {g n : Nat} {A : Nat → Nat → Bool} (h : gx M g n A) (hn : n ≤ 8) : jp_E (fun f => X4_components f g M = some (nI (fb_ct (rrep n A) n))) := by
  have key := jp_L.for (body := fun f => X4_components_B13 f g M) (r := nI (fb_ct (rrep n A) n)) (fun v => (nI (qg_mask (rop n A v) n), nI (fb_ct (rrep n A) v), nI v)) n ?_ ?_ 0 (Nat.zero_le n)
  · refine key.use.imp (fun f e => ?_)
    have e0 : qg_mask (rop n A 0) n = qg_mask (fun _ => true) n := qg_mask_cong (fun x _ => pd_t.mpr (fun u hu => by omega))
    rw [e0] at e
    unfold X4_components
    rw [h.1, ni_full hn, show (nI (qg_mask (fun _ => true) n), (0 : Int32), (0 : Int32)) = (nI (qg_mask (fun _ => true) n), nI (fb_ct (rrep n A) 0), nI 0) from rfl, e]; rfl
  · intro v hv
    have hb : (nI (qg_mask (rop n A v) n) >>> (nI v &&& 31)) &&& 1 = if rrep n A v then (1 : Int32) else 0 := by
      rw [ni_bit (qg_mask_31 _ hn) (by omega), qg_mask_bit, decide_eq_true hv, Bool.true_and]; rfl
    refine (gx_reach h hn hv).imp (fun f e => ?_)
    unfold X4_components_B13
    dsimp only
    rw [h.1, if_neg (nI_ge hv (by omega)), hb, fb_ct_succ]
    by_cases hs : rrep n A v = true
    · rw [if_pos (if_pos hs), e, Option.bind_some, ni_andn hn, nI_1, nI_1, if_pos hs]
      congr 4
      exact qg_mask_cong (fun x _ => rop_yes.symm)
    · have hs' : rrep n A v = false := by cases h : rrep n A v <;> simp_all
      rw [if_neg (by rw [if_neg hs]; decide), nI_1, if_neg hs]
      congr 4
      exact qg_mask_cong (fun x _ => (rop_no hs').symm)
  · refine jp_E.all (fun f => ?_)
    unfold X4_components_B13
    dsimp only
    rw [h.1, if_pos (nI_le (Nat.le_refl n) (by omega))]
/-! the reference -/
def ris (A : Nat → Nat → Bool) (S : Nat → Bool) : Nat → Nat → Bool
  | 0, x => S x
  | v + 1, x => ris A S v x || (ris A S v v && A v x)
def rit (A : Nat → Nat → Bool) (n : Nat) (S : Nat → Bool) : Nat → Nat → Bool
  | 0 => S
  | k + 1 => ris A (rit A n S k) n
theorem ris_up {A : Nat → Nat → Bool} {S : Nat → Bool} {x : Nat} : ∀ {j k : Nat}, j ≤ k → ris A S j x = true → ris A S k x = true := by
  intro j k
  induction k with
  | zero => intro h h2; obtain rfl : j = 0 := by omega
            exact h2
  | succ k ih =>
    intro h h2
    by_cases e : j = k + 1
    · rw [← e]; exact h2
    · show (ris A S k x || _) = true
      rw [ih (by omega) h2]; rfl
theorem ris_in {A : Nat → Nat → Bool} {S : Nat → Bool} {n w x : Nat} (hw : w < n) (h : S w = true) (ha : A w x = true) : ris A S n x = true := by
  refine ris_up (j := w + 1) hw ?_
  show (ris A S w x || (ris A S w w && A w x)) = true
  rw [ris_up (j := 0) (Nat.zero_le w) h, ha]; simp
theorem ris_rc {n : Nat} {A : Nat → Nat → Bool} {S : Nat → Bool} {u : Nat} (h : ∀ x, S x = true → rc n A u x) : ∀ v, v ≤ n → ∀ x, ris A S v x = true → rc n A u x := by
  intro v
  induction v with
  | zero => intro _ x hx; exact h x hx
  | succ v ih =>
    intro hv x hx
    have hx' : (ris A S v x || (ris A S v v && A v x)) = true := hx
    rw [Bool.or_eq_true, Bool.and_eq_true] at hx'
    rcases hx' with h1 | ⟨h1, h2⟩
    · exact ih (by omega) x h1
    · exact rc_step (ih (by omega) v h1) (by omega) h2
theorem rit_rl {n : Nat} {A : Nat → Nat → Bool} {u : Nat} : ∀ k x, rl n A u k x → rit A n (fun w => decide (w = u)) k x = true := by
  intro k
  induction k with
  | zero => intro x h; exact decide_eq_true h
  | succ k ih =>
    intro x h
    rcases h with h | ⟨w, hw, h, ha⟩
    · exact ris_up (j := 0) (Nat.zero_le n) (ih x h)
    · exact ris_in hw (ih w h) ha
theorem rit_rc {n : Nat} {A : Nat → Nat → Bool} {u : Nat} : ∀ k x, rit A n (fun w => decide (w = u)) k x = true → rc n A u x := by
  intro k
  induction k with
  | zero => intro x h; rw [of_decide_eq_true h]; exact rc_refl n A u
  | succ k ih => intro x h; exact ris_rc ih n (Nat.le_refl n) x h
theorem rit_8 {n : Nat} {A : Nat → Nat → Bool} {u x : Nat} (hn : n ≤ 8) (hu : u < n) (hx : x < n) : rit A n (fun w => decide (w = u)) 8 x = pd (rc n A u x) := by
  rw [Bool.eq_iff_iff, pd_t]
  exact ⟨rit_rc 8 x, fun h => rit_rl 8 x (rl_mono (by omega) ((rc_iff hu hx).mp h))⟩
theorem m_reachI {M : jm_M} {n c : Nat} {V3 : Int32} (hn : n ≤ 8) (hc : c < 2 ^ 31) (h0 : M.1 40 0 = nI n) (h1 : M.1 40 1 = nI c) (S : Nat → Bool) : jp_L (fun f => X9_reached_B15 f 39 V3 M) (nI (qg_mask S n), nI 0) (nI (qg_mask (ris (qg_ad n c) S n) n)) := by
  refine jp_L.for (body := fun f => X9_reached_B15 f 39 V3 M) (r := nI (qg_mask (ris (qg_ad n c) S n) n)) (fun v => (nI (qg_mask (ris (qg_ad n c) S v) n), nI v)) n ?_ ?_ 0 (Nat.zero_le n)
  · intro v hv
    refine (m_neigh hn hc hv).imp (fun f e => ?_)
    unfold X9_reached_B15
    dsimp only
    rw [show jm_rf 39 0 = 40 from rfl, m_w0, h0, Option.bind_some, if_neg (nI_ge hv (by omega)), ni_bit (qg_mask_31 _ hn) (by omega), qg_mask_bit, decide_eq_true hv, Bool.true_and, Int32.or_zero]
    by_cases hs : ris (qg_ad n c) S v v = true
    · rw [if_pos (if_pos hs), Option.bind_some, m_w1, h1, Option.bind_some, e, Option.bind_some, ni_orM, nI_1]
      congr 4
      refine qg_mask_cong (fun x _ => ?_)
      show _ = (ris (qg_ad n c) S v x || (ris (qg_ad n c) S v v && qg_ad n c v x))
      rw [hs, Bool.true_and]
    · rw [if_neg (by rw [if_neg hs]; decide), nI_1]
      congr 4
      refine qg_mask_cong (fun x _ => ?_)
      show _ = (ris (qg_ad n c) S v x || (ris (qg_ad n c) S v v && qg_ad n c v x))
      rw [Bool.eq_false_iff.mpr hs, Bool.false_and, Bool.or_false]
  · refine jp_E.all (fun f => ?_)
    unfold X9_reached_B15
    dsimp only
    rw [show jm_rf 39 0 = 40 from rfl, m_w0, h0, Option.bind_some, if_pos (nI_le (Nat.le_refl n) (by omega))]
theorem m_reach {M : jm_M} {n c u : Nat} (hn : n ≤ 8) (hc : c < 2 ^ 31) (hu : u < n) (h0 : M.1 40 0 = nI n) (h1 : M.1 40 1 = nI c) : jp_E (fun f => X9_reached f 39 (nI u) M = some (nI (qg_mask (fun v => pd (rc n (qg_ad n c) u v)) n))) := by
  have key := jp_L.for (body := fun f => X9_reached_B6 f 39 M) (r := nI (qg_mask (fun v => pd (rc n (qg_ad n c) u v)) n)) (fun k => (nI (qg_mask (rit (qg_ad n c) n (fun w => decide (w = u)) k) n), nI k)) 8 ?_ ?_ 0 (Nat.zero_le 8)
  · refine key.use.imp (fun f e => ?_)
    unfold X9_reached
    rw [ni_one hn hu, show (0 : Int32) = nI 0 from rfl, show nI (qg_mask (fun w => decide (w = u)) n) = nI (qg_mask (rit (qg_ad n c) n (fun w => decide (w = u)) 0) n) from rfl, e]; rfl
  · intro k hk
    refine (m_reachI (V3 := nI k) hn hc h0 h1 (rit (qg_ad n c) n (fun w => decide (w = u)) k)).use.imp (fun f e => ?_)
    unfold X9_reached_B6
    dsimp only
    rw [show (8 : Int32) = nI 8 from rfl, if_neg (nI_ge hk (by omega)), show (0 : Int32) = nI 0 from rfl, e, Option.bind_some, nI_1]; rfl
  · refine jp_E.all (fun f => ?_)
    unfold X9_reached_B6
    dsimp only
    rw [show (8 : Int32) = nI 8 from rfl, if_pos (nI_le (Nat.le_refl 8) (by omega))]
    congr 3
    exact qg_mask_cong (fun x hx => rit_8 hn hu hx)
theorem m_comp {M : jm_M} {n c : Nat} (hn : n ≤ 8) (hc : c < 2 ^ 31) (h0 : M.1 40 0 = nI n) (h1 : M.1 40 1 = nI c) : jp_E (fun f => X9_components f 39 M = some (nI (fb_ct (rrep n (qg_ad n c)) n))) := by
  have key := jp_L.for (body := fun f => X9_components_B6 f 39 M) (r := nI (fb_ct (rrep n (qg_ad n c)) n)) (fun v => (nI (fb_ct (rrep n (qg_ad n c)) v), nI (qg_mask (fun w => !(rop n (qg_ad n c) v w)) n), nI v)) n ?_ ?_ 0 (Nat.zero_le n)
  · refine key.use.imp (fun f e => ?_)
    have e0 : qg_mask (fun w => !(rop n (qg_ad n c) 0 w)) n = 0 := by
      apply Nat.eq_of_testBit_eq
      intro w
      rw [qg_mask_bit, show rop n (qg_ad n c) 0 w = true from pd_t.mpr (fun u hu => by omega)]; simp
    rw [e0] at e
    unfold X9_components
    rw [show ((0 : Int32), (0 : Int32), (0 : Int32)) = (nI (fb_ct (rrep n (qg_ad n c)) 0), nI 0, nI 0) from rfl, e]; rfl
  · intro v hv
    refine (m_reach hn hc hv h0 h1).imp (fun f e => ?_)
    unfold X9_components_B6
    dsimp only
    rw [show jm_rf 39 0 = 40 from rfl, m_w0, h0, Option.bind_some, if_neg (nI_ge hv (by omega)), ni_bit (qg_mask_31 _ hn) (by omega), qg_mask_bit, decide_eq_true hv, Bool.true_and, fb_ct_succ]
    by_cases hs : rrep n (qg_ad n c) v = true
    · have hs2 : rop n (qg_ad n c) v v = true := hs
      rw [if_pos (by rw [hs2]; rfl), e, Option.bind_some, ni_orM, nI_1, nI_1, if_pos hs]
      congr 5
      refine qg_mask_cong (fun x _ => ?_)
      rw [rop_yes, Bool.not_and, Bool.not_not]
    · have hs' : rrep n (qg_ad n c) v = false := by cases h : rrep n (qg_ad n c) v <;> simp_all
      have hs2 : rop n (qg_ad n c) v v = false := hs'
      rw [if_neg (by rw [hs2]; decide), nI_1, if_neg hs]
      congr 5
      refine qg_mask_cong (fun x _ => ?_)
      rw [rop_no hs']
  · refine jp_E.all (fun f => ?_)
    unfold X9_components_B6
    dsimp only
    rw [show jm_rf 39 0 = 40 from rfl, m_w0, h0, Option.bind_some, if_pos (nI_le (Nat.le_refl n) (by omega))]
