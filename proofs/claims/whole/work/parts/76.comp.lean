/-! components: reaching, both sides -/
def rl (n : Nat) (A : Nat → Nat → Bool) (u : Nat) : Nat → Nat → Prop
  | 0, v => v = u
  | k + 1, v => rl n A u k v ∨ ∃ w, w < n ∧ rl n A u k w ∧ A w v = true
def rc (n : Nat) (A : Nat → Nat → Bool) (u v : Nat) : Prop := ∃ k, rl n A u k v
theorem rl_mono {n : Nat} {A : Nat → Nat → Bool} {u v : Nat} : ∀ {j k : Nat}, j ≤ k → rl n A u j v → rl n A u k v := by
  intro j k
  induction k with
  | zero => intro h h2; obtain rfl : j = 0 := by omega
            exact h2
  | succ k ih =>
    intro h h2
    by_cases e : j = k + 1
    · rw [← e]; exact h2
    · exact Or.inl (ih (by omega) h2)
theorem rc_refl (n : Nat) (A : Nat → Nat → Bool) (u : Nat) : rc n A u u := ⟨0, rfl⟩
theorem rc_step {n : Nat} {A : Nat → Nat → Bool} {u w v : Nat} (h : rc n A u w) (hw : w < n) (ha : A w v = true) : rc n A u v := by
  obtain ⟨k, hk⟩ := h
  exact ⟨k + 1, Or.inr ⟨w, hw, hk, ha⟩⟩
theorem rc_trans {n : Nat} {A : Nat → Nat → Bool} {u v w : Nat} (h : rc n A u v) (h2 : rc n A v w) : rc n A u w := by
  obtain ⟨k, hk⟩ := h2
  revert w
  induction k with
  | zero => intro w hk; rw [show w = v from hk]; exact h
  | succ k ih =>
    intro w hk
    rcases hk with hk | ⟨x, hx, hk, ha⟩
    · exact ih hk
    · exact rc_step (ih hk) hx ha
theorem rc_symm {n : Nat} {A : Nat → Nat → Bool} (hs : ∀ u v, A u v = A v u) {u v : Nat} (hv : v < n) (h : rc n A u v) : rc n A v u := by
  obtain ⟨k, hk⟩ := h
  revert v
  induction k with
  | zero => intro v _ hk; rw [show v = u from hk]; exact rc_refl n A u
  | succ k ih =>
    intro v hv hk
    rcases hk with hk | ⟨x, hx, hk, ha⟩
    · exact ih hv hk
    · exact rc_trans (rc_step (rc_refl n A v) hv (by rw [hs]; exact ha)) (ih hx hk)
theorem rl_stab {n : Nat} {A : Nat → Nat → Bool} {u k : Nat} (h : ∀ v, v < n → rl n A u (k + 1) v → rl n A u k v) : ∀ j v, v < n → rl n A u j v → rl n A u k v := by
  intro j
  induction j with
  | zero => intro v _ h2; exact rl_mono (Nat.zero_le k) h2
  | succ j ih =>
    intro v hv h2
    rcases h2 with h2 | ⟨w, hw, h2, ha⟩
    · exact ih v hv h2
    · exact h v hv (Or.inr ⟨w, hw, ih w hw h2, ha⟩)
theorem rl_grow {n : Nat} {A : Nat → Nat → Bool} {u : Nat} (hu : u < n) : ∀ k, (∃ j, j ≤ k ∧ ∀ v, v < n → rl n A u (j + 1) v → rl n A u j v) ∨ k + 1 ≤ fb_ct (fun v => pd (rl n A u k v)) n := by
  intro k
  induction k with
  | zero => exact Or.inr (fb_ct_pos.mpr ⟨u, hu, pd_t.mpr rfl⟩)
  | succ k ih =>
    rcases ih with ⟨j, hj, h⟩ | h
    · exact Or.inl ⟨j, by omega, h⟩
    · by_cases hs : ∀ v, v < n → rl n A u (k + 1) v → rl n A u k v
      · exact Or.inl ⟨k, by omega, hs⟩
      · refine Or.inr ?_
        have : ∃ v, v < n ∧ rl n A u (k + 1) v ∧ ¬ rl n A u k v := Classical.byContradiction (fun h2 => hs (fun v hv h3 => Classical.byContradiction (fun h4 => h2 ⟨v, hv, h3, h4⟩)))
        obtain ⟨v, hv, h3, h4⟩ := this
        have e := fb_ct_upd (fun v => pd (rl n A u k v)) true hv
        rw [if_neg (show ¬ pd (rl n A u k v) = true from fun q => h4 (pd_t.mp q)), if_pos rfl] at e
        have e2 : fb_ct (fun x => if x = v then true else pd (rl n A u k x)) n ≤ fb_ct (fun v => pd (rl n A u (k + 1) v)) n := fb_ct_sub (fun x _ hx => pd_t.mpr (by
          by_cases ex : x = v
          · rw [ex]; exact h3
          · rw [if_neg ex] at hx; exact Or.inl (pd_t.mp hx)))
        omega
theorem rc_iff {n : Nat} {A : Nat → Nat → Bool} {u v : Nat} (hu : u < n) (hv : v < n) : rc n A u v ↔ rl n A u (n - 1) v := by
  refine ⟨fun ⟨k, hk⟩ => ?_, fun h => ⟨n - 1, h⟩⟩
  rcases rl_grow (A := A) hu (n - 1) with ⟨j, hj, h⟩ | h
  · exact rl_mono hj (rl_stab h k v hv hk)
  · have : fb_ct (fun v => pd (rl n A u (n - 1) v)) n = n := by
      have := fb_ct_le (fun v => pd (rl n A u (n - 1) v)) n
      omega
    exact pd_t.mp (fb_ct_all.mp this v hv)
noncomputable def rrep (n : Nat) (A : Nat → Nat → Bool) (v : Nat) : Bool := pd (∀ u, u < v → ¬ rc n A u v)
noncomputable def rop (n : Nat) (A : Nat → Nat → Bool) (v w : Nat) : Bool := pd (∀ u, u < v → ¬ rc n A u w)
theorem rop_yes {n : Nat} {A : Nat → Nat → Bool} {v w : Nat} : rop n A (v + 1) w = (rop n A v w && !(pd (rc n A v w))) := by
  rw [Bool.eq_iff_iff, Bool.and_eq_true, Bool.not_eq_true']
  unfold rop
  rw [pd_t, pd_t, pd_f]
  constructor
  · intro h1
    exact ⟨fun u hu => h1 u (by omega), h1 v (by omega)⟩
  · intro ⟨h1, h2⟩ u hu h3
    by_cases e : u = v
    · subst e; exact h2 h3
    · exact h1 u (by omega) h3
theorem rop_no {n : Nat} {A : Nat → Nat → Bool} {v w : Nat} (h : rrep n A v = false) : rop n A (v + 1) w = rop n A v w := by
  have hr := pd_f.mp h
  refine pd_cong ⟨fun h1 u hu => h1 u (by omega), fun h1 u hu h3 => ?_⟩
  by_cases e : u = v
  · subst e
    exact hr (fun x hx h4 => h1 x hx (rc_trans h4 h3))
  · exact h1 u (by omega) h3
theorem ni_orM (f h : Nat → Bool) (n : Nat) : nI (qg_mask f n) ||| nI (qg_mask h n) = nI (qg_mask (fun u => f u || h u) n) := by
  rw [fa_or]
  congr 1
  apply Nat.eq_of_testBit_eq
  intro w
  rw [Nat.testBit_or, qg_mask_bit, qg_mask_bit, qg_mask_bit]
  cases decide (w < n) <;> rfl
theorem ni_one {n v : Nat} (hn : n ≤ 8) (hv : v < n) : (1 : Int32) <<< (nI v &&& 31) = nI (qg_mask (fun w => decide (w = v)) n) := by
  have h := ni_setb (f := fun _ => false) hv hn
  have e : qg_mask (fun _ => false) n = 0 := by
    apply Nat.eq_of_testBit_eq
    intro w
    rw [qg_mask_bit]; simp
  rw [e, nI_0, Int32.zero_or] at h
  rw [h]
  simp
/-- the neighbours of a set, from the first v of its vertices -/
noncomputable def nbv (A : Nat → Nat → Bool) (S : Nat → Bool) (v x : Nat) : Bool := pd (∃ w, w < v ∧ S w = true ∧ A w x = true)
theorem nbv_yes {A : Nat → Nat → Bool} {S : Nat → Bool} {v x : Nat} (h : S v = true) : nbv A S (v + 1) x = (nbv A S v x || A v x) := by
  rw [Bool.eq_iff_iff, Bool.or_eq_true]
  unfold nbv
  rw [pd_t, pd_t]
  constructor
  · intro ⟨w, h1, h2, h3⟩
    by_cases e : w = v
    · subst e; exact Or.inr h3
    · exact Or.inl ⟨w, by omega, h2, h3⟩
  · intro h1
    rcases h1 with ⟨w, h1, h2⟩ | h1
    · exact ⟨w, by omega, h2⟩
    · exact ⟨v, by omega, h, h1⟩
theorem nbv_no {A : Nat → Nat → Bool} {S : Nat → Bool} {v x : Nat} (h : S v = false) : nbv A S (v + 1) x = nbv A S v x := by
  refine pd_cong ⟨fun ⟨w, h1, h2, h3⟩ => ?_, fun ⟨w, h1, h2⟩ => ⟨w, by omega, h2⟩⟩
  by_cases e : w = v
  · subst e; rw [h] at h2; exact absurd h2 (by decide)
  · exact ⟨w, by omega, h2, h3⟩
theorem gx_nb {M : jm_M} {g n : Nat} {A : Nat → Nat → Bool} (h : gx M g n A) (hn : n ≤ 8) (S : Nat → Bool) : jp_E (fun f => X4_neighboursOf f g (nI (qg_mask S n)) M = some (nI (qg_mask (nbv A S n) n))) := by
  have key := jp_K.for (body := X4_neighboursOf_B4 g (nI (qg_mask S n)) M) (r := nI (qg_mask (nbv A S n) n)) (fun v => (nI (qg_mask (nbv A S v) n), nI v)) n ?_ ?_ 0 (Nat.zero_le n)
  · refine jp_E.imp key (fun f e => ?_)
    have e0 : qg_mask (nbv A S 0) n = 0 := by
      apply Nat.eq_of_testBit_eq
      intro w
      rw [qg_mask_bit, show nbv A S 0 w = false from pd_f.mpr (fun ⟨x, hx, _⟩ => by omega)]; simp
    rw [e0] at e
    unfold X4_neighboursOf
    rw [show ((0 : Int32), (0 : Int32)) = (nI 0, nI 0) from rfl, e]; rfl
  · intro v hv
    unfold X4_neighboursOf_B4
    dsimp only
    rw [h.1, if_neg (nI_ge hv (by omega)), ni_bit (qg_mask_31 _ hn) (by omega), qg_mask_bit, decide_eq_true hv, Bool.true_and]
    by_cases hs : S v = true
    · rw [hs, if_pos (if_pos rfl), jp_ga (by omega) (by decide), Option.bind_some, h.2 v hv, ni_orM, nI_1]
      congr 4
      exact qg_mask_cong (fun u _ => (nbv_yes hs).symm)
    · have hs' : S v = false := by cases h : S v <;> simp_all
      rw [hs', if_neg (by simp), nI_1]
      congr 4
      exact qg_mask_cong (fun u _ => (nbv_no hs').symm)
  · unfold X4_neighboursOf_B4
    dsimp only
    rw [h.1, if_pos (nI_le (Nat.le_refl n) (by omega))]
