/-! NUMBERINGS and the canonical code -/
def qp (n : Nat) (p : Nat → Nat) : Prop := (∀ i, i < n → p i < n) ∧ ∀ i j, i < n → j < n → p i = p j → i = j
/-- the code under a numbering: vertex i of the new graph is the old p i -/
def qc (A : Nat → Nat → Bool) (p : Nat → Nat) (n : Nat) : Nat := qg_cd (fun i j => A (p i) (p j)) n
def qm (n : Nat) (A : Nat → Nat → Bool) (m : Nat) : Prop := (∃ p, qp n p ∧ m = qc A p n) ∧ ∀ p, qp n p → m ≤ qc A p n
theorem qp_id (n : Nat) : qp n (fun i => i) := ⟨fun _ h => h, fun _ _ _ _ h => h⟩
theorem qp_comp {n : Nat} {p q : Nat → Nat} (hp : qp n p) (hq : qp n q) : qp n (fun i => p (q i)) := ⟨fun i hi => hp.1 _ (hq.1 i hi), fun i j hi hj e => hq.2 i j hi hj (hp.2 _ _ (hq.1 i hi) (hq.1 j hj) e)⟩
theorem qp_onto {n : Nat} {p : Nat → Nat} (hp : qp n p) {y : Nat} (hy : y < n) : ∃ i, i < n ∧ p i = y := fb_onto hp.1 (fun i j hij hj e => by have := hp.2 i j (by omega) hj e; omega) hy
theorem qp_inv {n : Nat} {p : Nat → Nat} (hp : qp n p) : ∃ q, qp n q ∧ (∀ i, i < n → p (q i) = i) ∧ ∀ i, i < n → q (p i) = i := by
  have h : ∀ y, ∃ i, y < n → i < n ∧ p i = y := fun y => by
    by_cases hy : y < n
    · obtain ⟨i, h1, h2⟩ := qp_onto hp hy
      exact ⟨i, fun _ => ⟨h1, h2⟩⟩
    · exact ⟨0, fun q => absurd q hy⟩
  obtain ⟨q, hq⟩ := Classical.axiomOfChoice h
  refine ⟨q, ⟨fun i hi => (hq i hi).1, fun i j hi hj e => ?_⟩, fun i hi => (hq i hi).2, fun i hi => ?_⟩
  · rw [← (hq i hi).2, ← (hq j hj).2, e]
  · have h1 := hq (p i) (hp.1 i hi)
    exact hp.2 _ _ h1.1 hi h1.2
theorem qc_cong {A B : Nat → Nat → Bool} {p q : Nat → Nat} {n : Nat} (h : ∀ i j, i < n → j < n → A (p i) (p j) = B (q i) (q j)) : qc A p n = qc B q n := qg_cd_cong (fun a b h1 h2 => h a b (by omega) h2)
theorem qm_one {n : Nat} {A : Nat → Nat → Bool} {m m' : Nat} (h : qm n A m) (h' : qm n A m') : m = m' := by
  obtain ⟨⟨p, hp, e⟩, h2⟩ := h
  obtain ⟨⟨p', hp', e'⟩, h2'⟩ := h'
  have a := h2 p' hp'
  have b := h2' p hp
  omega
theorem qm_ex (n : Nat) (A : Nat → Nat → Bool) : ∃ m, qm n A m := by
  have key : ∀ k, (∃ p, qp n p ∧ qc A p n ≤ k) → ∃ m, qm n A m := by
    intro k
    induction k with
    | zero =>
      rintro ⟨p, hp, h⟩
      exact ⟨0, ⟨p, hp, by omega⟩, fun q _ => Nat.zero_le _⟩
    | succ k ih =>
      rintro ⟨p, hp, h⟩
      by_cases h2 : ∃ q, qp n q ∧ qc A q n ≤ k
      · exact ih h2
      · refine ⟨k + 1, ⟨p, hp, ?_⟩, fun q hq => ?_⟩
        · have : ¬ qc A p n ≤ k := fun h3 => h2 ⟨p, hp, h3⟩
          omega
        · have : ¬ qc A q n ≤ k := fun h3 => h2 ⟨q, hq, h3⟩
          omega
  exact key _ ⟨fun i => i, qp_id n, Nat.le_refl _⟩
/-- the canonical code -/
noncomputable def cn (n : Nat) (A : Nat → Nat → Bool) : Nat := Classical.choose (qm_ex n A)
theorem cn_spec (n : Nat) (A : Nat → Nat → Bool) : qm n A (cn n A) := Classical.choose_spec (qm_ex n A)
theorem cn_eq {n : Nat} {A : Nat → Nat → Bool} {m : Nat} (h : qm n A m) : cn n A = m := qm_one (cn_spec n A) h
theorem cn_cong {n : Nat} {A B : Nat → Nat → Bool} (h : ∀ i j, i < n → j < n → A i j = B i j) : cn n A = cn n B := by
  refine cn_eq ?_
  obtain ⟨⟨p, hp, e⟩, h2⟩ := cn_spec n B
  refine ⟨⟨p, hp, ?_⟩, fun q hq => ?_⟩
  · rw [e]; exact qc_cong (fun i j hi hj => (h _ _ (hp.1 i hi) (hp.1 j hj)).symm)
  · rw [qc_cong (B := B) (q := q) (fun i j hi hj => h _ _ (hq.1 i hi) (hq.1 j hj))]; exact h2 q hq
theorem cn_iso {n : Nat} {A : Nat → Nat → Bool} {q : Nat → Nat} (hq : qp n q) : cn n (fun i j => A (q i) (q j)) = cn n A := by
  refine cn_eq ?_
  obtain ⟨⟨p, hp, e⟩, h2⟩ := cn_spec n A
  obtain ⟨r, hr, h3, h4⟩ := qp_inv hq
  refine ⟨⟨fun i => r (p i), qp_comp hr hp, ?_⟩, fun t ht => ?_⟩
  · rw [e]; exact qc_cong (fun i j hi hj => by rw [h3 _ (hp.1 i hi), h3 _ (hp.1 j hj)])
  · exact h2 (fun i => q (t i)) (qp_comp hq ht)
theorem cn_lt (n : Nat) (A : Nat → Nat → Bool) : cn n A < 2 ^ qg_tri n := by
  obtain ⟨⟨p, hp, e⟩, _⟩ := cn_spec n A
  rw [e]; exact qg_cd_lt _ n
theorem qok_comp {A : Nat → Nat → Bool} (hA : qg_ok A) (q : Nat → Nat) : qg_ok (fun i j => A (q i) (q j)) := ⟨fun u v => hA.1 _ _, fun u => hA.2 _⟩
theorem cn_at {n : Nat} {A : Nat → Nat → Bool} (hA : qg_ok A) : ∃ q, qp n q ∧ ∀ i j, i < n → j < n → qg_ad n (cn n A) i j = A (q i) (q j) := by
  obtain ⟨⟨p, hp, e⟩, _⟩ := cn_spec n A
  refine ⟨p, hp, fun i j hi hj => ?_⟩
  rw [e]; exact qg_ad_cd (qok_comp hA p) hi hj
theorem cn_idem {n : Nat} {A : Nat → Nat → Bool} (hA : qg_ok A) : cn n (qg_ad n (cn n A)) = cn n A := by
  obtain ⟨q, hq, h⟩ := cn_at (n := n) hA
  rw [cn_cong h, cn_iso hq]
theorem cn_le {n c : Nat} (hc : c < 2 ^ qg_tri n) : cn n (qg_ad n c) ≤ c := by
  have := (cn_spec n (qg_ad n c)).2 _ (qp_id n)
  have e : qc (qg_ad n c) (fun i => i) n = c := qg_cd_ad hc
  omega
/-- two graphs have one canonical code just if they are isomorphic -/
theorem cn_same {n : Nat} {A B : Nat → Nat → Bool} (hA : qg_ok A) (hB : qg_ok B) (h : cn n A = cn n B) : ∃ q, qp n q ∧ ∀ i j, i < n → j < n → A i j = B (q i) (q j) := by
  obtain ⟨p, hp, h1⟩ := cn_at (n := n) hA
  obtain ⟨q, hq, h2⟩ := cn_at (n := n) hB
  obtain ⟨r, hr, h3, h4⟩ := qp_inv hp
  refine ⟨fun i => q (r i), qp_comp hq hr, fun i j hi hj => ?_⟩
  rw [← h2 _ _ (hr.1 i hi) (hr.1 j hj), ← h, h1 _ _ (hr.1 i hi) (hr.1 j hj), h3 i hi, h3 j hj]
/-! used vertices, digits -/
def qu (p : Nat → Nat) : Nat → Nat → Bool
  | 0, _ => false
  | k + 1, v => qu p k v || decide (p k = v)
theorem qu_iff {p : Nat → Nat} : ∀ {k v : Nat}, qu p k v = true ↔ ∃ i, i < k ∧ p i = v
  | 0, v => by simp [qu]
  | k + 1, v => by
    show (qu p k v || decide (p k = v)) = true ↔ _
    rw [Bool.or_eq_true, qu_iff, decide_eq_true_eq]
    constructor
    · rintro (⟨i, h1, h2⟩ | h)
      · exact ⟨i, by omega, h2⟩
      · exact ⟨k, by omega, h⟩
    · rintro ⟨i, h1, h2⟩
      by_cases e : i = k
      · subst e; exact Or.inr h2
      · exact Or.inl ⟨i, by omega, h2⟩
def qd (A : Nat → Nat → Bool) (p : Nat → Nat) (v : Nat) : Nat → Nat
  | 0 => 0
  | k + 1 => 2 * qd A p v k + (A v (p k)).toNat
theorem qd_lt (A : Nat → Nat → Bool) (p : Nat → Nat) (v : Nat) : ∀ k, qd A p v k < 2 ^ k
  | 0 => Nat.zero_lt_one
  | k + 1 => by
    have := qd_lt A p v k
    have h2 := qg_tn (A v (p k))
    show 2 * qd A p v k + _ < _
    rw [Nat.pow_succ]; omega
theorem qd_cong {A : Nat → Nat → Bool} {p q : Nat → Nat} {v : Nat} : ∀ {k : Nat}, (∀ i, i < k → p i = q i) → qd A p v k = qd A q v k
  | 0, _ => rfl
  | k + 1, h => by
    show 2 * qd A p v k + _ = 2 * qd A q v k + _
    rw [qd_cong (k := k) (fun i hi => h i (by omega)), h k (by omega)]
/-- a numbering's column is what its digits say -/
theorem qd_col {A : Nat → Nat → Bool} (hA : qg_ok A) (p : Nat → Nat) (b : Nat) : ∀ k, qg_col (fun i j => A (p i) (p j)) b k = qd A p (p b) k
  | 0 => rfl
  | k + 1 => by
    show 2 * qg_col _ b k + (A (p k) (p b)).toNat = 2 * qd A p (p b) k + _
    rw [qd_col hA p b k, hA.1]
theorem qc_succ {A : Nat → Nat → Bool} (hA : qg_ok A) (p : Nat → Nat) (k : Nat) : qc A p (k + 1) = qc A p k * 2 ^ k + qd A p (p k) k := by
  show qg_cd _ k * 2 ^ k + qg_col _ k k = _
  rw [qd_col hA]; rfl
theorem qc_pre {A : Nat → Nat → Bool} {p q : Nat → Nat} {k : Nat} (h : ∀ i, i < k → p i = q i) : qc A p k = qc A q k := qc_cong (fun i j hi hj => by rw [h i hi, h j hj])
/-- the code's beginning is the beginning's code -/
theorem qc_shr {A : Nat → Nat → Bool} (hA : qg_ok A) (p : Nat → Nat) : ∀ n k, k ≤ n → qc A p n >>> (qg_tri n - qg_tri k) = qc A p k
  | 0, k, h => by rw [show k = 0 by omega]; rfl
  | n + 1, k, h => by
    by_cases e : k = n + 1
    · subst e; rw [Nat.sub_self]; rfl
    · have h1 := qg_tri_mono (show k ≤ n by omega)
      have e2 : qg_tri (n + 1) - qg_tri k = n + (qg_tri n - qg_tri k) := by show qg_tri n + n - _ = _; omega
      rw [e2, Nat.shiftRight_add, qc_succ hA]
      have e3 : (qc A p n * 2 ^ n + qd A p (p n) n) >>> n = qc A p n := by
        rw [Nat.shiftRight_eq_div_pow, Nat.mul_comm, Nat.mul_add_div (Nat.two_pow_pos n), Nat.div_eq_of_lt (qd_lt A p (p n) n), Nat.add_zero]
      rw [e3]
      exact qc_shr hA p n k (by omega)
theorem shr_le {a b : Nat} (h : a ≤ b) (k : Nat) : a >>> k ≤ b >>> k := by
  rw [Nat.shiftRight_eq_div_pow, Nat.shiftRight_eq_div_pow]; exact Nat.div_le_div_right h
