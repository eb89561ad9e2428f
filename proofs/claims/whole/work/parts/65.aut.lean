/-! sums over numberings; automorphisms; the first in order; how many there are -/
theorem sm_swap (g : Nat → Nat → Nat) (n : Nat) : ∀ m, fb_sm (fun i => fb_sm (fun j => g i j) n) m = fb_sm (fun j => fb_sm (fun i => g i j) m) n
  | 0 => by
    show 0 = fb_sm (fun _ => 0) n
    rw [fb_sm_const]; simp
  | m + 1 => by
    rw [fb_sm_succ, sm_swap g n m, ← fb_sm_add]
    rfl
theorem sm_one (h : Nat → Nat) (y : Nat) : ∀ n, fb_sm (fun j => if y = j then h j else 0) n = if y < n then h y else 0
  | 0 => by simp [fb_sm]
  | n + 1 => by
    rw [fb_sm_succ, sm_one h y n]
    by_cases e : y = n
    · subst e; simp
    · by_cases h2 : y < n
      · simp [h2, e, show y < n + 1 by omega]
      · simp [h2, e, show ¬ y < n + 1 by omega]
theorem sm_perm {n : Nat} {q : Nat → Nat} (hq : qp n q) (h : Nat → Nat) : fb_sm (fun i => h (q i)) n = fb_sm h n := by
  have e1 : fb_sm (fun i => h (q i)) n = fb_sm (fun i => fb_sm (fun j => if q i = j then h j else 0) n) n := fb_sm_cong (fun i hi => by rw [sm_one, if_pos (hq.1 i hi)])
  rw [e1, sm_swap]
  refine fb_sm_cong (fun j hj => ?_)
  obtain ⟨i0, h1, h2⟩ := qp_onto hq hj
  have e2 : fb_sm (fun i => if q i = j then h j else 0) n = fb_sm (fun i => if i0 = i then (fun _ => h j) i else 0) n := fb_sm_cong (fun i hi => by
    by_cases e : i0 = i
    · subst e; simp [h2]
    · rw [if_neg e, if_neg (fun q9 => e (hq.2 _ _ h1 hi (by rw [h2, q9])))])
  rw [e2, sm_one, if_pos h1]
theorem ct_sm (f : Nat → Bool) : ∀ n, fb_ct f n = fb_sm (fun i => (f i).toNat) n
  | 0 => rfl
  | n + 1 => by rw [fb_ct_succ, fb_sm_succ, ct_sm f n]; cases f n <;> rfl
theorem ct_perm {n : Nat} {q : Nat → Nat} (hq : qp n q) (f : Nat → Bool) : fb_ct (fun i => f (q i)) n = fb_ct f n := by
  rw [ct_sm, ct_sm]; exact sm_perm hq (fun i => (f i).toNat)
def qa (n : Nat) (A : Nat → Nat → Bool) (p : Nat → Nat) : Prop := qp n p ∧ ∀ i j, i < n → j < n → A (p i) (p j) = A i j
theorem qa_id (n : Nat) (A : Nat → Nat → Bool) : qa n A (fun i => i) := ⟨qp_id n, fun _ _ _ _ => rfl⟩
theorem qa_comp {n : Nat} {A : Nat → Nat → Bool} {p q : Nat → Nat} (hp : qa n A p) (hq : qa n A q) : qa n A (fun i => p (q i)) := ⟨qp_comp hp.1 hq.1, fun i j hi hj => by rw [hp.2 _ _ (hq.1.1 i hi) (hq.1.1 j hj), hq.2 i j hi hj]⟩
theorem qa_inv {n : Nat} {A : Nat → Nat → Bool} {p : Nat → Nat} (hp : qa n A p) : ∃ q, qa n A q ∧ (∀ i, i < n → p (q i) = i) ∧ ∀ i, i < n → q (p i) = i := by
  obtain ⟨q, h1, h2, h3⟩ := qp_inv hp.1
  refine ⟨q, ⟨h1, fun i j hi hj => ?_⟩, h2, h3⟩
  rw [← hp.2 _ _ (h1.1 i hi) (h1.1 j hj), h2 i hi, h2 j hj]
theorem qa_deg {n : Nat} {A : Nat → Nat → Bool} {p : Nat → Nat} (hp : qa n A p) {i : Nat} (hi : i < n) : fb_ct (A (p i)) n = fb_ct (A i) n := by
  rw [← ct_perm hp.1 (A (p i))]
  exact fb_ct_cong (fun j hj => hp.2 i j hi hj)
/-- p comes before q, or is q -/
def ql (n : Nat) (p q : Nat → Nat) : Prop := (∀ i, i < n → p i = q i) ∨ ∃ k, k < n ∧ (∀ i, i < k → p i = q i) ∧ p k < q k
theorem ql_anti {n : Nat} {p q : Nat → Nat} (h : ql n p q) (h2 : ql n q p) : ∀ i, i < n → p i = q i := by
  rcases h with h | ⟨k, k1, k2, k3⟩
  · exact h
  · rcases h2 with h2 | ⟨m, m1, m2, m3⟩
    · exact fun i hi => (h2 i hi).symm
    · exfalso
      rcases Nat.lt_trichotomy k m with e | e | e
      · have := m2 k e; omega
      · subst e; omega
      · have := k2 m e; omega
/-- automorphisms that map a to b and go on from the first k images of p -/
def qx (n : Nat) (A : Nat → Nat → Bool) (a b k : Nat) (p q : Nat → Nat) : Prop := qa n A q ∧ q a = b ∧ ∀ i, i < k → q i = p i
def qx1 (n : Nat) (A : Nat → Nat → Bool) (a b k : Nat) (p q : Nat → Nat) : Prop := qx n A a b k p q ∧ ∀ r, qx n A a b k p r → ql n q r
/-- a beginning that may still become one -/
def qy (n : Nat) (A : Nat → Nat → Bool) (a b k : Nat) (p : Nat → Nat) : Prop := (∀ i, i < k → p i < n) ∧ (∀ i j, i < k → j < k → p i = p j → i = j) ∧ (∀ i j, i < k → j < k → A (p i) (p j) = A i j) ∧ ∀ i, i < k → i = a → p i = b
theorem qy_full {n : Nat} {A : Nat → Nat → Bool} {a b : Nat} {p : Nat → Nat} (h : qy n A a b n p) (ha : a < n) : qx1 n A a b n p p := by
  obtain ⟨h1, h2, h3, h4⟩ := h
  refine ⟨⟨⟨⟨h1, fun i j hi hj e => h2 i j hi hj e⟩, h3⟩, h4 a ha rfl, fun _ _ => rfl⟩, fun r hr => Or.inl (fun i hi => (hr.2.2 i hi).symm)⟩
theorem qy_set {n : Nat} {A : Nat → Nat → Bool} (hA : qg_ok A) {a b k y : Nat} {p : Nat → Nat} (h : qy n A a b k p) (hy : y < n) (hu : qu p k y = false) (h1 : k = a → y = b) (h2 : ∀ w, w < k → A y (p w) = A k w) : qy n A a b (k + 1) (qset p k y) := by
  obtain ⟨g1, g2, g3, g4⟩ := h
  refine ⟨fun i hi => ?_, fun i j hi hj e => ?_, fun i j hi hj => ?_, fun i hi e => ?_⟩
  · by_cases e : i = k
    · rw [e, qset_at]; exact hy
    · rw [qset_lt (by omega)]; exact g1 i (by omega)
  · by_cases e1 : i = k
    · by_cases e2 : j = k
      · omega
      · rw [e1, qset_at, qset_lt (show j < k by omega)] at e
        have : qu p k y = true := qu_iff.mpr ⟨j, by omega, e.symm⟩
        rw [hu] at this; cases this
    · by_cases e2 : j = k
      · rw [e2, qset_at, qset_lt (show i < k by omega)] at e
        have : qu p k y = true := qu_iff.mpr ⟨i, by omega, e⟩
        rw [hu] at this; cases this
      · rw [qset_lt (show i < k by omega), qset_lt (show j < k by omega)] at e
        exact g2 i j (by omega) (by omega) e
  · by_cases e1 : i = k
    · by_cases e2 : j = k
      · rw [e1, e2, hA.2, hA.2]
      · rw [e1, qset_at, qset_lt (show j < k by omega)]; exact h2 j (by omega)
    · by_cases e2 : j = k
      · rw [e2, qset_at, qset_lt (show i < k by omega), hA.1, hA.1 i]; exact h2 i (by omega)
      · rw [qset_lt (show i < k by omega), qset_lt (show j < k by omega)]; exact g3 i j (by omega) (by omega)
  · by_cases e1 : i = k
    · rw [e1, qset_at]; exact h1 (by omega)
    · rw [qset_lt (show i < k by omega)]; exact g4 i (by omega) e
/-- what the first one below a child says of its node -/
theorem qx1_up {n : Nat} {A : Nat → Nat → Bool} {a b k y : Nat} {p q : Nat → Nat} (hk : k < n) (h : qx1 n A a b (k + 1) (qset p k y) q) (hlow : ∀ r, qx n A a b k p r → ¬ r k < y) : qx1 n A a b k p q := by
  obtain ⟨⟨h1, h2, h3⟩, h4⟩ := h
  have hqk : q k = y := by rw [h3 k (by omega), qset_at]
  have hqi : ∀ i, i < k → q i = p i := fun i hi => by rw [h3 i (by omega), qset_lt hi]
  refine ⟨⟨h1, h2, hqi⟩, fun r hr => ?_⟩
  by_cases e : r k = y
  · refine h4 r ⟨hr.1, hr.2.1, fun i hi => ?_⟩
    by_cases e1 : i = k
    · rw [e1, qset_at]; exact e
    · rw [qset_lt (show i < k by omega)]; exact hr.2.2 i (by omega)
  · have := hlow r hr
    exact Or.inr ⟨k, hk, fun i hi => by rw [hqi i hi, hr.2.2 i hi], by omega⟩
theorem qx_down {n : Nat} {A : Nat → Nat → Bool} {a b k y : Nat} {p r : Nat → Nat} (hr : qx n A a b k p r) (e : r k = y) : qx n A a b (k + 1) (qset p k y) r := ⟨hr.1, hr.2.1, fun i hi => by
  by_cases e1 : i = k
  · rw [e1, qset_at]; exact e
  · rw [qset_lt (show i < k by omega)]; exact hr.2.2 i (by omega)⟩
theorem qx_free {n : Nat} {A : Nat → Nat → Bool} {a b k : Nat} {p r : Nat → Nat} (hk : k < n) (hr : qx n A a b k p r) : qu p k (r k) = false := mc_fit hr.1.1 hk hr.2.2
