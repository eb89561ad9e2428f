/-! GRAPHS: adjacency A, codes qg_cd, columns qg_col, row masks qg_mask, a vertex left out qg_del -/
def qg_tri : Nat → Nat
  | 0 => 0
  | n + 1 => qg_tri n + n
def qg_col (A : Nat → Nat → Bool) (b : Nat) : Nat → Nat
  | 0 => 0
  | a + 1 => 2 * qg_col A b a + (A a b).toNat
def qg_cd (A : Nat → Nat → Bool) : Nat → Nat
  | 0 => 0
  | b + 1 => qg_cd A b * 2 ^ b + qg_col A b b
def qg_mask (f : Nat → Bool) : Nat → Nat
  | 0 => 0
  | u + 1 => qg_mask f u + (f u).toNat * 2 ^ u
theorem qg_tn (b : Bool) : b.toNat ≤ 1 := by cases b <;> decide
theorem qg_tri_two : ∀ n, 2 * qg_tri n = n * (n - 1)
  | 0 => rfl
  | n + 1 => by
    have h := qg_tri_two n
    show 2 * (qg_tri n + n) = (n + 1) * n
    cases n with
    | zero => rfl
    | succ n =>
      have : (n + 1) * (n + 1 - 1) = n * n + n := by simp [Nat.add_mul]
      have e2 : (n + 1 + 1) * (n + 1) = n * n + 3 * n + 2 := by simp [Nat.add_mul, Nat.mul_add]; omega
      omega
theorem qg_tri_mono {a b : Nat} (h : a ≤ b) : qg_tri a ≤ qg_tri b := by
  induction b with
  | zero => rw [show a = 0 by omega]; exact Nat.le_refl _
  | succ b ih =>
    by_cases e : a = b + 1
    · rw [e]; exact Nat.le_refl _
    · have := ih (by omega)
      show qg_tri a ≤ qg_tri b + b
      omega
theorem qg_col_lt (A : Nat → Nat → Bool) (b : Nat) : ∀ a, qg_col A b a < 2 ^ a
  | 0 => Nat.zero_lt_one
  | a + 1 => by
    have := qg_col_lt A b a
    have h2 := qg_tn (A a b)
    show 2 * qg_col A b a + _ < _
    rw [Nat.pow_succ]; omega
theorem qg_col_bit (A : Nat → Nat → Bool) (b : Nat) : ∀ a i, i < a → (qg_col A b a).testBit (a - 1 - i) = A i b
  | 0, i, h => absurd h (Nat.not_lt_zero i)
  | a + 1, i, h => by
    show (2 * qg_col A b a + (A a b).toNat).testBit _ = _
    by_cases e : i = a
    · subst e
      rw [show i + 1 - 1 - i = 0 by omega, Nat.testBit_zero]
      cases A i b <;> simp <;> omega
    · have ih := qg_col_bit A b a i (by omega)
      rw [show a + 1 - 1 - i = (a - 1 - i) + 1 by omega, Nat.testBit_succ]
      rw [show (2 * qg_col A b a + (A a b).toNat) / 2 = qg_col A b a by have := qg_tn (A a b); omega]
      exact ih
theorem qg_col_cong {A B : Nat → Nat → Bool} {b c : Nat} : ∀ {a : Nat}, (∀ i, i < a → A i b = B i c) → qg_col A b a = qg_col B c a
  | 0, _ => rfl
  | a + 1, h => by
    show 2 * qg_col A b a + _ = 2 * qg_col B c a + _
    rw [qg_col_cong (a := a) (fun i hi => h i (by omega)), h a (by omega)]
theorem qg_cd_cong {A B : Nat → Nat → Bool} : ∀ {n : Nat}, (∀ a b, a < b → b < n → A a b = B a b) → qg_cd A n = qg_cd B n
  | 0, _ => rfl
  | b + 1, h => by
    show qg_cd A b * 2 ^ b + _ = qg_cd B b * 2 ^ b + _
    rw [qg_cd_cong (n := b) (fun i j hi hj => h i j hi (by omega)), qg_col_cong (fun i hi => h i b hi (by omega))]
theorem qg_cd_lt (A : Nat → Nat → Bool) : ∀ n, qg_cd A n < 2 ^ qg_tri n
  | 0 => Nat.zero_lt_one
  | b + 1 => by
    have h1 := qg_cd_lt A b
    have h2 := qg_col_lt A b b
    show qg_cd A b * 2 ^ b + qg_col A b b < 2 ^ (qg_tri b + b)
    rw [Nat.pow_add]
    have : qg_cd A b * 2 ^ b + 2 ^ b ≤ 2 ^ qg_tri b * 2 ^ b := by
      rw [← Nat.succ_mul]
      exact Nat.mul_le_mul_right _ h1
    omega
theorem qg_cd_bit (A : Nat → Nat → Bool) : ∀ n a b, a < b → b < n → (qg_cd A n).testBit (qg_tri n - 1 - (qg_tri b + a)) = A a b
  | 0, a, b, _, h => absurd h (Nat.not_lt_zero b)
  | n + 1, a, b, hab, hb => by
    have hlt := qg_col_lt A n n
    show (qg_cd A n * 2 ^ n + qg_col A n n).testBit (qg_tri n + n - 1 - (qg_tri b + a)) = _
    rw [Nat.mul_comm (qg_cd A n)]
    by_cases e : b = n
    · subst e
      rw [show qg_tri b + b - 1 - (qg_tri b + a) = b - 1 - a by omega, Nat.testBit_two_pow_mul_add _ hlt, if_pos (by omega)]
      exact qg_col_bit A b b a hab
    · have ht : qg_tri b + a < qg_tri n := by
        have h1 := qg_tri_mono (show b + 1 ≤ n by omega)
        have : qg_tri (b + 1) = qg_tri b + b := rfl
        omega
      rw [Nat.testBit_two_pow_mul_add _ hlt, if_neg (by omega)]
      rw [show qg_tri n + n - 1 - (qg_tri b + a) - n = qg_tri n - 1 - (qg_tri b + a) by omega]
      exact qg_cd_bit A n a b hab (by omega)
/-- the graph of a code -/
def qg_ad (n c u v : Nat) : Bool := if u = v then false else c.testBit (qg_tri n - 1 - (qg_tri (max u v) + min u v))
theorem qg_ad_sym (n c u v : Nat) : qg_ad n c u v = qg_ad n c v u := by
  unfold qg_ad
  rw [Nat.max_comm, Nat.min_comm]
  by_cases h : u = v
  · simp [h]
  · simp [h, Ne.symm h]
theorem qg_ad_irr (n c u : Nat) : qg_ad n c u u = false := by simp [qg_ad]
theorem qg_ad_lt {n c a b : Nat} (h : a < b) : qg_ad n c a b = c.testBit (qg_tri n - 1 - (qg_tri b + a)) := by
  unfold qg_ad
  rw [if_neg (by omega), show max a b = b by omega, show min a b = a by omega]
/-- symmetric, without loops -/
def qg_ok (A : Nat → Nat → Bool) : Prop := (∀ u v, A u v = A v u) ∧ ∀ u, A u u = false
theorem qg_ad_ok (n c : Nat) : qg_ok (qg_ad n c) := ⟨qg_ad_sym n c, qg_ad_irr n c⟩
theorem qg_ad_cd {A : Nat → Nat → Bool} (hA : qg_ok A) {n u v : Nat} (hu : u < n) (hv : v < n) : qg_ad n (qg_cd A n) u v = A u v := by
  rcases Nat.lt_trichotomy u v with h | h | h
  · rw [qg_ad_lt h, qg_cd_bit A n u v h hv]
  · subst h; rw [qg_ad_irr, hA.2]
  · rw [qg_ad_sym, qg_ad_lt h, qg_cd_bit A n v u h hu, hA.1]
theorem qg_cd_ext {n c d : Nat} (hc : c < 2 ^ qg_tri n) (hd : d < 2 ^ qg_tri n) (h : ∀ a b, a < b → b < n → c.testBit (qg_tri n - 1 - (qg_tri b + a)) = d.testBit (qg_tri n - 1 - (qg_tri b + a))) : c = d := by
  apply Nat.eq_of_testBit_eq
  intro i
  by_cases hi : i < qg_tri n
  · have key : ∀ m j, j < qg_tri m → ∃ a b, a < b ∧ b < m ∧ qg_tri b + a = j := by
      intro m
      induction m with
      | zero => intro j hj; exact absurd hj (Nat.not_lt_zero j)
      | succ m ih =>
        intro j hj
        by_cases h1 : j < qg_tri m
        · obtain ⟨a, b, q1, q2, q3⟩ := ih j h1
          exact ⟨a, b, q1, by omega, q3⟩
        · have : j < qg_tri m + m := hj
          exact ⟨j - qg_tri m, m, by omega, by omega, by omega⟩
    obtain ⟨a, b, q1, q2, q3⟩ := key n (qg_tri n - 1 - i) (by omega)
    have := h a b q1 q2
    rw [q3, show qg_tri n - 1 - (qg_tri n - 1 - i) = i by omega] at this
    exact this
  · rw [Nat.testBit_lt_two_pow (Nat.lt_of_lt_of_le hc (Nat.pow_le_pow_right (by decide) (by omega))), Nat.testBit_lt_two_pow (Nat.lt_of_lt_of_le hd (Nat.pow_le_pow_right (by decide) (by omega)))]
theorem qg_cd_ad {n c : Nat} (hc : c < 2 ^ qg_tri n) : qg_cd (qg_ad n c) n = c := by
  refine qg_cd_ext (qg_cd_lt _ n) hc (fun a b h1 h2 => ?_)
  rw [qg_cd_bit _ n a b h1 h2, qg_ad_lt h1]
/-! row masks -/
theorem qg_mask_lt (f : Nat → Bool) : ∀ n, qg_mask f n < 2 ^ n
  | 0 => Nat.zero_lt_one
  | n + 1 => by
    have := qg_mask_lt f n
    show qg_mask f n + _ < _
    rw [Nat.pow_succ]
    cases f n <;> simp <;> omega
theorem qg_mask_bit (f : Nat → Bool) : ∀ n u, (qg_mask f n).testBit u = (decide (u < n) && f u)
  | 0, u => by simp [qg_mask]
  | n + 1, u => by
    have hlt := qg_mask_lt f n
    show (qg_mask f n + (f n).toNat * 2 ^ n).testBit u = _
    rw [Nat.add_comm, Nat.mul_comm, Nat.testBit_two_pow_mul_add _ hlt]
    by_cases h : u < n
    · rw [if_pos h, qg_mask_bit f n u]; simp [h, show u < n + 1 by omega]
    · rw [if_neg h]
      by_cases e : u = n
      · subst e; rw [Nat.sub_self]; cases f u <;> simp
      · have : ¬ u < n + 1 := by omega
        rw [Nat.testBit_lt_two_pow (x := (f n).toNat) (Nat.lt_of_le_of_lt (qg_tn (f n)) (show 1 < 2 ^ (u - n) from Nat.one_lt_two_pow (by omega)))]
        simp [this]
theorem qg_mask_cong {f g : Nat → Bool} : ∀ {n : Nat}, (∀ u, u < n → f u = g u) → qg_mask f n = qg_mask g n
  | 0, _ => rfl
  | n + 1, h => by
    show qg_mask f n + _ = qg_mask g n + _
    rw [qg_mask_cong (n := n) (fun u hu => h u (by omega)), h n (by omega)]
theorem qg_mask_ext {x n : Nat} {f : Nat → Bool} (hx : x < 2 ^ n) (h : ∀ u, u < n → x.testBit u = f u) : x = qg_mask f n := by
  apply Nat.eq_of_testBit_eq
  intro u
  rw [qg_mask_bit]
  by_cases hu : u < n
  · simp [hu, h u hu]
  · simp [hu]
    exact Nat.testBit_lt_two_pow (Nat.lt_of_lt_of_le hx (Nat.pow_le_pow_right (by decide) (by omega)))
/-! a vertex left out -/
def qg_sk (x i : Nat) : Nat := if i < x then i else i + 1
def qg_k (x a : Nat) : Nat := if a ≤ x then a else a - 1
def qg_del (A : Nat → Nat → Bool) (x : Nat) : Nat → Nat → Bool := fun u v => A (qg_sk x u) (qg_sk x v)
theorem qg_sk_k {x a : Nat} (h : a ≠ x) : qg_sk x (qg_k x a) = a := by
  unfold qg_sk qg_k
  split <;> split <;> omega
theorem qg_k_succ {x a : Nat} (h : a ≠ x) : qg_k x (a + 1) = qg_k x a + 1 := by
  unfold qg_k
  split <;> split <;> omega
theorem qg_k_x (x : Nat) : qg_k x (x + 1) = qg_k x x := by
  unfold qg_k
  split <;> split <;> omega
theorem qg_k_le {x a : Nat} (h : a ≤ x) : qg_k x a = a := if_pos h
theorem qg_k_gt {x a : Nat} (h : x < a) : qg_k x a = a - 1 := if_neg (by omega)
/-- the code made so far when a vertices of column b are through -/
def qg_inn (A : Nat → Nat → Bool) (x b acc a : Nat) : Nat := if b = x then acc else acc * 2 ^ qg_k x a + qg_col (qg_del A x) (qg_k x b) (qg_k x a)
def qg_wo (A : Nat → Nat → Bool) (x b : Nat) : Nat := qg_cd (qg_del A x) (qg_k x b)
theorem qg_inn_0 (A : Nat → Nat → Bool) (x b acc : Nat) : qg_inn A x b acc 0 = acc := by
  unfold qg_inn
  split
  · rfl
  · rw [qg_k_le (Nat.zero_le x)]; simp [qg_col]
theorem qg_inn_skip {A : Nat → Nat → Bool} {x b acc a : Nat} (h : a = x ∨ b = x) : qg_inn A x b acc (a + 1) = qg_inn A x b acc a := by
  unfold qg_inn
  rcases h with rfl | rfl
  · rw [qg_k_x]
  · simp
theorem qg_inn_step {A : Nat → Nat → Bool} {x b acc a : Nat} (h : a ≠ x) (hb : b ≠ x) : qg_inn A x b acc (a + 1) = 2 * qg_inn A x b acc a + (A a b).toNat := by
  unfold qg_inn
  rw [if_neg hb, if_neg hb, qg_k_succ h]
  show acc * 2 ^ (qg_k x a + 1) + (2 * qg_col (qg_del A x) (qg_k x b) (qg_k x a) + (qg_del A x (qg_k x a) (qg_k x b)).toNat) = _
  have e : qg_del A x (qg_k x a) (qg_k x b) = A a b := by unfold qg_del; rw [qg_sk_k h, qg_sk_k hb]
  have e2 : acc * 2 ^ (qg_k x a + 1) = 2 * (acc * 2 ^ qg_k x a) := by rw [Nat.pow_succ, ← Nat.mul_assoc, Nat.mul_comm]
  rw [e, Nat.mul_add, e2]; omega
theorem qg_wo_succ (A : Nat → Nat → Bool) (x b : Nat) : qg_wo A x (b + 1) = qg_inn A x b (qg_wo A x b) b := by
  unfold qg_inn qg_wo
  by_cases h : b = x
  · subst h; rw [if_pos rfl, qg_k_x]
  · rw [if_neg h, qg_k_succ h]; rfl
theorem qg_wo_0 (A : Nat → Nat → Bool) (x : Nat) : qg_wo A x 0 = 0 := by
  unfold qg_wo; rw [qg_k_le (Nat.zero_le x)]; rfl
theorem qg_wo_1 (A : Nat → Nat → Bool) (x : Nat) : qg_wo A x 1 = 0 := by
  rw [qg_wo_succ, qg_inn_0, qg_wo_0]
theorem qg_wo_none {A : Nat → Nat → Bool} {x n : Nat} (h : n ≤ x) : qg_wo A x n = qg_cd A n := by
  unfold qg_wo
  rw [qg_k_le h]
  refine qg_cd_cong (fun a b h1 h2 => ?_)
  unfold qg_del qg_sk
  rw [if_pos (by omega), if_pos (by omega)]
theorem qg_wo_in {A : Nat → Nat → Bool} {x n : Nat} (h : x < n) : qg_wo A x n = qg_cd (qg_del A x) (n - 1) := by
  unfold qg_wo; rw [qg_k_gt h]
