/-! edges: half the sum of degrees is the number of bits of the code -/
def qE (A : Nat → Nat → Bool) (n : Nat) : Nat := fb_sm (fun b => fb_ct (fun a => A a b) b) n
theorem qE_sum {A : Nat → Nat → Bool} (hA : qg_ok A) : ∀ n, fb_sm (fun v => fb_ct (A v) n) n = 2 * qE A n := by
  intro n
  induction n with
  | zero => rfl
  | succ n ih =>
    have e1 : fb_sm (fun v => fb_ct (A v) (n + 1)) n = fb_sm (fun v => fb_ct (A v) n) n + fb_ct (fun a => A a n) n := by
      rw [ct_sm (fun a => A a n), ← fb_sm_add]
      refine fb_sm_cong (fun v _ => ?_)
      rw [fb_ct_succ]
      cases A v n <;> rfl
    have e2 : fb_ct (A n) (n + 1) = fb_ct (fun a => A a n) n := by
      rw [fb_ct_succ, hA.2 n, if_neg (by decide), Nat.add_zero]
      exact fb_ct_cong (fun k _ => hA.1 n k)
    show fb_sm (fun v => fb_ct (A v) (n + 1)) n + fb_ct (A n) (n + 1) = 2 * (qE A n + fb_ct (fun a => A a n) n)
    rw [e1, e2, ih]; omega
theorem bc_app {x y b m : Nat} (hy : y < 2 ^ b) : fb_ct (fun u => (x * 2 ^ b + y).testBit u) (b + m) = fb_ct (fun u => y.testBit u) b + fb_ct (fun u => x.testBit u) m := by
  rw [fb_ct_split]
  congr 1
  · refine fb_ct_cong (fun k hk => ?_)
    rw [Nat.mul_comm, Nat.testBit_two_pow_mul_add _ hy, if_pos hk]
  · refine fb_ct_cong (fun k hk => ?_)
    rw [Nat.mul_comm, Nat.testBit_two_pow_mul_add _ hy, if_neg (by omega), show b + k - b = k by omega]
theorem bc_col (A : Nat → Nat → Bool) (b : Nat) : ∀ a, qg_col A b a < 2 ^ a ∧ fb_ct (fun u => (qg_col A b a).testBit u) a = fb_ct (fun u => A u b) a := by
  intro a
  induction a with
  | zero => exact ⟨by show 0 < 1; decide, rfl⟩
  | succ a ih =>
    have hb : (A a b).toNat < 2 ^ 1 := by cases A a b <;> decide
    have h := bc_app (x := qg_col A b a) (m := a) hb
    have e : qg_col A b (a + 1) = qg_col A b a * 2 ^ 1 + (A a b).toNat := by
      show 2 * qg_col A b a + (A a b).toNat = _
      omega
    refine ⟨?_, ?_⟩
    · rw [e, Nat.pow_succ]; omega
    · rw [e, Nat.add_comm a 1, h, ih.2, Nat.add_comm 1 a, fb_ct_succ (fun u => A u b)]
      have : fb_ct (fun u => (A a b).toNat.testBit u) 1 = if A a b then 1 else 0 := by cases A a b <;> rfl
      rw [this]; omega
theorem bc_cd (A : Nat → Nat → Bool) : ∀ n, fb_ct (fun u => (qg_cd A n).testBit u) (qg_tri n) = qE A n := by
  intro n
  induction n with
  | zero => rfl
  | succ n ih =>
    show fb_ct (fun u => (qg_cd A n * 2 ^ n + qg_col A n n).testBit u) (qg_tri n + n) = qE A n + fb_ct (fun a => A a n) n
    rw [Nat.add_comm (qg_tri n) n, bc_app (bc_col A n n).1, (bc_col A n n).2, ih, Nat.add_comm]
theorem bc_code {n c : Nat} (hn : n ≤ 8) (hc : c < 2 ^ qg_tri n) : fb_ct (fun u => c.testBit u) 30 = qE (qg_ad n c) n := by
  have h28 := qg_tri8 n (by omega)
  have h := fb_ct_split (fun u => c.testBit u) (qg_tri n) (30 - qg_tri n)
  rw [show qg_tri n + (30 - qg_tri n) = 30 by omega] at h
  have hz : fb_ct (fun k => c.testBit (qg_tri n + k)) (30 - qg_tri n) = 0 := fb_ct_zero.mpr (fun k _ => Nat.testBit_lt_two_pow (Nat.lt_of_lt_of_le hc (Nat.pow_le_pow_right (by decide) (by omega))))
  rw [h, hz, Nat.add_zero]
  have := bc_cd (qg_ad n c) n
  rw [qg_cd_ad hc] at this
  exact this
theorem qE_lt {A : Nat → Nat → Bool} {n : Nat} (hn : n ≤ 8) : qE A n ≤ 64 := by
  have : qE A n ≤ n * 8 := fb_sm_bound (fun k hk => Nat.le_trans (fb_ct_le _ k) (by omega))
  omega
theorem ni_half : ∀ a, a < 65 → nI (2 * a) / 2 = nI a := by decide +kernel
theorem gx_edges' {M : jm_M} {g n : Nat} {A : Nat → Nat → Bool} (h : gx M g n A) (hA : qg_ok A) (hn : n ≤ 8) : jp_E (fun k => X4_edges k g M = some (nI (qE A n))) := by
  have := gx_edges h hn
  have e := qE_lt (A := A) hn
  rw [qE_sum hA, ni_half _ (by omega)] at this
  exact this
theorem m_edges {n c : Nat} (hn : n ≤ 8) (hc : c < 2 ^ qg_tri n) : jp_E (fun k => X9_bits k (nI c) = some (nI (qE (qg_ad n c) n))) := by
  have h := m_bits (x := c) (Nat.lt_trans (qt28 hn hc) (by decide))
  rw [bc_code hn hc] at h
  exact h
