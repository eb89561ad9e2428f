/-! eight bytes in a long; columns of a numbering -/
def qk (f : Nat → Nat) : Nat → Nat
  | 0 => 0
  | u + 1 => qk f u + f u * 256 ^ u
theorem qk_lt {f : Nat → Nat} : ∀ {m : Nat}, (∀ u, u < m → f u < 256) → qk f m < 256 ^ m
  | 0, _ => Nat.zero_lt_one
  | m + 1, h => by
    have h1 := qk_lt (m := m) (fun u hu => h u (by omega))
    have h2 := h m (by omega)
    show qk f m + f m * 256 ^ m < 256 ^ (m + 1)
    rw [Nat.pow_succ, Nat.mul_comm (256 ^ m)]
    have : f m * 256 ^ m + 256 ^ m ≤ 256 * 256 ^ m := by rw [← Nat.succ_mul]; exact Nat.mul_le_mul_right _ h2
    omega
theorem qk_byte {f : Nat → Nat} : ∀ {m : Nat}, (∀ u, u < m → f u < 256) → ∀ u, u < m → qk f m / 256 ^ u % 256 = f u
  | 0, _, u, h => absurd h (Nat.not_lt_zero u)
  | m + 1, h, u, hu => by
    have h1 := qk_lt (m := m) (fun u hu => h u (by omega))
    show (qk f m + f m * 256 ^ m) / 256 ^ u % 256 = f u
    by_cases e : u = m
    · subst e
      rw [Nat.add_mul_div_right _ _ (Nat.pow_pos (by decide)), Nat.div_eq_of_lt h1, Nat.zero_add, Nat.mod_eq_of_lt (h u (by omega))]
    · have e2 : 256 ^ m = 256 * 256 ^ (m - u - 1) * 256 ^ u := by
        rw [Nat.mul_comm 256, ← Nat.pow_succ, ← Nat.pow_add]; congr 1; omega
      rw [e2, ← Nat.mul_assoc, Nat.add_mul_div_right _ _ (Nat.pow_pos (by decide)), ← Nat.mul_assoc, Nat.mul_comm (f m), Nat.mul_assoc, Nat.add_mul_mod_self_left]
      exact qk_byte (m := m) (fun u hu => h u (by omega)) u (by omega)
theorem qk_cong {f g : Nat → Nat} : ∀ {m : Nat}, (∀ u, u < m → f u = g u) → qk f m = qk g m
  | 0, _ => rfl
  | m + 1, h => by
    show qk f m + _ = qk g m + _
    rw [qk_cong (m := m) (fun u hu => h u (by omega)), h m (by omega)]
theorem or_split {P k a b X Y : Nat} (hP : P = 2 ^ k) (hX : X < P) (hY : Y < P) : (X + a * P) ||| (Y + b * P) = (X ||| Y) + (a ||| b) * P := by
  subst hP
  have hXY : X ||| Y < 2 ^ k := Nat.or_lt_two_pow hX hY
  apply Nat.eq_of_testBit_eq
  intro i
  rw [Nat.testBit_or, Nat.add_comm X, Nat.add_comm Y, Nat.add_comm (X ||| Y), Nat.mul_comm a, Nat.mul_comm b, Nat.mul_comm (a ||| b), Nat.testBit_two_pow_mul_add _ hX, Nat.testBit_two_pow_mul_add _ hY, Nat.testBit_two_pow_mul_add _ hXY]
  by_cases h : i < k
  · rw [if_pos h, if_pos h, if_pos h, Nat.testBit_or]
  · rw [if_neg h, if_neg h, if_neg h, Nat.testBit_or]
theorem or_dig (a b : Nat) (hb : b < 2) : 2 * a ||| b = 2 * a + b := by
  have h := Nat.two_pow_add_eq_or_of_lt (i := 1) (b := b) (by omega) a
  rw [Nat.pow_one] at h
  exact h.symm
theorem qk_two {f : Nat → Nat} : ∀ {m : Nat}, 2 * qk f m = qk (fun u => 2 * f u) m
  | 0 => rfl
  | m + 1 => by
    show 2 * (qk f m + f m * 256 ^ m) = qk _ m + 2 * f m * 256 ^ m
    rw [Nat.mul_add, qk_two (m := m), Nat.mul_assoc]
theorem qk_or {f g : Nat → Nat} : ∀ {m : Nat}, (∀ u, u < m → f u < 128) → (∀ u, u < m → g u < 2) → (2 * qk f m) ||| qk g m = qk (fun u => 2 * f u + g u) m
  | 0, _, _ => by simp [qk]
  | m + 1, h1, h2 => by
    have ih := qk_or (m := m) (fun u hu => h1 u (by omega)) (fun u hu => h2 u (by omega))
    have hP : 256 ^ m = 2 ^ (8 * m) := by rw [Nat.pow_mul]
    have l1 : 2 * qk f m < 256 ^ m := by
      rw [qk_two]; exact qk_lt (fun u hu => by have := h1 u (by omega); omega)
    have l2 : qk g m < 256 ^ m := qk_lt (fun u hu => by have := h2 u (by omega); omega)
    show (2 * (qk f m + f m * 256 ^ m)) ||| (qk g m + g m * 256 ^ m) = qk _ m + (2 * f m + g m) * 256 ^ m
    rw [Nat.mul_add, ← Nat.mul_assoc, or_split hP l1 l2, ih, or_dig _ _ (h2 m (by omega))]
theorem ql_shr {a d : Nat} {D : Int64} (hD : (D.toBitVec.smod 64).toNat = d) (h : a < 2 ^ 63) : lN a >>> D = lN (a / 2 ^ d) := by
  have hd : a / 2 ^ d ≤ a := Nat.div_le_self _ _
  apply Int64.toInt_inj.mp
  have e : (lN a >>> D).toInt = (lN a).toInt >>> d := by
    rw [← hD]
    exact BitVec.toInt_sshiftRight ..
  rw [e, Int.shiftRight_eq_div_pow, pf_lI (by omega), pf_lI (by omega)]
  rfl
theorem ql_D : ∀ u, u < 8 → ((((8 : Int32) * nI u).toInt64 &&& 63).toBitVec.smod 64).toNat = 8 * u := by decide +kernel
/-- a byte of the long -/
theorem ql_byte {f : Nat → Nat} (hf : ∀ u, u < 8 → f u < 128) {u : Nat} (hu : u < 8) : ((lN (qk f 8) >>> (((8 : Int32) * nI u).toInt64 &&& 63)) &&& (255 : Int64)) = lN (f u) := by
  have hb : qk f 8 < 2 ^ 63 := by
    have h1 : qk f 7 < 256 ^ 7 := qk_lt (fun u hu => by have := hf u (by omega); omega)
    have h2 := hf 7 (by decide)
    show qk f 7 + f 7 * 256 ^ 7 < 2 ^ 63
    have e1 : (256 : Nat) ^ 7 = 72057594037927936 := by decide
    have e2 : (2 : Nat) ^ 63 = 9223372036854775808 := by decide
    rw [e1] at h1 ⊢
    rw [e2]
    omega
  rw [ql_shr (ql_D u hu) hb, show (255 : Int64) = lN (2 ^ 8 - 1) from rfl, wb_mask (by
    exact Nat.lt_of_le_of_lt (Nat.div_le_self _ _) (Nat.lt_trans hb (by decide))) (by decide)]
  rw [Nat.pow_mul, show (2 : Nat) ^ 8 = 256 from rfl, qk_byte (fun u hu => by have := hf u hu; omega) u hu]
theorem ql_low : ∀ x : Int64, x.toInt32 &&& 255 = (x &&& 255).toInt32 := fun x => by
  apply Int32.toBitVec_inj.mp
  rw [Int32.toBitVec_and, Int64.toBitVec_toInt32, Int64.toBitVec_toInt32, Int64.toBitVec_and, BitVec.signExtend_eq_setWidth_of_le _ (by decide), BitVec.signExtend_eq_setWidth_of_le _ (by decide)]
  apply BitVec.eq_of_getLsbD_eq
  intro i hi
  rw [BitVec.getLsbD_and, BitVec.getLsbD_setWidth, BitVec.getLsbD_setWidth, BitVec.getLsbD_and]
  have : (255 : Int32).toBitVec.getLsbD i = (255 : Int64).toBitVec.getLsbD i := by
    have : ∀ i, i < 32 → (255 : Int32).toBitVec.getLsbD i = (255 : Int64).toBitVec.getLsbD i := by decide +kernel
    exact this i hi
  rw [this]
  simp [hi]
theorem ql_i {a : Nat} (h : a < 2 ^ 31) : (lN a).toInt32 = nI a := by
  apply Int32.toBitVec_inj.mp
  rw [Int64.toBitVec_toInt32, BitVec.signExtend_eq_setWidth_of_le _ (by decide)]
  show (BitVec.ofNat 64 a).setWidth 32 = BitVec.ofNat 32 a
  apply BitVec.eq_of_toNat_eq
  simp
theorem ql_byteI {f : Nat → Nat} (hf : ∀ u, u < 8 → f u < 128) {u : Nat} (hu : u < 8) : ((lN (qk f 8) >>> (((8 : Int32) * nI u).toInt64 &&& 63)).toInt32 &&& (255 : Int32)) = nI (f u) := by
  rw [ql_low, ql_byte hf hu, ql_i (by have := hf u hu; omega)]
theorem ql_cmp {a b : Nat} (ha : a < 2 ^ 31) (hb : b < 2 ^ 31) : (lg_cmp (lN a) (nI b).toInt64 = 0) ↔ a = b := by
  rw [nI_l hb]
  unfold lg_cmp
  constructor
  · intro h
    split at h
    · cases h
    · split at h
      · next e => exact (lN_eq ha hb).mp e
      · cases h
  · intro h
    subst h
    rw [if_neg (by intro h; have := (lN_lt ha ha).mp h; omega), if_pos rfl]
/-! the columns of a numbering, as a sequence -/
def qB (B : Nat → Nat) : Nat → Nat
  | 0 => 0
  | i + 1 => qB B i * 2 ^ i + B i
theorem qB_cong {B C : Nat → Nat} : ∀ {n : Nat}, (∀ i, i < n → B i = C i) → qB B n = qB C n
  | 0, _ => rfl
  | n + 1, h => by
    show qB B n * _ + _ = qB C n * _ + _
    rw [qB_cong (n := n) (fun i hi => h i (by omega)), h n (by omega)]
theorem qB_qc {A : Nat → Nat → Bool} (hA : qg_ok A) (q : Nat → Nat) : ∀ n, qB (fun i => qd A q (q i) i) n = qc A q n
  | 0 => rfl
  | n + 1 => by rw [qc_succ hA, ← qB_qc hA q n]; rfl
/-- the first place where two sequences differ decides -/
theorem qB_lt {C D : Nat → Nat} {k : Nat} : ∀ {n : Nat}, (∀ i, i < n → C i < 2 ^ i) → (∀ i, i < k → C i = D i) → C k < D k → k < n → qB C n < qB D n
  | 0, _, _, _, h => absurd h (Nat.not_lt_zero k)
  | n + 1, hC, he, hlt, hk => by
    show qB C n * 2 ^ n + C n < qB D n * 2 ^ n + D n
    by_cases e : k = n
    · subst e
      rw [qB_cong he]; omega
    · have ih := qB_lt (n := n) (fun i hi => hC i (by omega)) he hlt (by omega)
      have h1 : qB C n * 2 ^ n + 2 ^ n ≤ qB D n * 2 ^ n := by rw [← Nat.succ_mul]; exact Nat.mul_le_mul_right _ ih
      have h2 := hC n (by omega)
      omega
