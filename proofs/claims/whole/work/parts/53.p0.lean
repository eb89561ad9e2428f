/-! PURE TOOLS: 'from some fuel on', loops as traces, memory rows, ints as naturals -/
def jp_E (P : Nat → Prop) : Prop := ∃ k, ∀ n, k ≤ n → P n
theorem jp_E.all {P : Nat → Prop} (h : ∀ n, P n) : jp_E P := ⟨0, fun n _ => h n⟩
theorem jp_E.imp {P Q : Nat → Prop} (h : jp_E P) (f : ∀ n, P n → Q n) : jp_E Q := by
  obtain ⟨k, hk⟩ := h
  exact ⟨k, fun n hn => f n (hk n hn)⟩
theorem jp_E.imp2 {P P2 Q : Nat → Prop} (h : jp_E P) (h2 : jp_E P2) (f : ∀ n, P n → P2 n → Q n) : jp_E Q := by
  obtain ⟨k, hk⟩ := h
  obtain ⟨k2, hk2⟩ := h2
  exact ⟨max k k2, fun n hn => f n (hk n (by omega)) (hk2 n (by omega))⟩
theorem jp_E.imp3 {P P2 P3 Q : Nat → Prop} (h : jp_E P) (h2 : jp_E P2) (h3 : jp_E P3) (f : ∀ n, P n → P2 n → P3 n → Q n) : jp_E Q := by
  obtain ⟨k, hk⟩ := h
  obtain ⟨k2, hk2⟩ := h2
  obtain ⟨k3, hk3⟩ := h3
  exact ⟨max k (max k2 k3), fun n hn => f n (hk n (by omega)) (hk2 n (by omega)) (hk3 n (by omega))⟩
theorem jp_E.imp4 {P P2 P3 P4 Q : Nat → Prop} (h : jp_E P) (h2 : jp_E P2) (h3 : jp_E P3) (h4 : jp_E P4) (f : ∀ n, P n → P2 n → P3 n → P4 n → Q n) : jp_E Q :=
  jp_E.imp3 h h2 (jp_E.imp2 h3 h4 (fun n a b => And.intro a b)) (fun n a b c => f n a b c.1 c.2)
theorem jp_E.out {P : Nat → Prop} (h : jp_E P) : ∃ n, P n := by
  obtain ⟨k, hk⟩ := h
  exact ⟨k, hk k (Nat.le_refl k)⟩
theorem jp_E.out2 {P Q : Nat → Prop} (h : jp_E P) (h2 : jp_E Q) : ∃ n, P n ∧ Q n := (jp_E.imp2 h h2 (fun n a b => And.intro a b)).out
theorem jm_loop_inl {S Rr : Type} {body : S → Option (S ⊕ Rr)} {n : Nat} {s s1 : S} (h : body s = some (.inl s1)) : jm_loop body (n + 1) s = jm_loop body n s1 := by
  show (body s).bind _ = _
  rw [h]; rfl
theorem jm_loop_inr {S Rr : Type} {body : S → Option (S ⊕ Rr)} {n : Nat} {s : S} {r : Rr} (h : body s = some (.inr r)) : jm_loop body (n + 1) s = some r := by
  show (body s).bind _ = _
  rw [h]; rfl
/-- the loop of a body that may need fuel itself comes to r -/
def jp_L {S Rr : Type} (body : Nat → S → Option (S ⊕ Rr)) (s : S) (r : Rr) : Prop := ∃ k, ∀ n, k ≤ n → ∀ m, k ≤ m → jm_loop (body n) m s = some r
theorem jp_L.done {S Rr : Type} {body : Nat → S → Option (S ⊕ Rr)} {s : S} {r : Rr} (h : jp_E (fun n => body n s = some (.inr r))) : jp_L body s r := by
  obtain ⟨k, hk⟩ := h
  refine ⟨k + 1, fun n hn m hm => ?_⟩
  obtain ⟨m, rfl⟩ : ∃ q, m = q + 1 := ⟨m - 1, by omega⟩
  exact jm_loop_inr (hk n (by omega))
theorem jp_L.step {S Rr : Type} {body : Nat → S → Option (S ⊕ Rr)} {s s1 : S} {r : Rr} (h : jp_E (fun n => body n s = some (.inl s1))) (h2 : jp_L body s1 r) : jp_L body s r := by
  obtain ⟨k, hk⟩ := h
  obtain ⟨k2, hk2⟩ := h2
  refine ⟨max k k2 + 1, fun n hn m hm => ?_⟩
  obtain ⟨m, rfl⟩ : ∃ q, m = q + 1 := ⟨m - 1, by omega⟩
  rw [jm_loop_inl (hk n (by omega))]
  exact hk2 n (by omega) m (by omega)
theorem jp_L.use {S Rr : Type} {body : Nat → S → Option (S ⊕ Rr)} {s : S} {r : Rr} (h : jp_L body s r) : jp_E (fun n => jm_loop (body n) n s = some r) := by
  obtain ⟨k, hk⟩ := h
  exact ⟨k, fun n hn => hk n hn n hn⟩
/-- a counted loop: σ v is its state when v rounds are through -/
theorem jp_L.for {S Rr : Type} {body : Nat → S → Option (S ⊕ Rr)} {r : Rr} (σ : Nat → S) (N : Nat) (hs : ∀ v, v < N → jp_E (fun n => body n (σ v) = some (.inl (σ (v + 1))))) (hd : jp_E (fun n => body n (σ N) = some (.inr r))) : ∀ a, a ≤ N → jp_L body (σ a) r := by
  have key : ∀ j a, a + j = N → jp_L body (σ a) r := by
    intro j
    induction j with
    | zero => intro a h; rw [show a = N by omega]; exact jp_L.done hd
    | succ j ih => intro a h; exact jp_L.step (hs a (by omega)) (ih (a + 1) (by omega))
  exact fun a h => key (N - a) a (by omega)
/-- the same for a body that needs no fuel -/
def jp_K {S Rr : Type} (body : S → Option (S ⊕ Rr)) (s : S) (r : Rr) : Prop := jp_E (fun m => jm_loop body m s = some r)
theorem jp_K.done {S Rr : Type} {body : S → Option (S ⊕ Rr)} {s : S} {r : Rr} (h : body s = some (.inr r)) : jp_K body s r := by
  refine ⟨1, fun m hm => ?_⟩
  obtain ⟨m, rfl⟩ : ∃ q, m = q + 1 := ⟨m - 1, by omega⟩
  exact jm_loop_inr h
theorem jp_K.step {S Rr : Type} {body : S → Option (S ⊕ Rr)} {s s1 : S} {r : Rr} (h : body s = some (.inl s1)) (h2 : jp_K body s1 r) : jp_K body s r := by
  obtain ⟨k2, hk2⟩ := h2
  refine ⟨k2 + 1, fun m hm => ?_⟩
  obtain ⟨m, rfl⟩ : ∃ q, m = q + 1 := ⟨m - 1, by omega⟩
  rw [jm_loop_inl h]
  exact hk2 m (by omega)
theorem jp_K.for {S Rr : Type} {body : S → Option (S ⊕ Rr)} {r : Rr} (σ : Nat → S) (N : Nat) (hs : ∀ v, v < N → body (σ v) = some (.inl (σ (v + 1)))) (hd : body (σ N) = some (.inr r)) : ∀ a, a ≤ N → jp_K body (σ a) r := by
  have key : ∀ j a, a + j = N → jp_K body (σ a) r := by
    intro j
    induction j with
    | zero => intro a h; rw [show a = N by omega]; exact jp_K.done hd
    | succ j ih => intro a h; exact jp_K.step (hs a (by omega)) (ih (a + 1) (by omega))
  exact fun a h => key (N - a) a (by omega)
/-! memory rows -/
def jm_put (M : jm_M) (i : Nat) (f : Nat → Int32) : jm_M := (fun a => if a = i then f else M.1 a, M.2)
def jm_putL (M : jm_M) (i : Nat) (f : Nat → Int64) : jm_M := (M.1, fun a => if a = i then f else M.2 a)
theorem jm_set_put (M : jm_M) (i j : Nat) (v : Int32) : jm_set M i j v = jm_put M i (upd (M.1 i) j v) := by
  unfold jm_set jm_put
  congr 1
  funext a b
  by_cases h : a = i
  · subst h; simp [upd]
  · simp [h]
theorem jm_setL_put (M : jm_M) (i j : Nat) (v : Int64) : jm_setL M i j v = jm_putL M i (vp_updL (M.2 i) j v) := by
  unfold jm_setL jm_putL
  congr 1
  funext a b
  by_cases h : a = i
  · subst h; simp [vp_updL]
  · simp [h]
theorem jm_put_at (M : jm_M) (i : Nat) (f : Nat → Int32) : (jm_put M i f).1 i = f := by simp [jm_put]
theorem jm_put_ne (M : jm_M) {i a : Nat} (f : Nat → Int32) (h : a ≠ i) : (jm_put M i f).1 a = M.1 a := by simp [jm_put, h]
theorem jm_put_2 (M : jm_M) (i : Nat) (f : Nat → Int32) : (jm_put M i f).2 = M.2 := rfl
theorem jm_putL_1 (M : jm_M) (i : Nat) (f : Nat → Int64) : (jm_putL M i f).1 = M.1 := rfl
theorem jm_putL_at (M : jm_M) (i : Nat) (f : Nat → Int64) : (jm_putL M i f).2 i = f := by simp [jm_putL]
theorem jm_put_put (M : jm_M) (i : Nat) (f g : Nat → Int32) : jm_put (jm_put M i f) i g = jm_put M i g := by
  unfold jm_put
  congr 1
  funext a
  by_cases h : a = i <;> simp [h]
theorem jm_putL_putL (M : jm_M) (i : Nat) (f g : Nat → Int64) : jm_putL (jm_putL M i f) i g = jm_putL M i g := by
  unfold jm_putL
  congr 1
  funext a
  by_cases h : a = i <;> simp [h]
theorem jm_put_self (M : jm_M) (i : Nat) : jm_put M i (M.1 i) = M := by
  unfold jm_put
  have : (fun a => if a = i then M.1 i else M.1 a) = M.1 := by
    funext a
    by_cases h : a = i
    · subst h; simp
    · simp [h]
  rw [this]
theorem jm_put_swap (M : jm_M) {i j : Nat} (f g : Nat → Int32) (h : i ≠ j) : jm_put (jm_put M i f) j g = jm_put (jm_put M j g) i f := by
  unfold jm_put
  congr 1
  funext a
  by_cases h1 : a = i
  · subst h1; simp [h]
  · simp [h1]
/-- M and M' are alike outside the cells S -/
def jp_eq (S : List Nat) (M M' : jm_M) : Prop := ∀ i, i ∉ S → M'.1 i = M.1 i ∧ M'.2 i = M.2 i
theorem jp_eq.rfl' {S : List Nat} {M : jm_M} : jp_eq S M M := fun _ _ => ⟨rfl, rfl⟩
theorem jp_eq.put {S : List Nat} {M M' : jm_M} {i : Nat} {f : Nat → Int32} (h : jp_eq S M M') (hi : i ∈ S) : jp_eq S M (jm_put M' i f) := fun a ha => by
  have : a ≠ i := fun e => ha (e ▸ hi)
  exact ⟨(jm_put_ne M' f this).trans (h a ha).1, (h a ha).2⟩
theorem jp_eq.trans {S : List Nat} {M M1 M2 : jm_M} (h : jp_eq S M M1) (h2 : jp_eq S M1 M2) : jp_eq S M M2 := fun a ha => ⟨(h2 a ha).1.trans (h a ha).1, (h2 a ha).2.trans (h a ha).2⟩
theorem jp_eq.sub {S S2 : List Nat} {M M1 : jm_M} (h : jp_eq S M M1) (hs : ∀ i, i ∈ S → i ∈ S2) : jp_eq S2 M M1 := fun a ha => h a (fun q => ha (hs a q))
/-! reads and writes in range -/
theorem jp_ga {f : Nat → Int32} {n j : Nat} (h : j < n) (hn : n < 2 ^ 31) : jm_ga f n (nI j) = some (f j) := by
  unfold jm_ga
  rw [if_neg (nI_in h hn), nI_clamp (by omega)]
theorem jp_gl {f : Nat → Int64} {n j : Nat} (h : j < n) (hn : n < 2 ^ 31) : jm_gl f n (nI j) = some (f j) := by
  unfold jm_gl
  rw [if_neg (nI_in h hn), nI_clamp (by omega)]
theorem jp_gq {q n j : Nat} (h : j < n) (hn : n < 2 ^ 31) : jm_gq q n (nI j) = some (jm_rf q j) := by
  unfold jm_gq
  rw [if_neg (nI_in h hn), nI_clamp (by omega)]
theorem jp_sa {M : jm_M} {a n j : Nat} {v : Int32} (h : j < n) (hn : n < 2 ^ 31) : jm_sa M a n (nI j) v = some (jm_put M a (upd (M.1 a) j v)) := by
  unfold jm_sa
  rw [if_neg (nI_in h hn), nI_clamp (by omega), jm_set_put]
theorem jp_sl {M : jm_M} {a n j : Nat} {v : Int64} (h : j < n) (hn : n < 2 ^ 31) : jm_sl M a n (nI j) v = some (jm_putL M a (vp_updL (M.2 a) j v)) := by
  unfold jm_sl
  rw [if_neg (nI_in h hn), nI_clamp (by omega), jm_setL_put]
/-! ints as naturals -/
theorem ni_shl (a : Nat) {k : Nat} (hk : k < 32) : nI a <<< (nI k &&& 31) = nI (a <<< k) := by
  apply b_ext
  intro i hi
  rw [b_shl k hk _ hi]
  have e : ∀ (x i : Nat), i < 32 → bt (nI x) i = x.testBit i := fun x i hi => by
    show (BitVec.ofNat 32 x).getLsbD i = _
    rw [BitVec.getLsbD_ofNat]; simp [hi]
  rw [e _ _ hi, e _ _ (by omega), Nat.testBit_shiftLeft]
theorem ni_bt (x : Nat) {i : Nat} (hi : i < 32) : bt (nI x) i = x.testBit i := by
  show (BitVec.ofNat 32 x).getLsbD i = _
  rw [BitVec.getLsbD_ofNat]; simp [hi]
theorem ni_shr {a k : Nat} (ha : a < 2 ^ 31) (hk : k < 32) : nI a >>> (nI k &&& 31) = nI (a >>> k) := by
  apply b_ext
  intro i hi
  rw [b_sshr k hk _ hi, ni_bt _ hi, Nat.testBit_shiftRight]
  by_cases h : k + i < 32
  · rw [if_pos h, ni_bt _ h]
  · rw [if_neg h, ni_bt _ (by decide), Nat.testBit_lt_two_pow ha]
    symm
    exact Nat.testBit_lt_two_pow (Nat.lt_of_lt_of_le ha (Nat.pow_le_pow_right (by decide) (by omega)))
theorem ni_m1 : (-1 : Int32) = nI 4294967295 := by decide +kernel
theorem ni_bit {a k : Nat} (ha : a < 2 ^ 31) (hk : k < 32) : (nI a >>> (nI k &&& 31)) &&& 1 = if a.testBit k then 1 else 0 := by
  rw [ni_shr ha hk, show (1 : Int32) = nI 1 from rfl, fa_and, Nat.and_one_is_mod]
  rw [Nat.testBit_eq_decide_div_mod_eq]
  rw [Nat.shiftRight_eq_div_pow]
  rcases Nat.mod_two_eq_zero_or_one (a / 2 ^ k) with h | h <;> rw [h] <;> rfl
/-- one more digit -/
theorem ni_dig (a : Nat) (b : Bool) : (nI a <<< ((1 : Int32) &&& 31)) ||| (if b then 1 else 0) = nI (2 * a + b.toNat) := by
  rw [show (1 : Int32) &&& 31 = nI 1 &&& 31 from rfl, ni_shl a (by decide)]
  have e : (if b then (1 : Int32) else 0) = nI b.toNat := by cases b <;> rfl
  rw [e, fa_or, Nat.shiftLeft_eq]
  congr 1
  have h2 := Nat.two_pow_add_eq_or_of_lt (i := 1) (b := b.toNat) (by cases b <;> decide) a
  rw [Nat.pow_one] at h2
  rw [Nat.pow_one, Nat.mul_comm a 2, h2]
theorem ni_dig2 (a : Nat) (b : Bool) : nI 2 * nI a + (if b then 1 else 0) = nI (2 * a + b.toNat) := by
  have e : (if b then (1 : Int32) else 0) = nI b.toNat := by cases b <;> rfl
  rw [e]
  have : nI 2 * nI a = nI (2 * a) := (Int32.ofNat_mul 2 a).symm
  rw [this, nI_add]
theorem nI_mul (a b : Nat) : nI a * nI b = nI (a * b) := (Int32.ofNat_mul a b).symm
theorem nI_sub {a b : Nat} (h : b ≤ a) : nI a - nI b = nI (a - b) := by
  have e : nI a = nI (a - b) + nI b := by rw [nI_add]; congr 1; omega
  rw [e, Int32.add_sub_cancel]
theorem nI_m1 {a : Nat} (h : 1 ≤ a) : nI a + (-1) = nI (a - 1) := by
  have e : (-1 : Int32) = -1 := rfl
  rw [← nI_sub h, Int32.sub_eq_add_neg]
  rfl
