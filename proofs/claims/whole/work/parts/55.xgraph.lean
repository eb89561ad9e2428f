/-! THE CLASS'S GRAPH: what its reading methods answer -/
/-- the object g holds the graph A with n vertices -/
def gx (M : jm_M) (g n : Nat) (A : Nat → Nat → Bool) : Prop := M.1 g 1 = nI n ∧ ∀ v, v < n → M.1 (jm_rf g 0) v = nI (qg_mask (A v) n)
theorem qg_mask_31 (f : Nat → Bool) {n : Nat} (h : n ≤ 8) : qg_mask f n < 2 ^ 31 := Nat.lt_of_lt_of_le (qg_mask_lt f n) (Nat.pow_le_pow_right (by decide) (by omega))
theorem ni_b (a : Bool) : ((if a then (1 : Int32) else 0) = 1) = (a = true) := by cases a <;> simp
theorem gx_row {M : jm_M} {g n : Nat} {A : Nat → Nat → Bool} (h : gx M g n A) (hn : n ≤ 8) {v : Nat} (hv : v < n) : X4_row g (nI v) M = some (nI (qg_mask (A v) n)) := by
  unfold X4_row
  rw [if_neg (nI_pos (by omega)), h.1, if_neg (nI_ge hv (by omega)), jp_ga (by omega) (by decide), h.2 v hv]
  rfl
theorem gx_row_out {M : jm_M} {g n : Nat} {A : Nat → Nat → Bool} (h : gx M g n A) {v : Nat} (hv : n ≤ v) (hb : v < 2 ^ 31) : X4_row g (nI v) M = some 0 := by
  unfold X4_row
  rw [if_neg (nI_pos hb), h.1, if_pos (nI_le hv hb)]
theorem gx_has {M : jm_M} {g n : Nat} {A : Nat → Nat → Bool} (h : gx M g n A) (hn : n ≤ 8) {v : Nat} (hv : v < n) : X4_has g (nI v) M = 1 := by
  unfold X4_has
  rw [if_neg (nI_pos (by omega)), h.1, if_neg (nI_ge hv (by omega))]
theorem gx_has_no {M : jm_M} {g n : Nat} {A : Nat → Nat → Bool} (h : gx M g n A) {x : Int32} (hx : ¬ ∃ v, v < n ∧ x = nI v) : X4_has g x M = 0 := by
  unfold X4_has
  by_cases h0 : x < 0
  · rw [if_pos h0]
  · rw [if_neg h0, h.1]
    obtain ⟨j, hj, rfl⟩ := nI_of h0
    by_cases hl : n ≤ j
    · rw [if_pos (nI_le hl hj)]
    · exact absurd ⟨j, by omega, rfl⟩ hx
theorem gx_link {M : jm_M} {g n : Nat} {A : Nat → Nat → Bool} (h : gx M g n A) (hn : n ≤ 8) {u v : Nat} (hu : u < n) (hv : v < n) : X4_link g (nI u) (nI v) M = some (if A u v then 1 else 0) := by
  unfold X4_link
  rw [gx_row h hn hu, Option.bind_some, ni_bit (qg_mask_31 _ hn) (by omega), qg_mask_bit]
  simp [hv]
/-! codes -/
theorem gx_woI {M : jm_M} {g n : Nat} {A : Nat → Nat → Bool} (h : gx M g n A) (hA : qg_ok A) (hn : n ≤ 8) {X : Int32} {x : Nat} (hX : ∀ a, a < 8 → (nI a = X ↔ a = x)) {b acc : Nat} (hb : b < n) : jp_K (X4_codeWithout_B15 g X (nI b) M) (nI acc, 0) (nI (qg_inn A x b acc b)) := by
  have key := jp_K.for (body := X4_codeWithout_B15 g X (nI b) M) (r := nI (qg_inn A x b acc b)) (fun a => (nI (qg_inn A x b acc a), nI a)) b ?_ ?_ 0 (Nat.zero_le b)
  · rw [qg_inn_0, nI_0] at key; exact key
  · intro a ha
    unfold X4_codeWithout_B15
    dsimp only
    rw [if_neg (nI_ge ha (by omega)), nI_1]
    by_cases h1 : a = x
    · rw [if_pos ((hX a (by omega)).mpr h1), qg_inn_skip (Or.inl h1)]
    · rw [if_neg (fun q => h1 ((hX a (by omega)).mp q))]
      by_cases h2 : b = x
      · rw [if_pos ((hX b (by omega)).mpr h2), qg_inn_skip (Or.inr h2)]
      · rw [if_neg (fun q => h2 ((hX b (by omega)).mp q)), jp_ga (by omega) (by decide), h.2 b hb, Option.bind_some, ni_bit (qg_mask_31 _ hn) (by omega), qg_mask_bit, qg_inn_step h1 h2]
        simp only [show a < n by omega, decide_true, Bool.true_and]
        rw [ni_dig, hA.1 b a]
  · unfold X4_codeWithout_B15
    dsimp only
    rw [if_pos (nI_le (Nat.le_refl b) (by omega))]
theorem gx_wo {M : jm_M} {g n : Nat} {A : Nat → Nat → Bool} (h : gx M g n A) (hA : qg_ok A) (hn : n ≤ 8) (hn1 : 1 ≤ n) {X : Int32} {x : Nat} (hX : ∀ a, a < 8 → (nI a = X ↔ a = x)) : jp_E (fun k => X4_codeWithout k g X M = some (nI (qg_wo A x n))) := by
  have key := jp_L.for (body := fun k => X4_codeWithout_B4 k g X M) (r := nI (qg_wo A x n)) (fun b => (nI (qg_wo A x b), nI b)) n ?_ ?_ 1 hn1
  · refine (key.use).imp (fun k e => ?_)
    unfold X4_codeWithout
    rw [qg_wo_1] at e
    rw [show ((0 : Int32), (1 : Int32)) = (nI 0, nI 1) from rfl, e]
    rfl
  · intro b hb
    refine jp_E.imp (gx_woI h hA hn hX (b := b) (acc := qg_wo A x b) hb) (fun k e => ?_)
    unfold X4_codeWithout_B4
    dsimp only
    rw [h.1, if_neg (nI_ge hb (by omega)), e, nI_1, qg_wo_succ]
    rfl
  · refine jp_E.all (fun k => ?_)
    unfold X4_codeWithout_B4
    dsimp only
    rw [h.1, if_pos (nI_le (Nat.le_refl n) (by omega))]
theorem ni_x {x : Nat} (hx : x < 8) : ∀ a, a < 8 → (nI a = nI x ↔ a = x) := fun a ha => nI_eq (by omega) (by omega)
theorem ni_x1 : ∀ a, a < 8 → (nI a = (-1 : Int32) ↔ a = 8) := by decide +kernel
theorem gx_code {M : jm_M} {g n : Nat} {A : Nat → Nat → Bool} (h : gx M g n A) (hA : qg_ok A) (hn : n ≤ 8) (hn1 : 1 ≤ n) : jp_E (fun k => X4_code k g M = some (nI (qg_cd A n))) := by
  refine (gx_wo h hA hn hn1 ni_x1).imp (fun k e => ?_)
  unfold X4_code
  rw [e, qg_wo_none hn]
  rfl
/-! counting bits -/
theorem ni_bc : ∀ x, x < 1024 → J6_bitCount_0f7a4 (nI x) = nI (fb_ct (fun u => x.testBit u) 10) := by decide +kernel
theorem ct_mask {f : Nat → Bool} : ∀ {n m : Nat}, n ≤ m → fb_ct (fun u => decide (u < n) && f u) m = fb_ct f n := by
  intro n m h
  have e : m = n + (m - n) := by omega
  rw [e, fb_ct_split]
  have h1 : fb_ct (fun u => decide (u < n) && f u) n = fb_ct f n := fb_ct_cong (fun k hk => by simp [hk])
  have h2 : fb_ct (fun k => decide (n + k < n) && f (n + k)) (m - n) = 0 := fb_ct_zero.mpr (fun k _ => by simp; intro hk; omega)
  rw [h1, h2]; rfl
theorem ni_bcm (f : Nat → Bool) {n : Nat} (hn : n ≤ 10) : J6_bitCount_0f7a4 (nI (qg_mask f n)) = nI (fb_ct f n) := by
  rw [ni_bc _ (Nat.lt_of_lt_of_le (qg_mask_lt f n) (Nat.pow_le_pow_right (by decide) hn))]
  congr 1
  rw [← ct_mask (f := f) hn]
  exact fb_ct_cong (fun k _ => qg_mask_bit f n k)
theorem gx_degree {M : jm_M} {g n : Nat} {A : Nat → Nat → Bool} (h : gx M g n A) (hn : n ≤ 8) {v : Nat} (hv : v < n) : X4_degree g (nI v) M = some (nI (fb_ct (A v) n)) := by
  unfold X4_degree
  rw [gx_row h hn hv, Option.bind_some, ni_bcm _ (by omega)]
theorem gx_edges {M : jm_M} {g n : Nat} {A : Nat → Nat → Bool} (h : gx M g n A) (hn : n ≤ 8) : jp_E (fun k => X4_edges k g M = some (nI (fb_sm (fun v => fb_ct (A v) n) n) / 2)) := by
  have key := jp_K.for (body := X4_edges_B4 g M) (r := nI (fb_sm (fun v => fb_ct (A v) n) n)) (fun v => (nI (fb_sm (fun v => fb_ct (A v) n) v), nI v)) n ?_ ?_ 0 (Nat.zero_le n)
  · refine jp_E.imp key (fun k e => ?_)
    unfold X4_edges
    rw [show ((0 : Int32), (0 : Int32)) = (nI 0, nI 0) from rfl]
    rw [show fb_sm (fun v => fb_ct (A v) n) 0 = 0 from rfl] at e
    rw [e]; rfl
  · intro v hv
    unfold X4_edges_B4
    dsimp only
    rw [h.1, if_neg (nI_ge hv (by omega)), jp_ga (by omega) (by decide), h.2 v hv, Option.bind_some, ni_bcm _ (by omega), nI_add, nI_1]
    rfl
  · unfold X4_edges_B4
    dsimp only
    rw [h.1, if_pos (nI_le (Nat.le_refl n) (by omega))]
/-- sums over the vertices of a set -/
def qg_win (A : Nat → Nat → Bool) (S : Nat → Bool) (n v : Nat) : Nat := if S v then fb_ct (fun u => A v u && S u) n else 0
theorem qg_mask_and (f h : Nat → Bool) (n : Nat) : qg_mask f n &&& qg_mask h n = qg_mask (fun u => f u && h u) n := by
  apply Nat.eq_of_testBit_eq
  intro u
  rw [Nat.testBit_and, qg_mask_bit, qg_mask_bit, qg_mask_bit]
  by_cases hu : u < n <;> simp [hu]
theorem gx_within {M : jm_M} {g n : Nat} {A : Nat → Nat → Bool} (h : gx M g n A) (hn : n ≤ 8) (S : Nat → Bool) : jp_E (fun k => X4_edgesWithin k g (nI (qg_mask S n)) M = some (nI (fb_sm (qg_win A S n) n) / 2)) := by
  have key := jp_K.for (body := X4_edgesWithin_B4 g (nI (qg_mask S n)) M) (r := nI (fb_sm (qg_win A S n) n)) (fun v => (nI (fb_sm (qg_win A S n) v), nI v)) n ?_ ?_ 0 (Nat.zero_le n)
  · refine jp_E.imp key (fun k e => ?_)
    unfold X4_edgesWithin
    rw [show ((0 : Int32), (0 : Int32)) = (nI 0, nI 0) from rfl]
    rw [show fb_sm (qg_win A S n) 0 = 0 from rfl] at e
    rw [e]; rfl
  · intro v hv
    unfold X4_edgesWithin_B4
    dsimp only
    rw [h.1, if_neg (nI_ge hv (by omega)), ni_bit (qg_mask_31 _ hn) (by omega), qg_mask_bit, nI_1, fb_sm_succ]
    simp only [hv, decide_true, Bool.true_and]
    unfold qg_win
    by_cases hs : S v = true
    · rw [hs]
      simp only [if_true]
      rw [jp_ga (by omega) (by decide), h.2 v hv, Option.bind_some, fa_and, qg_mask_and, ni_bcm _ (by omega), nI_add]
    · simp [hs]
  · unfold X4_edgesWithin_B4
    dsimp only
    rw [h.1, if_pos (nI_le (Nat.le_refl n) (by omega))]
