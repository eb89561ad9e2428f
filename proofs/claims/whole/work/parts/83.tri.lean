/-! triangles counted in two ways -/
theorem sm_sym {f : Nat → Nat → Nat} (hs : ∀ u v, f u v = f v u) (h0 : ∀ u, f u u = 0) : ∀ n, fb_sm (fun v => fb_sm (f v) n) n = 2 * fb_sm (fun v => fb_sm (f v) v) n := by
  intro n
  induction n with
  | zero => rfl
  | succ n ih =>
    have e1 : fb_sm (fun v => fb_sm (f v) (n + 1)) n = fb_sm (fun v => fb_sm (f v) n) n + fb_sm (f n) n := by
      have : fb_sm (f n) n = fb_sm (fun v => f v n) n := fb_sm_cong (fun k _ => hs n k)
      rw [this, ← fb_sm_add]
      exact fb_sm_cong (fun v _ => rfl)
    have e2 : fb_sm (f n) (n + 1) = fb_sm (f n) n := by rw [fb_sm_succ, h0, Nat.add_zero]
    show fb_sm (fun v => fb_sm (f v) (n + 1)) n + fb_sm (f n) (n + 1) = 2 * (fb_sm (fun v => fb_sm (f v) v) n + fb_sm (f n) n)
    rw [e1, e2, ih]; omega
def qin3 (A : Nat → Nat → Bool) (v u x : Nat) : Bool := A u x && (A v u && A v x)
theorem qin3_ok {A : Nat → Nat → Bool} (hA : qg_ok A) (v : Nat) : qg_ok (qin3 A v) := ⟨fun u x => by
  unfold qin3
  rw [hA.1 u x, Bool.and_comm (A v u)], fun u => by
  unfold qin3
  rw [hA.2 u, Bool.false_and]⟩
theorem qin3_win {A : Nat → Nat → Bool} (v n u : Nat) : qg_win A (A v) n u = fb_ct (qin3 A v u) n := by
  unfold qg_win
  by_cases h : A v u = true
  · rw [if_pos h]
    exact fb_ct_cong (fun k _ => by unfold qin3; rw [h, Bool.true_and])
  · rw [if_neg h]
    symm
    exact fb_ct_zero.mpr (fun k _ => by unfold qin3; rw [Bool.eq_false_iff.mpr h, Bool.false_and, Bool.and_false])
theorem qin_half {A : Nat → Nat → Bool} (hA : qg_ok A) {n : Nat} (hn : n ≤ 8) (v : Nat) : fb_sm (qg_win A (A v) n) n = 2 * qE (qin3 A v) n ∧ qin A (A v) n = nI (qE (qin3 A v) n) := by
  have e : fb_sm (qg_win A (A v) n) n = 2 * qE (qin3 A v) n := by
    rw [← qE_sum (qin3_ok hA v)]
    exact fb_sm_cong (fun u _ => qin3_win v n u)
  refine ⟨e, ?_⟩
  have := qE_lt (A := qin3 A v) hn
  unfold qin
  rw [e, ni_half _ (by omega)]
theorem tri_id {A : Nat → Nat → Bool} (hA : qg_ok A) {n : Nat} (hn : n ≤ 8) : iD (fun u v => if A v u then qcm A n v u else 0) n = iS (fun v => qin A (A v) n) n := by
  have h1 : iS (fun v => qin A (A v) n) n = nI (fb_sm (fun v => qE (qin3 A v) n) n) := by
    rw [← iS_nat]
    exact iS_cong (fun v _ => (qin_half hA hn v).2)
  have h2 : iD (fun u v => if A v u then qcm A n v u else 0) n = nI (fb_sm (fun v => fb_sm (qg_win A (A v) n) v) n) := by
    rw [← iD_nat (fun u v => qg_win A (A v) n u)]
    refine iD_cong (fun u v _ _ => ?_)
    unfold qg_win qcm
    by_cases h : A v u = true
    · rw [if_pos h, if_pos h]
      congr 1
      exact fb_ct_cong (fun k _ => Bool.and_comm _ _)
    · rw [if_neg h, if_neg h]; rfl
  have h3 := sm_sym (f := fun v u => qg_win A (A v) n u) (fun u v => by
    unfold qg_win
    rw [hA.1 v u]
    congr 1
    exact fb_ct_cong (fun k _ => Bool.and_comm _ _)) (fun u => by
    unfold qg_win
    rw [hA.2 u, if_neg (by decide)]) n
  have h4 : fb_sm (fun v => fb_sm (qg_win A (A v) n) n) n = 2 * fb_sm (fun v => qE (qin3 A v) n) n := by
    rw [Nat.two_mul, ← fb_sm_add]
    exact fb_sm_cong (fun v _ => by rw [(qin_half hA hn v).1, Nat.two_mul])
  rw [h1, h2]
  congr 1
  have h3' : fb_sm (fun v => fb_sm (qg_win A (A v) n) n) n = 2 * fb_sm (fun v => fb_sm (qg_win A (A v) n) v) n := h3
  omega
