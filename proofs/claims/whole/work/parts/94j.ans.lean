/-! ANSWERS: the pure side -/
theorem del_ok {A : Nat → Nat → Bool} (hA : qg_ok A) (v : Nat) : qg_ok (qg_del A v) := ⟨fun a b => hA.1 _ _, fun a => hA.2 _⟩
theorem kc_del {A : Nat → Nat → Bool} (hA : qg_ok A) {n v : Nat} (hv : v < n) : kc n A v = cn (n - 1) (qg_del A v) := by
  unfold kc
  refine cn_cong (fun i j hi hj => ?_)
  rw [qg_wo_in hv]
  exact qg_ad_cd (del_ok hA v) hi hj
theorem sk_ne (v i : Nat) : qg_sk v i ≠ v := by
  unfold qg_sk
  split <;> omega
theorem sk_lt {v i n : Nat} (h : i < n - 1) : qg_sk v i < n := by
  unfold qg_sk
  split <;> omega
theorem sk_inj {v i j : Nat} (h : qg_sk v i = qg_sk v j) : i = j := by
  unfold qg_sk at h
  split at h <;> split at h <;> omega
theorem k_lt {x a n : Nat} (h : a ≠ x) (ha : a < n) (hx : x < n) : qg_k x a < n - 1 := by
  unfold qg_k
  split <;> omega
/-- the card of a renumbered graph -/
theorem kc_iso {A B : Nat → Nat → Bool} (hA : qg_ok A) (hB : qg_ok B) {n v : Nat} {q : Nat → Nat} (hq : qp n q) (hv : v < n) (h : ∀ i j, i < n → j < n → B i j = A (q i) (q j)) : kc n B v = kc n A (q v) := by
  rw [kc_del hB hv, kc_del hA (hq.1 v hv)]
  have hne : ∀ i, i < n - 1 → q (qg_sk v i) ≠ q v := fun i hi e => sk_ne v i (hq.2 _ _ (sk_lt hi) hv e)
  have hr : qp (n - 1) (fun i => qg_k (q v) (q (qg_sk v i))) := by
    refine ⟨fun i hi => k_lt (hne i hi) (hq.1 _ (sk_lt hi)) (hq.1 v hv), fun i j hi hj e => ?_⟩
    have e2 : q (qg_sk v i) = q (qg_sk v j) := by rw [← qg_sk_k (hne i hi), ← qg_sk_k (hne j hj)]; exact congrArg _ e
    exact sk_inj (hq.2 _ _ (sk_lt hi) (sk_lt hj) e2)
  rw [← cn_iso (A := qg_del A (q v)) hr]
  refine cn_cong (fun i j hi hj => ?_)
  unfold qg_del
  rw [qg_sk_k (hne i hi), qg_sk_k (hne j hj)]
  exact h _ _ (sk_lt hi) (sk_lt hj)
/-- the deck of a graph has each code at least as often as a says -/
def gd (h : Nat) (A : Nat → Nat → Bool) (a : Nat → Nat) : Prop := ∀ x, a x ≤ fb_ct (fun v => decide (kc h A v = x)) h
theorem gd_iso {A B : Nat → Nat → Bool} (hA : qg_ok A) (hB : qg_ok B) {n : Nat} {a q : Nat → Nat} (hq : qp n q) (h : ∀ i j, i < n → j < n → B i j = A (q i) (q j)) : gd n B a ↔ gd n A a := by
  have e : ∀ x, fb_ct (fun v => decide (kc n B v = x)) n = fb_ct (fun v => decide (kc n A v = x)) n := fun x => by
    rw [← ct_perm hq (fun v => decide (kc n A v = x))]
    exact fb_ct_cong (fun v hv => by rw [kc_iso hA hB hq hv h])
  unfold gd
  exact ⟨fun w x => by rw [← e x]; exact w x, fun w x => by rw [e x]; exact w x⟩
theorem gd_cn {A : Nat → Nat → Bool} (hA : qg_ok A) {n : Nat} {a : Nat → Nat} : gd n (qg_ad n (cn n A)) a ↔ gd n A a := by
  obtain ⟨q, hq, h⟩ := cn_at (n := n) hA
  exact gd_iso hA (qg_ad_ok _ _) hq h
/-- the answers -/
noncomputable def anP (h : Nat) (a : Nat → Nat) (x : Nat) : Bool := cnc h x && pd (gd h (qg_ad h x) a)
theorem anP_t {h x : Nat} {a : Nat → Nat} : anP h a x = true ↔ cn h (qg_ad h x) = x ∧ gd h (qg_ad h x) a := by
  unfold anP cnc
  rw [Bool.and_eq_true, pd_t, pd_t]
theorem anP_cn {h : Nat} {a : Nat → Nat} {A : Nat → Nat → Bool} (hA : qg_ok A) (hg : gd h A a) : anP h a (cn h A) = true := anP_t.mpr ⟨cn_idem hA, (gd_cn hA).mpr hg⟩
/-- each answer is the first card with one more vertex -/
theorem an_ext {h F : Nat} {a : Nat → Nat} (hh : 2 ≤ h) (hF : F < 2 ^ qg_tri (h - 1)) (ha : 0 < a F) {x : Nat} (hx : anP h a x = true) : ∃ l, l < 2 ^ (h - 1) ∧ gd h (qg_ad h (F * 2 ^ (h - 1) + l)) a ∧ cn h (qg_ad h (F * 2 ^ (h - 1) + l)) = x := by
  obtain ⟨h1, h2⟩ := anP_t.mp hx
  have hX := qg_ad_ok h x
  generalize qg_ad h x = X at h1 h2 hX
  obtain ⟨v, hv, hk⟩ := fb_ct_pos.mp (Nat.lt_of_lt_of_le ha (h2 F))
  have hk := of_decide_eq_true hk
  rw [kc_del hX hv] at hk
  obtain ⟨q, hq, hq2⟩ := cn_at (n := h - 1) (del_ok hX v)
  rw [hk] at hq2
  generalize hp : (fun i => if i < h - 1 then qg_sk v (q i) else v) = p
  have p1 : ∀ i, i < h - 1 → p i = qg_sk v (q i) := fun i hi => by rw [← hp]; exact if_pos hi
  have p2 : p (h - 1) = v := by rw [← hp]; exact if_neg (Nat.lt_irrefl _)
  have hpp : qp h p := by
    refine ⟨fun i hi => ?_, fun i j hi hj e => ?_⟩
    · by_cases c : i < h - 1
      · rw [p1 i c]; exact sk_lt (hq.1 i c)
      · rw [show i = h - 1 by omega, p2]; exact hv
    · by_cases c : i < h - 1
      · by_cases c2 : j < h - 1
        · rw [p1 i c, p1 j c2] at e
          exact hq.2 i j c c2 (sk_inj e)
        · rw [p1 i c, show j = h - 1 by omega, p2] at e
          exact absurd e (sk_ne v _)
      · by_cases c2 : j < h - 1
        · rw [p1 j c2, show i = h - 1 by omega, p2] at e
          exact absurd e.symm (sk_ne v _)
        · omega
  have hB : qg_ok (fun i j => X (p i) (p j)) := qok_comp hX p
  have e1 : qg_cd (fun i j => X (p i) (p j)) (h - 1) = F := by
    rw [← qg_cd_ad hF]
    refine qg_cd_cong (fun i j hij hj => ?_)
    rw [p1 i (by omega), p1 j hj, hq2 i j (by omega) hj]; rfl
  have e2 : qg_cd (fun i j => X (p i) (p j)) h = F * 2 ^ (h - 1) + qg_col (fun i j => X (p i) (p j)) (h - 1) (h - 1) := by
    conv => lhs; rw [show h = h - 1 + 1 by omega]
    show qg_cd (fun i j => X (p i) (p j)) (h - 1) * 2 ^ (h - 1) + _ = _
    rw [e1]
  refine ⟨qg_col (fun i j => X (p i) (p j)) (h - 1) (h - 1), qg_col_lt _ _ _, ?_, ?_⟩
  · rw [← e2]
    exact (gd_iso hX (qg_ad_ok _ _) hpp (fun i j hi hj => qg_ad_cd hB hi hj)).mpr h2
  · rw [← e2, cn_cong (fun i j hi hj => qg_ad_cd hB hi hj), cn_iso hpp]
    exact h1
/-! a strictly ascending row of all that fulfil P -/
def dst (Z : Nat → Nat) (z : Nat) : Prop := ∀ i j, i < j → j < z → Z i < Z j
theorem dst_so {Z : Nat → Nat} {z : Nat} (h : dst Z z) : dso Z z := fun i j hij hj => by
  by_cases e : i = j
  · rw [e]; exact Nat.le_refl _
  · exact Nat.le_of_lt (h i j (by omega) hj)
theorem ct_is {i0 z : Nat} (h : i0 < z) : fb_ct (fun i => decide (i = i0)) z = 1 := by
  have h1 := fb_ct_upd (fun _ => false) true h
  have h2 : fb_ct (fun _ => false) z = 0 := fb_ct_zero.mpr (fun _ _ => rfl)
  have h3 : fb_ct (fun i => decide (i = i0)) z = fb_ct (fun k => if k = i0 then true else false) z := fb_ct_cong (fun k _ => by
    by_cases c : k = i0 <;> simp [c])
  rw [h3]
  simp only [Bool.false_eq_true, if_false, if_true, Nat.add_zero] at h1
  rw [h1, h2]
theorem enum {P : Nat → Bool} {Z : Nat → Nat} {z N : Nat} (hZ : dst Z z) (hN : ∀ i, i < z → Z i < N) (hP : ∀ x, x < N → (P x = true ↔ ∃ i, i < z ∧ Z i = x)) : fb_ct P N = z ∧ ∀ i, i < z → fb_ct P (Z i) = i := by
  have key : ∀ y, y ≤ N → fb_ct P y = dlo Z z y := by
    intro y
    induction y with
    | zero => intro _; symm; exact fb_ct_zero.mpr (fun k _ => rfl)
    | succ y ih =>
      intro hy
      rw [fb_ct_succ, ih (by omega), dlo_cnt]
      congr 1
      by_cases c : P y = true
      · rw [if_pos c]
        obtain ⟨i, hi, e⟩ := (hP y (by omega)).mp c
        rw [← ct_is hi]
        refine fb_ct_cong (fun k hk => ?_)
        rw [Bool.eq_iff_iff, decide_eq_true_eq, decide_eq_true_eq]
        refine ⟨fun q => by rw [q, e], fun q => ?_⟩
        rcases Nat.lt_trichotomy k i with w | w | w
        · have := hZ k i w hi; omega
        · exact w
        · have := hZ i k w hk; omega
      · rw [if_neg c]
        symm
        exact fb_ct_zero.mpr (fun k hk => decide_eq_false (fun q => c ((hP y (by omega)).mpr ⟨k, hk, q⟩)))
  constructor
  · rw [key N (Nat.le_refl N)]
    exact fb_ct_all.mpr (fun k hk => decide_eq_true (hN k hk))
  · intro i hi
    rw [key (Z i) (Nat.le_of_lt (hN i hi))]
    have h1 : ∀ k, k < z → (Z k < Z i ↔ k < i) := fun k hk => by
      rcases Nat.lt_trichotomy k i with w | w | w
      · have := hZ k i w hi; omega
      · rw [w]; omega
      · have := hZ i k w hk; omega
    have h2 : dlo Z z (Z i) = fb_ct (fun k => decide (k < i)) z := fb_ct_cong (fun k hk => by
      rw [Bool.eq_iff_iff, decide_eq_true_eq, decide_eq_true_eq]; exact h1 k hk)
    rw [h2]
    have h3 := fb_ct_split (fun k => decide (k < i)) i (z - i)
    rw [show i + (z - i) = z by omega] at h3
    rw [h3, fb_ct_all.mpr (fun k hk => decide_eq_true hk), fb_ct_zero.mpr (fun k _ => decide_eq_false (by omega)), Nat.add_zero]
theorem din_st {Z : Nat → Nat} {z x : Nat} (h : dst Z z) (hx : ∀ i, i < z → Z i ≠ x) : dst (din Z (dlo Z z x) x) (z + 1) := by
  intro i j hij hj
  have hp := dlo_le Z z x
  have hlt : ∀ k, k < dlo Z z x → Z k < x := fun k hk => (dlo_iff (dst_so h) (by omega)).mpr hk
  have hge : ∀ k, dlo Z z x ≤ k → k < z → x < Z k := fun k hk hm => by
    have h1 : ¬ Z k < x := fun q => by
      have := (dlo_iff (dst_so h) hm).mp q
      omega
    have h2 := hx k hm
    omega
  unfold din
  by_cases h1 : j < dlo Z z x
  · rw [if_pos h1, if_pos (by omega)]
    exact h i j hij (by omega)
  · rw [if_neg h1]
    by_cases h2 : j = dlo Z z x
    · rw [if_pos h2, if_pos (by omega)]; exact hlt i (by omega)
    · rw [if_neg h2]
      by_cases h3 : i < dlo Z z x
      · rw [if_pos h3]; exact h i (j - 1) (by omega) (by omega)
      · rw [if_neg h3]
        by_cases h4 : i = dlo Z z x
        · rw [if_pos h4]; exact hge (j - 1) (by omega) (by omega)
        · rw [if_neg h4]; exact h (i - 1) (j - 1) (by omega) (by omega)
theorem din_mem {D : Nat → Nat} {p x m : Nat} (hp : p ≤ m) (y : Nat) : (∃ i, i < m + 1 ∧ din D p x i = y) ↔ (∃ i, i < m ∧ D i = y) ∨ y = x := by
  constructor
  · rintro ⟨i, hi, e⟩
    unfold din at e
    by_cases c : i < p
    · rw [if_pos c] at e; exact Or.inl ⟨i, by omega, e⟩
    · rw [if_neg c] at e
      by_cases c2 : i = p
      · rw [if_pos c2] at e; exact Or.inr e.symm
      · rw [if_neg c2] at e; exact Or.inl ⟨i - 1, by omega, e⟩
  · rintro (⟨i, hi, e⟩ | e)
    · by_cases c : i < p
      · exact ⟨i, by omega, by unfold din; rw [if_pos c]; exact e⟩
      · exact ⟨i + 1, by omega, by unfold din; rw [if_neg (by omega), if_neg (by omega)]; exact e⟩
    · exact ⟨p, by omega, by unfold din; rw [if_neg (by omega), if_pos rfl]; exact e.symm⟩
