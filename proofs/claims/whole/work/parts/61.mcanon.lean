/-! THE REFERENCE's canonical code -/
theorem mu_used {M : jm_M} {p : Nat → Nat} {k : Nat} (hk : k ≤ 8) (hc : ∀ i, i < k → M.1 43 i = nI (p i)) (hp : ∀ i, i < k → p i < 8) : jp_E (fun f => X9_usedBefore f 39 (nI k) M = some (nI (qg_mask (qu p k) 8))) := by
  have key := jp_K.for (body := X9_usedBefore_B4 39 (nI k) M) (r := nI (qg_mask (qu p k) 8)) (fun j => (nI (qg_mask (qu p j) 8), nI j)) k ?_ ?_ 0 (Nat.zero_le k)
  · refine jp_E.imp key (fun f e => ?_)
    unfold X9_usedBefore
    have z : qg_mask (qu p 0) 8 = 0 := rfl
    rw [z] at e
    rw [show ((0 : Int32), (0 : Int32)) = (nI 0, nI 0) from rfl, e]; rfl
  · intro j hj
    unfold X9_usedBefore_B4
    dsimp only
    rw [if_neg (nI_ge hj (by omega)), show jm_rf 39 4 = 43 from rfl, jp_ga (by omega) (by decide), hc j hj, Option.bind_some, show (1 : Int32) = nI 1 from rfl, ni_shl 1 (by have := hp j hj; omega), fa_or, nI_add]
    have := qg_mask_or (f := qu p j) (b := true) (u := p j) (n := 8) (hp j hj)
    rw [show Bool.toNat true = 1 from rfl] at this
    rw [this]
    congr 4
    refine qg_mask_cong (fun w _ => ?_)
    show (qu p j w || (true && decide (w = p j))) = (qu p j w || decide (p j = w))
    rw [Bool.true_and]
    congr 1
    by_cases h : w = p j
    · simp [h]
    · simp [h, Ne.symm h]
  · unfold X9_usedBefore_B4
    dsimp only
    rw [if_pos (nI_le (Nat.le_refl k) (by omega))]
theorem mu_digits {M : jm_M} {A : Nat → Nat → Bool} {p : Nat → Nat} {n k v : Nat} (hn : n ≤ 8) (hk : k ≤ 8) (hc : ∀ i, i < k → M.1 43 i = nI (p i)) (hp : ∀ i, i < k → p i < n) (hv : v < n) (hM : M.1 42 v = nI (qg_mask (A v) n)) : jp_E (fun f => X9_digits f 39 (nI k) (nI v) M = some (nI (qd A p v k))) := by
  have key := jp_K.for (body := X9_digits_B5 39 (nI k) (nI v) M) (r := nI (qd A p v k)) (fun j => (nI (qd A p v j), nI j)) k ?_ ?_ 0 (Nat.zero_le k)
  · refine jp_E.imp key (fun f e => ?_)
    unfold X9_digits
    have z : qd A p v 0 = 0 := rfl
    rw [z] at e
    rw [show ((0 : Int32), (0 : Int32)) = (nI 0, nI 0) from rfl, e]; rfl
  · intro j hj
    have hpj := hp j hj
    unfold X9_digits_B5
    dsimp only
    rw [if_neg (nI_ge hj (by omega)), show jm_rf 39 3 = 42 from rfl, show jm_rf 39 4 = 43 from rfl, jp_ga (by omega) (by decide), hM, Option.bind_some, jp_ga (by omega) (by decide), hc j hj, Option.bind_some, ni_bit (qg_mask_31 _ hn) (by omega), qg_mask_bit, nI_1]
    simp only [hpj, decide_true, Bool.true_and]
    rw [show (2 : Int32) = nI 2 from rfl, ni_dig2]
    rfl
  · unfold X9_digits_B5
    dsimp only
    rw [if_pos (nI_le (Nat.le_refl k) (by omega))]
/-- the next vertex that isn't used -/
theorem mu_next {U : Nat → Bool} {n : Nat} (hn : n ≤ 8) {X Y : Int32} : ∀ j w, w + j = n → ∃ v, w ≤ v ∧ v ≤ n ∧ (∀ x, w ≤ x → x < v → U x = true) ∧ (v < n → U v = false) ∧ jp_K (X9_canonical_B68 39 (nI n) X Y (nI (qg_mask U 8))) (nI w) (nI v)
  | 0, w, h => ⟨w, Nat.le_refl w, by omega, fun x h1 h2 => by omega, fun h2 => by omega, jp_K.done (by
      unfold X9_canonical_B68
      rw [if_pos (nI_le (by omega) (by omega))])⟩
  | j + 1, w, h => by
    have hb : ((nI (qg_mask U 8) >>> (nI w &&& 31)) &&& 1) = if U w then 1 else 0 := by
      rw [ni_bit (qg_mask_31 _ (by decide)) (by omega), qg_mask_bit]
      simp [show w < 8 by omega]
    by_cases hu : U w = true
    · obtain ⟨v, h1, h2, h3, h4, h5⟩ := mu_next (U := U) hn (X := X) (Y := Y) j (w + 1) (by omega)
      refine ⟨v, by omega, h2, fun x q1 q2 => ?_, h4, jp_K.step (s1 := nI (w + 1)) ?_ h5⟩
      · by_cases e : x = w
        · rw [e]; exact hu
        · exact h3 x (by omega) q2
      · unfold X9_canonical_B68
        rw [if_neg (nI_ge (by omega) (by omega)), hb, hu, if_pos rfl, if_pos rfl, nI_1]
    · have hf : U w = false := by cases h9 : U w <;> simp_all
      refine ⟨w, Nat.le_refl w, by omega, fun x q1 q2 => by omega, fun _ => hf, jp_K.done ?_⟩
      unfold X9_canonical_B68
      rw [if_neg (nI_ge (by omega) (by omega)), hb, hf]
      rfl
/-- one state of a loop is reached from another -/
def jp_R {S Rr : Type} (body : Nat → S → Option (S ⊕ Rr)) (s s' : S) : Prop := ∀ r, jp_L body s' r → jp_L body s r
theorem jp_R.refl {S Rr : Type} {body : Nat → S → Option (S ⊕ Rr)} {s : S} : jp_R body s s := fun _ h => h
theorem jp_R.trans {S Rr : Type} {body : Nat → S → Option (S ⊕ Rr)} {a b c : S} (h : jp_R body a b) (h2 : jp_R body b c) : jp_R body a c := fun r hr => h r (h2 r hr)
theorem jp_R.one {S Rr : Type} {body : Nat → S → Option (S ⊕ Rr)} {a b : S} (h : jp_E (fun n => body n a = some (.inl b))) : jp_R body a b := fun _ hr => jp_L.step h hr
/-- what the arrays of the reference's search hold at a node: the vertices p 0 .. p (k - 1), the next one to try is w -/
def mc_at (M : jm_M) (A : Nat → Nat → Bool) (n k : Nat) (p : Nat → Nat) (w : Nat) : Prop :=
  (∀ v, v < n → M.1 42 v = nI (qg_mask (A v) n)) ∧ (∀ i, i < k → M.1 43 i = nI (p i)) ∧ (∀ i, i ≤ k → M.1 44 i = nI (qc A p i)) ∧ M.1 43 k + 1 = nI w ∧ (∀ i, i < k → p i < n) ∧ ∀ i j, i < k → j < k → p i = p j → i = j
/-- what the search below a node, from the child w on, makes of the best code -/
def mc_post (A : Nat → Nat → Bool) (n k : Nat) (p : Nat → Nat) (w b b' : Nat) : Prop :=
  b' ≤ b ∧ (b' = b ∨ ∃ q, qp n q ∧ b' = qc A q n) ∧ ∀ q, qp n q → (∀ i, i < k → q i = p i) → w ≤ q k → b' ≤ qc A q n
theorem mc_fit {n k : Nat} {p q : Nat → Nat} (hq : qp n q) (hk : k < n) (h : ∀ i, i < k → q i = p i) : qu p k (q k) = false := by
  cases e : qu p k (q k) with
  | false => rfl
  | true =>
    obtain ⟨i, h1, h2⟩ := qu_iff.mp e
    rw [← h i h1] at h2
    have := hq.2 i k (by omega) hk h2
    omega
theorem ni_dec0 {x : Int32} {w : Nat} (h : x + 1 = nI w) : x = nI w - 1 := by rw [← h, Int32.add_sub_cancel]
set_option maxHeartbeats 1000000 in
theorem mc_body {M : jm_M} {A : Nat → Nat → Bool} (hA : qg_ok A) {n k : Nat} {p : Nat → Nat} {w b : Nat} (hn : n ≤ 8) (hk : k < n) (hw : w ≤ n) (hb : b < 2 ^ qg_tri n) (hM : mc_at M A n k p w) :
    ∃ v, w ≤ v ∧ v ≤ n ∧ (∀ x, w ≤ x → x < v → qu p k x = true) ∧ (v < n → qu p k v = false) ∧
      (v = n → jp_E (fun f => X9_canonical_B44 f 39 (nI n) (nI b, nI k, M) = some (.inl (nI b, nI k + (-1), jm_put M 43 (upd (M.1 43) k (nI n)))))) ∧
      (v < n → b >>> (qg_tri n - qg_tri (k + 1)) < qc A p k * 2 ^ k + qd A p v k → jp_E (fun f => X9_canonical_B44 f 39 (nI n) (nI b, nI k, M) = some (.inl (nI b, nI k, jm_put M 43 (upd (M.1 43) k (nI v)))))) ∧
      (v < n → ¬ b >>> (qg_tri n - qg_tri (k + 1)) < qc A p k * 2 ^ k + qd A p v k → k + 1 = n → jp_E (fun f => X9_canonical_B44 f 39 (nI n) (nI b, nI k, M) = some (.inl (nI (qc A p k * 2 ^ k + qd A p v k), nI k, jm_put M 43 (upd (M.1 43) k (nI v)))))) ∧
      (v < n → ¬ b >>> (qg_tri n - qg_tri (k + 1)) < qc A p k * 2 ^ k + qd A p v k → k + 1 < n → jp_E (fun f => X9_canonical_B44 f 39 (nI n) (nI b, nI k, M) = some (.inl (nI b, nI (k + 1), jm_put (jm_put M 44 (upd (M.1 44) (k + 1) (nI (qc A p k * 2 ^ k + qd A p v k)))) 43 (upd (upd (M.1 43) k (nI v)) (k + 1) (-1)))))) := by
  obtain ⟨h1, h2, h3, h4, h5, h6⟩ := hM
  have h28 := qg_tri8 n (by omega)
  have htk := qg_tri_mono (show k + 1 ≤ n by omega)
  have hb31 : b < 2 ^ 31 := Nat.lt_of_lt_of_le hb (Nat.pow_le_pow_right (by decide) (by omega))
  have hU := mu_used (M := M) (p := p) (k := k) (by omega) h2 (fun i hi => by have := h5 i hi; omega)
  obtain ⟨v, q1, q2, q3, q4, q5⟩ := mu_next (U := qu p k) hn (X := nI b) (Y := nI k) (n - w) w (by omega)
  have hmade : qc A p k * 2 ^ k + qd A p v k < 2 ^ qg_tri (k + 1) := by
    have a1 : qc A p k < 2 ^ qg_tri k := qg_cd_lt _ k
    have a2 := qd_lt A p v k
    show _ < 2 ^ (qg_tri k + k)
    rw [Nat.pow_add]
    have : qc A p k * 2 ^ k + 2 ^ k ≤ 2 ^ qg_tri k * 2 ^ k := by rw [← Nat.succ_mul]; exact Nat.mul_le_mul_right _ a1
    omega
  have hmade31 : qc A p k * 2 ^ k + qd A p v k < 2 ^ 31 := Nat.lt_of_lt_of_le hmade (Nat.pow_le_pow_right (by decide) (by omega))
  have eM : ((nI (qc A p k) <<< (nI k &&& 31)) ||| nI (qd A p v k)) = nI (qc A p k * 2 ^ k + qd A p v k) := by
    rw [ni_shl _ (by omega), fa_or, Nat.shiftLeft_eq, Nat.mul_comm, Nat.two_pow_add_eq_or_of_lt (qd_lt A p v k)]
  have eS : (nI b >>> (((X9_pairs (nI n)) - (X9_pairs (nI k + 1))) &&& 31)) = nI (b >>> (qg_tri n - qg_tri (k + 1))) := by
    rw [nI_1, m_pairs n (by omega), m_pairs (k + 1) (by omega), nI_sub htk, ni_shr hb31 (by omega)]
  have hs31 : b >>> (qg_tri n - qg_tri (k + 1)) < 2 ^ 31 := by rw [Nat.shiftRight_eq_div_pow]; exact Nat.lt_of_le_of_lt (Nat.div_le_self _ _) hb31
  have hdig : v < n → jp_E (fun f => X9_digits f 39 (nI k) (nI v) (jm_put M 43 (upd (M.1 43) k (nI v))) = some (nI (qd A p v k))) := fun hv => mu_digits hn (by omega) (fun i hi => by rw [jm_put_at, pk_un (by omega), h2 i hi]) h5 hv (by rw [jm_put_ne _ _ (by decide)]; exact h1 v hv)
  refine ⟨v, q1, q2, q3, q4, fun hv => ?_, fun hv hlt => ?_, fun hv hlt hkn => ?_, fun hv hlt hkn => ?_⟩
  · subst hv
    refine jp_E.imp2 hU q5 (fun f e1 e2 => ?_)
    unfold X9_canonical_B44
    dsimp only
    rw [if_neg (nI_pos (by omega)), e1, Option.bind_some, show jm_rf 39 4 = 43 from rfl, jp_ga (by omega) (by decide), Option.bind_some, h4, e2, Option.bind_some, jp_sa (by omega) (by decide), Option.bind_some, if_neg (nI_nlt (Nat.le_refl _) (by omega))]
  · refine jp_E.imp3 hU q5 (hdig hv) (fun f e1 e2 e3 => ?_)
    unfold X9_canonical_B44
    dsimp only
    rw [if_neg (nI_pos (by omega)), e1, Option.bind_some, show jm_rf 39 4 = 43 from rfl, show jm_rf 39 5 = 44 from rfl, jp_ga (by omega) (by decide), Option.bind_some, h4, e2, Option.bind_some, jp_sa (by omega) (by decide), Option.bind_some, if_pos (nI_lt hv (by omega)), jm_put_ne _ _ (by decide), jp_ga (by omega) (by decide), Option.bind_some, e3, Option.bind_some, h3 k (Nat.le_refl k), eM, eS, if_pos (nI_lt hlt hmade31), if_pos (nI_lt hlt hmade31)]
  · refine jp_E.imp3 hU q5 (hdig hv) (fun f e1 e2 e3 => ?_)
    unfold X9_canonical_B44
    dsimp only
    rw [if_neg (nI_pos (by omega)), e1, Option.bind_some, show jm_rf 39 4 = 43 from rfl, show jm_rf 39 5 = 44 from rfl, jp_ga (by omega) (by decide), Option.bind_some, h4, e2, Option.bind_some, jp_sa (by omega) (by decide), Option.bind_some, if_pos (nI_lt hv (by omega)), jm_put_ne _ _ (by decide), jp_ga (by omega) (by decide), Option.bind_some, e3, Option.bind_some, h3 k (Nat.le_refl k), eM, eS, if_neg (nI_nlt (by omega) hs31), ni_sub1 (by omega), if_pos (by rw [show n - 1 = k by omega])]
  · refine jp_E.imp3 hU q5 (hdig hv) (fun f e1 e2 e3 => ?_)
    unfold X9_canonical_B44
    dsimp only
    rw [if_neg (nI_pos (by omega)), e1, Option.bind_some, show jm_rf 39 4 = 43 from rfl, show jm_rf 39 5 = 44 from rfl, jp_ga (by omega) (by decide), Option.bind_some, h4, e2, Option.bind_some, jp_sa (by omega) (by decide), Option.bind_some, if_pos (nI_lt hv (by omega)), jm_put_ne _ _ (by decide), jp_ga (by omega) (by decide), Option.bind_some, e3, Option.bind_some, h3 k (Nat.le_refl k), eM, eS, if_neg (nI_nlt (by omega) hs31), ni_sub1 (by omega), if_neg (fun q => by have := (nI_eq (by omega) (by omega)).mp q; omega), if_neg (nI_nlt (by omega) hs31), nI_1, jp_sa (by omega) (by decide), Option.bind_some, jp_sa (by omega) (by decide), Option.bind_some, jm_put_ne _ _ (by decide), jm_put_ne _ _ (by decide), jm_put_at, jm_put_swap _ _ _ (by decide), jm_put_put, jm_put_swap _ _ _ (by decide)]
/-- the search below a node -/
theorem mc_search {A : Nat → Nat → Bool} (hA : qg_ok A) {n : Nat} (hn : n ≤ 8) : ∀ (d k : Nat), k + d + 1 = n → ∀ (j : Nat) (p : Nat → Nat) (w b : Nat) (M : jm_M), w + j = n → b < 2 ^ qg_tri n → mc_at M A n k p w →
    ∃ (b' : Nat) (M' : jm_M), jp_R (fun f => X9_canonical_B44 f 39 (nI n)) (nI b, nI k, M) (nI b', nI k + (-1), M') ∧ jp_eq [43, 44] M M' ∧ (∀ i, i < k → M'.1 43 i = M.1 43 i) ∧ (∀ i, i ≤ k → M'.1 44 i = M.1 44 i) ∧ b' < 2 ^ qg_tri n ∧ mc_post A n k p w b b' := by
  intro d
  induction d with
  | zero =>
    intro k hk j
    induction j using Nat.strongRecOn with
    | _ j ih =>
    intro p w b M hj hb hM
    obtain ⟨v, v1, v2, v3, v4, c1, c2, c3, c4⟩ := mc_body hA (p := p) (w := w) hn (by omega) (by omega) hb hM
    obtain ⟨h1, h2, h3, h4, h5, h6⟩ := hM
    by_cases hv : v = n
    · refine ⟨b, _, jp_R.one (c1 hv), jp_eq.rfl'.put (by decide), fun i hi => by rw [jm_put_at, pk_un (by omega)], fun i hi => by rw [jm_put_ne _ _ (by decide)], hb, Nat.le_refl b, Or.inl rfl, fun q hq hq2 hq3 => ?_⟩
      have f1 := mc_fit hq (show k < n by omega) hq2
      have f2 := v3 (q k) hq3 (by rw [hv]; exact hq.1 k (by omega))
      rw [f1] at f2; cases f2
    · have hvn : v < n := by omega
      have hp' : ∀ i, i < k → (fun i => if i = k then v else p i) i = p i := fun i hi => by simp [show i ≠ k by omega]
      have hM' : mc_at (jm_put M 43 (upd (M.1 43) k (nI v))) A n k p (v + 1) := ⟨fun u hu => by rw [jm_put_ne _ _ (by decide)]; exact h1 u hu, fun i hi => by rw [jm_put_at, pk_un (by omega)]; exact h2 i hi, fun i hi => by rw [jm_put_ne _ _ (by decide)]; exact h3 i hi, by rw [jm_put_at, pk_us, nI_1], h5, h6⟩
      -- the perm p, v
      have hfull : qp n (fun i => if i = k then v else p i) := by
        have hu := v4 hvn
        refine ⟨fun i hi => ?_, fun i l hi hl e => ?_⟩
        · by_cases e : i = k
          · simp [e]; exact hvn
          · simp [e]; exact h5 i (by omega)
        · by_cases e1 : i = k
          · by_cases e2 : l = k
            · omega
            · simp [e1, e2] at e
              have : qu p k v = true := qu_iff.mpr ⟨l, by omega, e.symm⟩
              rw [hu] at this; cases this
          · by_cases e2 : l = k
            · simp [e1, e2] at e
              have : qu p k v = true := qu_iff.mpr ⟨i, by omega, e⟩
              rw [hu] at this; cases this
            · simp [e1, e2] at e
              exact h6 i l (by omega) (by omega) e
      have hcode : qc A (fun i => if i = k then v else p i) n = qc A p k * 2 ^ k + qd A p v k := by
        rw [show n = k + 1 by omega, qc_succ hA, qc_pre hp', qd_cong hp']; simp
      have hz : b >>> (qg_tri n - qg_tri (k + 1)) = b := by rw [show k + 1 = n by omega, Nat.sub_self]; rfl
      have hq : ∀ q, qp n q → (∀ i, i < k → q i = p i) → q k = v → qc A q n = qc A p k * 2 ^ k + qd A p v k := fun q hq hq2 hq3 => by
        rw [← hcode]
        refine qc_pre (fun i hi => ?_)
        by_cases e : i = k
        · simp [e, hq3]
        · simp [e]; exact hq2 i (by omega)
      by_cases hlt : b >>> (qg_tri n - qg_tri (k + 1)) < qc A p k * 2 ^ k + qd A p v k
      · obtain ⟨b', M', r1, r2, r3, r4, r5, r6, r7, r8⟩ := ih (n - (v + 1)) (by omega) p (v + 1) b _ (by omega) hb hM'
        refine ⟨b', M', (jp_R.one (c2 hvn hlt)).trans r1, (jp_eq.rfl'.put (by decide)).trans r2, fun i hi => ?_, fun i hi => ?_, r5, r6, r7, fun q hq1 hq2 hq3 => ?_⟩
        · rw [r3 i hi, jm_put_at, pk_un (by omega)]
        · rw [r4 i hi, jm_put_ne _ _ (by decide)]
        · by_cases e : q k = v
          · rw [hq q hq1 hq2 e]; omega
          · by_cases e2 : q k < v
            · have f1 := mc_fit hq1 (show k < n by omega) hq2
              rw [v3 (q k) hq3 e2] at f1; cases f1
            · exact r8 q hq1 hq2 (by omega)
      · have hb2 : qc A p k * 2 ^ k + qd A p v k < 2 ^ qg_tri n := by rw [← hcode]; exact qg_cd_lt _ n
        obtain ⟨b', M', r1, r2, r3, r4, r5, r6, r7, r8⟩ := ih (n - (v + 1)) (by omega) p (v + 1) (qc A p k * 2 ^ k + qd A p v k) _ (by omega) hb2 hM'
        refine ⟨b', M', (jp_R.one (c3 hvn hlt (by omega))).trans r1, (jp_eq.rfl'.put (by decide)).trans r2, fun i hi => ?_, fun i hi => ?_, r5, by omega, Or.inr ?_, fun q hq1 hq2 hq3 => ?_⟩
        · rw [r3 i hi, jm_put_at, pk_un (by omega)]
        · rw [r4 i hi, jm_put_ne _ _ (by decide)]
        · rcases r7 with e | e
          · exact ⟨_, hfull, by rw [e, hcode]⟩
          · exact e
        · by_cases e : q k = v
          · rw [hq q hq1 hq2 e]; omega
          · by_cases e2 : q k < v
            · have f1 := mc_fit hq1 (show k < n by omega) hq2
              rw [v3 (q k) hq3 e2] at f1; cases f1
            · exact r8 q hq1 hq2 (by omega)
  | succ d ihd =>
    intro k hk j
    induction j using Nat.strongRecOn with
    | _ j ih =>
    intro p w b M hj hb hM
    obtain ⟨v, v1, v2, v3, v4, c1, c2, c3, c4⟩ := mc_body hA (p := p) (w := w) hn (by omega) (by omega) hb hM
    obtain ⟨h1, h2, h3, h4, h5, h6⟩ := hM
    by_cases hv : v = n
    · refine ⟨b, _, jp_R.one (c1 hv), jp_eq.rfl'.put (by decide), fun i hi => by rw [jm_put_at, pk_un (by omega)], fun i hi => by rw [jm_put_ne _ _ (by decide)], hb, Nat.le_refl b, Or.inl rfl, fun q hq hq2 hq3 => ?_⟩
      have f1 := mc_fit hq (show k < n by omega) hq2
      have f2 := v3 (q k) hq3 (by rw [hv]; exact hq.1 k (by omega))
      rw [f1] at f2; cases f2
    · have hvn : v < n := by omega
      have hu := v4 hvn
      have hp' : ∀ i, i < k → (fun i => if i = k then v else p i) i = p i := fun i hi => by simp [show i ≠ k by omega]
      have hq : ∀ q, qp n q → (∀ i, i < k → q i = p i) → q k = v → qc A q n >>> (qg_tri n - qg_tri (k + 1)) = qc A p k * 2 ^ k + qd A p v k := fun q hq hq2 hq3 => by
        rw [qc_shr hA q n (k + 1) (by omega), qc_succ hA, qc_pre hq2, qd_cong hq2, hq3]
      by_cases hlt : b >>> (qg_tri n - qg_tri (k + 1)) < qc A p k * 2 ^ k + qd A p v k
      · have hM' : mc_at (jm_put M 43 (upd (M.1 43) k (nI v))) A n k p (v + 1) := ⟨fun u hu => by rw [jm_put_ne _ _ (by decide)]; exact h1 u hu, fun i hi => by rw [jm_put_at, pk_un (by omega)]; exact h2 i hi, fun i hi => by rw [jm_put_ne _ _ (by decide)]; exact h3 i hi, by rw [jm_put_at, pk_us, nI_1], h5, h6⟩
        obtain ⟨b', M', r1, r2, r3, r4, r5, r6, r7, r8⟩ := ih (n - (v + 1)) (by omega) p (v + 1) b _ (by omega) hb hM'
        refine ⟨b', M', (jp_R.one (c2 hvn hlt)).trans r1, (jp_eq.rfl'.put (by decide)).trans r2, fun i hi => ?_, fun i hi => ?_, r5, r6, r7, fun q hq1 hq2 hq3 => ?_⟩
        · rw [r3 i hi, jm_put_at, pk_un (by omega)]
        · rw [r4 i hi, jm_put_ne _ _ (by decide)]
        · by_cases e : q k = v
          · have e1 := hq q hq1 hq2 e
            rcases Nat.lt_or_ge b (qc A q n) with e3 | e3
            · omega
            · have := shr_le e3 (qg_tri n - qg_tri (k + 1))
              omega
          · by_cases e2 : q k < v
            · have f1 := mc_fit hq1 (show k < n by omega) hq2
              rw [v3 (q k) hq3 e2] at f1; cases f1
            · exact r8 q hq1 hq2 (by omega)
      · -- down
        have hM1 : mc_at (jm_put (jm_put M 44 (upd (M.1 44) (k + 1) (nI (qc A p k * 2 ^ k + qd A p v k)))) 43 (upd (upd (M.1 43) k (nI v)) (k + 1) (-1))) A n (k + 1) (fun i => if i = k then v else p i) 0 := by
          refine ⟨fun u hu => by rw [jm_put_ne _ _ (by decide), jm_put_ne _ _ (by decide)]; exact h1 u hu, fun i hi => ?_, fun i hi => ?_, by rw [jm_put_at, pk_us]; decide, fun i hi => ?_, fun i l hi hl e => ?_⟩
          · rw [jm_put_at, pk_un (by omega)]
            by_cases e : i = k
            · subst e; rw [pk_us]; simp
            · rw [pk_un e, h2 i (by omega)]; simp [e]
          · rw [jm_put_ne _ _ (by decide), jm_put_at]
            by_cases e : i = k + 1
            · subst e; rw [pk_us, qc_succ hA, qc_pre hp', qd_cong hp']; simp
            · rw [pk_un e, h3 i (by omega), qc_pre (k := i) (fun l hl => hp' l (by omega))]
          · by_cases e : i = k
            · simp [e]; exact hvn
            · simp [e]; exact h5 i (by omega)
          · by_cases e1 : i = k
            · by_cases e2 : l = k
              · omega
              · simp [e1, e2] at e
                have : qu p k v = true := qu_iff.mpr ⟨l, by omega, e.symm⟩
                rw [hu] at this; cases this
            · by_cases e2 : l = k
              · simp [e1, e2] at e
                have : qu p k v = true := qu_iff.mpr ⟨i, by omega, e⟩
                rw [hu] at this; cases this
              · simp [e1, e2] at e
                exact h6 i l (by omega) (by omega) e
        obtain ⟨b1, M1, s1, s2, s3, s4, s5, s6, s7, s8⟩ := ihd (k + 1) (by omega) n (fun i => if i = k then v else p i) 0 b _ (by omega) hb hM1
        have hM2 : mc_at M1 A n k p (v + 1) := by
          refine ⟨fun u hu => ?_, fun i hi => ?_, fun i hi => ?_, ?_, h5, h6⟩
          · rw [(s2 42 (by decide)).1, jm_put_ne _ _ (by decide), jm_put_ne _ _ (by decide)]; exact h1 u hu
          · rw [s3 i (by omega), jm_put_at, pk_un (by omega), pk_un (by omega)]; exact h2 i hi
          · rw [s4 i (by omega), jm_put_ne _ _ (by decide), jm_put_at, pk_un (by omega)]; exact h3 i hi
          · rw [s3 k (by omega), jm_put_at, pk_un (by omega), pk_us, nI_1]
        obtain ⟨b', M', r1, r2, r3, r4, r5, r6, r7, r8⟩ := ih (n - (v + 1)) (by omega) p (v + 1) b1 M1 (by omega) s5 hM2
        have hback : nI (k + 1) + (-1) = nI k := by rw [nI_m1 (by omega)]; rfl
        rw [hback] at s1
        refine ⟨b', M', ((jp_R.one (c4 hvn hlt (by omega))).trans s1).trans r1, ((jp_eq.put (jp_eq.put jp_eq.rfl' (by decide)) (by decide)).trans s2).trans r2, fun i hi => ?_, fun i hi => ?_, r5, by omega, ?_, fun q hq1 hq2 hq3 => ?_⟩
        · rw [r3 i hi, s3 i (by omega), jm_put_at, pk_un (by omega), pk_un (by omega)]
        · rw [r4 i hi, s4 i (by omega), jm_put_ne _ _ (by decide), jm_put_at, pk_un (by omega)]
        · rcases r7 with e | e
          · rcases s7 with e2 | e2
            · exact Or.inl (by omega)
            · exact Or.inr (by rw [e]; exact e2)
          · exact Or.inr e
        · by_cases e : q k = v
          · have := s8 q hq1 (fun i hi => by
              by_cases e9 : i = k
              · simp [e9, e]
              · simp [e9]; exact hq2 i (by omega)) (Nat.zero_le _)
            omega
          · by_cases e2 : q k < v
            · have f1 := mc_fit hq1 (show k < n by omega) hq2
              rw [v3 (q k) hq3 e2] at f1; cases f1
            · exact r8 q hq1 hq2 (by omega)
theorem m_near {n c : Nat} (hn : n ≤ 8) (hc : c < 2 ^ 31) {M : jm_M} : jp_L (fun f => X9_canonical_B2 f 39 (nI n) (nI c)) (0, M) (jm_put M 42 (fun v => if v < n then nI (qg_mask (qg_ad n c v) n) else M.1 42 v)) := by
  have key := jp_L.for (body := fun f => X9_canonical_B2 f 39 (nI n) (nI c)) (r := jm_put M 42 (fun v => if v < n then nI (qg_mask (qg_ad n c v) n) else M.1 42 v)) (fun j => (nI j, jm_put M 42 (fun v => if v < j then nI (qg_mask (qg_ad n c v) n) else M.1 42 v))) n ?_ ?_ 0 (Nat.zero_le n)
  · have e : (fun v => if v < 0 then nI (qg_mask (qg_ad n c v) n) else M.1 42 v) = M.1 42 := by funext v; simp
    rw [e, jm_put_self, nI_0] at key
    exact key
  · intro j hj
    refine (m_neigh hn hc hj).imp (fun f e => ?_)
    unfold X9_canonical_B2
    dsimp only
    rw [if_neg (nI_ge hj (by omega)), e, Option.bind_some, show jm_rf 39 3 = 42 from rfl, jp_sa (by omega) (by decide), Option.bind_some, jm_put_put, jm_put_at, nI_1]
    congr 5
    funext v
    by_cases e : v = j
    · subst e; rw [pk_us]; simp
    · rw [pk_un e]
      by_cases h2 : v < j
      · simp [h2, show v < j + 1 by omega]
      · simp [h2, show ¬ v < j + 1 by omega]
  · refine jp_E.all (fun f => ?_)
    unfold X9_canonical_B2
    dsimp only
    rw [if_pos (nI_le (Nat.le_refl n) (by omega))]
/-- the reference's canonical code is the canonical code -/
theorem m_canon {n c : Nat} (hn : n ≤ 8) (hn1 : 1 ≤ n) (hc : c < 2 ^ qg_tri n) (M : jm_M) : ∃ M', jp_eq [42, 43, 44] M M' ∧ jp_E (fun f => X9_canonical f 39 (nI n) (nI c) M = some (nI (cn n (qg_ad n c)), M')) := by
  have h28 := qg_tri8 n (by omega)
  have hc31 : c < 2 ^ 31 := Nat.lt_of_lt_of_le hc (Nat.pow_le_pow_right (by decide) (by omega))
  have hA := qg_ad_ok n c
  have h0 := m_near hn hc31 (M := M)
  generalize eM0 : jm_put M 42 (fun v => if v < n then nI (qg_mask (qg_ad n c v) n) else M.1 42 v) = M0 at h0
  have hM : mc_at (jm_put (jm_put M0 43 (upd (M0.1 43) 0 (-1))) 44 (upd (M0.1 44) 0 0)) (qg_ad n c) n 0 (fun i => i) 0 := by
    refine ⟨fun v hv => ?_, fun i hi => absurd hi (Nat.not_lt_zero i), fun i hi => ?_, ?_, fun i hi => absurd hi (Nat.not_lt_zero i), fun i j hi => absurd hi (Nat.not_lt_zero i)⟩
    · rw [jm_put_ne _ _ (by decide), jm_put_ne _ _ (by decide), ← eM0, jm_put_at]; simp [hv]
    · rw [show i = 0 by omega, jm_put_at, pk_us]; rfl
    · rw [jm_put_ne _ _ (by decide), jm_put_at, pk_us]; decide
  obtain ⟨b', M', r1, r2, r3, r4, r5, r6, r7, r8⟩ := mc_search hA hn (n - 1) 0 (by omega) n (fun i => i) 0 c _ (by omega) hc hM
  have hmin : cn n (qg_ad n c) = b' := by
    refine cn_eq ⟨?_, fun q hq => r8 q hq (fun i hi => absurd hi (Nat.not_lt_zero i)) (Nat.zero_le _)⟩
    rcases r7 with e | e
    · exact ⟨_, qp_id n, by rw [e]; exact (qg_cd_ad hc).symm⟩
    · exact e
  have hend : jp_L (fun f => X9_canonical_B44 f 39 (nI n)) (nI b', nI 0 + (-1), M') (nI b', M') := jp_L.done (jp_E.all (fun f => by
    unfold X9_canonical_B44
    dsimp only
    rw [if_pos (by decide)]))
  refine ⟨M', ?_, jp_E.imp2 h0.use (r1 _ hend).use (fun f e1 e2 => ?_)⟩
  · intro i hi
    have h1 := r2 i (fun q => hi (by simp at q ⊢; omega))
    simp at hi
    rw [h1.1, h1.2, jm_put_ne _ _ (by omega), jm_put_ne _ _ (by omega), ← eM0, jm_put_ne _ _ (by omega)]
    exact ⟨rfl, rfl⟩
  · unfold X9_canonical
    rw [e1, Option.bind_some, show jm_rf 39 4 = 43 from rfl, show jm_rf 39 5 = 44 from rfl, jp_saN (x := 0) 0 (by decide) (by decide) rfl, Option.bind_some, jp_saN (x := 0) 0 (by decide) (by decide) rfl, Option.bind_some, jm_put_ne _ _ (by decide)]
    rw [nI_0] at e2
    rw [e2, hmin]
    rfl
