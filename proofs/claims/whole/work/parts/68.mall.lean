/-! THE REFERENCE's walk through all automorphisms: how many, and where each vertex goes -/
noncomputable def pd (P : Prop) : Bool := @decide P (Classical.propDecidable P)
theorem pd_t {P : Prop} : pd P = true ↔ P := by unfold pd; exact @decide_eq_true_iff P (Classical.propDecidable P)
theorem pd_f {P : Prop} : pd P = false ↔ ¬ P := by
  rw [← Bool.not_eq_true, pd_t]
noncomputable def nac (A : Nat → Nat → Bool) (n : Nat) : Nat → Nat → (Nat → Nat) → Nat
  | 0, _, _ => 1
  | e + 1, k, p => fb_sm (fun x => if pd (okB A k p x) then nac A n e (k + 1) (qset p k x) else 0) n
noncomputable def ncw (A : Nat → Nat → Bool) (n e k : Nat) (p : Nat → Nat) (w : Nat) : Nat := fb_sm (fun x => if pd (w ≤ x ∧ okB A k p x) then nac A n e (k + 1) (qset p k x) else 0) n
theorem ncw_0 {A : Nat → Nat → Bool} {n e k : Nat} {p : Nat → Nat} : ncw A n e k p 0 = nac A n (e + 1) k p := by
  refine fb_sm_cong (fun x _ => ?_)
  have : (0 ≤ x ∧ okB A k p x) = okB A k p x := by simp
  rw [this]
theorem ncw_n {A : Nat → Nat → Bool} {n e k : Nat} {p : Nat → Nat} : ncw A n e k p n = 0 := by
  have : ncw A n e k p n = fb_sm (fun _ => 0) n := fb_sm_cong (fun x hx => by
    have : pd (n ≤ x ∧ okB A k p x) = false := pd_f.mpr (fun h => by omega)
    rw [this]; rfl)
  rw [this, fb_sm_const]; simp
theorem ncw_yes {A : Nat → Nat → Bool} {n e k w : Nat} {p : Nat → Nat} (hw : w < n) (h : okB A k p w) : ncw A n e k p w = nac A n e (k + 1) (qset p k w) + ncw A n e k p (w + 1) := by
  have e1 : ncw A n e k p w = fb_sm (fun x => (if w = x then (fun y => nac A n e (k + 1) (qset p k y)) x else 0) + (if pd (w + 1 ≤ x ∧ okB A k p x) then nac A n e (k + 1) (qset p k x) else 0)) n := fb_sm_cong (fun x hx => by
    by_cases q : w = x
    · subst q
      rw [pd_t.mpr ⟨Nat.le_refl w, h⟩, pd_f.mpr (fun q => by omega)]; simp
    · rw [if_neg q]
      by_cases q2 : w ≤ x ∧ okB A k p x
      · rw [pd_t.mpr q2, pd_t.mpr ⟨by omega, q2.2⟩]; simp
      · rw [pd_f.mpr q2, pd_f.mpr (fun q3 => q2 ⟨by omega, q3.2⟩)]; simp)
  rw [e1, fb_sm_add, sm_one, if_pos hw]
  rfl
theorem ncw_no {A : Nat → Nat → Bool} {n e k w : Nat} {p : Nat → Nat} (h : ¬ okB A k p w) : ncw A n e k p w = ncw A n e k p (w + 1) := fb_sm_cong (fun x hx => by
  by_cases q2 : w ≤ x ∧ okB A k p x
  · have : w ≠ x := fun q => h (by rw [q]; exact q2.2)
    rw [pd_t.mpr q2, pd_t.mpr ⟨by omega, q2.2⟩]
  · rw [pd_f.mpr q2, pd_f.mpr (fun q3 => q2 ⟨by omega, q3.2⟩)])
/-- an automorphism that goes on from a beginning -/
def qz (n : Nat) (A : Nat → Nat → Bool) (k : Nat) (p q : Nat → Nat) : Prop := qa n A q ∧ ∀ i, i < k → q i = p i
theorem qz_ok {n : Nat} {A : Nat → Nat → Bool} {k : Nat} {p q : Nat → Nat} (hk : k < n) (h : qz n A k p q) : okB A k p (q k) := ⟨mc_fit h.1.1 hk h.2, fun w hw => by rw [← h.2 w hw, h.1.2 k w hk (by omega)]⟩
/-- the orbits written down so far -/
def mo (M : jm_M) (n : Nat) (O : Nat → Nat → Bool) : Prop := ∀ v, v < n → M.1 46 v = nI (qg_mask (O v) n)
theorem mg_orb {M : jm_M} {n c : Nat} {q : Nat → Nat} {O : Nat → Nat → Bool} {V3 V4 V5 : Int32} (hn : n ≤ 8) (hq : ∀ i, i < n → q i < n) (him : ∀ i, i < n → M.1 45 i = nI (q i)) (hO : mo M n O) : jp_K (X9_goThrough_B144 39 (nI n) (nI c) V3 V4 V5) (0, M) (jm_put M 46 (fun v => if v < n then nI (qg_mask (fun y => O v y || decide (y = q v)) n) else M.1 46 v)) := by
  have key := jp_K.for (body := X9_goThrough_B144 39 (nI n) (nI c) V3 V4 V5) (r := jm_put M 46 (fun v => if v < n then nI (qg_mask (fun y => O v y || decide (y = q v)) n) else M.1 46 v)) (fun j => (nI j, jm_put M 46 (fun v => if v < j then nI (qg_mask (fun y => O v y || decide (y = q v)) n) else M.1 46 v))) n ?_ ?_ 0 (Nat.zero_le n)
  · have e : (fun v => if v < 0 then nI (qg_mask (fun y => O v y || decide (y = q v)) n) else M.1 46 v) = M.1 46 := by funext v; simp
    rw [e, jm_put_self, nI_0] at key
    exact key
  · intro j hj
    unfold X9_goThrough_B144
    dsimp only
    rw [if_neg (nI_ge hj (by omega)), show jm_rf 39 7 = 46 from rfl, show jm_rf 39 6 = 45 from rfl, jm_put_at, jm_put_ne _ _ (by decide), jp_ga (by omega) (by decide), Option.bind_some, jp_ga (by omega) (by decide), Option.bind_some, if_neg (by omega), hO j hj, him j hj, ni_setb (hq j hj) hn, jp_sa (by omega) (by decide), Option.bind_some, jm_put_put, jm_put_at, nI_1]
    congr 5
    funext v
    by_cases e : v = j
    · subst e; rw [pk_us]; simp
    · rw [pk_un e]
      by_cases h2 : v < j
      · simp [h2, show v < j + 1 by omega]
      · simp [h2, show ¬ v < j + 1 by omega]
  · unfold X9_goThrough_B144
    dsimp only
    rw [if_pos (nI_le (Nat.le_refl n) (by omega))]
/-- what the walk below a node, from the child w on, leaves -/
def mgr (n c k d : Nat) (p : Nat → Nat) (w : Nat) (O : Nat → Nat → Bool) (M : jm_M) (M' : jm_M) (O' : Nat → Nat → Bool) : Prop :=
  jp_eq [39, 45, 46] M M' ∧ (∀ i, i ≠ 8 → M'.1 39 i = M.1 39 i) ∧ M'.1 39 8 = M.1 39 8 + nI (ncw (qg_ad n c) n d k p w) ∧ mo M' n O' ∧ (∀ v y, v < n → y < n → (O' v y = true ↔ O v y = true ∨ ∃ q, qz n (qg_ad n c) k p q ∧ w ≤ q k ∧ q v = y)) ∧ ∀ i, i < k → M'.1 45 i = M.1 45 i
theorem mg_all {n c : Nat} (hn : n ≤ 8) (hc : c < 2 ^ 31) : ∀ (d k : Nat), k + d + 1 = n → ∀ (j : Nat) (p : Nat → Nat) (w : Nat) (M : jm_M) (O : Nat → Nat → Bool), w + j = n → mg_at M n k p w → qy n (qg_ad n c) n 0 k p → mo M n O →
    ∃ (M' : jm_M) (O' : Nat → Nat → Bool), mgr n c k d p w O M M' O' ∧ jp_R (fun f => X9_goThrough_B38 f 39 (nI n) (nI c) (-9) (-9)) (nI k, M) (nI k + (-1), M') := by
  have hA := qg_ad_ok n c
  have hsel : ∀ k w, k < n → mg_sel (-9) (-9) k w := fun k w hk => Or.inl (fun q => by
    have h9 := congrArg Int32.toInt q
    rw [nI_toInt (by omega)] at h9
    have : (-9 : Int32).toInt = -9 := by decide
    omega)
  intro d
  induction d with
  | zero =>
    intro k hk j
    induction j with
    | zero =>
      intro p w M O hj hM hp hO
      have hwn : w = n := by omega
      subst hwn
      refine ⟨_, O, ⟨jp_eq.rfl'.put (by decide), fun i _ => by rw [jm_put_ne _ _ (by decide)], by rw [jm_put_ne _ _ (by decide), ncw_n, nI_0, Int32.add_zero], fun v hv => by rw [jm_put_ne _ _ (by decide)]; exact hO v hv, fun v y _ _ => ⟨fun h => Or.inl h, fun h => ?_⟩, fun i hi => by rw [jm_put_at, pk_un (by omega)]⟩, jp_R.one (mg_end hn (by omega) hM)⟩
      rcases h with h | ⟨q, q1, q2, q3⟩
      · exact h
      · have := q1.1.1.1 k (by omega); omega
    | succ j ih =>
      intro p w M O hj hM hp hO
      by_cases ho : okB (qg_ad n c) k p w
      · -- one more automorphism
        have hy := qy_set hA hp (show w < n by omega) ho.1 (fun e => by omega) ho.2
        rw [show k + 1 = n by omega] at hy
        have hqa : qa n (qg_ad n c) (qset p k w) := ⟨⟨hy.1, fun i j hi hj e => hy.2.1 i j hi hj e⟩, hy.2.2.1⟩
        generalize eM1 : jm_put M 45 (upd (M.1 45) k (nI w)) = M1
        have him : ∀ i, i < k → M1.1 45 i = nI (p i) := fun i hi => by rw [← eM1, jm_put_at, pk_un (by omega)]; exact hM.1 i hi
        have him2 : ∀ i, i < n → M1.1 45 i = nI (qset p k w i) := fun i hi => by
          by_cases e : i = k
          · rw [e, ← eM1, jm_put_at, pk_us, qset_at]
          · rw [qset_lt (show i < k by omega)]; exact him i (by omega)
        have e8 : jm_set M1 39 8 ((M1.1 39 8) + 1) = jm_put M1 39 (upd (M.1 39) 8 (M.1 39 8 + 1)) := by
          rw [jm_set_put, ← eM1, jm_put_ne _ _ (by decide)]
        have hob := mg_orb (M := jm_put M1 39 (upd (M.1 39) 8 (M.1 39 8 + 1))) (c := c) (q := qset p k w) (O := O) (V3 := -9) (V4 := -9) (V5 := nI k) hn hy.1 (fun i hi => by rw [jm_put_ne _ _ (by decide)]; exact him2 i hi) (fun v hv => by rw [jm_put_ne _ _ (by decide), ← eM1, jm_put_ne _ _ (by decide)]; exact hO v hv)
        rw [jm_put_ne _ _ (show (46 : Nat) ≠ 39 by decide)] at hob
        generalize eM2 : jm_put (jm_put M1 39 (upd (M.1 39) 8 (M.1 39 8 + 1))) 46 (fun v => if v < n then nI (qg_mask (fun y => O v y || decide (y = qset p k w v)) n) else M1.1 46 v) = M2 at hob
        have hst : jp_E (fun f => X9_goThrough_B38 f 39 (nI n) (nI c) (-9) (-9) (nI k, M) = some (.inl (nI k, M2))) := by
          rcases mg_can (M := M1) (x := w) hn hc (by omega) (by omega) him hM.2.2 with ⟨q1, q2⟩ | ⟨q1, q2⟩
          · refine jp_E.imp2 q2 hob (fun f e e2 => ?_)
            have h3 : ¬ nI k = (-9 : Int32) := (hsel k w (by omega)).elim id (fun q => by
              have h9 := congrArg Int32.toInt q
              rw [nI_toInt (by omega)] at h9
              have : (-9 : Int32).toInt = -9 := by decide
              omega)
            unfold X9_goThrough_B38
            dsimp only
            rw [if_neg (nI_pos (by omega)), show jm_rf 39 6 = 45 from rfl, jp_ga (by omega) (by decide), Option.bind_some, hM.2.1, jp_sa (by omega) (by decide), Option.bind_some, jm_put_at, jp_ga (by omega) (by decide), Option.bind_some, pk_us, if_pos (nI_lt (show w < n by omega) (by omega)), if_neg h3, eM1, e, Option.bind_some, if_neg (show ¬ (1 : Int32) = 0 by decide), ni_sub1 (by omega), if_pos (nI_le (by omega) (by omega)), if_pos rfl, e8, e2, Option.bind_some]
          · exact absurd ho q1
        have hM2at : mg_at M2 n k p (w + 1) := by
          refine ⟨fun i hi => ?_, ?_, hM.2.2⟩
          · rw [← eM2, jm_put_ne _ _ (by decide), jm_put_ne _ _ (by decide)]; exact him i hi
          · rw [← eM2, jm_put_ne _ _ (by decide), jm_put_ne _ _ (by decide), ← eM1, jm_put_at, pk_us, nI_1]
        have hO2 : mo M2 n (fun v y => O v y || decide (y = qset p k w v)) := fun v hv => by rw [← eM2, jm_put_at, if_pos hv]
        obtain ⟨M', O', ⟨r1, r2, r3, r4, r5, r6⟩, r7⟩ := ih p (w + 1) M2 _ (by omega) hM2at hp hO2
        have eq2 : jp_eq [39, 45, 46] M M2 := by
          rw [← eM2, ← eM1]; exact ((jp_eq.rfl'.put (by decide)).put (by decide)).put (by decide)
        refine ⟨M', O', ⟨eq2.trans r1, fun i hi => ?_, ?_, r4, fun v y hv hy9 => ?_, fun i hi => ?_⟩, (jp_R.one hst).trans r7⟩
        · rw [r2 i hi, ← eM2, jm_put_ne _ _ (by decide), jm_put_at, pk_un hi]
        · rw [r3, ← eM2, jm_put_ne _ _ (by decide), jm_put_at, pk_us, ncw_yes (by omega) ho, ← nI_add]
          show _ = _ + (nI 1 + _)
          rw [← Int32.add_assoc]
          rfl
        · rw [r5 v y hv hy9]
          constructor
          · rintro (h | ⟨q, q1, q2, q3⟩)
            · rcases (Bool.or_eq_true _ _).mp h with h | h
              · exact Or.inl h
              · refine Or.inr ⟨qset p k w, ⟨hqa, fun i hi => qset_lt hi⟩, by rw [qset_at]; exact Nat.le_refl w, (of_decide_eq_true h).symm⟩
            · exact Or.inr ⟨q, q1, by omega, q3⟩
          · rintro (h | ⟨q, q1, q2, q3⟩)
            · exact Or.inl ((Bool.or_eq_true _ _).mpr (Or.inl h))
            · by_cases e : q k = w
              · refine Or.inl ((Bool.or_eq_true _ _).mpr (Or.inr (decide_eq_true ?_)))
                rw [← q3]
                by_cases e1 : v = k
                · rw [e1, qset_at]; exact e
                · rw [qset_lt (show v < k by omega)]; exact q1.2 v (by omega)
              · exact Or.inr ⟨q, q1, by omega, q3⟩
        · rw [r6 i hi, ← eM2, jm_put_ne _ _ (by decide), jm_put_ne _ _ (by decide), ← eM1, jm_put_at, pk_un (by omega)]
      · have hM1 : mg_at (jm_put M 45 (upd (M.1 45) k (nI w))) n k p (w + 1) := ⟨fun i hi => by rw [jm_put_at, pk_un (by omega)]; exact hM.1 i hi, by rw [jm_put_at, pk_us, nI_1], hM.2.2⟩
        obtain ⟨M', O', ⟨r1, r2, r3, r4, r5, r6⟩, r7⟩ := ih p (w + 1) _ O (by omega) hM1 hp (fun v hv => by rw [jm_put_ne _ _ (by decide)]; exact hO v hv)
        refine ⟨M', O', ⟨(jp_eq.rfl'.put (by decide)).trans r1, fun i hi => by rw [r2 i hi, jm_put_ne _ _ (by decide)], by rw [r3, jm_put_ne _ _ (by decide), ncw_no ho], r4, fun v y hv hy9 => ?_, fun i hi => by rw [r6 i hi, jm_put_at, pk_un (by omega)]⟩, (jp_R.one (mg_no hn hc (by omega) (by omega) hM (fun q => ho q.2))).trans r7⟩
        rw [r5 v y hv hy9]
        constructor
        · rintro (h | ⟨q, q1, q2, q3⟩)
          · exact Or.inl h
          · exact Or.inr ⟨q, q1, by omega, q3⟩
        · rintro (h | ⟨q, q1, q2, q3⟩)
          · exact Or.inl h
          · have : q k ≠ w := fun e => ho (by rw [← e]; exact qz_ok (by omega) q1)
            exact Or.inr ⟨q, q1, by omega, q3⟩
  | succ d ihd =>
    intro k hk j
    induction j with
    | zero =>
      intro p w M O hj hM hp hO
      have hwn : w = n := by omega
      subst hwn
      refine ⟨_, O, ⟨jp_eq.rfl'.put (by decide), fun i _ => by rw [jm_put_ne _ _ (by decide)], by rw [jm_put_ne _ _ (by decide), ncw_n, nI_0, Int32.add_zero], fun v hv => by rw [jm_put_ne _ _ (by decide)]; exact hO v hv, fun v y _ _ => ⟨fun h => Or.inl h, fun h => ?_⟩, fun i hi => by rw [jm_put_at, pk_un (by omega)]⟩, jp_R.one (mg_end hn (by omega) hM)⟩
      rcases h with h | ⟨q, q1, q2, q3⟩
      · exact h
      · have := q1.1.1.1 k (by omega); omega
    | succ j ih =>
      intro p w M O hj hM hp hO
      by_cases ho : okB (qg_ad n c) k p w
      · have hy := qy_set hA hp (show w < n by omega) ho.1 (fun e => by omega) ho.2
        have st := jp_R.one (mg_down (V3 := -9) (V4 := -9) hn hc (by omega) (by omega) hM (hsel k w (by omega)) ho)
        have hM1 : mg_at (jm_put M 45 (upd (upd (M.1 45) k (nI w)) (k + 1) (-1))) n (k + 1) (qset p k w) 0 := by
          refine ⟨fun i hi => ?_, by rw [jm_put_at, pk_us]; decide, hy.1⟩
          rw [jm_put_at, pk_un (by omega)]
          by_cases e : i = k
          · rw [e, pk_us, qset_at]
          · rw [pk_un e, qset_lt (show i < k by omega)]; exact hM.1 i (by omega)
        obtain ⟨M1, O1, ⟨s1, s2, s3, s4, s5, s6⟩, s7⟩ := ihd (k + 1) (by omega) n (qset p k w) 0 _ O (by omega) hM1 hy (fun v hv => by rw [jm_put_ne _ _ (by decide)]; exact hO v hv)
        rw [nI_m1 (by omega)] at s7
        have hM2 : mg_at M1 n k p (w + 1) := ⟨fun i hi => by rw [s6 i (by omega), jm_put_at, pk_un (by omega), pk_un (by omega)]; exact hM.1 i hi, by rw [s6 k (by omega), jm_put_at, pk_un (by omega), pk_us, nI_1], hM.2.2⟩
        obtain ⟨M', O', ⟨r1, r2, r3, r4, r5, r6⟩, r7⟩ := ih p (w + 1) M1 O1 (by omega) hM2 hp s4
        refine ⟨M', O', ⟨((jp_eq.rfl'.put (by decide)).trans s1).trans r1, fun i hi => by rw [r2 i hi, s2 i hi, jm_put_ne _ _ (by decide)], ?_, r4, fun v y hv hy9 => ?_, fun i hi => by rw [r6 i hi, s6 i (by omega), jm_put_at, pk_un (by omega), pk_un (by omega)]⟩, (st.trans s7).trans r7⟩
        · rw [r3, s3, jm_put_ne _ _ (by decide), ncw_yes (by omega) ho, ← nI_add, ncw_0, Int32.add_assoc]
        · rw [r5 v y hv hy9, s5 v y hv hy9]
          constructor
          · rintro ((h | ⟨q, q1, q2, q3⟩) | ⟨q, q1, q2, q3⟩)
            · exact Or.inl h
            · exact Or.inr ⟨q, ⟨q1.1, fun i hi => by rw [q1.2 i (by omega), qset_lt hi]⟩, by rw [q1.2 k (by omega), qset_at]; exact Nat.le_refl w, q3⟩
            · exact Or.inr ⟨q, q1, by omega, q3⟩
          · rintro (h | ⟨q, q1, q2, q3⟩)
            · exact Or.inl (Or.inl h)
            · by_cases e : q k = w
              · refine Or.inl (Or.inr ⟨q, ⟨q1.1, fun i hi => ?_⟩, Nat.zero_le _, q3⟩)
                by_cases e1 : i = k
                · rw [e1, qset_at]; exact e
                · rw [qset_lt (show i < k by omega)]; exact q1.2 i (by omega)
              · exact Or.inr ⟨q, q1, by omega, q3⟩
      · have hM1 : mg_at (jm_put M 45 (upd (M.1 45) k (nI w))) n k p (w + 1) := ⟨fun i hi => by rw [jm_put_at, pk_un (by omega)]; exact hM.1 i hi, by rw [jm_put_at, pk_us, nI_1], hM.2.2⟩
        obtain ⟨M', O', ⟨r1, r2, r3, r4, r5, r6⟩, r7⟩ := ih p (w + 1) _ O (by omega) hM1 hp (fun v hv => by rw [jm_put_ne _ _ (by decide)]; exact hO v hv)
        refine ⟨M', O', ⟨(jp_eq.rfl'.put (by decide)).trans r1, fun i hi => by rw [r2 i hi, jm_put_ne _ _ (by decide)], by rw [r3, jm_put_ne _ _ (by decide), ncw_no ho], r4, fun v y hv hy9 => ?_, fun i hi => by rw [r6 i hi, jm_put_at, pk_un (by omega)]⟩, (jp_R.one (mg_no hn hc (by omega) (by omega) hM (fun q => ho q.2))).trans r7⟩
        rw [r5 v y hv hy9]
        constructor
        · rintro (h | ⟨q, q1, q2, q3⟩)
          · exact Or.inl h
          · exact Or.inr ⟨q, q1, by omega, q3⟩
        · rintro (h | ⟨q, q1, q2, q3⟩)
          · exact Or.inl h
          · have : q k ≠ w := fun e => ho (by rw [← e]; exact qz_ok (by omega) q1)
            exact Or.inr ⟨q, q1, by omega, q3⟩
