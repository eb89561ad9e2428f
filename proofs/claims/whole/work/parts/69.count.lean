/-! how many automorphisms: orbit times stabilizer; the class's answers on symmetry -/
theorem jp_L.forM {S Rr : Type} {body : Nat → S → Option (S ⊕ Rr)} {J : jm_M → Prop} (σ : Nat → jm_M → S) (ρ : jm_M → Rr) (a0 N : Nat) (hs : ∀ v M, a0 ≤ v → v < N → J M → ∃ M', J M' ∧ jp_E (fun n => body n (σ v M) = some (.inl (σ (v + 1) M')))) (hd : ∀ M, J M → jp_E (fun n => body n (σ N M) = some (.inr (ρ M)))) : ∀ M, a0 ≤ N → J M → ∃ M', J M' ∧ jp_L body (σ a0 M) (ρ M') := by
  have key : ∀ j a M, a0 ≤ a → a + j = N → J M → ∃ M', J M' ∧ jp_L body (σ a M) (ρ M') := by
    intro j
    induction j with
    | zero => intro a M _ h hJ; rw [show a = N by omega]; exact ⟨M, hJ, jp_L.done (hd M hJ)⟩
    | succ j ih =>
      intro a M h0 h hJ
      obtain ⟨M1, h1, h2⟩ := hs a M h0 (by omega) hJ
      obtain ⟨M2, h3, h4⟩ := ih (a + 1) M1 (by omega) (by omega) h1
      exact ⟨M2, h3, jp_L.step h2 h4⟩
  exact fun M h => key (N - a0) a0 M (Nat.le_refl _) (by omega)
theorem okB_cong {A : Nat → Nat → Bool} {k x : Nat} {p q : Nat → Nat} (h : ∀ i, i < k → p i = q i) : okB A k p x ↔ okB A k q x := by
  unfold okB
  rw [qu_cong h x]
  constructor
  · rintro ⟨h1, h2⟩; exact ⟨h1, fun w hw => by rw [← h w hw]; exact h2 w hw⟩
  · rintro ⟨h1, h2⟩; exact ⟨h1, fun w hw => by rw [h w hw]; exact h2 w hw⟩
theorem pd_cong {P Q : Prop} (h : P ↔ Q) : pd P = pd Q := by rw [propext h]
theorem nac_cong {A : Nat → Nat → Bool} {n : Nat} : ∀ {e k : Nat} {p q : Nat → Nat}, (∀ i, i < k → p i = q i) → nac A n e k p = nac A n e k q
  | 0, _, _, _, _ => rfl
  | e + 1, k, p, q, h => fb_sm_cong (fun x _ => by
    rw [pd_cong (okB_cong h)]
    rw [nac_cong (e := e) (k := k + 1) (p := qset p k x) (q := qset q k x) (fun i hi => by
      by_cases e1 : i = k
      · rw [e1, qset_at, qset_at]
      · rw [qset_lt (show i < k by omega), qset_lt (show i < k by omega)]; exact h i (by omega))])
theorem nac_tau {A : Nat → Nat → Bool} {n : Nat} {t : Nat → Nat} (ht : qa n A t) : ∀ {e k : Nat} {p : Nat → Nat}, k + e = n → (∀ i, i < k → p i < n) → nac A n e k (fun i => t (p i)) = nac A n e k p
  | 0, _, _, _, _ => rfl
  | e + 1, k, p, he, hp => by
    show fb_sm (fun x => if pd (okB A k (fun i => t (p i)) x) then nac A n e (k + 1) (qset (fun i => t (p i)) k x) else 0) n = _
    rw [← sm_perm ht.1]
    refine fb_sm_cong (fun y hy => ?_)
    have e1 : qset (fun i => t (p i)) k (t y) = fun i => t (qset p k y i) := by
      funext i
      unfold qset
      split <;> rfl
    have e2 : okB A k (fun i => t (p i)) (t y) ↔ okB A k p y := by
      have hu : qu (fun i => t (p i)) k (t y) = qu p k y := by
        cases h9 : qu p k y with
        | true =>
          obtain ⟨i, h1, h2⟩ := qu_iff.mp h9
          exact qu_iff.mpr ⟨i, h1, by show t (p i) = t y; rw [h2]⟩
        | false =>
          cases h8 : qu (fun i => t (p i)) k (t y) with
          | false => rfl
          | true =>
            obtain ⟨i, h1, h2⟩ := qu_iff.mp h8
            have : qu p k y = true := qu_iff.mpr ⟨i, h1, ht.1.2 _ _ (hp i h1) hy h2⟩
            rw [h9] at this; cases this
      unfold okB
      rw [hu]
      constructor
      · rintro ⟨h1, h2⟩; exact ⟨h1, fun w hw => by rw [← ht.2 y (p w) hy (hp w hw)]; exact h2 w hw⟩
      · rintro ⟨h1, h2⟩; exact ⟨h1, fun w hw => by rw [ht.2 y (p w) hy (hp w hw)]; exact h2 w hw⟩
    rw [pd_cong e2, e1, nac_tau ht (e := e) (k := k + 1) (p := qset p k y) (by omega) (fun i hi => by
      by_cases e3 : i = k
      · rw [e3, qset_at]; exact hy
      · rw [qset_lt (show i < k by omega)]; exact hp i (by omega))]
theorem nac_pos {A : Nat → Nat → Bool} (hA : qg_ok A) {n : Nat} : ∀ {e k : Nat} {p : Nat → Nat}, k + e = n → qy n A n 0 k p → 0 < nac A n e k p → ∃ q, qz n A k p q
  | 0, k, p, he, hp, _ => by
    rw [Nat.add_zero] at he
    subst he
    exact ⟨p, ⟨⟨hp.1, fun i j hi hj e => hp.2.1 i j hi hj e⟩, hp.2.2.1⟩, fun _ _ => rfl⟩
  | e + 1, k, p, he, hp, h => by
    have : ¬ ∀ x, x < n → (if pd (okB A k p x) then nac A n e (k + 1) (qset p k x) else 0) = 0 := by
      intro hz
      have : nac A n (e + 1) k p = fb_sm (fun _ => 0) n := fb_sm_cong hz
      rw [this, fb_sm_const] at h
      simp at h
    obtain ⟨x, hx⟩ := Classical.not_forall.mp this
    have hx2 : x < n ∧ ¬ (if pd (okB A k p x) then nac A n e (k + 1) (qset p k x) else 0) = 0 := by
      by_cases h3 : x < n
      · exact ⟨h3, fun h4 => hx (fun _ => h4)⟩
      · exact absurd (fun q => absurd q h3) hx
    obtain ⟨hxn, hx3⟩ := hx2
    by_cases ho : okB A k p x
    · rw [pd_t.mpr ho, if_pos rfl] at hx3
      obtain ⟨q, h1, h2⟩ := nac_pos hA (e := e) (k := k + 1) (p := qset p k x) (by omega) (qy_set hA hp hxn ho.1 (fun e9 => by omega) ho.2) (by omega)
      exact ⟨q, h1, fun i hi => by rw [h2 i (by omega), qset_lt hi]⟩
    · rw [pd_f.mpr ho] at hx3
      exact absurd rfl hx3
/-- how many images the vertex k has while those below it stay -/
noncomputable def nrk (A : Nat → Nat → Bool) (n k : Nat) (x : Nat) : Bool := pd (∃ q, qz n A k (fun i => i) q ∧ q k = x)
theorem qy_id {n : Nat} {A : Nat → Nat → Bool} {k : Nat} (hk : k ≤ n) : qy n A n 0 k (fun i => i) := ⟨fun i hi => by show i < n; omega, fun _ _ _ _ e => e, fun _ _ _ _ => rfl, fun i hi e => by omega⟩
theorem nac_step {A : Nat → Nat → Bool} (hA : qg_ok A) {n e k : Nat} (he : k + e + 1 = n) : nac A n (e + 1) k (fun i => i) = fb_ct (nrk A n k) n * nac A n e (k + 1) (fun i => i) := by
  have e1 : nac A n (e + 1) k (fun i => i) = fb_sm (fun x => (nrk A n k x).toNat * nac A n e (k + 1) (fun i => i)) n := fb_sm_cong (fun x hx => by
    by_cases h : ∃ q, qz n A k (fun i => i) q ∧ q k = x
    · have hh : nrk A n k x = true := pd_t.mpr h
      obtain ⟨q, h1, h2⟩ := h
      have ho : okB A k (fun i => i) x := by rw [← h2]; exact qz_ok (by omega) h1
      rw [pd_t.mpr ho, if_pos rfl, hh]
      have e2 : nac A n e (k + 1) (qset (fun i => i) k x) = nac A n e (k + 1) (fun i => q ((fun j => j) i)) := nac_cong (fun i hi => by
        by_cases e3 : i = k
        · rw [e3, qset_at]; exact h2.symm
        · rw [qset_lt (show i < k by omega)]; exact (h1.2 i (by omega)).symm)
      rw [e2, nac_tau h1.1 (by omega) (fun i hi => by show i < n; omega)]
      simp
    · have hh : nrk A n k x = false := pd_f.mpr h
      rw [hh]
      by_cases ho : okB A k (fun i => i) x
      · rw [pd_t.mpr ho, if_pos rfl]
        by_cases hz : nac A n e (k + 1) (qset (fun i => i) k x) = 0
        · rw [hz]; simp
        · obtain ⟨q, h1, h2⟩ := nac_pos hA (e := e) (k := k + 1) (p := qset (fun i => i) k x) (by omega) (qy_set hA (qy_id (by omega)) hx ho.1 (fun e9 => by omega) ho.2) (by omega)
          exact absurd ⟨q, ⟨h1, fun i hi => by rw [h2 i (by omega), qset_lt hi]⟩, by rw [h2 k (by omega), qset_at]⟩ h
      · rw [pd_f.mpr ho]; simp)
  have e2 : ∀ (f : Nat → Bool) (N m : Nat), fb_sm (fun x => (f x).toNat * N) m = fb_ct f m * N := by
    intro f N m
    induction m with
    | zero => simp [fb_sm, fb_ct]
    | succ m ih => rw [fb_sm_succ, ih, fb_ct_succ, Nat.add_mul]; cases f m <;> simp
  rw [e1, e2]
noncomputable def npr (A : Nat → Nat → Bool) (n : Nat) : Nat → Nat
  | 0 => 1
  | v + 1 => npr A n v * fb_ct (nrk A n v) n
theorem npr_nac {A : Nat → Nat → Bool} (hA : qg_ok A) {n : Nat} : ∀ v, v ≤ n → npr A n v * nac A n (n - v) v (fun i => i) = nac A n n 0 (fun i => i)
  | 0, _ => by rw [Nat.sub_zero]; show 1 * _ = _; rw [Nat.one_mul]
  | v + 1, h => by
    rw [← npr_nac hA v (by omega), show n - v = (n - (v + 1)) + 1 by omega, nac_step hA (by omega)]
    show npr A n v * fb_ct (nrk A n v) n * _ = _
    rw [Nat.mul_assoc]
theorem npr_all {A : Nat → Nat → Bool} (hA : qg_ok A) {n : Nat} : npr A n n = nac A n n 0 (fun i => i) := by
  have := npr_nac hA n (Nat.le_refl n)
  rw [Nat.sub_self] at this
  have e : nac A n 0 n (fun i => i) = 1 := rfl
  rw [e, Nat.mul_one] at this
  exact this
theorem nrk_low {A : Nat → Nat → Bool} {n k : Nat} (hk : k < n) : fb_ct (nrk A n k) k = 0 := fb_ct_zero.mpr (fun x hx => pd_f.mpr (by
  rintro ⟨q, h1, h2⟩
  have h3 := h1.2 x hx
  have := h1.1.1.2 k x hk (by omega) (by rw [h2, h3])
  omega))
/-! the class -/
def xsJ (M0 : jm_M) (n : Nat) (A : Nat → Nat → Bool) (M : jm_M) : Prop := jp_eq [23, 24] M0 M ∧ gx M 1 n A
theorem xsJ.next {M0 M M' : jm_M} {n : Nat} {A : Nat → Nat → Bool} (h : xsJ M0 n A M) (e : jp_eq [23, 24] M M') : xsJ M0 n A M' := by
  have e1 := (e 1 (by decide)).1
  have e2 := (e 2 (by decide)).1
  refine ⟨h.1.trans e, by rw [e1]; exact h.2.1, fun v hv => ?_⟩
  show M'.1 2 v = _
  rw [e2]; exact h.2.2 v hv
theorem xs_aut {A : Nat → Nat → Bool} (hA : qg_ok A) {n : Nat} (hn : n ≤ 8) {M : jm_M} (hg : gx M 1 n A) : ∃ M', xsJ M n A M' ∧ jp_E (fun f => X7_automorphisms f 23 1 M = some (nI (nac A n n 0 (fun i => i)), M')) := by
  have key := jp_L.forM (body := fun f => X7_automorphisms_B4 f 23 1) (J := xsJ M n A) (fun v M1 => (nI (npr A n v), nI v, M1)) (fun M1 => (nI (npr A n n), M1)) 0 n ?_ ?_ M (Nat.zero_le n) ⟨jp_eq.rfl', hg⟩
  · obtain ⟨M', h1, h2⟩ := key
    refine ⟨M', h1, h2.use.imp (fun f e => ?_)⟩
    unfold X7_automorphisms
    rw [show ((1 : Int32), (0 : Int32), M) = (nI (npr A n 0), nI 0, M) from rfl, e, npr_all hA]; rfl
  · intro v M1 _ hv hJ
    have inner := jp_L.forM (body := fun f => X7_automorphisms_B18 f 23 1 (nI (npr A n v)) (nI v)) (J := xsJ M n A) (fun w M2 => (nI (fb_ct (nrk A n v) w), nI w, M2)) (fun M2 => (nI (fb_ct (nrk A n v) n), M2)) v n ?_ ?_ M1 (by omega) hJ
    · obtain ⟨M2, h1, h2⟩ := inner
      refine ⟨M2, h1, h2.use.imp (fun f e => ?_)⟩
      rw [nrk_low hv, nI_0] at e
      unfold X7_automorphisms_B4 X4_size
      dsimp only
      rw [hJ.2.1, if_neg (nI_ge hv (by omega)), e, Option.bind_some, nI_mul, nI_1]
      rfl
    · intro w M2 hvw hw hJ2
      obtain ⟨r, M3, e1, e2, e3⟩ := xs_find hA hn hv hw (Nat.le_refl v) hJ2.2
      refine ⟨M3, hJ2.next e1, e2.imp (fun f e => ?_)⟩
      unfold X7_automorphisms_B18 X4_size
      dsimp only
      rw [hJ2.2.1, if_neg (nI_ge hw (by omega)), e, Option.bind_some, fb_ct_succ]
      rcases e3 with ⟨rfl, q, h1, h2⟩ | ⟨rfl, h1⟩
      · have : nrk A n v w = true := pd_t.mpr ⟨q, ⟨h1.1.1, h1.1.2.2⟩, h1.1.2.1⟩
        dsimp only
        rw [if_neg (show ¬ (1 : Int32) = 0 by decide), this, nI_1, nI_1]; rfl
      · have : nrk A n v w = false := pd_f.mpr (fun ⟨q, h2, h3⟩ => h1 ⟨q, h2.1, h3, h2.2⟩)
        dsimp only
        rw [if_pos rfl, this, nI_1]; rfl
    · intro M2 hJ2
      refine jp_E.all (fun f => ?_)
      unfold X7_automorphisms_B18 X4_size
      dsimp only
      rw [hJ2.2.1, if_pos (nI_le (Nat.le_refl n) (by omega))]
  · intro M1 hJ
    refine jp_E.all (fun f => ?_)
    unfold X7_automorphisms_B4 X4_size
    dsimp only
    rw [hJ.2.1, if_pos (nI_le (Nat.le_refl n) (by omega))]
