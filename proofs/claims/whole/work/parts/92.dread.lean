/-! the class's deck: its reading methods -/
theorem jp_L.all {S Rr : Type} {body : Nat → S → Option (S ⊕ Rr)} (σ : Nat → S) (N : Nat) (P : Nat → Prop) (rt rf : Rr) (hs : ∀ v, v < N → P v → jp_E (fun n => body n (σ v) = some (.inl (σ (v + 1))))) (hf : ∀ v, v < N → ¬ P v → jp_E (fun n => body n (σ v) = some (.inr rf))) (hd : jp_E (fun n => body n (σ N) = some (.inr rt))) : ∀ a, a ≤ N → jp_L body (σ a) (if pd (∀ v, a ≤ v → v < N → P v) then rt else rf) := by
  have key : ∀ j a, a + j = N → jp_L body (σ a) (if pd (∀ v, a ≤ v → v < N → P v) then rt else rf) := by
    intro j
    induction j with
    | zero =>
      intro a h
      obtain rfl : a = N := by omega
      rw [if_pos (pd_t.mpr (fun v h1 h2 => by omega))]
      exact jp_L.done hd
    | succ j ih =>
      intro a h
      by_cases c : P a
      · have := ih (a + 1) (by omega)
        rw [pd_cong (show (∀ v, a + 1 ≤ v → v < N → P v) ↔ (∀ v, a ≤ v → v < N → P v) from ⟨fun q v h1 h2 => by
             by_cases e : v = a
             · rw [e]; exact c
             · exact q v (by omega) h2, fun q v h1 h2 => q v (by omega) h2⟩)] at this
        exact jp_L.step (hs a (by omega) c) this
      · rw [if_neg (fun q => c ((pd_t (P := ∀ v, a ≤ v → v < N → P v)).mp q a (Nat.le_refl a) (by omega)))]
        exact jp_L.done (hf a (by omega) c)
  exact fun a h => key (N - a) a (by omega)
theorem jp_L.all0 {S Rr : Type} {body : Nat → S → Option (S ⊕ Rr)} (σ : Nat → S) (N : Nat) (P : Nat → Prop) (rt rf : Rr) (hs : ∀ v, v < N → P v → jp_E (fun n => body n (σ v) = some (.inl (σ (v + 1))))) (hf : ∀ v, v < N → ¬ P v → jp_E (fun n => body n (σ v) = some (.inr rf))) (hd : jp_E (fun n => body n (σ N) = some (.inr rt))) : jp_L body (σ 0) (if pd (∀ v, v < N → P v) then rt else rf) := by
  have := jp_L.all σ N P rt rf hs hf hd 0 (Nat.zero_le N)
  rw [pd_cong (show (∀ v, 0 ≤ v → v < N → P v) ↔ (∀ v, v < N → P v) from ⟨fun q v h => q v (Nat.zero_le v) h, fun q v _ h => q v h⟩)] at this
  exact this
theorem x3_has {M : jm_M} {g m : Nat} {D : Nat → Nat} (h : dk M g m D) (hm : m ≤ 8) {i : Nat} (hi : i < m) : X3_has g (nI i) M = 1 := by
  unfold X3_has
  rw [if_neg (nI_pos (by omega)), h.1, if_neg (nI_ge hi (by omega))]
theorem x3_has_no {M : jm_M} {g m : Nat} {D : Nat → Nat} (h : dk M g m D) {x : Int32} (hx : ¬ ∃ v, v < m ∧ x = nI v) : X3_has g x M = 0 := by
  unfold X3_has
  by_cases h0 : x < 0
  · rw [if_pos h0]
  · rw [if_neg h0, h.1]
    obtain ⟨j, hj, rfl⟩ := nI_of h0
    by_cases hl : m ≤ j
    · rw [if_pos (nI_le hl hj)]
    · exact absurd ⟨j, by omega, rfl⟩ hx
theorem x3_at {M : jm_M} {g m : Nat} {D : Nat → Nat} (h : dk M g m D) (hm : m ≤ 8) {i : Nat} (hi : i < m) : X3_codeAt g (nI i) M = some (nI (D i)) := by
  unfold X3_codeAt
  rw [x3_has h hm hi, if_neg (show ¬ (1 : Int32) = 0 by decide), jp_ga (by omega) (by decide), Option.bind_some, h.2 i hi]
theorem x3_at_no {M : jm_M} {g m : Nat} {D : Nat → Nat} (h : dk M g m D) {i : Nat} (hi : m ≤ i) (hb : i < 2 ^ 31) : X3_codeAt g (nI i) M = some (-9) := by
  unfold X3_codeAt
  rw [x3_has_no h (fun ⟨v, h1, h2⟩ => by have := (nI_eq hb (by omega)).mp h2; omega), if_pos rfl]
theorem x3_often {M : jm_M} {g m x : Nat} {D : Nat → Nat} (h : dk M g m D) (hm : m ≤ 8) (hD : ∀ i, i < m → D i < 2 ^ 28) (hx : x < 2 ^ 28) : jp_E (fun f => X3_howOften f g (nI x) M = some (nI (fb_ct (fun i => decide (D i = x)) m))) := by
  have key := jp_K.for (body := X3_howOften_B4 g (nI x) M) (r := nI (fb_ct (fun i => decide (D i = x)) m)) (fun v => (nI (fb_ct (fun i => decide (D i = x)) v), nI v)) m ?_ ?_ 0 (Nat.zero_le m)
  · refine jp_E.imp key (fun f e => ?_)
    unfold X3_howOften
    rw [show ((0 : Int32), (0 : Int32)) = (nI (fb_ct (fun i => decide (D i = x)) 0), nI 0) from rfl, e]; rfl
  · intro v hv
    unfold X3_howOften_B4
    dsimp only
    rw [h.1, if_neg (nI_ge hv (by omega)), jp_ga (by omega) (by decide), Option.bind_some, h.2 v hv, fb_ct_succ]
    have := hD v hv
    by_cases c : D v = x
    · rw [if_pos (by rw [c]), decide_eq_true c, nI_1, nI_1]; rfl
    · rw [if_neg (fun q => c ((nI_eq (by omega) (by omega)).mp q)), decide_eq_false c, nI_1]; rfl
  · unfold X3_howOften_B4
    dsimp only
    rw [h.1, if_pos (nI_le (Nat.le_refl m) (by omega))]
def dnd (D : Nat → Nat) (i : Nat) : Bool := decide (i = 0) || decide (D i ≠ D (i - 1))
theorem x3_diff {M : jm_M} {g m : Nat} {D : Nat → Nat} (h : dk M g m D) (hm : m ≤ 8) (hD : ∀ i, i < m → D i < 2 ^ 28) : jp_E (fun f => X3_different f g M = some (nI (fb_ct (dnd D) m))) := by
  have key := jp_K.for (body := X3_different_B4 g M) (r := nI (fb_ct (dnd D) m)) (fun v => (nI (fb_ct (dnd D) v), nI v)) m ?_ ?_ 0 (Nat.zero_le m)
  · refine jp_E.imp key (fun f e => ?_)
    unfold X3_different
    rw [show ((0 : Int32), (0 : Int32)) = (nI (fb_ct (dnd D) 0), nI 0) from rfl, e]; rfl
  · intro v hv
    unfold X3_different_B4
    dsimp only
    rw [h.1, if_neg (nI_ge hv (by omega)), fb_ct_succ]
    by_cases c0 : v = 0
    · subst c0
      rw [if_pos (show nI 0 = (0 : Int32) from rfl), nI_1, nI_1]; rfl
    · rw [if_neg (nI_ne0 (by omega) (by omega)), jp_ga (by omega) (by decide), Option.bind_some, ni_sub1 (by omega), jp_ga (by omega) (by decide), Option.bind_some, h.2 v hv, h.2 (v - 1) (by omega)]
      have := hD v hv
      have := hD (v - 1) (by omega)
      unfold dnd
      by_cases c : D v = D (v - 1)
      · rw [if_pos (by rw [c]), decide_eq_false c0, decide_eq_false (fun q => q c), nI_1]; rfl
      · rw [if_neg (fun q => c ((nI_eq (by omega) (by omega)).mp q)), decide_eq_true c, Bool.or_true, nI_1, nI_1]; rfl
  · unfold X3_different_B4
    dsimp only
    rw [h.1, if_pos (nI_le (Nat.le_refl m) (by omega))]
theorem x3_contains {M : jm_M} {g1 g2 m1 m2 : Nat} {D1 D2 : Nat → Nat} (h1 : dk M g1 m1 D1) (hm1 : m1 ≤ 8) (hD1 : ∀ i, i < m1 → D1 i < 2 ^ 28) (h2 : dk M g2 m2 D2) (hm2 : m2 ≤ 8) (hD2 : ∀ i, i < m2 → D2 i < 2 ^ 28) : jp_E (fun f => X3_contains f g1 g2 M = some (if pd (∀ i, i < m2 → fb_ct (fun j => decide (D2 j = D2 i)) m2 ≤ fb_ct (fun j => decide (D1 j = D2 i)) m1) then 1 else 0)) := by
  have key := jp_L.all0 (body := fun f => X3_contains_B2 f g1 g2 M) (fun v => nI v) m2 (fun i => fb_ct (fun j => decide (D2 j = D2 i)) m2 ≤ fb_ct (fun j => decide (D1 j = D2 i)) m1) (.inr ()) (.inl 0) ?_ ?_ ?_
  · refine key.use.imp (fun f e => ?_)
    unfold X3_contains
    rw [show (0 : Int32) = nI 0 from rfl, e, Option.bind_some]
    split <;> rfl
  · intro v hv c
    refine jp_E.imp2 (x3_often h1 hm1 hD1 (hD2 v hv)) (x3_often h2 hm2 hD2 (hD2 v hv)) (fun f e1 e2 => ?_)
    have b1 := fb_ct_le (fun j => decide (D1 j = D2 v)) m1
    unfold X3_contains_B2 X3_size
    rw [h2.1, if_neg (nI_ge hv (by omega)), x3_at h2 hm2 hv, Option.bind_some, e1, Option.bind_some, e2, Option.bind_some, if_pos (nI_le c (by omega)), nI_1]
  · intro v hv c
    refine jp_E.imp2 (x3_often h1 hm1 hD1 (hD2 v hv)) (x3_often h2 hm2 hD2 (hD2 v hv)) (fun f e1 e2 => ?_)
    have b1 := fb_ct_le (fun j => decide (D2 j = D2 v)) m2
    unfold X3_contains_B2 X3_size
    rw [h2.1, if_neg (nI_ge hv (by omega)), x3_at h2 hm2 hv, Option.bind_some, e1, Option.bind_some, e2, Option.bind_some, if_neg (nI_ge (by omega) (by omega))]
  · refine jp_E.all (fun f => ?_)
    unfold X3_contains_B2 X3_size
    rw [h2.1, if_pos (nI_le (Nat.le_refl m2) (by omega))]
/-- the card with an index among those that are left: s steps left, at j, p passed, c taken -/
def lft (E D : Nat → Nat) (m kk : Nat) : Nat → Nat → Nat → Nat → Int32
  | 0, _, _, _ => -9
  | s + 1, j, p, c => if c < m ∧ D c = E j then lft E D m kk s (j + 1) p (c + 1) else if p = kk then nI (E j) else lft E D m kk s (j + 1) (p + 1) c
theorem lft_succ (E D : Nat → Nat) (m kk s j p c : Nat) : lft E D m kk (s + 1) j p c = if c < m ∧ D c = E j then lft E D m kk s (j + 1) p (c + 1) else if p = kk then nI (E j) else lft E D m kk s (j + 1) (p + 1) c := rfl
theorem x3_left {M : jm_M} {g1 g2 h m kk : Nat} {E D : Nat → Nat} (h1 : dk M g1 h E) (hh : h ≤ 8) (hE : ∀ i, i < h → E i < 2 ^ 28) (h2 : dk M g2 m D) (hm : m ≤ 8) (hD : ∀ i, i < m → D i < 2 ^ 28) (hk : kk < 2 ^ 31) : jp_E (fun f => X3_leftAfter f g1 g2 (nI kk) M = some (lft E D m kk h 0 0 0)) := by
  have key : ∀ s j p c, j + s = h → p ≤ j → c ≤ j → ∃ r, jp_L (fun _ => X3_leftAfter_B8 g1 g2 (nI kk) M) (nI p, nI c, nI j) r ∧ (Sum.elim (fun z => some z) (fun _ => some (-9 : Int32)) r : Option Int32) = some (lft E D m kk s j p c) := by
    intro s
    induction s with
    | zero =>
      intro j p c e hp hc
      refine ⟨.inr (), jp_L.done (jp_E.all (fun f => ?_)), rfl⟩
      unfold X3_leftAfter_B8
      dsimp only
      rw [h1.1, if_pos (nI_le (by omega) (by omega))]
    | succ s ih =>
      intro j p c e hp hc
      have hj := hE j (by omega)
      by_cases q : c < m ∧ D c = E j
      · obtain ⟨r, a, b⟩ := ih (j + 1) p (c + 1) (by omega) (by omega) (by omega)
        refine ⟨r, jp_L.step (jp_E.all (fun f => ?_)) a, ?_⟩
        · unfold X3_leftAfter_B8
          dsimp only
          rw [h1.1, if_neg (nI_ge (by omega) (by omega)), x3_has h2 hm q.1, if_neg (show ¬ (1 : Int32) = 0 by decide), x3_at h2 hm q.1, Option.bind_some, jp_ga (by omega) (by decide), Option.bind_some, h1.2 j (by omega), q.2, if_pos rfl, nI_1, nI_1]
        · rw [b, lft_succ, if_pos q]
      · by_cases hpk : p = kk
        · refine ⟨.inl (nI (E j)), jp_L.done (jp_E.all (fun f => ?_)), ?_⟩
          · unfold X3_leftAfter_B8
            dsimp only
            rw [h1.1, if_neg (nI_ge (by omega) (by omega))]
            by_cases hcm : c < m
            · have := hD c hcm
              rw [x3_has h2 hm hcm, if_neg (show ¬ (1 : Int32) = 0 by decide), x3_at h2 hm hcm, Option.bind_some, jp_ga (by omega) (by decide), Option.bind_some, h1.2 j (by omega), if_neg (fun w => q ⟨hcm, (nI_eq (by omega) (by omega)).mp w⟩), hpk, if_pos rfl, Option.bind_some]
            · rw [x3_has_no h2 (fun ⟨v, w1, w2⟩ => by have := (nI_eq (by omega) (by omega)).mp w2; omega), if_pos rfl, hpk, if_pos rfl, jp_ga (by omega) (by decide), Option.bind_some, h1.2 j (by omega)]
          · rw [lft_succ, if_neg q, if_pos hpk]; rfl
        · obtain ⟨r, a, b⟩ := ih (j + 1) (p + 1) c (by omega) (by omega) (by omega)
          have hne : ¬ nI p = nI kk := fun w => hpk ((nI_eq (by omega) hk).mp w)
          refine ⟨r, jp_L.step (jp_E.all (fun f => ?_)) a, ?_⟩
          · unfold X3_leftAfter_B8
            dsimp only
            rw [h1.1, if_neg (nI_ge (by omega) (by omega))]
            by_cases hcm : c < m
            · have := hD c hcm
              rw [x3_has h2 hm hcm, if_neg (show ¬ (1 : Int32) = 0 by decide), x3_at h2 hm hcm, Option.bind_some, jp_ga (by omega) (by decide), Option.bind_some, h1.2 j (by omega), if_neg (fun w => q ⟨hcm, (nI_eq (by omega) (by omega)).mp w⟩), if_neg hne, nI_1, nI_1]
            · rw [x3_has_no h2 (fun ⟨v, w1, w2⟩ => by have := (nI_eq (by omega) (by omega)).mp w2; omega), if_pos rfl, if_neg hne, nI_1, nI_1]
          · rw [b, lft_succ, if_neg q, if_neg hpk]
  obtain ⟨r, a, b⟩ := key h 0 0 0 (by omega) (Nat.le_refl 0) (Nat.le_refl 0)
  refine a.use.imp (fun f e => ?_)
  unfold X3_leftAfter
  rw [show ((0 : Int32), (0 : Int32), (0 : Int32)) = (nI 0, nI 0, nI 0) from rfl, e, Option.bind_some]
  exact b
