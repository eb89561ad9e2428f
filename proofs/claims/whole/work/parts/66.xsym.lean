/-! THE CLASS's automorphisms (object 23, graph 1) -/
theorem ni_beq (a b : Bool) : ((if a then (1 : Int32) else 0) = (if b then 1 else 0)) ↔ a = b := by cases a <;> cases b <;> simp
theorem xs_fitL {M : jm_M} {A : Nat → Nat → Bool} {n x y : Nat} {p : Nat → Nat} (hn : n ≤ 8) (hx : x ≤ 8) (hxn : x ≤ n) (him : ∀ w, w < x → M.1 24 w = nI (p w)) (hp : ∀ w, w < x → p w < n) {X1 X2 : Nat} (h1 : X1 < 256) (h2 : X2 < 256) (b1 : ∀ u, u < n → X1.testBit u = A x u) (b2 : ∀ u, u < n → X2.testBit u = A y u) :
    ∀ j w, w + j = x → ((∀ u, w ≤ u → u < x → A x u = A y (p u)) ∧ jp_K (X7_fits_B84 23 (nI x) (nI X1) (nI X2) M) (nI w) (.inr ())) ∨ ((¬ ∀ u, w ≤ u → u < x → A x u = A y (p u)) ∧ jp_K (X7_fits_B84 23 (nI x) (nI X1) (nI X2) M) (nI w) (.inl 0))
  | 0, w, h => Or.inl ⟨fun u q1 q2 => by omega, jp_K.done (by
      unfold X7_fits_B84
      rw [if_pos (nI_le (by omega) (by omega))])⟩
  | j + 1, w, h => by
    have hpw := hp w (by omega)
    have e1 : ((nI X1 >>> (nI w &&& 31)) &&& 1) = if A x w then 1 else 0 := by rw [ni_bit (by omega) (by omega), b1 w (by omega)]
    have e2 : ((nI X2 >>> (nI (p w) &&& 31)) &&& 1) = if A y (p w) then 1 else 0 := by rw [ni_bit (by omega) (by omega), b2 _ hpw]
    by_cases he : A x w = A y (p w)
    · have st : X7_fits_B84 23 (nI x) (nI X1) (nI X2) M (nI w) = some (.inl (nI (w + 1))) := by
        unfold X7_fits_B84
        rw [if_neg (nI_ge (by omega) (by omega)), if_neg (by rw [show (8 : Int32) = nI 8 from rfl]; exact nI_ge (by omega) (by decide)), show jm_rf 23 0 = 24 from rfl, jp_ga (by omega) (by decide), him w (by omega), Option.bind_some, e1, e2, if_pos ((ni_beq _ _).mpr he), nI_1]
      rcases xs_fitL (A := A) (y := y) hn hx hxn him hp h1 h2 b1 b2 j (w + 1) (by omega) with ⟨q1, q2⟩ | ⟨q1, q2⟩
      · refine Or.inl ⟨fun u u1 u2 => ?_, jp_K.step st q2⟩
        by_cases e : u = w
        · rw [e]; exact he
        · exact q1 u (by omega) u2
      · exact Or.inr ⟨fun q => q1 (fun u u1 u2 => q u (by omega) u2), jp_K.step st q2⟩
    · refine Or.inr ⟨fun q => he (q w (Nat.le_refl w) (by omega)), jp_K.done ?_⟩
      unfold X7_fits_B84
      rw [if_neg (nI_ge (by omega) (by omega)), if_neg (by rw [show (8 : Int32) = nI 8 from rfl]; exact nI_ge (by omega) (by decide)), show jm_rf 23 0 = 24 from rfl, jp_ga (by omega) (by decide), him w (by omega), Option.bind_some, e1, e2, if_neg (fun q => he ((ni_beq _ _).mp q))]
/-- what stays through a search for an automorphism -/
def xsf (M : jm_M) (A : Nat → Nat → Bool) (n a b : Nat) : Prop := gx M 1 n A ∧ M.1 23 1 = nI a ∧ M.1 23 2 = nI b
theorem xsf.keep {M M' : jm_M} {A : Nat → Nat → Bool} {n a b : Nat} (h : xsf M A n a b) (e : jp_eq [24] M M') : xsf M' A n a b := by
  have e1 := (e 1 (by decide)).1
  have e2 := (e 2 (by decide)).1
  have e23 := (e 23 (by decide)).1
  refine ⟨⟨by rw [e1]; exact h.1.1, fun v hv => ?_⟩, by rw [e23]; exact h.2.1, by rw [e23]; exact h.2.2⟩
  show M'.1 2 v = _
  rw [e2]; exact h.1.2 v hv
def xsc (A : Nat → Nat → Bool) (n a b : Nat) (p : Nat → Nat) (x y : Nat) : Prop := (x = a ↔ y = b) ∧ fb_ct (A x) n = fb_ct (A y) n ∧ A x a = A y b ∧ ∀ w, w < x → A x w = A y (p w)
theorem xs_fits {M : jm_M} {A : Nat → Nat → Bool} {n a b x y : Nat} {p : Nat → Nat} (hn : n ≤ 8) (hM : xsf M A n a b) (ha : a < n) (hb : b < n) (hx : x < n) (hy : y < n) (him : ∀ w, w < x → M.1 24 w = nI (p w)) (hp : ∀ w, w < x → p w < n) :
    ∃ r : Int32, jp_E (fun f => X7_fits f 23 1 (nI x) (nI y) M = some r) ∧ (r = 0 ∨ r = 1) ∧ (r = 0 ↔ ¬ xsc A n a b p x y) := by
  obtain ⟨hg, h1, h2⟩ := hM
  have m1 := qg_mask_lt (A x) n
  have m2 := qg_mask_lt (A y) n
  have p8 : 2 ^ n ≤ 2 ^ 8 := Nat.pow_le_pow_right (by decide) hn
  have bt1 : ∀ u, u < n → (qg_mask (A x) n).testBit u = A x u := fun u hu => by rw [qg_mask_bit]; simp [hu]
  have bt2 : ∀ u, u < n → (qg_mask (A y) n).testBit u = A y u := fun u hu => by rw [qg_mask_bit]; simp [hu]
  have ea : ((nI (qg_mask (A x) n) >>> (nI a &&& 31)) &&& 1) = if A x a then 1 else 0 := by rw [ni_bit (by omega) (by omega), bt1 a ha]
  have eb : ((nI (qg_mask (A y) n) >>> (nI b &&& 31)) &&& 1) = if A y b then 1 else 0 := by rw [ni_bit (by omega) (by omega), bt2 b hb]
  have c1 := fb_ct_le (A x) n
  have c2 := fb_ct_le (A y) n
  have ex : (nI x = nI a) ↔ x = a := nI_eq (by omega) (by omega)
  have ey : (nI y = nI b) ↔ y = b := nI_eq (by omega) (by omega)
  have ec : (nI (fb_ct (A x) n) = nI (fb_ct (A y) n)) ↔ fb_ct (A x) n = fb_ct (A y) n := nI_eq (by omega) (by omega)
  by_cases q1 : x = a ↔ y = b
  · by_cases q2 : fb_ct (A x) n = fb_ct (A y) n
    · by_cases q3 : A x a = A y b
      · rcases xs_fitL (A := A) (y := y) hn (by omega) (by omega) him hp (by omega) (by omega) bt1 bt2 x 0 (by omega) with ⟨t1, t2⟩ | ⟨t1, t2⟩
        · refine ⟨1, jp_E.imp t2 (fun f e => ?_), Or.inr rfl, ⟨fun h => absurd h (by decide), fun h => absurd ⟨q1, q2, q3, fun w hw => t1 w (Nat.zero_le w) hw⟩ h⟩⟩
          unfold X7_fits
          rw [nI_0] at e
          rw [gx_row hg hn hx, Option.bind_some, gx_row hg hn hy, Option.bind_some, h1, h2, ni_bcm _ (by omega), ni_bcm _ (by omega), ea, eb, if_pos (ec.mpr q2), if_pos ((ni_beq _ _).mpr q3), e]
          by_cases hxa : x = a
          · rw [if_pos (ex.mpr hxa), if_pos (ey.mpr (q1.mp hxa))]; rfl
          · rw [if_neg (fun q => hxa (ex.mp q)), if_neg (fun q => hxa (q1.mpr (ey.mp q)))]; rfl
        · refine ⟨0, jp_E.imp t2 (fun f e => ?_), Or.inl rfl, ⟨fun _ h => t1 (fun u _ u2 => h.2.2.2 u u2), fun _ => rfl⟩⟩
          unfold X7_fits
          rw [nI_0] at e
          rw [gx_row hg hn hx, Option.bind_some, gx_row hg hn hy, Option.bind_some, h1, h2, ni_bcm _ (by omega), ni_bcm _ (by omega), ea, eb, if_pos (ec.mpr q2), if_pos ((ni_beq _ _).mpr q3), e]
          by_cases hxa : x = a
          · rw [if_pos (ex.mpr hxa), if_pos (ey.mpr (q1.mp hxa))]; rfl
          · rw [if_neg (fun q => hxa (ex.mp q)), if_neg (fun q => hxa (q1.mpr (ey.mp q)))]; rfl
      · refine ⟨0, jp_E.all (fun f => ?_), Or.inl rfl, ⟨fun _ h => q3 h.2.2.1, fun _ => rfl⟩⟩
        unfold X7_fits
        rw [gx_row hg hn hx, Option.bind_some, gx_row hg hn hy, Option.bind_some, h1, h2, ni_bcm _ (by omega), ni_bcm _ (by omega), ea, eb, if_pos (ec.mpr q2), if_neg (fun q => q3 ((ni_beq _ _).mp q))]
        simp
    · refine ⟨0, jp_E.all (fun f => ?_), Or.inl rfl, ⟨fun _ h => q2 h.2.1, fun _ => rfl⟩⟩
      unfold X7_fits
      rw [gx_row hg hn hx, Option.bind_some, gx_row hg hn hy, Option.bind_some, h1, h2, ni_bcm _ (by omega), ni_bcm _ (by omega), if_neg (fun q => q2 (ec.mp q))]
      simp
  · refine ⟨0, jp_E.all (fun f => ?_), Or.inl rfl, ⟨fun _ h => q1 h.1, fun _ => rfl⟩⟩
    unfold X7_fits
    rw [gx_row hg hn hx, Option.bind_some, gx_row hg hn hy, Option.bind_some, h1, h2]
    by_cases hxa : x = a
    · rw [if_pos (ex.mpr hxa), if_neg (fun q => q1 ⟨fun _ => ey.mp q, fun _ => hxa⟩)]
    · rw [if_neg (fun q => hxa (ex.mp q)), if_pos (ey.mpr (by
        rcases Classical.em (y = b) with h | h
        · exact h
        · exact absurd ⟨fun h9 => absurd h9 hxa, fun h9 => absurd h9 h⟩ q1))]
theorem xsc_of {n : Nat} {A : Nat → Nat → Bool} {a b k : Nat} {p r : Nat → Nat} (hk : k < n) (ha : a < n) (hr : qx n A a b k p r) : xsc A n a b p k (r k) := by
  obtain ⟨hq, h2, h3⟩ := hr
  refine ⟨⟨fun e => by rw [e]; exact h2, fun e => hq.1.2 k a hk ha (by rw [e, h2])⟩, (qa_deg hq hk).symm, by rw [← h2, hq.2 k a hk ha], fun w hw => by rw [← h3 w hw, hq.2 k w hk (by omega)]⟩
/-- the search from a beginning -/
def xsw (A : Nat → Nat → Bool) (n a b k d : Nat) : Prop := ∀ (p : Nat → Nat) (M : jm_M), xsf M A n a b → (∀ w, w < k → M.1 24 w = nI (p w)) → qy n A a b k p →
  ∃ (r : Int32) (M' : jm_M), jp_eq [24] M M' ∧ jp_E (fun f => X7_extend d f 23 1 (nI k) (nI (qg_mask (qu p k) n)) M = some (r, M')) ∧
    ((r = 1 ∧ ∃ q, qx1 n A a b k p q ∧ ∀ i, i < n → M'.1 24 i = nI (q i)) ∨ (r = 0 ∧ (¬ ∃ q, qx n A a b k p q) ∧ ∀ i, i < k → M'.1 24 i = M.1 24 i))
theorem xs_loop {A : Nat → Nat → Bool} (hA : qg_ok A) {n a b k d : Nat} (hn : n ≤ 8) (ha : a < n) (hb : b < n) (hk : k < n) (ih : xsw A n a b (k + 1) d) {p : Nat → Nat} (hp : qy n A a b k p) :
    ∀ (j y : Nat), y + j = n → ∀ (M : jm_M), xsf M A n a b → (∀ w, w < k → M.1 24 w = nI (p w)) → (∀ q, qx n A a b k p q → ¬ q k < y) →
      ∃ (M' : jm_M), jp_eq [24] M M' ∧ ((∃ q, qx1 n A a b k p q ∧ (∀ i, i < n → M'.1 24 i = nI (q i)) ∧ jp_L (fun f => X7_extend_B13 (X7_extend d f) f 23 1 (nI k) (nI (qg_mask (qu p k) n))) (nI y, M) (.inl (1, M'))) ∨
        ((¬ ∃ q, qx n A a b k p q) ∧ (∀ i, i < k → M'.1 24 i = M.1 24 i) ∧ jp_L (fun f => X7_extend_B13 (X7_extend d f) f 23 1 (nI k) (nI (qg_mask (qu p k) n))) (nI y, M) (.inr M'))) := by
  intro j
  induction j with
  | zero =>
    intro y hy M hM him hlow
    refine ⟨M, jp_eq.rfl', Or.inr ⟨?_, fun _ _ => rfl, jp_L.done (jp_E.all (fun f => ?_))⟩⟩
    · rintro ⟨q, hq⟩
      exact hlow q hq (by have := hq.1.1.1 k hk; omega)
    · unfold X7_extend_B13 X4_size
      dsimp only
      rw [hM.1.1, if_pos (nI_le (by omega) (by omega))]
  | succ j ihj =>
    intro y hy M hM him hlow
    have hyn : y < n := by omega
    have ebit : ((nI (qg_mask (qu p k) n) >>> (nI y &&& 31)) &&& 1) = if qu p k y then 1 else 0 := by
      rw [ni_bit (qg_mask_31 _ hn) (by omega), qg_mask_bit]; simp [hyn]
    have hnext : (∀ q, qx n A a b k p q → q k ≠ y) → ∀ q, qx n A a b k p q → ¬ q k < y + 1 := fun h q hq h9 => by
      have := hlow q hq
      have := h q hq
      omega
    -- go on with the next one
    have skip : ∀ M1 : jm_M, xsf M1 A n a b → jp_eq [24] M M1 → (∀ w, w < k → M1.1 24 w = M.1 24 w) → (∀ q, qx n A a b k p q → q k ≠ y) → jp_E (fun f => X7_extend_B13 (X7_extend d f) f 23 1 (nI k) (nI (qg_mask (qu p k) n)) (nI y, M) = some (.inl (nI (y + 1), M1))) →
        ∃ (M' : jm_M), jp_eq [24] M M' ∧ ((∃ q, qx1 n A a b k p q ∧ (∀ i, i < n → M'.1 24 i = nI (q i)) ∧ jp_L (fun f => X7_extend_B13 (X7_extend d f) f 23 1 (nI k) (nI (qg_mask (qu p k) n))) (nI y, M) (.inl (1, M'))) ∨
        ((¬ ∃ q, qx n A a b k p q) ∧ (∀ i, i < k → M'.1 24 i = M.1 24 i) ∧ jp_L (fun f => X7_extend_B13 (X7_extend d f) f 23 1 (nI k) (nI (qg_mask (qu p k) n))) (nI y, M) (.inr M'))) := by
      intro M1 g1 g2 g3 g4 g5
      obtain ⟨M', r1, r2⟩ := ihj (y + 1) (by omega) M1 g1 (fun w hw => by rw [g3 w hw]; exact him w hw) (hnext g4)
      refine ⟨M', g2.trans r1, ?_⟩
      rcases r2 with ⟨q, s1, s2, s3⟩ | ⟨s1, s2, s3⟩
      · exact Or.inl ⟨q, s1, s2, jp_L.step g5 s3⟩
      · exact Or.inr ⟨s1, fun i hi => by rw [s2 i hi, g3 i hi], jp_L.step g5 s3⟩
    by_cases hu : qu p k y = true
    · refine skip M hM jp_eq.rfl' (fun _ _ => rfl) (fun q hq e => ?_) (jp_E.all (fun f => ?_))
      · have := qx_free hk hq
        rw [e, hu] at this; cases this
      · unfold X7_extend_B13 X4_size
        dsimp only
        rw [hM.1.1, if_neg (nI_ge hyn (by omega)), ebit, hu, if_neg (by decide), nI_1]
    · have huf : qu p k y = false := by cases h9 : qu p k y <;> simp_all
      obtain ⟨r, f1, f2, f3⟩ := xs_fits hn hM ha hb hk hyn him hp.1
      by_cases hr0 : r = 0
      · refine skip M hM jp_eq.rfl' (fun _ _ => rfl) (fun q hq e => ?_) (f1.imp (fun f e => ?_))
        · have := xsc_of hk ha hq
          rw [e] at this
          exact (f3.mp hr0) this
        · unfold X7_extend_B13 X4_size
          dsimp only
          rw [hM.1.1, if_neg (nI_ge hyn (by omega)), ebit, huf, if_pos (by decide), e, Option.bind_some, if_pos hr0, nI_1]
      · have hc : xsc A n a b p k y := Classical.byContradiction (fun h => hr0 (f3.mpr h))
        have hy1 : qy n A a b (k + 1) (qset p k y) := qy_set hA hp hyn huf hc.1.mp (fun w hw => (hc.2.2.2 w hw).symm)
        have hM1 : xsf (jm_put M 24 (upd (M.1 24) k (nI y))) A n a b := hM.keep (jp_eq.rfl'.put (by decide))
        obtain ⟨r1, M1, e1, e2, e3⟩ := ih (qset p k y) (jm_put M 24 (upd (M.1 24) k (nI y))) hM1 (fun w hw => by
          rw [jm_put_at]
          by_cases e : w = k
          · rw [e, pk_us, qset_at]
          · rw [pk_un e, qset_lt (show w < k by omega)]; exact him w (by omega)) hy1
        have eq1 : jp_eq [24] M M1 := (jp_eq.rfl'.put (by decide)).trans e1
        have hmask : nI (qg_mask (qu (qset p k y) (k + 1)) n) = nI (qg_mask (qu p k) n) ||| ((1 : Int32) <<< (nI y &&& 31)) := by
          rw [ni_setb hyn hn]
          congr 1
          refine qg_mask_cong (fun w _ => ?_)
          show (qu (qset p k y) k w || decide (qset p k y k = w)) = _
          rw [qu_cong (q := p) (fun i hi => qset_lt hi), qset_at]
          congr 1
          by_cases h : w = y
          · simp [h]
          · simp [h, Ne.symm h]
        rcases e3 with ⟨rfl, q, s1, s2⟩ | ⟨rfl, s1, s2⟩
        · refine ⟨M1, eq1, Or.inl ⟨q, qx1_up hk s1 hlow, s2, jp_L.done (jp_E.imp2 f1 e2 (fun f a1 a2 => ?_))⟩⟩
          unfold X7_extend_B13 X4_size
          dsimp only
          rw [hM.1.1, if_neg (nI_ge hyn (by omega)), ebit, huf, if_pos (by decide), a1, Option.bind_some, if_neg hr0, show jm_rf 23 0 = 24 from rfl, jp_sa (by omega) (by decide), Option.bind_some, nI_1, ← hmask, a2, Option.bind_some]
          rfl
        · refine skip M1 (hM.keep eq1) eq1 (fun w hw => by rw [s2 w (by omega), jm_put_at, pk_un (by omega)]) (fun q hq e => s1 ⟨q, qx_down hq e⟩) (jp_E.imp2 f1 e2 (fun f a1 a2 => ?_))
          unfold X7_extend_B13 X4_size
          dsimp only
          rw [hM.1.1, if_neg (nI_ge hyn (by omega)), ebit, huf, if_pos (by decide), a1, Option.bind_some, if_neg hr0, show jm_rf 23 0 = 24 from rfl, jp_sa (by omega) (by decide), Option.bind_some, nI_1 k, ← hmask, a2, Option.bind_some, if_pos rfl, nI_1 y]
theorem xs_extend {A : Nat → Nat → Bool} (hA : qg_ok A) {n a b : Nat} (hn : n ≤ 8) (ha : a < n) (hb : b < n) : ∀ (e k d : Nat), k + e = n → e < d → xsw A n a b k d := by
  intro e
  induction e with
  | zero =>
    intro k d hk hd p M hM him hp
    obtain ⟨d, rfl⟩ : ∃ q, d = q + 1 := ⟨d - 1, by omega⟩
    have hkn : k = n := by omega
    subst hkn
    refine ⟨1, M, jp_eq.rfl', jp_E.all (fun f => ?_), Or.inl ⟨rfl, p, qy_full hp ha, him⟩⟩
    show X7_extend_R (X7_extend d f) f 23 1 _ _ M = _
    unfold X7_extend_R
    rw [if_pos (gx_has_no hM.1 (by rintro ⟨v, h1, h2⟩; have := (nI_eq (by omega) (by omega)).mp h2; omega))]
  | succ e ihe =>
    intro k d hk hd p M hM him hp
    obtain ⟨d, rfl⟩ : ∃ q, d = q + 1 := ⟨d - 1, by omega⟩
    obtain ⟨M', r1, r2⟩ := xs_loop hA hn ha hb (by omega) (ihe (k + 1) d (by omega) (by omega)) hp n 0 (by omega) M hM him (fun q _ h => absurd h (Nat.not_lt_zero _))
    have hh : X4_has 1 (nI k) M = 1 := gx_has hM.1 hn (by omega)
    rcases r2 with ⟨q, s1, s2, s3⟩ | ⟨s1, s2, s3⟩
    · refine ⟨1, M', r1, s3.use.imp (fun f e9 => ?_), Or.inl ⟨rfl, q, s1, s2⟩⟩
      show X7_extend_R (X7_extend d f) f 23 1 _ _ M = _
      unfold X7_extend_R
      rw [nI_0] at e9
      rw [hh, if_neg (by decide), e9]; rfl
    · refine ⟨0, M', r1, s3.use.imp (fun f e9 => ?_), Or.inr ⟨rfl, s1, s2⟩⟩
      show X7_extend_R (X7_extend d f) f 23 1 _ _ M = _
      unfold X7_extend_R
      rw [nI_0] at e9
      rw [hh, if_neg (by decide), e9]; rfl
/-- the class's find: the first automorphism that maps a to b and leaves the vertices below k -/
theorem xs_find {A : Nat → Nat → Bool} (hA : qg_ok A) {n a b k : Nat} (hn : n ≤ 8) (ha : a < n) (hb : b < n) (hk : k ≤ a) {M : jm_M} (hg : gx M 1 n A) :
    ∃ (r : Int32) (M' : jm_M), jp_eq [23, 24] M M' ∧ jp_E (fun f => X7_find f 23 1 (nI k) (nI a) (nI b) M = some (r, M')) ∧
      ((r = 1 ∧ ∃ q, qx1 n A a b k (fun i => i) q ∧ ∀ i, i < n → M'.1 24 i = nI (q i)) ∨ (r = 0 ∧ ¬ ∃ q, qx n A a b k (fun i => i) q)) := by
  have e0 : jm_set (jm_set M 23 1 (nI a)) 23 2 (nI b) = jm_put M 23 (upd (upd (M.1 23) 1 (nI a)) 2 (nI b)) := by
    rw [jm_set_put, jm_set_put, jm_put_put, jm_put_at]
  have key := jp_K.for (body := X7_find_B17 23 1 (nI k)) (r := (nI (qg_mask (qu (fun i => i) k) n), jm_put (jm_put M 23 (upd (upd (M.1 23) 1 (nI a)) 2 (nI b))) 24 (fun i => if i < k then nI i else M.1 24 i))) (fun w => (nI (qg_mask (qu (fun i => i) w) n), nI w, jm_put (jm_put M 23 (upd (upd (M.1 23) 1 (nI a)) 2 (nI b))) 24 (fun i => if i < w then nI i else M.1 24 i))) k ?_ ?_ 0 (Nat.zero_le k)
  · generalize eM1 : jm_put (jm_put M 23 (upd (upd (M.1 23) 1 (nI a)) 2 (nI b))) 24 (fun i => if i < k then nI i else M.1 24 i) = M1 at key
    have hM1 : xsf M1 A n a b := by
      rw [← eM1]
      refine ⟨⟨by rw [jm_put_ne _ _ (by decide), jm_put_ne _ _ (by decide)]; exact hg.1, fun v hv => by rw [jm_put_ne _ _ (by decide), jm_put_ne _ _ (by decide)]; exact hg.2 v hv⟩, ?_, ?_⟩
      · rw [jm_put_ne _ _ (by decide), jm_put_at, pk_un (by decide), pk_us]
      · rw [jm_put_ne _ _ (by decide), jm_put_at, pk_us]
    obtain ⟨r, M', r1, r2, r3⟩ := xs_extend hA hn ha hb (n - k) k 12 (by omega) (by omega) (fun i => i) M1 hM1 (fun w hw => by rw [← eM1, jm_put_at, if_pos hw]) ⟨fun i hi => by show i < n; omega, fun i j _ _ e => e, fun _ _ _ _ => rfl, fun i hi e => by omega⟩
    have hz : jm_zb r = some r := by
      rcases r3 with ⟨rfl, _⟩ | ⟨rfl, _⟩ <;> rfl
    refine ⟨r, M', ?_, jp_E.imp2 key r2 (fun f a1 a2 => ?_), ?_⟩
    · have : jp_eq [23, 24] M M1 := by rw [← eM1]; exact (jp_eq.rfl'.put (by decide)).put (by decide)
      exact this.trans (r1.sub (fun i hi => by simp at hi ⊢; omega))
    · unfold X7_find
      have z1 : qg_mask (qu (fun i => i) 0) n = 0 := by
        have z : ∀ n, qg_mask (fun _ => false) n = 0 := fun n => by
          induction n with
          | zero => rfl
          | succ n ih => show qg_mask _ n + _ = 0; rw [ih]; simp
        exact z n
      have z2 : (fun i => if i < 0 then nI i else M.1 24 i) = M.1 24 := by funext i; simp
      rw [z1, z2, nI_0] at a1
      have z3 : jm_put (jm_put M 23 (upd (upd (M.1 23) 1 (nI a)) 2 (nI b))) 24 (M.1 24) = jm_put M 23 (upd (upd (M.1 23) 1 (nI a)) 2 (nI b)) := by
        have := jm_put_self (jm_put M 23 (upd (upd (M.1 23) 1 (nI a)) 2 (nI b))) 24
        rw [jm_put_ne _ _ (by decide)] at this
        exact this
      rw [z3] at a1
      rw [e0, a1, Option.bind_some, a2, Option.bind_some, hz]; rfl
    · rcases r3 with ⟨h1, q, h2, h3⟩ | ⟨h1, h2, _⟩
      · exact Or.inl ⟨h1, q, h2, h3⟩
      · exact Or.inr ⟨h1, h2⟩
  · intro w hw
    unfold X7_find_B17 X4_size
    dsimp only
    rw [if_neg (nI_ge hw (by omega)), jm_put_ne _ _ (by decide), jm_put_ne _ _ (by decide), hg.1, if_neg (nI_ge (by omega) (by omega)), show jm_rf 23 0 = 24 from rfl, jp_sa (by omega) (by decide), Option.bind_some, jm_put_put, jm_put_at, nI_1, ni_setb (by omega) hn]
    have e1 : qg_mask (fun v => qu (fun i => i) w v || decide (v = w)) n = qg_mask (qu (fun i => i) (w + 1)) n := qg_mask_cong (fun v _ => by
      show _ = (qu (fun i => i) w v || decide (w = v))
      congr 1
      by_cases h : v = w
      · simp [h]
      · simp [h, Ne.symm h])
    rw [e1]
    congr 6
    funext i
    by_cases e : i = w
    · subst e; rw [pk_us]; simp
    · rw [pk_un e]
      by_cases h2 : i < w
      · simp [h2, show i < w + 1 by omega]
      · simp [h2, show ¬ i < w + 1 by omega]
  · unfold X7_find_B17
    dsimp only
    rw [if_pos (nI_le (Nat.le_refl k) (by omega))]
