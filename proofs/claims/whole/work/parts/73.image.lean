/-! image of a vertex: both sides -/
theorem m_isV {M : jm_M} {n v : Nat} (hn : n ≤ 8) (h0 : M.1 40 0 = nI n) (hv : v < n) : X9_isVertex 39 (nI v) M = some 1 := by
  unfold X9_isVertex
  rw [show jm_rf 39 0 = 40 from rfl, m_w0, h0, Option.bind_some, ni_sub1 (by omega), show (0 : Int32) = nI 0 from rfl, m_isIn1 (Nat.zero_le v) (by omega) (by omega)]
  rfl
theorem m_isV_no {M : jm_M} {n : Nat} {x : Int32} (hn : n ≤ 8) (hn1 : 1 ≤ n) (h0 : M.1 40 0 = nI n) (hx : ¬ ∃ v, v < n ∧ x = nI v) : X9_isVertex 39 x M = some 0 := by
  unfold X9_isVertex
  rw [show jm_rf 39 0 = 40 from rfl, m_w0, h0, Option.bind_some, ni_sub1 (by omega), show (0 : Int32) = nI 0 from rfl, m_isIn (by decide) (by omega) (fun ⟨v, _, h2, h3⟩ => hx ⟨v, by omega, h3⟩)]
  rfl
theorem qx1_one {n : Nat} {A : Nat → Nat → Bool} {a b : Nat} {q r : Nat → Nat} (h : qx1 n A a b 0 (fun i => i) q) (h2 : qx1 n A a b 0 (fun i => i) r) : ∀ i, i < n → q i = r i := ql_anti (h.2 r h2.1) (h2.2 q h.1)
noncomputable def s_img (n : Nat) (A : Nat → Nat → Bool) (a b x : Nat) : Int32 := @dite _ (∃ q, qx1 n A a b 0 (fun i => i) q) (Classical.propDecidable _) (fun h => nI (h.choose x)) (fun _ => -9)
theorem s_img_yes {n : Nat} {A : Nat → Nat → Bool} {a b x : Nat} {q : Nat → Nat} (hx : x < n) (h : qx1 n A a b 0 (fun i => i) q) : s_img n A a b x = nI (q x) := by
  have h2 : ∃ q, qx1 n A a b 0 (fun i => i) q := ⟨q, h⟩
  unfold s_img
  rw [dif_pos h2, qx1_one h2.choose_spec h x hx]
theorem s_img_no {n : Nat} {A : Nat → Nat → Bool} {a b x : Nat} (h : ¬ ∃ q, qx n A a b 0 (fun i => i) q) : s_img n A a b x = -9 := by
  unfold s_img
  rw [dif_neg (fun ⟨q, h2⟩ => h ⟨q, h2.1⟩)]
def s_three (n : Nat) (x1 x2 x3 : Int32) : Prop := ∃ a b x, a < n ∧ b < n ∧ x < n ∧ x1 = nI a ∧ x2 = nI b ∧ x3 = nI x
theorem xs_image {A : Nat → Nat → Bool} (hA : qg_ok A) {n : Nat} (hn : n ≤ 8) {a b x : Nat} (ha : a < n) (hb : b < n) (hx : x < n) {M : jm_M} (hg : gx M 1 n A) : ∃ M', jp_eq [23, 24] M M' ∧ jp_E (fun f => X8_image f 0 (nI a) (nI b) (nI x) M = some (s_img n A a b x, M')) := by
  obtain ⟨r, M', e1, e2, e3⟩ := xs_find hA hn ha hb (Nat.zero_le a) hg
  refine ⟨M', e1, e2.imp (fun f e => ?_)⟩
  unfold X8_image
  rw [show jm_rf 0 0 = 1 from rfl, gx_has hg hn ha, if_neg (show ¬ (1 : Int32) = 0 by decide), gx_has hg hn hb, if_neg (show ¬ (1 : Int32) = 0 by decide), gx_has hg hn hx, if_neg (show ¬ (1 : Int32) = 0 by decide), show jm_rf 0 4 = 23 from rfl, show X7_find f 23 1 0 (nI a) (nI b) M = _ from e, Option.bind_some]
  rcases e3 with ⟨rfl, q, h1, h2⟩ | ⟨rfl, h1⟩
  · dsimp only
    rw [if_neg (show ¬ (1 : Int32) = 0 by decide), s_img_yes hx h1]
    unfold X7_imageOf
    rw [if_neg (nI_pos (by omega)), show (8 : Int32) = nI 8 from rfl, if_neg (nI_ge (by omega) (by omega)), show jm_rf 23 0 = 24 from rfl, jp_ga (by omega) (by decide), Option.bind_some, Option.bind_some, h2 x hx]
  · dsimp only
    rw [if_pos rfl, s_img_no h1]
theorem xs_image_no {A : Nat → Nat → Bool} {n : Nat} (hn : n ≤ 8) {x1 x2 x3 : Int32} (h : ¬ s_three n x1 x2 x3) {M : jm_M} (hg : gx M 1 n A) (f : Nat) : X8_image f 0 x1 x2 x3 M = some (-1, M) := by
  unfold X8_image
  rw [show jm_rf 0 0 = 1 from rfl]
  by_cases h1 : ∃ v, v < n ∧ x1 = nI v
  · obtain ⟨a, ha, rfl⟩ := h1
    rw [gx_has hg hn ha, if_neg (show ¬ (1 : Int32) = 0 by decide)]
    by_cases h2 : ∃ v, v < n ∧ x2 = nI v
    · obtain ⟨b, hb, rfl⟩ := h2
      rw [gx_has hg hn hb, if_neg (show ¬ (1 : Int32) = 0 by decide)]
      by_cases h3 : ∃ v, v < n ∧ x3 = nI v
      · obtain ⟨x, hx, rfl⟩ := h3
        exact absurd ⟨a, b, x, ha, hb, hx, rfl, rfl, rfl⟩ h
      · rw [gx_has_no hg h3, if_pos rfl]
    · rw [gx_has_no hg h2, if_pos rfl]
  · rw [gx_has_no hg h1, if_pos rfl]
theorem m_image_no {n : Nat} (hn : n ≤ 8) (hn1 : 1 ≤ n) {x1 x2 x3 : Int32} (h : ¬ s_three n x1 x2 x3) {M : jm_M} (h0 : M.1 40 0 = nI n) (f : Nat) : X9_image f 39 x1 x2 x3 M = some (-1, M) := by
  unfold X9_image
  by_cases h1 : ∃ v, v < n ∧ x1 = nI v
  · obtain ⟨a, ha, rfl⟩ := h1
    rw [m_isV hn h0 ha, Option.bind_some, if_neg (show ¬ (1 : Int32) = 0 by decide)]
    by_cases h2 : ∃ v, v < n ∧ x2 = nI v
    · obtain ⟨b, hb, rfl⟩ := h2
      rw [m_isV hn h0 hb, Option.bind_some, if_neg (show ¬ (1 : Int32) = 0 by decide)]
      by_cases h3 : ∃ v, v < n ∧ x3 = nI v
      · obtain ⟨x, hx, rfl⟩ := h3
        exact absurd ⟨a, b, x, ha, hb, hx, rfl, rfl, rfl⟩ h
      · rw [m_isV_no hn hn1 h0 h3, Option.bind_some, if_pos rfl]
    · rw [m_isV_no hn hn1 h0 h2, Option.bind_some, if_pos rfl]
  · rw [m_isV_no hn hn1 h0 h1, Option.bind_some, if_pos rfl]
theorem m_image {n c : Nat} (hn : n ≤ 8) (hc : c < 2 ^ 31) {a b x : Nat} (ha : a < n) (hb : b < n) (hx : x < n) {M : jm_M} (h0 : M.1 40 0 = nI n) (h1 : M.1 40 1 = nI c) :
    ∃ M', jp_eq [39, 45, 46] M M' ∧ (∀ i, i ≠ 8 → M'.1 39 i = M.1 39 i) ∧ jp_E (fun f => X9_image f 39 (nI a) (nI b) (nI x) M = some (s_img n (qg_ad n c) a b x, M')) := by
  generalize eM1 : jm_put (jm_put M 39 (upd (M.1 39) 8 0)) 46 (fun i => if i < n then 0 else M.1 46 i) = M1
  have hz := mg_zero (M := jm_put M 39 (upd (M.1 39) 8 0)) (V2 := nI c) (V3 := nI a) (V4 := nI b) hn
  rw [jm_put_ne _ _ (show 46 ≠ 39 by decide), eM1] at hz
  generalize eM2 : jm_put M1 45 (upd (M1.1 45) 0 (-1)) = M2
  have hat : mg_at M2 n 0 (fun i => i) 0 := by rw [← eM2]; exact mg_at0
  have h39 : M2.1 39 = upd (M.1 39) 8 0 := by
    rw [← eM2, jm_put_ne _ _ (show 39 ≠ 45 by decide), ← eM1, jm_put_ne _ _ (show 39 ≠ 46 by decide), jm_put_at]
  have heq : jp_eq [39, 45, 46] M M2 := by
    rw [← eM2, ← eM1]
    exact ((jp_eq.rfl'.put (by simp)).put (by simp)).put (by simp)
  have hy : qy n (qg_ad n c) a b 0 (fun i => i) := ⟨fun i hi => by omega, fun i j hi => by omega, fun i j hi => by omega, fun i hi => by omega⟩
  obtain ⟨M', g1, g2⟩ := mg_first hn hc ha hb (n - 1) 0 (by omega) n (fun i => i) 0 M2 (by omega) hat hy
  refine ⟨M', heq.trans (g1.sub (by simp)), fun i hi => ?_, ?_⟩
  · rw [(g1 39 (by decide)).1, h39]; simp [upd, hi]
  · rcases g2 with ⟨q, q1, _, q2, q3, q4⟩ | ⟨q1, _, q4⟩
    · have hq : qx1 n (qg_ad n c) a b 0 (fun i => i) q := ⟨q1, fun r hr => q2 r hr (Nat.zero_le _)⟩
      refine jp_E.imp2 hz q4.use (fun f e1 e2 => ?_)
      unfold X9_image X9_goThrough
      rw [m_isV hn h0 ha, Option.bind_some, if_neg (show ¬ (1 : Int32) = 0 by decide), m_isV hn h0 hb, Option.bind_some, if_neg (show ¬ (1 : Int32) = 0 by decide), m_isV hn h0 hx, Option.bind_some, if_neg (show ¬ (1 : Int32) = 0 by decide), show jm_rf 39 0 = 40 from rfl, m_w0, h0, Option.bind_some, m_w1, h1, Option.bind_some, jm_set_put, e1, Option.bind_some, show jm_rf 39 6 = 45 from rfl, m_s0, Option.bind_some, eM2, show jm_loop (X9_goThrough_B38 f 39 (nI n) (nI c) (nI a) (nI b)) f (0, M2) = _ from e2, Option.bind_some]
      dsimp only [Sum.elim_inl]
      rw [Option.bind_some]
      dsimp only
      rw [if_neg (show ¬ (1 : Int32) = 0 by decide), jp_ga (by omega) (by decide), Option.bind_some, s_img_yes hx hq, q3 x hx]
    · have hq : ¬ ∃ q, qx n (qg_ad n c) a b 0 (fun i => i) q := fun ⟨q, h⟩ => q1 q h (Nat.zero_le _)
      have hl : jp_L (fun f => X9_goThrough_B38 f 39 (nI n) (nI c) (nI a) (nI b)) (nI 0, M2) (.inr M') := q4 _ (jp_L.done (jp_E.all (fun f => by
        unfold X9_goThrough_B38
        dsimp only
        rw [if_pos (show nI 0 + (-1) < (0 : Int32) by decide)])))
      refine jp_E.imp2 hz hl.use (fun f e1 e2 => ?_)
      unfold X9_image X9_goThrough
      rw [m_isV hn h0 ha, Option.bind_some, if_neg (show ¬ (1 : Int32) = 0 by decide), m_isV hn h0 hb, Option.bind_some, if_neg (show ¬ (1 : Int32) = 0 by decide), m_isV hn h0 hx, Option.bind_some, if_neg (show ¬ (1 : Int32) = 0 by decide), show jm_rf 39 0 = 40 from rfl, m_w0, h0, Option.bind_some, m_w1, h1, Option.bind_some, jm_set_put, e1, Option.bind_some, show jm_rf 39 6 = 45 from rfl, m_s0, Option.bind_some, eM2, show jm_loop (X9_goThrough_B38 f 39 (nI n) (nI c) (nI a) (nI b)) f (0, M2) = _ from e2, Option.bind_some]
      dsimp only [Sum.elim_inr]
      rw [Option.bind_some]
      dsimp only
      rw [if_pos rfl, s_img_no hq]
