/-! edge -/
theorem XI.nw {M M' : jm_M} {R : Nat → Nat} {H : Nat → Nat → Nat} {k n c : Nat} (h : XI M R H k) (m4 : jp_eq [1, 2] M M') (g4 : gx M' 1 n (qg_ad n c)) (h1 : 1 ≤ n) (h8 : n ≤ 8) (hc : c < 2 ^ qg_tri n) : XI M' (nwG R n c) H k := by
  obtain ⟨o, oh, ⟨a1, a2, a3⟩, ⟨b1, b2, t, b3, b4, b5⟩, hcx⟩ := h
  refine ⟨nwG_ok o h1 h8 hc, oh, ⟨g4, ?_, ?_⟩, ⟨b1, ?_, t, b3, ?_, fun i hi j hj => ?_⟩, hcx.keep (m4 21 (by decide)).1 (m4 22 (by decide)).1⟩
  · rw [(m4 3 (by decide)).1, nwG_ge (by decide)]; exact a2
  · rw [nwG_D, nwG_ge (by decide)]; exact a3.keep (m4 3 (by decide)).1 (m4 4 (by decide)).1
  · rw [(m4 5 (by decide)).1]; exact b2
  · rw [(m4 5 (by decide)).1]; exact b4
  · rw [(m4 (7 + (t + 7 - i) % 8) (by simp; omega)).1]; exact b5 i hi j hj
theorem ni_edit {x y p : Nat} {b : Bool} (hp : p < 31) (h : ∀ i, i < 32 → y.testBit i = if i = p then b else x.testBit i) : (nI x &&& (((1 : Int32) <<< (nI p &&& 31)) ^^^ (-1 : Int32))) ||| (nI b.toNat <<< (nI p &&& 31)) = nI y := by
  apply b_ext
  intro i hi
  rw [b_or, b_and, b_xor, b_m1 i hi, b_shl p (by omega) _ hi, b_shl p (by omega) _ hi, ni_bt x hi, ni_bt y hi, h i hi, show (1 : Int32) = nI 1 from rfl, ni_bt 1 (show i - p < 32 by omega), ni_bt b.toNat (show i - p < 32 by omega)]
  have e1 : ∀ a : Nat, a ≤ 1 → i ≠ p → p ≤ i → a.testBit (i - p) = false := fun a ha h1 h2 => Nat.testBit_lt_two_pow (Nat.lt_of_le_of_lt ha (Nat.one_lt_two_pow (by omega)))
  by_cases c : i = p
  · subst c
    rw [if_pos rfl, Nat.sub_self]
    cases b <;> simp
  · rw [if_neg c]
    by_cases c2 : p ≤ i
    · rw [e1 1 (Nat.le_refl 1) c c2, e1 _ (qg_tn b) c c2]; simp
    · simp [c2]
theorem tri_pair : ∀ m j, j < qg_tri m → ∃ a b, a < b ∧ b < m ∧ qg_tri b + a = j := by
  intro m
  induction m with
  | zero => intro j hj; exact absurd hj (Nat.not_lt_zero j)
  | succ m ih =>
    intro j hj
    by_cases h1 : j < qg_tri m
    · obtain ⟨a, b, q1, q2, q3⟩ := ih j h1
      exact ⟨a, b, q1, by omega, q3⟩
    · have : j < qg_tri m + m := hj
      exact ⟨j - qg_tri m, m, by omega, by omega, by omega⟩
def stA (A : Nat → Nat → Bool) (u v : Nat) (b : Bool) (x y : Nat) : Bool := if (x = u ∧ y = v) ∨ (x = v ∧ y = u) then b else A x y
theorem stA_ok {A : Nat → Nat → Bool} (hA : qg_ok A) {u v : Nat} (huv : u ≠ v) (b : Bool) : qg_ok (stA A u v b) := by
  refine ⟨fun x y => ?_, fun x => ?_⟩
  · unfold stA
    by_cases c : (x = u ∧ y = v) ∨ (x = v ∧ y = u)
    · rw [if_pos c, if_pos (by omega)]
    · rw [if_neg c, if_neg (by omega), hA.1]
  · unfold stA
    rw [if_neg (by omega), hA.2]
theorem stc_bit {n c u v : Nat} (hn : n ≤ 8) (hc : c < 2 ^ qg_tri n) (hu : u < n) (hv : v < n) (huv : u ≠ v) (b : Bool) : ∀ i, i < 32 → (qg_cd (stA (qg_ad n c) u v b) n).testBit i = if i = qg_tri n - 1 - (qg_tri (max u v) + min u v) then b else c.testBit i := by
  intro i _
  have hb := qg_pi_bound (show min u v < max u v by omega) (show max u v < n by omega)
  by_cases hi : i < qg_tri n
  · obtain ⟨a', b', q1, q2, q3⟩ := tri_pair n (qg_tri n - 1 - i) (by omega)
    have e : i = qg_tri n - 1 - (qg_tri b' + a') := by omega
    have e2 : c.testBit i = qg_ad n c a' b' := by rw [e, qg_ad_lt q1]
    have e3 : (qg_cd (stA (qg_ad n c) u v b) n).testBit i = stA (qg_ad n c) u v b a' b' := by rw [e]; exact qg_cd_bit _ n a' b' q1 q2
    rw [e2, e3]
    unfold stA
    by_cases hp : i = qg_tri n - 1 - (qg_tri (max u v) + min u v)
    · have w := qg_pi_inj q1 (show min u v < max u v by omega) (by omega)
      rw [if_pos hp, if_pos (by omega)]
    · rw [if_neg hp, if_neg (fun q => hp (by
        have w : a' = min u v ∧ b' = max u v := by omega
        rw [← w.1, ← w.2]; exact e))]
  · rw [if_neg (by omega), Nat.testBit_lt_two_pow (Nat.lt_of_lt_of_le (qg_cd_lt _ n) (Nat.pow_le_pow_right (by decide) (by omega))), Nat.testBit_lt_two_pow (Nat.lt_of_lt_of_le hc (Nat.pow_le_pow_right (by decide) (by omega)))]
theorem m_three {n : Nat} {x y z : Int32} (h : ¬ ∃ u v b, u < n ∧ v < n ∧ u ≠ v ∧ b ≤ 1 ∧ x = nI u ∧ y = nI v ∧ z = nI b) (hx : ∃ u, u < n ∧ x = nI u) (hy : ∃ v, v < n ∧ y = nI v) (hn : n ≤ 8) (hxy : ¬ x = y) : ¬ ∃ b, 0 ≤ b ∧ b ≤ 1 ∧ z = nI b := fun ⟨b, _, hb, e⟩ => by
  obtain ⟨u, hu, rfl⟩ := hx
  obtain ⟨v, hv, rfl⟩ := hy
  exact h ⟨u, v, b, hu, hv, fun q => hxy (by rw [q]), hb, rfl, rfl, e⟩
theorem s_1 : jl_S1 Inv := fun M a1 a2 a3 ⟨R, H, k, h1, h2⟩ => by
  have o := h1.1
  obtain ⟨o1, o2, o3, _⟩ := id o
  by_cases c : ∃ u v b, u < R 0 ∧ v < R 0 ∧ u ≠ v ∧ b ≤ 1 ∧ a1 = nI u ∧ a2 = nI v ∧ a3 = nI b
  · obtain ⟨u, v, b, hu, hv, huv, hb, rfl, rfl, rfl⟩ := c
    obtain ⟨bb, rfl⟩ : ∃ bb : Bool, b = bb.toNat := by
      rcases (show b = 0 ∨ b = 1 by omega) with rfl | rfl
      · exact ⟨false, rfl⟩
      · exact ⟨true, rfl⟩
    have hc' := qg_cd_lt (stA (qg_ad (R 0) (R 1)) u v bb) (R 0)
    have hsb := stc_bit o2 o3 hu hv huv bb
    have hok := stA_ok (qg_ad_ok (R 0) (R 1)) huv bb
    have hA' : ∀ x y, x < R 0 → y < R 0 → qg_ad (R 0) (qg_cd (stA (qg_ad (R 0) (R 1)) u v bb) (R 0)) x y = stA (qg_ad (R 0) (R 1)) u v bb x y := fun x y hx hy => qg_ad_cd hok hx hy
    have hp := qg_pi_bound (show min u v < max u v by omega) (show max u v < R 0 by omega)
    have h28 := qg_tri8 (R 0) (by omega)
    refine cstep (F := fun f M => X8_edge f 0 (nI u) (nI v) (nI bb.toNat) M) (G := fun f M => X9_edge f 39 (nI u) (nI v) (nI bb.toNat) M) (r := if qg_ad (R 0) (R 1) u v then 1 else 0) (R' := nwG R (R 0) (qg_cd (stA (qg_ad (R 0) (R 1)) u v bb) (R 0))) (H' := push R H) (k' := min (k + 1) 8) (fun M hM => ?_) (fun M hM => ?_) h1 h2
    · obtain ⟨M1, e1, e2, e3⟩ := x5_save hM
      have g := e2.2.2.1.1
      have m2 : jp_eq [1, 2] M1 (jm_put M1 2 (upd (upd (M1.1 2) u (nI (qg_mask (stA (qg_ad (R 0) (R 1)) u v bb u) (R 0)))) v (nI (qg_mask (stA (qg_ad (R 0) (R 1)) u v bb v) (R 0))))) := jp_eq.rfl'.put (by simp)
      refine ⟨_, (fX.of e1 (by decide)).trans (fX.of m2 (by decide)), e2.nw m2 ⟨?_, fun w hw => ?_⟩ o1 o2 hc', e3.imp (fun f e => ?_)⟩
      · rw [jm_put_ne _ _ (by decide)]; exact g.1
      · show (jm_put M1 2 _).1 2 w = _
        rw [jm_put_at, qg_mask_cong (fun x hx => hA' w x hw hx)]
        unfold upd
        by_cases c1 : w = v
        · subst c1; rw [if_pos rfl]
        · rw [if_neg c1]
          by_cases c2 : w = u
          · subst c2; rw [if_pos rfl]
          · rw [if_neg c2]
            refine (g.2 w hw).trans ?_
            congr 1
            refine qg_mask_cong (fun x _ => ?_)
            unfold stA
            rw [if_neg (by omega)]
      · have hr1 : (nI (qg_mask (qg_ad (R 0) (R 1) u) (R 0)) &&& (((1 : Int32) <<< (nI v &&& 31)) ^^^ (-1 : Int32))) ||| (nI bb.toNat <<< (nI v &&& 31)) = nI (qg_mask (stA (qg_ad (R 0) (R 1)) u v bb u) (R 0)) := ni_edit (by omega) (fun i _ => by
          rw [qg_mask_bit, qg_mask_bit]
          unfold stA
          by_cases ci : i = v
          · subst ci; rw [if_pos rfl, if_pos (by omega), decide_eq_true hv, Bool.true_and]
          · rw [if_neg ci, if_neg (by omega)])
        have hr2 : (nI (qg_mask (qg_ad (R 0) (R 1) v) (R 0)) &&& (((1 : Int32) <<< (nI u &&& 31)) ^^^ (-1 : Int32))) ||| (nI bb.toNat <<< (nI u &&& 31)) = nI (qg_mask (stA (qg_ad (R 0) (R 1)) u v bb v) (R 0)) := ni_edit (by omega) (fun i _ => by
          rw [qg_mask_bit, qg_mask_bit]
          unfold stA
          by_cases ci : i = u
          · subst ci; rw [if_pos rfl, if_pos (by omega), decide_eq_true hu, Bool.true_and]
          · rw [if_neg ci, if_neg (by omega)])
        have hle : nI bb.toNat ≤ (1 : Int32) := nI_le (b := 1) (qg_tn bb) (by decide)
        have hg0 := hM.2.2.1.1
        show X8_edge f 0 (nI u) (nI v) (nI bb.toNat) M = _
        unfold X8_edge X4_setLink
        rw [show jm_rf 0 2 = 5 from rfl, show jm_rf 0 0 = 1 from rfl, show jm_rf 0 1 = 3 from rfl, gx_has hg0 o2 hu, gx_has hg0 o2 hv, if_neg (show ¬ (1 : Int32) = 0 by decide), if_neg (show ¬ (1 : Int32) = 0 by decide), if_neg (fun q => huv ((nI_eq (by omega) (by omega)).mp q)), if_neg (nI_pos (Nat.lt_of_le_of_lt hb (by decide))), if_pos hle, gx_link hg0 o2 hu hv, Option.bind_some, e, Option.bind_some, gx_has g o2 hu, gx_has g o2 hv, if_neg (show ¬ (1 : Int32) = 0 by decide), if_neg (show ¬ (1 : Int32) = 0 by decide), jp_ga (by omega) (by decide), Option.bind_some, g.2 u hu, hr1, jp_sa (by omega) (by decide), Option.bind_some, jp_ga (by omega) (by decide), Option.bind_some, jm_put_at, up_ne _ _ (Ne.symm huv), g.2 v hv, hr2, jp_sa (by omega) (by decide), Option.bind_some, Option.bind_some, jm_put_put, jm_put_at]
        rfl
    · obtain ⟨M1, e1, _, e2, e3⟩ := m_remember hM
      have w := m_load e2 o1 o2 hc'
      have ew : jm_put M1 40 (upd (upd (M1.1 40) 0 (nI (R 0))) 1 (nI (qg_cd (stA (qg_ad (R 0) (R 1)) u v bb) (R 0)))) = jm_put M1 40 (upd (M1.1 40) 1 (nI (qg_cd (stA (qg_ad (R 0) (R 1)) u v bb) (R 0)))) := by rw [fa_upd_same (e2.2.2.1 0 (by omega))]
      rw [ew] at w
      refine ⟨_, (fM.of e1 (by decide)).trans (fM.of (jp_eq.rfl'.put (S := [40]) (by simp)) (by decide)), w, e3.imp (fun f e => ?_)⟩
      have h0 := hM.2.2.1 0 (by omega)
      have hed := ni_edit (x := R 1) (b := bb) (show qg_tri (R 0) - 1 - (qg_tri (max u v) + min u v) < 31 by omega) hsb
      have had : qg_ad (R 0) (R 1) u v = (R 1).testBit (qg_tri (R 0) - 1 - (qg_tri (max u v) + min u v)) := by unfold qg_ad; rw [if_neg huv]
      show X9_edge f 39 (nI u) (nI v) (nI bb.toNat) M = _
      unfold X9_edge
      rw [m_isV o2 h0 hu, Option.bind_some, if_neg (show ¬ (1 : Int32) = 0 by decide), m_isV o2 h0 hv, Option.bind_some, if_neg (show ¬ (1 : Int32) = 0 by decide), if_neg (fun q => huv ((nI_eq (by omega) (by omega)).mp q)), show X9_isIn (nI bb.toNat) (0 : Int32) (1 : Int32) = 1 from m_isIn1 (a := 0) (b := 1) (Nat.zero_le _) (qg_tn bb) (by decide), if_neg (show ¬ (1 : Int32) = 0 by decide), e, Option.bind_some, show jm_rf 39 0 = 40 from rfl, m_w0, Option.bind_some, m_w1, Option.bind_some, Option.bind_some, e2.2.2.1 0 (by omega), e2.2.2.1 1 (by omega), m_bitOf o2 hu hv huv, w_s1, Option.bind_some, hed, ni_bit o.c31 (by omega), had]
  · refine cstep (F := fun f M => X8_edge f 0 a1 a2 a3 M) (G := fun f M => X9_edge f 39 a1 a2 a3 M) (r := -1) (CX.no (fun M hM => jp_E.all (fun f => ?_))) (CM.no (fun M hM => jp_E.all (fun f => ?_))) h1 h2
    · have hg := hM.2.2.1.1
      unfold X8_edge
      rw [show jm_rf 0 0 = 1 from rfl]
      by_cases q1 : ∃ u, u < R 0 ∧ a1 = nI u
      · by_cases q2 : ∃ v, v < R 0 ∧ a2 = nI v
        · by_cases q3 : a1 = a2
          · rw [if_pos q3]
            repeat' (first | rfl | split)
          · have q4 := m_three c q1 q2 o2 q3
            rw [if_neg q3]
            have q5 : ∀ z : Option (Int32 × jm_M), (if a3 < (0 : Int32) then some ((-1 : Int32), M) else if a3 ≤ 1 then z else some (-1, M)) = some (-1, M) := fun z => by
              by_cases w0 : a3 < 0
              · rw [if_pos w0]
              · rw [if_neg w0]
                obtain ⟨j, hj, rfl⟩ := nI_of w0
                have : 2 ≤ j := Nat.le_of_not_lt (fun w => q4 ⟨j, Nat.zero_le j, by omega, rfl⟩)
                rw [if_neg (show ¬ nI j ≤ (1 : Int32) from nI_ge (a := 1) (by omega) hj)]
            rw [q5]
            repeat' (first | rfl | split)
        · rw [gx_has_no hg q2, if_pos rfl]
          split <;> rfl
      · rw [gx_has_no hg q1, if_pos rfl]
    · have h0 := hM.2.2.1 0 (by omega)
      unfold X9_edge
      by_cases q1 : ∃ u, u < R 0 ∧ a1 = nI u
      · by_cases q2 : ∃ v, v < R 0 ∧ a2 = nI v
        · obtain ⟨u, hu, rfl⟩ := id q1
          obtain ⟨v, hv, rfl⟩ := id q2
          rw [m_isV o2 h0 hu, Option.bind_some, if_neg (show ¬ (1 : Int32) = 0 by decide), m_isV o2 h0 hv, Option.bind_some, if_neg (show ¬ (1 : Int32) = 0 by decide)]
          by_cases q3 : nI u = nI v
          · rw [if_pos q3]
          · have q4 := m_three c q1 q2 o2 q3
            rw [if_neg q3, show X9_isIn a3 (0 : Int32) (1 : Int32) = 0 from m_isIn (a := 0) (b := 1) (by decide) (by decide) q4, if_pos rfl]
        · obtain ⟨u, hu, rfl⟩ := id q1
          rw [m_isV o2 h0 hu, Option.bind_some, if_neg (show ¬ (1 : Int32) = 0 by decide), m_isV_no o2 o1 h0 q2, Option.bind_some, if_pos rfl]
      · rw [m_isV_no o2 o1 h0 q1, Option.bind_some, if_pos rfl]
