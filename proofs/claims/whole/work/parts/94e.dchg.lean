/-! CHANGES of the held deck: keepDeck, addCard, dropCard -/
def nwD (R : Nat → Nat) (h m : Nat) (D : Nat → Nat) : Nat → Nat := fun j => if j = 2 then h else if j = 3 then m else if 4 ≤ j then D (j - 4) else R j
theorem nwD_D (R : Nat → Nat) (h m : Nat) (D : Nat → Nat) : sD (nwD R h m D) = D := funext fun i => by
  unfold sD nwD
  rw [if_neg (by omega), if_neg (by omega), if_pos (by omega), show 4 + i - 4 = i by omega]
def dOK (h m : Nat) (D : Nat → Nat) : Prop := 3 ≤ h ∧ h ≤ 6 ∧ m ≤ h ∧ dso D m ∧ ∀ i, i < m → D i < 2 ^ qg_tri (h - 1) ∧ cn (h - 1) (qg_ad (h - 1) (D i)) = D i
theorem nwD_ok {R : Nat → Nat} {h m : Nat} {D : Nat → Nat} (o : sOK R) (d : dOK h m D) : sOK (nwD R h m D) := ⟨o.1, o.2.1, o.2.2.1, d.1, d.2.1, d.2.2.1, by rw [nwD_D]; exact d.2.2.2.1, by rw [nwD_D]; exact d.2.2.2.2⟩
theorem sOK.d {R : Nat → Nat} (o : sOK R) : dOK (R 2) (R 3) (sD R) := ⟨o.2.2.2.1, o.2.2.2.2.1, o.2.2.2.2.2.1, o.2.2.2.2.2.2.1, o.2.2.2.2.2.2.2⟩
theorem dOK.c28 {h m : Nat} {D : Nat → Nat} (d : dOK h m D) {i : Nat} (hi : i < m) : D i < 2 ^ 28 := qt28 (n := h - 1) (by have := d.2.1; omega) (d.2.2.2.2 i hi).1
theorem XI.deck {S : List Nat} {M M' : jm_M} {R : Nat → Nat} {H : Nat → Nat → Nat} {k h m : Nat} {D : Nat → Nat} (hI : XI M R H k) (e : jp_eq S M M') (hS : S.all (fun i => decide (i = 3 ∨ i = 4 ∨ 15 ≤ i)) = true) (d : dOK h m D) (h1 : M'.1 3 1 = nI h) (hd : dk M' 3 m D) (hc : cxm M') : XI M' (nwD R h m D) H k := by
  have ee : ∀ i, i < 15 → i ≠ 3 → i ≠ 4 → M'.1 i = M.1 i := fun i q1 q2 q3 => (e i (fun q => by have := of_decide_eq_true (List.all_eq_true.mp hS i q); omega)).1
  obtain ⟨o, oh, ⟨a1, a2, a3⟩, ⟨b1, b2, t, b3, b4, b5⟩, _⟩ := hI
  refine ⟨nwD_ok o d, oh, ⟨a1.keep (ee 1 (by decide) (by decide) (by decide)) (ee 2 (by decide) (by decide) (by decide)), h1, by rw [nwD_D]; exact hd⟩, ⟨b1, by rw [ee 5 (by decide) (by decide) (by decide)]; exact b2, t, b3, by rw [ee 5 (by decide) (by decide) (by decide)]; exact b4, fun i hi j hj => by rw [ee (7 + (t + 7 - i) % 8) (by omega) (by omega) (by omega)]; exact b5 i hi j hj⟩, hc⟩
theorem MI.deck {S : List Nat} {M M' : jm_M} {R : Nat → Nat} {H : Nat → Nat → Nat} {k h m : Nat} {D : Nat → Nat} (hI : MI M R H k) (e : jp_eq S M M') (hS : S.all (fun i => decide (i ≠ 39 ∧ i ≠ 41 ∧ i ≠ 49 ∧ i ≠ 50)) = true) (d : dOK h m D) (h0 : M'.1 40 0 = M.1 40 0) (h1 : M'.1 40 1 = M.1 40 1) (h2 : M'.1 40 2 = nI h) (h3 : M'.1 40 3 = nI m) (hd : ∀ i, i < m → M'.1 40 (4 + i) = nI (D i)) : MI M' (nwD R h m D) H k := by
  have ee : ∀ i, (i = 39 ∨ i = 41 ∨ i = 49 ∨ i = 50) → M'.1 i = M.1 i := fun i q1 => (e i (fun q => by have := of_decide_eq_true (List.all_eq_true.mp hS i q); omega)).1
  obtain ⟨o, oh, a, ⟨b1, b2, b3⟩, L, c1, c2⟩ := hI
  refine ⟨nwD_ok o d, oh, fun j hj => ?_, ⟨b1, by rw [ee 39 (by omega)]; exact b2, fun i hi j hj => by rw [ee 41 (by omega)]; exact b3 i hi j hj⟩, L, by rw [ee 39 (by omega)]; exact c1, ?_⟩
  · have hj' : j < 4 + m := hj
    by_cases c4 : 4 ≤ j
    · have := hd (j - 4) (by omega)
      rw [show 4 + (j - 4) = j by omega] at this
      rw [this]
      unfold nwD
      rw [if_neg (by omega), if_neg (by omega), if_pos c4]
    · rcases (show j = 0 ∨ j = 1 ∨ j = 2 ∨ j = 3 by omega) with rfl | rfl | rfl | rfl
      · rw [h0]; exact a 0 (by omega)
      · rw [h1]; exact a 1 (by omega)
      · exact h2
      · exact h3
  · rcases c2 with c2 | ⟨c2, c3, c4⟩
    · exact Or.inl c2
    · exact Or.inr ⟨c2, c3, c4.keep (by rw [ee 39 (by omega)]) (ee 49 (by omega)) (ee 50 (by omega))⟩
/-! layDeck of the reference -/
theorem m_layI {M : jm_M} {r b v x sz : Nat} {D : Nat → Nat} {V1 V2 V5 : Int32} (hsz : (jm_kd r).2 = sz) (hb : b + v < sz) (hsz2 : sz < 2000) (hs : dso D v) (hD : ∀ i, i < v → D i < 2 ^ 28) (hx : x < 2 ^ 28) (h : ∀ i, i < v → M.1 r (b + i) = nI (D i)) : jp_K (X9_layDeck_B26 39 V1 V2 r (nI b) V5 (nI x)) (nI (b + v), M) (nI (b + dlo D v (x + 1)), jm_put M r (fun i => if b + dlo D v (x + 1) < i ∧ i ≤ b + v then M.1 r (i - 1) else M.1 r i)) := by
  have hp := dlo_le D v (x + 1)
  generalize hr : dlo D v (x + 1) = q at hp
  have key := jp_K.for (body := X9_layDeck_B26 39 V1 V2 r (nI b) V5 (nI x)) (r := (nI (b + q), jm_put M r (fun i => if b + q < i ∧ i ≤ b + v then M.1 r (i - 1) else M.1 r i))) (fun j => (nI (b + (v - j)), jm_put M r (fun i => if b + (v - j) < i ∧ i ≤ b + v then M.1 r (i - 1) else M.1 r i))) (v - q) ?_ ?_ 0 (Nat.zero_le _)
  · have e : jm_put M r (fun i => if b + (v - 0) < i ∧ i ≤ b + v then M.1 r (i - 1) else M.1 r i) = M := by
      have : (fun i => if b + (v - 0) < i ∧ i ≤ b + v then M.1 r (i - 1) else M.1 r i) = M.1 r := by
        funext i
        rw [if_neg (by omega)]
      rw [this, jm_put_self]
    rw [e] at key
    exact key
  · intro j hj
    have h1 : M.1 r (b + (v - j - 1)) = nI (D (v - j - 1)) := h _ (by omega)
    have h2 := hD (v - j - 1) (by omega)
    have h3 : x < D (v - j - 1) := by
      have := dlo_iff (x := x + 1) hs (show v - j - 1 < v by omega)
      omega
    unfold X9_layDeck_B26
    dsimp only
    rw [hsz, if_neg (nI_ge (by omega) (by omega)), ni_sub1 (by omega), jp_ga (by omega) (by omega), Option.bind_some, jm_put_at, if_neg (show ¬ (b + (v - j) < b + (v - j) - 1 ∧ b + (v - j) - 1 ≤ b + v) by omega), show b + (v - j) - 1 = b + (v - j - 1) by omega, h1, if_neg (nI_ge h3 (by omega)), Option.bind_some, jp_sa (by omega) (by omega), Option.bind_some, nI_m1 (by omega), jm_put_put, jm_put_at, show b + (v - j) - 1 = b + (v - (j + 1)) by omega]
    congr 4
    funext i
    unfold upd
    by_cases e : i = b + (v - j)
    · rw [if_pos e, if_pos (by omega), ← h1, show b + (v - j - 1) = i - 1 by omega]
    · rw [if_neg e]
      dsimp only
      by_cases h1 : b + (v - j) < i ∧ i ≤ b + v
      · rw [if_pos h1, if_pos (by omega)]
      · rw [if_neg h1, if_neg (by omega)]
  · unfold X9_layDeck_B26
    dsimp only
    rw [hsz, show v - (v - q) = q by omega]
    by_cases c : q = 0
    · rw [if_pos (nI_le (by omega) (by omega))]
    · have h1 : M.1 r (b + (q - 1)) = nI (D (q - 1)) := h _ (by omega)
      have h3 : D (q - 1) ≤ x := by
        have := dlo_iff (x := x + 1) hs (show q - 1 < v by omega)
        omega
      rw [if_neg (nI_ge (by omega) (by omega)), ni_sub1 (by omega), jp_ga (by omega) (by omega), Option.bind_some, jm_put_at, if_neg (show ¬ (b + q < b + q - 1 ∧ b + q - 1 ≤ b + v) by omega), show b + q - 1 = b + (q - 1) by omega, h1, if_pos (nI_le h3 (by omega))]
theorem m_layDeck {n c r b sz : Nat} (hn : n ≤ 8) (hn2 : 2 ≤ n) (hc : c < 2 ^ 31) (hsz : (jm_kd r).2 = sz) (hb : b + n ≤ sz) (hsz2 : sz < 2000) (hr : r ∉ [42, 43, 44]) (M : jm_M) : ∃ M', jp_eq [42, 43, 44, r] M M' ∧ (∀ j, j < b ∨ b + n ≤ j → M'.1 r j = M.1 r j) ∧ (∀ i, i < n → M'.1 r (b + i) = nI (srt (kc n (qg_ad n c)) n i)) ∧ jp_E (fun f => X9_layDeck f 39 (nI n) (nI c) r (nI b) M = some M') := by
  have hkl : ∀ v, kc n (qg_ad n c) v < 2 ^ 28 := fun v => kc_lt hn
  have key := jp_L.forV (body := fun f => X9_layDeck_B3 f 39 (nI n) (nI c) r (nI b)) (J := fun v M1 => jp_eq [42, 43, 44, r] M M1 ∧ (∀ j, j < b ∨ b + n ≤ j → M1.1 r j = M.1 r j) ∧ ∀ i, i < v → M1.1 r (b + i) = nI (srt (kc n (qg_ad n c)) v i)) (fun v M1 => (nI v, M1)) (fun M1 => M1) 0 n ?_ ?_ M (Nat.zero_le n) ⟨jp_eq.rfl', fun _ _ => rfl, fun i hi => absurd hi (Nat.not_lt_zero i)⟩
  · obtain ⟨M', ⟨g1, g2, g3⟩, g4⟩ := key
    refine ⟨M', g1, g2, g3, g4.use.imp (fun f e => ?_)⟩
    unfold X9_layDeck
    rw [show ((0 : Int32), M) = (nI 0, M) from rfl, e]; rfl
  · intro v M1 _ hv ⟨g1, g2, g3⟩
    obtain ⟨M2, a1, a2⟩ := m_cardOf (c := c) hn hn2 hc hv M1
    have hr2 : M2.1 r = M1.1 r := (a1 r hr).1
    have g3' : ∀ i, i < v → M2.1 r (b + i) = nI (srt (kc n (qg_ad n c)) v i) := fun i hi => by rw [hr2]; exact g3 i hi
    have e2 := m_layI (V1 := nI n) (V2 := nI c) (V5 := nI v) (x := kc n (qg_ad n c) v) hsz (show b + v < sz by omega) hsz2 (srt_so (kc n (qg_ad n c)) v) (srt_all (P := fun y => y < 2 ^ 28) (fun i _ => hkl i)) (hkl v) g3'
    have hp := dlo_le (srt (kc n (qg_ad n c)) v) v (kc n (qg_ad n c) v + 1)
    have hup := din_up (x := kc n (qg_ad n c) v) (srt_so (kc n (qg_ad n c)) v)
    generalize hqe : dlo (srt (kc n (qg_ad n c)) v) v (kc n (qg_ad n c) v + 1) = q at hp e2 hup
    generalize hF : (fun i => if b + q < i ∧ i ≤ b + v then M2.1 r (i - 1) else M2.1 r i) = F at e2
    refine ⟨jm_put M2 r (upd F (b + q) (nI (kc n (qg_ad n c) v))), ⟨(g1.trans (a1.sub (by simp))).put (by simp), fun j hj => ?_, fun i hi => ?_⟩, jp_E.imp2 a2 e2 (fun f r1 r2 => ?_)⟩
    · rw [jm_put_at, up_ne _ _ (by omega), ← hF]
      dsimp only
      rw [if_neg (by omega), hr2]; exact g2 j hj
    · rw [jm_put_at]
      show _ = nI (din (srt (kc n (qg_ad n c)) v) _ _ i)
      rw [← hup i hi]
      unfold din
      by_cases c1 : i < q
      · rw [up_ne _ _ (by omega), ← hF]
        dsimp only
        rw [if_neg (by omega), if_pos c1, g3' i (by omega)]
      · rw [if_neg c1]
        by_cases c2 : i = q
        · rw [if_pos c2, c2, up_at]
        · rw [if_neg c2, up_ne _ _ (by omega), ← hF]
          dsimp only
          rw [if_pos (by omega), show b + i - 1 = b + (i - 1) by omega, g3' (i - 1) (by omega)]
    · unfold X9_layDeck_B3
      dsimp only
      rw [if_neg (nI_ge hv (by omega)), r1, Option.bind_some]
      dsimp only
      rw [nI_add, r2, Option.bind_some]
      dsimp only
      rw [hsz, jp_sa (by omega) (by omega), Option.bind_some, jm_put_put, jm_put_at, nI_1]
  · intro M1 _
    refine jp_E.all (fun f => ?_)
    unfold X9_layDeck_B3
    dsimp only
    rw [if_pos (nI_le (Nat.le_refl n) (by omega))]
/-! keepDeck -/
theorem kc_ok {n v : Nat} (A : Nat → Nat → Bool) : kc n A v < 2 ^ qg_tri (n - 1) ∧ cn (n - 1) (qg_ad (n - 1) (kc n A v)) = kc n A v := ⟨cn_lt _ _, cn_idem (qg_ad_ok _ _)⟩
theorem srt_dok {n : Nat} (A : Nat → Nat → Bool) (h3 : 3 ≤ n) (h6 : n ≤ 6) : dOK n n (srt (kc n A) n) := ⟨h3, h6, Nat.le_refl n, srt_so _ n, srt_all (P := fun y => y < 2 ^ qg_tri (n - 1) ∧ cn (n - 1) (qg_ad (n - 1) y) = y) (fun i _ => kc_ok A)⟩
theorem s_9 : jl_S9 Inv := fun M _ _ _ ⟨R, H, k, h1, h2⟩ => by
  have o := h1.1
  obtain ⟨o1, o2, o3, _⟩ := id o
  by_cases c : 3 ≤ R 0 ∧ R 0 ≤ 6
  · have d := srt_dok (qg_ad (R 0) (R 1)) c.1 c.2
    refine cstep (F := fun f M => X8_keepDeck f 0 M) (G := fun f M => X9_keepDeck f 39 M) (r := nI (R 0)) (R' := nwD R (R 0) (R 0) (srt (kc (R 0) (qg_ad (R 0) (R 1))) (R 0))) (H' := push R H) (k' := min (k + 1) 8) (fun M hM => ?_) (fun M hM => ?_) h1 h2
    · obtain ⟨M1, a1, a2, a3⟩ := x5_save hM
      obtain ⟨M2, b1, b2, b3, b4, b5⟩ := x3_fill (qg_ad_ok _ _) (g := 3) (gg := 1) o2 (by omega) (by decide) a2.2.2.1.1 a2.2.2.2.2
      refine ⟨M2, (fX.of a1 (by decide)).trans (fX.of b1 (by decide)), a2.deck b1 (by decide) d b3 b4 b2, jp_E.imp2 a3 b5 (fun f e1 e2 => ?_)⟩
      show X8_keepDeck f 0 M = _
      unfold X8_keepDeck X4_size X3_size
      rw [show jm_rf 0 2 = 5 from rfl, show jm_rf 0 0 = 1 from rfl, show jm_rf 0 1 = 3 from rfl, show jm_rf 0 3 = 15 from rfl, hM.2.2.1.1.1, if_neg (show ¬ nI (R 0) < (3 : Int32) from nI_nlt (b := 3) c.1 (by omega)), if_pos (show nI (R 0) ≤ (6 : Int32) from nI_le (b := 6) c.2 (by decide)), e1, Option.bind_some, e2, Option.bind_some, b4.1]
    · obtain ⟨M1, a1, _, a2, a3⟩ := m_remember hM
      have w0 := a2.2.2.1 0 (by omega)
      have w1 := a2.2.2.1 1 (by omega)
      obtain ⟨M2, b1, b2, b3, b4⟩ := m_layDeck (c := R 1) (r := 40) (b := 4) (sz := 10) o2 (by omega) o.c31 rfl (by omega) (by decide) (by decide) (jm_put M1 40 (upd (upd (M1.1 40) 2 (nI (R 0))) 3 (nI (R 0))))
      have e0 : ∀ j, j < 4 → M2.1 40 j = upd (upd (M1.1 40) 2 (nI (R 0))) 3 (nI (R 0)) j := fun j hj => by rw [b2 j (by omega), jm_put_at]
      have eE : jp_eq [42, 43, 44, 40] M1 M2 := (jp_eq.rfl'.put (by simp)).trans b1
      refine ⟨M2, (fM.of a1 (by decide)).trans (fM.of eE (by decide)), a2.deck eE (by decide) d (by rw [e0 0 (by decide)]; rfl) (by rw [e0 1 (by decide)]; rfl) (by rw [e0 2 (by decide)]; rfl) (by rw [e0 3 (by decide)]; rfl) b3, jp_E.imp2 a3 b4 (fun f e1 e2 => ?_)⟩
      show X9_keepDeck f 39 M = _
      unfold X9_keepDeck
      rw [show jm_rf 39 0 = 40 from rfl, m_w0, hM.2.2.1 0 (by omega), Option.bind_some, show X9_isIn (nI (R 0)) (3 : Int32) (6 : Int32) = 1 from m_isIn1 (a := 3) (b := 6) c.1 c.2 (by decide), if_neg (show ¬ (1 : Int32) = 0 by decide), e1, Option.bind_some, m_w0, Option.bind_some, w0, w_s2, Option.bind_some, m_w0, Option.bind_some, jm_put_at, up_ne _ _ (by decide), w0, w_s3, Option.bind_some, jm_put_put, jm_put_at, m_w0, Option.bind_some, m_w1, Option.bind_some, jm_put_at, up_ne _ _ (by decide), up_ne _ _ (by decide), up_ne _ _ (by decide), up_ne _ _ (by decide), w0, w1, show (4 : Int32) = nI 4 from rfl, e2, Option.bind_some, w_g3, Option.bind_some, e0 3 (by decide), up_at]
  · have hne : ¬ ∃ n, 3 ≤ n ∧ n ≤ 6 ∧ nI (R 0) = nI n := fun ⟨n, q1, q2, q3⟩ => c (by have := (nI_eq (by omega) (by omega)).mp q3; omega)
    refine cstep (F := fun f M => X8_keepDeck f 0 M) (G := fun f M => X9_keepDeck f 39 M) (r := -2) (CX.no (fun M hM => jp_E.all (fun f => ?_))) (CM.no (fun M hM => jp_E.all (fun f => ?_))) h1 h2
    · unfold X8_keepDeck X4_size
      rw [show jm_rf 0 0 = 1 from rfl, hM.2.2.1.1.1]
      rcases x_no36 hne with q | ⟨q1, q2⟩
      · rw [if_pos q]
      · rw [if_neg q1, if_neg q2]
    · unfold X9_keepDeck
      rw [show jm_rf 39 0 = 40 from rfl, m_w0, hM.2.2.1 0 (by omega), Option.bind_some, m_in36 hne, if_pos rfl]
