/-! THE STATE as a row of numbers: 0 n, 1 c, 2 h, 3 m, from 4 on the cards; what the class and the reference hold of it; frames -/
def sD (R : Nat → Nat) (i : Nat) : Nat := R (4 + i)
def sOK (R : Nat → Nat) : Prop := 1 ≤ R 0 ∧ R 0 ≤ 8 ∧ R 1 < 2 ^ qg_tri (R 0) ∧ 3 ≤ R 2 ∧ R 2 ≤ 6 ∧ R 3 ≤ R 2 ∧ dso (sD R) (R 3) ∧ ∀ i, i < R 3 → sD R i < 2 ^ qg_tri (R 2 - 1) ∧ cn (R 2 - 1) (qg_ad (R 2 - 1) (sD R i)) = sD R i
def XS (M : jm_M) (R : Nat → Nat) : Prop := gx M 1 (R 0) (qg_ad (R 0) (R 1)) ∧ M.1 3 1 = nI (R 2) ∧ dk M 3 (R 3) (sD R)
def XH (M : jm_M) (H : Nat → Nat → Nat) (k : Nat) : Prop := k ≤ 8 ∧ M.1 5 1 = nI k ∧ ∃ t, t < 8 ∧ M.1 5 2 = nI t ∧ ∀ i, i < k → ∀ j, j < 4 + H i 3 → M.1 (7 + (t + 7 - i) % 8) j = nI (H i j)
def XI (M : jm_M) (R : Nat → Nat) (H : Nat → Nat → Nat) (k : Nat) : Prop := sOK R ∧ (∀ i, i < k → sOK (H i)) ∧ XS M R ∧ XH M H k ∧ cxm M
noncomputable def cnc (L x : Nat) : Bool := pd (cn L (qg_ad L x) = x)
def MS (M : jm_M) (R : Nat → Nat) : Prop := ∀ j, j < 4 + R 3 → M.1 40 j = nI (R j)
def MH (M : jm_M) (H : Nat → Nat → Nat) (k : Nat) : Prop := k ≤ 8 ∧ M.1 39 2 = nI k ∧ ∀ i, i < k → ∀ j, j < 4 + H i 3 → M.1 41 (10 * (k - 1 - i) + j) = nI (H i j)
def mtab (M : jm_M) (L : Nat) : Prop := M.1 39 13 = nI (fb_ct (cnc L) (2 ^ qg_tri L)) ∧ ∀ x, x < 2 ^ qg_tri L → cnc L x = true → M.1 49 (fb_ct (cnc L) x) = nI x ∧ ∀ j, j < L → M.1 50 (6 * fb_ct (cnc L) x + j) = nI (srt (kc L (qg_ad L x)) L j)
def MT (M : jm_M) : Prop := ∃ L, M.1 39 14 = nI L ∧ (L = 0 ∨ (3 ≤ L ∧ L ≤ 6 ∧ mtab M L))
def MI (M : jm_M) (R : Nat → Nat) (H : Nat → Nat → Nat) (k : Nat) : Prop := sOK R ∧ (∀ i, i < k → sOK (H i)) ∧ MS M R ∧ MH M H k ∧ MT M
def Inv (M : jm_M) : Prop := ∃ R H k, XI M R H k ∧ MI M R H k
def fX (M M' : jm_M) : Prop := ∀ i, 39 ≤ i → M'.1 i = M.1 i
def fM (M M' : jm_M) : Prop := ∀ i, i < 39 → M'.1 i = M.1 i
theorem fX.rfl' {M : jm_M} : fX M M := fun _ _ => rfl
theorem fM.rfl' {M : jm_M} : fM M M := fun _ _ => rfl
theorem fX.trans {M M1 M2 : jm_M} (h : fX M M1) (h2 : fX M1 M2) : fX M M2 := fun i hi => (h2 i hi).trans (h i hi)
theorem fM.trans {M M1 M2 : jm_M} (h : fM M M1) (h2 : fM M1 M2) : fM M M2 := fun i hi => (h2 i hi).trans (h i hi)
theorem fX.of {S : List Nat} {M M' : jm_M} (h : jp_eq S M M') (hS : S.all (fun i => decide (i < 39)) = true) : fX M M' := fun i hi => (h i (fun q => by have := of_decide_eq_true (List.all_eq_true.mp hS i q); omega)).1
theorem fM.of {S : List Nat} {M M' : jm_M} (h : jp_eq S M M') (hS : S.all (fun i => decide (39 ≤ i)) = true) : fM M M' := fun i hi => (h i (fun q => by have := of_decide_eq_true (List.all_eq_true.mp hS i q); omega)).1
theorem XI.keep {M M' : jm_M} {R : Nat → Nat} {H : Nat → Nat → Nat} {k : Nat} (h : XI M R H k) (e : ∀ i, i < 15 → M'.1 i = M.1 i) (hc : cxm M') : XI M' R H k := by
  obtain ⟨h1, h2, ⟨a1, a2, a3⟩, ⟨b1, b2, t, b3, b4, b5⟩, _⟩ := h
  refine ⟨h1, h2, ⟨a1.keep (e 1 (by decide)) (e 2 (by decide)), by rw [e 3 (by decide)]; exact a2, a3.keep (e 3 (by decide)) (e 4 (by decide))⟩, ⟨b1, by rw [e 5 (by decide)]; exact b2, t, b3, by rw [e 5 (by decide)]; exact b4, fun i hi j hj => ?_⟩, hc⟩
  rw [e (7 + (t + 7 - i) % 8) (by omega)]
  exact b5 i hi j hj
theorem XI.keepM {M M' : jm_M} {R : Nat → Nat} {H : Nat → Nat → Nat} {k : Nat} (h : XI M R H k) (e : fM M M') : XI M' R H k := h.keep (fun i hi => e i (by omega)) (h.2.2.2.2.keep (e 21 (by decide)) (e 22 (by decide)))
theorem XI.of {S : List Nat} {M M' : jm_M} {R : Nat → Nat} {H : Nat → Nat → Nat} {k : Nat} (h : XI M R H k) (e : jp_eq S M M') (hS : S.all (fun i => decide (15 ≤ i)) = true) (hc : cxm M') : XI M' R H k := h.keep (fun i hi => (e i (fun q => by have := of_decide_eq_true (List.all_eq_true.mp hS i q); omega)).1) hc
theorem mtab.keep {M M' : jm_M} {L : Nat} (h : mtab M L) (e1 : M'.1 39 13 = M.1 39 13) (e2 : M'.1 49 = M.1 49) (e3 : M'.1 50 = M.1 50) : mtab M' L := ⟨by rw [e1]; exact h.1, fun x hx hc => by rw [e2, e3]; exact h.2 x hx hc⟩
theorem MI.keep {M M' : jm_M} {R : Nat → Nat} {H : Nat → Nat → Nat} {k : Nat} (h : MI M R H k) (e0 : M'.1 40 = M.1 40) (e1 : M'.1 41 = M.1 41) (e2 : M'.1 49 = M.1 49) (e3 : M'.1 50 = M.1 50) (e : ∀ i, i ≠ 8 → M'.1 39 i = M.1 39 i) : MI M' R H k := by
  obtain ⟨h1, h2, a, ⟨b1, b2, b3⟩, L, c1, c2⟩ := h
  refine ⟨h1, h2, fun j hj => by rw [e0]; exact a j hj, ⟨b1, by rw [e 2 (by decide)]; exact b2, fun i hi j hj => by rw [e1]; exact b3 i hi j hj⟩, L, by rw [e 14 (by decide)]; exact c1, ?_⟩
  rcases c2 with c2 | ⟨c2, c3, c4⟩
  · exact Or.inl c2
  · exact Or.inr ⟨c2, c3, c4.keep (e 13 (by decide)) e2 e3⟩
theorem MI.keepX {M M' : jm_M} {R : Nat → Nat} {H : Nat → Nat → Nat} {k : Nat} (h : MI M R H k) (e : fX M M') : MI M' R H k := h.keep (e 40 (by decide)) (e 41 (by decide)) (e 49 (by decide)) (e 50 (by decide)) (fun i _ => by rw [e 39 (by decide)])
/-- a call of the class, of the reference -/
def CX (F : Nat → jm_M → Option (Int32 × jm_M)) (R : Nat → Nat) (H : Nat → Nat → Nat) (k : Nat) (r : Int32) (R' : Nat → Nat) (H' : Nat → Nat → Nat) (k' : Nat) : Prop := ∀ M, XI M R H k → ∃ M', fX M M' ∧ XI M' R' H' k' ∧ jp_E (fun f => F f M = some (r, M'))
def CM (F : Nat → jm_M → Option (Int32 × jm_M)) (R : Nat → Nat) (H : Nat → Nat → Nat) (k : Nat) (r : Int32) (R' : Nat → Nat) (H' : Nat → Nat → Nat) (k' : Nat) : Prop := ∀ M, MI M R H k → ∃ M', fM M M' ∧ MI M' R' H' k' ∧ jp_E (fun f => F f M = some (r, M'))
theorem cstep {F G : Nat → jm_M → Option (Int32 × jm_M)} {R R' : Nat → Nat} {H H' : Nat → Nat → Nat} {k k' : Nat} {r : Int32} (hx : CX F R H k r R' H' k') (hm : CM G R H k r R' H' k') {M : jm_M} (h1 : XI M R H k) (h2 : MI M R H k) : ∃ (n : Nat) (r : Int32) (M1 : jm_M) (M2 : jm_M), F n M = some (r, M1) ∧ G n M1 = some (r, M2) ∧ Inv M2 := by
  obtain ⟨M1, a1, a2, a3⟩ := hx M h1
  obtain ⟨M2, b1, b2, b3⟩ := hm M1 (h2.keepX a1)
  obtain ⟨n, e1, e2⟩ := jp_E.out2 a3 b3
  exact ⟨n, r, M1, M2, e1, e2, R', H', k', a2.keepM b1, b2⟩
/-- nothing done: the same answer on both sides -/
theorem CX.no {F : Nat → jm_M → Option (Int32 × jm_M)} {R : Nat → Nat} {H : Nat → Nat → Nat} {k : Nat} {r : Int32} (h : ∀ M, XI M R H k → jp_E (fun f => F f M = some (r, M))) : CX F R H k r R H k := fun M hM => ⟨M, fX.rfl', hM, h M hM⟩
theorem CM.no {F : Nat → jm_M → Option (Int32 × jm_M)} {R : Nat → Nat} {H : Nat → Nat → Nat} {k : Nat} {r : Int32} (h : ∀ M, MI M R H k → jp_E (fun f => F f M = some (r, M))) : CM F R H k r R H k := fun M hM => ⟨M, fM.rfl', hM, h M hM⟩
def push (R : Nat → Nat) (H : Nat → Nat → Nat) (i : Nat) : Nat → Nat := if i = 0 then R else H (i - 1)
def pop (H : Nat → Nat → Nat) (i : Nat) : Nat → Nat := H (i + 1)
theorem push_ok {R : Nat → Nat} {H : Nat → Nat → Nat} {k : Nat} (h1 : sOK R) (h2 : ∀ i, i < k → sOK (H i)) : ∀ i, i < min (k + 1) 8 → sOK (push R H i) := fun i hi => by
  unfold push
  by_cases e : i = 0
  · rw [if_pos e]; exact h1
  · rw [if_neg e]; exact h2 (i - 1) (by omega)
theorem sOK.c28 {R : Nat → Nat} (h : sOK R) {i : Nat} (hi : i < R 3) : sD R i < 2 ^ 28 := qt28 (n := R 2 - 1) (by have := h.2.2.2.2.1; omega) (h.2.2.2.2.2.2.2 i hi).1
theorem sOK.c31 {R : Nat → Nat} (h : sOK R) : R 1 < 2 ^ 31 := Nat.lt_trans (qt28 h.2.1 h.2.2.1) (by decide)
/-! rows of ten -/
theorem w_g2 (f : Nat → Int32) : jm_ga f 10 (2 : Int32) = some (f 2) := jp_gaN 2 (by decide) (by decide) rfl
theorem w_g3 (f : Nat → Int32) : jm_ga f 10 (3 : Int32) = some (f 3) := jp_gaN 3 (by decide) (by decide) rfl
theorem w_s0 (M : jm_M) (a : Nat) (v : Int32) : jm_sa M a 10 (0 : Int32) v = some (jm_put M a (upd (M.1 a) 0 v)) := jp_saN 0 (by decide) (by decide) rfl
theorem w_s1 (M : jm_M) (a : Nat) (v : Int32) : jm_sa M a 10 (1 : Int32) v = some (jm_put M a (upd (M.1 a) 1 v)) := jp_saN 1 (by decide) (by decide) rfl
theorem w_s2 (M : jm_M) (a : Nat) (v : Int32) : jm_sa M a 10 (2 : Int32) v = some (jm_put M a (upd (M.1 a) 2 v)) := jp_saN 2 (by decide) (by decide) rfl
theorem w_s3 (M : jm_M) (a : Nat) (v : Int32) : jm_sa M a 10 (3 : Int32) v = some (jm_put M a (upd (M.1 a) 3 v)) := jp_saN 3 (by decide) (by decide) rfl
theorem up_at (f : Nat → Int32) (k : Nat) (x : Int32) : upd f k x k = x := if_pos rfl
theorem up_ne (f : Nat → Int32) {k j : Nat} (x : Int32) (h : j ≠ k) : upd f k x j = f j := if_neg h
/-! THE CLASS'S HISTORY -/
def svr (F : Nat → Int32) (R : Nat → Nat) (v j : Nat) : Int32 := if 4 ≤ j ∧ j < 4 + v then (if j < 4 + R 3 then nI (R j) else -9) else F j
theorem h_and7 : ∀ t, t < 8 → (nI t + 1) &&& 7 = nI ((t + 1) % 8) := by decide +kernel
theorem h_and7d : ∀ t, t < 8 → (nI t - 1) &&& 7 = nI ((t + 7) % 8) := by decide +kernel
theorem h_low7 : ∀ t, t < 8 → nI t &&& 7 = nI t := by decide +kernel
theorem h_min8 : ∀ k, k < 9 → (if (8 : Int32) < nI k + 1 then (8 : Int32) else nI k + 1) = nI (min (k + 1) 8) := by decide +kernel
theorem h_rf6 : ∀ t, t < 8 → jm_rf 6 t = 7 + t := by decide
theorem x5_loop {M : jm_M} {q : Nat} {F : Nat → Int32} {R : Nat → Nat} (hq3 : q ≠ 3) (hq4 : q ≠ 4) (h : dk M 3 (R 3) (sD R)) (hm : R 3 ≤ 6) : jp_K (X5_save_B44 5 3 q) (0, jm_put M q F) (jm_put M q (svr F R 6)) := by
  have hd : ∀ F, dk (jm_put M q F) 3 (R 3) (sD R) := fun F => h.keep (jm_put_ne _ _ (Ne.symm hq3)) (jm_put_ne _ _ (Ne.symm hq4))
  have key := jp_K.for (body := X5_save_B44 5 3 q) (r := jm_put M q (svr F R 6)) (fun v => (nI v, jm_put M q (svr F R v))) 6 ?_ ?_ 0 (Nat.zero_le 6)
  · have e : svr F R 0 = F := by
      funext j
      unfold svr
      rw [if_neg (by omega)]
    rw [e] at key
    exact key
  · intro v hv
    have e : svr F R (v + 1) = upd (svr F R v) (4 + v) (if v < R 3 then nI (sD R v) else -9) := by
      funext j
      unfold svr upd sD
      by_cases c : j = 4 + v
      · subst c
        rw [if_pos (by omega), if_pos rfl]
        by_cases c2 : v < R 3
        · rw [if_pos (by omega), if_pos c2]
        · rw [if_neg (by omega), if_neg c2]
      · rw [if_neg c]
        dsimp only
        by_cases c2 : 4 ≤ j ∧ j < 4 + v
        · rw [if_pos (by omega), if_pos c2]
        · rw [if_neg (by omega), if_neg c2]
    have e2 : X3_codeAt 3 (nI v) (jm_put M q (svr F R v)) = some (if v < R 3 then nI (sD R v) else -9) := by
      by_cases c2 : v < R 3
      · rw [x3_at (hd _) (by omega) c2, if_pos c2]
      · rw [x3_at_no (hd _) (by omega) (by omega), if_neg c2]
    unfold X5_save_B44
    dsimp only
    rw [show (6 : Int32) = nI 6 from rfl, if_neg (nI_ge hv (by decide)), e2, Option.bind_some, jp_saN (n := 10) (x := (4 : Int32) + nI v) (4 + v) (by omega) (by decide) (nI_add 4 v), Option.bind_some, jm_put_put, jm_put_at, nI_1, e]
  · unfold X5_save_B44
    dsimp only
    rw [if_pos (by decide)]
theorem x5_save {M : jm_M} {R : Nat → Nat} {H : Nat → Nat → Nat} {k : Nat} (h : XI M R H k) : ∃ M', jp_eq [5, 7, 8, 9, 10, 11, 12, 13, 14] M M' ∧ XI M' R (push R H) (min (k + 1) 8) ∧ jp_E (fun f => X5_save f 5 1 3 M = some M') := by
  obtain ⟨o, oh, ⟨a1, a2, a3⟩, ⟨b1, b2, t, b3, b4, b5⟩, hc⟩ := id h
  obtain ⟨o1, o2, o3, o4, o5, o6, _⟩ := id o
  have hq : 7 ≤ 7 + t ∧ 7 + t < 15 := by omega
  generalize hqe : 7 + t = q at hq
  have g1 : gx (jm_put M q (upd (M.1 q) 0 (nI (R 0)))) 1 (R 0) (qg_ad (R 0) (R 1)) := a1.keep (jm_put_ne _ _ (by omega)) (jm_put_ne _ _ (by show 2 ≠ q; omega))
  have e1 := gx_code g1 (qg_ad_ok _ _) o2 o1
  rw [qg_cd_ad o3] at e1
  have e2 := x5_loop (F := upd (upd (upd (upd (M.1 q) 0 (nI (R 0))) 1 (nI (R 1))) 2 (nI (R 2))) 3 (nI (R 3))) (show q ≠ 3 by omega) (show q ≠ 4 by omega) a3 (by omega)
  refine ⟨jm_put (jm_put M q (svr (upd (upd (upd (upd (M.1 q) 0 (nI (R 0))) 1 (nI (R 1))) 2 (nI (R 2))) 3 (nI (R 3))) R 6)) 5 (upd (upd (M.1 5) 2 (nI ((t + 1) % 8))) 1 (nI (min (k + 1) 8))), (jp_eq.rfl'.put (by simp; omega)).put (by simp), ⟨o, push_ok o oh, ⟨?_, ?_, ?_⟩, ⟨by omega, ?_, (t + 1) % 8, by omega, ?_, fun i hi j hj => ?_⟩, ?_⟩, jp_E.imp2 e1 e2 (fun f r1 r2 => ?_)⟩
  · exact a1.keep ((jm_put_ne _ _ (by decide)).trans (jm_put_ne _ _ (by omega))) ((jm_put_ne _ _ (by decide)).trans (jm_put_ne _ _ (by show 2 ≠ q; omega)))
  · rw [jm_put_ne _ _ (by decide), jm_put_ne _ _ (by omega)]; exact a2
  · exact a3.keep ((jm_put_ne _ _ (by decide)).trans (jm_put_ne _ _ (by omega))) ((jm_put_ne _ _ (by decide)).trans (jm_put_ne _ _ (by show 4 ≠ q; omega)))
  · rw [jm_put_at, up_at]
  · rw [jm_put_at, up_ne _ _ (by decide), up_at]
  · rw [jm_put_ne _ _ (by omega)]
    unfold push at hj ⊢
    by_cases c : i = 0
    · subst c
      rw [if_pos rfl] at hj ⊢
      rw [show 7 + ((t + 1) % 8 + 7 - 0) % 8 = q by omega, jm_put_at]
      unfold svr
      by_cases c2 : 4 ≤ j
      · rw [if_pos (by omega), if_pos hj]
      · rw [if_neg (by omega)]
        rcases (show j = 0 ∨ j = 1 ∨ j = 2 ∨ j = 3 by omega) with rfl | rfl | rfl | rfl <;> rfl
    · rw [if_neg c] at hj ⊢
      rw [show 7 + ((t + 1) % 8 + 7 - i) % 8 = 7 + (t + 7 - (i - 1)) % 8 by omega, jm_put_ne _ _ (by omega)]
      exact b5 (i - 1) (by omega) j hj
  · exact hc.keep ((jm_put_ne _ _ (by decide)).trans (jm_put_ne _ _ (by omega))) ((jm_put_ne _ _ (by decide)).trans (jm_put_ne _ _ (by omega)))
  · unfold X5_save X4_size X3_h X3_size
    rw [b4, h_low7 t b3, show jm_rf 5 0 = 6 from rfl, jp_gq b3 (by decide), h_rf6 t b3, hqe, Option.bind_some, a1.1, w_s0, Option.bind_some, r1, Option.bind_some, w_s1, Option.bind_some, jm_put_put, jm_put_at, jm_put_ne _ _ (show 3 ≠ q by omega), a2, w_s2, Option.bind_some, jm_put_put, jm_put_at, jm_put_ne _ _ (show 3 ≠ q by omega), a3.1, w_s3, Option.bind_some, jm_put_put, jm_put_at, r2, Option.bind_some, jm_set_put, jm_set_put, jm_put_put, jm_put_at, jm_put_ne _ _ (show 5 ≠ q by omega), b4, h_and7 t b3, up_ne _ _ (by decide), b2, h_min8 k (by omega)]
