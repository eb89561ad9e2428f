/-! patterns: the reference's vertex and pair terms -/
theorem ni_six : ∀ d, d < 9 → ((nI d * (nI d - 1)) * (nI d - 2)) / 6 = (i2 (nI d) * (nI d - 2)) / 3 := by decide +kernel
theorem m_ofV {M : jm_M} {n v : Nat} {A : Nat → Nat → Bool} (h : mnr M n A 8) (hA : qg_ok A) (hn : n ≤ 8) (hv : v < n) {p : Nat} (hp : p = 1 ∨ p = 3 ∨ p = 6) : jp_E (fun f => X9_ofVertex f 39 (nI n) (nI v) (nI p) M = some (if p = 1 then i2 (qdg A n v) else if p = 3 then (i2 (qdg A n v) * (qdg A n v - 2)) / 3 else qin A (A v) n * (qdg A n v - 2))) := by
  have hd : fb_ct (A v) n < 9 := Nat.lt_of_le_of_lt (fb_ct_le _ n) (by omega)
  have key := jp_L.for (body := fun f => X9_ofVertex_B49 f 39 (nI n) (nI v) (qdg A n v) M) (r := nI (fb_sm (qg_win A (A v) n) n)) (fun u => (nI (fb_sm (qg_win A (A v) n) u), nI u)) n ?_ ?_ 0 (Nat.zero_le n)
  · refine jp_E.imp2 key.use (m_bitsM (A v) hn) (fun f e e2 => ?_)
    unfold X9_ofVertex
    rw [show jm_rf 39 3 = 42 from rfl, h.at hn hv, Option.bind_some, e2, Option.bind_some]
    rcases hp with rfl | rfl | rfl
    · rw [if_pos (show nI 1 = (1 : Int32) from rfl)]; rfl
    · rw [if_neg (show ¬ nI 3 = (1 : Int32) by decide), if_pos (show nI 3 = (3 : Int32) from rfl), ni_six _ hd]; rfl
    · rw [if_neg (show ¬ nI 6 = (1 : Int32) by decide), if_neg (show ¬ nI 6 = (3 : Int32) by decide), show jm_loop (X9_ofVertex_B49 f 39 (nI n) (nI v) (nI (fb_ct (A v) n)) M) f (0, 0) = _ from e]; rfl
  · intro u hu
    refine (m_common h hn hu hv).imp (fun f e => ?_)
    unfold X9_ofVertex_B49
    dsimp only
    rw [if_neg (nI_ge hu (by omega)), show jm_rf 39 3 = 42 from rfl, h.at hn hv, Option.bind_some, ni_bit (qg_mask_31 _ hn) (by omega), qg_mask_bit, decide_eq_true hu, Bool.true_and, fb_sm_succ]
    unfold qg_win
    by_cases ha : A v u = true
    · rw [if_pos (if_pos ha), e, Option.bind_some, nI_1, if_pos ha]
      unfold qcm
      rw [nI_add]
    · rw [if_neg (by rw [if_neg ha]; decide), nI_1, if_neg ha, Int32.add_zero]; rfl
  · refine jp_E.all (fun f => ?_)
    unfold X9_ofVertex_B49
    dsimp only
    rw [if_pos (nI_le (Nat.le_refl n) (by omega))]
/-- what the reference adds for a pair -/
def qpt (A : Nat → Nat → Bool) (n p u v : Nat) : Int32 := if p = 5 then i2 (qcm A n u v) else if A u v then (if p = 4 then (qdg A n u - 1) * (qdg A n v - 1) else if p = 7 then i2 (qcm A n u v) else qin A (fun x => A u x && A v x) n) else 0
theorem m_ofP {M : jm_M} {n u v : Nat} {A : Nat → Nat → Bool} (h : mnr M n A 8) (hn : n ≤ 8) (hu : u < n) (hv : v < n) {p : Nat} (hp : p = 4 ∨ p = 5 ∨ p = 7 ∨ p = 8) : jp_E (fun f => X9_ofPair f 39 (nI u) (nI v) (nI p) M = some (qpt A n p u v)) := by
  refine jp_E.imp4 (m_common h hn hu hv) (m_bitsM (A u) hn) (m_bitsM (A v) hn) (m_inside h hn (fun x => A u x && A v x)) (fun f e e2 e3 e4 => ?_)
  unfold X9_ofPair qpt
  rw [e, Option.bind_some, show jm_rf 39 3 = 42 from rfl, h.at hn hu, Option.bind_some, ni_bit (qg_mask_31 _ hn) (by omega), qg_mask_bit, decide_eq_true hv, Bool.true_and]
  by_cases ha : A u v = true
  · rw [if_neg (show ¬ (if A u v = true then (1 : Int32) else 0) = 0 by rw [if_pos ha]; decide), if_pos ha, Option.bind_some, e2, Option.bind_some, h.at hn hv, Option.bind_some, e3, Option.bind_some, Option.bind_some, Option.bind_some, fa_and, qg_mask_and, e4, Option.bind_some]
    rcases hp with rfl | rfl | rfl | rfl <;> rfl
  · rw [if_pos (show (if A u v = true then (1 : Int32) else 0) = 0 from if_neg ha), if_neg ha]
    rcases hp with rfl | rfl | rfl | rfl <;> rfl
