/-! THE CLASS'S GRAPH: load, setLink -/
def qg_pi (u v : Nat) : Nat := qg_tri (max u v) + min u v
/-- the rows when all pairs from the place q on are read -/
def qg_ld (n c q : Nat) (old : Nat → Int32) (v : Nat) : Int32 := if v < n then nI (qg_mask (fun w => qg_ad n c v w && decide (q ≤ qg_pi v w)) n) else if v < 8 then 0 else old v
theorem qg_pi_sym (u v : Nat) : qg_pi u v = qg_pi v u := by unfold qg_pi; rw [Nat.max_comm, Nat.min_comm]
theorem qg_pi_lt {u v : Nat} (h : u < v) : qg_pi u v = qg_tri v + u := by
  unfold qg_pi; rw [show max u v = v by omega, show min u v = u by omega]
theorem qg_pi_inj {a b u v : Nat} (h : a < b) (h2 : u < v) (e : qg_tri b + a = qg_tri v + u) : a = u ∧ b = v := by
  rcases Nat.lt_trichotomy b v with q | q | q
  · have := qg_tri_mono (show b + 1 ≤ v by omega)
    have e2 : qg_tri (b + 1) = qg_tri b + b := rfl
    omega
  · subst q; exact ⟨by omega, rfl⟩
  · have := qg_tri_mono (show v + 1 ≤ b by omega)
    have e2 : qg_tri (v + 1) = qg_tri v + v := rfl
    omega
theorem qg_pi_bound {u v n : Nat} (h : u < v) (hv : v < n) : qg_tri v + u < qg_tri n := by
  have := qg_tri_mono (show v + 1 ≤ n by omega)
  have e2 : qg_tri (v + 1) = qg_tri v + v := rfl
  omega
theorem qg_mask_or {f : Nat → Bool} {b : Bool} {u n : Nat} (hu : u < n) : qg_mask f n ||| (b.toNat <<< u) = qg_mask (fun w => f w || (b && decide (w = u))) n := by
  apply Nat.eq_of_testBit_eq
  intro w
  rw [Nat.testBit_or, qg_mask_bit, qg_mask_bit, Nat.testBit_shiftLeft]
  by_cases hw : w = u
  · subst hw
    cases b <;> simp [hu]
  · have : (decide (u ≤ w) && b.toNat.testBit (w - u)) = false := by
      by_cases h2 : u ≤ w
      · rw [Nat.testBit_lt_two_pow (Nat.lt_of_le_of_lt (qg_tn b) (Nat.one_lt_two_pow (by omega)))]; simp
      · simp [h2]
    rw [this]; simp [hw]
theorem ni_and1 (a : Nat) : nI a &&& 1 = nI (a.testBit 0).toNat := by
  rw [show (1 : Int32) = nI 1 from rfl, fa_and, Nat.and_one_is_mod, Nat.testBit_zero]
  rcases Nat.mod_two_eq_zero_or_one a with h | h <;> rw [h] <;> rfl
/-- one pair is read -/
theorem qg_ld_step {n c u v : Nat} {old : Nat → Int32} (huv : u < v) (hv : v < n) : upd (upd (qg_ld n c (qg_tri v + u + 1) old) v (qg_ld n c (qg_tri v + u + 1) old v ||| nI ((qg_ad n c u v).toNat <<< u))) u (qg_ld n c (qg_tri v + u + 1) old u ||| nI ((qg_ad n c u v).toNat <<< v)) = qg_ld n c (qg_tri v + u) old := by
  funext w
  have key : ∀ a b, a < n → b < n → (a = u ∧ b = v ∨ a = v ∧ b = u) → (nI (qg_mask (fun w => qg_ad n c a w && decide (qg_tri v + u + 1 ≤ qg_pi a w)) n) ||| nI ((qg_ad n c u v).toNat <<< b)) = nI (qg_mask (fun w => qg_ad n c a w && decide (qg_tri v + u ≤ qg_pi a w)) n) := by
    intro a b ha hb hab
    rw [fa_or, qg_mask_or hb]
    congr 1
    refine qg_mask_cong (fun w hw => ?_)
    by_cases hwb : w = b
    · subst hwb
      have e1 : qg_pi a w = qg_tri v + u := by
        rcases hab with ⟨rfl, rfl⟩ | ⟨rfl, rfl⟩
        · exact qg_pi_lt huv
        · rw [qg_pi_sym]; exact qg_pi_lt huv
      have e2 : qg_ad n c a w = qg_ad n c u v := by
        rcases hab with ⟨rfl, rfl⟩ | ⟨rfl, rfl⟩
        · rfl
        · exact qg_ad_sym _ _ _ _
      rw [e1, e2]; simp; intro h _; exact h
    · by_cases hwa : w = a
      · subst hwa; rw [qg_ad_irr]; simp [hwb]
      · have e1 : qg_pi a w ≠ qg_tri v + u := by
          intro e
          rcases Nat.lt_or_ge a w with q | q
          · rw [qg_pi_lt q] at e
            obtain ⟨h1, h2⟩ := qg_pi_inj q huv e
            rcases hab with ⟨h3, h4⟩ | ⟨h3, h4⟩ <;> omega
          · rw [qg_pi_sym, qg_pi_lt (show w < a by omega)] at e
            obtain ⟨h1, h2⟩ := qg_pi_inj (show w < a by omega) huv e
            rcases hab with ⟨h3, h4⟩ | ⟨h3, h4⟩ <;> omega
        have e2 : decide (qg_tri v + u + 1 ≤ qg_pi a w) = decide (qg_tri v + u ≤ qg_pi a w) := by
          by_cases h9 : qg_tri v + u + 1 ≤ qg_pi a w
          · simp [h9, show qg_tri v + u ≤ qg_pi a w by omega]
          · simp [h9, show ¬ qg_tri v + u ≤ qg_pi a w by omega]
        rw [e2]; simp [hwb]
  by_cases h1 : w = u
  · subst h1
    rw [pk_us]
    unfold qg_ld
    rw [if_pos (show w < n by omega), if_pos (show w < n by omega)]
    exact key w v (by omega) hv (Or.inl ⟨rfl, rfl⟩)
  · rw [pk_un h1]
    by_cases h2 : w = v
    · subst h2
      rw [pk_us]
      unfold qg_ld
      rw [if_pos hv, if_pos hv]
      exact key w u hv (by omega) (Or.inr ⟨rfl, rfl⟩)
    · rw [pk_un h2]
      unfold qg_ld
      by_cases hw : w < n
      · rw [if_pos hw, if_pos hw]
        congr 1
        refine qg_mask_cong (fun x hx => ?_)
        by_cases hxw : x = w
        · subst hxw; rw [qg_ad_irr]; rfl
        · have e1 : qg_pi w x ≠ qg_tri v + u := by
            intro e
            rcases Nat.lt_or_ge w x with q | q
            · rw [qg_pi_lt q] at e
              obtain ⟨h3, h4⟩ := qg_pi_inj q huv e
              omega
            · rw [qg_pi_sym, qg_pi_lt (show x < w by omega)] at e
              obtain ⟨h3, h4⟩ := qg_pi_inj (show x < w by omega) huv e
              omega
          congr 1
          by_cases h9 : qg_tri v + u + 1 ≤ qg_pi w x
          · simp [h9, show qg_tri v + u ≤ qg_pi w x by omega]
          · simp [h9, show ¬ qg_tri v + u ≤ qg_pi w x by omega]
      · rw [if_neg hw, if_neg hw]
theorem qg_ld_0 {n c v : Nat} {old : Nat → Int32} (hv : v < n) : qg_ld n c 0 old v = nI (qg_mask (qg_ad n c v) n) := by
  unfold qg_ld
  rw [if_pos hv]
  congr 1
  exact qg_mask_cong (fun w _ => by simp)
theorem qg_ld_n {n c : Nat} {old : Nat → Int32} (hn : n ≤ 8) : qg_ld n c (qg_tri n) old = fun v => if v < 8 then 0 else old v := by
  funext v
  unfold qg_ld
  by_cases hv : v < n
  · rw [if_pos hv, if_pos (by omega)]
    have : qg_mask (fun w => qg_ad n c v w && decide (qg_tri n ≤ qg_pi v w)) n = qg_mask (fun _ => false) n := qg_mask_cong (fun w hw => by
      by_cases e : w = v
      · subst e; rw [qg_ad_irr]; rfl
      · have : qg_pi v w < qg_tri n := by
          rcases Nat.lt_or_ge v w with q | q
          · rw [qg_pi_lt q]; exact qg_pi_bound q hw
          · rw [qg_pi_sym, qg_pi_lt (show w < v by omega)]; exact qg_pi_bound (show w < v by omega) hv
        simp [show ¬ qg_tri n ≤ qg_pi v w by omega])
    rw [this]
    have z : ∀ n, qg_mask (fun _ => false) n = 0 := fun n => by
      induction n with
      | zero => rfl
      | succ n ih => show qg_mask _ n + _ = 0; rw [ih]; simp
    rw [z]; rfl
  · rw [if_neg hv]
theorem xl_zero {M : jm_M} {g : Nat} {V : Int32} : jp_K (X4_load_B19 g V) (0, M) (jm_put M (jm_rf g 0) (fun v => if v < 8 then 0 else M.1 (jm_rf g 0) v)) := by
  have key := jp_K.for (body := X4_load_B19 g V) (r := jm_put M (jm_rf g 0) (fun v => if v < 8 then 0 else M.1 (jm_rf g 0) v)) (fun j => (nI j, jm_put M (jm_rf g 0) (fun v => if v < j then 0 else M.1 (jm_rf g 0) v))) 8 ?_ ?_ 0 (Nat.zero_le 8)
  · have e : (fun v => if v < 0 then (0 : Int32) else M.1 (jm_rf g 0) v) = M.1 (jm_rf g 0) := by funext v; simp
    rw [e, jm_put_self, nI_0] at key
    exact key
  · intro j hj
    unfold X4_load_B19
    dsimp only
    rw [if_neg (by rw [show (8 : Int32) = nI 8 from rfl]; exact nI_ge hj (by decide)), jp_sa hj (by decide), Option.bind_some, jm_put_put, jm_put_at, nI_1]
    congr 5
    funext v
    by_cases e : v = j
    · subst e; rw [pk_us]; simp
    · rw [pk_un e]
      by_cases h2 : v < j
      · simp [h2, show v < j + 1 by omega]
      · simp [h2, show ¬ v < j + 1 by omega]
  · unfold X4_load_B19
    dsimp only
    rw [if_pos (by decide)]
theorem ni_sub1 {v : Nat} (h : 1 ≤ v) : nI v - 1 = nI (v - 1) := nI_sub h
theorem xl_in {M : jm_M} {g n c v : Nat} {old : Nat → Int32} (hn : n ≤ 8) (hc : c < 2 ^ 31) (hv : v < n) (hv1 : 1 ≤ v) : jp_K (X4_load_B59 g (nI v)) (nI (c >>> (qg_tri n - qg_tri (v + 1))), nI v - 1, jm_put M (jm_rf g 0) (qg_ld n c (qg_tri (v + 1)) old)) (nI (c >>> (qg_tri n - qg_tri v)), jm_put M (jm_rf g 0) (qg_ld n c (qg_tri v) old)) := by
  have hT : qg_tri v + v ≤ qg_tri n := by
    have := qg_tri_mono (show v + 1 ≤ n by omega)
    exact this
  have key := jp_K.for (body := X4_load_B59 g (nI v)) (r := (nI (c >>> (qg_tri n - qg_tri v)), jm_put M (jm_rf g 0) (qg_ld n c (qg_tri v) old))) (fun j => (nI (c >>> (qg_tri n - (qg_tri v + (v - j)))), nI (v - j) + (-1), jm_put M (jm_rf g 0) (qg_ld n c (qg_tri v + (v - j)) old))) v ?_ ?_ 0 (Nat.zero_le v)
  · have e : nI (v - 0) + (-1) = nI v - 1 := by rw [nI_m1 (by omega), ni_sub1 hv1]; rfl
    rw [e] at key
    exact key
  · intro j hj
    have e1 : nI (v - j) + (-1) = nI (v - 1 - j) := by rw [nI_m1 (by omega)]; congr 1; omega
    have hbit : (nI (c >>> (qg_tri n - (qg_tri v + (v - j)))) &&& 1) = nI (qg_ad n c (v - 1 - j) v).toNat := by
      rw [ni_and1]
      congr 2
      rw [Nat.testBit_shiftRight, qg_ad_lt (by omega)]
      congr 1
      omega
    have hq : qg_tri v + (v - j) = qg_tri v + (v - 1 - j) + 1 := by omega
    unfold X4_load_B59
    dsimp only
    rw [e1, if_neg (nI_pos (by omega)), jm_put_at, jp_ga (by omega) (by decide), Option.bind_some, hbit, ni_shl _ (by omega), jp_sa (by omega) (by decide), Option.bind_some, jm_put_at, jm_put_put, jm_put_at, jp_ga (by omega) (by decide), Option.bind_some, ni_shl _ (by omega), jp_sa (by omega) (by decide), Option.bind_some, jm_put_at, jm_put_put, pk_un (show v - 1 - j ≠ v by omega), hq, qg_ld_step (by omega) hv]
    have e2 : nI (v - 1 - j) + (-1) = nI (v - (j + 1)) + (-1) := by rw [show v - 1 - j = v - (j + 1) by omega]
    rw [show ((1 : Int32) &&& 31) = (nI 1 &&& 31) from rfl, ni_shr (by
      rw [Nat.shiftRight_eq_div_pow]; exact Nat.lt_of_le_of_lt (Nat.div_le_self _ _) hc) (by decide), ← Nat.shiftRight_add, e2]
    rw [show qg_tri n - (qg_tri v + (v - 1 - j) + 1) + 1 = qg_tri n - (qg_tri v + (v - (j + 1))) by omega, show qg_tri v + (v - 1 - j) = qg_tri v + (v - (j + 1)) by omega]
  · unfold X4_load_B59
    dsimp only
    rw [Nat.sub_self, if_pos (by decide), Nat.add_zero]
theorem xl_load {M : jm_M} {g n c : Nat} (hn : n ≤ 8) (hn1 : 1 ≤ n) (hc : c < 2 ^ 31) (hg : jm_rf g 0 ≠ g) : jp_E (fun k => X4_load k g (nI n) (nI c) M = some (jm_put (jm_put M g (upd (M.1 g) 1 (nI n))) (jm_rf g 0) (qg_ld n c 0 (M.1 (jm_rf g 0))))) := by
  have z := xl_zero (M := jm_put M g (upd (M.1 g) 1 (nI n))) (g := g) (V := nI c)
  rw [jm_put_ne _ _ hg] at z
  have key := jp_L.for (body := fun k => X4_load_B48 k g) (r := jm_put (jm_put M g (upd (M.1 g) 1 (nI n))) (jm_rf g 0) (qg_ld n c 0 (M.1 (jm_rf g 0)))) (fun i => (nI (c >>> (qg_tri n - qg_tri (n - i))), nI (n - 1 - i), jm_put (jm_put M g (upd (M.1 g) 1 (nI n))) (jm_rf g 0) (qg_ld n c (qg_tri (n - i)) (M.1 (jm_rf g 0))))) (n - 1) ?_ ?_ 0 (Nat.zero_le _)
  · refine jp_E.imp2 z key.use (fun k e1 e2 => ?_)
    unfold X4_load
    rw [if_neg (by rw [show (1 : Int32) = nI 1 from rfl]; exact nI_nlt hn1 (by omega)), if_pos (by rw [show (8 : Int32) = nI 8 from rfl]; exact nI_le hn (by decide)), jm_set_put, e1, Option.bind_some, jm_put_ne _ _ (Ne.symm hg), jm_put_at, pk_us, ni_sub1 hn1]
    simp only [Nat.sub_zero, Nat.sub_self, Nat.shiftRight_zero] at e2
    rw [qg_ld_n hn] at e2
    rw [e2]; rfl
  · intro i hi
    have h3 := xl_in (M := jm_put M g (upd (M.1 g) 1 (nI n))) (g := g) (n := n) (c := c) (v := n - 1 - i) (old := M.1 (jm_rf g 0)) hn hc (by omega) (by omega)
    refine jp_E.imp h3 (fun k e => ?_)
    unfold X4_load_B48
    dsimp only
    rw [if_neg (by rw [← nI_0]; exact nI_ge (by omega) (by omega))]
    rw [show n - 1 - i + 1 = n - i by omega] at e
    rw [e, Option.bind_some, nI_m1 (by omega)]
    dsimp only
    rw [show n - 1 - i = n - (i + 1) by omega, show n - (i + 1) - 1 = n - 1 - (i + 1) by omega]
  · refine jp_E.all (fun k => ?_)
    unfold X4_load_B48
    dsimp only
    rw [Nat.sub_self, if_pos (by decide), show n - (n - 1) = 1 by omega]
    rfl
theorem xl_gx {M : jm_M} {g n c : Nat} {old : Nat → Int32} (hg : jm_rf g 0 ≠ g) : gx (jm_put (jm_put M g (upd (M.1 g) 1 (nI n))) (jm_rf g 0) (qg_ld n c 0 old)) g n (qg_ad n c) := by
  refine ⟨?_, fun v hv => ?_⟩
  · rw [jm_put_ne _ _ (Ne.symm hg), jm_put_at, pk_us]
  · rw [jm_put_at, qg_ld_0 hv]
