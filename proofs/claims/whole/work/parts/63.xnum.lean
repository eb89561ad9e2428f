/-! THE CLASS's search for the canonical code (object 15) -/
def qlst (L : Nat → Bool) (f : Nat → Nat) : Nat → Nat
  | 0 => 256
  | v + 1 => if L v = true then (if qlst L f v ≤ f v then qlst L f v else f v) else qlst L f v
theorem qlst_le {L : Nat → Bool} {f : Nat → Nat} : ∀ {n v : Nat}, v < n → L v = true → qlst L f n ≤ f v
  | 0, v, h, _ => absurd h (Nat.not_lt_zero v)
  | n + 1, v, h, hl => by
    show (if L n = true then (if qlst L f n ≤ f n then qlst L f n else f n) else qlst L f n) ≤ f v
    by_cases e : v = n
    · subst e; rw [if_pos hl]; split <;> omega
    · have ih := qlst_le (f := f) (show v < n by omega) hl
      split
      · split <;> omega
      · exact ih
theorem qlst_at {L : Nat → Bool} {f : Nat → Nat} : ∀ {n : Nat}, qlst L f n = 256 ∨ ∃ v, v < n ∧ L v = true ∧ qlst L f n = f v
  | 0 => Or.inl rfl
  | n + 1 => by
    show (if L n = true then (if qlst L f n ≤ f n then qlst L f n else f n) else qlst L f n) = 256 ∨ ∃ v, v < n + 1 ∧ L v = true ∧ (if L n = true then (if qlst L f n ≤ f n then qlst L f n else f n) else qlst L f n) = f v
    have ih := qlst_at (L := L) (f := f) (n := n)
    have up : (qlst L f n = 256 ∨ ∃ v, v < n + 1 ∧ L v = true ∧ qlst L f n = f v) := by
      rcases ih with h | ⟨v, h1, h2, h3⟩
      · exact Or.inl h
      · exact Or.inr ⟨v, by omega, h2, h3⟩
    split
    · next hl =>
      split
      · exact up
      · exact Or.inr ⟨n, by omega, hl, rfl⟩
    · exact up
theorem qlst_256 (L : Nat → Bool) {f : Nat → Nat} (n : Nat) : qlst L f n ≤ 256 := by
  induction n with
  | zero => exact Nat.le_refl _
  | succ n ih =>
    show (if L n = true then (if qlst L f n ≤ f n then qlst L f n else f n) else qlst L f n) ≤ 256
    split
    · split <;> omega
    · exact ih
theorem cx_least {M : jm_M} {n : Nat} {L : Nat → Bool} {f : Nat → Nat} (hn : n ≤ 8) (hM : M.1 16 1 = nI n) (hf : ∀ u, u < 8 → f u < 128) : jp_E (fun k => X1_leastColumn k 15 (nI (qg_mask L n)) (lN (qk f 8)) M = some (nI (qlst L f n))) := by
  have key := jp_K.for (body := X1_leastColumn_B8 15 (nI (qg_mask L n)) (lN (qk f 8)) M) (r := nI (qlst L f n)) (fun v => (nI (qlst L f v), nI v)) n ?_ ?_ 0 (Nat.zero_le n)
  · refine jp_E.imp key (fun k e => ?_)
    unfold X1_leastColumn
    have z : qlst L f 0 = 256 := rfl
    rw [z] at e
    rw [show ((256 : Int32), (0 : Int32)) = (nI 256, nI 0) from rfl, e]; rfl
  · intro v hv
    unfold X1_leastColumn_B8 X4_size
    dsimp only
    rw [show jm_rf 15 0 = 16 from rfl, hM, if_neg (nI_ge hv (by omega)), ni_bit (qg_mask_31 _ hn) (by omega), qg_mask_bit, nI_1, ql_byteI hf (by omega)]
    simp only [hv, decide_true, Bool.true_and]
    have h256 := qlst_256 L (f := f) v
    have hfv := hf v (by omega)
    show _ = some (Sum.inl (nI (if L v = true then (if qlst L f v ≤ f v then qlst L f v else f v) else qlst L f v), nI (v + 1)))
    by_cases hl : L v = true
    · rw [hl]
      simp only [if_true]
      by_cases h2 : qlst L f v ≤ f v
      · rw [if_pos (nI_le h2 (by omega)), if_pos h2]
      · rw [if_neg (nI_ge (by omega) (by omega)), if_neg h2]
    · simp [hl]
  · unfold X1_leastColumn_B8 X4_size
    dsimp only
    rw [show jm_rf 15 0 = 16 from rfl, hM, if_pos (nI_le (Nat.le_refl n) (by omega))]
theorem cx_forget {M : jm_M} {k : Nat} (hk : k ≤ 8) : jp_E (fun f => X1_forgetFrom f 15 (nI k) M = some (jm_put M 20 (fun i => if k ≤ i ∧ i < 8 then 256 else M.1 20 i))) := by
  have key := jp_K.for (body := X1_forgetFrom_B2 15) (r := jm_put M 20 (fun i => if k ≤ i ∧ i < 8 then 256 else M.1 20 i)) (fun j => (nI (k + j), jm_put M 20 (fun i => if k ≤ i ∧ i < k + j then 256 else M.1 20 i))) (8 - k) ?_ ?_ 0 (Nat.zero_le _)
  · refine jp_E.imp key (fun f e => ?_)
    unfold X1_forgetFrom
    have e2 : (fun i => if k ≤ i ∧ i < k + 0 then (256 : Int32) else M.1 20 i) = M.1 20 := by
      funext i; rw [if_neg (by omega)]
    rw [e2, jm_put_self, Nat.add_zero] at e
    rw [e]; rfl
  · intro j hj
    unfold X1_forgetFrom_B2
    dsimp only
    rw [if_neg (by rw [show (8 : Int32) = nI 8 from rfl]; exact nI_ge (by omega) (by decide)), show jm_rf 15 3 = 20 from rfl, jp_sa (by omega) (by decide), Option.bind_some, jm_put_put, jm_put_at, nI_1, Nat.add_assoc]
    congr 5
    funext i
    by_cases e : i = k + j
    · subst e; rw [pk_us, if_pos (by omega)]
    · rw [pk_un e]
      by_cases h2 : k ≤ i ∧ i < k + j
      · rw [if_pos h2, if_pos (by omega)]
      · rw [if_neg h2, if_neg (by omega)]
  · unfold X1_forgetFrom_B2
    dsimp only
    rw [show k + (8 - k) = 8 by omega, if_pos (by decide)]
/-! the search -/
/-- all but u and v, as a mask -/
def qoth (u v : Nat) : Nat := (2 ^ u ||| 2 ^ v) ^^^ 4294967295
def qrow (A : Nat → Nat → Bool) (n v : Nat) : Nat := if v < n then qg_mask (A v) n else 0
/-- u and v are twins, as the class tests it -/
def qtw (A : Nat → Nat → Bool) (n u v : Nat) : Bool := decide (qrow A n v &&& qoth u v = qrow A n u &&& qoth u v)
theorem qoth_bit {u v w : Nat} (h1 : w ≠ u) (h2 : w ≠ v) (hw : w < 32) : (qoth u v).testBit w = true := by
  unfold qoth
  rw [Nat.testBit_xor, Nat.testBit_or, Nat.testBit_two_pow, Nat.testBit_two_pow, show (4294967295 : Nat) = 2 ^ 32 - 1 from rfl, Nat.testBit_two_pow_sub_one]
  simp [Ne.symm h1, Ne.symm h2, hw]
theorem qtw_eq {A : Nat → Nat → Bool} {n u v : Nat} (hn : n ≤ 8) (hu : u < n) (hv : v < n) (h : qtw A n u v = true) {w : Nat} (hw : w < n) (h1 : w ≠ u) (h2 : w ≠ v) : A u w = A v w := by
  have e := of_decide_eq_true h
  unfold qrow at e
  rw [if_pos hu, if_pos hv] at e
  have e2 := congrArg (fun x => x.testBit w) e
  simp only [Nat.testBit_and, qg_mask_bit, qoth_bit h1 h2 (show w < 32 by omega), hw, decide_true, Bool.true_and, Bool.and_true] at e2
  exact e2.symm
/-- u and v change places -/
def qsw (u v i : Nat) : Nat := if i = u then v else if i = v then u else i
theorem qsw_tw {A : Nat → Nat → Bool} (hA : qg_ok A) {n u v : Nat} (hn : n ≤ 8) (hu : u < n) (hv : v < n) (h : qtw A n u v = true) (huv : u ≠ v) {x y : Nat} (hx : x < n) (hy : y < n) : A (qsw u v x) (qsw u v y) = A x y := by
  have tw := fun (w : Nat) (hw : w < n) (h1 : w ≠ u) (h2 : w ≠ v) => qtw_eq hn hu hv h hw h1 h2
  unfold qsw
  by_cases a1 : x = u
  · by_cases b1 : y = u
    · subst a1; subst b1; simp; rw [hA.2, hA.2]
    · by_cases b2 : y = v
      · subst a1; subst b2; simp [Ne.symm huv]; exact hA.1 _ _
      · subst a1; simp [b1, b2]; exact (tw y hy b1 b2).symm
  · by_cases a2 : x = v
    · by_cases b1 : y = u
      · subst a2; subst b1; simp [Ne.symm huv]; exact hA.1 _ _
      · by_cases b2 : y = v
        · subst a2; subst b2; simp [Ne.symm huv]; rw [hA.2, hA.2]
        · subst a2; simp [b1, b2, Ne.symm huv]; exact tw y hy b1 b2
    · by_cases b1 : y = u
      · subst b1; simp [a1, a2]; rw [hA.1, hA.1 x]; exact (tw x hx a1 a2).symm
      · by_cases b2 : y = v
        · subst b2; simp [a1, a2, Ne.symm huv]; rw [hA.1, hA.1 x]; exact tw x hx a1 a2
        · simp [a1, a2, b1, b2]
theorem qsw_qp {n u v : Nat} (hu : u < n) (hv : v < n) : qp n (qsw u v) := by
  refine ⟨fun i hi => ?_, fun i j hi hj e => ?_⟩
  · unfold qsw; split
    · exact hv
    · split
      · exact hu
      · exact hi
  · unfold qsw at e
    split at e <;> split at e <;> (try split at e) <;> (try split at e) <;> omega
/-- the sequence of columns of some numbering -/
def qkn (A : Nat → Nat → Bool) (n : Nat) (B : Nat → Nat) : Prop := ∃ q, qp n q ∧ ∀ i, i < n → B i = qd A q (q i) i
theorem qkn_lt {A : Nat → Nat → Bool} {n : Nat} {B : Nat → Nat} (h : qkn A n B) : ∀ i, i < n → B i < 2 ^ i := by
  obtain ⟨q, _, hq⟩ := h
  intro i hi; rw [hq i hi]; exact qd_lt _ _ _ _
/-- what stays through the search: the graph, the links, the twins -/
def cxf (M : jm_M) (A : Nat → Nat → Bool) (n : Nat) : Prop := M.1 16 1 = nI n ∧ (∀ v, v < n → M.2 18 v = lN (qk (fun u => if u < n then (A v u).toNat else 0) 8)) ∧ ∀ v, v < n → M.1 19 v = nI (qg_mask (fun u => decide (u < v) && qtw A n u v) 8)
def cxb (M : jm_M) (B : Nat → Nat) : Prop := ∀ i, i < 8 → M.1 20 i = nI (B i)
theorem cxf.keep {M M' : jm_M} {A : Nat → Nat → Bool} {n : Nat} (h : cxf M A n) (e : jp_eq [20] M M') : cxf M' A n := by
  have e16 := (e 16 (by decide)).1
  have e19 := (e 19 (by decide)).1
  have e18 := (e 18 (by decide)).2
  refine ⟨by rw [e16]; exact h.1, fun v hv => by rw [e18]; exact h.2.1 v hv, fun v hv => by rw [e19]; exact h.2.2 v hv⟩
/-- the columns of all vertices at a node -/
def qcols (A : Nat → Nat → Bool) (n : Nat) (p : Nat → Nat) (k u : Nat) : Nat := if u < n then qd A p u k else 0
def qfree (p : Nat → Nat) (k v : Nat) : Bool := !(qu p k v)
def qset (p : Nat → Nat) (k v i : Nat) : Nat := if i = k then v else p i
theorem qset_lt {p : Nat → Nat} {k v i : Nat} (h : i < k) : qset p k v i = p i := if_neg (by omega)
theorem qset_at {p : Nat → Nat} {k v : Nat} : qset p k v k = v := if_pos rfl
theorem qu_cong {p q : Nat → Nat} : ∀ {k : Nat}, (∀ i, i < k → p i = q i) → ∀ v, qu p k v = qu q k v
  | 0, _, v => rfl
  | k + 1, h, v => by
    show (qu p k v || decide (p k = v)) = (qu q k v || decide (q k = v))
    rw [qu_cong (k := k) (fun i hi => h i (by omega)) v, h k (by omega)]
theorem qfree_set {p : Nat → Nat} {k v w : Nat} : qfree (qset p k v) (k + 1) w = (qfree p k w && !(decide (w = v))) := by
  show (!(qu (qset p k v) k w || decide (qset p k v k = w))) = _
  rw [qu_cong (q := p) (fun i hi => qset_lt hi), qset_at]
  unfold qfree
  by_cases h : w = v
  · simp [h]
  · simp [h, Ne.symm h]
theorem ni_clear {f : Nat → Bool} {n v : Nat} (hn : n ≤ 8) (hv : v < 32) : nI (qg_mask f n) &&& (((1 : Int32) <<< (nI v &&& 31)) ^^^ (-1 : Int32)) = nI (qg_mask (fun w => f w && !(decide (w = v))) n) := by
  rw [ni_m1, show (1 : Int32) = nI 1 from rfl, ni_shl 1 hv, nx_xor, fa_and]
  congr 1
  apply Nat.eq_of_testBit_eq
  intro w
  rw [Nat.testBit_and, Nat.testBit_xor, qg_mask_bit, qg_mask_bit, Nat.one_shiftLeft, Nat.testBit_two_pow, show (4294967295 : Nat) = 2 ^ 32 - 1 from rfl, Nat.testBit_two_pow_sub_one]
  by_cases hw : w < n
  · have hw32 : w < 32 := by omega
    by_cases e : w = v
    · subst e; simp [hw, hw32]
    · simp [hw, hw32, e, Ne.symm e]
  · simp [hw]
theorem ni_setb {f : Nat → Bool} {n v : Nat} (hv : v < n) (hn : n ≤ 8) : nI (qg_mask f n) ||| ((1 : Int32) <<< (nI v &&& 31)) = nI (qg_mask (fun w => f w || decide (w = v)) n) := by
  rw [show (1 : Int32) = nI 1 from rfl, ni_shl 1 (by omega), fa_or]
  have := qg_mask_or (f := f) (b := true) (u := v) (n := n) hv
  rw [show Bool.toNat true = 1 from rfl] at this
  rw [this]
  simp
theorem ni_anyz {f h : Nat → Bool} {n m : Nat} (hn : n ≤ 8) (hm : m ≤ 8) : (nI (qg_mask f n) &&& nI (qg_mask h m) = 0) ↔ ∀ u, u < n → u < m → ¬ (f u = true ∧ h u = true) := by
  have h1 := qg_mask_31 f hn
  have hlt : qg_mask f n &&& qg_mask h m < 2 ^ 31 := Nat.lt_of_le_of_lt Nat.and_le_left h1
  rw [fa_and, ← nI_0, nI_eq hlt (by decide)]
  constructor
  · intro e u hu hu2 ⟨q1, q2⟩
    have := congrArg (fun x => x.testBit u) e
    simp [Nat.testBit_and, qg_mask_bit, hu, hu2, q1, q2] at this
  · intro e
    apply Nat.eq_of_testBit_eq
    intro u
    rw [Nat.testBit_and, qg_mask_bit, qg_mask_bit, Nat.zero_testBit]
    by_cases hu : u < n
    · by_cases hu2 : u < m
      · have := e u hu hu2
        cases h3 : f u <;> cases h4 : h u <;> simp_all
      · simp [hu2]
    · simp [hu]
/-- what the search below a node makes of the best columns -/
def cxp (A : Nat → Nat → Bool) (n k : Nat) (p : Nat → Nat) (B B' : Nat → Nat) : Prop :=
  qkn A n B' ∧ (∀ i, i < k → B' i = B i) ∧ (qkn A n B → qB B' n ≤ qB B n) ∧ ∀ q, qp n q → (∀ i, i < k → q i = p i) → qB B' n ≤ qc A q n
/-- the state in which a node is begun -/
def cxs (A : Nat → Nat → Bool) (n k : Nat) (p : Nat → Nat) (B : Nat → Nat) : Prop :=
  (∀ i, i < k → p i < n) ∧ (∀ i j, i < k → j < k → p i = p j → i = j) ∧ (∀ i, i < k → B i = qd A p (p i) i) ∧ ((∀ i, k ≤ i → i < n → B i = 256) ∨ qkn A n B)
def cxw (A : Nat → Nat → Bool) (n k : Nat) (d : Nat) : Prop := ∀ (p : Nat → Nat) (B : Nat → Nat) (M : jm_M), cxf M A n → cxb M B → cxs A n k p B →
  ∃ (B' : Nat → Nat) (M' : jm_M), cxp A n k p B B' ∧ cxb M' B' ∧ jp_eq [20] M M' ∧ jp_E (fun f => X1_number d f 15 (nI k) (nI (qg_mask (qfree p k) n)) (lN (qk (qcols A n p k) 8)) M = some M')
theorem qcols_lt {A : Nat → Nat → Bool} {n k : Nat} {p : Nat → Nat} (hk : k < 8) : ∀ u, u < 8 → qcols A n p k u < 128 := fun u _ => by
  unfold qcols
  split
  · exact Nat.lt_of_lt_of_le (qd_lt _ _ _ _) (Nat.pow_le_pow_right (n := 2) (by decide) (show k ≤ 7 by omega))
  · decide
theorem qcols_set {A : Nat → Nat → Bool} (hA : qg_ok A) {n k v : Nat} {p : Nat → Nat} (hk : k < 8) : (lN (qk (qcols A n p k) 8) <<< (((1 : Int32)).toInt64 &&& 63)) ||| lN (qk (fun u => if u < n then (A v u).toNat else 0) 8) = lN (qk (qcols A n (qset p k v) (k + 1)) 8) := by
  have hb : qk (qcols A n p k) 8 < 2 ^ 63 := by
    have h2 := qk_two (f := qcols A n p k) (m := 8)
    have h3 : qk (fun u => 2 * qcols A n p k u) 8 < 256 ^ 8 := qk_lt (fun u hu => by have := qcols_lt (A := A) (n := n) (p := p) hk u hu; omega)
    have e1 : (256 : Nat) ^ 8 = 18446744073709551616 := by decide
    have e2 : (2 : Nat) ^ 63 = 9223372036854775808 := by decide
    omega
  have hg : ∀ u, u < 8 → (fun u => if u < n then (A v u).toNat else 0) u < 2 := fun u _ => by
    dsimp only
    split
    · have := qg_tn (A v u); omega
    · decide
  have hL : qk (fun u => if u < n then (A v u).toNat else 0) 8 < 2 ^ 64 := by
    have h3 : qk (fun u => if u < n then (A v u).toNat else 0) 8 < 256 ^ 8 := qk_lt (fun u hu => by have := hg u hu; dsimp only at this; omega)
    have e1 : (256 : Nat) ^ 8 = 2 ^ 64 := by decide
    omega
  rw [show (1 : Int32) = nI 1 from rfl, wb_shl _ (by decide), Nat.pow_one, Nat.mul_comm, wb_or (by omega) hL, qk_or (qcols_lt hk) hg]
  congr 1
  refine qk_cong (fun u _ => ?_)
  unfold qcols
  by_cases hu : u < n
  · rw [if_pos hu, if_pos hu, if_pos hu]
    show _ = 2 * qd A (qset p k v) u k + (A u (qset p k v k)).toNat
    rw [qd_cong (q := p) (fun i hi => qset_lt hi), qset_at, hA.1 v u]
  · rw [if_neg hu, if_neg hu, if_neg hu]
/-- a vertex that fits at a node -/
def qfit (A : Nat → Nat → Bool) (n k : Nat) (p : Nat → Nat) (l v : Nat) : Prop := v < n ∧ qfree p k v = true ∧ qd A p v k = l
theorem cx_loop {A : Nat → Nat → Bool} (hA : qg_ok A) {n k d : Nat} (hn : n ≤ 8) (hk : k < n) (ih : cxw A n (k + 1) d) {p : Nat → Nat} (hp1 : ∀ i, i < k → p i < n) (hp2 : ∀ i j, i < k → j < k → p i = p j → i = j) {l : Nat} (hl : l < 256) :
    ∀ (j v : Nat), v + j = n → ∀ (T : Nat → Bool) (B : Nat → Nat) (M : jm_M), cxf M A n → cxb M B → (∀ i, i < k → B i = qd A p (p i) i) → B k = l → ((∀ i, k + 1 ≤ i → i < n → B i = 256) ∨ qkn A n B) →
      (∀ u, T u = true → u < v ∧ qfit A n k p l u) → (∀ u, u < v → qfit A n k p l u → qkn A n B ∧ ∀ q, qp n q → (∀ i, i < k → q i = p i) → q k = u → qB B n ≤ qc A q n) →
      ∃ (B' : Nat → Nat) (M' : jm_M), jp_L (fun f => X1_number_B66 (X1_number d f) f 15 (nI k) (nI (qg_mask (qfree p k) n)) (lN (qk (qcols A n p k) 8)) (nI l)) (nI (qg_mask T n), nI v, M) M' ∧ cxb M' B' ∧ jp_eq [20] M M' ∧ (∀ i, i ≤ k → B' i = B i) ∧ (qkn A n B → qkn A n B' ∧ qB B' n ≤ qB B n) ∧ ∀ u, qfit A n k p l u → qkn A n B' ∧ ∀ q, qp n q → (∀ i, i < k → q i = p i) → q k = u → qB B' n ≤ qc A q n := by
  intro j
  induction j with
  | zero =>
    intro v hv T B M hf hb h1 h2 h3 h4 h5
    refine ⟨B, M, jp_L.done (jp_E.all (fun f => ?_)), hb, jp_eq.rfl', fun _ _ => rfl, fun h => ⟨h, Nat.le_refl _⟩, fun u hu => h5 u (by have := hu.1; omega) hu⟩
    unfold X1_number_B66 X4_size
    dsimp only
    rw [show jm_rf 15 0 = 16 from rfl, hf.1, if_pos (nI_le (by omega) (by omega))]
  | succ j ihj =>
    intro v hv T B M hf hb h1 h2 h3 h4 h5
    have hvn : v < n := by omega
    have hfit : qfit A n k p l v ↔ (qfree p k v = true ∧ qd A p v k = l) := ⟨fun h => ⟨h.2.1, h.2.2⟩, fun h => ⟨hvn, h.1, h.2⟩⟩
    have ebit : ((nI (qg_mask (qfree p k) n) >>> (nI v &&& 31)) &&& 1) = if qfree p k v then 1 else 0 := by
      rw [ni_bit (qg_mask_31 _ hn) (by omega), qg_mask_bit]; simp [hvn]
    have ebyte : ((lN (qk (qcols A n p k) 8) >>> (((8 : Int32) * nI v).toInt64 &&& 63)) &&& (255 : Int64)) = lN (qd A p v k) := by
      rw [ql_byte (qcols_lt (by omega)) (by omega)]; unfold qcols; rw [if_pos hvn]
    have hqd : qd A p v k < 2 ^ 31 := Nat.lt_of_lt_of_le (qd_lt _ _ _ _) (Nat.pow_le_pow_right (by decide) (by omega))
    by_cases hF : qfit A n k p l v
    · have hF2 := hfit.mp hF
      by_cases hT : ∃ u, T u = true ∧ u < v ∧ qtw A n u v = true
      · -- a twin has been tried
        obtain ⟨u, t1, t2, t3⟩ := hT
        obtain ⟨-, hfu⟩ := h4 u t1
        obtain ⟨kn, hbu⟩ := h5 u t2 hfu
        obtain ⟨B', M', r1, r2, r3, r4, r5, r6⟩ := ihj (v + 1) (by omega) T B M hf hb h1 h2 h3 (fun w hw => ⟨by have := (h4 w hw).1; omega, (h4 w hw).2⟩) (fun w hw hfw => by
          by_cases e : w = v
          · subst e
            refine ⟨kn, fun q hq hq2 hq3 => ?_⟩
            have hsw := qsw_qp (n := n) hfu.1 hvn
            have hq' := hbu (fun i => qsw u w (q i)) (qp_comp hsw hq) (fun i hi => by
              show qsw u w (q i) = p i
              have n1 : q i ≠ u := fun e9 => by
                have : qu p k u = true := qu_iff.mpr ⟨i, hi, by rw [← hq2 i hi]; exact e9⟩
                have f9 := hfu.2.1
                unfold qfree at f9; rw [this] at f9; cases f9
              have n2 : q i ≠ w := fun e9 => by
                have : qu p k w = true := qu_iff.mpr ⟨i, hi, by rw [← hq2 i hi]; exact e9⟩
                have f9 := hF2.1
                unfold qfree at f9; rw [this] at f9; cases f9
              unfold qsw; rw [if_neg n1, if_neg n2, hq2 i hi]) (by show qsw u w (q k) = u; rw [hq3]; unfold qsw; rw [if_neg (by omega), if_pos rfl])
            have e2 : qc A (fun i => qsw u w (q i)) n = qc A q n := qc_cong (fun a b ha hb9 => qsw_tw hA hn hfu.1 hvn t3 (by omega) (hq.1 a ha) (hq.1 b hb9))
            rw [← e2]; exact hq'
          · exact h5 w (by omega) hfw)
        refine ⟨B', M', jp_L.step (s1 := (nI (qg_mask T n), nI (v + 1), M)) (jp_E.all (fun f => ?_)) r1, r2, r3, r4, r5, r6⟩
        unfold X1_number_B66 X4_size
        dsimp only
        rw [show jm_rf 15 0 = 16 from rfl, hf.1, if_neg (nI_ge hvn (by omega)), ebit, hF2.1, if_pos rfl, if_pos rfl, ebyte, if_pos ((ql_cmp hqd (by omega)).mpr hF2.2), show jm_rf 15 2 = 19 from rfl, jp_ga (by omega) (by decide), hf.2.2 v hvn, Option.bind_some, if_neg (fun q => by
          have := (ni_anyz hn (by decide)).mp q u (by omega) (by omega)
          exact this ⟨t1, by simp [t2, t3]⟩), nI_1]
      · -- down
        have hfr : qfree p k v = true := hF2.1
        have hnu : qu p k v = false := by unfold qfree at hfr; cases h9 : qu p k v <;> simp_all
        have hs : cxs A n (k + 1) (qset p k v) B := by
          refine ⟨fun i hi => ?_, fun i m hi hm e => ?_, fun i hi => ?_, h3⟩
          · by_cases e : i = k
            · rw [e, qset_at]; exact hvn
            · rw [qset_lt (by omega)]; exact hp1 i (by omega)
          · by_cases e1 : i = k
            · by_cases e2 : m = k
              · omega
              · rw [e1, qset_at, qset_lt (show m < k by omega)] at e
                have : qu p k v = true := qu_iff.mpr ⟨m, by omega, e.symm⟩
                rw [hnu] at this; cases this
            · by_cases e2 : m = k
              · rw [e2, qset_at, qset_lt (show i < k by omega)] at e
                have : qu p k v = true := qu_iff.mpr ⟨i, by omega, e⟩
                rw [hnu] at this; cases this
              · rw [qset_lt (show i < k by omega), qset_lt (show m < k by omega)] at e
                exact hp2 i m (by omega) (by omega) e
          · by_cases e : i = k
            · rw [e, h2, qset_at, qd_cong (q := p) (fun a ha => qset_lt ha)]; exact hF2.2.symm
            · rw [qset_lt (show i < k by omega), qd_cong (q := p) (fun a ha => qset_lt (by omega))]; exact h1 i (by omega)
        obtain ⟨B1, M1, ⟨p1, p2, p3, p4⟩, hb1, he1, hE⟩ := ih (qset p k v) B M hf hb hs
        have hmask : qg_mask (qfree (qset p k v) (k + 1)) n = qg_mask (fun w => qfree p k w && !(decide (w = v))) n := qg_mask_cong (fun w _ => qfree_set)
        obtain ⟨B', M', r1, r2, r3, r4, r5, r6⟩ := ihj (v + 1) (by omega) (fun w => T w || decide (w = v)) B1 M1 (hf.keep he1) hb1 (fun i hi => by rw [p2 i (by omega)]; exact h1 i hi) (by rw [p2 k (by omega)]; exact h2) (Or.inr p1) (fun w hw => by
            rcases (Bool.or_eq_true _ _).mp hw with e | e
            · exact ⟨by have := (h4 w e).1; omega, (h4 w e).2⟩
            · rw [of_decide_eq_true e]; exact ⟨by omega, hF⟩) (fun w hw hfw => by
            refine ⟨p1, fun q hq hq2 hq3 => ?_⟩
            by_cases e : w = v
            · subst e
              exact p4 q hq (fun i hi => by
                by_cases e9 : i = k
                · rw [e9, qset_at]; exact hq3
                · rw [qset_lt (show i < k by omega)]; exact hq2 i (by omega))
            · obtain ⟨kn, hbw⟩ := h5 w (by omega) hfw
              have := p3 kn
              have := hbw q hq hq2 hq3
              omega)
        refine ⟨B', M', jp_L.step (s1 := (nI (qg_mask (fun w => T w || decide (w = v)) n), nI (v + 1), M1)) (hE.imp (fun f e => ?_)) r1, r2, he1.trans r3, fun i hi => by rw [r4 i hi, p2 i (by omega)], fun kn => ?_, r6⟩
        · unfold X1_number_B66 X4_size
          dsimp only
          rw [show jm_rf 15 0 = 16 from rfl, hf.1, if_neg (nI_ge hvn (by omega)), ebit, hF2.1, if_pos rfl, if_pos rfl, ebyte, if_pos ((ql_cmp hqd (by omega)).mpr hF2.2), show jm_rf 15 2 = 19 from rfl, show jm_rf 15 1 = 18 from rfl, jp_ga (by omega) (by decide), hf.2.2 v hvn, Option.bind_some, if_pos ((ni_anyz hn (by decide)).mpr (fun u hu hu2 hh => by
            have hq := hh.2
            simp at hq
            exact hT ⟨u, hh.1, hq.1, hq.2⟩)), jp_gl (by omega) (by decide), hf.2.1 v hvn, Option.bind_some, nI_1, ni_clear hn (by omega), ← hmask, qcols_set hA (by omega), e, Option.bind_some, ni_setb hvn hn, nI_1]
        · obtain ⟨k1, k2⟩ := r5 p1
          have := p3 kn
          exact ⟨k1, by omega⟩
    · -- does not fit
      obtain ⟨B', M', r1, r2, r3, r4, r5, r6⟩ := ihj (v + 1) (by omega) T B M hf hb h1 h2 h3 (fun w hw => ⟨by have := (h4 w hw).1; omega, (h4 w hw).2⟩) (fun w hw hfw => by
        by_cases e : w = v
        · subst e; exact absurd hfw hF
        · exact h5 w (by omega) hfw)
      refine ⟨B', M', jp_L.step (s1 := (nI (qg_mask T n), nI (v + 1), M)) (jp_E.all (fun f => ?_)) r1, r2, r3, r4, r5, r6⟩
      unfold X1_number_B66 X4_size
      dsimp only
      rw [show jm_rf 15 0 = 16 from rfl, hf.1, if_neg (nI_ge hvn (by omega)), ebit, nI_1 v]
      cases hfr : qfree p k v with
      | false => rw [if_neg (by decide)]
      | true =>
        rw [if_pos rfl, if_pos rfl, ebyte, if_neg (fun q => hF (hfit.mpr ⟨hfr, (ql_cmp hqd (by omega)).mp q⟩))]
/-- the class's search at a node -/
theorem cx_number {A : Nat → Nat → Bool} (hA : qg_ok A) {n : Nat} (hn : n ≤ 8) : ∀ (e k d : Nat), k + e = n → e < d → cxw A n k d := by
  intro e
  induction e with
  | zero =>
    intro k d hk hd p B M hf hb hs
    obtain ⟨d, rfl⟩ : ∃ q, d = q + 1 := ⟨d - 1, by omega⟩
    obtain ⟨s1, s2, s3, s4⟩ := hs
    have hkn : k = n := by omega
    subst hkn
    have hp : qp k p := ⟨s1, fun i j hi hj e => s2 i j hi hj e⟩
    have hval : qB B k = qc A p k := by rw [← qB_qc hA p k]; exact qB_cong s3
    refine ⟨B, M, ⟨⟨p, hp, s3⟩, fun _ _ => rfl, fun _ => Nat.le_refl _, fun q hq hq2 => ?_⟩, hb, jp_eq.rfl', jp_E.all (fun f => ?_)⟩
    · rw [hval, qc_pre (fun i hi => (hq2 i hi).symm)]; exact Nat.le_refl _
    · show X1_number_R (X1_number d f) f 15 _ _ _ M = some M
      unfold X1_number_R X4_size
      rw [if_neg (nI_pos (by omega)), show jm_rf 15 0 = 16 from rfl, hf.1, if_neg (nI_nlt (Nat.le_refl _) (by omega))]
  | succ e ihe =>
    intro k d hk hd p B M hf hb hs
    obtain ⟨d, rfl⟩ : ∃ q, d = q + 1 := ⟨d - 1, by omega⟩
    obtain ⟨s1, s2, s3, s4⟩ := hs
    have hkn : k < n := by omega
    have ih : cxw A n (k + 1) d := ihe (k + 1) d (by omega) (by omega)
    have hL := cx_least (M := M) (L := qfree p k) (f := qcols A n p k) hn hf.1 (qcols_lt (by omega))
    generalize el : qlst (qfree p k) (qcols A n p k) n = l at hL
    -- some vertex is free
    obtain ⟨v0, hv0, hf0⟩ : ∃ v, v < n ∧ qfree p k v = true := by
      have : ¬ ∀ v, v < n → qu p k v = true := by
        intro h
        have hch : ∀ v, ∃ i, v < n → i < k ∧ p i = v := fun v => by
          by_cases hv : v < n
          · obtain ⟨i, h1, h2⟩ := qu_iff.mp (h v hv)
            exact ⟨i, fun _ => ⟨h1, h2⟩⟩
          · exact ⟨0, fun q => absurd q hv⟩
        obtain ⟨g, hg⟩ := Classical.axiomOfChoice hch
        have := fb_holes k n g (fun i hi => (hg i hi).1) (fun i j hij hj e => by
          have a := (hg i (by omega)).2
          have b := (hg j hj).2
          rw [e] at a; omega)
        omega
      obtain ⟨v, hv⟩ := Classical.not_forall.mp this
      have h2 : v < n ∧ ¬ qu p k v = true := by
        by_cases h3 : v < n
        · exact ⟨h3, fun h4 => hv (fun _ => h4)⟩
        · exact absurd (fun q => absurd q h3) hv
      exact ⟨v, h2.1, by unfold qfree; cases h9 : qu p k v <;> simp_all⟩
    have hcol : ∀ v, v < n → qcols A n p k v = qd A p v k := fun v hv => by unfold qcols; rw [if_pos hv]
    have hle : ∀ v, v < n → qfree p k v = true → l ≤ qd A p v k := fun v hv hfv => by
      rw [← el, ← hcol v hv]; exact qlst_le hv hfv
    have hl127 : l < 128 := by
      have h1 := hle v0 hv0 hf0
      have h2 := qcols_lt (A := A) (n := n) (p := p) (k := k) (by omega) v0 (by omega)
      rw [hcol v0 hv0] at h2
      omega
    obtain ⟨v1, hv1, hf1, hl1⟩ : ∃ v, v < n ∧ qfree p k v = true ∧ qd A p v k = l := by
      rcases qlst_at (L := qfree p k) (f := qcols A n p k) (n := n) with h | ⟨v, h1, h2, h3⟩
      · rw [el] at h; omega
      · exact ⟨v, h1, h2, by rw [← hcol v h1, ← h3, el]⟩
    have hB256 : B k ≤ 256 := by
      rcases s4 with h | h
      · rw [h k (Nat.le_refl k) hkn]; exact Nat.le_refl _
      · have := qkn_lt h k hkn
        have : 2 ^ k ≤ 2 ^ 8 := Nat.pow_le_pow_right (by decide) (by omega)
        omega
    have hqk : ∀ q, qp n q → (∀ i, i < k → q i = p i) → q k < n ∧ qfree p k (q k) = true ∧ l ≤ qd A q (q k) k := fun q hq hq2 => by
      have h1 := mc_fit hq hkn hq2
      have h2 : qfree p k (q k) = true := by unfold qfree; rw [h1]; rfl
      exact ⟨hq.1 k hkn, h2, by rw [qd_cong hq2]; exact hle _ (hq.1 k hkn) h2⟩
    have hpre : ∀ q, qp n q → (∀ i, i < k → q i = p i) → ∀ i, i < k → B i = qd A q (q i) i := fun q hq hq2 i hi => by
      rw [s3 i hi, hq2 i hi, qd_cong (fun a ha => hq2 a (by omega))]
    -- after the loop
    have fin : ∀ (B1 : Nat → Nat) (M1 : jm_M), cxf M1 A n → cxb M1 B1 → (∀ i, i < k → B1 i = B i) → B1 k = l → ((∀ i, k + 1 ≤ i → i < n → B1 i = 256) ∨ qkn A n B1) → (qkn A n B → qkn A n B1 → qB B1 n ≤ qB B n) → (qkn A n B → ¬ qkn A n B1 → l < B k) → jp_eq [20] M M1 →
        ∃ (B' : Nat → Nat) (M' : jm_M), cxp A n k p B B' ∧ cxb M' B' ∧ jp_eq [20] M M' ∧ jp_E (fun f => jm_loop (X1_number_B66 (X1_number d f) f 15 (nI k) (nI (qg_mask (qfree p k) n)) (lN (qk (qcols A n p k) 8)) (nI l)) f (0, 0, M1) = some M') := by
      intro B1 M1 hf9 hb9 a1 a2 a3 a4 a5 a6
      obtain ⟨B', M', r1, r2, r3, r4, r5, r6⟩ := cx_loop hA hn hkn ih s1 s2 (show l < 256 by omega) n 0 (by omega) (fun _ => false) B1 M1 hf9 hb9 (fun i hi => by rw [a1 i hi]; exact s3 i hi) a2 a3 (fun u hu => by cases hu) (fun u hu => absurd hu (Nat.not_lt_zero u))
      obtain ⟨kn, hb1⟩ := r6 v1 ⟨hv1, hf1, hl1⟩
      have hlt := qkn_lt kn
      have hBi : ∀ i, i < k → B' i = B i := fun i hi => by rw [r4 i (by omega), a1 i hi]
      have hBk : B' k = l := by rw [r4 k (Nat.le_refl k), a2]
      refine ⟨B', M', ⟨kn, hBi, fun knB => ?_, fun q hq hq2 => ?_⟩, r2, a6.trans r3, ?_⟩
      · by_cases kn1 : qkn A n B1
        · have h1 := a4 knB kn1
          have h2 := (r5 kn1).2
          omega
        · exact Nat.le_of_lt (qB_lt hlt hBi (by rw [hBk]; exact a5 knB kn1) hkn)
      · obtain ⟨h1, h2, h3⟩ := hqk q hq hq2
        by_cases e9 : qd A q (q k) k = l
        · exact (r6 (q k) ⟨h1, h2, by rw [← e9, qd_cong hq2]⟩).2 q hq hq2 rfl
        · rw [← qB_qc hA q n]
          exact Nat.le_of_lt (qB_lt hlt (fun i hi => by rw [hBi i hi]; exact hpre q hq hq2 i hi) (by rw [hBk]; omega) hkn)
      · refine r1.use.imp (fun f e => ?_)
        have z : ∀ n, qg_mask (fun _ => false) n = 0 := fun n => by
          induction n with
          | zero => rfl
          | succ n ih => show qg_mask _ n + _ = 0; rw [ih]; simp
        rw [z, nI_0] at e
        exact e
    rcases Nat.lt_trichotomy (B k) l with hc | hc | hc
    · -- cut off
      have knB : qkn A n B := by
        rcases s4 with h | h
        · have := h k (Nat.le_refl k) hkn; omega
        · exact h
      refine ⟨B, M, ⟨knB, fun _ _ => rfl, fun _ => Nat.le_refl _, fun q hq hq2 => ?_⟩, hb, jp_eq.rfl', hL.imp (fun f e => ?_)⟩
      · obtain ⟨h1, h2, h3⟩ := hqk q hq hq2
        rw [← qB_qc hA q n]
        exact Nat.le_of_lt (qB_lt (qkn_lt knB) (hpre q hq hq2) (by omega) hkn)
      · show X1_number_R (X1_number d f) f 15 _ _ _ M = some M
        unfold X1_number_R X4_size
        rw [if_neg (nI_pos (by omega)), show jm_rf 15 0 = 16 from rfl, show jm_rf 15 3 = 20 from rfl, hf.1, if_pos (nI_lt hkn (by omega)), e, Option.bind_some, jp_ga (by omega) (by decide), hb k (by omega), Option.bind_some, if_neg (nI_ge hc (by omega))]
    · -- equal
      have knB : qkn A n B := by
        rcases s4 with h | h
        · have := h k (Nat.le_refl k) hkn; omega
        · exact h
      obtain ⟨B', M', r1, r2, r3, r4⟩ := fin B M hf hb (fun _ _ => rfl) hc (Or.inr knB) (fun _ _ => Nat.le_refl _) (fun _ h => absurd knB h) jp_eq.rfl'
      refine ⟨B', M', r1, r2, r3, jp_E.imp2 hL r4 (fun f e e2 => ?_)⟩
      show X1_number_R (X1_number d f) f 15 _ _ _ M = some M'
      unfold X1_number_R X4_size
      rw [if_neg (nI_pos (by omega)), show jm_rf 15 0 = 16 from rfl, show jm_rf 15 3 = 20 from rfl, hf.1, if_pos (nI_lt hkn (by omega)), e, Option.bind_some, jp_ga (by omega) (by decide), hb k (by omega), Option.bind_some, if_pos (nI_le (by omega) (by omega)), Option.bind_some, if_pos (nI_le (by omega) (by omega)), e2, Option.bind_some]
    · -- better
      have hM1 : jm_put (jm_put M 20 (fun i => if k ≤ i ∧ i < 8 then 256 else M.1 20 i)) 20 (upd (fun i => if k ≤ i ∧ i < 8 then 256 else M.1 20 i) k (nI l)) = jm_put M 20 (upd (fun i => if k ≤ i ∧ i < 8 then 256 else M.1 20 i) k (nI l)) := jm_put_put _ _ _ _
      have hEq : jp_eq [20] M (jm_put M 20 (upd (fun i => if k ≤ i ∧ i < 8 then 256 else M.1 20 i) k (nI l))) := jp_eq.rfl'.put (by decide)
      obtain ⟨B', M', r1, r2, r3, r4⟩ := fin (fun i => if i = k then l else if k ≤ i then 256 else B i) _ (hf.keep hEq) (fun i hi => by
          rw [jm_put_at]
          by_cases e : i = k
          · subst e; rw [pk_us]; simp
          · rw [pk_un e]
            by_cases h2 : k ≤ i
            · rw [if_pos ⟨h2, hi⟩]; simp [e, h2]; rfl
            · rw [if_neg (by omega), hb i hi]; simp [e, h2]) (fun i hi => by simp [show i ≠ k by omega, show ¬ k ≤ i by omega]) (by simp) (Or.inl (fun i hi hi2 => by simp [show i ≠ k by omega, show k ≤ i by omega])) (fun knB kn1 => Nat.le_of_lt (qB_lt (qkn_lt kn1) (fun i hi => by simp [show i ≠ k by omega, show ¬ k ≤ i by omega]) (by simp; exact hc) hkn)) (fun _ _ => hc) hEq
      refine ⟨B', M', r1, r2, r3, jp_E.imp3 hL r4 (cx_forget (M := M) (k := k) (by omega)) (fun f e e2 e3 => ?_)⟩
      show X1_number_R (X1_number d f) f 15 _ _ _ M = some M'
      unfold X1_number_R X4_size
      rw [if_neg (nI_pos (by omega)), show jm_rf 15 0 = 16 from rfl, show jm_rf 15 3 = 20 from rfl, hf.1, if_pos (nI_lt hkn (by omega)), e, Option.bind_some, jp_ga (by omega) (by decide), hb k (by omega), Option.bind_some, if_pos (nI_le (by omega) (by omega)), Option.bind_some, if_neg (nI_ge hc (by omega)), e3, Option.bind_some, jp_sa (by omega) (by decide), Option.bind_some, jm_put_at, hM1, e2, Option.bind_some]
