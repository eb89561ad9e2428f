/-! MY LAYER: a pure memory of the 53 cells of the class and the reference, and a judgement over W that speaks of it -/
abbrev jm_M : Type := (Nat → Nat → Int32) × (Nat → Nat → Int64)
/-- what each cell is: (0, n) n ints, (1, n) n longs, (2, n) n rows of ints, (3, c) an object of class c -/
def jm_kd (i : Nat) : Nat × Nat := ([(3, 7), (3, 4), (0, 8), (3, 3), (0, 8), (3, 5), (2, 8), (0, 10), (0, 10), (0, 10), (0, 10), (0, 10), (0, 10), (0, 10), (0, 10), (3, 1), (3, 4), (0, 8), (1, 8), (0, 8), (0, 8), (0, 2048), (0, 2048), (3, 6), (0, 8), (3, 2), (3, 4), (0, 8), (0, 6), (3, 0), (3, 4), (0, 8), (3, 3), (0, 8), (3, 3), (0, 8), (0, 32), (3, 3), (0, 8), (3, 8), (0, 10), (0, 80), (0, 8), (0, 9), (0, 9), (0, 8), (0, 8), (0, 8), (0, 33000), (0, 160), (0, 960), (0, 6), (0, 6)] : List (Nat × Nat)).getD i (9, 0)
/-- where the references of each cell lead -/
def jm_rf (i j : Nat) : Nat := (([[1, 3, 5, 15, 23, 25, 29, 37], [2], [], [4], [], [6], [7, 8, 9, 10, 11, 12, 13, 14], [], [], [], [], [], [], [], [], [16, 18, 19, 20, 21, 22], [17], [], [], [], [], [], [], [24], [], [26, 28], [27], [], [], [30, 32, 34, 36], [31], [], [33], [], [35], [], [], [38], [], [40, 41, 99, 42, 43, 44, 45, 46, 99, 47, 48, 49, 50, 99, 99, 51, 52], [], [], [], [], [], [], [], [], [], [], [], [], []] : List (List Nat)).getD i []).getD j 99
def jm_nf (c : Nat) : Nat := ([5, 6, 2, 3, 2, 3, 3, 8, 17] : List Nat).getD c 0
def jm_isR (c k : Nat) : Bool := (([[0, 1, 2, 3], [0, 1, 2, 3, 4, 5], [0, 1], [0], [0], [0], [0], [0, 1, 2, 3, 4, 5, 6, 7], [0, 1, 3, 4, 5, 6, 7, 9, 10, 11, 12, 15, 16]] : List (List Nat)).getD c []).contains k
/-- a cell is of a kind -/
def jm_is (i : Nat) (k : Nat × Nat) : Prop := i < 53 ∧ jm_kd i = k
theorem jm_f0_0 {i : Nat} (h : jm_is i (3, 0)) : jm_is (jm_rf i 0) (3, 4) := (by decide +kernel : ∀ i, i < 53 → jm_kd i = (3, 0) → jm_rf i 0 < 53 ∧ jm_kd (jm_rf i 0) = (3, 4)) i h.1 h.2
theorem jm_f0_1 {i : Nat} (h : jm_is i (3, 0)) : jm_is (jm_rf i 1) (3, 3) := (by decide +kernel : ∀ i, i < 53 → jm_kd i = (3, 0) → jm_rf i 1 < 53 ∧ jm_kd (jm_rf i 1) = (3, 3)) i h.1 h.2
theorem jm_f0_2 {i : Nat} (h : jm_is i (3, 0)) : jm_is (jm_rf i 2) (3, 3) := (by decide +kernel : ∀ i, i < 53 → jm_kd i = (3, 0) → jm_rf i 2 < 53 ∧ jm_kd (jm_rf i 2) = (3, 3)) i h.1 h.2
theorem jm_f0_3 {i : Nat} (h : jm_is i (3, 0)) : jm_is (jm_rf i 3) (0, 32) := (by decide +kernel : ∀ i, i < 53 → jm_kd i = (3, 0) → jm_rf i 3 < 53 ∧ jm_kd (jm_rf i 3) = (0, 32)) i h.1 h.2
theorem jm_f1_0 {i : Nat} (h : jm_is i (3, 1)) : jm_is (jm_rf i 0) (3, 4) := (by decide +kernel : ∀ i, i < 53 → jm_kd i = (3, 1) → jm_rf i 0 < 53 ∧ jm_kd (jm_rf i 0) = (3, 4)) i h.1 h.2
theorem jm_f1_1 {i : Nat} (h : jm_is i (3, 1)) : jm_is (jm_rf i 1) (1, 8) := (by decide +kernel : ∀ i, i < 53 → jm_kd i = (3, 1) → jm_rf i 1 < 53 ∧ jm_kd (jm_rf i 1) = (1, 8)) i h.1 h.2
theorem jm_f1_2 {i : Nat} (h : jm_is i (3, 1)) : jm_is (jm_rf i 2) (0, 8) := (by decide +kernel : ∀ i, i < 53 → jm_kd i = (3, 1) → jm_rf i 2 < 53 ∧ jm_kd (jm_rf i 2) = (0, 8)) i h.1 h.2
theorem jm_f1_3 {i : Nat} (h : jm_is i (3, 1)) : jm_is (jm_rf i 3) (0, 8) := (by decide +kernel : ∀ i, i < 53 → jm_kd i = (3, 1) → jm_rf i 3 < 53 ∧ jm_kd (jm_rf i 3) = (0, 8)) i h.1 h.2
theorem jm_f1_4 {i : Nat} (h : jm_is i (3, 1)) : jm_is (jm_rf i 4) (0, 2048) := (by decide +kernel : ∀ i, i < 53 → jm_kd i = (3, 1) → jm_rf i 4 < 53 ∧ jm_kd (jm_rf i 4) = (0, 2048)) i h.1 h.2
theorem jm_f1_5 {i : Nat} (h : jm_is i (3, 1)) : jm_is (jm_rf i 5) (0, 2048) := (by decide +kernel : ∀ i, i < 53 → jm_kd i = (3, 1) → jm_rf i 5 < 53 ∧ jm_kd (jm_rf i 5) = (0, 2048)) i h.1 h.2
theorem jm_f2_0 {i : Nat} (h : jm_is i (3, 2)) : jm_is (jm_rf i 0) (3, 4) := (by decide +kernel : ∀ i, i < 53 → jm_kd i = (3, 2) → jm_rf i 0 < 53 ∧ jm_kd (jm_rf i 0) = (3, 4)) i h.1 h.2
theorem jm_f2_1 {i : Nat} (h : jm_is i (3, 2)) : jm_is (jm_rf i 1) (0, 6) := (by decide +kernel : ∀ i, i < 53 → jm_kd i = (3, 2) → jm_rf i 1 < 53 ∧ jm_kd (jm_rf i 1) = (0, 6)) i h.1 h.2
theorem jm_f3_0 {i : Nat} (h : jm_is i (3, 3)) : jm_is (jm_rf i 0) (0, 8) := (by decide +kernel : ∀ i, i < 53 → jm_kd i = (3, 3) → jm_rf i 0 < 53 ∧ jm_kd (jm_rf i 0) = (0, 8)) i h.1 h.2
theorem jm_f4_0 {i : Nat} (h : jm_is i (3, 4)) : jm_is (jm_rf i 0) (0, 8) := (by decide +kernel : ∀ i, i < 53 → jm_kd i = (3, 4) → jm_rf i 0 < 53 ∧ jm_kd (jm_rf i 0) = (0, 8)) i h.1 h.2
theorem jm_f5_0 {i : Nat} (h : jm_is i (3, 5)) : jm_is (jm_rf i 0) (2, 8) := (by decide +kernel : ∀ i, i < 53 → jm_kd i = (3, 5) → jm_rf i 0 < 53 ∧ jm_kd (jm_rf i 0) = (2, 8)) i h.1 h.2
theorem jm_f6_0 {i : Nat} (h : jm_is i (3, 6)) : jm_is (jm_rf i 0) (0, 8) := (by decide +kernel : ∀ i, i < 53 → jm_kd i = (3, 6) → jm_rf i 0 < 53 ∧ jm_kd (jm_rf i 0) = (0, 8)) i h.1 h.2
theorem jm_f7_0 {i : Nat} (h : jm_is i (3, 7)) : jm_is (jm_rf i 0) (3, 4) := (by decide +kernel : ∀ i, i < 53 → jm_kd i = (3, 7) → jm_rf i 0 < 53 ∧ jm_kd (jm_rf i 0) = (3, 4)) i h.1 h.2
theorem jm_f7_1 {i : Nat} (h : jm_is i (3, 7)) : jm_is (jm_rf i 1) (3, 3) := (by decide +kernel : ∀ i, i < 53 → jm_kd i = (3, 7) → jm_rf i 1 < 53 ∧ jm_kd (jm_rf i 1) = (3, 3)) i h.1 h.2
theorem jm_f7_2 {i : Nat} (h : jm_is i (3, 7)) : jm_is (jm_rf i 2) (3, 5) := (by decide +kernel : ∀ i, i < 53 → jm_kd i = (3, 7) → jm_rf i 2 < 53 ∧ jm_kd (jm_rf i 2) = (3, 5)) i h.1 h.2
theorem jm_f7_3 {i : Nat} (h : jm_is i (3, 7)) : jm_is (jm_rf i 3) (3, 1) := (by decide +kernel : ∀ i, i < 53 → jm_kd i = (3, 7) → jm_rf i 3 < 53 ∧ jm_kd (jm_rf i 3) = (3, 1)) i h.1 h.2
theorem jm_f7_4 {i : Nat} (h : jm_is i (3, 7)) : jm_is (jm_rf i 4) (3, 6) := (by decide +kernel : ∀ i, i < 53 → jm_kd i = (3, 7) → jm_rf i 4 < 53 ∧ jm_kd (jm_rf i 4) = (3, 6)) i h.1 h.2
theorem jm_f7_5 {i : Nat} (h : jm_is i (3, 7)) : jm_is (jm_rf i 5) (3, 2) := (by decide +kernel : ∀ i, i < 53 → jm_kd i = (3, 7) → jm_rf i 5 < 53 ∧ jm_kd (jm_rf i 5) = (3, 2)) i h.1 h.2
theorem jm_f7_6 {i : Nat} (h : jm_is i (3, 7)) : jm_is (jm_rf i 6) (3, 0) := (by decide +kernel : ∀ i, i < 53 → jm_kd i = (3, 7) → jm_rf i 6 < 53 ∧ jm_kd (jm_rf i 6) = (3, 0)) i h.1 h.2
theorem jm_f7_7 {i : Nat} (h : jm_is i (3, 7)) : jm_is (jm_rf i 7) (3, 3) := (by decide +kernel : ∀ i, i < 53 → jm_kd i = (3, 7) → jm_rf i 7 < 53 ∧ jm_kd (jm_rf i 7) = (3, 3)) i h.1 h.2
theorem jm_f8_0 {i : Nat} (h : jm_is i (3, 8)) : jm_is (jm_rf i 0) (0, 10) := (by decide +kernel : ∀ i, i < 53 → jm_kd i = (3, 8) → jm_rf i 0 < 53 ∧ jm_kd (jm_rf i 0) = (0, 10)) i h.1 h.2
theorem jm_f8_1 {i : Nat} (h : jm_is i (3, 8)) : jm_is (jm_rf i 1) (0, 80) := (by decide +kernel : ∀ i, i < 53 → jm_kd i = (3, 8) → jm_rf i 1 < 53 ∧ jm_kd (jm_rf i 1) = (0, 80)) i h.1 h.2
theorem jm_f8_3 {i : Nat} (h : jm_is i (3, 8)) : jm_is (jm_rf i 3) (0, 8) := (by decide +kernel : ∀ i, i < 53 → jm_kd i = (3, 8) → jm_rf i 3 < 53 ∧ jm_kd (jm_rf i 3) = (0, 8)) i h.1 h.2
theorem jm_f8_4 {i : Nat} (h : jm_is i (3, 8)) : jm_is (jm_rf i 4) (0, 9) := (by decide +kernel : ∀ i, i < 53 → jm_kd i = (3, 8) → jm_rf i 4 < 53 ∧ jm_kd (jm_rf i 4) = (0, 9)) i h.1 h.2
theorem jm_f8_5 {i : Nat} (h : jm_is i (3, 8)) : jm_is (jm_rf i 5) (0, 9) := (by decide +kernel : ∀ i, i < 53 → jm_kd i = (3, 8) → jm_rf i 5 < 53 ∧ jm_kd (jm_rf i 5) = (0, 9)) i h.1 h.2
theorem jm_f8_6 {i : Nat} (h : jm_is i (3, 8)) : jm_is (jm_rf i 6) (0, 8) := (by decide +kernel : ∀ i, i < 53 → jm_kd i = (3, 8) → jm_rf i 6 < 53 ∧ jm_kd (jm_rf i 6) = (0, 8)) i h.1 h.2
theorem jm_f8_7 {i : Nat} (h : jm_is i (3, 8)) : jm_is (jm_rf i 7) (0, 8) := (by decide +kernel : ∀ i, i < 53 → jm_kd i = (3, 8) → jm_rf i 7 < 53 ∧ jm_kd (jm_rf i 7) = (0, 8)) i h.1 h.2
theorem jm_f8_9 {i : Nat} (h : jm_is i (3, 8)) : jm_is (jm_rf i 9) (0, 8) := (by decide +kernel : ∀ i, i < 53 → jm_kd i = (3, 8) → jm_rf i 9 < 53 ∧ jm_kd (jm_rf i 9) = (0, 8)) i h.1 h.2
theorem jm_f8_10 {i : Nat} (h : jm_is i (3, 8)) : jm_is (jm_rf i 10) (0, 33000) := (by decide +kernel : ∀ i, i < 53 → jm_kd i = (3, 8) → jm_rf i 10 < 53 ∧ jm_kd (jm_rf i 10) = (0, 33000)) i h.1 h.2
theorem jm_f8_11 {i : Nat} (h : jm_is i (3, 8)) : jm_is (jm_rf i 11) (0, 160) := (by decide +kernel : ∀ i, i < 53 → jm_kd i = (3, 8) → jm_rf i 11 < 53 ∧ jm_kd (jm_rf i 11) = (0, 160)) i h.1 h.2
theorem jm_f8_12 {i : Nat} (h : jm_is i (3, 8)) : jm_is (jm_rf i 12) (0, 960) := (by decide +kernel : ∀ i, i < 53 → jm_kd i = (3, 8) → jm_rf i 12 < 53 ∧ jm_kd (jm_rf i 12) = (0, 960)) i h.1 h.2
theorem jm_f8_15 {i : Nat} (h : jm_is i (3, 8)) : jm_is (jm_rf i 15) (0, 6) := (by decide +kernel : ∀ i, i < 53 → jm_kd i = (3, 8) → jm_rf i 15 < 53 ∧ jm_kd (jm_rf i 15) = (0, 6)) i h.1 h.2
theorem jm_f8_16 {i : Nat} (h : jm_is i (3, 8)) : jm_is (jm_rf i 16) (0, 6) := (by decide +kernel : ∀ i, i < 53 → jm_kd i = (3, 8) → jm_rf i 16 < 53 ∧ jm_kd (jm_rf i 16) = (0, 6)) i h.1 h.2
theorem jm_row2 {i j : Nat} (h : jm_is i (2, 8)) (hj : j < 8) : jm_is (jm_rf i j) (0, 10) := (by decide +kernel : ∀ i, i < 53 → jm_kd i = (2, 8) → ∀ j, j < 8 → jm_rf i j < 53 ∧ jm_kd (jm_rf i j) = (0, 10)) i h.1 h.2 j hj
/-- the machine's side: classes and slots, the arrays' classes, the cells' addresses, the address of the table VERTICES -/
abbrev jm_C : Type := va_G × (ClassId × ClassId × ClassId) × (Nat → Nat) × Nat
abbrev jm_ad (k : jm_C) (i : Nat) : Nat := k.2.2.1 i
def jm_cell (k : jm_C) (M : jm_M) (i : Nat) : va_E :=
  if (jm_kd i).1 = 0 then .inl (k.2.1.1, (jm_kd i).2, .inl (M.1 i))
  else if (jm_kd i).1 = 1 then .inl (k.2.1.2.1, (jm_kd i).2, .inr (.inl (M.2 i)))
  else if (jm_kd i).1 = 2 then .inl (k.2.1.2.2, (jm_kd i).2, .inr (.inr (.inr (.inr (fun j => some (k.2.2.1 (jm_rf i j)))))))
  else .inr ((jm_kd i).2, (List.range (jm_nf (jm_kd i).2)).map (fun j => if jm_isR (jm_kd i).2 j = true then Value.ref (k.2.2.1 (jm_rf i j)) else Value.int (M.1 i j)))
def jm_w (k : jm_C) (M : jm_M) : va_W := (List.range 53).map (fun i => (k.2.2.1 i, jm_cell k M i))
def jm_tys (k : jm_C) : List (ClassId × FieldType) := [(k.2.1.1, .int), (k.2.1.2.1, .long), (k.2.1.2.2, .array .int)]
theorem jm_w_at {k : jm_C} {M : jm_M} {i : Nat} (hi : i < 53) : (jm_w k M)[i]? = some (k.2.2.1 i, jm_cell k M i) := by
  simp [jm_w, hi]
theorem jm_w_i {k : jm_C} {M : jm_M} {i n : Nat} (h : jm_is i (0, n)) : (jm_w k M)[i]? = some (k.2.2.1 i, .inl (k.2.1.1, n, .inl (M.1 i))) := by
  rw [jm_w_at h.1]; simp [jm_cell, h.2]
theorem jm_w_l {k : jm_C} {M : jm_M} {i n : Nat} (h : jm_is i (1, n)) : (jm_w k M)[i]? = some (k.2.2.1 i, .inl (k.2.1.2.1, n, .inr (.inl (M.2 i)))) := by
  rw [jm_w_at h.1]; simp [jm_cell, h.2]
theorem jm_w_q {k : jm_C} {M : jm_M} {i n : Nat} (h : jm_is i (2, n)) : (jm_w k M)[i]? = some (k.2.2.1 i, .inl (k.2.1.2.2, n, .inr (.inr (.inr (.inr (fun j => some (k.2.2.1 (jm_rf i j)))))))) := by
  rw [jm_w_at h.1]; simp [jm_cell, h.2]
def jm_fs (k : jm_C) (M : jm_M) (c i : Nat) : List Value := (List.range (jm_nf c)).map (fun j => if jm_isR c j = true then Value.ref (k.2.2.1 (jm_rf i j)) else Value.int (M.1 i j))
theorem jm_w_o {k : jm_C} {M : jm_M} {i c : Nat} (h : jm_is i (3, c)) : (jm_w k M)[i]? = some (k.2.2.1 i, .inr (c, jm_fs k M c i)) := by
  rw [jm_w_at h.1]; simp [jm_cell, h.2, jm_fs]
theorem jm_fs_i {k : jm_C} {M : jm_M} {c i j : Nat} (hj : j < jm_nf c) (hr : jm_isR c j = false) : (jm_fs k M c i)[j]? = some (.int (M.1 i j)) := by
  simp [jm_fs, hj, hr]
theorem jm_fs_r {k : jm_C} {M : jm_M} {c i j : Nat} (hj : j < jm_nf c) (hr : jm_isR c j = true) : (jm_fs k M c i)[j]? = some (.ref (k.2.2.1 (jm_rf i j))) := by
  simp [jm_fs, hj, hr]
def jm_set (M : jm_M) (i j : Nat) (v : Int32) : jm_M := (fun a b => if a = i ∧ b = j then v else M.1 a b, M.2)
def jm_setL (M : jm_M) (i j : Nat) (v : Int64) : jm_M := (M.1, fun a b => if a = i ∧ b = j then v else M.2 a b)
theorem jm_cell_congr {k : jm_C} {M M' : jm_M} {j : Nat} (h1 : M'.1 j = M.1 j) (h2 : M'.2 j = M.2 j) : jm_cell k M' j = jm_cell k M j := by
  unfold jm_cell; rw [h1, h2]
theorem jm_w_set {k : jm_C} {M M' : jm_M} {i : Nat} {e : va_E} (hi : i < 53) (h1 : ∀ j, j ≠ i → M'.1 j = M.1 j) (h2 : ∀ j, j ≠ i → M'.2 j = M.2 j) (he : e = jm_cell k M' i) : (jm_w k M).set i (k.2.2.1 i, e) = jm_w k M' := by
  subst he
  apply List.ext_getElem?
  intro j
  rw [List.getElem?_set]
  by_cases hj : i = j
  · subst hj
    simp [jm_w, hi]
  · simp only [if_neg hj]
    by_cases hl : j < 53
    · rw [jm_w_at hl, jm_w_at hl, jm_cell_congr (h1 j (Ne.symm hj)) (h2 j (Ne.symm hj))]
    · simp [jm_w, hl]
theorem jm_set_ne {M : jm_M} {i j : Nat} {v : Int32} {a : Nat} (h : a ≠ i) : (jm_set M i j v).1 a = M.1 a := by
  funext b; simp [jm_set, h]
theorem jm_setL_ne {M : jm_M} {i j : Nat} {v : Int64} {a : Nat} (h : a ≠ i) : (jm_setL M i j v).2 a = M.2 a := by
  funext b; simp [jm_setL, h]
theorem jm_w_set_i {k : jm_C} {M : jm_M} {i n j : Nat} {v : Int32} (h : jm_is i (0, n)) : (jm_w k M).set i (k.2.2.1 i, .inl (k.2.1.1, n, .inl (upd (M.1 i) j v))) = jm_w k (jm_set M i j v) := by
  refine jm_w_set h.1 (fun a ha => jm_set_ne ha) (fun a _ => rfl) ?_
  have e : upd (M.1 i) j v = (jm_set M i j v).1 i := by funext b; simp [upd, jm_set]
  simp [jm_cell, h.2, e]
theorem jm_w_set_l {k : jm_C} {M : jm_M} {i n j : Nat} {v : Int64} (h : jm_is i (1, n)) : (jm_w k M).set i (k.2.2.1 i, .inl (k.2.1.2.1, n, .inr (.inl (vp_updL (M.2 i) j v)))) = jm_w k (jm_setL M i j v) := by
  refine jm_w_set h.1 (fun a _ => rfl) (fun a ha => jm_setL_ne ha) ?_
  have e : vp_updL (M.2 i) j v = (jm_setL M i j v).2 i := by funext b; simp [vp_updL, jm_setL]
  simp [jm_cell, h.2, e]
theorem jm_w_set_o {k : jm_C} {M : jm_M} {i c j : Nat} {v : Int32} (h : jm_is i (3, c)) (hr : jm_isR c j = false) : (jm_w k M).set i (k.2.2.1 i, .inr (c, (jm_fs k M c i).set j (.int v))) = jm_w k (jm_set M i j v) := by
  refine jm_w_set h.1 (fun a ha => jm_set_ne ha) (fun a _ => rfl) ?_
  have e : (jm_fs k M c i).set j (.int v) = jm_fs k (jm_set M i j v) c i := by
    apply List.ext_getElem?
    intro b
    rw [List.getElem?_set]
    by_cases hb : j = b
    · subst hb
      by_cases hl : j < jm_nf c
      · simp [jm_fs, hl, hr, jm_set]
      · simp [jm_fs, hl]
    · by_cases hl : b < jm_nf c
      · simp [jm_fs, hl, hb, jm_set, Ne.symm hb]
      · simp [jm_fs, hl, hb]
  rw [e]
  simp [jm_cell, h.2, jm_fs]
/-- the static table VERTICES -/
def jm_vt (j : Nat) : Int32 := ([2, 3, 3, 4, 4, 4, 4, 4, 4] : List Int32).getD j 0
def jm_st (k : jm_C) (A : Nat → Prop) (U : State) (H : Heap) : Prop := va_Z RX6 "VERTICES" "[I" (.ref k.2.2.2) A U H ∧ va_T .int k.2.2.2 9 (fun j => .int (jm_vt j)) A U H
abbrev jm_X : Type := Program × Launch × Env × State × MethodId × Array Value × List Frame × Method × Code × (State → Prop) × (Nat → Prop)
abbrev jx_p (X : jm_X) : Program := X.1
abbrev jx_l (X : jm_X) : Launch := X.2.1
abbrev jx_e (X : jm_X) : Env := X.2.2.1
abbrev jx_s (X : jm_X) : State := X.2.2.2.1
abbrev jx_m (X : jm_X) : MethodId := X.2.2.2.2.1
abbrev jx_a (X : jm_X) : Array Value := X.2.2.2.2.2.1
abbrev jx_b (X : jm_X) : List Frame := X.2.2.2.2.2.2.1
abbrev jx_me (X : jm_X) : Method := X.2.2.2.2.2.2.2.1
abbrev jx_c (X : jm_X) : Code := X.2.2.2.2.2.2.2.2.1
abbrev jx_Q (X : jm_X) : State → Prop := X.2.2.2.2.2.2.2.2.2.1
abbrev jx_A (X : jm_X) : Nat → Prop := X.2.2.2.2.2.2.2.2.2.2
/-- the machine comes to X's goal from the frame at pc with these locals and this stack, over every heap that holds the memory M -/
def jm_T (X : jm_X) (R : Room) (k : jm_C) (nL : Nat) (M : jm_M) (pc : Nat) (lv : List (Nat × Value)) (st : List Value) : Prop :=
  ∀ (H : Heap) (locs : List Loc) (ls : Array Slot), va_P k.1 vwCl (jm_w k M) H → va_S (jx_A X) (jx_s X).heap H locs → lv_has ls nL lv → W (jx_p X) (jx_l X) (jx_e X) R (jx_s X) (jx_m X) (jx_a X) (jx_b X) (jx_me X) (jx_c X) H locs 0 0 (jx_Q X) (F0 (jx_m X) pc ls st)
/-- what stays through a method: machine, code, words, classes, the cells apart, the table -/
def jm_Cx (X : jm_X) (k : jm_C) (cc : ByteArray) (nL : Nat) (own : String) (Ts : List Cond) : Prop :=
  (jx_p X).tables.exec = Jvm.exec ∧ (jx_c X).code = cc ∧ (jx_c X).maxLocals = nL ∧ (jx_s X).vm.findClass own = some (jx_m X).cls ∧ (∀ w ∈ Ts, w.before (jx_a X) (jx_s X) = true) ∧ va_K k.1 vwCl (jm_tys k) (jx_s X) ∧ (∀ M, va_D (jx_A X) (jm_w k M)) ∧ (∀ q, (jx_s X).heap.size ≤ q → jx_A X q) ∧ jm_st k (jx_A X) (jx_s X) (jx_s X).heap
theorem jm_bind {α β : Type} {o : Option α} {f : α → Option β} {r : β} (h : o.bind f = some r) : ∃ a, o = some a ∧ f a = some r := by
  cases o with
  | none => cases h
  | some a => exact ⟨a, rfl, h⟩
theorem jm_ift {α : Type} {c : Prop} [Decidable c] {a b r : α} (hc : c) (h : (if c then a else b) = r) : a = r := by rwa [if_pos hc] at h
theorem jm_iff {α : Type} {c : Prop} [Decidable c] {a b r : α} (hc : ¬ c) (h : (if c then a else b) = r) : b = r := by rwa [if_neg hc] at h
/-- an int of an array of n places; a place outside answers none -/
def jm_ga (f : Nat → Int32) (n : Nat) (i : Int32) : Option Int32 := if i < 0 ∨ n ≤ i.toNatClampNeg then none else some (f i.toNatClampNeg)
def jm_gl (f : Nat → Int64) (n : Nat) (i : Int32) : Option Int64 := if i < 0 ∨ n ≤ i.toNatClampNeg then none else some (f i.toNatClampNeg)
def jm_gq (q n : Nat) (i : Int32) : Option Nat := if i < 0 ∨ n ≤ i.toNatClampNeg then none else some (jm_rf q i.toNatClampNeg)
def jm_sa (M : jm_M) (a n : Nat) (i : Int32) (v : Int32) : Option jm_M := if i < 0 ∨ n ≤ i.toNatClampNeg then none else some (jm_set M a i.toNatClampNeg v)
def jm_sl (M : jm_M) (a n : Nat) (i : Int32) (v : Int64) : Option jm_M := if i < 0 ∨ n ≤ i.toNatClampNeg then none else some (jm_setL M a i.toNatClampNeg v)
def jm_dv (x y : Int32) : Option Int32 := if y = 0 then none else some (x / y)
def jm_rm (x y : Int32) : Option Int32 := if y = 0 then none else some (x - x / y * y)
def jm_zb (x : Int32) : Option Int32 := if x = 0 ∨ x = 1 then some x else none
theorem jm_ga_s {f : Nat → Int32} {n : Nat} {i v : Int32} (h : jm_ga f n i = some v) : vp_in i n ∧ v = f i.toNatClampNeg := by
  unfold jm_ga at h; split at h
  · cases h
  · next hc => exact ⟨hc, (Option.some.inj h).symm⟩
theorem jm_gl_s {f : Nat → Int64} {n : Nat} {i : Int32} {v : Int64} (h : jm_gl f n i = some v) : vp_in i n ∧ v = f i.toNatClampNeg := by
  unfold jm_gl at h; split at h
  · cases h
  · next hc => exact ⟨hc, (Option.some.inj h).symm⟩
theorem jm_gq_s {q n : Nat} {i : Int32} {v : Nat} (h : jm_gq q n i = some v) : vp_in i n ∧ v = jm_rf q i.toNatClampNeg := by
  unfold jm_gq at h; split at h
  · cases h
  · next hc => exact ⟨hc, (Option.some.inj h).symm⟩
theorem jm_sa_s {M M' : jm_M} {a n : Nat} {i v : Int32} (h : jm_sa M a n i v = some M') : vp_in i n ∧ M' = jm_set M a i.toNatClampNeg v := by
  unfold jm_sa at h; split at h
  · cases h
  · next hc => exact ⟨hc, (Option.some.inj h).symm⟩
theorem jm_sl_s {M M' : jm_M} {a n : Nat} {i : Int32} {v : Int64} (h : jm_sl M a n i v = some M') : vp_in i n ∧ M' = jm_setL M a i.toNatClampNeg v := by
  unfold jm_sl at h; split at h
  · cases h
  · next hc => exact ⟨hc, (Option.some.inj h).symm⟩
theorem jm_dv_s {x y v : Int32} (h : jm_dv x y = some v) : (¬ y = 0) ∧ v = x / y := by
  unfold jm_dv at h; split at h
  · cases h
  · next hc => exact ⟨hc, (Option.some.inj h).symm⟩
theorem jm_rm_s {x y v : Int32} (h : jm_rm x y = some v) : (¬ y = 0) ∧ v = x - x / y * y := by
  unfold jm_rm at h; split at h
  · cases h
  · next hc => exact ⟨hc, (Option.some.inj h).symm⟩
theorem jm_zb_s {x v : Int32} (h : jm_zb x = some v) : (x = 0 ∨ x = 1) ∧ v = x := by
  unfold jm_zb at h; split at h
  · next hc => exact ⟨hc, (Option.some.inj h).symm⟩
  · cases h
theorem jm_gq_in {q : Nat} {i : Int32} {v : Nat} (hq : jm_is q (2, 8)) (h : jm_gq q 8 i = some v) : jm_is v (0, 10) := by
  obtain ⟨h1, rfl⟩ := jm_gq_s h
  exact jm_row2 hq (Nat.not_le.mp fun q => h1 (Or.inr q))
/-- a loop: its body answers the next state, or the end -/
def jm_loop {S Rr : Type} (body : S → Option (S ⊕ Rr)) : Nat → S → Option Rr
  | 0, _ => none
  | n + 1, s => (body s).bind (fun q => Sum.elim (fun s1 => jm_loop body n s1) (fun r => some r) q)
theorem jm_loop_ind {S Rr : Type} {body : S → Option (S ⊕ Rr)} {P : S → Prop} {K : Rr → Prop} (hb : ∀ s q, body s = some q → (∀ s1, q = .inl s1 → P s1) → (∀ r, q = .inr r → K r) → P s) : ∀ (m : Nat) (s : S) (r : Rr), jm_loop body m s = some r → K r → P s
  | 0, s, r, h, _ => by cases h
  | n + 1, s, r, h, hK => by
    obtain ⟨q, e, h⟩ := jm_bind h
    refine hb s q e (fun s1 hq => ?_) (fun r1 hq => ?_)
    · subst hq; exact jm_loop_ind hb n s1 r h hK
    · subst hq; cases h; exact hK
theorem jm_inl {α β γ : Type} {f : α → γ} {g : β → γ} {a : α} {r : γ} (h : Sum.elim f g (.inl a) = r) : f a = r := h
theorem jm_inr {α β γ : Type} {f : α → γ} {g : β → γ} {a : β} {r : γ} (h : Sum.elim f g (.inr a) = r) : g a = r := h
theorem jm_nei {x : Int32} (v : Int32) (h : ¬ x = v) : ¬ x.toInt = v.toInt := fun e => h (Int32.toInt_inj.mp e)
section JT
variable {X : jm_X} {R : Room} {k : jm_C} {cc : ByteArray} {nL : Nat} {own : String} {Ts : List Cond} {M : jm_M} {pc : Nat} {lv : List (Nat × Value)} {st : List Value}
theorem jt_iadd (C : jm_Cx X k cc nL own Ts) {x y : Int32} (hd : decode cc pc = .ok (.iadd, 1)) (kk : jm_T X R k nL M (pc + 1) lv (.int (x + y) :: st)) : jm_T X R k nL M pc lv (.int y :: .int x :: st) := fun H locs ls hP hS hl => lv_iadd C.1 C.2.1 hd (kk H locs ls hP hS hl)
theorem jt_isub (C : jm_Cx X k cc nL own Ts) {x y : Int32} (hd : decode cc pc = .ok (.isub, 1)) (kk : jm_T X R k nL M (pc + 1) lv (.int (x - y) :: st)) : jm_T X R k nL M pc lv (.int y :: .int x :: st) := fun H locs ls hP hS hl => lv_isub C.1 C.2.1 hd (kk H locs ls hP hS hl)
theorem jt_imul (C : jm_Cx X k cc nL own Ts) {x y : Int32} (hd : decode cc pc = .ok (.imul, 1)) (kk : jm_T X R k nL M (pc + 1) lv (.int (x * y) :: st)) : jm_T X R k nL M pc lv (.int y :: .int x :: st) := fun H locs ls hP hS hl => lv_imul C.1 C.2.1 hd (kk H locs ls hP hS hl)
theorem jt_iand (C : jm_Cx X k cc nL own Ts) {x y : Int32} (hd : decode cc pc = .ok (.iand, 1)) (kk : jm_T X R k nL M (pc + 1) lv (.int (x &&& y) :: st)) : jm_T X R k nL M pc lv (.int y :: .int x :: st) := fun H locs ls hP hS hl => lv_iand C.1 C.2.1 hd (kk H locs ls hP hS hl)
theorem jt_ior (C : jm_Cx X k cc nL own Ts) {x y : Int32} (hd : decode cc pc = .ok (.ior, 1)) (kk : jm_T X R k nL M (pc + 1) lv (.int (x ||| y) :: st)) : jm_T X R k nL M pc lv (.int y :: .int x :: st) := fun H locs ls hP hS hl => lv_ior C.1 C.2.1 hd (kk H locs ls hP hS hl)
theorem jt_ixor (C : jm_Cx X k cc nL own Ts) {x y : Int32} (hd : decode cc pc = .ok (.ixor, 1)) (kk : jm_T X R k nL M (pc + 1) lv (.int (x ^^^ y) :: st)) : jm_T X R k nL M pc lv (.int y :: .int x :: st) := fun H locs ls hP hS hl => lv_ixor C.1 C.2.1 hd (kk H locs ls hP hS hl)
theorem jt_ishl (C : jm_Cx X k cc nL own Ts) {x y : Int32} (hd : decode cc pc = .ok (.ishl, 1)) (kk : jm_T X R k nL M (pc + 1) lv (.int (x <<< (y &&& 31)) :: st)) : jm_T X R k nL M pc lv (.int y :: .int x :: st) := fun H locs ls hP hS hl => lv_ishl C.1 C.2.1 hd (kk H locs ls hP hS hl)
theorem jt_ishr (C : jm_Cx X k cc nL own Ts) {x y : Int32} (hd : decode cc pc = .ok (.ishr, 1)) (kk : jm_T X R k nL M (pc + 1) lv (.int (x >>> (y &&& 31)) :: st)) : jm_T X R k nL M pc lv (.int y :: .int x :: st) := fun H locs ls hP hS hl => lv_ishr C.1 C.2.1 hd (kk H locs ls hP hS hl)
theorem jt_iushr (C : jm_Cx X k cc nL own Ts) {x y : Int32} (hd : decode cc pc = .ok (.iushr, 1)) (kk : jm_T X R k nL M (pc + 1) lv (.int ((x.toUInt32 >>> (y.toUInt32 &&& Int32.toUInt32 31)).toInt32) :: st)) : jm_T X R k nL M pc lv (.int y :: .int x :: st) := fun H locs ls hP hS hl => lv_iushr C.1 C.2.1 hd rfl (kk H locs ls hP hS hl)
theorem jt_idiv (C : jm_Cx X k cc nL own Ts) {x y v : Int32} (hd : decode cc pc = .ok (.idiv, 1)) (hv : jm_dv x y = some v) (kk : jm_T X R k nL M (pc + 1) lv (.int v :: st)) : jm_T X R k nL M pc lv (.int y :: .int x :: st) := fun H locs ls hP hS hl => by obtain ⟨h1, rfl⟩ := jm_dv_s hv; exact lv_idiv C.1 C.2.1 hd h1 (kk H locs ls hP hS hl)
theorem jt_irem (C : jm_Cx X k cc nL own Ts) {x y v : Int32} (hd : decode cc pc = .ok (.irem, 1)) (hv : jm_rm x y = some v) (kk : jm_T X R k nL M (pc + 1) lv (.int v :: st)) : jm_T X R k nL M pc lv (.int y :: .int x :: st) := fun H locs ls hP hS hl => by obtain ⟨h1, rfl⟩ := jm_rm_s hv; exact lv_irem C.1 C.2.1 hd h1 (kk H locs ls hP hS hl)
theorem jt_i2l (C : jm_Cx X k cc nL own Ts) {x : Int32} (hd : decode cc pc = .ok (.i2l, 1)) (kk : jm_T X R k nL M (pc + 1) lv (.long x.toInt64 :: st)) : jm_T X R k nL M pc lv (.int x :: st) := fun H locs ls hP hS hl => lv_i2l C.1 C.2.1 hd rfl (kk H locs ls hP hS hl)
theorem jt_l2i (C : jm_Cx X k cc nL own Ts) {x : Int64} (hd : decode cc pc = .ok (.l2i, 1)) (kk : jm_T X R k nL M (pc + 1) lv (.int x.toInt32 :: st)) : jm_T X R k nL M pc lv (.long x :: st) := fun H locs ls hP hS hl => lv_l2i C.1 C.2.1 hd rfl (kk H locs ls hP hS hl)
theorem jt_lshl (C : jm_Cx X k cc nL own Ts) {x : Int64} {y : Int32} (hd : decode cc pc = .ok (.lshl, 1)) (kk : jm_T X R k nL M (pc + 1) lv (.long (x <<< (y.toInt64 &&& 63)) :: st)) : jm_T X R k nL M pc lv (.int y :: .long x :: st) := fun H locs ls hP hS hl => lv_lshl C.1 C.2.1 hd rfl (kk H locs ls hP hS hl)
theorem jt_lshr (C : jm_Cx X k cc nL own Ts) {x : Int64} {y : Int32} (hd : decode cc pc = .ok (.lshr, 1)) (kk : jm_T X R k nL M (pc + 1) lv (.long (x >>> (y.toInt64 &&& 63)) :: st)) : jm_T X R k nL M pc lv (.int y :: .long x :: st) := fun H locs ls hP hS hl => lv_lshr C.1 C.2.1 hd rfl (kk H locs ls hP hS hl)
theorem jt_land (C : jm_Cx X k cc nL own Ts) {x y : Int64} (hd : decode cc pc = .ok (.land, 1)) (kk : jm_T X R k nL M (pc + 1) lv (.long (x &&& y) :: st)) : jm_T X R k nL M pc lv (.long y :: .long x :: st) := fun H locs ls hP hS hl => lv_land C.1 C.2.1 hd (kk H locs ls hP hS hl)
theorem jt_lor (C : jm_Cx X k cc nL own Ts) {x y : Int64} (hd : decode cc pc = .ok (.lor, 1)) (kk : jm_T X R k nL M (pc + 1) lv (.long (x ||| y) :: st)) : jm_T X R k nL M pc lv (.long y :: .long x :: st) := fun H locs ls hP hS hl => lv_lor C.1 C.2.1 hd (kk H locs ls hP hS hl)
theorem jt_lcmp (C : jm_Cx X k cc nL own Ts) {x y : Int64} (hd : decode cc pc = .ok (.lcmp, 1)) (kk : jm_T X R k nL M (pc + 1) lv (.int (lg_cmp x y) :: st)) : jm_T X R k nL M pc lv (.long y :: .long x :: st) := fun H locs ls hP hS hl => W.lcmp C.1 C.2.1 hd (kk H locs ls hP hS hl)
theorem jt_iconst (C : jm_Cx X k cc nL own Ts) {n : Int} {v : Int32} (hd : decode cc pc = .ok (.iconst n, 1)) (hv : Int32.ofInt n = v) (kk : jm_T X R k nL M (pc + 1) lv (.int v :: st)) : jm_T X R k nL M pc lv st := fun H locs ls hP hS hl => lv_iconst C.1 C.2.1 hd hv (kk H locs ls hP hS hl)
theorem jt_bipush (C : jm_Cx X k cc nL own Ts) {n : Int} {v : Int32} (hd : decode cc pc = .ok (.bipush n, 2)) (hv : (Int8.ofInt n).toInt32 = v) (kk : jm_T X R k nL M (pc + 2) lv (.int v :: st)) : jm_T X R k nL M pc lv st := fun H locs ls hP hS hl => lv_bipush C.1 C.2.1 hd hv (kk H locs ls hP hS hl)
theorem jt_sipush (C : jm_Cx X k cc nL own Ts) {n : Int} {v : Int32} (hd : decode cc pc = .ok (.sipush n, 3)) (hv : (Int16.ofInt n).toInt32 = v) (kk : jm_T X R k nL M (pc + 3) lv (.int v :: st)) : jm_T X R k nL M pc lv st := fun H locs ls hP hS hl => lv_sipush C.1 C.2.1 hd hv (kk H locs ls hP hS hl)
theorem jt_lconst (C : jm_Cx X k cc nL own Ts) {n : Fin 2} {v : Int64} (hd : decode cc pc = .ok (.lconst n, 1)) (hv : Int64.ofNat (n : Nat) = v) (kk : jm_T X R k nL M (pc + 1) lv (.long v :: st)) : jm_T X R k nL M pc lv st := fun H locs ls hP hS hl => lv_lconst C.1 C.2.1 hd hv (kk H locs ls hP hS hl)
theorem jt_pop (C : jm_Cx X k cc nL own Ts) {va : Value} (hd : decode cc pc = .ok (.pop, 1)) (hva : va.category = 1) (kk : jm_T X R k nL M (pc + 1) lv st) : jm_T X R k nL M pc lv (va :: st) := fun H locs ls hP hS hl => lv_pop C.1 C.2.1 hd hva (kk H locs ls hP hS hl)
theorem jt_dup (C : jm_Cx X k cc nL own Ts) {va : Value} (hd : decode cc pc = .ok (.dup, 1)) (hva : va.category = 1) (kk : jm_T X R k nL M (pc + 1) lv (va :: va :: st)) : jm_T X R k nL M pc lv (va :: st) := fun H locs ls hP hS hl => lv_dup C.1 C.2.1 hd hva (kk H locs ls hP hS hl)
theorem jt_dup2 (C : jm_Cx X k cc nL own Ts) {va vb : Value} (hd : decode cc pc = .ok (.dup2, 1)) (hva : va.category = 1) (hvb : vb.category = 1) (kk : jm_T X R k nL M (pc + 1) lv (va :: vb :: va :: vb :: st)) : jm_T X R k nL M pc lv (va :: vb :: st) := fun H locs ls hP hS hl => lv_dup2_11 C.1 C.2.1 hd hva hvb (kk H locs ls hP hS hl)
theorem jt_ldc (C : jm_Cx X k cc nL own Ts) {index : Nat} {v : Int32} (hd : decode cc pc = .ok (.ldc index, 2)) (hm : Jvm.Cond.constant own index v ∈ Ts) (kk : jm_T X R k nL M (pc + 2) lv (.int v :: st)) : jm_T X R k nL M pc lv st := fun H locs ls hP hS hl => lv_ldc C.1 C.2.1 C.2.2.2.1 (C.2.2.2.2.1 _ hm) hd (kk H locs ls hP hS hl)
theorem jt_ldcw (C : jm_Cx X k cc nL own Ts) {index : Nat} {v : Int32} (hd : decode cc pc = .ok (.ldc_w index, 3)) (hm : Jvm.Cond.constant own index v ∈ Ts) (kk : jm_T X R k nL M (pc + 3) lv (.int v :: st)) : jm_T X R k nL M pc lv st := fun H locs ls hP hS hl => lv_ldcw C.1 C.2.1 C.2.2.2.1 (C.2.2.2.2.1 _ hm) hd (kk H locs ls hP hS hl)
theorem jt_ldc2 (C : jm_Cx X k cc nL own Ts) {index : Nat} {v : Int64} (hd : decode cc pc = .ok (.ldc2_w index, 3)) (hm : Jvm.Cond.constantLong own index v ∈ Ts) (kk : jm_T X R k nL M (pc + 3) lv (.long v :: st)) : jm_T X R k nL M pc lv st := fun H locs ls hP hS hl => lv_ldc2 C.1 C.2.1 C.2.2.2.1 (C.2.2.2.2.1 _ hm) hd (kk H locs ls hP hS hl)
theorem jt_iload_n (C : jm_Cx X k cc nL own Ts) {f : Fin 4} {i : Nat} {x : Int32} (hd : decode cc pc = .ok (.iload_n f, 1)) (hi : (f : Nat) = i) (j : Nat) (hj : lv[j]? = some (i, .int x)) (kk : jm_T X R k nL M (pc + 1) lv (.int x :: st)) : jm_T X R k nL M pc lv st := fun H locs ls hP hS hl => lv_iload_n C.1 C.2.1 hd hi (lv_at hl j hj) (kk H locs ls hP hS hl)
theorem jt_iload (C : jm_Cx X k cc nL own Ts) {i : Nat} {x : Int32} (hd : decode cc pc = .ok (.iload i, 2)) (j : Nat) (hj : lv[j]? = some (i, .int x)) (kk : jm_T X R k nL M (pc + 2) lv (.int x :: st)) : jm_T X R k nL M pc lv st := fun H locs ls hP hS hl => lv_iload C.1 C.2.1 hd (lv_at hl j hj) (kk H locs ls hP hS hl)
theorem jt_lload_n (C : jm_Cx X k cc nL own Ts) {f : Fin 4} {i : Nat} {x : Int64} (hd : decode cc pc = .ok (.lload_n f, 1)) (hi : (f : Nat) = i) (j : Nat) (hj : lv[j]? = some (i, .long x)) (kk : jm_T X R k nL M (pc + 1) lv (.long x :: st)) : jm_T X R k nL M pc lv st := fun H locs ls hP hS hl => lv_lload_n C.1 C.2.1 hd hi (lv_at hl j hj) (kk H locs ls hP hS hl)
theorem jt_lload (C : jm_Cx X k cc nL own Ts) {i : Nat} {x : Int64} (hd : decode cc pc = .ok (.lload i, 2)) (j : Nat) (hj : lv[j]? = some (i, .long x)) (kk : jm_T X R k nL M (pc + 2) lv (.long x :: st)) : jm_T X R k nL M pc lv st := fun H locs ls hP hS hl => lv_lload C.1 C.2.1 hd (lv_at hl j hj) (kk H locs ls hP hS hl)
theorem jt_aload_n (C : jm_Cx X k cc nL own Ts) {f : Fin 4} {i : Nat} {x : Nat} (hd : decode cc pc = .ok (.aload_n f, 1)) (hi : (f : Nat) = i) (j : Nat) (hj : lv[j]? = some (i, .ref x)) (kk : jm_T X R k nL M (pc + 1) lv (.ref x :: st)) : jm_T X R k nL M pc lv st := fun H locs ls hP hS hl => lv_aload_n C.1 C.2.1 hd hi (lv_at hl j hj) (kk H locs ls hP hS hl)
theorem jt_aload (C : jm_Cx X k cc nL own Ts) {i : Nat} {x : Nat} (hd : decode cc pc = .ok (.aload i, 2)) (j : Nat) (hj : lv[j]? = some (i, .ref x)) (kk : jm_T X R k nL M (pc + 2) lv (.ref x :: st)) : jm_T X R k nL M pc lv st := fun H locs ls hP hS hl => lv_aload C.1 C.2.1 hd (lv_at hl j hj) (kk H locs ls hP hS hl)
theorem jt_istore_n (C : jm_Cx X k cc nL own Ts) {f : Fin 4} {i : Nat} {x : Int32} {lv' : List (Nat × Value)} (hd : decode cc pc = .ok (.istore_n f, 1)) (hi : (f : Nat) = i) (hn : i < nL) (hl' : (i, Value.int x) :: lv.filter (fun q => !(q.1 == i) && !(q.1 + 1 == i && q.2.category == 2)) = lv') (kk : jm_T X R k nL M (pc + 1) lv' st) : jm_T X R k nL M pc lv (.int x :: st) := fun H locs ls hP hS hl => lv_istore_n C.1 C.2.1 hd hi hl hn hl' (fun ls' h' => kk H locs ls' hP hS h')
theorem jt_istore (C : jm_Cx X k cc nL own Ts) {i : Nat} {x : Int32} {lv' : List (Nat × Value)} (hd : decode cc pc = .ok (.istore i, 2)) (hn : i < nL) (hl' : (i, Value.int x) :: lv.filter (fun q => !(q.1 == i) && !(q.1 + 1 == i && q.2.category == 2)) = lv') (kk : jm_T X R k nL M (pc + 2) lv' st) : jm_T X R k nL M pc lv (.int x :: st) := fun H locs ls hP hS hl => lv_istore C.1 C.2.1 hd hl hn hl' (fun ls' h' => kk H locs ls' hP hS h')
theorem jt_astore_n (C : jm_Cx X k cc nL own Ts) {f : Fin 4} {i : Nat} {x : Nat} {lv' : List (Nat × Value)} (hd : decode cc pc = .ok (.astore_n f, 1)) (hi : (f : Nat) = i) (hn : i < nL) (hl' : (i, Value.ref x) :: lv.filter (fun q => !(q.1 == i) && !(q.1 + 1 == i && q.2.category == 2)) = lv') (kk : jm_T X R k nL M (pc + 1) lv' st) : jm_T X R k nL M pc lv (.ref x :: st) := fun H locs ls hP hS hl => lv_astore_n C.1 C.2.1 hd hi hl hn hl' (fun ls' h' => kk H locs ls' hP hS h')
theorem jt_astore (C : jm_Cx X k cc nL own Ts) {i : Nat} {x : Nat} {lv' : List (Nat × Value)} (hd : decode cc pc = .ok (.astore i, 2)) (hn : i < nL) (hl' : (i, Value.ref x) :: lv.filter (fun q => !(q.1 == i) && !(q.1 + 1 == i && q.2.category == 2)) = lv') (kk : jm_T X R k nL M (pc + 2) lv' st) : jm_T X R k nL M pc lv (.ref x :: st) := fun H locs ls hP hS hl => lv_astore C.1 C.2.1 hd hl hn hl' (fun ls' h' => kk H locs ls' hP hS h')
theorem jt_iinc (C : jm_Cx X k cc nL own Ts) {i : Nat} {n : Int} {x v : Int32} {lv' : List (Nat × Value)} (hd : decode cc pc = .ok (.iinc i n, 3)) (j : Nat) (hj : lv[j]? = some (i, .int x)) (hv : Int32.ofInt n = v) (hn : i < nL) (hl' : (i, Value.int (x + v)) :: lv.filter (fun q => !(q.1 == i) && !(q.1 + 1 == i && q.2.category == 2)) = lv') (kk : jm_T X R k nL M (pc + 3) lv' st) : jm_T X R k nL M pc lv st := fun H locs ls hP hS hl => lv_iinc (v := x + v) C.1 C.2.1 hd hl hj (by rw [hv]) hn hl' (fun ls' h' => kk H locs ls' hP hS h')
theorem jt_goto (C : jm_Cx X k cc nL own Ts) {off : Int} {tgt : Nat} (hd : decode cc pc = .ok (.goto off, 3)) (ht : (pc : Int) + off = (tgt : Int)) (kk : jm_T X R k nL M tgt lv st) : jm_T X R k nL M pc lv st := fun H locs ls hP hS hl => lv_goto C.1 C.2.1 hd ht (kk H locs ls hP hS hl)
theorem jt_icmp_eq (C : jm_Cx X k cc nL own Ts) {x y : Int32} {off : Int} {tgt : Nat} (hd : decode cc pc = .ok (.if_icmp .eq off, 3)) (ht : (pc : Int) + off = (tgt : Int)) (kt : x = y → jm_T X R k nL M tgt lv st) (kf : ¬ x = y → jm_T X R k nL M (pc + 3) lv st) : jm_T X R k nL M pc lv (.int y :: .int x :: st) := fun H locs ls hP hS hl => lv_icmp_eq C.1 C.2.1 hd ht (fun h => kt h H locs ls hP hS hl) (fun h => kf h H locs ls hP hS hl)
theorem jt_icmp_ne (C : jm_Cx X k cc nL own Ts) {x y : Int32} {off : Int} {tgt : Nat} (hd : decode cc pc = .ok (.if_icmp .ne off, 3)) (ht : (pc : Int) + off = (tgt : Int)) (kt : ¬ x = y → jm_T X R k nL M tgt lv st) (kf : x = y → jm_T X R k nL M (pc + 3) lv st) : jm_T X R k nL M pc lv (.int y :: .int x :: st) := fun H locs ls hP hS hl => lv_icmp_ne C.1 C.2.1 hd ht (fun h => kt h H locs ls hP hS hl) (fun h => kf h H locs ls hP hS hl)
theorem jt_icmp_lt (C : jm_Cx X k cc nL own Ts) {x y : Int32} {off : Int} {tgt : Nat} (hd : decode cc pc = .ok (.if_icmp .lt off, 3)) (ht : (pc : Int) + off = (tgt : Int)) (kt : x < y → jm_T X R k nL M tgt lv st) (kf : ¬ x < y → jm_T X R k nL M (pc + 3) lv st) : jm_T X R k nL M pc lv (.int y :: .int x :: st) := fun H locs ls hP hS hl => lv_icmp_lt C.1 C.2.1 hd ht (fun h => kt h H locs ls hP hS hl) (fun h => kf h H locs ls hP hS hl)
theorem jt_icmp_ge (C : jm_Cx X k cc nL own Ts) {x y : Int32} {off : Int} {tgt : Nat} (hd : decode cc pc = .ok (.if_icmp .ge off, 3)) (ht : (pc : Int) + off = (tgt : Int)) (kt : y ≤ x → jm_T X R k nL M tgt lv st) (kf : ¬ y ≤ x → jm_T X R k nL M (pc + 3) lv st) : jm_T X R k nL M pc lv (.int y :: .int x :: st) := fun H locs ls hP hS hl => lv_icmp_ge C.1 C.2.1 hd ht (fun h => kt h H locs ls hP hS hl) (fun h => kf h H locs ls hP hS hl)
theorem jt_icmp_gt (C : jm_Cx X k cc nL own Ts) {x y : Int32} {off : Int} {tgt : Nat} (hd : decode cc pc = .ok (.if_icmp .gt off, 3)) (ht : (pc : Int) + off = (tgt : Int)) (kt : y < x → jm_T X R k nL M tgt lv st) (kf : ¬ y < x → jm_T X R k nL M (pc + 3) lv st) : jm_T X R k nL M pc lv (.int y :: .int x :: st) := fun H locs ls hP hS hl => lv_icmp_gt C.1 C.2.1 hd ht (fun h => kt h H locs ls hP hS hl) (fun h => kf h H locs ls hP hS hl)
theorem jt_icmp_le (C : jm_Cx X k cc nL own Ts) {x y : Int32} {off : Int} {tgt : Nat} (hd : decode cc pc = .ok (.if_icmp .le off, 3)) (ht : (pc : Int) + off = (tgt : Int)) (kt : x ≤ y → jm_T X R k nL M tgt lv st) (kf : ¬ x ≤ y → jm_T X R k nL M (pc + 3) lv st) : jm_T X R k nL M pc lv (.int y :: .int x :: st) := fun H locs ls hP hS hl => lv_icmp_le C.1 C.2.1 hd ht (fun h => kt h H locs ls hP hS hl) (fun h => kf h H locs ls hP hS hl)
theorem jt_if_eq (C : jm_Cx X k cc nL own Ts) {x : Int32} {off : Int} {tgt : Nat} (hd : decode cc pc = .ok (.ifCond .eq off, 3)) (ht : (pc : Int) + off = (tgt : Int)) (kt : x = 0 → jm_T X R k nL M tgt lv st) (kf : ¬ x = 0 → jm_T X R k nL M (pc + 3) lv st) : jm_T X R k nL M pc lv (.int x :: st) := fun H locs ls hP hS hl => lv_if_eq C.1 C.2.1 hd ht (fun h => kt h H locs ls hP hS hl) (fun h => kf h H locs ls hP hS hl)
theorem jt_if_ne (C : jm_Cx X k cc nL own Ts) {x : Int32} {off : Int} {tgt : Nat} (hd : decode cc pc = .ok (.ifCond .ne off, 3)) (ht : (pc : Int) + off = (tgt : Int)) (kt : ¬ x = 0 → jm_T X R k nL M tgt lv st) (kf : x = 0 → jm_T X R k nL M (pc + 3) lv st) : jm_T X R k nL M pc lv (.int x :: st) := fun H locs ls hP hS hl => lv_if_ne C.1 C.2.1 hd ht (fun h => kt h H locs ls hP hS hl) (fun h => kf h H locs ls hP hS hl)
theorem jt_if_lt (C : jm_Cx X k cc nL own Ts) {x : Int32} {off : Int} {tgt : Nat} (hd : decode cc pc = .ok (.ifCond .lt off, 3)) (ht : (pc : Int) + off = (tgt : Int)) (kt : x < 0 → jm_T X R k nL M tgt lv st) (kf : ¬ x < 0 → jm_T X R k nL M (pc + 3) lv st) : jm_T X R k nL M pc lv (.int x :: st) := fun H locs ls hP hS hl => lv_if_lt C.1 C.2.1 hd ht (fun h => kt h H locs ls hP hS hl) (fun h => kf h H locs ls hP hS hl)
theorem jt_if_ge (C : jm_Cx X k cc nL own Ts) {x : Int32} {off : Int} {tgt : Nat} (hd : decode cc pc = .ok (.ifCond .ge off, 3)) (ht : (pc : Int) + off = (tgt : Int)) (kt : 0 ≤ x → jm_T X R k nL M tgt lv st) (kf : ¬ 0 ≤ x → jm_T X R k nL M (pc + 3) lv st) : jm_T X R k nL M pc lv (.int x :: st) := fun H locs ls hP hS hl => lv_if_ge C.1 C.2.1 hd ht (fun h => kt h H locs ls hP hS hl) (fun h => kf h H locs ls hP hS hl)
theorem jt_if_gt (C : jm_Cx X k cc nL own Ts) {x : Int32} {off : Int} {tgt : Nat} (hd : decode cc pc = .ok (.ifCond .gt off, 3)) (ht : (pc : Int) + off = (tgt : Int)) (kt : 0 < x → jm_T X R k nL M tgt lv st) (kf : ¬ 0 < x → jm_T X R k nL M (pc + 3) lv st) : jm_T X R k nL M pc lv (.int x :: st) := fun H locs ls hP hS hl => lv_if_gt C.1 C.2.1 hd ht (fun h => kt h H locs ls hP hS hl) (fun h => kf h H locs ls hP hS hl)
theorem jt_if_le (C : jm_Cx X k cc nL own Ts) {x : Int32} {off : Int} {tgt : Nat} (hd : decode cc pc = .ok (.ifCond .le off, 3)) (ht : (pc : Int) + off = (tgt : Int)) (kt : x ≤ 0 → jm_T X R k nL M tgt lv st) (kf : ¬ x ≤ 0 → jm_T X R k nL M (pc + 3) lv st) : jm_T X R k nL M pc lv (.int x :: st) := fun H locs ls hP hS hl => lv_if_le C.1 C.2.1 hd ht (fun h => kt h H locs ls hP hS hl) (fun h => kf h H locs ls hP hS hl)
theorem jt_tblIn (C : jm_Cx X k cc nL own Ts) {dflt lo hi : Int} {offs : Array Int} {len : Nat} {x v : Int32} {off : Int} {tgt : Nat} (hd : decode cc pc = .ok (.tableswitch dflt lo hi offs, len)) (hx : x = v) (h1 : ¬ v.toInt < lo) (h2 : ¬ hi < v.toInt) (ho : offs[(v.toInt - lo).toNat]? = some off) (ht : (pc : Int) + off = (tgt : Int)) (kk : jm_T X R k nL M tgt lv st) : jm_T X R k nL M pc lv (.int x :: st) := fun H locs ls hP hS hl => by subst hx; exact lv_tableIn C.1 C.2.1 hd h1 h2 ho ht (kk H locs ls hP hS hl)
theorem jt_tblOut (C : jm_Cx X k cc nL own Ts) {dflt lo hi : Int} {offs : Array Int} {len : Nat} {x : Int32} {tgt : Nat} (hd : decode cc pc = .ok (.tableswitch dflt lo hi offs, len)) (h : x.toInt < lo ∨ hi < x.toInt) (ht : (pc : Int) + dflt = (tgt : Int)) (kk : jm_T X R k nL M tgt lv st) : jm_T X R k nL M pc lv (.int x :: st) := fun H locs ls hP hS hl => lv_tableOut C.1 C.2.1 hd h ht (kk H locs ls hP hS hl)
theorem jt_getI (C : jm_Cx X k cc nL own Ts) {c i : Nat} {Cn : String} {Tf : u_T} {N index : Nat} (hd : decode cc pc = .ok (.getfield index, 3)) (hi : jm_is i (3, c)) (hc : vwCl[c]? = some (Cn, Tf, N)) (hin : ∀ w ∈ u_ws Cn Tf N, w ∈ Ts) (j : Nat) (hj : j < N) (hn : jm_nf c = N) (hm : Cond.fieldLink own index (Tf j).1 (Tf j).2.1 (Tf j).2.2.1 ∈ Ts) (hr : jm_isR c j = false)
    (kk : jm_T X R k nL M (pc + 3) lv (.int (M.1 i j) :: st)) : jm_T X R k nL M pc lv (.ref (jm_ad k i) :: st) := fun H locs ls hP hS hl =>
  va_get (D := k.1) (ci := c) (v := .int (M.1 i j)) (C := Cn) (T := Tf) (N := N) C.1 C.2.1 C.2.2.2.2.1 hin C.2.2.2.1 C.2.2.2.2.2.1 hP i (jm_w_o hi) hc j hj (C.2.2.2.2.1 _ hm) (fun _ h9 => h9) (jm_fs_i (by rw [hn]; exact hj) hr) hd (kk H locs ls hP hS hl)
theorem jt_getR (C : jm_Cx X k cc nL own Ts) {c i : Nat} {Cn : String} {Tf : u_T} {N index : Nat} (hd : decode cc pc = .ok (.getfield index, 3)) (hi : jm_is i (3, c)) (hc : vwCl[c]? = some (Cn, Tf, N)) (hin : ∀ w ∈ u_ws Cn Tf N, w ∈ Ts) (j : Nat) (hj : j < N) (hn : jm_nf c = N) (hm : Cond.fieldLink own index (Tf j).1 (Tf j).2.1 (Tf j).2.2.1 ∈ Ts) (hr : jm_isR c j = true)
    (kk : jm_T X R k nL M (pc + 3) lv (.ref (jm_ad k (jm_rf i j)) :: st)) : jm_T X R k nL M pc lv (.ref (jm_ad k i) :: st) := fun H locs ls hP hS hl =>
  va_get (D := k.1) (ci := c) (v := .ref (jm_ad k (jm_rf i j))) (C := Cn) (T := Tf) (N := N) C.1 C.2.1 C.2.2.2.2.1 hin C.2.2.2.1 C.2.2.2.2.2.1 hP i (jm_w_o hi) hc j hj (C.2.2.2.2.1 _ hm) (fun _ h9 => h9) (jm_fs_r (by rw [hn]; exact hj) hr) hd (kk H locs ls hP hS hl)
theorem jt_putI (C : jm_Cx X k cc nL own Ts) {c i : Nat} {Cn : String} {Tf : u_T} {N index : Nat} {v : Int32} (hd : decode cc pc = .ok (.putfield index, 3)) (hi : jm_is i (3, c)) (hc : vwCl[c]? = some (Cn, Tf, N)) (hin : ∀ w ∈ u_ws Cn Tf N, w ∈ Ts) (ty0 : Nat → FieldType) (hty : ∀ k, k < N → parseFieldDescriptor (Tf k).2.2.1 = some (ty0 k)) (hnm : ∀ a, a < N → ∀ b, b < N → a ≠ b → (Tf a).2.1 ≠ (Tf b).2.1) (j : Nat) (hj : j < N) (hn : jm_nf c = N) (hm : Cond.fieldLink own index (Tf j).1 (Tf j).2.1 (Tf j).2.2.1 ∈ Ts) (hr : jm_isR c j = false) (hfin : (Tf j).2.2.2 = false) (hdt : parseFieldDescriptor (Tf j).2.2.1 = some .int)
    (kk : jm_T X R k nL (jm_set M i j v) (pc + 3) lv st) : jm_T X R k nL M pc lv (.int v :: .ref (jm_ad k i) :: st) := fun H locs ls hP hS hl =>
  va_put (D := k.1) (ci := c) (v := .int v) (ty := .int) (C := Cn) (T := Tf) (N := N) C.1 C.2.1 C.2.2.2.2.1 hin ty0 hty hnm C.2.2.2.1 C.2.2.2.2.2.1 hP (C.2.2.2.2.2.2.1 M) hS i (jm_w_o hi) hc j hj (C.2.2.2.2.1 _ hm) (fun _ h9 => h9) hfin hdt rfl rfl (by unfold jm_fs; rw [List.length_map, List.length_range, hn]; exact hj) hd (fun H1 locs1 hP1 _ hS1 => kk H1 locs1 ls (by rw [← jm_w_set_o hi hr]; exact hP1) hS1 hl)
theorem jt_iald (C : jm_Cx X k cc nL own Ts) {i n : Nat} {j v : Int32} (hd : decode cc pc = .ok (.iaload, 1)) (hi : jm_is i (0, n)) (hv : jm_ga (M.1 i) n j = some v)
    (kk : jm_T X R k nL M (pc + 1) lv (.int v :: st)) : jm_T X R k nL M pc lv (.int j :: .ref (jm_ad k i) :: st) := fun H locs ls hP hS hl => by
  obtain ⟨h1, rfl⟩ := jm_ga_s hv
  exact va_iald C.1 C.2.1 C.2.2.2.2.2.1 hP i 0 (jm_w_i hi) rfl h1 hd (kk H locs ls hP hS hl)
theorem jt_lald (C : jm_Cx X k cc nL own Ts) {i n : Nat} {j : Int32} {v : Int64} (hd : decode cc pc = .ok (.laload, 1)) (hi : jm_is i (1, n)) (hv : jm_gl (M.2 i) n j = some v)
    (kk : jm_T X R k nL M (pc + 1) lv (.long v :: st)) : jm_T X R k nL M pc lv (.int j :: .ref (jm_ad k i) :: st) := fun H locs ls hP hS hl => by
  obtain ⟨h1, rfl⟩ := jm_gl_s hv
  exact va_lald C.1 C.2.1 C.2.2.2.2.2.1 hP i 1 (jm_w_l hi) rfl h1 hd (kk H locs ls hP hS hl)
theorem jt_aald (C : jm_Cx X k cc nL own Ts) {i n : Nat} {j : Int32} {v : Nat} (hd : decode cc pc = .ok (.aaload, 1)) (hi : jm_is i (2, n)) (hv : jm_gq i n j = some v)
    (kk : jm_T X R k nL M (pc + 1) lv (.ref (jm_ad k v) :: st)) : jm_T X R k nL M pc lv (.int j :: .ref (jm_ad k i) :: st) := fun H locs ls hP hS hl => by
  obtain ⟨h1, rfl⟩ := jm_gq_s hv
  have hlt : j.toNatClampNeg < n := Nat.not_le.mp fun q => h1 (Or.inr q)
  exact W.aald (v := va_rf (some (jm_ad k (jm_rf i j.toNatClampNeg)))) (ty := .array .int) C.1 C.2.1 (hP i _ (jm_w_q hi)) ((C.2.2.2.2.2.1.2 2 _ rfl).1 n (fun j => va_rf (some (jm_ad k (jm_rf i j))))) rfl (fun q => by cases q) (by show ¬ (j < 0 ∨ (arrV _ _ _).slots.size ≤ _); rw [arrV_size]; exact h1) (by show (arrV _ _ _).slots[_]? = _; rw [arrV_read _ _ hlt]) rfl rfl hd (kk H locs ls hP hS hl)
theorem jt_iast (C : jm_Cx X k cc nL own Ts) {i n : Nat} {j v : Int32} {M' : jm_M} (hd : decode cc pc = .ok (.iastore, 1)) (hi : jm_is i (0, n)) (hv : jm_sa M i n j v = some M')
    (kk : jm_T X R k nL M' (pc + 1) lv st) : jm_T X R k nL M pc lv (.int v :: .int j :: .ref (jm_ad k i) :: st) := fun H locs ls hP hS hl => by
  obtain ⟨h1, rfl⟩ := jm_sa_s hv
  exact va_iast C.1 C.2.1 C.2.2.2.2.2.1 hP (C.2.2.2.2.2.2.1 M) hS i 0 (jm_w_i hi) rfl h1 hd (fun H1 locs1 hP1 _ hS1 => kk H1 locs1 ls (by rw [← jm_w_set_i hi]; exact hP1) hS1 hl)
theorem jt_last (C : jm_Cx X k cc nL own Ts) {i n : Nat} {j : Int32} {v : Int64} {M' : jm_M} (hd : decode cc pc = .ok (.lastore, 1)) (hi : jm_is i (1, n)) (hv : jm_sl M i n j v = some M')
    (kk : jm_T X R k nL M' (pc + 1) lv st) : jm_T X R k nL M pc lv (.long v :: .int j :: .ref (jm_ad k i) :: st) := fun H locs ls hP hS hl => by
  obtain ⟨h1, rfl⟩ := jm_sl_s hv
  exact va_last C.1 C.2.1 C.2.2.2.2.2.1 hP (C.2.2.2.2.2.2.1 M) hS i 1 (jm_w_l hi) rfl h1 hd (fun H1 locs1 hP1 _ hS1 => kk H1 locs1 ls (by rw [← jm_w_set_l hi]; exact hP1) hS1 hl)
theorem jt_alen (C : jm_Cx X k cc nL own Ts) {i n : Nat} {v : Int32} (hd : decode cc pc = .ok (.arraylength, 1)) (hi : jm_is i (0, n)) (hv : Int32.ofNat n = v)
    (kk : jm_T X R k nL M (pc + 1) lv (.int v :: st)) : jm_T X R k nL M pc lv (.ref (jm_ad k i) :: st) := fun H locs ls hP hS hl =>
  va_alen C.1 C.2.1 C.2.2.2.2.2.1 hP i 0 (jm_w_i hi) rfl hv hd (kk H locs ls hP hS hl)
/-- the table VERTICES -/
theorem jt_gets (C : jm_Cx X k cc nL own Ts) {index : Nat} (hd : decode cc pc = .ok (.getstatic index, 3)) (hm : Cond.fieldLink own index RX6 "VERTICES" "[I" ∈ Ts)
    (kk : jm_T X R k nL M (pc + 3) lv (.ref k.2.2.2 :: st)) : jm_T X R k nL M pc lv st := fun H locs ls hP hS hl =>
  va_gets C.1 C.2.1 C.2.2.2.2.2.2.2.2.1 hS C.2.2.2.1 (C.2.2.2.2.1 _ hm) (fun _ h9 => h9) hd (kk H locs ls hP hS hl)
theorem jt_tlen (C : jm_Cx X k cc nL own Ts) (hd : decode cc pc = .ok (.arraylength, 1))
    (kk : jm_T X R k nL M (pc + 1) lv (.int 9 :: st)) : jm_T X R k nL M pc lv (.ref k.2.2.2 :: st) := fun H locs ls hP hS hl =>
  va_tlen C.1 C.2.1 C.2.2.2.2.2.2.2.2.2 hS (by decide) hd (kk H locs ls hP hS hl)
theorem jt_tald (C : jm_Cx X k cc nL own Ts) {j v : Int32} (hd : decode cc pc = .ok (.iaload, 1)) (hv : jm_ga jm_vt 9 j = some v)
    (kk : jm_T X R k nL M (pc + 1) lv (.int v :: st)) : jm_T X R k nL M pc lv (.int j :: .ref k.2.2.2 :: st) := fun H locs ls hP hS hl => by
  obtain ⟨h1, rfl⟩ := jm_ga_s hv
  exact va_ti C.1 C.2.1 C.2.2.2.2.2.2.2.2.2 hS h1 rfl hd (kk H locs ls hP hS hl)
theorem jt_mmin (C : jm_Cx X k cc nL own Ts) {index : Nat} {x y : Int32} (hd : decode cc pc = .ok (.invokestatic index, 3)) (h1 : Cond.methodLink own index Lib.Math.min.name ∈ Ts) (h2 : Cond.static Lib.Math.min.name ∈ Ts) (h3 : Cond.initialized "java/lang/Math" ∈ Ts) (h4 : Cond.code Lib.Math.min.name Lib.Math.min.code 2 (some .int) ∈ Ts) (hf : 1 ≤ R.frames) (hlo : (st.map fun v => v.category).sum + 13 ≤ R.locals)
    (kk : jm_T X R k nL M (pc + 3) lv (.int (if y < x then y else x) :: st)) : jm_T X R k nL M pc lv (.int y :: .int x :: st) := fun H locs ls hP hS hl =>
  va_mmin C.1 C.2.1 (C.2.2.1.trans hl.1.symm) C.2.2.2.1 (C.2.2.2.2.1 _ h1) (C.2.2.2.2.1 _ h2) (C.2.2.2.2.1 _ h3) (C.2.2.2.2.1 _ h4) hf hlo (Nat.zero_le _) (Nat.zero_le _) hd (kk H locs ls hP hS hl)
theorem jt_sub {lv' : List (Nat × Value)} (ks : List Nat) (hl' : lv_pick lv ks = lv') (kk : jm_T X R k nL M pc lv' st) : jm_T X R k nL M pc lv st := fun H locs ls hP hS hl => kk H locs ls hP hS (lv_sub hl ks hl')
end JT
/-- which cells a method may change -/
def jm_A (k : jm_C) (sz : Nat) : Nat → Prop := fun q => (∃ i, i < 53 ∧ q = k.2.2.1 i) ∨ sz ≤ q
def jm_B (k : jm_C) (M : jm_M) (t : State) : Prop := va_P k.1 vwCl (jm_w k M) t.heap ∧ va_K k.1 vwCl (jm_tys k) t
/-- the addresses are apart -/
def jm_inj (k : jm_C) : Prop := ∀ i j, i < 53 → j < 53 → k.2.2.1 i = k.2.2.1 j → i = j
def jm_Pc (k : jm_C) (vals : List Value) (M : jm_M) (sz : Nat) : Array Value → State → Prop := va_Pc vals (fun U => U.heap.size = sz ∧ va_P k.1 vwCl (jm_w k M) U.heap ∧ va_K k.1 vwCl (jm_tys k) U ∧ jm_inj k ∧ jm_st k (jm_A k sz) U U.heap)
/-- the contract of a method that answers an int: from memory M with these arguments it answers r and leaves M' -/
def jm_Ci (l : Launch) (k : jm_C) (y : MethodName) (ws : List Cond) (rm : Room) (vals : List Value) (M : jm_M) (r : Int32) (M' : jm_M) : Prop :=
  ∀ sz, Met l y ws rm (jm_Pc k vals M sz) (va_Qi (fun (r' : Int32) (_ : Unit) => r' = r) (fun _ t => jm_B k M' t) (jm_A k sz)) 0 0 (jm_A k sz)
def jm_Cv (l : Launch) (k : jm_C) (y : MethodName) (ws : List Cond) (rm : Room) (vals : List Value) (M : jm_M) (M' : jm_M) : Prop :=
  ∀ sz, Met l y ws rm (jm_Pc k vals M sz) (va_Qv (fun (_ : Unit) => True) (fun _ t => jm_B k M' t) (jm_A k sz)) 0 0 (jm_A k sz)
theorem jm_D_of {k : jm_C} {A : Nat → Prop} (h : jm_inj k) (hA : ∀ i, i < 53 → A (k.2.2.1 i)) (M : jm_M) : va_D A (jm_w k M) := by
  have hg : ∀ (i : Nat) (p : Nat × va_E), (jm_w k M)[i]? = some p → i < 53 ∧ p.1 = k.2.2.1 i := fun i p hp => by
    by_cases hi : i < 53
    · rw [jm_w_at hi] at hp; exact ⟨hi, by rw [← Option.some.inj hp]⟩
    · simp [jm_w, hi] at hp
  refine ⟨fun i j p q hp hq e => ?_, fun i p hp => ?_⟩
  · obtain ⟨a1, a2⟩ := hg i p hp
    obtain ⟨b1, b2⟩ := hg j q hq
    exact h i j a1 b1 (by rw [← a2, ← b2]; exact e)
  · obtain ⟨a1, a2⟩ := hg i p hp
    rw [a2]; exact hA i a1
/-- the ends of a method -/
def jm_Qi (X : jm_X) (k : jm_C) (r : Int32) (M' : jm_M) : Prop := jx_Q X = MQ (jx_b X) (va_Qi (fun (r' : Int32) (_ : Unit) => r' = r) (fun _ t => jm_B k M' t) (jx_A X)) (jx_a X) (jx_s X) 0 0 (jx_A X) ∧ (jx_me X).locks = false
def jm_Qv (X : jm_X) (k : jm_C) (M' : jm_M) : Prop := jx_Q X = MQ (jx_b X) (va_Qv (fun (_ : Unit) => True) (fun _ t => jm_B k M' t) (jx_A X)) (jx_a X) (jx_s X) 0 0 (jx_A X) ∧ (jx_me X).locks = false
section JR
variable {X : jm_X} {R : Room} {k : jm_C} {cc : ByteArray} {nL : Nat} {own : String} {Ts : List Cond} {M : jm_M} {pc : Nat} {lv : List (Nat × Value)} {st : List Value}
theorem jt_iret (C : jm_Cx X k cc nL own Ts) {r : Int32} (hd : decode cc pc = .ok (.ireturn, 1)) (hQ : jm_Qi X k r M) (hr : (jx_me X).sig.returnType = some .int) : jm_T X R k nL M pc lv [.int r] := fun H locs ls hP hS hl => by
  rw [hQ.1]
  exact W.iret (v := r) C.1 C.2.1 hr (fun t ht hW => ⟨⟨r, (), rfl, rfl, by rw [ht]; exact hP, va_K.moved hW.alike C.2.2.2.2.2.1⟩, hS.F ht⟩) hS.2.2 hd hQ.2
theorem jt_zret (C : jm_Cx X k cc nL own Ts) {r : Int32} (hd : decode cc pc = .ok (.ireturn, 1)) (hQ : jm_Qi X k r M) (hr : (jx_me X).sig.returnType = some .boolean) (hz : r = 0 ∨ r = 1) : jm_T X R k nL M pc lv [.int r] := fun H locs ls hP hS hl => by
  rw [hQ.1]
  exact W.zret (v := r) (ty := .boolean) C.1 C.2.1 hr (by rcases hz with rfl | rfl <;> rfl) (fun t ht hW => ⟨⟨r, (), rfl, rfl, by rw [ht]; exact hP, va_K.moved hW.alike C.2.2.2.2.2.1⟩, hS.F ht⟩) hS.2.2 hd hQ.2
theorem jt_vret (C : jm_Cx X k cc nL own Ts) (hd : decode cc pc = .ok (.return_, 1)) (hQ : jm_Qv X k M) (hr : (jx_me X).sig.returnType = none) : jm_T X R k nL M pc lv [] := fun H locs ls hP hS hl => by
  rw [hQ.1]
  exact W.vret C.1 C.2.1 hr (fun t ht hW => ⟨⟨(), rfl, trivial, by rw [ht]; exact hP, va_K.moved hW.alike C.2.2.2.2.2.1⟩, hS.F ht⟩) hS.2.2 hd hQ.2
theorem jm_A_in (C : jm_Cx X k cc nL own Ts) {H : Heap} {locs : List Loc} (hS : va_S (jx_A X) (jx_s X).heap H locs) : ∀ q, jm_A k H.size q → jx_A X q := by
  intro q hq
  rcases hq with ⟨i, hi, rfl⟩ | hq
  · exact ((C.2.2.2.2.2.2.1 (fun _ _ => 0, fun _ _ => 0)).2 i _ (jm_w_at hi))
  · exact C.2.2.2.2.2.2.2.1 q (Nat.le_trans hS.1 hq)
theorem jm_inj_of (C : jm_Cx X k cc nL own Ts) : jm_inj k := fun i j hi hj e => (C.2.2.2.2.2.2.1 (fun _ _ => 0, fun _ _ => 0)).1 i j _ _ (jm_w_at hi) (jm_w_at hj) e
theorem jm_st_at (C : jm_Cx X k cc nL own Ts) {H : Heap} {locs : List Loc} (hS : va_S (jx_A X) (jx_s X).heap H locs) {U : State} (hU : U.heap = H) (hvm : (jx_s X).vm.Alike U.vm) : jm_st k (jm_A k H.size) U U.heap := by
  obtain ⟨h1, h2⟩ := C.2.2.2.2.2.2.2.2
  rw [hU]
  exact ⟨((h1.kept hS.2.1).moved hvm).narrow (jm_A_in C hS), ((h2.kept hS.2.1).moved hvm).narrow (jm_A_in C hS)⟩
theorem jm_blind {k : jm_C} {vals : List Value} {M : jm_M} {sz : Nat} : FrameBlind (jm_Pc k vals M sz) := fun a U g mk q => by
  obtain ⟨q0, q1, qP, qK, qJ, qZ⟩ := q
  exact ⟨q0, q1, qP, va_K.moved (u := U) (U := U.calling g mk a) (Vm.Alike.refl U.vm) qK, qJ, ⟨qZ.1.moved (u := U) (U := U.calling g mk a) (Vm.Alike.refl U.vm), qZ.2.moved (u := U) (U := U.calling g mk a) (Vm.Alike.refl U.vm)⟩⟩
theorem jm_pre (C : jm_Cx X k cc nL own Ts) {H : Heap} {locs : List Loc} (hP : va_P k.1 vwCl (jm_w k M) H) (hS : va_S (jx_A X) (jx_s X).heap H locs) {vals : List Value} : ∀ U : State, U.heap = H → (jx_s X).WarmedH U.vm → jm_Pc k vals M H.size vals.toArray U := fun U hU hW =>
  ⟨rfl, by rw [hU], by rw [hU]; exact hP, va_K.moved hW.alike C.2.2.2.2.2.1, jm_inj_of C, jm_st_at C hS hU hW.alike⟩
theorem jt_callVi (C : jm_Cx X k cc nL own Ts) {index n maxL : Nat} {y : MethodName} {ws ws' : List Cond} {rm : Room} {bytes : ByteArray} {ret : Option FieldType} {As rest st0 : List Value} {r : Int32} {M' : jm_M} {b c : Nat} {Cn : String} {Tf : u_T} {N : Nat} (hi : jm_is b (3, c)) (hc : vwCl[c]? = some (Cn, Tf, N)) (hd : decode cc pc = .ok (.invokevirtual index, 3)) (hM : jm_Ci (jx_l X) k y ws rm (.ref (jm_ad k b) :: As) M r M') (hG : GoodIn Ts (wsV own index Cn y ws)) (hw : ws = Cond.code y bytes maxL ret :: ws') (hdd : y.cls = Cn ∧ y.cls ≠ "java/lang/invoke/MethodHandle" ∧ y.cls ≠ "java/lang/invoke/VarHandle" ∧ (parseMethodDescriptor y.desc).map (fun d => d.parameters.length) = some n) (hrm : rm.cells = 0 ∧ rm.slots = 0 ∧ rm.frames + 1 ≤ R.frames ∧ 8 + (maxL + 11) + rm.locals ≤ R.locals) (hn : As.length = n) (hst : st0 = As.reverse ++ .ref (jm_ad k b) :: rest) (hro : (rest.map fun v => v.category).sum ≤ 8)
    (kk : jm_T X R k nL M' (pc + 3) lv (.int r :: rest)) : jm_T X R k nL M pc lv st0 := fun H locs ls hP hS hl => by
  subst hst
  refine va_calli (va_runV (As := As) (rest := rest) ⟨C.1, C.2.1, C.2.2.1, C.2.2.2.1, C.2.2.2.2.1⟩ (hM H.size) (cwV n C.2.2.2.2.1 hG hw hrm.1 hrm.2.1 hdd hrm.2.2) ⟨jm_blind, va_recv C.2.2.2.2.2.1 hP hc (jm_w_o hi), jm_pre C hP hS⟩ rfl hn hl.1 rfl (lv_room hro) hd ⟨Nat.zero_le _, Nat.zero_le _⟩) hS (fun q _ h => jm_A_in C hS q h) (jm_A_in C hS) (fun r1 u t H1 locs1 ht hvm hw1 hB hz1 hk1 hS1 => ?_)
  subst hw1
  exact kk H1 locs1 ls (by rw [← ht]; exact hB.1) hS1 hl
theorem jt_callVv (C : jm_Cx X k cc nL own Ts) {index n maxL : Nat} {y : MethodName} {ws ws' : List Cond} {rm : Room} {bytes : ByteArray} {ret : Option FieldType} {As rest st0 : List Value} {M' : jm_M} {b c : Nat} {Cn : String} {Tf : u_T} {N : Nat} (hi : jm_is b (3, c)) (hc : vwCl[c]? = some (Cn, Tf, N)) (hd : decode cc pc = .ok (.invokevirtual index, 3)) (hM : jm_Cv (jx_l X) k y ws rm (.ref (jm_ad k b) :: As) M M') (hG : GoodIn Ts (wsV own index Cn y ws)) (hw : ws = Cond.code y bytes maxL ret :: ws') (hdd : y.cls = Cn ∧ y.cls ≠ "java/lang/invoke/MethodHandle" ∧ y.cls ≠ "java/lang/invoke/VarHandle" ∧ (parseMethodDescriptor y.desc).map (fun d => d.parameters.length) = some n) (hrm : rm.cells = 0 ∧ rm.slots = 0 ∧ rm.frames + 1 ≤ R.frames ∧ 8 + (maxL + 11) + rm.locals ≤ R.locals) (hn : As.length = n) (hst : st0 = As.reverse ++ .ref (jm_ad k b) :: rest) (hro : (rest.map fun v => v.category).sum ≤ 8)
    (kk : jm_T X R k nL M' (pc + 3) lv rest) : jm_T X R k nL M pc lv st0 := fun H locs ls hP hS hl => by
  subst hst
  refine va_callv (va_runV (As := As) (rest := rest) ⟨C.1, C.2.1, C.2.2.1, C.2.2.2.1, C.2.2.2.2.1⟩ (hM H.size) (cwV n C.2.2.2.2.1 hG hw hrm.1 hrm.2.1 hdd hrm.2.2) ⟨jm_blind, va_recv C.2.2.2.2.2.1 hP hc (jm_w_o hi), jm_pre C hP hS⟩ rfl hn hl.1 rfl (lv_room hro) hd ⟨Nat.zero_le _, Nat.zero_le _⟩) hS (fun q _ h => jm_A_in C hS q h) (jm_A_in C hS) (fun u t H1 locs1 ht hvm hw1 hB hz1 hk1 hS1 => ?_)
  exact kk H1 locs1 ls (by rw [← ht]; exact hB.1) hS1 hl
theorem jt_callSi (C : jm_Cx X k cc nL own Ts) {index n maxL : Nat} {y : MethodName} {ws ws' : List Cond} {rm : Room} {bytes : ByteArray} {ret : Option FieldType} {As rest st0 : List Value} {r : Int32} {M' : jm_M} (hd : decode cc pc = .ok (.invokestatic index, 3)) (hM : jm_Ci (jx_l X) k y ws rm (As) M r M') (hG : GoodIn Ts (va_wsS own index y ws)) (hw : ws = Cond.code y bytes maxL ret :: ws') (hdd : y.cls ≠ "java/lang/invoke/MethodHandle" ∧ y.cls ≠ "java/lang/invoke/VarHandle" ∧ (parseMethodDescriptor y.desc).map (fun d => d.parameters.length) = some n) (hrm : rm.cells = 0 ∧ rm.slots = 0 ∧ rm.frames + 1 ≤ R.frames ∧ 8 + (maxL + 11) + rm.locals ≤ R.locals) (hn : As.length = n) (hst : st0 = As.reverse ++ rest) (hro : (rest.map fun v => v.category).sum ≤ 8)
    (kk : jm_T X R k nL M' (pc + 3) lv (.int r :: rest)) : jm_T X R k nL M pc lv st0 := fun H locs ls hP hS hl => by
  subst hst
  refine va_calli (va_runS (As := As) (rest := rest) ⟨C.1, C.2.1, C.2.2.1, C.2.2.2.1, C.2.2.2.2.1⟩ (hM H.size) (va_cwS n C.2.2.2.2.1 hG hw hrm.1 hrm.2.1 hdd hrm.2.2) ⟨jm_blind, jm_pre C hP hS⟩ rfl hn hl.1 rfl (lv_room hro) hd ⟨Nat.zero_le _, Nat.zero_le _⟩) hS (fun q _ h => jm_A_in C hS q h) (jm_A_in C hS) (fun r1 u t H1 locs1 ht hvm hw1 hB hz1 hk1 hS1 => ?_)
  subst hw1
  exact kk H1 locs1 ls (by rw [← ht]; exact hB.1) hS1 hl
theorem jt_callSv (C : jm_Cx X k cc nL own Ts) {index n maxL : Nat} {y : MethodName} {ws ws' : List Cond} {rm : Room} {bytes : ByteArray} {ret : Option FieldType} {As rest st0 : List Value} {M' : jm_M} (hd : decode cc pc = .ok (.invokestatic index, 3)) (hM : jm_Cv (jx_l X) k y ws rm (As) M M') (hG : GoodIn Ts (va_wsS own index y ws)) (hw : ws = Cond.code y bytes maxL ret :: ws') (hdd : y.cls ≠ "java/lang/invoke/MethodHandle" ∧ y.cls ≠ "java/lang/invoke/VarHandle" ∧ (parseMethodDescriptor y.desc).map (fun d => d.parameters.length) = some n) (hrm : rm.cells = 0 ∧ rm.slots = 0 ∧ rm.frames + 1 ≤ R.frames ∧ 8 + (maxL + 11) + rm.locals ≤ R.locals) (hn : As.length = n) (hst : st0 = As.reverse ++ rest) (hro : (rest.map fun v => v.category).sum ≤ 8)
    (kk : jm_T X R k nL M' (pc + 3) lv rest) : jm_T X R k nL M pc lv st0 := fun H locs ls hP hS hl => by
  subst hst
  refine va_callv (va_runS (As := As) (rest := rest) ⟨C.1, C.2.1, C.2.2.1, C.2.2.2.1, C.2.2.2.2.1⟩ (hM H.size) (va_cwS n C.2.2.2.2.1 hG hw hrm.1 hrm.2.1 hdd hrm.2.2) ⟨jm_blind, jm_pre C hP hS⟩ rfl hn hl.1 rfl (lv_room hro) hd ⟨Nat.zero_le _, Nat.zero_le _⟩) hS (fun q _ h => jm_A_in C hS q h) (jm_A_in C hS) (fun u t H1 locs1 ht hvm hw1 hB hz1 hk1 hS1 => ?_)
  exact kk H1 locs1 ls (by rw [← ht]; exact hB.1) hS1 hl
end JR
/-- a method's contract out of the walk of its body -/
theorem jm_entry_i {l : Launch} {k : jm_C} {y : MethodName} {ws ws' : List Cond} {rm : Room} {vals : List Value} {M M' : jm_M} {r : Int32} {cc : ByteArray} {nL : Nat} {ret : Option FieldType} (hy : plainName y.cls = true) (hw : ws = Cond.code y cc nL ret :: ws') (hlen : (lg_sl vals).length ≤ nL)
    (body : ∀ X : jm_X, jx_l X = l → jm_Cx X k cc nL y.cls ws → jm_Qi X k r M' → (jx_me X).sig.returnType = ret → jm_T X rm k nL M 0 (lv_args 0 vals) []) : jm_Ci l k y ws rm vals M r M' := by
  intro sz
  refine Met.ofW (cc := cc) (maxL := nL) (ret := ret) hy hw ?_
  intro p e s m args below meth c s₁ B hml hv
  obtain ⟨rfl, hsz, hP, hK, hJ, hZ⟩ := hv
  subst hsz
  have hl := lv_entry vals (n := nL) hlen
  rw [lg_entry_eq]
  generalize (lg_sl vals ++ List.replicate (nL - (lg_sl vals).length) Slot.unset).toArray = ls at hl ⊢
  exact body (p, l, e, s, m, vals.toArray, below, meth, c, MQ below (va_Qi (fun (r' : Int32) (_ : Unit) => r' = r) (fun _ t => jm_B k M' t) (jm_A k s.heap.size)) vals.toArray s 0 0 (jm_A k s.heap.size), jm_A k s.heap.size) rfl
    ⟨B.exec, B.bytes, hml, findClass_of_methodNamed B.named, atoms_spec (ws := ws) B.pre, hK, jm_D_of hJ (fun i hi => Or.inl ⟨i, hi, rfl⟩), fun q h => Or.inr h, hZ⟩ ⟨rfl, B.notSynchronized⟩ B.returns s.heap [] ls hP va_S.rf hl
theorem jm_entry_v {l : Launch} {k : jm_C} {y : MethodName} {ws ws' : List Cond} {rm : Room} {vals : List Value} {M M' : jm_M} {cc : ByteArray} {nL : Nat} {ret : Option FieldType} (hy : plainName y.cls = true) (hw : ws = Cond.code y cc nL ret :: ws') (hlen : (lg_sl vals).length ≤ nL)
    (body : ∀ X : jm_X, jx_l X = l → jm_Cx X k cc nL y.cls ws → jm_Qv X k M' → (jx_me X).sig.returnType = ret → jm_T X rm k nL M 0 (lv_args 0 vals) []) : jm_Cv l k y ws rm vals M M' := by
  intro sz
  refine Met.ofW (cc := cc) (maxL := nL) (ret := ret) hy hw ?_
  intro p e s m args below meth c s₁ B hml hv
  obtain ⟨rfl, hsz, hP, hK, hJ, hZ⟩ := hv
  subst hsz
  have hl := lv_entry vals (n := nL) hlen
  rw [lg_entry_eq]
  generalize (lg_sl vals ++ List.replicate (nL - (lg_sl vals).length) Slot.unset).toArray = ls at hl ⊢
  exact body (p, l, e, s, m, vals.toArray, below, meth, c, MQ below (va_Qv (fun (_ : Unit) => True) (fun _ t => jm_B k M' t) (jm_A k s.heap.size)) vals.toArray s 0 0 (jm_A k s.heap.size), jm_A k s.heap.size) rfl
    ⟨B.exec, B.bytes, hml, findClass_of_methodNamed B.named, atoms_spec (ws := ws) B.pre, hK, jm_D_of hJ (fun i hi => Or.inl ⟨i, hi, rfl⟩), fun q h => Or.inr h, hZ⟩ ⟨rfl, B.notSynchronized⟩ B.returns s.heap [] ls hP va_S.rf hl
