/-! patterns: the class's sums over pairs -/
def qlk (A : Nat → Nat → Bool) (u v : Nat) : Int32 := if A u v then 1 else 0
theorem x6_common {M : jm_M} {g n u v : Nat} {A : Nat → Nat → Bool} (h : gx M g n A) (hn : n ≤ 8) (hu : u < n) (hv : v < n) : X6_common g (nI u) (nI v) M = some (nI (qg_mask (fun x => A u x && A v x) n)) := by
  unfold X6_common
  rw [gx_row h hn hu, Option.bind_some, gx_row h hn hv, Option.bind_some, fa_and, qg_mask_and]
theorem x6_squares {M : jm_M} {g n : Nat} {A : Nat → Nat → Bool} (h : gx M g n A) (hn : n ≤ 8) (hn1 : 1 ≤ n) : jp_E (fun f => X6_squares f g M = some (iD (fun u v => i2 (qcm A n u v)) n / 2)) := by
  have key := dbl (n := n) (F := fun u v => i2 (qcm A n u v)) (Bi := fun _ v => X6_squares_B14 g v M) (Bo := fun f => X6_squares_B4 f g M) ?_ ?_ ?_ ?_ 1 hn1
  · refine key.use.imp (fun f e => ?_)
    unfold X6_squares
    rw [show ((0 : Int32), (1 : Int32)) = (iD (fun u v => i2 (qcm A n u v)) 1, nI 1) from rfl, e]; rfl
  · intro u v hu hv acc
    refine jp_E.all (fun f => ?_)
    unfold X6_squares_B14 X6_pairs
    dsimp only
    rw [if_neg (nI_ge hu (by omega)), x6_common h hn (by omega) hv, Option.bind_some, ni_bcm _ (by omega), nI_1]; rfl
  · intro v hv acc f
    unfold X6_squares_B14
    dsimp only
    rw [if_pos (nI_le (Nat.le_refl v) (by omega))]
  · intro v hv acc f r e
    unfold X6_squares_B4 X4_size
    dsimp only
    rw [h.1, if_neg (nI_ge hv (by omega)), show jm_loop (X6_squares_B14 g (nI v) M) f (acc, 0) = _ from e, Option.bind_some, nI_1]
  · intro acc f
    unfold X6_squares_B4 X4_size
    dsimp only
    rw [h.1, if_pos (nI_le (Nat.le_refl n) (by omega))]
theorem x6_diamonds {M : jm_M} {g n : Nat} {A : Nat → Nat → Bool} (h : gx M g n A) (hn : n ≤ 8) (hn1 : 1 ≤ n) : jp_E (fun f => X6_diamonds f g M = some (iD (fun u v => qlk A u v * i2 (qcm A n u v)) n)) := by
  have key := dbl (n := n) (F := fun u v => qlk A u v * i2 (qcm A n u v)) (Bi := fun _ v => X6_diamonds_B14 g v M) (Bo := fun f => X6_diamonds_B4 f g M) ?_ ?_ ?_ ?_ 1 hn1
  · refine key.use.imp (fun f e => ?_)
    unfold X6_diamonds
    rw [show ((0 : Int32), (1 : Int32)) = (iD (fun u v => qlk A u v * i2 (qcm A n u v)) 1, nI 1) from rfl, e]; rfl
  · intro u v hu hv acc
    refine jp_E.all (fun f => ?_)
    unfold X6_diamonds_B14 X6_pairs
    dsimp only
    rw [if_neg (nI_ge hu (by omega)), gx_link h hn (by omega) hv, Option.bind_some, x6_common h hn (by omega) hv, Option.bind_some, ni_bcm _ (by omega), nI_1]; rfl
  · intro v hv acc f
    unfold X6_diamonds_B14
    dsimp only
    rw [if_pos (nI_le (Nat.le_refl v) (by omega))]
  · intro v hv acc f r e
    unfold X6_diamonds_B4 X4_size
    dsimp only
    rw [h.1, if_neg (nI_ge hv (by omega)), show jm_loop (X6_diamonds_B14 g (nI v) M) f (acc, 0) = _ from e, Option.bind_some, nI_1]
  · intro acc f
    unfold X6_diamonds_B4 X4_size
    dsimp only
    rw [h.1, if_pos (nI_le (Nat.le_refl n) (by omega))]
theorem x6_long {M : jm_M} {g n : Nat} {A : Nat → Nat → Bool} (h : gx M g n A) (hn : n ≤ 8) (hn1 : 1 ≤ n) : jp_E (fun f => X6_longPaths f g M = some (iD (fun u v => (qlk A u v * (qdg A n u - 1)) * (qdg A n v - 1)) n - 3 * (iS (fun v => qin A (A v) n) n / 3))) := by
  have key := dbl (n := n) (F := fun u v => (qlk A u v * (qdg A n u - 1)) * (qdg A n v - 1)) (Bi := fun _ v => X6_longPaths_B14 g v M) (Bo := fun f => X6_longPaths_B4 f g M) ?_ ?_ ?_ ?_ 1 hn1
  · refine jp_E.imp2 key.use (x6_triangles h hn) (fun f e e2 => ?_)
    unfold X6_longPaths
    rw [show ((0 : Int32), (1 : Int32)) = (iD (fun u v => (qlk A u v * (qdg A n u - 1)) * (qdg A n v - 1)) 1, nI 1) from rfl, e, Option.bind_some, e2]; rfl
  · intro u v hu hv acc
    refine jp_E.all (fun f => ?_)
    unfold X6_longPaths_B14
    dsimp only
    rw [if_neg (nI_ge hu (by omega)), gx_link h hn (by omega) hv, Option.bind_some, gx_degree h hn (by omega), Option.bind_some, gx_degree h hn hv, Option.bind_some, nI_1]; rfl
  · intro v hv acc f
    unfold X6_longPaths_B14
    dsimp only
    rw [if_pos (nI_le (Nat.le_refl v) (by omega))]
  · intro v hv acc f r e
    unfold X6_longPaths_B4 X4_size
    dsimp only
    rw [h.1, if_neg (nI_ge hv (by omega)), show jm_loop (X6_longPaths_B14 g (nI v) M) f (acc, 0) = _ from e, Option.bind_some, nI_1]
  · intro acc f
    unfold X6_longPaths_B4 X4_size
    dsimp only
    rw [h.1, if_pos (nI_le (Nat.le_refl n) (by omega))]
theorem x6_tetra {M : jm_M} {g n : Nat} {A : Nat → Nat → Bool} (h : gx M g n A) (hn : n ≤ 8) (hn1 : 1 ≤ n) : jp_E (fun f => X6_tetrahedra f g M = some (iD (fun u v => qlk A u v * qin A (fun x => A u x && A v x) n) n / 6)) := by
  have key := dbl (n := n) (F := fun u v => qlk A u v * qin A (fun x => A u x && A v x) n) (Bi := fun f v => X6_tetrahedra_B14 f g v M) (Bo := fun f => X6_tetrahedra_B4 f g M) ?_ ?_ ?_ ?_ 1 hn1
  · refine key.use.imp (fun f e => ?_)
    unfold X6_tetrahedra
    rw [show ((0 : Int32), (1 : Int32)) = (iD (fun u v => qlk A u v * qin A (fun x => A u x && A v x) n) 1, nI 1) from rfl, e]; rfl
  · intro u v hu hv acc
    refine (gx_within h hn (fun x => A u x && A v x)).imp (fun f e => ?_)
    unfold X6_tetrahedra_B14
    dsimp only
    rw [if_neg (nI_ge hu (by omega)), gx_link h hn (by omega) hv, Option.bind_some, x6_common h hn (by omega) hv, Option.bind_some, e, Option.bind_some, nI_1]; rfl
  · intro v hv acc f
    unfold X6_tetrahedra_B14
    dsimp only
    rw [if_pos (nI_le (Nat.le_refl v) (by omega))]
  · intro v hv acc f r e
    unfold X6_tetrahedra_B4 X4_size
    dsimp only
    rw [h.1, if_neg (nI_ge hv (by omega)), show jm_loop (X6_tetrahedra_B14 f g (nI v) M) f (acc, 0) = _ from e, Option.bind_some, nI_1]
  · intro acc f
    unfold X6_tetrahedra_B4 X4_size
    dsimp only
    rw [h.1, if_pos (nI_le (Nat.le_refl n) (by omega))]
/-- the number of copies of pattern p -/
def s_cp (A : Nat → Nat → Bool) (n p : Nat) : Int32 :=
  if p = 0 then nI (qE A n) else if p = 1 then iS (fun v => i2 (qdg A n v)) n else if p = 2 then iS (fun v => qin A (A v) n) n / 3 else if p = 3 then iS (fun v => (i2 (qdg A n v) * (qdg A n v - 2)) / 3) n else if p = 4 then iD (fun u v => (qlk A u v * (qdg A n u - 1)) * (qdg A n v - 1)) n - 3 * (iS (fun v => qin A (A v) n) n / 3) else if p = 5 then iD (fun u v => i2 (qcm A n u v)) n / 2 else if p = 6 then iS (fun v => qin A (A v) n * (qdg A n v - 2)) n else if p = 7 then iD (fun u v => qlk A u v * i2 (qcm A n u v)) n else iD (fun u v => qlk A u v * qin A (fun x => A u x && A v x) n) n / 6
theorem x6_count {M : jm_M} {g n p : Nat} {A : Nat → Nat → Bool} (h : gx M g n A) (hA : qg_ok A) (hn : n ≤ 8) (hn1 : 1 ≤ n) (hp : p < 9) : jp_E (fun f => X6_count f g (nI p) M = some (s_cp A n p)) := by
  have hne : ∀ q, q < 9 → p ≠ q → ¬ nI p = nI q := fun q hq e e2 => e ((nI_eq (by omega) (by omega)).mp e2)
  unfold X6_count s_cp
  by_cases h0 : p = 0
  · subst h0; exact (gx_edges' h hA hn).imp (fun f e => by rw [if_pos (show nI 0 = (0 : Int32) from rfl), e]; rfl)
  by_cases h1 : p = 1
  · subst h1; exact (x6_cherries h hn).imp (fun f e => by rw [if_neg (show ¬ nI 1 = (0 : Int32) by decide), if_pos rfl, e]; rfl)
  by_cases h2 : p = 2
  · subst h2; exact (x6_triangles h hn).imp (fun f e => by rw [if_neg (show ¬ nI 2 = (0 : Int32) by decide), if_neg (show ¬ nI 2 = (1 : Int32) by decide), if_pos rfl, e]; rfl)
  by_cases h3 : p = 3
  · subst h3; exact (x6_claws h hn).imp (fun f e => by rw [if_neg (show ¬ nI 3 = (0 : Int32) by decide), if_neg (show ¬ nI 3 = (1 : Int32) by decide), if_neg (show ¬ nI 3 = (2 : Int32) by decide), if_pos rfl, e]; rfl)
  by_cases h4 : p = 4
  · subst h4; exact (x6_long h hn hn1).imp (fun f e => by rw [if_neg (show ¬ nI 4 = (0 : Int32) by decide), if_neg (show ¬ nI 4 = (1 : Int32) by decide), if_neg (show ¬ nI 4 = (2 : Int32) by decide), if_neg (show ¬ nI 4 = (3 : Int32) by decide), if_pos rfl, e]; rfl)
  by_cases h5 : p = 5
  · subst h5; exact (x6_squares h hn hn1).imp (fun f e => by rw [if_neg (show ¬ nI 5 = (0 : Int32) by decide), if_neg (show ¬ nI 5 = (1 : Int32) by decide), if_neg (show ¬ nI 5 = (2 : Int32) by decide), if_neg (show ¬ nI 5 = (3 : Int32) by decide), if_neg (show ¬ nI 5 = (4 : Int32) by decide), if_pos rfl, e]; rfl)
  by_cases h6 : p = 6
  · subst h6; exact (x6_paws h hn).imp (fun f e => by rw [if_neg (show ¬ nI 6 = (0 : Int32) by decide), if_neg (show ¬ nI 6 = (1 : Int32) by decide), if_neg (show ¬ nI 6 = (2 : Int32) by decide), if_neg (show ¬ nI 6 = (3 : Int32) by decide), if_neg (show ¬ nI 6 = (4 : Int32) by decide), if_neg (show ¬ nI 6 = (5 : Int32) by decide), if_pos rfl, e]; rfl)
  by_cases h7 : p = 7
  · subst h7; exact (x6_diamonds h hn hn1).imp (fun f e => by rw [if_neg (show ¬ nI 7 = (0 : Int32) by decide), if_neg (show ¬ nI 7 = (1 : Int32) by decide), if_neg (show ¬ nI 7 = (2 : Int32) by decide), if_neg (show ¬ nI 7 = (3 : Int32) by decide), if_neg (show ¬ nI 7 = (4 : Int32) by decide), if_neg (show ¬ nI 7 = (5 : Int32) by decide), if_neg (show ¬ nI 7 = (6 : Int32) by decide), if_pos rfl, e]; rfl)
  obtain rfl : p = 8 := by omega
  exact (x6_tetra h hn hn1).imp (fun f e => by rw [if_neg (show ¬ nI 8 = (0 : Int32) by decide), if_neg (show ¬ nI 8 = (1 : Int32) by decide), if_neg (show ¬ nI 8 = (2 : Int32) by decide), if_neg (show ¬ nI 8 = (3 : Int32) by decide), if_neg (show ¬ nI 8 = (4 : Int32) by decide), if_neg (show ¬ nI 8 = (5 : Int32) by decide), if_neg (show ¬ nI 8 = (6 : Int32) by decide), if_neg (show ¬ nI 8 = (7 : Int32) by decide), if_pos (show nI 8 = (8 : Int32) from rfl), e]; rfl)
