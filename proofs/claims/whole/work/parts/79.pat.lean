/-! patterns: sums of ints, the class's side -/
def iS (f : Nat → Int32) : Nat → Int32
  | 0 => 0
  | k + 1 => iS f k + f k
def iD (F : Nat → Nat → Int32) (n : Nat) : Int32 := iS (fun v => iS (fun u => F u v) v) n
theorem iS_cong {f g : Nat → Int32} : ∀ {n : Nat}, (∀ k, k < n → f k = g k) → iS f n = iS g n
  | 0, _ => rfl
  | n + 1, h => by
    show iS f n + f n = iS g n + g n
    rw [iS_cong (n := n) (fun k hk => h k (by omega)), h n (by omega)]
theorem iD_cong {F G : Nat → Nat → Int32} {n : Nat} (h : ∀ u v, u < v → v < n → F u v = G u v) : iD F n = iD G n := iS_cong (fun v hv => iS_cong (fun u hu => h u v hu hv))
theorem iS_nat (f : Nat → Nat) : ∀ n, iS (fun v => nI (f v)) n = nI (fb_sm f n)
  | 0 => rfl
  | n + 1 => by
    show iS (fun v => nI (f v)) n + nI (f n) = _
    rw [iS_nat f n, nI_add]; rfl
theorem iD_nat (F : Nat → Nat → Nat) (n : Nat) : iD (fun u v => nI (F u v)) n = nI (fb_sm (fun v => fb_sm (fun u => F u v) v) n) := by
  rw [← iS_nat]
  exact iS_cong (fun v _ => iS_nat (fun u => F u v) v)
theorem dbl {Bi : Nat → Int32 → (Int32 × Int32) → Option ((Int32 × Int32) ⊕ Int32)} {Bo : Nat → (Int32 × Int32) → Option ((Int32 × Int32) ⊕ Int32)} {n : Nat} {F : Nat → Nat → Int32}
    (hi : ∀ u v, u < v → v < n → ∀ acc, jp_E (fun f => Bi f (nI v) (acc, nI u) = some (.inl (acc + F u v, nI (u + 1)))))
    (hd : ∀ v, v < n → ∀ acc f, Bi f (nI v) (acc, nI v) = some (.inr acc))
    (ho : ∀ v, v < n → ∀ acc f r, jm_loop (Bi f (nI v)) f (acc, 0) = some r → Bo f (acc, nI v) = some (.inl (r, nI (v + 1))))
    (he : ∀ acc f, Bo f (acc, nI n) = some (.inr acc)) : ∀ a, a ≤ n → jp_L Bo (iD F a, nI a) (iD F n) := by
  refine jp_L.for (body := Bo) (r := iD F n) (fun v => (iD F v, nI v)) n ?_ ?_
  · intro v hv
    have inner := jp_L.for (body := fun f => Bi f (nI v)) (r := iD F v + iS (fun u => F u v) v) (fun u => (iD F v + iS (fun u => F u v) u, nI u)) v ?_ ?_ 0 (Nat.zero_le v)
    · refine inner.use.imp (fun f e => ho v hv _ f _ ?_)
      rw [show iS (fun u => F u v) 0 = 0 from rfl, Int32.add_zero] at e
      exact e
    · intro u hu
      refine (hi u v hu hv (iD F v + iS (fun u => F u v) u)).imp (fun f e => ?_)
      rw [e, Int32.add_assoc]; rfl
    · exact jp_E.all (fun f => hd v hv _ f)
  · exact jp_E.all (fun f => he _ f)
def i2 (x : Int32) : Int32 := (x * (x - 1)) / 2
def qdg (A : Nat → Nat → Bool) (n v : Nat) : Int32 := nI (fb_ct (A v) n)
theorem x6_cherries {M : jm_M} {g n : Nat} {A : Nat → Nat → Bool} (h : gx M g n A) (hn : n ≤ 8) : jp_E (fun f => X6_cherries f g M = some (iS (fun v => i2 (qdg A n v)) n)) := by
  have key := jp_K.for (body := X6_cherries_B4 g M) (r := iS (fun v => i2 (qdg A n v)) n) (fun v => (iS (fun v => i2 (qdg A n v)) v, nI v)) n ?_ ?_ 0 (Nat.zero_le n)
  · refine jp_E.imp key (fun f e => ?_)
    unfold X6_cherries
    rw [show ((0 : Int32), (0 : Int32)) = (iS (fun v => i2 (qdg A n v)) 0, nI 0) from rfl, e]; rfl
  · intro v hv
    unfold X6_cherries_B4 X4_size X6_pairs
    dsimp only
    rw [h.1, if_neg (nI_ge hv (by omega)), gx_degree h hn hv, Option.bind_some, nI_1]; rfl
  · unfold X6_cherries_B4 X4_size
    dsimp only
    rw [h.1, if_pos (nI_le (Nat.le_refl n) (by omega))]
theorem x6_claws {M : jm_M} {g n : Nat} {A : Nat → Nat → Bool} (h : gx M g n A) (hn : n ≤ 8) : jp_E (fun f => X6_claws f g M = some (iS (fun v => (i2 (qdg A n v) * (qdg A n v - 2)) / 3) n)) := by
  have key := jp_K.for (body := X6_claws_B4 g M) (r := iS (fun v => (i2 (qdg A n v) * (qdg A n v - 2)) / 3) n) (fun v => (iS (fun v => (i2 (qdg A n v) * (qdg A n v - 2)) / 3) v, nI v)) n ?_ ?_ 0 (Nat.zero_le n)
  · refine jp_E.imp key (fun f e => ?_)
    unfold X6_claws
    rw [show ((0 : Int32), (0 : Int32)) = (iS (fun v => (i2 (qdg A n v) * (qdg A n v - 2)) / 3) 0, nI 0) from rfl, e]; rfl
  · intro v hv
    unfold X6_claws_B4 X4_size X6_pairs
    dsimp only
    rw [h.1, if_neg (nI_ge hv (by omega)), gx_degree h hn hv, Option.bind_some, Option.bind_some, nI_1]; rfl
  · unfold X6_claws_B4 X4_size
    dsimp only
    rw [h.1, if_pos (nI_le (Nat.le_refl n) (by omega))]
/-- edges within the neighbours of v, within the common neighbours of u and v -/
def qin (A : Nat → Nat → Bool) (S : Nat → Bool) (n : Nat) : Int32 := nI (fb_sm (qg_win A S n) n) / 2
def qcm (A : Nat → Nat → Bool) (n u v : Nat) : Int32 := nI (fb_ct (fun x => A u x && A v x) n)
theorem x6_triangles {M : jm_M} {g n : Nat} {A : Nat → Nat → Bool} (h : gx M g n A) (hn : n ≤ 8) : jp_E (fun f => X6_triangles f g M = some (iS (fun v => qin A (A v) n) n / 3)) := by
  have key := jp_L.for (body := fun f => X6_triangles_B4 f g M) (r := iS (fun v => qin A (A v) n) n) (fun v => (iS (fun v => qin A (A v) n) v, nI v)) n ?_ ?_ 0 (Nat.zero_le n)
  · refine key.use.imp (fun f e => ?_)
    unfold X6_triangles
    rw [show ((0 : Int32), (0 : Int32)) = (iS (fun v => qin A (A v) n) 0, nI 0) from rfl, e]; rfl
  · intro v hv
    refine (gx_within h hn (A v)).imp (fun f e => ?_)
    unfold X6_triangles_B4 X4_size
    dsimp only
    rw [h.1, if_neg (nI_ge hv (by omega)), gx_row h hn hv, Option.bind_some, e, Option.bind_some, nI_1]; rfl
  · refine jp_E.all (fun f => ?_)
    unfold X6_triangles_B4 X4_size
    dsimp only
    rw [h.1, if_pos (nI_le (Nat.le_refl n) (by omega))]
theorem x6_paws {M : jm_M} {g n : Nat} {A : Nat → Nat → Bool} (h : gx M g n A) (hn : n ≤ 8) : jp_E (fun f => X6_paws f g M = some (iS (fun v => qin A (A v) n * (qdg A n v - 2)) n)) := by
  have key := jp_L.for (body := fun f => X6_paws_B4 f g M) (r := iS (fun v => qin A (A v) n * (qdg A n v - 2)) n) (fun v => (iS (fun v => qin A (A v) n * (qdg A n v - 2)) v, nI v)) n ?_ ?_ 0 (Nat.zero_le n)
  · refine key.use.imp (fun f e => ?_)
    unfold X6_paws
    rw [show ((0 : Int32), (0 : Int32)) = (iS (fun v => qin A (A v) n * (qdg A n v - 2)) 0, nI 0) from rfl, e]; rfl
  · intro v hv
    refine (gx_within h hn (A v)).imp (fun f e => ?_)
    unfold X6_paws_B4 X4_size
    dsimp only
    rw [h.1, if_neg (nI_ge hv (by omega)), gx_row h hn hv, Option.bind_some, e, Option.bind_some, gx_degree h hn hv, Option.bind_some, nI_1]; rfl
  · refine jp_E.all (fun f => ?_)
    unfold X6_paws_B4 X4_size
    dsimp only
    rw [h.1, if_pos (nI_le (Nat.le_refl n) (by omega))]
