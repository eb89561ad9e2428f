/-! similar vertices: the class's answers, the reference's -/
def qs (n : Nat) (A : Nat → Nat → Bool) (u v : Nat) : Prop := ∃ q, qa n A q ∧ q u = v
theorem qs_refl (n : Nat) (A : Nat → Nat → Bool) (u : Nat) : qs n A u u := ⟨fun i => i, qa_id n A, rfl⟩
theorem qs_symm {n : Nat} {A : Nat → Nat → Bool} {u v : Nat} (hu : u < n) (h : qs n A u v) : qs n A v u := by
  obtain ⟨q, h1, e⟩ := h
  obtain ⟨r, h2, _, h3⟩ := qa_inv h1
  exact ⟨r, h2, by rw [← e]; exact h3 u hu⟩
theorem qs_trans {n : Nat} {A : Nat → Nat → Bool} {u v w : Nat} (h : qs n A u v) (h2 : qs n A v w) : qs n A u w := by
  obtain ⟨q, h1, rfl⟩ := h
  obtain ⟨r, h3, rfl⟩ := h2
  exact ⟨fun i => r (q i), qa_comp h3 h1, rfl⟩
theorem qs_lt {n : Nat} {A : Nat → Nat → Bool} {u v : Nat} (hu : u < n) (h : qs n A u v) : v < n := by
  obtain ⟨q, h1, rfl⟩ := h
  exact h1.1.1 u hu
noncomputable def sv (n : Nat) (A : Nat → Nat → Bool) (a w : Nat) : Bool := pd (w ≠ a ∧ qs n A a w)
noncomputable def srep (n : Nat) (A : Nat → Nat → Bool) (v : Nat) : Bool := pd (∀ u, u < v → ¬ qs n A u v)
theorem ni_andn {f h : Nat → Bool} {n : Nat} (hn : n ≤ 8) : nI (qg_mask f n) &&& (nI (qg_mask h n) ^^^ (-1 : Int32)) = nI (qg_mask (fun w => f w && !(h w)) n) := by
  rw [ni_m1, nx_xor, fa_and]
  congr 1
  apply Nat.eq_of_testBit_eq
  intro w
  rw [Nat.testBit_and, Nat.testBit_xor, qg_mask_bit, qg_mask_bit, qg_mask_bit, show (4294967295 : Nat) = 2 ^ 32 - 1 from rfl, Nat.testBit_two_pow_sub_one]
  by_cases hw : w < n
  · have hw32 : w < 32 := by omega
    simp [hw, hw32]
  · simp [hw]
theorem ni_full {n : Nat} (hn : n ≤ 8) : ((1 : Int32) <<< (nI n &&& 31)) - (1 : Int32) = nI (qg_mask (fun _ => true) n) := by
  rw [show (1 : Int32) = nI 1 from rfl, ni_shl 1 (by omega), Nat.one_shiftLeft, nI_sub (Nat.one_le_two_pow)]
  congr 1
  apply Nat.eq_of_testBit_eq
  intro w
  rw [Nat.testBit_two_pow_sub_one, qg_mask_bit, Bool.and_true]
theorem xs_sim {A : Nat → Nat → Bool} (hA : qg_ok A) {n a : Nat} (hn : n ≤ 8) (ha : a < n) {M : jm_M} (hg : gx M 1 n A) : ∃ M', xsJ M n A M' ∧ jp_E (fun f => X7_similarTo f 23 1 (nI a) M = some (nI (qg_mask (sv n A a) n), M')) := by
  have hz : qg_mask (fun w => decide (w < 0) && sv n A a w) n = 0 := by
    apply Nat.eq_of_testBit_eq
    intro w
    rw [qg_mask_bit]; simp
  have key := jp_L.forM (body := fun f => X7_similarTo_B5 f 23 1 (nI a)) (J := xsJ M n A) (fun v M1 => (nI (qg_mask (fun w => decide (w < v) && sv n A a w) n), nI v, M1)) (fun M1 => (nI (qg_mask (sv n A a) n), M1)) 0 n ?_ ?_ M (Nat.zero_le n) ⟨jp_eq.rfl', hg⟩
  · obtain ⟨M', h1, h2⟩ := key
    refine ⟨M', h1, h2.use.imp (fun f e => ?_)⟩
    rw [hz] at e
    unfold X7_similarTo
    rw [show ((0 : Int32), (0 : Int32), M) = (nI 0, nI 0, M) from rfl, e]; rfl
  · intro v M1 _ hv hJ
    have hkeep : sv n A a v = false → qg_mask (fun w => decide (w < v + 1) && sv n A a w) n = qg_mask (fun w => decide (w < v) && sv n A a w) n := fun hs => qg_mask_cong (fun u _ => by
      by_cases e : u = v
      · subst e; simp [hs]
      · have : decide (u < v + 1) = decide (u < v) := by congr 1; exact propext ⟨fun _ => by omega, fun _ => by omega⟩
        rw [this])
    by_cases e : v = a
    · subst e
      refine ⟨M1, hJ, jp_E.all (fun f => ?_)⟩
      unfold X7_similarTo_B5 X4_size
      dsimp only
      rw [hJ.2.1, if_neg (nI_ge hv (by omega)), if_pos rfl, nI_1, hkeep (pd_f.mpr (fun h => h.1 rfl))]
    · obtain ⟨r, M3, e1, e2, e3⟩ := xs_find hA hn ha hv (Nat.zero_le a) hJ.2
      refine ⟨M3, hJ.next e1, e2.imp (fun f e4 => ?_)⟩
      unfold X7_similarTo_B5 X4_size
      dsimp only
      rw [hJ.2.1, if_neg (nI_ge hv (by omega)), if_neg (fun q => e ((nI_eq (by omega) (by omega)).mp q)), show (0 : Int32) = nI 0 from rfl, e4, Option.bind_some]
      rcases e3 with ⟨rfl, q, h1, h2⟩ | ⟨rfl, h1⟩
      · have hs : sv n A a v = true := pd_t.mpr ⟨e, q, h1.1.1, h1.1.2.1⟩
        dsimp only
        rw [if_neg (show ¬ (1 : Int32) = nI 0 by decide), ni_setb hv hn, nI_1]
        congr 4
        refine qg_mask_cong (fun u _ => ?_)
        by_cases e5 : u = v
        · subst e5; simp [hs]
        · have : decide (u < v + 1) = decide (u < v) := by congr 1; exact propext ⟨fun _ => by omega, fun _ => by omega⟩
          rw [this]; simp [e5]
      · have hs : sv n A a v = false := pd_f.mpr (fun ⟨_, q, h2, h3⟩ => h1 ⟨q, h2, h3, fun i hi => by omega⟩)
        dsimp only
        rw [if_pos (show (0 : Int32) = nI 0 from rfl), nI_1, hkeep hs]
  · intro M1 hJ
    refine jp_E.all (fun f => ?_)
    unfold X7_similarTo_B5 X4_size
    dsimp only
    rw [hJ.2.1, if_pos (nI_le (Nat.le_refl n) (by omega))]
    congr 4
    exact qg_mask_cong (fun u hu => by simp [hu])
