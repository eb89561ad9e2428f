/-! classes of similar vertices; the reference's orbits -/
noncomputable def sop (n : Nat) (A : Nat → Nat → Bool) (v w : Nat) : Bool := pd (∀ u, u < v → u < w → ¬ qs n A u w)
theorem sop_at (n : Nat) (A : Nat → Nat → Bool) (v : Nat) : sop n A v v = srep n A v := pd_cong ⟨fun h u hu => h u hu hu, fun h u hu _ => h u hu⟩
theorem sop_yes {n : Nat} {A : Nat → Nat → Bool} {v w : Nat} (hv : v < n) (h : srep n A v = true) : sop n A (v + 1) w = (sop n A v w && !(sv n A v w)) := by
  have hr := pd_t.mp h
  rw [Bool.eq_iff_iff, Bool.and_eq_true, Bool.not_eq_true']
  unfold sop sv
  rw [pd_t, pd_t, pd_f]
  constructor
  · intro h1
    refine ⟨fun u hu hw => h1 u (by omega) hw, fun ⟨h2, h3⟩ => ?_⟩
    by_cases e : v < w
    · exact h1 v (by omega) e h3
    · exact hr w (by omega) (qs_symm hv h3)
  · intro ⟨h1, h2⟩ u hu huw h3
    by_cases e : u = v
    · subst e; exact h2 ⟨by omega, h3⟩
    · exact h1 u (by omega) huw h3
theorem sop_no {n : Nat} {A : Nat → Nat → Bool} {v w : Nat} (h : srep n A v = false) : sop n A (v + 1) w = sop n A v w := by
  have hr := pd_f.mp h
  refine pd_cong ⟨fun h1 u hu => h1 u (by omega), fun h1 u hu huw h3 => ?_⟩
  by_cases e : u = v
  · subst e
    refine hr (fun x hx h4 => h1 x hx (by omega) (qs_trans h4 h3))
  · exact h1 u (by omega) huw h3
theorem xs_classes {A : Nat → Nat → Bool} (hA : qg_ok A) {n : Nat} (hn : n ≤ 8) {M : jm_M} (hg : gx M 1 n A) : ∃ M', xsJ M n A M' ∧ jp_E (fun f => X7_classes f 23 1 M = some (nI (fb_ct (srep n A) n), M')) := by
  have hz : qg_mask (sop n A 0) n = qg_mask (fun _ => true) n := qg_mask_cong (fun u _ => pd_t.mpr (fun x hx => by omega))
  have key := jp_L.forM (body := fun f => X7_classes_B14 f 23 1) (J := xsJ M n A) (fun v M1 => (nI (fb_ct (srep n A) v), nI (qg_mask (sop n A v) n), nI v, M1)) (fun M1 => (nI (fb_ct (srep n A) n), M1)) 0 n ?_ ?_ M (Nat.zero_le n) ⟨jp_eq.rfl', hg⟩
  · obtain ⟨M', h1, h2⟩ := key
    refine ⟨M', h1, h2.use.imp (fun f e => ?_)⟩
    rw [hz] at e
    unfold X7_classes X4_size
    rw [hg.1, ni_full hn, show ((0 : Int32), nI (qg_mask (fun _ => true) n), (0 : Int32), M) = (nI (fb_ct (srep n A) 0), nI (qg_mask (fun _ => true) n), nI 0, M) from rfl, e]; rfl
  · intro v M1 _ hv hJ
    have hb : (nI (qg_mask (sop n A v) n) >>> (nI v &&& 31)) &&& 1 = if srep n A v then (1 : Int32) else 0 := by
      rw [ni_bit (qg_mask_31 _ hn) (by omega), qg_mask_bit, decide_eq_true hv, Bool.true_and, sop_at]
    by_cases hs : srep n A v = true
    · obtain ⟨M2, h1, h2⟩ := xs_sim hA hn hv hJ.2
      refine ⟨M2, hJ.next h1.1, h2.imp (fun f e => ?_)⟩
      unfold X7_classes_B14 X4_size
      dsimp only
      rw [hJ.2.1, if_neg (nI_ge hv (by omega)), hb, hs, if_pos (if_pos rfl), e, Option.bind_some, ni_andn hn, nI_1, nI_1, fb_ct_succ, hs, if_pos rfl]
      congr 5
      exact qg_mask_cong (fun u _ => (sop_yes hv hs).symm)
    · have hs' : srep n A v = false := by cases h : srep n A v <;> simp_all
      refine ⟨M1, hJ, jp_E.all (fun f => ?_)⟩
      unfold X7_classes_B14 X4_size
      dsimp only
      rw [hJ.2.1, if_neg (nI_ge hv (by omega)), hb, hs', if_neg (by simp), nI_1, fb_ct_succ, hs', if_neg (by simp)]
      congr 5
      exact qg_mask_cong (fun u _ => (sop_no hs').symm)
  · intro M1 hJ
    refine jp_E.all (fun f => ?_)
    unfold X7_classes_B14 X4_size
    dsimp only
    rw [hJ.2.1, if_pos (nI_le (Nat.le_refl n) (by omega))]
