/-! the call on a vertex: the class -/
noncomputable def s_vx (n : Nat) (A : Nat → Nat → Bool) (v k : Nat) : Int32 :=
  if k = 0 then qdg A n v else if k = 1 then nI (qg_mask (A v) n) else if n = 1 then -9 else if k = 2 then nI (kc n A v) else if k = 3 then nI (qE A n) - qdg A n v else if k = 4 then nI (qg_mask (sv n A v) n) else nI (qg_mask (ps n A v) n)
theorem x8_vertex {A : Nat → Nat → Bool} (hA : qg_ok A) {n v k : Nat} (hn : n ≤ 8) (hv : v < n) (hk : k < 6) {M0 M : jm_M} (hJ : xkJ M0 n A M) : ∃ M', xkJ M0 n A M' ∧ jp_E (fun f => X8_vertex f 0 (nI v) (nI k) M = some (s_vx n A v k, M')) := by
  have h := hJ.2.1
  have hcom : ∀ f, X8_vertex f 0 (nI v) (nI k) M = (if nI k < (2 : Int32) then (if nI k = (0 : Int32) then ((X4_degree 1 (nI v) M).bind (fun x1 => some (x1, M))) else if nI k = (1 : Int32) then ((X4_row 1 (nI v) M).bind (fun x2 => some (x2, M))) else if nI k = (2 : Int32) then ((X8_cardCode f 0 (nI v) M).bind (fun x3 => some (x3.1, x3.2))) else if nI k = (3 : Int32) then ((X4_edges f 1 M).bind (fun x4 => (X4_degree 1 (nI v) M).bind (fun x5 => some ((x4 - x5), M)))) else if nI k = (4 : Int32) then ((X7_similarTo f 23 1 (nI v) M).bind (fun x6 => some (x6.1, x6.2))) else (X8_pseudoSimilarTo f 0 (nI v) M).bind (fun x7 => some (x7.1, x7.2))) else (if nI n = (1 : Int32) then (some ((-9 : Int32), M)) else (if nI k = (0 : Int32) then ((X4_degree 1 (nI v) M).bind (fun x8 => some (x8, M))) else if nI k = (1 : Int32) then ((X4_row 1 (nI v) M).bind (fun x9 => some (x9, M))) else if nI k = (2 : Int32) then ((X8_cardCode f 0 (nI v) M).bind (fun x10 => some (x10.1, x10.2))) else if nI k = (3 : Int32) then ((X4_edges f 1 M).bind (fun x11 => (X4_degree 1 (nI v) M).bind (fun x12 => some ((x11 - x12), M)))) else if nI k = (4 : Int32) then ((X7_similarTo f 23 1 (nI v) M).bind (fun x13 => some (x13.1, x13.2))) else (X8_pseudoSimilarTo f 0 (nI v) M).bind (fun x14 => some (x14.1, x14.2))))) := fun f => by
    unfold X8_vertex X4_size
    rw [show jm_rf 0 0 = 1 from rfl, show jm_rf 0 4 = 23 from rfl, gx_has h hn hv, if_neg (show ¬ (1 : Int32) = 0 by decide), if_neg (nI_pos (by omega)), if_pos (show nI k ≤ (5 : Int32) from nI_le (b := 5) (by omega) (by decide)), h.1]
  by_cases h0 : k = 0
  · subst h0
    refine ⟨M, hJ, jp_E.all (fun f => ?_)⟩
    rw [hcom, if_pos (by decide), if_pos (show nI 0 = (0 : Int32) from rfl), gx_degree h hn hv]; rfl
  by_cases h1 : k = 1
  · subst h1
    refine ⟨M, hJ, jp_E.all (fun f => ?_)⟩
    rw [hcom, if_pos (by decide), if_neg (by decide), if_pos (show nI 1 = (1 : Int32) from rfl), gx_row h hn hv]; rfl
  have hk2 : ¬ nI k < (2 : Int32) := nI_nlt (b := 2) (by omega) (by omega)
  by_cases hn1 : n = 1
  · refine ⟨M, hJ, jp_E.all (fun f => ?_)⟩
    unfold s_vx
    rw [hcom, if_neg hk2, if_pos ((ni_is1 hn).mpr hn1), if_neg h0, if_neg h1, if_pos hn1]
  have hn2 : ¬ nI n = (1 : Int32) := fun q => hn1 ((ni_is1 hn).mp q)
  unfold s_vx
  by_cases h2 : k = 2
  · subst h2
    obtain ⟨M', g1, g2⟩ := xk_card hA hn (by omega) hv hJ
    refine ⟨M', g1, g2.imp (fun f e => ?_)⟩
    rw [hcom, if_neg hk2, if_neg hn2, if_neg (by decide), if_neg (by decide), if_pos (show nI 2 = (2 : Int32) from rfl), e, if_neg h0, if_neg h1, if_neg hn1]; rfl
  by_cases h3 : k = 3
  · subst h3
    refine ⟨M, hJ, (gx_edges' h hA hn).imp (fun f e => ?_)⟩
    rw [hcom, if_neg hk2, if_neg hn2, if_neg (by decide), if_neg (by decide), if_neg (by decide), if_pos (show nI 3 = (3 : Int32) from rfl), e, Option.bind_some, gx_degree h hn hv, if_neg h0, if_neg h1, if_neg hn1]; rfl
  by_cases h4 : k = 4
  · subst h4
    obtain ⟨M', g1, g2⟩ := xs_sim hA hn hv h
    refine ⟨M', hJ.s g1.1, g2.imp (fun f e => ?_)⟩
    rw [hcom, if_neg hk2, if_neg hn2, if_neg (by decide), if_neg (by decide), if_neg (by decide), if_neg (by decide), if_pos (show nI 4 = (4 : Int32) from rfl), e, if_neg h0, if_neg h1, if_neg hn1]; rfl
  obtain rfl : k = 5 := by omega
  obtain ⟨M', g1, g2⟩ := xk_pseudo hA hn (by omega) hv hJ
  refine ⟨M', g1, g2.imp (fun f e => ?_)⟩
  rw [hcom, if_neg hk2, if_neg hn2, if_neg (by decide), if_neg (by decide), if_neg (by decide), if_neg (by decide), if_neg (by decide), e, if_neg h0, if_neg h1, if_neg hn1]; rfl
