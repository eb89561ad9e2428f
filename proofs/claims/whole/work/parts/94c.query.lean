/-! QUESTIONS on the graph: told, vertex, image, copies -/
theorem XI.s {M M' : jm_M} {R : Nat → Nat} {H : Nat → Nat → Nat} {k : Nat} (h : XI M R H k) (e : jp_eq [23, 24] M M') : XI M' R H k := h.of e (by decide) (h.2.2.2.2.keep (e 21 (by decide)).1 (e 22 (by decide)).1)
theorem MI.q {M M' : jm_M} {R : Nat → Nat} {H : Nat → Nat → Nat} {k : Nat} (h : MI M R H k) (e : mkE M M') : MI M' R H k := h.keep (e.1 40 (by decide)).1 (e.1 41 (by decide)).1 (e.1 49 (by decide)).1 (e.1 50 (by decide)).1 e.2
theorem mkE.f {M M' : jm_M} (e : mkE M M') : fM M M' := fM.of e.1 (by decide)
theorem mkE.o {M M' : jm_M} (e : jp_eq [39, 45, 46] M M') (e2 : ∀ i, i ≠ 8 → M'.1 39 i = M.1 39 i) : mkE M M' := ⟨e.sub (by simp), e2⟩
theorem mkE.c {M M' : jm_M} (e : jp_eq [42, 43, 44, 47] M M') : mkE M M' := ⟨e.sub (by simp), fun i _ => by rw [(e 39 (by decide)).1]⟩
theorem XI.J {M : jm_M} {R : Nat → Nat} {H : Nat → Nat → Nat} {k : Nat} (h : XI M R H k) : xkJ M (R 0) (qg_ad (R 0) (R 1)) M := ⟨jp_eq.rfl', h.2.2.1.1, h.2.2.2.2⟩
theorem XI.ofJ {M M' : jm_M} {R : Nat → Nat} {H : Nat → Nat → Nat} {k n : Nat} {A : Nat → Nat → Bool} (h : XI M R H k) (e : xkJ M n A M') : XI M' R H k := h.of e.1 (by decide) e.2.2
/-! different cards -/
def nfr (f : Nat → Nat) (v : Nat) : Bool := decide (fb_ct (fun u => decide (f u = f v)) v = 0)
theorem nfr_t {f : Nat → Nat} {v : Nat} : nfr f v = true ↔ ∀ u, u < v → f u ≠ f v := by
  unfold nfr
  rw [decide_eq_true_eq, fb_ct_zero]
  exact ⟨fun h u hu => of_decide_eq_false (h u hu), fun h u hu => decide_eq_false (h u hu)⟩
theorem dnd_nfr {D : Nat → Nat} {m : Nat} (hs : dso D m) : fb_ct (dnd D) m = fb_ct (nfr D) m := fb_ct_cong (fun i hi => by
  rw [Bool.eq_iff_iff, nfr_t]
  unfold dnd
  rw [Bool.or_eq_true, decide_eq_true_eq, decide_eq_true_eq]
  constructor
  · rintro (h | h) u hu e
    · omega
    · have h1 := hs u (i - 1) (by omega) (by omega)
      have h2 := hs (i - 1) i (by omega) hi
      exact h (by omega)
  · intro h
    by_cases c : i = 0
    · exact Or.inl c
    · exact Or.inr (fun e => h (i - 1) (by omega) e.symm))
def ndv (f : Nat → Nat) (k B : Nat) : Nat := fb_ct (fun x => decide (0 < fb_ct (fun i => decide (f i = x)) k)) B
theorem nfr_ndv {f : Nat → Nat} {B : Nat} : ∀ {k : Nat}, (∀ i, i < k → f i < B) → fb_ct (nfr f) k = ndv f k B
  | 0, _ => by
    unfold ndv
    symm
    exact fb_ct_zero.mpr (fun x _ => rfl)
  | k + 1, h => by
    rw [fb_ct_succ, nfr_ndv (k := k) (fun i hi => h i (by omega))]
    unfold ndv
    by_cases c : nfr f k = true
    · rw [if_pos c]
      have hz : fb_ct (fun i => decide (f i = f k)) k = 0 := fb_ct_zero.mpr (fun u hu => decide_eq_false (nfr_t.mp c u hu))
      have hu := fb_ct_upd (fun x => decide (0 < fb_ct (fun i => decide (f i = x)) k)) true (h k (by omega))
      have e1 : decide (0 < fb_ct (fun i => decide (f i = f k)) k) = false := decide_eq_false (by omega)
      simp only [e1, Bool.false_eq_true, if_false, if_true, Nat.add_zero] at hu
      have e2 : fb_ct (fun x => decide (0 < fb_ct (fun i => decide (f i = x)) (k + 1))) B = fb_ct (fun x => if x = f k then true else decide (0 < fb_ct (fun i => decide (f i = x)) k)) B := fb_ct_cong (fun x _ => by
        rw [fb_ct_succ]
        by_cases ex : x = f k
        · rw [if_pos ex, decide_eq_true ex.symm]; exact decide_eq_true (by simp)
        · rw [if_neg ex, decide_eq_false (show ¬ f k = x from fun q => ex q.symm)]; rfl)
      rw [e2]
      omega
    · rw [if_neg c]
      refine fb_ct_cong (fun x _ => ?_)
      rw [fb_ct_succ]
      by_cases ex : f k = x
      · have hp : 0 < fb_ct (fun i => decide (f i = x)) k := by
          rcases Nat.eq_zero_or_pos (fb_ct (fun i => decide (f i = x)) k) with q | q
          · exact absurd (decide_eq_true (by rw [ex]; exact q)) c
          · exact q
        rw [decide_eq_true hp]
        exact (decide_eq_true (by omega)).symm
      · rw [decide_eq_false ex]; rfl
theorem dnd_srt {f : Nat → Nat} {B k : Nat} (h : ∀ i, i < k → f i < B) : fb_ct (dnd (srt f k)) k = fb_ct (nfr f) k := by
  rw [dnd_nfr (srt_so f k), nfr_ndv (B := B) (srt_all (P := fun y => y < B) h), nfr_ndv h]
  unfold ndv
  exact fb_ct_cong (fun x _ => by rw [srt_ct (fun y => decide (y = x)) f k])
noncomputable def s_dc (n : Nat) (A : Nat → Nat → Bool) : Int32 := if n = 1 then 0 else nI (fb_ct (nfr (kc n A)) n)
theorem x8_dc {A : Nat → Nat → Bool} (hA : qg_ok A) {n : Nat} (hn : n ≤ 8) (hn1 : 1 ≤ n) {M : jm_M} (hg : gx M 1 n A) (hc : cxm M) : ∃ M', jp_eq (flE 37) M M' ∧ cxm M' ∧ jp_E (fun f => X8_differentCards f 0 M = some (s_dc n A, M')) := by
  unfold s_dc
  by_cases c : n = 1
  · refine ⟨M, jp_eq.rfl', hc, jp_E.all (fun f => ?_)⟩
    unfold X8_differentCards X4_size
    rw [show jm_rf 0 0 = 1 from rfl, hg.1, if_pos ((ni_is1 hn).mpr c), if_pos c]
  · obtain ⟨M', a1, a2, a3, a4, a5⟩ := x3_fill hA (g := 37) (gg := 1) hn (by omega) (by decide) hg hc
    refine ⟨M', a1, a2, jp_E.imp2 a5 (x3_diff a4 hn (srt_all (P := fun y => y < 2 ^ 28) (fun i _ => kc_lt (A := A) (v := i) hn))) (fun f e1 e2 => ?_)⟩
    unfold X8_differentCards X4_size
    rw [show jm_rf 0 0 = 1 from rfl, show jm_rf 0 7 = 37 from rfl, show jm_rf 0 3 = 15 from rfl, hg.1, if_neg (fun q => c ((ni_is1 hn).mp q)), e1, Option.bind_some, e2, if_neg c, dnd_srt (B := 2 ^ 28) (fun i _ => kc_lt (A := A) (v := i) hn)]
    rfl
theorem m_dc {n c : Nat} (hn : n ≤ 8) (hn1 : 1 ≤ n) (hc : c < 2 ^ 31) {M : jm_M} (h0 : M.1 40 0 = nI n) (h1 : M.1 40 1 = nI c) : ∃ M', mkE M M' ∧ jp_E (fun f => X9_differentCards f 39 M = some (s_dc n (qg_ad n c), M')) := by
  unfold s_dc
  by_cases cn1 : n = 1
  · refine ⟨M, mkE.rfl', jp_E.all (fun f => ?_)⟩
    unfold X9_differentCards
    rw [show jm_rf 39 0 = 40 from rfl, m_w0, h0, Option.bind_some, if_pos ((ni_is1 hn).mpr cn1), if_pos cn1]
  · obtain ⟨M', a1, a2, a3⟩ := m_cards hn (by omega) hc h0 h1
    have h0' : M'.1 40 0 = nI n := by rw [(a1 40 (by decide)).1, h0]
    generalize hfe : kc n (qg_ad n c) = f at a2
    have hf : ∀ v, M'.1 47 v = nI (f v) ∨ n ≤ v := fun v => by
      by_cases q : v < n
      · exact Or.inl (by rw [a2 v q, hfe])
      · exact Or.inr (by omega)
    have hfl : ∀ v, f v < 2 ^ 28 := fun v => by rw [← hfe]; exact kc_lt hn
    have hin : ∀ v, v < n → ∀ V, jp_K (X9_differentCards_B35 39 V (nI v) M') (1, 0) (if nfr f v then 1 else 0) := by
      intro v hv V
      refine jp_K.for (body := X9_differentCards_B35 39 V (nI v) M') (r := if nfr f v then 1 else 0) (fun u => (if fb_ct (fun w => decide (f w = f v)) u = 0 then 1 else 0, nI u)) v ?_ ?_ 0 (Nat.zero_le v)
      · intro u hu
        have r1 := (hf u).resolve_right (by omega)
        have r2 := (hf v).resolve_right (by omega)
        have b1 := hfl u
        have b2 := hfl v
        unfold X9_differentCards_B35
        dsimp only
        rw [if_neg (nI_ge hu (by omega)), show jm_rf 39 9 = 47 from rfl, jp_ga (by omega) (by decide), Option.bind_some, jp_ga (by omega) (by decide), Option.bind_some, r1, r2, fb_ct_succ, nI_1]
        by_cases e : f u = f v
        · rw [if_pos (by rw [e]), decide_eq_true e, if_neg (show ¬ (fb_ct (fun w => decide (f w = f v)) u + if true = true then 1 else 0) = 0 by simp), Int32.and_zero]
        · rw [if_neg (fun q => e ((nI_eq (by omega) (by omega)).mp q)), decide_eq_false e]
          by_cases z : fb_ct (fun w => decide (f w = f v)) u = 0
          · rw [if_pos z, if_pos (by rw [z]; rfl)]; rfl
          · rw [if_neg z, if_neg (by simpa using z)]; rfl
      · unfold X9_differentCards_B35
        dsimp only
        rw [if_pos (nI_le (Nat.le_refl v) (by omega))]
        unfold nfr
        by_cases z : fb_ct (fun w => decide (f w = f v)) v = 0
        · rw [if_pos z, decide_eq_true z]; rfl
        · rw [if_neg z, decide_eq_false z]; rfl
    have key := jp_L.for (body := fun g => X9_differentCards_B20 g 39 M') (r := nI (fb_ct (nfr f) n)) (fun v => (nI (fb_ct (nfr f) v), nI v)) n ?_ ?_ 0 (Nat.zero_le n)
    · refine ⟨M', mkE.c a1, jp_E.imp2 a3 key.use (fun g e1 e2 => ?_)⟩
      unfold X9_differentCards
      rw [show jm_rf 39 0 = 40 from rfl, m_w0, h0, Option.bind_some, if_neg (fun q => cn1 ((ni_is1 hn).mp q)), e1, Option.bind_some, show ((0 : Int32), (0 : Int32)) = (nI (fb_ct (nfr f) 0), nI 0) from rfl, e2, if_neg cn1]; rfl
    · intro v hv
      refine jp_E.imp (hin v hv (nI (fb_ct (nfr f) v))) (fun g e => ?_)
      unfold X9_differentCards_B20
      dsimp only
      rw [show jm_rf 39 0 = 40 from rfl, m_w0, h0', Option.bind_some, if_neg (nI_ge hv (by omega)), e, Option.bind_some, fb_ct_succ]
      by_cases z : nfr f v = true
      · rw [if_pos z, if_neg (show ¬ (1 : Int32) = 0 by decide), nI_1, nI_1, if_pos z]
      · rw [if_neg z, if_pos rfl, Int32.add_zero, nI_1, if_neg z]; rfl
    · refine jp_E.all (fun g => ?_)
      unfold X9_differentCards_B20
      dsimp only
      rw [show jm_rf 39 0 = 40 from rfl, m_w0, h0', Option.bind_some, if_pos (nI_le (Nat.le_refl n) (by omega))]
