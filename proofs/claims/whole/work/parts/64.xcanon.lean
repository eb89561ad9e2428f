/-! THE CLASS's canonical code: prepare, bestCode, of, with what it remembers -/
theorem cx_best {M : jm_M} {n : Nat} {B : Nat → Nat} (hn : n ≤ 8) (hn1 : 1 ≤ n) (hM : M.1 16 1 = nI n) (hb : cxb M B) (hB : ∀ i, i < n → B i < 2 ^ i) : jp_E (fun f => X1_bestCode f 15 M = some (nI (qB B n))) := by
  have key := jp_K.for (body := X1_bestCode_B4 15 M) (r := nI (qB B n)) (fun v => (nI (qB B v), nI v)) n ?_ ?_ 1 hn1
  · refine jp_E.imp key (fun f e => ?_)
    unfold X1_bestCode
    have z : qB B 1 = 0 := by
      have := hB 0 hn1
      show 0 * 1 + B 0 = 0
      omega
    rw [z] at e
    rw [show ((0 : Int32), (1 : Int32)) = (nI 0, nI 1) from rfl, e]; rfl
  · intro v hv
    unfold X1_bestCode_B4 X4_size
    dsimp only
    rw [show jm_rf 15 0 = 16 from rfl, show jm_rf 15 3 = 20 from rfl, hM, if_neg (nI_ge hv (by omega)), jp_ga (by omega) (by decide), hb v (by omega), Option.bind_some, ni_shl _ (by omega), fa_or, nI_1]
    have e : (qB B v <<< v) ||| B v = qB B v * 2 ^ v + B v := by
      rw [Nat.shiftLeft_eq, Nat.mul_comm, Nat.two_pow_add_eq_or_of_lt (hB v hv)]
    rw [e]; rfl
  · unfold X1_bestCode_B4 X4_size
    dsimp only
    rw [show jm_rf 15 0 = 16 from rfl, hM, if_pos (nI_le (Nat.le_refl n) (by omega))]
/-! prepare -/
theorem qrow_lt {A : Nat → Nat → Bool} {n v : Nat} (hn : n ≤ 8) : qrow A n v < 256 := by
  unfold qrow
  split
  · exact Nat.lt_of_lt_of_le (qg_mask_lt _ _) (Nat.pow_le_pow_right (n := 2) (by decide) hn)
  · decide
theorem qrow_bit {A : Nat → Nat → Bool} {n v u : Nat} (hv : v < n) : (qrow A n v).testBit u = (decide (u < n) && A v u) := by
  unfold qrow; rw [if_pos hv, qg_mask_bit]
theorem gx_rowq {M : jm_M} {g n : Nat} {A : Nat → Nat → Bool} (h : gx M g n A) (hn : n ≤ 8) {v : Nat} (hv : v < 8) : X4_row g (nI v) M = some (nI (qrow A n v)) := by
  unfold qrow
  by_cases e : v < n
  · rw [if_pos e]; exact gx_row h hn e
  · rw [if_neg e]; exact gx_row_out h (by omega) (by omega)
theorem ql_put {a x u : Nat} {b : Bool} (ha : a < 256 ^ u) (hu : u < 8) : lN a ||| ((if b then (1 : Int32) else 0).toInt64 <<< (((8 : Int32) * nI u).toInt64 &&& 63)) = lN (a + b.toNat * 256 ^ u) := by
  have e1 : (if b then (1 : Int32) else 0).toInt64 = lN b.toNat := by cases b <;> rfl
  have hb := qg_tn b
  have e2 : (8 : Int32) * nI u = nI (8 * u) := by rw [show (8 : Int32) = nI 8 from rfl, nI_mul]
  have hp : 256 ^ u * 256 ≤ 256 ^ 8 := by rw [← Nat.pow_succ]; exact Nat.pow_le_pow_right (by decide) (by omega)
  have e3 : (256 : Nat) ^ 8 = 2 ^ 64 := by decide
  have e4 : (256 : Nat) ^ u = 2 ^ (8 * u) := by rw [Nat.pow_mul]
  have hb2 : b.toNat * 256 ^ u ≤ 256 ^ u := by
    have := Nat.mul_le_mul_right (256 ^ u) hb
    omega
  rw [e1, e2, wb_shl _ (by omega), ← e4, wb_or (by omega) (by omega)]
  congr 1
  rw [Nat.or_comm, Nat.mul_comm, e4]
  rw [e4] at ha
  rw [← Nat.two_pow_add_eq_or_of_lt ha, Nat.add_comm]
theorem ni_tw {A : Nat → Nat → Bool} {n u v : Nat} (hn : n ≤ 8) (hu : u < 8) (hv : v < 8) : (nI (qrow A n v) &&& ((((1 : Int32) <<< (nI u &&& 31)) ||| ((1 : Int32) <<< (nI v &&& 31))) ^^^ (-1 : Int32))) = (nI (qrow A n u) &&& ((((1 : Int32) <<< (nI u &&& 31)) ||| ((1 : Int32) <<< (nI v &&& 31))) ^^^ (-1 : Int32))) ↔ qtw A n u v = true := by
  have e : ((((1 : Int32) <<< (nI u &&& 31)) ||| ((1 : Int32) <<< (nI v &&& 31))) ^^^ (-1 : Int32)) = nI (qoth u v) := by
    rw [ni_m1, show (1 : Int32) = nI 1 from rfl, ni_shl 1 (by omega), ni_shl 1 (by omega), fa_or, nx_xor, Nat.one_shiftLeft, Nat.one_shiftLeft]
    rfl
  have h1 : qrow A n v &&& qoth u v < 2 ^ 31 := Nat.lt_of_le_of_lt Nat.and_le_left (Nat.lt_trans (qrow_lt hn) (by decide))
  have h2 : qrow A n u &&& qoth u v < 2 ^ 31 := Nat.lt_of_le_of_lt Nat.and_le_left (Nat.lt_trans (qrow_lt hn) (by decide))
  rw [e, fa_and, fa_and, nI_eq h1 h2]
  unfold qtw
  simp
theorem vp_us {f : Nat → Int64} {k : Nat} {x : Int64} : vp_updL f k x k = x := if_pos rfl
theorem vp_un {f : Nat → Int64} {k j : Nat} {x : Int64} (h : j ≠ k) : vp_updL f k x j = f j := if_neg h
/-- links and twins of v when u vertices are through -/
def qpm (M : jm_M) (A : Nat → Nat → Bool) (n v u : Nat) : jm_M := jm_put (jm_putL M 18 (vp_updL (M.2 18) v (lN (qk (fun w => ((qrow A n v).testBit w).toNat) u)))) 19 (upd (M.1 19) v (nI (qg_mask (fun w => decide (w < v) && qtw A n w v) u)))
theorem cx_prepI {M : jm_M} {A : Nat → Nat → Bool} {n v : Nat} (hn : n ≤ 8) (hg : gx M 16 n A) (hv : v < 8) : jp_K (X1_prepare_B49 15 (nI v) (nI (qrow A n v))) (0, qpm M A n v 0) (qpm M A n v 8) := by
  have key := jp_K.for (body := X1_prepare_B49 15 (nI v) (nI (qrow A n v))) (r := qpm M A n v 8) (fun u => (nI u, qpm M A n v u)) 8 ?_ ?_ 0 (Nat.zero_le 8)
  · rw [nI_0] at key; exact key
  · intro u hu
    have hg2 : gx (jm_putL (qpm M A n v u) 18 (vp_updL ((qpm M A n v u).2 18) v (lN (qk (fun w => ((qrow A n v).testBit w).toNat) (u + 1))))) 16 n A := by
      refine ⟨?_, fun w hw => ?_⟩
      · rw [jm_putL_1]; show (qpm M A n v u).1 16 1 = _; unfold qpm; rw [jm_put_ne _ _ (by decide)]; exact hg.1
      · rw [jm_putL_1]; show (qpm M A n v u).1 17 w = _; unfold qpm; rw [jm_put_ne _ _ (by decide)]; exact hg.2 w hw
    have h18 : (qpm M A n v u).2 18 v = lN (qk (fun w => ((qrow A n v).testBit w).toNat) u) := by
      unfold qpm; rw [jm_put_2, jm_putL_at, vp_us]
    have hk : qk (fun w => ((qrow A n v).testBit w).toNat) u < 256 ^ u := qk_lt (fun w _ => by have := qg_tn ((qrow A n v).testBit w); omega)
    unfold X1_prepare_B49
    dsimp only
    rw [if_neg (by rw [show (8 : Int32) = nI 8 from rfl]; exact nI_ge hu (by decide)), show jm_rf 15 1 = 18 from rfl, show jm_rf 15 2 = 19 from rfl, show jm_rf 15 0 = 16 from rfl, jp_gl (by omega) (by decide), h18, Option.bind_some, ni_bit (Nat.lt_trans (qrow_lt hn) (by decide)) (by omega), ql_put (x := 0) hk hu, jp_sl (by omega) (by decide), Option.bind_some]
    have ek : qk (fun w => ((qrow A n v).testBit w).toNat) u + ((qrow A n v).testBit u).toNat * 256 ^ u = qk (fun w => ((qrow A n v).testBit w).toNat) (u + 1) := rfl
    rw [ek, nI_1]
    have hm : ∀ b, (decide (u < v) && qtw A n u v) = b → jm_put (jm_putL (qpm M A n v u) 18 (vp_updL ((qpm M A n v u).2 18) v (lN (qk (fun w => ((qrow A n v).testBit w).toNat) (u + 1))))) 19 (upd ((qpm M A n v u).1 19) v (nI (qg_mask (fun w => decide (w < v) && qtw A n w v) u + b.toNat * 2 ^ u))) = qpm M A n v (u + 1) := by
      intro b hb
      unfold qpm
      rw [jm_put_2, jm_putL_at, jm_put_at, fa_upd_twice]
      have e9 : vp_updL (vp_updL (M.2 18) v (lN (qk (fun w => ((qrow A n v).testBit w).toNat) u))) v (lN (qk (fun w => ((qrow A n v).testBit w).toNat) (u + 1))) = vp_updL (M.2 18) v (lN (qk (fun w => ((qrow A n v).testBit w).toNat) (u + 1))) := by
        funext i
        by_cases e : i = v
        · subst e; rw [vp_us, vp_us]
        · rw [vp_un e, vp_un e, vp_un e]
      rw [e9]
      have e10 : ∀ (N : jm_M) (f g : Nat → Int64) (h h2 : Nat → Int32), jm_put (jm_putL (jm_put (jm_putL N 18 f) 19 h) 18 g) 19 h2 = jm_put (jm_putL N 18 g) 19 h2 := by
        intro N f g h h2
        unfold jm_put jm_putL
        congr 1
        · funext a; by_cases e : a = 19 <;> simp [e]
        · funext a; by_cases e : a = 18 <;> simp [e]
      rw [e10]
      congr 3
      show _ = qg_mask _ u + (decide (u < v) && qtw A n u v).toNat * 2 ^ u
      rw [hb]
    have h19 : (jm_putL (qpm M A n v u) 18 (vp_updL ((qpm M A n v u).2 18) v (lN (qk (fun w => ((qrow A n v).testBit w).toNat) (u + 1))))).1 19 = (qpm M A n v u).1 19 := rfl
    have h19v : (qpm M A n v u).1 19 v = nI (qg_mask (fun w => decide (w < v) && qtw A n w v) u) := by unfold qpm; rw [jm_put_at, pk_us]
    have hsame : ∀ b, b = false → jm_put (jm_putL (qpm M A n v u) 18 (vp_updL ((qpm M A n v u).2 18) v (lN (qk (fun w => ((qrow A n v).testBit w).toNat) (u + 1))))) 19 (upd ((qpm M A n v u).1 19) v (nI (qg_mask (fun w => decide (w < v) && qtw A n w v) u + b.toNat * 2 ^ u))) = jm_putL (qpm M A n v u) 18 (vp_updL ((qpm M A n v u).2 18) v (lN (qk (fun w => ((qrow A n v).testBit w).toNat) (u + 1)))) := by
      intro b hb
      subst hb
      have e0 : qg_mask (fun w => decide (w < v) && qtw A n w v) u + Bool.toNat false * 2 ^ u = qg_mask (fun w => decide (w < v) && qtw A n w v) u := by simp
      rw [e0, ← h19v, fa_upd_same rfl, ← h19, jm_put_self]
    by_cases hvu : v ≤ u
    · rw [if_pos (nI_le hvu (by omega))]
      have := hm false (by simp [show ¬ u < v by omega])
      rw [hsame false rfl] at this
      rw [this]
    · rw [if_neg (nI_ge (by omega) (by omega)), gx_rowq hg2 hn hu, Option.bind_some]
      by_cases ht : qtw A n u v = true
      · rw [if_pos ((ni_tw hn hu hv).mpr ht), h19, jp_ga (by omega) (by decide), h19v, Option.bind_some, jp_sa (by omega) (by decide), Option.bind_some, h19]
        have e2 : nI (qg_mask (fun w => decide (w < v) && qtw A n w v) u) ||| ((1 : Int32) <<< (nI u &&& 31)) = nI (qg_mask (fun w => decide (w < v) && qtw A n w v) u + true.toNat * 2 ^ u) := by
          rw [show (1 : Int32) = nI 1 from rfl, ni_shl 1 (by omega), fa_or, Nat.one_shiftLeft, show Bool.toNat true = 1 from rfl, Nat.one_mul, Nat.or_comm, Nat.add_comm]
          have := Nat.two_pow_add_eq_or_of_lt (qg_mask_lt (fun w => decide (w < v) && qtw A n w v) u) 1
          rw [Nat.mul_one] at this
          rw [this]
        rw [e2, hm true (by simp [ht, show u < v by omega])]
      · rw [if_neg (fun q => ht ((ni_tw hn hu hv).mp q))]
        have := hm false (by simp [ht])
        rw [hsame false rfl] at this
        rw [this]
  · unfold X1_prepare_B49
    dsimp only
    rw [if_pos (by decide)]
/-- links and twins of all vertices below j -/
def qpf (M : jm_M) (A : Nat → Nat → Bool) (n j : Nat) : jm_M := jm_put (jm_putL M 18 (fun v => if v < j then lN (qk (fun w => ((qrow A n v).testBit w).toNat) 8) else M.2 18 v)) 19 (fun v => if v < j then nI (qg_mask (fun w => decide (w < v) && qtw A n w v) 8) else M.1 19 v)
theorem qpf_step {M : jm_M} {A : Nat → Nat → Bool} {n j : Nat} : qpm (qpf M A n j) A n j 8 = qpf M A n (j + 1) := by
  unfold qpm qpf jm_put jm_putL
  congr 1
  · funext a
    by_cases e : a = 19
    · subst e
      simp only [if_true]
      funext v
      by_cases h : v = j
      · subst h; rw [pk_us, if_pos (by omega)]
      · rw [pk_un h]
        by_cases h2 : v < j
        · rw [if_pos h2, if_pos (by omega)]
        · rw [if_neg h2, if_neg (by omega)]
    · simp [e]
  · funext a
    by_cases e : a = 18
    · subst e
      simp only [if_true]
      funext v
      by_cases h : v = j
      · subst h; rw [vp_us, if_pos (by omega)]
      · rw [vp_un h]
        by_cases h2 : v < j
        · rw [if_pos h2, if_pos (by omega)]
        · rw [if_neg h2, if_neg (by omega)]
    · simp [e]
theorem qpf_0 {M : jm_M} {A : Nat → Nat → Bool} {n : Nat} : qpf M A n 0 = M := by
  unfold qpf jm_put jm_putL
  have e1 : (fun v => if v < 0 then lN (qk (fun w => ((qrow A n v).testBit w).toNat) 8) else M.2 18 v) = M.2 18 := by funext v; simp
  have e2 : (fun v => if v < 0 then nI (qg_mask (fun w => decide (w < v) && qtw A n w v) 8) else M.1 19 v) = M.1 19 := by funext v; simp
  rw [e1, e2]
  have e3 : (fun a => if a = 19 then M.1 19 else M.1 a) = M.1 := by funext a; by_cases e : a = 19 <;> simp [e]
  have e4 : (fun a => if a = 18 then M.2 18 else M.2 a) = M.2 := by funext a; by_cases e : a = 18 <;> simp [e]
  dsimp only
  rw [e3, e4]
theorem cx_prepare {M : jm_M} {n c : Nat} (hn : n ≤ 8) (hn1 : 1 ≤ n) (hc : c < 2 ^ 31) : ∃ M', cxf M' (qg_ad n c) n ∧ cxb M' (fun _ => 256) ∧ jp_eq [16, 17, 18, 19, 20] M M' ∧ jp_E (fun f => X1_prepare f 15 (nI n) (nI c) M = some M') := by
  have hL := xl_load (M := M) (g := 16) hn hn1 hc (by decide)
  have hg := xl_gx (M := M) (g := 16) (n := n) (c := c) (old := M.1 17) (by decide)
  rw [show jm_rf 16 0 = 17 from rfl] at hL hg
  have e1 : jp_eq [16, 17, 18, 19, 20] M (jm_put (jm_put M 16 (upd (M.1 16) 1 (nI n))) 17 (qg_ld n c 0 (M.1 17))) := (jp_eq.rfl'.put (by decide)).put (by decide)
  generalize jm_put (jm_put M 16 (upd (M.1 16) 1 (nI n))) 17 (qg_ld n c 0 (M.1 17)) = M1 at hL hg e1
  have hF := cx_forget (M := M1) (k := 0) (by decide)
  generalize eM2 : jm_put M1 20 (fun i => if 0 ≤ i ∧ i < 8 then 256 else M1.1 20 i) = M2 at hF
  have hg2 : gx M2 16 n (qg_ad n c) := by
    rw [← eM2]
    exact ⟨by rw [jm_put_ne _ _ (by decide)]; exact hg.1, fun v hv => by rw [jm_put_ne _ _ (by decide)]; exact hg.2 v hv⟩
  have key := jp_L.for (body := fun f => X1_prepare_B16 f 15) (r := qpf M2 (qg_ad n c) n 8) (fun j => (nI j, qpf M2 (qg_ad n c) n j)) 8 ?_ ?_ 0 (Nat.zero_le 8)
  · refine ⟨qpf M2 (qg_ad n c) n 8, ⟨?_, fun v hv => ?_, fun v hv => ?_⟩, fun i hi => ?_, ?_, jp_E.imp3 hL hF key.use (fun f a1 a2 a3 => ?_)⟩
    · unfold qpf; rw [jm_put_ne _ _ (by decide)]; exact hg2.1
    · unfold qpf; rw [jm_put_2, jm_putL_at, if_pos (by omega)]
      congr 1
      refine qk_cong (fun u _ => ?_)
      rw [qrow_bit hv]
      by_cases hu : u < n <;> simp [hu]
    · unfold qpf; rw [jm_put_at, if_pos (by omega)]
    · unfold qpf; rw [jm_put_ne _ _ (by decide), jm_putL_1, ← eM2, jm_put_at, if_pos ⟨Nat.zero_le _, hi⟩]; rfl
    · intro i hi
      have h1 := e1 i hi
      simp at hi
      unfold qpf
      rw [jm_put_ne _ _ (by omega), jm_putL_1, jm_put_2, ← eM2, jm_put_ne _ _ (by omega)]
      refine ⟨h1.1, ?_⟩
      show (jm_putL _ 18 _).2 i = _
      unfold jm_putL
      simp [show i ≠ 18 by omega]
      exact h1.2
    · unfold X1_prepare
      rw [show jm_rf 15 0 = 16 from rfl, a1, Option.bind_some]
      rw [nI_0] at a2
      rw [a2, Option.bind_some]
      rw [qpf_0, nI_0] at a3
      rw [a3]; rfl
  · intro v hv
    have hgv : gx (qpf M2 (qg_ad n c) n v) 16 n (qg_ad n c) := by
      unfold qpf
      exact ⟨by rw [jm_put_ne _ _ (by decide)]; exact hg2.1, fun w hw => by rw [jm_put_ne _ _ (by decide)]; exact hg2.2 w hw⟩
    refine jp_E.imp (cx_prepI (M := qpf M2 (qg_ad n c) n v) hn hgv hv) (fun f e => ?_)
    unfold X1_prepare_B16
    dsimp only
    have e0 : jm_put (jm_putL (qpf M2 (qg_ad n c) n v) 18 (vp_updL ((qpf M2 (qg_ad n c) n v).2 18) v 0)) 19 (upd ((jm_putL (qpf M2 (qg_ad n c) n v) 18 (vp_updL ((qpf M2 (qg_ad n c) n v).2 18) v 0)).1 19) v 0) = qpm (qpf M2 (qg_ad n c) n v) (qg_ad n c) n v 0 := rfl
    rw [if_neg (by rw [show (8 : Int32) = nI 8 from rfl]; exact nI_ge hv (by decide)), show jm_rf 15 0 = 16 from rfl, show jm_rf 15 1 = 18 from rfl, show jm_rf 15 2 = 19 from rfl, gx_rowq hgv hn hv, Option.bind_some, jp_sl (by omega) (by decide), Option.bind_some, jp_sa (by omega) (by decide), Option.bind_some, e0, e, Option.bind_some, qpf_step, nI_1]
  · refine jp_E.all (fun f => ?_)
    unfold X1_prepare_B16
    dsimp only
    rw [if_pos (by decide)]
/-! of -/
theorem ni_slot (x : Int32) : ∃ j, j < 2048 ∧ (x.toUInt32 >>> (((21 : Int32) : Int32).toUInt32 &&& Int32.toUInt32 31)).toInt32 = nI j := by
  refine ⟨x.toUInt32.toNat >>> 21, ?_, ?_⟩
  · rw [Nat.shiftRight_eq_div_pow]
    have := x.toUInt32.toNat_lt
    omega
  · apply Int32.toBitVec_inj.mp
    apply BitVec.eq_of_toNat_eq
    show (x.toUInt32 >>> (((21 : Int32)).toUInt32 &&& Int32.toUInt32 31)).toNat = (BitVec.ofNat 32 (x.toUInt32.toNat >>> 21)).toNat
    rw [UInt32.toNat_shiftRight, BitVec.toNat_ofNat]
    have h2 : (((21 : Int32)).toUInt32 &&& Int32.toUInt32 31).toNat % 32 = 21 := by decide
    rw [h2]
    have := x.toUInt32.toNat_lt
    rw [Nat.mod_eq_of_lt]
    rw [Nat.shiftRight_eq_div_pow]
    exact Nat.lt_of_le_of_lt (Nat.div_le_self _ _) this
/-- the name of a graph in the class's memory of codes -/
def cxn (n c : Nat) : Int32 := nI (n * 2 ^ 28 + c)
theorem cxn_eq {n c : Nat} (hc : c < 2 ^ 28) : ((nI n <<< ((28 : Int32) &&& 31)) ||| nI c) = cxn n c := by
  rw [show ((28 : Int32) &&& 31) = (nI 28 &&& 31) from rfl, ni_shl _ (by decide), fa_or, Nat.shiftLeft_eq, Nat.mul_comm, ← Nat.two_pow_add_eq_or_of_lt hc]
  unfold cxn
  rw [Nat.mul_comm]
theorem nI_inj32 {a b : Nat} (ha : a < 2 ^ 32) (hb : b < 2 ^ 32) (h : nI a = nI b) : a = b := by
  have := congrArg (fun x : Int32 => x.toBitVec.toNat) h
  have e : ∀ a, a < 2 ^ 32 → (nI a).toBitVec.toNat = a := fun a ha => by
    show (BitVec.ofNat 32 a).toNat = a
    rw [BitVec.toNat_ofNat, Nat.mod_eq_of_lt ha]
  rw [e a ha, e b hb] at this
  exact this
theorem cxn_inj {n c m d : Nat} (hn : n ≤ 8) (hm : m ≤ 8) (hc : c < 2 ^ 28) (hd : d < 2 ^ 28) (h : cxn n c = cxn m d) : n = m ∧ c = d := by
  have := nI_inj32 (by omega) (by omega) h
  omega
theorem cxn_0 {n c : Nat} (hn1 : 1 ≤ n) (hn : n ≤ 8) (hc : c < 2 ^ 28) : cxn n c ≠ 0 := fun h => by
  have := nI_inj32 (a := n * 2 ^ 28 + c) (b := 0) (by omega) (by omega) h
  omega
/-- what the class remembers is right -/
def cxm (M : jm_M) : Prop := ∀ j, j < 2048 → M.1 21 j = 0 ∨ ∃ n c, 1 ≤ n ∧ n ≤ 8 ∧ c < 2 ^ qg_tri n ∧ M.1 21 j = cxn n c ∧ M.1 22 j = nI (cn n (qg_ad n c))
theorem cxm.keep {M M' : jm_M} (h : cxm M) (h1 : M'.1 21 = M.1 21) (h2 : M'.1 22 = M.1 22) : cxm M' := fun j hj => by rw [h1, h2]; exact h j hj
theorem qt28 {n c : Nat} (hn : n ≤ 8) (hc : c < 2 ^ qg_tri n) : c < 2 ^ 28 := Nat.lt_of_lt_of_le hc (Nat.pow_le_pow_right (by decide) (qg_tri8 n (by omega)))
/-- the class's canonical code is the canonical code -/
theorem cx_of {M : jm_M} {n c : Nat} (hn : n ≤ 8) (hn1 : 1 ≤ n) (hc : c < 2 ^ qg_tri n) (hm : cxm M) : ∃ M', cxm M' ∧ jp_eq [16, 17, 18, 19, 20, 21, 22] M M' ∧ jp_E (fun f => X1_of f 15 (nI n) (nI c) M = some (nI (cn n (qg_ad n c)), M')) := by
  have hc28 := qt28 hn hc
  obtain ⟨j, hj, ej⟩ := ni_slot ((cxn n c) * (-1640531535 : Int32))
  have hA := qg_ad_ok n c
  by_cases hk : M.1 21 j = cxn n c
  · refine ⟨M, hm, jp_eq.rfl', jp_E.all (fun f => ?_)⟩
    unfold X1_of
    rw [cxn_eq hc28, ej, show jm_rf 15 4 = 21 from rfl, show jm_rf 15 5 = 22 from rfl, jp_ga hj (by decide), Option.bind_some, if_pos hk, jp_ga hj (by decide), Option.bind_some]
    rcases hm j hj with h | ⟨n', c', h1, h2, h3, h4, h5⟩
    · rw [hk] at h; exact absurd h (cxn_0 hn1 hn hc28)
    · rw [hk] at h4
      obtain ⟨rfl, rfl⟩ := cxn_inj hn h2 hc28 (qt28 h2 h3) h4
      rw [h5]
  · obtain ⟨M1, p1, p2, p3, p4⟩ := cx_prepare (M := M) hn hn1 (show c < 2 ^ 31 by omega)
    obtain ⟨B, M2, ⟨k1, k2, k3, k4⟩, hb2, e2, hE⟩ := cx_number hA hn n 0 12 (by omega) (by omega) (fun i => i) (fun _ => 256) M1 p1 p2 ⟨fun i hi => absurd hi (Nat.not_lt_zero i), fun i j hi => absurd hi (Nat.not_lt_zero i), fun i hi => absurd hi (Nat.not_lt_zero i), Or.inl (fun _ _ _ => rfl)⟩
    have hmin : cn n (qg_ad n c) = qB B n := by
      refine cn_eq ⟨?_, fun q hq => k4 q hq (fun i hi => absurd hi (Nat.not_lt_zero i))⟩
      obtain ⟨q, hq, hq2⟩ := k1
      exact ⟨q, hq, by rw [← qB_qc hA q n]; exact qB_cong hq2⟩
    have hM2 : M2.1 16 1 = nI n := by rw [(e2 16 (by decide)).1]; exact p1.1
    have e21 : M2.1 21 = M.1 21 := by rw [(e2 21 (by decide)).1, (p3 21 (by decide)).1]
    have e22 : M2.1 22 = M.1 22 := by rw [(e2 22 (by decide)).1, (p3 22 (by decide)).1]
    have hbc := cx_best (M := jm_put M2 21 (upd (M2.1 21) j (cxn n c))) hn hn1 (by rw [jm_put_ne _ _ (by decide)]; exact hM2) (fun i hi => by rw [jm_put_ne _ _ (by decide)]; exact hb2 i hi) (qkn_lt k1)
    refine ⟨jm_put (jm_put M2 21 (upd (M2.1 21) j (cxn n c))) 22 (upd (M2.1 22) j (nI (qB B n))), fun i hi => ?_, ?_, jp_E.imp3 p4 hE hbc (fun f a1 a2 a3 => ?_)⟩
    · rw [jm_put_ne _ _ (by decide), jm_put_at, jm_put_at]
      by_cases e : i = j
      · subst e; rw [pk_us, pk_us]
        exact Or.inr ⟨n, c, hn1, hn, hc, rfl, by rw [hmin]⟩
      · rw [pk_un e, pk_un e, e21, e22]; exact hm i hi
    · refine ((jp_eq.put (jp_eq.put (jp_eq.trans (p3.sub ?_) (e2.sub ?_)) (by decide)) (by decide)))
      · intro i hi; simp at hi ⊢; omega
      · intro i hi; simp at hi ⊢; omega
    · unfold X1_of X4_size
      have hz : ((1 : Int32) <<< (nI n &&& 31)) - 1 = nI (qg_mask (qfree (fun i => i) 0) n) := by
        have : ∀ n, n < 9 → ((1 : Int32) <<< (nI n &&& 31)) - 1 = nI (qg_mask (fun _ => true) n) := by decide +kernel
        exact this n (by omega)
      have hz2 : (0 : Int64) = lN (qk (qcols (qg_ad n c) n (fun i => i) 0) 8) := by
        have : qk (qcols (qg_ad n c) n (fun i => i) 0) 8 = qk (fun _ => 0) 8 := qk_cong (fun u _ => by unfold qcols; split <;> rfl)
        rw [this]; rfl
      rw [nI_0] at a2
      rw [cxn_eq hc28, ej, show jm_rf 15 0 = 16 from rfl, show jm_rf 15 4 = 21 from rfl, show jm_rf 15 5 = 22 from rfl, jp_ga hj (by decide), Option.bind_some, if_neg hk, a1, Option.bind_some, p1.1, hz, hz2, a2, Option.bind_some, jp_sa hj (by decide), Option.bind_some, a3, Option.bind_some, jp_sa hj (by decide), Option.bind_some, jm_put_at, jp_ga hj (by decide), Option.bind_some, pk_us, jm_put_ne _ _ (by decide), hmin]
