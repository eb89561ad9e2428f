/-- the word that arrays of arrays of this type stand in the tables -/
def va_AOA (ty : FieldType) (U : State) : Prop := (Cond.arrayOver (.array ty)).before #[] U = true
theorem va_AOA.use {ty : FieldType} {A : Array Value} {U : State} (h : va_AOA ty U) : (Cond.arrayOver (.array ty)).before A U = true := h
theorem va_AOA.moved {ty : FieldType} {u U : State} (hvm : u.vm.Alike U.vm) (h : va_AOA ty u) : va_AOA ty U := Jvm.Stand.arrayOver_alikeB hvm h
/-! ===== BEGIN new T[n][m]: the outer array a place, the inner ones among the pooled ===== -/
/-- f, but v at every address of l -/
def vr_up {α : Type} (f : Nat → α) (l : List Nat) (v : α) : Nat → α := fun a => if a ∈ l then v else f a
theorem vr_up_in {α : Type} {f : Nat → α} {l : List Nat} {v : α} {a : Nat} (h : a ∈ l) : vr_up f l v a = v := if_pos h
theorem vr_up_ne {α : Type} {f : Nat → α} {l : List Nat} {v : α} {a : Nat} (h : a ∉ l) : vr_up f l v a = f a := if_neg h
theorem vr_rows {L l : List Nat} {f : Nat → va_E} {e : va_E} (h : ∀ a, a ∈ l → a ∉ L) : va_pl L f ++ l.map (fun a => (a, e)) = va_pl (L ++ l) (vr_up f l e) := by
  unfold va_pl
  rw [List.map_append]
  congr 1
  · apply List.map_congr_left
    intro a ha
    rw [vr_up_ne (fun q => h a q ha)]
  · apply List.map_congr_left
    intro a ha
    rw [vr_up_in ha]
theorem vr_lay {X rows : va_W} {x : Nat × va_E} {pl : va_W} {D : va_G} {cl : List vw_C} {H : Heap} (hP : va_P D cl (((X ++ pl) ++ [x]) ++ rows) H) : va_P D cl ((X ++ [x]) ++ (pl ++ rows)) H := by
  rw [List.append_assoc (X ++ pl)] at hP
  have h := va_P.swap hP
  rw [← List.append_assoc X] at h
  have h2 := va_P.swap h
  rw [List.append_assoc (X ++ [x])] at h2
  exact h2
theorem vr_layD {X rows : va_W} {x : Nat × va_E} {pl : va_W} {A : Nat → Prop} (hD : va_D A (((X ++ pl) ++ [x]) ++ rows)) : va_D A ((X ++ [x]) ++ (pl ++ rows)) := by
  rw [List.append_assoc (X ++ pl)] at hD
  have h := va_D.swap hD
  rw [← List.append_assoc X] at h
  have h2 := va_D.swap h
  rw [List.append_assoc (X ++ [x])] at h2
  exact h2
theorem vr_outer (c : ClassId) (N h0 : Nat) : ∀ i : Nat, Jvm.Free.Multi.outerC c N h0 i = arrV c N (fun j => va_rf (if j < i then some (h0 + 1 + j) else none))
  | 0 => by
    show ({ cls := c, slots := Array.replicate N .null, vm := .none } : Cell) = _
    rw [arrV_new]
    refine congrArg (arrV c N) (funext fun j => ?_)
    simp [va_rf]
  | i + 1 => by
    show (Jvm.Free.Multi.outerC c N h0 i).setSlot i (.ref (h0 + 1 + i)) = _
    rw [vr_outer c N h0 i, arrV_store]
    refine congrArg (arrV c N) (funext fun j => ?_)
    by_cases e : j = i
    · subst e
      simp [updV, va_rf]
    · by_cases h : j < i
      · simp [updV, e, h, Nat.lt_succ_of_lt h]
      · simp [updV, e, h, show ¬ j < i + 1 by omega]
section VGM
variable {p : Program} {l : Launch} {e : Env} {R : Room} {s : State} {m : MethodId} {args : Array Value} {below : List Frame} {meth : Method} {c : Code} {H : Heap} {locs : List Loc} {cells slots : Nat} {Q : State → Prop}
variable {cc : ByteArray} {pc : Nat} {ls : Array Slot} {rest : List Value} {D : va_G} {cl : List vw_C} {A : Nat → Prop} {a : Nat} {tys : List (ClassId × FieldType)} {ws : va_W} {H0 : Heap}
theorem va_mna {X : va_W} {L : List Nat} {f : Nat → va_E} {cc : ByteArray} (hexec : p.tables.exec = Jvm.exec) (hb : c.code = cc) {own : String} {index : Nat} {ty : FieldType} {cy : ClassId} (hown : s.vm.findClass own = some m.cls) (hclink : (Cond.classLink own index ("[" ++ (FieldType.array ty).toString)).before args s = true) (hover : va_AOA ty s) (harr : (Cond.arrayClass ty).before args s = true) (hcy : s.vm.findClass (FieldType.array ty).toString = some cy)
    (hK : va_K D cl tys s) (hP : va_P D cl (X ++ va_pl L f) H) (hD : va_D A (X ++ va_pl L f)) (hS : va_S A H0 H locs) (hA : ∀ q, H0.size ≤ q → A q) {n k : Int32} {N' K' : Nat} {z : vp_A} (hn : ¬ n < 0) (hk : ¬ k < 0) (hN : n.toNatClampNeg = N') (hM : k.toNatClampNeg = K')
    (hb1 : N' * 4 ≤ 536870912) (hb2 : K' * componentBytes ty ≤ 536870912) (hb3 : K' ≤ 536870912) (hdf : fits ty (defaultValue ty) = true) (hdd : (defaultValue ty).isDefault = true) (hcells : cells + (1 + N') ≤ R.cells) (hslots : slots + (N' + N' * K') ≤ R.slots) (hz : ∀ c : ClassId, Jvm.Free.Multi.innerC c K' (defaultValue ty) = vp_cell c z) (hdg : decode cc pc = .ok (.multianewarray index 2, 4))
    (kk : ∀ (q : Nat) (r : Nat → Nat) (cA : ClassId) (H1 : Heap), (∀ i j : Nat, i < N' → j < N' → r i = r j → i = j) → (∀ i : Nat, i < N' → r i ∉ L) → va_K D cl (tys ++ [(cA, .array ty)]) s →
      va_P D cl ((X ++ [(q, .inl (cA, N', .inr (.inr (.inr (.inr (fun i => if i < N' then some (r i) else none))))))]) ++ va_pl (L ++ (List.range N').map r) (vr_up f ((List.range N').map r) (.inl (cy, z)))) H1 → va_D A ((X ++ [(q, .inl (cA, N', .inr (.inr (.inr (.inr (fun i => if i < N' then some (r i) else none))))))]) ++ va_pl (L ++ (List.range N').map r) (vr_up f ((List.range N').map r) (.inl (cy, z)))) → va_S A H0 H1 locs →
      W p l e R s m args below meth c H1 locs (cells + 1 + N') (slots + N' + N' * K') Q (F0 m (pc + 4) ls (.ref q :: rest))) : W p l e R s m args below meth c H locs cells slots Q (F0 m pc ls (.int k :: .int n :: rest)) := by
  subst hN
  subst hM
  intro T hT Xs
  obtain ⟨vm₁, cA, comp, -, fA, fC, hO, -, X', step⟩ := Xs.multianewarray2F hexec hown hclink (va_AOA.use hover) harr (g := F0 m pc ls (.int k :: .int n :: rest)) rfl (by rw [hb]; exact hdg) rfl hn hk hb1 hb2 hb3 hdf hdd hcells hslots
  have ec : some cy = some comp := hcy.symm.trans fC
  cases ec
  generalize hF : Jvm.Free.Multi.fill (T.setVm vm₁) cA cy n.toNatClampNeg k.toNatClampNeg (defaultValue ty) n.toNatClampNeg = F at X' step
  have hTh : (T.setVm vm₁).heap = H := hT
  obtain ⟨f1, f2, -, -⟩ := Jvm.Free.Multi.fill_facts (T.setVm vm₁) cA cy n.toNatClampNeg k.toNatClampNeg (defaultValue ty) n.toNatClampNeg
  rw [hF, hTh] at f1 f2
  have hold : ∀ x : Nat, x < H.size → F.heap[x]? = H[x]? := fun x hx => by
    have := Jvm.Free.Multi.fill_old (T.setVm vm₁) cA cy n.toNatClampNeg k.toNatClampNeg (defaultValue ty) (a := x) (by rw [hTh]; exact hx) n.toNatClampNeg
    rw [hF, hTh] at this
    exact this
  have hrow : ∀ j : Nat, j < n.toNatClampNeg → F.heap[H.size + 1 + j]? = some (vp_cell cy z) := fun j hj => by
    have := Jvm.Free.Multi.fill_inner (T.setVm vm₁) cA cy n.toNatClampNeg k.toNatClampNeg (defaultValue ty) n.toNatClampNeg j hj
    rw [hF, hTh, hz] at this
    exact this
  have hout : Jvm.Free.Multi.outerC cA n.toNatClampNeg H.size n.toNatClampNeg = vp_cell cA (n.toNatClampNeg, .inr (.inr (.inr (.inr (fun i => if i < n.toNatClampNeg then some (H.size + 1 + i) else none))))) := by
    rw [vp_cell_q]
    exact vr_outer cA n.toNatClampNeg H.size n.toNatClampNeg
  rw [hout] at f2
  have hlt : ∀ a, a ∈ L → a < H.size := fun a ha => by
    obtain ⟨k9, hk9⟩ := va_pl_get (X := X) (f := f) ha
    exact (hP k9 _ hk9).lt
  have hnl : ∀ i : Nat, i < n.toNatClampNeg → H.size + 1 + i ∉ L := fun i _ h => by
    have := hlt _ h
    omega
  have hnm : ∀ a, a ∈ (List.range n.toNatClampNeg).map (fun i => H.size + 1 + i) → a ∉ L := fun a ha h => by
    obtain ⟨i, -, rfl⟩ := List.mem_map.mp ha
    have := hlt _ h
    omega
  have hP0 : va_P D cl (X ++ va_pl L f) F.heap := hP.kept (fun k9 x hx => hold x.1 ((hP k9 x hx).lt))
  have hP1 : va_P D cl ((X ++ va_pl L f) ++ [(H.size, .inl (cA, n.toNatClampNeg, .inr (.inr (.inr (.inr (fun i => if i < n.toNatClampNeg then some (H.size + 1 + i) else none))))))]) F.heap := hP0.app (fun k9 x hx => by
    have h0 : k9 < 1 := (List.getElem?_eq_some_iff.mp hx).1
    rw [show k9 = 0 by omega] at hx
    cases hx
    exact f2)
  have hP2 : va_P D cl (((X ++ va_pl L f) ++ [(H.size, .inl (cA, n.toNatClampNeg, .inr (.inr (.inr (.inr (fun i => if i < n.toNatClampNeg then some (H.size + 1 + i) else none))))))]) ++ ((List.range n.toNatClampNeg).map (fun i => H.size + 1 + i)).map (fun a => (a, .inl (cy, z)))) F.heap := hP1.app (fun k9 x hx => by
    obtain ⟨a, ha, rfl⟩ := List.mem_map.mp (List.mem_of_getElem? hx)
    obtain ⟨i, hi, rfl⟩ := List.mem_map.mp ha
    exact hrow i (List.mem_range.mp hi))
  have hD2 : va_D A (((X ++ va_pl L f) ++ [(H.size, .inl (cA, n.toNatClampNeg, .inr (.inr (.inr (.inr (fun i => if i < n.toNatClampNeg then some (H.size + 1 + i) else none))))))]) ++ ((List.range n.toNatClampNeg).map (fun i => H.size + 1 + i)).map (fun a => (a, .inl (cy, z)))) := by
    have hD1 := hD.push (e := .inl (cA, n.toNatClampNeg, .inr (.inr (.inr (.inr (fun i => if i < n.toNatClampNeg then some (H.size + 1 + i) else none)))))) hP rfl (hA _ hS.1)
    generalize hW1 : (X ++ va_pl L f) ++ [(H.size, .inl (cA, n.toNatClampNeg, .inr (.inr (.inr (.inr (fun i => if i < n.toNatClampNeg then some (H.size + 1 + i) else none))))))] = W1 at hD1 hP1 ⊢
    have hle : ∀ (k9 : Nat) (x : Nat × va_E), W1[k9]? = some x → x.1 ≤ H.size := fun k9 x hx => by
      rw [← hW1] at hx
      by_cases hl : k9 < (X ++ va_pl L f).length
      · rw [List.getElem?_append_left hl] at hx
        exact Nat.le_of_lt ((hP k9 x hx).lt)
      · rw [List.getElem?_append_right (by omega)] at hx
        have h0 : k9 - (X ++ va_pl L f).length < 1 := (List.getElem?_eq_some_iff.mp hx).1
        rw [show k9 - (X ++ va_pl L f).length = 0 by omega] at hx
        cases hx
        exact Nat.le_refl _
    have hr : ∀ (k9 : Nat) (x : Nat × va_E), (((List.range n.toNatClampNeg).map (fun i => H.size + 1 + i)).map (fun a => ((a, .inl (cy, z)) : Nat × va_E)))[k9]? = some x → x.1 = H.size + 1 + k9 := fun k9 x hx => by
      rw [List.getElem?_map, List.getElem?_map] at hx
      by_cases h9 : k9 < n.toNatClampNeg
      · rw [List.getElem?_range h9] at hx
        cases hx
        rfl
      · have hn0 : (List.range n.toNatClampNeg)[k9]? = none := List.getElem?_eq_none (by rw [List.length_range]; omega)
        rw [hn0] at hx
        cases hx
    refine ⟨fun i j x y hi hj hxy => ?_, fun k9 x hx => ?_⟩
    · by_cases h1 : i < W1.length <;> by_cases h2 : j < W1.length
      · rw [List.getElem?_append_left h1] at hi
        rw [List.getElem?_append_left h2] at hj
        exact hD1.1 i j x y hi hj hxy
      · rw [List.getElem?_append_left h1] at hi
        rw [List.getElem?_append_right (by omega)] at hj
        have := hle _ _ hi
        have := hr _ _ hj
        omega
      · rw [List.getElem?_append_right (by omega)] at hi
        rw [List.getElem?_append_left h2] at hj
        have := hle _ _ hj
        have := hr _ _ hi
        omega
      · rw [List.getElem?_append_right (by omega)] at hi hj
        have := hr _ _ hi
        have := hr _ _ hj
        omega
    · by_cases h1 : k9 < W1.length
      · rw [List.getElem?_append_left h1] at hx
        exact hD1.2 k9 x hx
      · rw [List.getElem?_append_right (by omega)] at hx
        have := hr _ _ hx
        exact hA _ (by have := hS.1; omega)
  have hAr : ArrOfT s cA (.array ty) := fun N9 z9 => by
    obtain ⟨-, k9, hk9, cm9, hkk9⟩ := (hO 0 0 0).1
    exact ⟨(fun q hq => by cases hq), k9, hk9, cm9, hkk9⟩
  have hK2 : va_K D cl (tys ++ [(cA, .array ty)]) s := ⟨hK.1, fun k9 x hx => by
    by_cases hl : k9 < tys.length
    · rw [List.getElem?_append_left hl] at hx
      exact hK.2 k9 x hx
    · rw [List.getElem?_append_right (by omega)] at hx
      have h0 : k9 - tys.length < 1 := (List.getElem?_eq_some_iff.mp hx).1
      rw [show k9 - tys.length = 0 by omega] at hx
      cases hx
      exact ⟨hAr, fA⟩⟩
  obtain ⟨t, a1, b1⟩ := kk H.size (fun i => H.size + 1 + i) cA F.heap (fun i j _ _ h => by have h9 : H.size + 1 + i = H.size + 1 + j := h; omega) hnl hK2 (by rw [← vr_rows hnm]; exact vr_lay hP2) (by rw [← vr_rows hnm]; exact vr_layD hD2) ⟨by rw [f1]; have := hS.1; omega, fun x h1 h2 => (hold x (Nat.lt_of_lt_of_le h1 hS.1)).trans (hS.2.1 x h1 h2), hS.2.2⟩ F rfl X'
  refine ⟨t, step t ?_, b1⟩
  have e : T.heap.size = H.size := by rw [hT]
  rw [e]
  exact a1
end VGM
/-! ===== END ===== -/

abbrev jn_D : Type := va_G × (ClassId × ClassId × ClassId)
def jn_tys (d : jn_D) : List (ClassId × FieldType) := [(d.2.1, .int), (d.2.2.1, .long), (d.2.2.2, .array .int)]
def jn_W (U : State) : Prop := va_Nw (.methodLinkNest RX8 9 yX4_init "GraphDeck") U ∧ va_Nw (.methodLinkNest RX8 18 yX3_init "GraphDeck") U ∧ va_Nw (.methodLinkNest RX8 25 yX5_init "GraphDeck") U ∧ va_Nw (.methodLinkNest RX8 32 yX1_init "GraphDeck") U ∧ va_Nw (.methodLinkNest RX1 11 yX4_init "GraphDeck") U ∧ va_Nw (.methodLinkNest RX8 39 yX7_init "GraphDeck") U ∧ va_Nw (.methodLinkNest RX8 46 yX2_init "GraphDeck") U ∧ va_Nw (.methodLinkNest RX2 11 yX4_init "GraphDeck") U ∧ va_Nw (.methodLinkNest RX8 53 yX0_init "GraphDeck") U ∧ va_Nw (.methodLinkNest RX0 11 yX4_init "GraphDeck") U ∧ va_Nw (.methodLinkNest RX0 20 yX3_init "GraphDeck") U ∧ va_AOA .int U
theorem jn_W.warm {s U : State} (hW : s.WarmedH U.vm) (h : jn_W s) : jn_W U := ⟨va_Nw.warmM hW h.1, va_Nw.warmM hW h.2.1, va_Nw.warmM hW h.2.2.1, va_Nw.warmM hW h.2.2.2.1, va_Nw.warmM hW h.2.2.2.2.1, va_Nw.warmM hW h.2.2.2.2.2.1, va_Nw.warmM hW h.2.2.2.2.2.2.1, va_Nw.warmM hW h.2.2.2.2.2.2.2.1, va_Nw.warmM hW h.2.2.2.2.2.2.2.2.1, va_Nw.warmM hW h.2.2.2.2.2.2.2.2.2.1, va_Nw.warmM hW h.2.2.2.2.2.2.2.2.2.2.1, va_AOA.moved hW.alike h.2.2.2.2.2.2.2.2.2.2.2⟩
theorem jn_W.same {s U : State} (hv : s.vm = U.vm) (h : jn_W s) : jn_W U := ⟨va_Nw.same rfl hv h.1, va_Nw.same rfl hv h.2.1, va_Nw.same rfl hv h.2.2.1, va_Nw.same rfl hv h.2.2.2.1, va_Nw.same rfl hv h.2.2.2.2.1, va_Nw.same rfl hv h.2.2.2.2.2.1, va_Nw.same rfl hv h.2.2.2.2.2.2.1, va_Nw.same rfl hv h.2.2.2.2.2.2.2.1, va_Nw.same rfl hv h.2.2.2.2.2.2.2.2.1, va_Nw.same rfl hv h.2.2.2.2.2.2.2.2.2.1, va_Nw.same rfl hv h.2.2.2.2.2.2.2.2.2.2.1, va_AOA.moved (hv ▸ Vm.Alike.refl s.vm) h.2.2.2.2.2.2.2.2.2.2.2⟩
def jn_Cx (X : jm_X) (d : jn_D) (cc : ByteArray) (nL : Nat) (own : String) (Ts : List Cond) : Prop :=
  (jx_p X).tables.exec = Jvm.exec ∧ (jx_c X).code = cc ∧ (jx_c X).maxLocals = nL ∧ (jx_s X).vm.findClass own = some (jx_m X).cls ∧ (∀ w ∈ Ts, w.before (jx_a X) (jx_s X) = true) ∧ va_K d.1 vwCl (jn_tys d) (jx_s X) ∧ (∀ q, (jx_s X).heap.size ≤ q → jx_A X q) ∧ jn_W (jx_s X)
def jn_T (X : jm_X) (R : Room) (d : jn_D) (nL : Nat) (ws : va_W) (cells slots pc : Nat) (lv : List (Nat × Value)) (st : List Value) : Prop :=
  ∀ (H : Heap) (locs : List Loc) (ls : Array Slot), va_P d.1 vwCl ws H → va_D (jx_A X) ws → va_S (jx_A X) (jx_s X).heap H locs → lv_has ls nL lv → W (jx_p X) (jx_l X) (jx_e X) R (jx_s X) (jx_m X) (jx_a X) (jx_b X) (jx_me X) (jx_c X) H locs cells slots (jx_Q X) (F0 (jx_m X) pc ls st)
def jn_Pc (d : jn_D) (vals : List Value) (ws : va_W) (sz : Nat) : Array Value → State → Prop := va_Pc vals (fun U => U.heap.size = sz ∧ va_P d.1 vwCl ws U.heap ∧ va_K d.1 vwCl (jn_tys d) U ∧ va_D (fun _ => True) ws ∧ jn_W U)
/-- a constructor's contract: from the bare object at h to a world of the form F -/
def jn_Ct (l : Launch) (d : jn_D) (y : MethodName) (wy : List Cond) (rm : Room) (h ci : Nat) (fs : List Value) (mc ms : Nat) (F : va_W → Prop) : Prop :=
  ∀ sz, Met l y wy rm (jn_Pc d [.ref h] [(h, .inr (ci, fs))] sz) (va_Qv F (fun w1 t => va_P d.1 vwCl w1 t.heap ∧ va_K d.1 vwCl (jn_tys d) t ∧ va_D (va_A [(h, .inr (ci, fs))] sz) w1) (va_A [(h, .inr (ci, fs))] sz)) mc ms (va_A [(h, .inr (ci, fs))] sz)
theorem jn_blind {d : jn_D} {vals : List Value} {ws : va_W} {sz : Nat} : FrameBlind (jn_Pc d vals ws sz) := fun a U g mk q => by
  obtain ⟨q0, q1, qP, qK, qD, qW⟩ := q
  exact ⟨q0, q1, qP, va_K.moved (u := U) (U := U.calling g mk a) (Vm.Alike.refl U.vm) qK, qD, jn_W.same (U := U.calling g mk a) rfl qW⟩
section JN
variable {X : jm_X} {R : Room} {d : jn_D} {cc : ByteArray} {nL : Nat} {own : String} {Ts : List Cond} {ws ws' : va_W} {cells slots pc : Nat} {lv : List (Nat × Value)} {st : List Value}
theorem jn_aload (C : jn_Cx X d cc nL own Ts) {f : Fin 4} {i x : Nat} (hd : decode cc pc = .ok (.aload_n f, 1)) (hi : (f : Nat) = i) (j : Nat) (hj : lv[j]? = some (i, .ref x)) (kk : jn_T X R d nL ws cells slots (pc + 1) lv (.ref x :: st)) : jn_T X R d nL ws cells slots pc lv st := fun H locs ls hP hD hS hl => lv_aload_n C.1 C.2.1 hd hi (lv_at hl j hj) (kk H locs ls hP hD hS hl)
theorem jn_iconst (C : jn_Cx X d cc nL own Ts) {n : Int} {v : Int32} (hd : decode cc pc = .ok (.iconst n, 1)) (hv : Int32.ofInt n = v) (kk : jn_T X R d nL ws cells slots (pc + 1) lv (.int v :: st)) : jn_T X R d nL ws cells slots pc lv st := fun H locs ls hP hD hS hl => lv_iconst C.1 C.2.1 hd hv (kk H locs ls hP hD hS hl)
theorem jn_bipush (C : jn_Cx X d cc nL own Ts) {n : Int} {v : Int32} (hd : decode cc pc = .ok (.bipush n, 2)) (hv : (Int8.ofInt n).toInt32 = v) (kk : jn_T X R d nL ws cells slots (pc + 2) lv (.int v :: st)) : jn_T X R d nL ws cells slots pc lv st := fun H locs ls hP hD hS hl => lv_bipush C.1 C.2.1 hd hv (kk H locs ls hP hD hS hl)
theorem jn_sipush (C : jn_Cx X d cc nL own Ts) {n : Int} {v : Int32} (hd : decode cc pc = .ok (.sipush n, 3)) (hv : (Int16.ofInt n).toInt32 = v) (kk : jn_T X R d nL ws cells slots (pc + 3) lv (.int v :: st)) : jn_T X R d nL ws cells slots pc lv st := fun H locs ls hP hD hS hl => lv_sipush C.1 C.2.1 hd hv (kk H locs ls hP hD hS hl)
theorem jn_ldc (C : jn_Cx X d cc nL own Ts) {index : Nat} {v : Int32} (hd : decode cc pc = .ok (.ldc index, 2)) (hm : Jvm.Cond.constant own index v ∈ Ts) (kk : jn_T X R d nL ws cells slots (pc + 2) lv (.int v :: st)) : jn_T X R d nL ws cells slots pc lv st := fun H locs ls hP hD hS hl => lv_ldc C.1 C.2.1 C.2.2.2.1 (C.2.2.2.2.1 _ hm) hd (kk H locs ls hP hD hS hl)
theorem jn_dup (C : jn_Cx X d cc nL own Ts) {va : Value} (hd : decode cc pc = .ok (.dup, 1)) (hva : va.category = 1) (kk : jn_T X R d nL ws cells slots (pc + 1) lv (va :: va :: st)) : jn_T X R d nL ws cells slots pc lv (va :: st) := fun H locs ls hP hD hS hl => lv_dup C.1 C.2.1 hd hva (kk H locs ls hP hD hS hl)
theorem jn_obj (C : jn_Cx X d cc nL own Ts) {idx a : Nat} (hd : decode cc pc = .ok (.invokespecial idx, 3)) (h1 : Cond.methodLink own idx objectInit ∈ Ts) (h2 : Cond.instanceMethod objectInit ∈ Ts) (h3 : Cond.code objectInit ⟨#[0xb1]⟩ 1 none ∈ Ts) (hf : 1 ≤ R.frames) (hlo : 20 ≤ R.locals) (kk : jn_T X R d nL ws cells slots (pc + 3) lv []) : jn_T X R d nL ws cells slots pc lv [.ref a] := fun H locs ls hP hD hS hl =>
  W.objInit C.1 C.2.1 C.2.2.2.1 (C.2.2.2.2.1 _ h1) (C.2.2.2.2.1 _ h2) (C.2.2.2.2.1 _ h3) rfl (by rw [C.2.2.1]; exact hl.1) rfl hd hf (by have := lv_room (m := jx_m X) (pc := pc) (ls := ls) (rest := [Value.ref a]) (st := []) (by decide); omega) (W.eq (g2 := F0 (jx_m X) (pc + 3) ls []) rfl (kk H locs ls hP hD hS hl))
theorem jn_new (C : jn_Cx X d cc nL own Ts) {ci N idx : Nat} {Cn : String} {Tf : u_T} {fs : List Value} (hd : decode cc pc = .ok (.new idx, 3)) (hin : ∀ w ∈ u_ws Cn Tf N, w ∈ Ts) (ty : Nat → FieldType) (hty : ∀ k, k < N → parseFieldDescriptor (Tf k).2.2.1 = some (ty k)) (h1 : Cond.classLink own idx Cn ∈ Ts) (h2 : Cond.instantiable Cn N ∈ Ts) (h3 : Cond.initialized Cn ∈ Ts) (hc : vwCl[ci]? = some (Cn, Tf, N)) (hfs : ∀ j, j < N → defaultValue (ty j) = vp_V fs j) (hcl : cells + 1 ≤ R.cells) (hsl : slots + N ≤ R.slots)
    (kk : ∀ q, jn_T X R d nL (ws ++ [(q, .inr (ci, fs))]) (cells + 1) (slots + N) (pc + 3) lv (.ref q :: st)) : jn_T X R d nL ws cells slots pc lv st := fun H locs ls hP hD hS hl =>
  va_new (ci := ci) (fs := fs) (C := Cn) (T := Tf) (N := N) C.1 C.2.1 C.2.2.2.2.1 hin ty hty C.2.2.2.1 (C.2.2.2.2.1 _ h1) (C.2.2.2.2.1 _ h2) (C.2.2.2.2.1 _ h3) C.2.2.2.2.2.1 hP hD hS C.2.2.2.2.2.2.1 hc hfs hcl hsl hd (fun q H1 hP1 hD1 hS1 => kk q H1 locs ls hP1 hD1 hS1 hl)
theorem jn_newI (C : jn_Cx X d cc nL own Ts) {n : Int32} {N : Nat} (hd : decode cc pc = .ok (.newarray .int, 2)) (h1 : Cond.arrayClass .int ∈ Ts) (hn : ¬ n < 0) (hN : n.toNatClampNeg = N) (hb : N * 4 ≤ 536870912) (hcl : cells + 1 ≤ R.cells) (hsl : slots + N ≤ R.slots)
    (kk : ∀ q, jn_T X R d nL (ws ++ [(q, .inl (d.2.1, N, .inl (fun _ => 0)))]) (cells + 1) (slots + N) (pc + 2) lv (.ref q :: st)) : jn_T X R d nL ws cells slots pc lv (.int n :: st) := fun H locs ls hP hD hS hl => by
  refine va_newa (atype := .int) (ty := .int) (a0 := (N, .inl (fun _ => 0))) C.1 C.2.1 (C.2.2.2.2.1 _ h1) rfl C.2.2.2.2.2.1 hP hD hS C.2.2.2.2.2.2.1 (fun cA => rfl) hn hN hb hcl hsl hd (fun q cA H1 hK1 hP1 hD1 hS1 => ?_)
  have e1 : (jx_s X).vm.findClass ("[" ++ FieldType.int.toString) = some cA := (hK1.2 3 _ rfl).2
  have e2 : (jx_s X).vm.findClass ("[" ++ FieldType.int.toString) = some d.2.1 := (C.2.2.2.2.2.1.2 0 _ rfl).2
  obtain rfl := Option.some.inj (e1.symm.trans e2)
  exact kk q H1 locs ls hP1 hD1 hS1 hl
theorem jn_newL (C : jn_Cx X d cc nL own Ts) {n : Int32} {N : Nat} (hd : decode cc pc = .ok (.newarray .long, 2)) (h1 : Cond.arrayClass .long ∈ Ts) (hn : ¬ n < 0) (hN : n.toNatClampNeg = N) (hb : N * 8 ≤ 536870912) (hcl : cells + 1 ≤ R.cells) (hsl : slots + N ≤ R.slots)
    (kk : ∀ q, jn_T X R d nL (ws ++ [(q, .inl (d.2.2.1, N, .inr (.inl (fun _ => 0))))]) (cells + 1) (slots + N) (pc + 2) lv (.ref q :: st)) : jn_T X R d nL ws cells slots pc lv (.int n :: st) := fun H locs ls hP hD hS hl => by
  refine va_newa (atype := .long) (ty := .long) (a0 := (N, .inr (.inl (fun _ => 0)))) C.1 C.2.1 (C.2.2.2.2.1 _ h1) rfl C.2.2.2.2.2.1 hP hD hS C.2.2.2.2.2.2.1 (fun cA => rfl) hn hN hb hcl hsl hd (fun q cA H1 hK1 hP1 hD1 hS1 => ?_)
  have e1 : (jx_s X).vm.findClass ("[" ++ FieldType.long.toString) = some cA := (hK1.2 3 _ rfl).2
  have e2 : (jx_s X).vm.findClass ("[" ++ FieldType.long.toString) = some d.2.2.1 := (C.2.2.2.2.2.1.2 1 _ rfl).2
  obtain rfl := Option.some.inj (e1.symm.trans e2)
  exact kk q H1 locs ls hP1 hD1 hS1 hl
theorem jn_mna (C : jn_Cx X d cc nL own Ts) {idx : Nat} {n k : Int32} {N K : Nat} (hd : decode cc pc = .ok (.multianewarray idx 2, 4)) (h0 : Cond.classLink own idx "[[I" ∈ Ts) (h1 : Cond.arrayClass .int ∈ Ts) (hn : ¬ n < 0) (hk : ¬ k < 0) (hN : n.toNatClampNeg = N) (hM : k.toNatClampNeg = K) (hb1 : N * 4 ≤ 536870912) (hb2 : K * 4 ≤ 536870912) (hb3 : K ≤ 536870912) (hcl : cells + (1 + N) ≤ R.cells) (hsl : slots + (N + N * K) ≤ R.slots)
    (kk : ∀ (q : Nat) (r : Nat → Nat), jn_T X R d nL ((ws ++ [(q, .inl (d.2.2.2, N, .inr (.inr (.inr (.inr (fun i => if i < N then some (r i) else none))))))]) ++ ((List.range N).map r).map (fun a => (a, .inl (d.2.1, K, .inl (fun _ => 0))))) (cells + 1 + N) (slots + N + N * K) (pc + 4) lv (.ref q :: st)) : jn_T X R d nL ws cells slots pc lv (.int k :: .int n :: st) := fun H locs ls hP hD hS hl => by
  have e0 : (jx_s X).vm.findClass ("[" ++ FieldType.int.toString) = some d.2.1 := (C.2.2.2.2.2.1.2 0 _ rfl).2
  refine va_mna (X := ws) (L := []) (f := fun _ => .inl (d.2.1, 0, .inl (fun _ => 0))) (ty := .int) (cy := d.2.1) (z := (K, .inl (fun _ => 0))) C.1 C.2.1 C.2.2.2.1 (C.2.2.2.2.1 _ h0) C.2.2.2.2.2.2.2.2.2.2.2.2.2.2.2.2.2.2 (C.2.2.2.2.1 _ h1) e0 C.2.2.2.2.2.1 (by simpa [va_pl] using hP) (by simpa [va_pl] using hD) hS C.2.2.2.2.2.2.1 hn hk hN hM hb1 hb2 hb3 rfl rfl hcl hsl ?_ hd (fun q r cA H1 hr hrL hK1 hP1 hD1 hS1 => ?_)
  · intro c1
    show ({ cls := c1, slots := Array.replicate K (defaultValue .int), vm := .none } : Cell) = _
    rw [arrV_new]; rfl
  · have e1 : (jx_s X).vm.findClass ("[" ++ (FieldType.array .int).toString) = some cA := (hK1.2 3 _ rfl).2
    have e2 : (jx_s X).vm.findClass ("[" ++ (FieldType.array .int).toString) = some d.2.2.2 := (C.2.2.2.2.2.1.2 2 _ rfl).2
    obtain rfl := Option.some.inj (e1.symm.trans e2)
    have ep : va_pl ([] ++ (List.range N).map r) (vr_up (fun _ => .inl (d.2.1, 0, .inl (fun _ => 0))) ((List.range N).map r) (.inl (d.2.1, (K, .inl (fun _ => 0))))) = ((List.range N).map r).map (fun a => (a, .inl (d.2.1, K, .inl (fun _ => 0)))) := by
      unfold va_pl
      rw [List.nil_append]
      apply List.map_congr_left
      intro a ha
      rw [vr_up_in ha]
    rw [ep] at hP1 hD1
    exact kk q r H1 locs ls hP1 hD1 hS1 hl
theorem jn_putF (C : jn_Cx X d cc nL own Ts) {ci a index : Nat} {Cn : String} {Tf : u_T} {N : Nat} {fs : List Value} {v : Nat} {ty : FieldType} (hd : decode cc pc = .ok (.putfield index, 3)) (hinit : (jx_me X).name = "<init>") (hin : ∀ w ∈ u_ws Cn Tf N, w ∈ Ts) (ty0 : Nat → FieldType) (hty : ∀ k, k < N → parseFieldDescriptor (Tf k).2.2.1 = some (ty0 k)) (hnm : ∀ a, a < N → ∀ b, b < N → a ≠ b → (Tf a).2.1 ≠ (Tf b).2.1) (q0 : Nat) (he : ws[q0]? = some (a, .inr (ci, fs))) (hc : vwCl[ci]? = some (Cn, Tf, N)) (j : Nat) (hj : j < N) (hm : Cond.fieldLink own index (Tf j).1 (Tf j).2.1 (Tf j).2.2.1 ∈ Ts) (hfin : (Tf j).2.2.2 = true) (hdecl : (Tf j).1 = own) (hdt : parseFieldDescriptor (Tf j).2.2.1 = some ty) (hn : narrow ty (.ref v) = .ref v) (hfit : fits ty (.ref v) = true) (hl : j < fs.length) (hw : ws.set q0 (a, .inr (ci, fs.set j (.ref v))) = ws')
    (kk : jn_T X R d nL ws' cells slots (pc + 3) lv st) : jn_T X R d nL ws cells slots pc lv (.ref v :: .ref a :: st) := fun H locs ls hP hD hS hl2 => by
  subst hw
  exact va_putF (D := d.1) (ci := ci) (v := .ref v) (ty := ty) (C := Cn) (T := Tf) (N := N) C.1 C.2.1 C.2.2.2.2.1 hin ty0 hty hnm C.2.2.2.1 C.2.2.2.2.2.1 hP hD hS q0 he hc j hj (C.2.2.2.2.1 _ hm) (fun _ h9 => h9) hfin hinit hdecl hdt hn hfit hl hd (fun H1 locs1 hP1 hD1 hS1 => kk H1 locs1 ls hP1 hD1 hS1 hl2)
theorem jn_putI (C : jn_Cx X d cc nL own Ts) {ci a index : Nat} {Cn : String} {Tf : u_T} {N : Nat} {fs : List Value} {v : Int32} (hd : decode cc pc = .ok (.putfield index, 3)) (hin : ∀ w ∈ u_ws Cn Tf N, w ∈ Ts) (ty0 : Nat → FieldType) (hty : ∀ k, k < N → parseFieldDescriptor (Tf k).2.2.1 = some (ty0 k)) (hnm : ∀ a, a < N → ∀ b, b < N → a ≠ b → (Tf a).2.1 ≠ (Tf b).2.1) (q0 : Nat) (he : ws[q0]? = some (a, .inr (ci, fs))) (hc : vwCl[ci]? = some (Cn, Tf, N)) (j : Nat) (hj : j < N) (hm : Cond.fieldLink own index (Tf j).1 (Tf j).2.1 (Tf j).2.2.1 ∈ Ts) (hfin : (Tf j).2.2.2 = false) (hdt : parseFieldDescriptor (Tf j).2.2.1 = some .int) (hl : j < fs.length) (hw : ws.set q0 (a, .inr (ci, fs.set j (.int v))) = ws')
    (kk : jn_T X R d nL ws' cells slots (pc + 3) lv st) : jn_T X R d nL ws cells slots pc lv (.int v :: .ref a :: st) := fun H locs ls hP hD hS hl2 => by
  subst hw
  exact va_put (D := d.1) (ci := ci) (v := .int v) (ty := .int) (C := Cn) (T := Tf) (N := N) C.1 C.2.1 C.2.2.2.2.1 hin ty0 hty hnm C.2.2.2.1 C.2.2.2.2.2.1 hP hD hS q0 he hc j hj (C.2.2.2.2.1 _ hm) (fun _ h9 => h9) hfin hdt rfl rfl hl hd (fun H1 locs1 hP1 hD1 hS1 => kk H1 locs1 ls hP1 hD1 hS1 hl2)
theorem jn_getR (C : jn_Cx X d cc nL own Ts) {ci a v index : Nat} {Cn : String} {Tf : u_T} {N : Nat} {fs : List Value} (hd : decode cc pc = .ok (.getfield index, 3)) (hin : ∀ w ∈ u_ws Cn Tf N, w ∈ Ts) (q0 : Nat) (he : ws[q0]? = some (a, .inr (ci, fs))) (hc : vwCl[ci]? = some (Cn, Tf, N)) (j : Nat) (hj : j < N) (hm : Cond.fieldLink own index (Tf j).1 (Tf j).2.1 (Tf j).2.2.1 ∈ Ts) (hv : fs[j]? = some (.ref v))
    (kk : jn_T X R d nL ws cells slots (pc + 3) lv (.ref v :: st)) : jn_T X R d nL ws cells slots pc lv (.ref a :: st) := fun H locs ls hP hD hS hl =>
  va_get (D := d.1) (ci := ci) (v := .ref v) (C := Cn) (T := Tf) (N := N) C.1 C.2.1 C.2.2.2.2.1 hin C.2.2.2.1 C.2.2.2.2.2.1 hP q0 he hc j hj (C.2.2.2.2.1 _ hm) (fun _ h9 => h9) hv hd (kk H locs ls hP hD hS hl)
theorem jn_iast (C : jn_Cx X d cc nL own Ts) {a n : Nat} {f : Nat → Int32} {j v : Int32} (hd : decode cc pc = .ok (.iastore, 1)) (q0 : Nat) (he : ws[q0]? = some (a, .inl (d.2.1, n, .inl f))) (hin : vp_in j n) (hw : ws.set q0 (a, .inl (d.2.1, n, .inl (upd f j.toNatClampNeg v))) = ws')
    (kk : jn_T X R d nL ws' cells slots (pc + 1) lv st) : jn_T X R d nL ws cells slots pc lv (.int v :: .int j :: .ref a :: st) := fun H locs ls hP hD hS hl => by
  subst hw
  exact va_iast C.1 C.2.1 C.2.2.2.2.2.1 hP hD hS q0 0 he rfl hin hd (fun H1 locs1 hP1 hD1 hS1 => kk H1 locs1 ls hP1 hD1 hS1 hl)
theorem jn_ctor (C : jn_Cx X d cc nL own Ts) {idx maxL b ci mc ms : Nat} {host : String} {y : MethodName} {wy wy' : List Cond} {rm : Room} {bytes : ByteArray} {fs : List Value} {F : va_W → Prop} {wr : va_W} (hd : decode cc pc = .ok (.invokespecial idx, 3)) (hM : jn_Ct (jx_l X) d y wy rm b ci fs mc ms F) (hG : GoodIn Ts wy) (hw : wy = Cond.code y bytes maxL none :: wy') (hl0 : va_Nw (.methodLinkNest own idx y host) (jx_s X)) (hi1 : Cond.initialized y.cls ∈ Ts) (hi2 : Cond.instanceMethod y ∈ Ts) (hy : y.name = "<init>") (hdd : y.cls ≠ "java/lang/invoke/MethodHandle" ∧ y.cls ≠ "java/lang/invoke/VarHandle" ∧ (parseMethodDescriptor y.desc).map (fun d => d.parameters.length) = some 0) (hrm : rm.cells = mc ∧ rm.slots = ms ∧ rm.frames + 1 ≤ R.frames ∧ 8 + (maxL + 11) + rm.locals ≤ R.locals) (hf : cells + mc ≤ R.cells ∧ slots + ms ≤ R.slots) (hro : (st.map fun v => v.category).sum ≤ 8)
    (isC isR : List Nat) (hC : isC.map (fun i => ws[i]?) = [(b, .inr (ci, fs))].map some) (hR : isR.map (fun i => ws[i]?) = wr.map some) (hn : va_nd isR = true) (hdis : ∀ i ∈ isR, i ∉ isC)
    (kk : ∀ w1 : va_W, F w1 → jn_T X R d nL (wr ++ w1) (cells + mc) (slots + ms) (pc + 3) lv st) : jn_T X R d nL ws cells slots pc lv (.ref b :: st) := fun H locs ls hP hD hS hl => by
  have hPc : va_P d.1 vwCl [(b, .inr (ci, fs))] H := hP.sub isC (by
    have e : isC.filterMap (fun i => ws[i]?) = (isC.map (fun i => ws[i]?)).filterMap id := by rw [List.filterMap_map]; rfl
    rw [e, hC]; rfl)
  have hFc := va_free (wc := [(b, .inr (ci, fs))]) hD hS C.2.2.2.2.2.2.1 isC hC
  refine va_callv (va_runIN (As := []) (rest := st) ⟨C.1, C.2.1, C.2.2.1, C.2.2.2.1, C.2.2.2.2.1⟩ (hM H.size) ⟨va_cnB 0 C.2.2.2.2.1 hG hw hrm.1 hrm.2.1 hl0 (C.2.2.2.2.1 _ hi1) hdd hrm.2.2, hy, C.2.2.2.2.1 _ hi2⟩ ⟨jn_blind, fun U hU hW => ⟨rfl, by rw [hU], by rw [hU]; exact hPc, va_K.moved hW.alike C.2.2.2.2.2.1, ⟨fun i j p q hp hq _ => by
    have h1 : i < 1 := (List.getElem?_eq_some_iff.mp hp).1
    have h2 : j < 1 := (List.getElem?_eq_some_iff.mp hq).1
    omega, fun _ _ _ => trivial⟩, C.2.2.2.2.2.2.2.warm hW⟩⟩ rfl rfl hl.1 rfl (lv_room hro) hd hf) hS (fun q _ h => hFc q h) hFc (fun w1 t H1 locs1 ht hvm hw1 hB hz1 hk1 hS1 => ?_)
  obtain ⟨hP1, hK1, hD1⟩ := hB
  rw [ht] at hP1
  obtain ⟨hP2, hD2⟩ := va_join (wr := wr) (w1 := w1) hP hD isC isR hC hR hn hdis hk1 hFc hP1 hD1
  exact kk w1 hw1 H1 locs1 ls hP2 hD2 hS1 hl
end JN
theorem jn_entry {l : Launch} {d : jn_D} {y : MethodName} {wy wy' : List Cond} {rm : Room} {h ci mc ms : Nat} {fs : List Value} {F : va_W → Prop} {cc : ByteArray} {nL : Nat} (hy : plainName y.cls = true) (hy1 : y.name = "<init>") (hw : wy = Cond.code y cc nL none :: wy') (hlen : (lg_sl [.ref h]).length ≤ nL)
    (body : ∀ X : jm_X, jx_l X = l → jn_Cx X d cc nL y.cls wy → (jx_me X).name = "<init>" → (∀ (w1 : va_W) (pc : Nat) (lv : List (Nat × Value)), F w1 → decode cc pc = .ok (.return_, 1) → jn_T X rm d nL w1 mc ms pc lv []) → jn_T X rm d nL [(h, .inr (ci, fs))] 0 0 0 (lv_args 0 [.ref h]) []) : jn_Ct l d y wy rm h ci fs mc ms F := by
  intro sz
  refine Met.ofW (cc := cc) (maxL := nL) (ret := none) hy hw ?_
  intro p e s m args below meth c s₁ B hml hv
  obtain ⟨rfl, hsz, hP, hK, hD0, hWn⟩ := hv
  subst hsz
  have hD := hD0.self (sz := s.heap.size)
  have hl := lv_entry [Value.ref h] (n := nL) hlen
  rw [lg_entry_eq]
  generalize (lg_sl [Value.ref h] ++ List.replicate (nL - (lg_sl [Value.ref h]).length) Slot.unset).toArray = ls at hl ⊢
  have hlocks := B.notSynchronized
  have hin : meth.name = "<init>" := by rw [← hy1]; exact (name_of_methodNamed B.named B.method).1
  have hr := B.returns
  refine body (p, l, e, s, m, [Value.ref h].toArray, below, meth, c, MQ below (va_Qv F (fun w1 t => va_P d.1 vwCl w1 t.heap ∧ va_K d.1 vwCl (jn_tys d) t ∧ va_D (va_A [(h, .inr (ci, fs))] s.heap.size) w1) (va_A [(h, .inr (ci, fs))] s.heap.size)) [Value.ref h].toArray s mc ms (va_A [(h, .inr (ci, fs))] s.heap.size), va_A [(h, .inr (ci, fs))] s.heap.size) rfl
    ⟨B.exec, B.bytes, hml, findClass_of_methodNamed B.named, atoms_spec (ws := wy) B.pre, hK, fun q hq => Or.inr hq, hWn⟩ hin (fun w1 pc lv hF hd => ?_) s.heap [] ls hP hD va_S.rf hl
  intro H locs ls hP1 hD1 hS1 hl1
  exact W.vret B.exec B.bytes hr (fun t ht hW => ⟨⟨w1, rfl, hF, by rw [ht]; exact hP1, va_K.moved hW.alike hK, hD1⟩, hS1.F ht⟩) hS1.2.2 hd hlocks
