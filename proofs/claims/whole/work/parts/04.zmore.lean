/-! Z: stores into arrays, new cells, ends, calls -/
theorem zarr_i (D : va_G) (cA : Nat → ClassId) (b t n : Nat) (f : Nat → Int32) (q : Nat) (H : Heap) : va_at D vwCl (q, ze cA b (.inl (t, (n, .inl f)))) H = (H[q]? = some (arrV (cA t) n (fun j => .int (f j)))) := rfl
theorem zarr_l (D : va_G) (cA : Nat → ClassId) (b t n : Nat) (f : Nat → Int64) (q : Nat) (H : Heap) : va_at D vwCl (q, ze cA b (.inl (t, (n, .inr (.inl f))))) H = (H[q]? = some (arrV (cA t) n (fun j => .long (f j)))) := rfl
theorem zarr_q (D : va_G) (cA : Nat → ClassId) (b t n : Nat) (f : Nat → Option Nat) (q : Nat) (H : Heap) : va_at D vwCl (q, ze cA b (.inl (t, (n, .inr (.inr (.inr (.inr f))))))) H = (H[q]? = some (arrV (cA t) n (fun j => va_rf (zr b f j)))) := rfl
theorem zarr_s (cA : Nat → ClassId) (t n : Nat) (f : Nat → Int32) (k : Nat) (x : Int32) : (arrV (cA t) n (fun j => Value.int (f j))).setSlot k (.int x) = arrV (cA t) n (fun j => .int (upd f k x j)) := by
  rw [arrV_store]
  congr 1
  funext q
  by_cases hq : q = k
  · subst hq; simp [updV, upd]
  · simp [updV, upd, hq]
theorem z_asg (vm : Vm) (c : ClassId) : vm.assignable c c = true := by
  show vm.assignableAux (255 + 1) c c = true
  rw [Vm.assignableAux]
  simp
section ZMore
variable {X : zX} {cc : ByteArray} {own : String} {nL fr lo : Nat} {ret : Option FieldType} {pc : Nat} {lv : List (Nat × Value)} {st : List Value} {G G' : zH}
theorem z_iast (C : zOK X cc own nL ret fr lo) {h n : Nat} {f : Nat → Int32} {i x : Int32} (hd : decode cc pc = .ok (.iastore, 1)) (he : G[h]? = some (.inl (0, (n, .inl f)))) (hi : vp_in i n) (hG : G.set h (.inl (0, (n, .inl (upd f i.toNatClampNeg x)))) = G') (kk : zZ X (pc + 1) lv st G') : zZ X pc lv (.int x :: .int i :: .ref h :: st) G := by
  intro ls H locs c1 c2 h1 h2 h3 h4
  subst hG
  have hP : H[X.2.2.1.2.2.1 + h]? = some (arrV (X.2.2.1.2.1 0) n (fun j => .int (f j))) := h2.2.1 h _ he rfl
  refine W.iast C.1 C.2.1 hP ((C.2.2.2.2.2.2.2.1.1.2 0 _ rfl).1 n (fun j => .int (f j))) (fun q => by cases q) (by rw [arrV_size]; exact hi) rfl rfl hd fun H1 e z oq => ?_
  rw [zarr_s] at e
  exact kk ls H1 _ c1 c2 h1 (h2.put he e e (by rw [arrV_size]; rfl) z oq) (h3.set he rfl) (h4.put z oq (Nat.le_add_right _ _))
theorem z_bast (C : zOK X cc own nL ret fr lo) {h n : Nat} {f : Nat → Int32} {i x : Int32} (hd : decode cc pc = .ok (.bastore, 1)) (he : G[h]? = some (.inl (2, (n, .inl f)))) (hi : vp_in i n) (hG : G.set h (.inl (2, (n, .inl (upd f i.toNatClampNeg (vp_nar .byte x))))) = G') (kk : zZ X (pc + 1) lv st G') : zZ X pc lv (.int x :: .int i :: .ref h :: st) G := by
  intro ls H locs c1 c2 h1 h2 h3 h4
  subst hG
  have hP : H[X.2.2.1.2.2.1 + h]? = some (arrV (X.2.2.1.2.1 2) n (fun j => .int (f j))) := h2.2.1 h _ he rfl
  refine W.bast C.1 C.2.1 hP ((C.2.2.2.2.2.2.2.1.1.2 2 _ rfl).1 n (fun j => .int (f j))) (fun q => by cases q) (by rw [arrV_size]; exact hi) rfl rfl hd fun H1 e z oq => ?_
  rw [show narrow .byte (.int x) = .int (vp_nar .byte x) from rfl, zarr_s] at e
  exact kk ls H1 _ c1 c2 h1 (h2.put he e e (by rw [arrV_size]; rfl) z oq) (h3.set he rfl) (h4.put z oq (Nat.le_add_right _ _))
theorem z_zast (C : zOK X cc own nL ret fr lo) {h n : Nat} {f : Nat → Int32} {i x : Int32} (hd : decode cc pc = .ok (.bastore, 1)) (he : G[h]? = some (.inl (3, (n, .inl f)))) (hi : vp_in i n) (hG : G.set h (.inl (3, (n, .inl (upd f i.toNatClampNeg (vp_nar .boolean x))))) = G') (kk : zZ X (pc + 1) lv st G') : zZ X pc lv (.int x :: .int i :: .ref h :: st) G := by
  intro ls H locs c1 c2 h1 h2 h3 h4
  subst hG
  have hP : H[X.2.2.1.2.2.1 + h]? = some (arrV (X.2.2.1.2.1 3) n (fun j => .int (f j))) := h2.2.1 h _ he rfl
  refine W.zast C.1 C.2.1 hP ((C.2.2.2.2.2.2.2.1.1.2 3 _ rfl).1 n (fun j => .int (f j))) (fun q => by cases q) (by rw [arrV_size]; exact hi) rfl rfl hd fun H1 e z oq => ?_
  rw [show narrow .boolean (.int x) = .int (vp_nar .boolean x) from rfl, zarr_s] at e
  exact kk ls H1 _ c1 c2 h1 (h2.put he e e (by rw [arrV_size]; rfl) z oq) (h3.set he rfl) (h4.put z oq (Nat.le_add_right _ _))
theorem z_last (C : zOK X cc own nL ret fr lo) {h n : Nat} {f : Nat → Int64} {i : Int32} {x : Int64} (hd : decode cc pc = .ok (.lastore, 1)) (he : G[h]? = some (.inl (1, (n, .inr (.inl f))))) (hi : vp_in i n) (hG : G.set h (.inl (1, (n, .inr (.inl (vp_updL f i.toNatClampNeg x))))) = G') (kk : zZ X (pc + 1) lv st G') : zZ X pc lv (.long x :: .int i :: .ref h :: st) G := by
  intro ls H locs c1 c2 h1 h2 h3 h4
  subst hG
  have hP : H[X.2.2.1.2.2.1 + h]? = some (arrV (X.2.2.1.2.1 1) n (fun j => .long (f j))) := h2.2.1 h _ he rfl
  refine W.last C.1 C.2.1 hP ((C.2.2.2.2.2.2.2.1.1.2 1 _ rfl).1 n (fun j => .long (f j))) (fun q => by cases q) (by rw [arrV_size]; exact hi) rfl rfl hd fun H1 e z oq => ?_
  have e' : H1[X.2.2.1.2.2.1 + h]? = some (arrV (X.2.2.1.2.1 1) n (fun j => .long (vp_updL f i.toNatClampNeg x j))) := by
    rw [e, arrV_store]
    congr 2
    funext q
    by_cases hq : q = i.toNatClampNeg
    · subst hq; simp [updV, vp_updL]
    · simp [updV, vp_updL, hq]
  exact kk ls H1 _ c1 c2 h1 (h2.put he e' e' (by rw [arrV_size]; rfl) z oq) (h3.set he rfl) (h4.put z oq (Nat.le_add_right _ _))
theorem zq_upd (b n k : Nat) (cA : ClassId) (f : Nat → Option Nat) (r : Option Nat) : (arrV cA n (fun j => va_rf (zr b f j))).setSlot k (va_rf (r.map (fun h => b + h))) = arrV cA n (fun j => va_rf (zr b (va_up f k r) j)) := by
  rw [arrV_store]
  congr 1
  funext q
  by_cases hq : q = k
  · subst hq; simp [updV, va_up, zr]
  · simp [updV, va_up, zr, hq]
/-- a Leaf into an array of Leafs -/
theorem z_aast4 (C : zOK X cc own nL ret fr lo) {h n v : Nat} {f : Nat → Option Nat} {fs : List Value} {i : Int32} (hd : decode cc pc = .ok (.aastore, 1)) (he : G[h]? = some (.inl (4, (n, .inr (.inr (.inr (.inr f))))))) (hv : G[v]? = some (.inr (2, fs))) (hi : vp_in i n) (hG : G.set h (.inl (4, (n, .inr (.inr (.inr (.inr (va_up f i.toNatClampNeg (some v)))))))) = G') (kk : zZ X (pc + 1) lv st G') : zZ X pc lv (.ref v :: .int i :: .ref h :: st) G := by
  intro ls H locs c1 c2 h1 h2 h3 h4
  subst hG
  have hP : H[X.2.2.1.2.2.1 + h]? = some (arrV (X.2.2.1.2.1 4) n (fun j => va_rf (zr X.2.2.1.2.2.1 f j))) := h2.2.1 h _ he rfl
  have hK := C.2.2.2.2.2.2.2.1.1
  obtain ⟨kA, comp, k1, k2, k3, -⟩ := (hK.2 4 _ rfl).2
  obtain ⟨cellV, g1, g3, g4⟩ := va_recv (ci := 2) (q0 := 0) hK (h2.one hv rfl) rfl rfl
  obtain ⟨kC, hkC, -⟩ := Vm.findClass_spec g4
  obtain ⟨kE, hkE, -⟩ := Vm.findClass_spec k3
  have hcl : comp = cellV.cls := Option.some.inj (k3.symm.trans g4)
  have hlt : i.toNatClampNeg < n := Nat.not_le.mp fun q => hi (Or.inr q)
  have h0 : ¬ i < 0 := fun q => hi (Or.inl q)
  refine W.aast C.1 C.2.1 hP (fun q h => by cases h) (fun h => by cases h) k1 k2 rfl hkE ⟨h0, by rw [arrV_size]; exact hlt⟩ g1 (fun q h => by rw [h] at g3; cases g3) hkC (by rw [hcl]; exact z_asg _ _) rfl rfl hd fun H1 e z oq => ?_
  have e' : H1[X.2.2.1.2.2.1 + h]? = some (arrV (X.2.2.1.2.1 4) n (fun j => va_rf (zr X.2.2.1.2.2.1 (va_up f i.toNatClampNeg (some v)) j))) := by rw [e]; exact congrArg some (zq_upd _ _ _ _ f (some v))
  exact kk ls H1 _ c1 c2 h1 (h2.put he e' e' (by rw [arrV_size]; rfl) z oq) (h3.set he rfl) (h4.put z oq (Nat.le_add_right _ _))
/-- an int[] into an array of int[] -/
theorem z_aast5 (C : zOK X cc own nL ret fr lo) {h n v n1 : Nat} {f : Nat → Option Nat} {f1 : Nat → Int32} {i : Int32} (hd : decode cc pc = .ok (.aastore, 1)) (he : G[h]? = some (.inl (5, (n, .inr (.inr (.inr (.inr f))))))) (hv : G[v]? = some (.inl (0, (n1, .inl f1)))) (hi : vp_in i n) (hG : G.set h (.inl (5, (n, .inr (.inr (.inr (.inr (va_up f i.toNatClampNeg (some v)))))))) = G') (kk : zZ X (pc + 1) lv st G') : zZ X pc lv (.ref v :: .int i :: .ref h :: st) G := by
  intro ls H locs c1 c2 h1 h2 h3 h4
  subst hG
  have hP : H[X.2.2.1.2.2.1 + h]? = some (arrV (X.2.2.1.2.1 5) n (fun j => va_rf (zr X.2.2.1.2.2.1 f j))) := h2.2.1 h _ he rfl
  have hV : H[X.2.2.1.2.2.1 + v]? = some (arrV (X.2.2.1.2.1 0) n1 (fun j => .int (f1 j))) := h2.2.1 v _ hv rfl
  obtain ⟨kA, k0, k1, k2, k3⟩ := C.2.2.2.2.2.2.2.1.2.2.2.1
  have hlt : i.toNatClampNeg < n := Nat.not_le.mp fun q => hi (Or.inr q)
  have h0 : ¬ i < 0 := fun q => hi (Or.inl q)
  refine W.aast C.1 C.2.1 hP (fun q h => by cases h) (fun h => by cases h) k1 k2 rfl k3 ⟨h0, by rw [arrV_size]; exact hlt⟩ hV (fun q h => by cases h) k3 (z_asg _ _) rfl rfl hd fun H1 e z oq => ?_
  have e' : H1[X.2.2.1.2.2.1 + h]? = some (arrV (X.2.2.1.2.1 5) n (fun j => va_rf (zr X.2.2.1.2.2.1 (va_up f i.toNatClampNeg (some v)) j))) := by rw [e]; exact congrArg some (zq_upd _ _ _ _ f (some v))
  exact kk ls H1 _ c1 c2 h1 (h2.put he e' e' (by rw [arrV_size]; rfl) z oq) (h3.set he rfl) (h4.put z oq (Nat.le_add_right _ _))
/-- the room -/
theorem zOK.room (C : zOK X cc own nL ret fr lo) : X.1.2.2.2.1.frames = fr ∧ X.1.2.2.2.1.cells = zGL - X.2.2.2.1.length ∧ X.1.2.2.2.1.slots = zKL - zs X.2.2.2.1 ∧ X.1.2.2.2.1.locals = lo := by
  rw [C.2.2.2.2.2.2.2.2.2.1]
  exact ⟨rfl, rfl, rfl, rfl⟩
/-- a new array of ints, longs, bytes, booleans -/
theorem z_newa (C : zOK X cc own nL ret fr lo) {atype : ArrayType} {ty : FieldType} {t : Nat} {n : Int32} {N : Nat} {a0 : vp_A} (hd : decode cc pc = .ok (.newarray atype, 2)) (hty : newarray.typeOf atype = ty) (hw : Cond.arrayClass ty ∈ zT) (ht : (zt X.2.2.1.2.1)[t]? = some (X.2.2.1.2.1 t, ty)) (hra : ∀ (U : State) (cA : ClassId), va_RA U cA ty = (U.vm.findClass ("[" ++ ty.toString) = some cA)) (ha : ∀ (b : Nat) (cA : ClassId), vp_cell cA (za b a0) = arrV cA N (fun _ => defaultValue ty)) (ha1 : a0.1 = N) (hn : ¬ n < 0) (hN : n.toNatClampNeg = N) (hbytes : N * componentBytes ty ≤ 536870912) (hl : G.length + 1 ≤ zGL) (hk : zs G + N ≤ zKL) (kk : zZ X (pc + 2) lv (.ref G.length :: st) (G ++ [.inl (t, a0)])) : zZ X pc lv (.int n :: st) G := by
  intro ls H locs c1 c2 h1 h2 h3 h4
  subst hty
  obtain ⟨r1, r2, r3, r4⟩ := C.room
  refine z_tight C h2 (fun t1 t2 => ?_)
  refine va_newaK C.1 C.2.1 (C.2.2.2.2.2.1 _ hw) rfl hd rfl hn hN hbytes (by rw [r2]; omega) (by rw [r3]; omega) h2.1 fun H1 cA e1 z1 o1 hAr hNm => ?_
  have hcA : cA = X.2.2.1.2.1 t := by
    have := (C.2.2.2.2.2.2.2.1.1.2 t _ ht).2
    rw [hra] at this
    exact Option.some.inj (hNm.symm.trans this)
  subst hcA
  have e2 : va_at X.2.2.1.1 vwCl (X.2.2.1.2.2.1 + G.length, ze X.2.2.1.2.1 X.2.2.1.2.2.1 (.inl (t, a0))) H1 := by
    show H1[X.2.2.1.2.2.1 + G.length]? = some (vp_cell _ _)
    rw [ha, e1]
  exact kk ls H1 _ _ _ h1 (h2.push e2 e1 (by rw [arrV_size]; exact ha1.symm) (by rw [z1, h2.1]) (fun q hq => o1 q (by rw [← h2.1]; exact hq))) ⟨by simp; omega, by rw [zs_push]; simp [zsz, ha1]; omega⟩ ⟨Nat.le_trans h4.1 (by rw [z1, h2.1]; omega), fun x g1 g2 => (o1 x (Nat.lt_of_lt_of_le g1 (by have := h4.1; rw [h2.1] at this; omega))).trans (h4.2.1 x g1 g2), h4.2.2⟩
/-- a new array of Leafs -/
theorem z_newq (C : zOK X cc own nL ret fr lo) {index : Nat} {n : Int32} {N : Nat} (hd : decode cc pc = .ok (.anewarray index, 3)) (hw : Cond.classLink own index "PieceBook$Leaf" ∈ zT) (hn : ¬ n < 0) (hN : n.toNatClampNeg = N) (hbytes : N * 4 ≤ 536870912) (hl : G.length + 1 ≤ zGL) (hk : zs G + N ≤ zKL) (kk : zZ X (pc + 3) lv (.ref G.length :: st) (G ++ [.inl (4, (N, .inr (.inr (.inr (.inr (fun _ => none))))))])) : zZ X pc lv (.int n :: st) G := by
  intro ls H locs c1 c2 h1 h2 h3 h4
  subst hN
  obtain ⟨r1, r2, r3, r4⟩ := C.room
  refine z_tight C h2 (fun t1 t2 => ?_)
  refine W.anew C.1 C.2.1 C.2.2.2.2.1 (C.2.2.2.2.2.1 _ hw) (va_AO.use C.2.2.2.2.2.2.2.1.2.2.1) rfl hd rfl hn hbytes (by rw [r2]; omega) (by rw [r3]; omega) fun cA kA comp f1 f2 f3 f4 => ?_
  generalize hH1 : H.push ({ cls := cA, slots := Array.replicate n.toNatClampNeg .null, vm := .none } : Cell) = H1
  have z1 : H1.size = H.size + 1 := by rw [← hH1, Array.size_push]
  have e1 : H1[H.size]? = some (arrV cA n.toNatClampNeg (fun _ => .null)) := by rw [← hH1, Array.getElem?_push_size, ← arrV_new]
  have o1 : ∀ q : Nat, q < H.size → H1[q]? = H[q]? := fun q hq => by rw [← hH1, Array.getElem?_push, if_neg (Nat.ne_of_lt hq)]
  have hcA : cA = X.2.2.1.2.1 4 := by
    obtain ⟨kA', comp', k1, k2, k3, k4⟩ := (C.2.2.2.2.2.2.2.1.1.2 4 _ rfl).2
    exact Option.some.inj (f1.symm.trans k4)
  subst hcA
  rw [h2.1] at e1
  have e2 : va_at X.2.2.1.1 vwCl (X.2.2.1.2.2.1 + G.length, ze X.2.2.1.2.1 X.2.2.1.2.2.1 (.inl (4, (n.toNatClampNeg, .inr (.inr (.inr (.inr (fun _ => none)))))))) H1 := e1
  have := kk ls H1 locs (G.length - X.2.2.2.1.length + 1) (zs G - zs X.2.2.2.1 + n.toNatClampNeg) h1 (h2.push e2 e1 (by rw [arrV_size]; rfl) z1 o1) ⟨by simp; omega, by rw [zs_push]; simp [zsz]; omega⟩ ⟨Nat.le_trans h4.1 (by omega), fun x g1 g2 => (o1 x (Nat.lt_of_lt_of_le g1 h4.1)).trans (h4.2.1 x g1 g2), h4.2.2⟩
  rw [List.map_cons, show zv X.2.2.1.2.2.1 (.ref G.length) = .ref H.size from by rw [h2.1]; rfl] at this
  exact this
/-- a new array of int[] -/
theorem z_newq5 (C : zOK X cc own nL ret fr lo) {index : Nat} {n : Int32} {N : Nat} (hd : decode cc pc = .ok (.anewarray index, 3)) (hw : Cond.classLink own index "[I" ∈ zT) (hn : ¬ n < 0) (hN : n.toNatClampNeg = N) (hbytes : N * 4 ≤ 536870912) (hl : G.length + 1 ≤ zGL) (hk : zs G + N ≤ zKL) (kk : zZ X (pc + 3) lv (.ref G.length :: st) (G ++ [.inl (5, (N, .inr (.inr (.inr (.inr (fun _ => none))))))])) : zZ X pc lv (.int n :: st) G := by
  intro ls H locs c1 c2 h1 h2 h3 h4
  subst hN
  obtain ⟨r1, r2, r3, r4⟩ := C.room
  refine z_tight C h2 (fun t1 t2 => ?_)
  refine W.anewA (t := .int) C.1 C.2.1 C.2.2.2.2.1 (C.2.2.2.2.2.1 _ hw) (over_moved (Vm.Alike.refl _) C.2.2.2.2.2.2.2.1.2.2.2.2) rfl hd rfl hn hbytes (by rw [r2]; omega) (by rw [r3]; omega) fun cA kA comp f1 f2 f3 f4 => ?_
  generalize hH1 : H.push ({ cls := cA, slots := Array.replicate n.toNatClampNeg .null, vm := .none } : Cell) = H1
  have z1 : H1.size = H.size + 1 := by rw [← hH1, Array.size_push]
  have e1 : H1[H.size]? = some (arrV cA n.toNatClampNeg (fun _ => .null)) := by rw [← hH1, Array.getElem?_push_size, ← arrV_new]
  have o1 : ∀ q : Nat, q < H.size → H1[q]? = H[q]? := fun q hq => by rw [← hH1, Array.getElem?_push, if_neg (Nat.ne_of_lt hq)]
  have hcA : cA = X.2.2.1.2.1 5 := Option.some.inj (f1.symm.trans (C.2.2.2.2.2.2.2.1.1.2 5 _ rfl).2)
  subst hcA
  rw [h2.1] at e1
  have e2 : va_at X.2.2.1.1 vwCl (X.2.2.1.2.2.1 + G.length, ze X.2.2.1.2.1 X.2.2.1.2.2.1 (.inl (5, (n.toNatClampNeg, .inr (.inr (.inr (.inr (fun _ => none)))))))) H1 := e1
  have := kk ls H1 locs (G.length - X.2.2.2.1.length + 1) (zs G - zs X.2.2.2.1 + n.toNatClampNeg) h1 (h2.push e2 e1 (by rw [arrV_size]; rfl) z1 o1) ⟨by simp; omega, by rw [zs_push]; simp [zsz]; omega⟩ ⟨Nat.le_trans h4.1 (by omega), fun x g1 g2 => (o1 x (Nat.lt_of_lt_of_le g1 h4.1)).trans (h4.2.1 x g1 g2), h4.2.2⟩
  rw [List.map_cons, show zv X.2.2.1.2.2.1 (.ref G.length) = .ref H.size from by rw [h2.1]; rfl] at this
  exact this
/-- a new object of the class of number ci -/
theorem z_new (C : zOK X cc own nL ret fr lo) {index ci : Nat} {Cn : String} {T : u_T} {N : Nat} {fs : List Value} (ty : Nat → FieldType) (hd : decode cc pc = .ok (.new index, 3)) (hc : vwCl[ci]? = some (Cn, T, N)) (hw : ∀ w ∈ u_ws Cn T N, w ∈ zT) (hty : ∀ k, k < N → parseFieldDescriptor (T k).2.2.1 = some (ty k)) (w1 : Cond.classLink own index Cn ∈ zT) (w2 : Cond.instantiable Cn N ∈ zT) (w3 : Cond.initialized Cn ∈ zT) (hfs : ∀ j, j < N → defaultValue (ty j) = vp_V fs j) (hfl : fs.length = N) (hfz : ∀ b, fs.map (zv b) = fs) (hl : G.length + 1 ≤ zGL) (hk : zs G + N ≤ zKL) (kk : zZ X (pc + 3) lv (.ref G.length :: st) (G ++ [.inr (ci, fs)])) : zZ X pc lv st G := by
  intro ls H locs c1 c2 h1 h2 h3 h4
  obtain ⟨r1, r2, r3, r4⟩ := C.room
  have hKn := C.2.2.2.2.2.2.2.1.1.1 ci _ hc
  refine z_tight C h2 (fun t1 t2 => ?_)
  refine W.newcK C.1 C.2.1 C.2.2.2.2.1 (C.2.2.2.2.2.1 _ w1) (C.2.2.2.2.2.1 _ w2) (C.2.2.2.2.2.1 _ w3) rfl hd (by rw [r2]; omega) (by rw [r3]; omega) hKn.2.1 h2.1 fun H1 kC hkC e1 z1 o1 => ?_
  have e2 : va_at X.2.2.1.1 vwCl (X.2.2.1.2.2.1 + G.length, ze X.2.2.1.2.1 X.2.2.1.2.2.1 (.inr (ci, fs))) H1 := by
    refine ⟨_, hc, ?_⟩
    show t_OB _ _ _ _ _ (vp_V (fs.map (zv _)))
    rw [hfz]
    exact (u_born ty C.2.2.2.2.2.1 hw hKn hkC e1 hty).to hfs
  have hsz : (blank (X.2.2.1.1.1 ci) kC).slots.size = N := by
    obtain ⟨cC, kC', q1, q2, -, -, -, q3⟩ := Cond.instantiable_spec (C.2.2.2.2.2.1 _ w2)
    cases q1.symm.trans hKn.2.1
    cases q2.symm.trans hkC
    simp [blank, q3]
  exact kk ls H1 _ _ _ h1 (h2.push e2 e1 (by rw [hsz]; exact hfl.symm) (by rw [z1, h2.1]) (fun q hq => o1 q (by rw [← h2.1]; exact hq))) ⟨by simp; omega, by rw [zs_push]; simp [zsz, hfl]; omega⟩ ⟨Nat.le_trans h4.1 (by rw [z1, h2.1]; omega), fun x g1 g2 => (o1 x (Nat.lt_of_lt_of_le g1 (by have := h4.1; rw [h2.1] at this; omega))).trans (h4.2.1 x g1 g2), h4.2.2⟩
end ZMore
/-! ends -/
section ZEnds
variable {X : zX} {cc : ByteArray} {own : String} {nL fr lo : Nat} {ret : Option FieldType} {pc : Nat} {lv : List (Nat × Value)} {st : List Value} {G G' : zH}
/-- the walk's end is that of a method with post -/
def zPost (X : zX) (post : Option Value → zH → Prop) : Prop := X.2.2.2.2 = MQ X.2.1.2.2.1 (zQ X.2.2.1.1 X.2.2.1.2.1 X.2.2.1.2.2.1 post) X.2.1.2.1 X.1.2.2.2.2 (zGL - X.2.2.2.1.length) (zKL - zs X.2.2.2.1) (fun q => X.2.2.1.2.2.1 ≤ q)
theorem z_end (C : zOK X cc own nL ret fr lo) {post : Option Value → zH → Prop} (E : zPost X post) {r : Option Value} (hp : post r G) (f : ∀ (ls : Array Slot) (H : Heap) (locs : List Loc) (c1 c2 : Nat), (∀ t : State, t.heap = H → X.1.2.2.2.2.WarmedH t.vm → zQ X.2.2.1.1 X.2.2.1.2.1 X.2.2.1.2.2.1 post X.2.1.2.1 X.1.2.2.2.2 (.returned (r.map (zv X.2.2.1.2.2.1))) t) → (∀ q ∈ locs, X.2.2.1.2.2.1 ≤ q.base) → zW X H locs c1 c2 (MQ X.2.1.2.2.1 (zQ X.2.2.1.1 X.2.2.1.2.1 X.2.2.1.2.2.1 post) X.2.1.2.1 X.1.2.2.2.2 c1 c2 (fun q => X.2.2.1.2.2.1 ≤ q)) (F0 X.2.1.1 pc ls (st.map (zv X.2.2.1.2.2.1)))) : zZ X pc lv st G := by
  intro ls H locs c1 c2 h1 h2 h3 h4
  refine z_tight C h2 (fun t1 t2 => ?_)
  rw [show X.2.2.2.2 = _ from E]
  refine W.widen (k := zGL - X.2.2.2.1.length) (n := zKL - zs X.2.2.2.1) (by have := h3.1; omega) (by have := h3.2; omega) ?_
  exact f ls H locs _ _ (fun t ht hW => ⟨⟨r, G, rfl, hp, by rw [ht]; exact h2, h3⟩, h4.F ht⟩) h4.2.2
theorem z_iret (C : zOK X cc own nL (some .int) fr lo) {post : Option Value → zH → Prop} (E : zPost X post) {x : Int32} (hd : decode cc pc = .ok (.ireturn, 1)) (hp : post (some (.int x)) G) : zZ X pc lv [.int x] G := z_end C E hp (fun ls H locs c1 c2 a b => W.iret C.1 C.2.1 C.2.2.1 a b hd C.2.2.2.2.2.2.1)
theorem z_zret (C : zOK X cc own nL (some .boolean) fr lo) {post : Option Value → zH → Prop} (E : zPost X post) {x : Int32} (hd : decode cc pc = .ok (.ireturn, 1)) (hn : narrow .boolean (.int x) = .int x) (hp : post (some (.int x)) G) : zZ X pc lv [.int x] G := z_end C E hp (fun ls H locs c1 c2 a b => W.zret C.1 C.2.1 C.2.2.1 hn a b hd C.2.2.2.2.2.2.1)
theorem z_lret (C : zOK X cc own nL (some .long) fr lo) {post : Option Value → zH → Prop} (E : zPost X post) {x : Int64} (hd : decode cc pc = .ok (.lreturn, 1)) (hp : post (some (.long x)) G) : zZ X pc lv [.long x] G := z_end C E hp (fun ls H locs c1 c2 a b => W.lret C.1 C.2.1 C.2.2.1 a b hd C.2.2.2.2.2.2.1)
theorem z_vret (C : zOK X cc own nL none fr lo) {post : Option Value → zH → Prop} (E : zPost X post) (hd : decode cc pc = .ok (.return_, 1)) (hp : post none G) : zZ X pc lv [] G := z_end C E hp (fun ls H locs c1 c2 a b => W.vret C.1 C.2.1 C.2.2.1 a b hd C.2.2.2.2.2.2.1)
theorem z_aret {rt : FieldType} (C : zOK X cc own nL (some rt) fr lo) {post : Option Value → zH → Prop} (E : zPost X post) {h : Nat} (hd : decode cc pc = .ok (.areturn, 1)) (hrt : (∃ n, rt = .object n) ∨ ∃ t, rt = .array t) (hp : post (some (.ref h)) G) : zZ X pc lv [.ref h] G := z_end C E hp (fun ls H locs c1 c2 a b => W.aret C.1 C.2.1 C.2.2.1 hrt (Or.inr ⟨_, rfl⟩) a b hd C.2.2.2.2.2.2.1)
theorem zlen (b : Nat) : ∀ av : List Value, (lg_sl (av.map (zv b))).length = (lg_sl av).length
  | [] => rfl
  | v :: vs => by
    have ih := zlen b vs
    simp only [lg_sl, List.map_cons, List.flatMap_cons, List.length_append] at ih ⊢
    rw [ih, zv_cat]
    split <;> rfl
/-- a contract out of the walk of its body -/
theorem z_entry {l : Launch} {D : va_G} {cA : Nat → ClassId} {b : Nat} {y : MethodName} {av : List Value} {post : Option Value → zH → Prop} (hy : plainName y.cls = true) (hav : (lg_sl av).length ≤ nL) (body : ∀ X : zX, zOK X cc y.cls nL ret fr lo → zPost X post → X.2.1.2.2.2.1.name = y.name → zL G → X.2.2.2.1 = G → zZ X 0 (lv_args 0 av) [] G) : zM l D cA b y cc nL ret fr lo av G post := by
  refine Met.ofW (cc := cc) (maxL := nL) (ret := ret) hy rfl ?_
  intro p e s m args below meth c s₁ B hml hv
  obtain ⟨rfl, hI, hK, hL⟩ := hv
  have hts := atoms_spec (ws := zws y cc nL ret) B.pre
  have hzl : ∀ (i : Nat) (av : List Value), zlv b (lv_args i av) = lv_args i (av.map (zv b)) := by
    intro i av
    induction av generalizing i with
    | nil => rfl
    | cons v vs ih =>
      show (i, zv b v) :: zlv b (lv_args _ vs) = (i, zv b v) :: lv_args _ (vs.map (zv b))
      rw [ih, zv_cat]
  have hsl := zlen b av
  have hl := lv_entry (av.map (zv b)) (n := nL) (by rw [hsl]; exact hav)
  rw [lg_entry_eq]
  generalize (lg_sl (av.map (zv b)) ++ List.replicate (nL - (lg_sl (av.map (zv b))).length) Slot.unset).toArray = ls at hl ⊢
  rw [← hzl] at hl
  exact body ((p, l, e, (headSpec (zws y cc nL ret) { frames := fr, cells := zGL - G.length, slots := zKL - zs G, locals := lo }).room, s), (m, (av.map (zv b)).toArray, below, meth, c), (D, cA, b, nL), G, MQ below (zQ D cA b post) (av.map (zv b)).toArray s (zGL - G.length) (zKL - zs G) (fun q => b ≤ q))
    ⟨B.exec, B.bytes, B.returns, hml, findClass_of_methodNamed B.named, fun w hw => hts w (List.mem_cons_of_mem _ hw), B.notSynchronized, hK, rfl, rfl, hI⟩ rfl (name_of_methodNamed B.named B.method).1 hL rfl ls s.heap [] 0 0 hl hI hL va_S.rf
end ZEnds
