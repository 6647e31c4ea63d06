/-! Z: fields, arrays, new cells -/
theorem zs_map : ∀ G : zH, zs G = (G.map zsz).sum
  | [] => rfl
  | e :: t => by simp [zs, zs_map t]
/-- a field as a link names it: of the class of number ci, its place kf -/
def zFld (own : String) (index ci kf : Nat) : Prop := ∃ (C : String) (T : u_T) (N : Nat), vwCl[ci]? = some (C, T, N) ∧ kf < N ∧ (∀ w ∈ u_ws C T N, w ∈ zT) ∧ Cond.fieldLink own index (T kf).1 (T kf).2.1 (T kf).2.2.1 ∈ zT
/-- .. that may be written with values of type ty; fin: a final one -/
def zFldW (own : String) (index ci kf : Nat) (fin : Bool) (ty : FieldType) : Prop := ∃ (C : String) (T : u_T) (N : Nat) (ty0 : Nat → FieldType), vwCl[ci]? = some (C, T, N) ∧ kf < N ∧ (∀ w ∈ u_ws C T N, w ∈ zT) ∧ Cond.fieldLink own index (T kf).1 (T kf).2.1 (T kf).2.2.1 ∈ zT ∧ (∀ k, k < N → parseFieldDescriptor (T k).2.2.1 = some (ty0 k)) ∧ (∀ a, a < N → ∀ b, b < N → a ≠ b → (T a).2.1 ≠ (T b).2.1) ∧ (T kf).2.2.2 = fin ∧ parseFieldDescriptor (T kf).2.2.1 = some ty ∧ (fin = true → (T kf).1 = own)
theorem zI.put {D : va_G} {cA : Nat → ClassId} {b h : Nat} {G : zH} {e e' : zE} {H H1 : Heap} {c : Cell} (hI : zI D cA b G H) (he : G[h]? = some e) (hat : va_at D vwCl (b + h, ze cA b e') H1) (hc : H1[b + h]? = some c) (hcs : c.slots.size = zsz e') (z : H1.size = H.size) (oq : ∀ q, q ≠ b + h → H1[q]? = H[q]?) : zI D cA b (G.set h e') H1 := by
  refine ⟨by rw [z, List.length_set]; exact hI.1, fun k x hx hv => ?_, fun k x hx => ?_⟩
  · by_cases hk : k = h
    · subst hk
      rw [List.getElem?_set_self (List.getElem?_eq_some_iff.mp he).1] at hx
      cases hx
      exact hat
    · rw [List.getElem?_set_ne (Ne.symm hk)] at hx
      exact (hI.2.1 k x hx hv).kept (oq (b + k) (by omega))
  · by_cases hk : k = h
    · subst hk
      rw [List.getElem?_set_self (List.getElem?_eq_some_iff.mp he).1] at hx
      cases hx
      exact ⟨c, hc, hcs⟩
    · rw [List.getElem?_set_ne (Ne.symm hk)] at hx
      obtain ⟨c', h1, h2⟩ := hI.2.2 k x hx
      exact ⟨c', by rw [oq (b + k) (by omega)]; exact h1, h2⟩
theorem zI.size {D : va_G} {cA : Nat → ClassId} {b h : Nat} {G : zH} {e : zE} {H : Heap} {c : Cell} (hI : zI D cA b G H) (he : G[h]? = some e) (hc : H[b + h]? = some c) : c.slots.size = zsz e := by
  obtain ⟨c', h1, h2⟩ := hI.2.2 h e he
  cases h1.symm.trans hc
  exact h2
theorem zL.set {G : zH} {h : Nat} {e e' : zE} (hL : zL G) (he : G[h]? = some e) (hz : zsz e' = zsz e) : zL (G.set h e') := by
  refine ⟨?_, ?_⟩
  · rw [List.length_set]; exact hL.1
  · rw [zs_set he hz]; exact hL.2
theorem zI.push {D : va_G} {cA : Nat → ClassId} {b : Nat} {G : zH} {e : zE} {H H1 : Heap} {c : Cell} (hI : zI D cA b G H) (hat : va_at D vwCl (b + G.length, ze cA b e) H1) (hc : H1[b + G.length]? = some c) (hcs : c.slots.size = zsz e) (z : H1.size = H.size + 1) (oq : ∀ q, q < H.size → H1[q]? = H[q]?) : zI D cA b (G ++ [e]) H1 := by
  refine ⟨by rw [z, hI.1]; simp; omega, fun k x hx hv => ?_, fun k x hx => ?_⟩
  · by_cases hk : k < G.length
    · rw [List.getElem?_append_left hk] at hx
      exact (hI.2.1 k x hx hv).kept (oq (b + k) (by rw [hI.1]; omega))
    · rw [List.getElem?_append_right (by omega)] at hx
      have hz : k - G.length < 1 := (List.getElem?_eq_some_iff.mp hx).1
      rw [show k - G.length = 0 by omega] at hx
      cases hx
      rw [show k = G.length by omega]
      exact hat
  · by_cases hk : k < G.length
    · rw [List.getElem?_append_left hk] at hx
      obtain ⟨c', h1, h2⟩ := hI.2.2 k x hx
      exact ⟨c', by rw [oq (b + k) (by rw [hI.1]; omega)]; exact h1, h2⟩
    · rw [List.getElem?_append_right (by omega)] at hx
      have hz : k - G.length < 1 := (List.getElem?_eq_some_iff.mp hx).1
      rw [show k - G.length = 0 by omega] at hx
      cases hx
      rw [show k = G.length by omega]
      exact ⟨c, hc, hcs⟩
/-- the sizes of the cells from b on -/
theorem zI.sizes {D : va_G} {cA : Nat → ClassId} {b : Nat} {G : zH} {H : Heap} (hI : zI D cA b G H) : (H.toList.drop b).map (fun c => c.slots.size) = G.map zsz := by
  apply List.ext_getElem?
  intro k
  rw [List.getElem?_map, List.getElem?_map, List.getElem?_drop, Array.getElem?_toList]
  by_cases hk : k < G.length
  · obtain ⟨c, h1, h2⟩ := hI.2.2 k G[k] (List.getElem?_eq_getElem hk)
    rw [h1, List.getElem?_eq_getElem hk]
    simp [h2]
  · rw [List.getElem?_eq_none (by omega), Array.getElem?_eq_none (by rw [hI.1]; omega)]
    rfl
theorem zI.one {D : va_G} {cA : Nat → ClassId} {b h : Nat} {G : zH} {e : zE} {H : Heap} (hI : zI D cA b G H) (he : G[h]? = some e) (hv : zvis e = true) : va_P D vwCl [(b + h, ze cA b e)] H := by
  intro k q hk
  have hz : k < 1 := (List.getElem?_eq_some_iff.mp hk).1
  rw [show k = 0 by omega] at hk
  cases hk
  exact hI.2.1 h e he hv
section ZHeap
variable {X : zX} {cc : ByteArray} {own : String} {nL fr lo : Nat} {ret : Option FieldType} {pc : Nat} {lv : List (Nat × Value)} {st : List Value} {G G' : zH}
/-- the counters as they are -/
theorem z_tight (C : zOK X cc own nL ret fr lo) {H : Heap} {locs : List Loc} {c1 c2 : Nat} {Q : State → Prop} {g : JFrame} (hI : zI X.2.2.1.1 X.2.2.1.2.1 X.2.2.1.2.2.1 G H) (kk : X.2.2.2.1.length ≤ G.length → zs X.2.2.2.1 ≤ zs G → zW X H locs (G.length - X.2.2.2.1.length) (zs G - zs X.2.2.2.1) Q g) : zW X H locs c1 c2 Q g := by
  obtain ⟨-, -, -, -, -, -, -, -, -, -, hI0⟩ := C
  obtain ⟨⟨p, l, e, R, s⟩, ⟨m, args, below, meth, c⟩, ⟨D, cA, b, n⟩, G0, Q0⟩ := X
  dsimp only [] at *
  intro T hT St
  obtain ⟨q1, q2, q3, q4, q5, q6⟩ := id St.same
  have hTh : (T.setVm s.vm).heap = H := hT
  dsimp only at q1 q2 q3 q4 q5 q6
  rw [hTh] at q2 q3 q4 q5 q6
  have hl : G0.length ≤ G.length := by
    have := hI.1
    have := hI0.1
    omega
  have hsum : ((H.toList.drop s.heap.size).map (fun c => c.slots.size)).sum = zs G - zs G0 ∧ zs G0 ≤ zs G := by
    have e1 : (H.toList.drop s.heap.size).map (fun c => c.slots.size) = (G.map zsz).drop G0.length := by
      rw [← hI.sizes, ← List.map_drop, List.drop_drop, hI0.1]
    have e2 : (G.map zsz).take G0.length = G0.map zsz := by
      apply List.ext_getElem?
      intro k
      by_cases hk : k < G0.length
      · rw [List.getElem?_take_of_lt hk, List.getElem?_map, List.getElem?_map]
        obtain ⟨c0, h1, h2⟩ := hI0.2.2 k G0[k] (List.getElem?_eq_getElem hk)
        obtain ⟨c', g1, g2, g3, -⟩ := q6 (b + k) c0 h1
        obtain ⟨c'', f1, f2⟩ := hI.2.2 k G[k] (List.getElem?_eq_getElem (by omega))
        cases g1.symm.trans f1
        rw [List.getElem?_eq_getElem hk, List.getElem?_eq_getElem (show k < G.length by omega)]
        simp only [Option.map_some, Option.some.injEq]
        omega
      · rw [List.getElem?_eq_none (by simp; omega), List.getElem?_eq_none (by simp; omega)]
    have e3 : zs G = zs G0 + ((G.map zsz).drop G0.length).sum := by
      rw [zs_map, zs_map, ← e2, ← List.sum_append, List.take_append_drop]
    rw [e1]
    omega
  refine kk hl hsum.2 T hT { St with same := ⟨q1, by rw [hTh]; exact q2, ?_, by rw [hTh]; exact q4, ?_, by rw [hTh]; exact q6⟩ }
  · rw [hTh, hI.1, hI0.1]; omega
  · rw [hTh]
    exact Nat.le_of_eq hsum.1
theorem z_get (C : zOK X cc own nL ret fr lo) {h ci kf index : Nat} {fs : List Value} {v : Value} (hd : decode cc pc = .ok (.getfield index, 3)) (hF : zFld own index ci kf) (he : G[h]? = some (.inr (ci, fs))) (hv : fs[kf]? = some v) (kk : zZ X (pc + 3) lv (v :: st) G) : zZ X pc lv (.ref h :: st) G := by
  intro ls H locs c1 c2 h1 h2 h3 h4
  obtain ⟨Cn, T, N, hc, hk, hw, hlink⟩ := hF
  exact va_get C.1 C.2.1 C.2.2.2.2.2.1 hw C.2.2.2.2.1 C.2.2.2.2.2.2.2.1.1 (h2.one he (zvis_of hc)) 0 rfl hc kf hk (C.2.2.2.2.2.1 _ hlink) (fun x q => q) (by rw [List.getElem?_map, hv]; rfl) hd (kk ls H locs c1 c2 h1 h2 h3 h4)
theorem z_put (C : zOK X cc own nL ret fr lo) {h ci kf index : Nat} {fs : List Value} {v : Value} {ty : FieldType} (hd : decode cc pc = .ok (.putfield index, 3)) (hF : zFldW own index ci kf false ty) (he : G[h]? = some (.inr (ci, fs))) (hn : ∀ b, narrow ty (zv b v) = zv b v) (hfit : ∀ b, fits ty (zv b v) = true) (hl : kf < fs.length) (hG : G.set h (.inr (ci, fs.set kf v)) = G') (kk : zZ X (pc + 3) lv st G') : zZ X pc lv (v :: .ref h :: st) G := by
  intro ls H locs c1 c2 h1 h2 h3 h4
  subst hG
  obtain ⟨Cn, T, N, ty0, hc, hk, hw, hlink, hty, hnm, hfin, hdesc, -⟩ := hF
  have hK := C.2.2.2.2.2.2.2.1.1
  have hap := va_apart (own := own) C.2.2.2.2.2.1 hw ty0 hty hnm hK hc
  obtain ⟨r, g1, cell, q1, q2, q3, q4⟩ := h2.2.1 h _ he (zvis_of hc)
  have hr : r = (Cn, T, N) := Option.some.inj (g1.symm.trans hc)
  subst hr
  obtain ⟨hS, hfc, kC, hkC, hkind⟩ := hK.1 ci _ hc
  obtain ⟨cf, kf', fi, f, hi, hsl⟩ := hS kf hk
  have hlay := C.2.2.2.2.2.1 _ (hw _ (u_in_lay hk))
  unfold u_lay at hlay
  rw [if_neg (by rw [hfin]; decide)] at hlay
  have hst := (u_facts hfc hkC (u_lays C.2.2.2.2.2.1 hw hk) hi).1
  have h6 := u_store hfc hkC hkind hlay hi hdesc (hn X.2.2.1.2.2.1) (hfit X.2.2.1.2.2.1)
  refine W.putK C.1 C.2.1 (f := f) ⟨C.2.2.2.2.1, C.2.2.2.2.2.1 _ hlink, ⟨_, _, _, hi⟩, hst⟩ (by rw [q2]; exact h6) q1 q3 (by rw [hsl]; exact k2_hasslot (q4 kf hk)) rfl rfl hd fun H' e1 e2 e3 => ?_
  rw [hsl] at e1 ⊢
  refine kk ls H' _ c1 c2 h1 (h2.put he ⟨_, hc, ?_⟩ e1 ?_ e2 e3) (h3.set he (by simp [zsz])) (h4.put e2 e3 (Nat.le_add_right _ _))
  · rw [List.map_set]
    exact t_OB.to (V := updV (vp_V (fs.map (zv X.2.2.1.2.2.1))) kf (zv X.2.2.1.2.2.1 v)) ⟨_, e1, q2, q3, t_set q4 hap hk _⟩ (fun j _ => vp_updV_set (by simpa using hl) _ j)
  · have hs := h2.size he q1
    simp [Cell.setSlot, zsz] at hs ⊢
    exact hs
theorem z_putF (C : zOK X cc own nL ret fr lo) (hnm0 : X.2.1.2.2.2.1.name = "<init>") {h ci kf index : Nat} {fs : List Value} {v : Value} {ty : FieldType} (hd : decode cc pc = .ok (.putfield index, 3)) (hF : zFldW own index ci kf true ty) (he : G[h]? = some (.inr (ci, fs))) (hn : ∀ b, narrow ty (zv b v) = zv b v) (hfit : ∀ b, fits ty (zv b v) = true) (hl : kf < fs.length) (hG : G.set h (.inr (ci, fs.set kf v)) = G') (kk : zZ X (pc + 3) lv st G') : zZ X pc lv (v :: .ref h :: st) G := by
  intro ls H locs c1 c2 h1 h2 h3 h4
  subst hG
  obtain ⟨Cn, T, N, ty0, hc, hk, hw, hlink, hty, hnm, hfin, hdesc, hdecl⟩ := hF
  have hK := C.2.2.2.2.2.2.2.1.1
  have hap := va_apart (own := own) C.2.2.2.2.2.1 hw ty0 hty hnm hK hc
  obtain ⟨r, g1, cell, q1, q2, q3, q4⟩ := h2.2.1 h _ he (zvis_of hc)
  have hr : r = (Cn, T, N) := Option.some.inj (g1.symm.trans hc)
  subst hr
  obtain ⟨hS, hfc, kC, hkC, hkind⟩ := hK.1 ci _ hc
  obtain ⟨cf, kf', fi, f, hi, hsl⟩ := hS kf hk
  have hlay := C.2.2.2.2.2.1 _ (hw _ (u_in_lay hk))
  unfold u_lay at hlay
  rw [if_pos hfin] at hlay
  have hst := (u_facts hfc hkC (u_lays C.2.2.2.2.2.1 hw hk) hi).1
  have hcf : X.2.1.1.cls = cf := by
    obtain ⟨_, _, c', _, _, _, -, -, hf', -, -, -, hown2, -⟩ := Cond.laysFinal_spec hlay
    have e1 : c' = cf := by have := hi.symm.trans hf'; simp at this; exact this.1.symm
    rw [hdecl rfl] at hown2
    rw [← e1]; exact Option.some.inj (C.2.2.2.2.1.symm.trans hown2)
  have h6 := u_fits hfc hkC hkind (Or.inr hlay) hi hdesc (hn X.2.2.1.2.2.1) (hfit X.2.2.1.2.2.1)
  refine W.putFinK C.1 C.2.1 C.2.2.2.2.1 (C.2.2.2.2.2.1 _ hlink) hi hst hcf hnm0 (by rw [q2]; exact h6) q1 q3 (by rw [hsl]; exact k2_hasslot (q4 kf hk)) rfl rfl hd fun H' e1 e2 e3 => ?_
  rw [hsl] at e1 ⊢
  refine kk ls H' _ c1 c2 h1 (h2.put he ⟨_, hc, ?_⟩ e1 ?_ e2 e3) (h3.set he (by simp [zsz])) (h4.put e2 e3 (Nat.le_add_right _ _))
  · rw [List.map_set]
    exact t_OB.to (V := updV (vp_V (fs.map (zv X.2.2.1.2.2.1))) kf (zv X.2.2.1.2.2.1 v)) ⟨_, e1, q2, q3, t_set q4 hap hk _⟩ (fun j _ => vp_updV_set (by simpa using hl) _ j)
  · have hs := h2.size he q1
    simp [Cell.setSlot, zsz] at hs ⊢
    exact hs
theorem z_alen (C : zOK X cc own nL ret fr lo) {h t : Nat} {x : vp_A} (hd : decode cc pc = .ok (.arraylength, 1)) (he : G[h]? = some (.inl (t, x))) (ht : t < 6) (kk : zZ X (pc + 1) lv (.int (Int32.ofNat x.1) :: st) G) : zZ X pc lv (.ref h :: st) G := by
  intro ls H locs c1 c2 h1 h2 h3 h4
  have hx : (za X.2.2.1.2.2.1 x).1 = x.1 := by
    obtain ⟨n, f | f | f | f | f⟩ := x <;> rfl
  have htt : ∃ ty, (zt X.2.2.1.2.1)[t]? = some (X.2.2.1.2.1 t, ty) := by
    rcases (show t = 0 ∨ t = 1 ∨ t = 2 ∨ t = 3 ∨ t = 4 ∨ t = 5 by omega) with rfl | rfl | rfl | rfl | rfl | rfl <;> exact ⟨_, rfl⟩
  obtain ⟨ty, hty⟩ := htt
  exact va_alen C.1 C.2.1 C.2.2.2.2.2.2.2.1.1 (h2.one he rfl) 0 t rfl hty (by rw [hx]) hd (kk ls H locs c1 c2 h1 h2 h3 h4)
theorem z_iald (C : zOK X cc own nL ret fr lo) {h n : Nat} {f : Nat → Int32} {i : Int32} (hd : decode cc pc = .ok (.iaload, 1)) (he : G[h]? = some (.inl (0, (n, .inl f)))) (hi : vp_in i n) (kk : zZ X (pc + 1) lv (.int (f i.toNatClampNeg) :: st) G) : zZ X pc lv (.int i :: .ref h :: st) G := fun ls H locs c1 c2 h1 h2 h3 h4 => va_iald C.1 C.2.1 C.2.2.2.2.2.2.2.1.1 (h2.one he rfl) 0 0 rfl rfl hi hd (kk ls H locs c1 c2 h1 h2 h3 h4)
theorem z_lald (C : zOK X cc own nL ret fr lo) {h n : Nat} {f : Nat → Int64} {i : Int32} (hd : decode cc pc = .ok (.laload, 1)) (he : G[h]? = some (.inl (1, (n, .inr (.inl f))))) (hi : vp_in i n) (kk : zZ X (pc + 1) lv (.long (f i.toNatClampNeg) :: st) G) : zZ X pc lv (.int i :: .ref h :: st) G := fun ls H locs c1 c2 h1 h2 h3 h4 => va_lald C.1 C.2.1 C.2.2.2.2.2.2.2.1.1 (h2.one he rfl) 0 1 rfl rfl hi hd (kk ls H locs c1 c2 h1 h2 h3 h4)
theorem z_bald (C : zOK X cc own nL ret fr lo) {h n : Nat} {f : Nat → Int32} {i : Int32} (hd : decode cc pc = .ok (.baload, 1)) (he : G[h]? = some (.inl (2, (n, .inl f)))) (hi : vp_in i n) (kk : zZ X (pc + 1) lv (.int (f i.toNatClampNeg) :: st) G) : zZ X pc lv (.int i :: .ref h :: st) G := fun ls H locs c1 c2 h1 h2 h3 h4 => va_bald C.1 C.2.1 C.2.2.2.2.2.2.2.1.1 (h2.one he rfl) 0 2 rfl rfl hi hd (kk ls H locs c1 c2 h1 h2 h3 h4)
theorem z_zald (C : zOK X cc own nL ret fr lo) {h n : Nat} {f : Nat → Int32} {i : Int32} (hd : decode cc pc = .ok (.baload, 1)) (he : G[h]? = some (.inl (3, (n, .inl f)))) (hi : vp_in i n) (kk : zZ X (pc + 1) lv (.int (f i.toNatClampNeg) :: st) G) : zZ X pc lv (.int i :: .ref h :: st) G := fun ls H locs c1 c2 h1 h2 h3 h4 => va_zald C.1 C.2.1 C.2.2.2.2.2.2.2.1.1 (h2.one he rfl) 0 3 rfl rfl hi hd (kk ls H locs c1 c2 h1 h2 h3 h4)
theorem zv_rf (b : Nat) (r : Option Nat) : zv b (va_rf r) = va_rf (r.map (fun h => b + h)) := by cases r <;> rfl
/-- an array of references: of Leaf (4), of int[] (5) -/
theorem z_aald (C : zOK X cc own nL ret fr lo) {h n t : Nat} {f : Nat → Option Nat} {i : Int32} (hd : decode cc pc = .ok (.aaload, 1)) (he : G[h]? = some (.inl (t, (n, .inr (.inr (.inr (.inr f))))))) (ht : t = 4 ∨ t = 5) (hi : vp_in i n) (kk : zZ X (pc + 1) lv (va_rf (f i.toNatClampNeg) :: st) G) : zZ X pc lv (.int i :: .ref h :: st) G := by
  intro ls H locs c1 c2 h1 h2 h3 h4
  have hlt : i.toNatClampNeg < n := Nat.not_le.mp fun q => hi (Or.inr q)
  have hP : H[X.2.2.1.2.2.1 + h]? = some (arrV (X.2.2.1.2.1 t) n (fun j => va_rf (zr X.2.2.1.2.2.1 f j))) := h2.2.1 h _ he rfl
  have hty : ∃ ty : FieldType, (zt X.2.2.1.2.1)[t]? = some (X.2.2.1.2.1 t, ty) ∧ ty.isReference = true := by
    rcases ht with rfl | rfl <;> exact ⟨_, rfl, rfl⟩
  obtain ⟨ty, ht1, ht2⟩ := hty
  refine W.aald C.1 C.2.1 (v := va_rf (zr X.2.2.1.2.2.1 f i.toNatClampNeg)) hP ((C.2.2.2.2.2.2.2.1.1.2 t _ ht1).1 n (fun j => va_rf (zr X.2.2.1.2.2.1 f j))) ht2 (fun q => by cases q) (by show ¬ (i < 0 ∨ (arrV _ _ _).slots.size ≤ _); rw [arrV_size]; exact hi) (by show (arrV _ _ _).slots[_]? = _; rw [arrV_read _ _ hlt]) rfl rfl hd ?_
  have := kk ls H locs c1 c2 h1 h2 h3 h4
  rw [List.map_cons, zv_rf] at this
  exact this
end ZHeap
