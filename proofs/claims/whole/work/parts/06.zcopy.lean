/-! Z: System.arraycopy of ints -/
section ZCopy
variable {X : zX} {cc : ByteArray} {own : String} {nL fr lo : Nat} {ret : Option FieldType} {pc : Nat} {lv : List (Nat × Value)} {st rest : List Value} {G G' : zH}
theorem z_copyi (C : zOK X cc own nL ret fr lo) {index h0 h1 n0 n1 : Nat} {f g : Nat → Int32} {sp dp n : Int32} (hd : decode cc pc = .ok (.invokestatic index, 3)) (w1 : Cond.methodLink own index arraycopyName ∈ zT) (w2 : Cond.native arraycopyName ∈ zT) (w3 : Cond.static arraycopyName ∈ zT) (w4 : Cond.initialized "java/lang/System" ∈ zT)
    (he0 : G[h0]? = some (.inl (0, (n0, .inl f)))) (he1 : G[h1]? = some (.inl (0, (n1, .inl g)))) (q1 : ¬ sp < 0) (q2 : ¬ dp < 0) (q3 : ¬ n < 0) (q4 : sp.toNatClampNeg + n.toNatClampNeg ≤ n0) (q5 : dp.toNatClampNeg + n.toNatClampNeg ≤ n1) (hfr : 1 ≤ fr) (hlo : (st.map fun v => v.category).sum + (nativeFrameWords "java/lang/System" "arraycopy" 5 + 11) ≤ lo)
    (hG : G.set h1 (.inl (0, (n1, .inl (va_cpy f g sp.toNatClampNeg dp.toNatClampNeg n.toNatClampNeg)))) = G') (kk : zZ X (pc + 3) lv st G') : zZ X pc lv (.int n :: .int dp :: .ref h1 :: .int sp :: .ref h0 :: st) G := by
  intro ls H locs c1 c2 g1 g2 g3 g4
  subst hG
  obtain ⟨r1, r2, r3, r4⟩ := C.room
  have hml : X.2.1.2.2.2.2.maxLocals = ls.size := by rw [g1.1, C.2.2.2.1, C.2.2.2.2.2.2.2.2.1]
  have hI := g2
  have hC := C
  obtain ⟨k1, k2, k3, k4, k5, k6, k7, k8, k9, -, -⟩ := C
  obtain ⟨⟨p, l, e, R, s⟩, ⟨m, args, below, meth, c⟩, ⟨D, cA, b, nn0⟩, G0, Q0⟩ := X
  dsimp only at *
  have nn : ∀ z : Int32, ¬ z < 0 → z.toInt = (z.toNatClampNeg : Int) := by
    intro z hz
    have hz0 : (0 : Int) ≤ z.toInt := by
      have := Int32.not_lt.mp hz
      simpa using Int32.le_iff_toInt_le.mp this
    show z.toInt = ((z.toInt.toNat : Nat) : Int)
    omega
  have hc0 : H[b + h0]? = some (arrV (cA 0) n0 (fun j => .int (f j))) := g2.2.1 h0 _ he0 rfl
  have hc1 : H[b + h1]? = some (arrV (cA 0) n1 (fun j => .int (g j))) := g2.2.1 h1 _ he1 rfl
  intro T hT St
  obtain ⟨-, k0, hk0, cm0, hkk0⟩ := (k8.1.2 0 _ rfl).1 n0 (fun j => .int (f j))
  obtain ⟨-, k1', hk1, cm1, hkk1⟩ := (k8.1.2 0 _ rfl).1 n1 (fun j => .int (g j))
  obtain ⟨vm', X', step⟩ := St.arraycopy k1 k5 (k6 _ w1) (k6 _ w2) (k6 _ w3) (k6 _ w4) (src := b + h0) (dst := b + h1) (cs := arrV (cA 0) n0 (fun j => .int (f j))) (cd := arrV (cA 0) n1 (fun j => .int (g j))) (srcPos := sp) (destPos := dp) (n := n) (by rw [hT]; exact hc0) (by rw [hT]; exact hc1)
    (fun _ h => by cases h) (fun _ h => by cases h) (fun h => by cases h) (fun h => by cases h) hk0 hk1 hkk0 hkk1 rfl q1 q2 q3
    (by rw [nn sp q1, nn n q3]; rw [arrV_size]; omega)
    (by rw [nn dp q2, nn n q3]; rw [arrV_size]; omega)
    (fun vm₁ _ i hi => by
      have e : (arrV (cA 0) n0 (fun j => Value.int (f j))).slots.getD (sp.toNatClampNeg + i) .null = .int (f (sp.toNatClampNeg + i)) := by
        rw [Array.getD_eq_getD_getElem?, arrV_read _ _ (by omega)]
        rfl
      refine ⟨?_, ?_⟩
      · rw [e]
        rfl
      · rw [e]
        exact trivial)
    (g := F0 m pc ls ((Value.int n :: .int dp :: .ref h1 :: .int sp :: .ref h0 :: st).map (zv b))) rfl (by rw [hml]) (rest := st.map (zv b)) rfl (by rw [k2]; exact hd) (by rw [r1]; exact hfr) (by show 2 * 0 + _ + _ ≤ _; rw [zv_cats, r4]; omega)
  have e1 : copied (arrV (cA 0) n0 (fun j => Value.int (f j))) (arrV (cA 0) n1 (fun j => Value.int (g j))) sp dp n = arrV (cA 0) n1 (fun j => .int (va_cpy f g sp.toNatClampNeg dp.toNatClampNeg n.toNatClampNeg j)) := va_copied (fun z => .int z) (cA 0) (cA 0) f g q4
  rw [e1] at X' step
  have hl : b + h1 < H.size := (Array.getElem?_eq_some_iff.mp hc1).1
  generalize hH1 : H.setIfInBounds (b + h1) (arrV (cA 0) n1 (fun j => Value.int (va_cpy f g sp.toNatClampNeg dp.toNatClampNeg n.toNatClampNeg j))) = H1
  have hheap : ((T.setVm vm').setCell (b + h1) (arrV (cA 0) n1 (fun j => Value.int (va_cpy f g sp.toNatClampNeg dp.toNatClampNeg n.toNatClampNeg j)))).heap = H1 := by rw [← hH1, ← hT]; rfl
  have oq : ∀ q : Nat, q ≠ b + h1 → H1[q]? = H[q]? := fun q hq => by rw [← hH1]; simp [Array.getElem?_setIfInBounds, Ne.symm hq]
  have eq1 : H1[b + h1]? = some (arrV (cA 0) n1 (fun j => .int (va_cpy f g sp.toNatClampNeg dp.toNatClampNeg n.toNatClampNeg j))) := by rw [← hH1]; simp [Array.getElem?_setIfInBounds, hl]
  have z1 : H1.size = H.size := by rw [← hH1]; simp
  obtain ⟨t, a1, b1⟩ := kk ls H1 _ _ _ g1 (hI.put he1 eq1 eq1 (by rw [arrV_size]; rfl) z1 oq) (g3.set he1 rfl) ⟨by rw [z1]; exact g4.1, fun q f1 f2 => by
      rw [oq q (fun e => f2 (by rw [e]; exact Nat.le_add_right _ _))]
      exact g4.2.1 q f1 f2, fun q hq => by
      rcases List.mem_append.mp hq with h | h
      · exact g4.2.2 q h
      · obtain ⟨z, -, hz⟩ := List.mem_map.mp h
        rw [← hz]
        exact Nat.le_add_right _ _⟩ _ hheap X'
  exact ⟨t, step t a1, b1⟩
end ZCopy
