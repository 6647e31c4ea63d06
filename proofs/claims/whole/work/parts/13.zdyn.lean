/-! arrays made later: behind the reference's cells -/
section ZNull
variable {p : Program} {l : Launch} {e : Env} {R : Room} {s : State} {m : MethodId} {args : Array Value} {below : List Frame} {meth : Method} {c : Code} {locs : List Loc} {cells slots : Nat}
theorem z_aastN0 {T : State} (X : Stand p l e R s m args below meth c T locs cells slots) (hexec : p.tables.exec = Jvm.exec) {a : Addr} {cell : Cell} {j : Int32} (hcell : T.heap[a]? = some cell) (harr : s.isArrayOf cell (.array .int)) (hknown : cell.vm ≠ .unknown)
    (hin : ¬ (j < 0 ∨ cell.slots.size ≤ j.toNatClampNeg))
    {g : JFrame} (hg : g.method = m) {rest : List Value} (hstack : g.stack = .null :: .int j :: .ref a :: rest) (hdg : decode c.code g.pc = .ok (.aastore, 1)) :
    Stand p l e R s m args below meth c (T.setCell a (cell.setSlot j.toNatClampNeg .null)) (locs ++ [⟨a, j.toNatClampNeg⟩]) cells slots ∧
      ∀ target, Steps p.tables e below ((T.setCell a (cell.setSlot j.toNatClampNeg .null)).setTop { g with pc := g.pc + 1, stack := rest }) target → Steps p.tables e below (T.setTop g) target := by
  have hT := State.isArrayOf_alike X.warmed.alike harr
  have hfit : T.fitsSlot cell.cls cell.vm j.toNatClampNeg .null = true := by
    obtain ⟨hobj, k, hk, comp, hkind⟩ := hT
    cases hvm : cell.vm <;> first | exact absurd hvm (hobj _) | simp [State.fitsSlot, State.slotType?, hk, hkind, fits]
  refine ⟨X.stored hcell _ _, fun target hrest => ?_⟩
  subst hg
  jvm_step X.here [hexec, hdg]
  refine aastore.wp_of_null (c := cell) (t := .array .int) X.here.top hstack hcell hT hin hknown (Nat.not_le.mp fun q => hin (Or.inr q)) hfit ?_
  intro acts
  rw [afterInstr_ok]
  exact hrest
end ZNull
section ZDyn
variable {X : zX} {cc : ByteArray} {own : String} {nL fr lo : Nat} {ret : Option FieldType} {pc : Nat} {lv : List (Nat × Value)} {st rest : List Value} {G G' : zH}
theorem z_aastN (C : zOK X cc own nL ret fr lo) {h n : Nat} {f : Nat → Option Nat} {i : Int32} (hd : decode cc pc = .ok (.aastore, 1)) (he : G[h]? = some (.inl (5, (n, .inr (.inr (.inr (.inr f))))))) (hi : vp_in i n) (hG : G.set h (.inl (5, (n, .inr (.inr (.inr (.inr (va_up f i.toNatClampNeg none))))))) = G') (kk : zZ X (pc + 1) lv st G') : zZ X pc lv (.null :: .int i :: .ref h :: st) G := by
  intro ls H locs c1 c2 h1 h2 h3 h4
  subst hG
  have hP : H[X.2.2.1.2.2.1 + h]? = some (arrV (X.2.2.1.2.1 5) n (fun j => va_rf (zr X.2.2.1.2.2.1 f j))) := h2.2.1 h _ he rfl
  intro T hT St
  have hT' : T.heap[X.2.2.1.2.2.1 + h]? = some (arrV (X.2.2.1.2.1 5) n (fun j => va_rf (zr X.2.2.1.2.2.1 f j))) := by rw [hT]; exact hP
  obtain ⟨St', stp⟩ := z_aastN0 (g := F0 X.2.1.1 pc ls ((Value.null :: .int i :: .ref h :: st).map (zv X.2.2.1.2.2.1))) (rest := st.map (zv X.2.2.1.2.2.1)) St C.1 hT' ((C.2.2.2.2.2.2.2.1.1.2 5 _ rfl).1 n (fun j => va_rf (zr X.2.2.1.2.2.1 f j))) (fun h => by cases h) (by rw [arrV_size]; exact hi) rfl rfl (by rw [C.2.1]; exact hd)
  have hlt : X.2.2.1.2.2.1 + h < T.heap.size := (Array.getElem?_eq_some_iff.mp hT').1
  generalize hT1 : T.setCell (X.2.2.1.2.2.1 + h) ((arrV (X.2.2.1.2.1 5) n (fun j => va_rf (zr X.2.2.1.2.2.1 f j))).setSlot i.toNatClampNeg .null) = T1 at St' stp
  have e1 : T1.heap[X.2.2.1.2.2.1 + h]? = some ((arrV (X.2.2.1.2.1 5) n (fun j => va_rf (zr X.2.2.1.2.2.1 f j))).setSlot i.toNatClampNeg .null) := by rw [← hT1]; exact heapAt_setCell_self _ hlt
  have e' : T1.heap[X.2.2.1.2.2.1 + h]? = some (arrV (X.2.2.1.2.1 5) n (fun j => va_rf (zr X.2.2.1.2.2.1 (va_up f i.toNatClampNeg none) j))) := by rw [e1]; exact congrArg some (zq_upd _ _ _ _ f none)
  have z : T1.heap.size = H.size := by rw [← hT1, size_setCell, hT]
  have oq : ∀ q, q ≠ X.2.2.1.2.2.1 + h → T1.heap[q]? = H[q]? := fun q hq => by rw [← hT1, heapAt_setCell_ne _ (Ne.symm hq), hT]
  obtain ⟨t, a1, b1⟩ := kk ls T1.heap _ _ _ h1 (h2.put he e' e' (by rw [arrV_size]; rfl) z oq) (h3.set he rfl) (h4.put z oq (Nat.le_add_right _ _)) T1 rfl St'
  exact ⟨t, stp t a1, b1⟩
end ZDyn
def ob3 {α β γ δ : Type} (x : Option (α × β × γ)) (f : α → β → γ → Option δ) : Option δ := match x with
  | some (a, b, c) => f a b c
  | none => none
theorem ob3_eq {α β γ δ : Type} {x : Option (α × β × γ)} {f : α → β → γ → Option δ} {r : δ} (h : ob3 x f = some r) : ∃ a b c, x = some (a, b, c) ∧ f a b c = some r := by
  cases x with
  | none => cases h
  | some q => exact ⟨q.1, q.2.1, q.2.2, rfl, h⟩
/-- an int array by its handle -/
def gget (G : zH) (r : Nat) : Option (Nat × (Nat → Int32)) := match G[r]? with
  | some (.inl (0, (n, .inl f))) => some (n, f)
  | _ => none
theorem gget_eq {G : zH} {r : Nat} {q : Nat × (Nat → Int32)} (h : gget G r = some q) : G[r]? = some (.inl (0, (q.1, .inl q.2))) := by
  unfold gget at h
  split at h
  · rename_i n f hg
    cases h
    exact hg
  · cases h
def grd (G : zH) (r : Nat) (i : Int32) : Option Int32 := ob1 (gget G r) fun q => rd q.1 q.2 i
theorem grd_eq {G : zH} {r : Nat} {i v : Int32} (h : grd G r i = some v) : ∃ (n : Nat) (f : Nat → Int32), G[r]? = some (.inl (0, (n, .inl f))) ∧ vp_in i n ∧ v = f i.toNatClampNeg := by
  obtain ⟨q, h1, h2⟩ := ob1_eq h
  exact ⟨q.1, q.2, gget_eq h1, rd_eq h2⟩
def glen (G : zH) (r : Nat) : Option Int32 := ob1 (gget G r) fun q => some (Int32.ofNat q.1)
theorem glen_eq {G : zH} {r : Nat} {v : Int32} (h : glen G r = some v) : ∃ (n : Nat) (f : Nat → Int32), G[r]? = some (.inl (0, (n, .inl f))) ∧ v = Int32.ofNat n := by
  obtain ⟨q, h1, h2⟩ := ob1_eq h
  exact ⟨q.1, q.2, gget_eq h1, (Option.some.inj h2).symm⟩
/-- a write into an array that lies behind K (K.length cells) -/
def dwr (A : zH) (n0 : Nat) (B : zH) (r : Nat) (i x : Int32) : Option zH := if r < A.length + n0 then none else ob1 (gget B (r - (A.length + n0))) fun q => ob1 (rd q.1 q.2 i) fun _ => some (B.set (r - (A.length + n0)) (.inl (0, (q.1, .inl (upd q.2 i.toNatClampNeg x)))))
theorem dwr_eq {A K B B' : zH} {n0 r : Nat} {i x : Int32} (hK : K.length = n0) (h : dwr A n0 B r i x = some B') : ∃ (n : Nat) (f : Nat → Int32), (A ++ (K ++ B))[r]? = some (.inl (0, (n, .inl f))) ∧ vp_in i n ∧ (A ++ (K ++ B)).set r (.inl (0, (n, .inl (upd f i.toNatClampNeg x)))) = A ++ (K ++ B') := by
  unfold dwr at h
  split at h
  · cases h
  · rename_i hr
    obtain ⟨q, h1, h2⟩ := ob1_eq h
    obtain ⟨v, h3, h4⟩ := ob1_eq h2
    refine ⟨q.1, q.2, ?_, (rd_eq h3).1, ?_⟩
    · rw [List.getElem?_append_right (by omega), List.getElem?_append_right (by omega), hK, show r - A.length - n0 = r - (A.length + n0) by omega]
      exact gget_eq h1
    · rw [List.set_append_right _ _ (by omega), List.set_append_right _ _ (by omega), hK, show r - A.length - n0 = r - (A.length + n0) by omega]
      cases h4
      rfl
/-- a new array -/
def dnew (G : zH) (n : Int32) : Option Nat := if n < 0 ∨ 100000 < n.toNatClampNeg ∨ zGL < G.length + 1 ∨ zKL < zs G + n.toNatClampNeg then none else some n.toNatClampNeg
theorem dnew_eq {G : zH} {n : Int32} {N : Nat} (h : dnew G n = some N) : ¬ n < 0 ∧ n.toNatClampNeg = N ∧ N ≤ 100000 ∧ G.length + 1 ≤ zGL ∧ zs G + N ≤ zKL := by
  unfold dnew at h
  split at h
  · cases h
  · rename_i hn
    simp only [not_or] at hn
    cases h
    exact ⟨hn.1, rfl, by omega, by omega, by omega⟩
/-- a reference of an array of references, not null -/
def poR (r : Nat) (G0 : zH) : Option Value → zH → Prop := fun v G => v = some (.ref r) ∧ G = G0
section ZDyn2
variable {X : zX} {cc : ByteArray} {own : String} {nL fr lo : Nat} {ret : Option FieldType} {pc : Nat} {lv : List (Nat × Value)} {st rest : List Value} {G G' : zH}
theorem z_grd (C : zOK X cc own nL ret fr lo) {r : Nat} {i v : Int32} (hd : decode cc pc = .ok (.iaload, 1)) (e : grd G r i = some v) (kk : zZ X (pc + 1) lv (.int v :: st) G) : zZ X pc lv (.int i :: .ref r :: st) G := by
  obtain ⟨n, f, h1, h2, h3⟩ := grd_eq e
  exact z_iald C hd h1 h2 (z_topi h3 kk)
theorem z_glen (C : zOK X cc own nL ret fr lo) {r : Nat} {v : Int32} (hd : decode cc pc = .ok (.arraylength, 1)) (e : glen G r = some v) (kk : zZ X (pc + 1) lv (.int v :: st) G) : zZ X pc lv (.ref r :: st) G := by
  obtain ⟨n, f, h1, h3⟩ := glen_eq e
  exact z_alen C hd h1 (by decide) (z_topi h3 kk)
theorem z_dwr (C : zOK X cc own nL ret fr lo) {A K B B' : zH} {n0 r : Nat} {i x : Int32} (hK : K.length = n0) (hd : decode cc pc = .ok (.iastore, 1)) (e : dwr A n0 B r i x = some B') (kk : zZ X (pc + 1) lv st (A ++ (K ++ B'))) : zZ X pc lv (.int x :: .int i :: .ref r :: st) (A ++ (K ++ B)) := by
  obtain ⟨n, f, h1, h2, h3⟩ := dwr_eq hK e
  exact z_iast C hd h1 h2 h3 kk
theorem z_dnew (C : zOK X cc own nL ret fr lo) {A K B B' : zH} {n : Int32} {N r : Nat} (hd : decode cc pc = .ok (.newarray .int, 2)) (e : dnew (A ++ (K ++ B)) n = some N) (er : r = List.length (A ++ (K ++ B))) (eB : B' = B ++ [.inl (0, (N, .inl (fun _ => 0)))]) (kk : zZ X (pc + 2) lv (.ref r :: st) (A ++ (K ++ B'))) : zZ X pc lv (.int n :: st) (A ++ (K ++ B)) := by
  obtain ⟨h1, h2, h3, h4, h5⟩ := dnew_eq e
  subst er
  subst eB
  refine z_newa (t := 0) (a0 := (N, .inl (fun _ => 0))) C hd rfl w_aint rfl (fun _ _ => rfl) (fun _ _ => rfl) rfl h1 h2 ?_ h4 h5 ?_
  · show N * 4 ≤ 536870912
    omega
  · rw [List.append_assoc, List.append_assoc]
    exact kk
theorem z_nonnullq (C : zOK X cc own nL ret fr lo) {q : Option Nat} {off : Int} {tgt : Nat} (hd : decode cc pc = .ok (.ifnonnull off, 3)) (ht : (pc : Int) + off = (tgt : Int)) (kt : ¬ q = none → zZ X tgt lv st G) (kf : q = none → zZ X (pc + 3) lv st G) : zZ X pc lv (va_rf q :: st) G := by
  cases q with
  | none => exact z_nonnullN C hd (kf rfl)
  | some h => exact z_nonnull C hd ht (kt (fun q => by cases q))
/-- an array out of an array of arrays -/
theorem z_ald5 (C : zOK X cc own nL ret fr lo) {h n : Nat} {f : Nat → Option Nat} {i : Int32} {q : Option Nat} {r : Nat} (hd : decode cc pc = .ok (.aaload, 1)) (he : G[h]? = some (.inl (5, (n, .inr (.inr (.inr (.inr f))))))) (e : rd n f i = some q) (eq : q = some r) (kk : zZ X (pc + 1) lv (.ref r :: st) G) : zZ X pc lv (.int i :: .ref h :: st) G := by
  obtain ⟨h1, h2⟩ := rd_eq e
  refine z_aald C hd he (Or.inr rfl) h1 ?_
  rw [← h2, eq]
  exact kk
theorem z_ald5n (C : zOK X cc own nL ret fr lo) {h n : Nat} {f : Nat → Option Nat} {i : Int32} {q : Option Nat} (hd : decode cc pc = .ok (.aaload, 1)) (he : G[h]? = some (.inl (5, (n, .inr (.inr (.inr (.inr f))))))) (e : rd n f i = some q) (kk : zZ X (pc + 1) lv (va_rf q :: st) G) : zZ X pc lv (.int i :: .ref h :: st) G := by
  obtain ⟨h1, h2⟩ := rd_eq e
  refine z_aald C hd he (Or.inr rfl) h1 ?_
  rw [← h2]
  exact kk
variable {y : MethodName} {code : ByteArray} {maxL fr' lo' index n : Nat} {yret : Option FieldType} {As : List Value}
theorem z_callVr (C : zOK X cc own nL ret fr lo) {h ci : Nat} {fs : List Value} {T : u_T} {N : Nat} {r : Nat} (hd : decode cc pc = .ok (.invokevirtual index, 3)) (hw : zWV own index y code maxL yret n) (hM : zM X.1.2.1 X.2.2.1.1 X.2.2.1.2.1 X.2.2.1.2.2.1 y code maxL yret fr' lo' (.ref h :: As) G (poR r G')) (he : G[h]? = some (.inr (ci, fs))) (hc : vwCl[ci]? = some (y.cls, T, N)) (hn : As.length = n) (hst : As.reverse ++ .ref h :: rest = st) (hrm : (rest.map fun v => v.category).sum ≤ 8) (hR : fr' + 1 ≤ fr ∧ 8 + (maxL + 11) + lo' ≤ lo) (kk : zZ X (pc + 3) lv (.ref r :: rest) G') : zZ X pc lv st G := z_callV C hd hw hM he hc hn hst hrm hR (fun v G' q => by obtain ⟨rfl, rfl⟩ := q; exact kk)
end ZDyn2
theorem hM_len (o : Nat) (M : MS) : (hM o M).length = 22 := rfl
