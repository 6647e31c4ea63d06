/-! any heap by handles: each access may fail -/
def isO (G : zH) (r ci : Nat) : Option Unit := match G[r]? with
  | some (.inr (c, _)) => if c = ci then some () else none
  | _ => none
def fO (G : zH) (r ci : Nat) : Option (List Value) := match G[r]? with
  | some (.inr (c, fs)) => if c = ci then some fs else none
  | _ => none
theorem isO_eq {G : zH} {r ci : Nat} {u : Unit} (h : isO G r ci = some u) : ∃ fs, G[r]? = some (.inr (ci, fs)) := by
  unfold isO at h
  split at h
  · rename_i c fs hg
    split at h
    · rename_i hc
      subst hc
      exact ⟨fs, hg⟩
    · cases h
  · cases h
theorem fO_eq {G : zH} {r ci : Nat} {fs : List Value} (h : fO G r ci = some fs) : G[r]? = some (.inr (ci, fs)) := by
  unfold fO at h
  split at h
  · rename_i c fs' hg
    split at h
    · rename_i hc
      subst hc
      cases h
      exact hg
    · cases h
  · cases h
def vI (v : Option Value) : Option Int32 := match v with
  | some (.int x) => some x
  | _ => none
theorem vI_eq {v : Option Value} {x : Int32} (h : vI v = some x) : v = some (.int x) := by
  unfold vI at h
  split at h
  · cases h; rfl
  · cases h
def vR (v : Option Value) : Option Nat := match v with
  | some (.ref x) => some x
  | _ => none
theorem vR_eq {v : Option Value} {x : Nat} (h : vR v = some x) : v = some (.ref x) := by
  unfold vR at h
  split at h
  · cases h; rfl
  · cases h
def fi (G : zH) (r ci k : Nat) : Option Int32 := ob1 (fO G r ci) fun fs => vI fs[k]?
def frf (G : zH) (r ci k : Nat) : Option Nat := ob1 (fO G r ci) fun fs => vR fs[k]?
def fset (G : zH) (r ci k : Nat) (v : Value) : Option zH := ob1 (fO G r ci) fun fs => if k < fs.length then some (G.set r (.inr (ci, fs.set k v))) else none
theorem fset_eq {G G' : zH} {r ci k : Nat} {v : Value} (h : fset G r ci k v = some G') : ∃ fs, G[r]? = some (.inr (ci, fs)) ∧ k < fs.length ∧ G.set r (.inr (ci, fs.set k v)) = G' := by
  obtain ⟨fs, h1, h2⟩ := ob1_eq h
  split at h2
  · rename_i hk
    cases h2
    exact ⟨fs, fO_eq h1, hk, rfl⟩
  · cases h2
/-- arrays of ints (0), bytes (2), booleans (3) -/
def gA (G : zH) (t r : Nat) : Option (Nat × (Nat → Int32)) := match G[r]? with
  | some (.inl (t', (n, .inl f))) => if t' = t then some (n, f) else none
  | _ => none
theorem gA_eq {G : zH} {t r : Nat} {q : Nat × (Nat → Int32)} (h : gA G t r = some q) : G[r]? = some (.inl (t, (q.1, .inl q.2))) := by
  unfold gA at h
  split at h
  · rename_i t' n f hg
    split at h
    · rename_i ht
      subst ht
      cases h
      exact hg
    · cases h
  · cases h
def aR (G : zH) (t r : Nat) (i : Int32) : Option Int32 := ob1 (gA G t r) fun q => rd q.1 q.2 i
def aW (G : zH) (t r : Nat) (i x : Int32) : Option zH := ob1 (gA G t r) fun q => wr q.1 i (G.set r (.inl (t, (q.1, .inl (upd q.2 i.toNatClampNeg x)))))
def aL (G : zH) (t r : Nat) : Option Int32 := ob1 (gA G t r) fun q => some (Int32.ofNat q.1)
def gJ (G : zH) (r : Nat) : Option (Nat × (Nat → Int64)) := match G[r]? with
  | some (.inl (1, (n, .inr (.inl f)))) => some (n, f)
  | _ => none
theorem gJ_eq {G : zH} {r : Nat} {q : Nat × (Nat → Int64)} (h : gJ G r = some q) : G[r]? = some (.inl (1, (q.1, .inr (.inl q.2)))) := by
  unfold gJ at h
  split at h
  · rename_i n f hg
    cases h
    exact hg
  · cases h
def jR (G : zH) (r : Nat) (i : Int32) : Option Int64 := ob1 (gJ G r) fun q => rd q.1 q.2 i
def jW (G : zH) (r : Nat) (i : Int32) (x : Int64) : Option zH := ob1 (gJ G r) fun q => wr q.1 i (G.set r (.inl (1, (q.1, .inr (.inl (vp_updL q.2 i.toNatClampNeg x))))))
def jL (G : zH) (r : Nat) : Option Int32 := ob1 (gJ G r) fun q => some (Int32.ofNat q.1)
def gQ (G : zH) (t r : Nat) : Option (Nat × (Nat → Option Nat)) := match G[r]? with
  | some (.inl (t', (n, .inr (.inr (.inr (.inr f)))))) => if t' = t then some (n, f) else none
  | _ => none
theorem gQ_eq {G : zH} {t r : Nat} {q : Nat × (Nat → Option Nat)} (h : gQ G t r = some q) : G[r]? = some (.inl (t, (q.1, .inr (.inr (.inr (.inr q.2)))))) := by
  unfold gQ at h
  split at h
  · rename_i t' n f hg
    split at h
    · rename_i ht
      subst ht
      cases h
      exact hg
    · cases h
  · cases h
def qR (G : zH) (t r : Nat) (i : Int32) : Option (Option Nat) := ob1 (gQ G t r) fun q => rd q.1 q.2 i
/-- a Leaf v into an array of Leafs -/
def qW (G : zH) (r : Nat) (i : Int32) (v : Nat) : Option zH := ob1 (gQ G 4 r) fun q => ob1 (isO G v 2) fun _ => wr q.1 i (G.set r (.inl (4, (q.1, .inr (.inr (.inr (.inr (va_up q.2 i.toNatClampNeg (some v)))))))))
def oq {β : Type} (q : Option Nat) (a : Option β) (f : Nat → Option β) : Option β := match q with
  | none => a
  | some r => f r
theorem oq_eq {β : Type} {q : Option Nat} {a : Option β} {f : Nat → Option β} {x : β} (h : oq q a f = some x) : (q = none ∧ a = some x) ∨ ∃ r, q = some r ∧ f r = some x := by
  cases q with
  | none => exact Or.inl ⟨rfl, h⟩
  | some r => exact Or.inr ⟨r, rfl, h⟩
/-- a new array, a new object: the room -/
def gN (G : zH) (n : Int32) : Option Nat := dnew G n
def gP (G : zH) (n : Nat) : Option Unit := if zGL < G.length + 1 ∨ zKL < zs G + n then none else some ()
theorem gP_eq {G : zH} {n : Nat} {u : Unit} (h : gP G n = some u) : G.length + 1 ≤ zGL ∧ zs G + n ≤ zKL := by
  unfold gP at h
  split at h
  · cases h
  · omega
def cp (G : zH) (h0 : Nat) (sp : Int32) (h1 : Nat) (dp n : Int32) : Option zH := ob1 (gA G 0 h0) fun f => ob1 (gA G 0 h1) fun g => if sp < 0 ∨ dp < 0 ∨ n < 0 ∨ f.1 < sp.toNatClampNeg + n.toNatClampNeg ∨ g.1 < dp.toNatClampNeg + n.toNatClampNeg then none else some (G.set h1 (.inl (0, (g.1, .inl (va_cpy f.2 g.2 sp.toNatClampNeg dp.toNatClampNeg n.toNatClampNeg)))))
section ZGen
variable {X : zX} {cc : ByteArray} {own : String} {nL fr lo : Nat} {ret : Option FieldType} {pc : Nat} {lv : List (Nat × Value)} {st rest : List Value} {G G' : zH}
theorem z_fi (C : zOK X cc own nL ret fr lo) {r ci kf index : Nat} {v : Int32} (hd : decode cc pc = .ok (.getfield index, 3)) (hF : zFld own index ci kf) (e : fi G r ci kf = some v) (kk : zZ X (pc + 3) lv (.int v :: st) G) : zZ X pc lv (.ref r :: st) G := by
  obtain ⟨fs, h1, h2⟩ := ob1_eq e
  exact z_get C hd hF (fO_eq h1) (vI_eq h2) kk
theorem z_fr (C : zOK X cc own nL ret fr lo) {r ci kf index h : Nat} (hd : decode cc pc = .ok (.getfield index, 3)) (hF : zFld own index ci kf) (e : frf G r ci kf = some h) (kk : zZ X (pc + 3) lv (.ref h :: st) G) : zZ X pc lv (.ref r :: st) G := by
  obtain ⟨fs, h1, h2⟩ := ob1_eq e
  exact z_get C hd hF (fO_eq h1) (vR_eq h2) kk
theorem z_si (C : zOK X cc own nL ret fr lo) {r ci kf index : Nat} {x : Int32} (hd : decode cc pc = .ok (.putfield index, 3)) (hF : zFldW own index ci kf false .int) (e : fset G r ci kf (.int x) = some G') (kk : zZ X (pc + 3) lv st G') : zZ X pc lv (.int x :: .ref r :: st) G := by
  obtain ⟨fs, h1, h2, h3⟩ := fset_eq e
  exact z_put C hd hF h1 (fun _ => rfl) (fun _ => rfl) h2 h3 kk
theorem z_sz (C : zOK X cc own nL ret fr lo) {r ci kf index : Nat} {x y : Int32} (hd : decode cc pc = .ok (.putfield index, 3)) (hF : zFldW own index ci kf false .boolean) (hb : bz x = some y) (e : fset G r ci kf (.int y) = some G') (kk : zZ X (pc + 3) lv st G') : zZ X pc lv (.int x :: .ref r :: st) G := by
  obtain ⟨rfl, hn⟩ := bz_eq hb
  obtain ⟨fs, h1, h2, h3⟩ := fset_eq e
  refine z_put C hd hF h1 (fun _ => hn) (fun _ => ?_) h2 h3 kk
  unfold bz at hb
  split at hb
  · rename_i h0
    subst h0
    rfl
  · split at hb
    · rename_i h0
      subst h0
      rfl
    · cases hb
theorem z_sr (C : zOK X cc own nL ret fr lo) {r ci kf index h : Nat} {ty : FieldType} (hd : decode cc pc = .ok (.putfield index, 3)) (hF : zFldW own index ci kf false ty) (ht : ∀ a : Nat, narrow ty (.ref a) = .ref a ∧ fits ty (.ref a) = true) (e : fset G r ci kf (.ref h) = some G') (kk : zZ X (pc + 3) lv st G') : zZ X pc lv (.ref h :: .ref r :: st) G := by
  obtain ⟨fs, h1, h2, h3⟩ := fset_eq e
  exact z_put C hd hF h1 (fun b => (ht (b + h)).1) (fun b => (ht (b + h)).2) h2 h3 kk
theorem z_srF (C : zOK X cc own nL ret fr lo) (hnm : X.2.1.2.2.2.1.name = "<init>") {r ci kf index h : Nat} {ty : FieldType} (hd : decode cc pc = .ok (.putfield index, 3)) (hF : zFldW own index ci kf true ty) (ht : ∀ a : Nat, narrow ty (.ref a) = .ref a ∧ fits ty (.ref a) = true) (e : fset G r ci kf (.ref h) = some G') (kk : zZ X (pc + 3) lv st G') : zZ X pc lv (.ref h :: .ref r :: st) G := by
  obtain ⟨fs, h1, h2, h3⟩ := fset_eq e
  exact z_putF C hnm hd hF h1 (fun b => (ht (b + h)).1) (fun b => (ht (b + h)).2) h2 h3 kk
theorem z_aR (C : zOK X cc own nL ret fr lo) {r : Nat} {i v : Int32} (hd : decode cc pc = .ok (.iaload, 1)) (e : aR G 0 r i = some v) (kk : zZ X (pc + 1) lv (.int v :: st) G) : zZ X pc lv (.int i :: .ref r :: st) G := by
  obtain ⟨q, h1, h2⟩ := ob1_eq e
  exact z_iald C hd (gA_eq h1) (rd_eq h2).1 (z_topi (rd_eq h2).2 kk)
theorem z_bR (C : zOK X cc own nL ret fr lo) {r : Nat} {i v : Int32} (hd : decode cc pc = .ok (.baload, 1)) (e : aR G 2 r i = some v) (kk : zZ X (pc + 1) lv (.int v :: st) G) : zZ X pc lv (.int i :: .ref r :: st) G := by
  obtain ⟨q, h1, h2⟩ := ob1_eq e
  exact z_bald C hd (gA_eq h1) (rd_eq h2).1 (z_topi (rd_eq h2).2 kk)
theorem z_zR (C : zOK X cc own nL ret fr lo) {r : Nat} {i v : Int32} (hd : decode cc pc = .ok (.baload, 1)) (e : aR G 3 r i = some v) (kk : zZ X (pc + 1) lv (.int v :: st) G) : zZ X pc lv (.int i :: .ref r :: st) G := by
  obtain ⟨q, h1, h2⟩ := ob1_eq e
  exact z_zald C hd (gA_eq h1) (rd_eq h2).1 (z_topi (rd_eq h2).2 kk)
theorem z_aW (C : zOK X cc own nL ret fr lo) {r : Nat} {i x : Int32} (hd : decode cc pc = .ok (.iastore, 1)) (e : aW G 0 r i x = some G') (kk : zZ X (pc + 1) lv st G') : zZ X pc lv (.int x :: .int i :: .ref r :: st) G := by
  obtain ⟨q, h1, h2⟩ := ob1_eq e
  exact z_iast C hd (gA_eq h1) (wr_eq h2).1 (wr_eq h2).2.symm kk
theorem z_bW (C : zOK X cc own nL ret fr lo) {r : Nat} {i x : Int32} (hd : decode cc pc = .ok (.bastore, 1)) (e : aW G 2 r i (vp_nar .byte x) = some G') (kk : zZ X (pc + 1) lv st G') : zZ X pc lv (.int x :: .int i :: .ref r :: st) G := by
  obtain ⟨q, h1, h2⟩ := ob1_eq e
  exact z_bast C hd (gA_eq h1) (wr_eq h2).1 (wr_eq h2).2.symm kk
theorem z_zW (C : zOK X cc own nL ret fr lo) {r : Nat} {i x : Int32} (hd : decode cc pc = .ok (.bastore, 1)) (e : aW G 3 r i (vp_nar .boolean x) = some G') (kk : zZ X (pc + 1) lv st G') : zZ X pc lv (.int x :: .int i :: .ref r :: st) G := by
  obtain ⟨q, h1, h2⟩ := ob1_eq e
  exact z_zast C hd (gA_eq h1) (wr_eq h2).1 (wr_eq h2).2.symm kk
theorem z_aL (C : zOK X cc own nL ret fr lo) {r t : Nat} {v : Int32} (hd : decode cc pc = .ok (.arraylength, 1)) (ht : t < 6) (e : aL G t r = some v) (kk : zZ X (pc + 1) lv (.int v :: st) G) : zZ X pc lv (.ref r :: st) G := by
  obtain ⟨q, h1, h2⟩ := ob1_eq e
  exact z_alen C hd (gA_eq h1) ht (z_topi (Option.some.inj h2).symm kk)
theorem z_jL (C : zOK X cc own nL ret fr lo) {r : Nat} {v : Int32} (hd : decode cc pc = .ok (.arraylength, 1)) (e : jL G r = some v) (kk : zZ X (pc + 1) lv (.int v :: st) G) : zZ X pc lv (.ref r :: st) G := by
  obtain ⟨q, h1, h2⟩ := ob1_eq e
  exact z_alen C hd (gJ_eq h1) (by decide) (z_topi (Option.some.inj h2).symm kk)
theorem z_jR (C : zOK X cc own nL ret fr lo) {r : Nat} {i : Int32} {v : Int64} (hd : decode cc pc = .ok (.laload, 1)) (e : jR G r i = some v) (kk : zZ X (pc + 1) lv (.long v :: st) G) : zZ X pc lv (.int i :: .ref r :: st) G := by
  obtain ⟨q, h1, h2⟩ := ob1_eq e
  exact z_lald C hd (gJ_eq h1) (rd_eq h2).1 (z_topl (rd_eq h2).2 kk)
theorem z_jW (C : zOK X cc own nL ret fr lo) {r : Nat} {i : Int32} {x : Int64} (hd : decode cc pc = .ok (.lastore, 1)) (e : jW G r i x = some G') (kk : zZ X (pc + 1) lv st G') : zZ X pc lv (.long x :: .int i :: .ref r :: st) G := by
  obtain ⟨q, h1, h2⟩ := ob1_eq e
  exact z_last C hd (gJ_eq h1) (wr_eq h2).1 (wr_eq h2).2.symm kk
theorem z_qR (C : zOK X cc own nL ret fr lo) {r : Nat} {i : Int32} {q : Option Nat} (hd : decode cc pc = .ok (.aaload, 1)) (e : qR G 4 r i = some q) (kk : zZ X (pc + 1) lv (va_rf q :: st) G) : zZ X pc lv (.int i :: .ref r :: st) G := by
  obtain ⟨f, h1, h2⟩ := ob1_eq e
  obtain ⟨h3, h4⟩ := rd_eq h2
  refine z_aald C hd (gQ_eq h1) (Or.inl rfl) h3 ?_
  rw [← h4]
  exact kk
theorem z_qW (C : zOK X cc own nL ret fr lo) {r v : Nat} {i : Int32} (hd : decode cc pc = .ok (.aastore, 1)) (e : qW G r i v = some G') (kk : zZ X (pc + 1) lv st G') : zZ X pc lv (.ref v :: .int i :: .ref r :: st) G := by
  obtain ⟨q, h1, h2⟩ := ob1_eq e
  obtain ⟨u, h3, h4⟩ := ob1_eq h2
  obtain ⟨fs, h5⟩ := isO_eq h3
  exact z_aast4 C hd (gQ_eq h1) h5 (wr_eq h4).1 (wr_eq h4).2.symm kk
theorem z_gN (C : zOK X cc own nL ret fr lo) {n : Int32} {N r : Nat} (hd : decode cc pc = .ok (.newarray .int, 2)) (e : gN G n = some N) (er : r = G.length) (eG : G' = G ++ [.inl (0, (N, .inl (fun _ => 0)))]) (kk : zZ X (pc + 2) lv (.ref r :: st) G') : zZ X pc lv (.int n :: st) G := by
  obtain ⟨h1, h2, h3, h4, h5⟩ := dnew_eq e
  subst er
  subst eG
  exact z_newa (t := 0) (a0 := (N, .inl (fun _ => 0))) C hd rfl w_aint rfl (fun _ _ => rfl) (fun _ _ => rfl) rfl h1 h2 (by show N * 4 ≤ 536870912; omega) h4 h5 kk
theorem z_gNb (C : zOK X cc own nL ret fr lo) {n : Int32} {N r : Nat} (hd : decode cc pc = .ok (.newarray .byte, 2)) (e : gN G n = some N) (er : r = G.length) (eG : G' = G ++ [.inl (2, (N, .inl (fun _ => 0)))]) (kk : zZ X (pc + 2) lv (.ref r :: st) G') : zZ X pc lv (.int n :: st) G := by
  obtain ⟨h1, h2, h3, h4, h5⟩ := dnew_eq e
  subst er
  subst eG
  exact z_newa (t := 2) (a0 := (N, .inl (fun _ => 0))) C hd rfl w_abyte rfl (fun _ _ => rfl) (fun _ _ => rfl) rfl h1 h2 (by show N * 1 ≤ 536870912; omega) h4 h5 kk
theorem z_gNz (C : zOK X cc own nL ret fr lo) {n : Int32} {N r : Nat} (hd : decode cc pc = .ok (.newarray .boolean, 2)) (e : gN G n = some N) (er : r = G.length) (eG : G' = G ++ [.inl (3, (N, .inl (fun _ => 0)))]) (kk : zZ X (pc + 2) lv (.ref r :: st) G') : zZ X pc lv (.int n :: st) G := by
  obtain ⟨h1, h2, h3, h4, h5⟩ := dnew_eq e
  subst er
  subst eG
  exact z_newa (t := 3) (a0 := (N, .inl (fun _ => 0))) C hd rfl w_aboolean rfl (fun _ _ => rfl) (fun _ _ => rfl) rfl h1 h2 (by show N * 1 ≤ 536870912; omega) h4 h5 kk
theorem z_gNj (C : zOK X cc own nL ret fr lo) {n : Int32} {N r : Nat} (hd : decode cc pc = .ok (.newarray .long, 2)) (e : gN G n = some N) (er : r = G.length) (eG : G' = G ++ [.inl (1, (N, .inr (.inl (fun _ => 0))))]) (kk : zZ X (pc + 2) lv (.ref r :: st) G') : zZ X pc lv (.int n :: st) G := by
  obtain ⟨h1, h2, h3, h4, h5⟩ := dnew_eq e
  subst er
  subst eG
  exact z_newa (t := 1) (a0 := (N, .inr (.inl (fun _ => 0)))) C hd rfl w_along rfl (fun _ _ => rfl) (fun _ _ => rfl) rfl h1 h2 (by show N * 8 ≤ 536870912; omega) h4 h5 kk
theorem z_gNq (C : zOK X cc own nL ret fr lo) {index : Nat} {n : Int32} {N r : Nat} (hd : decode cc pc = .ok (.anewarray index, 3)) (hw : Cond.classLink own index "PieceBook$Leaf" ∈ zT) (e : gN G n = some N) (er : r = G.length) (eG : G' = G ++ [.inl (4, (N, .inr (.inr (.inr (.inr (fun _ => none))))))]) (kk : zZ X (pc + 3) lv (.ref r :: st) G') : zZ X pc lv (.int n :: st) G := by
  obtain ⟨h1, h2, h3, h4, h5⟩ := dnew_eq e
  subst er
  subst eG
  exact z_newq C hd hw h1 h2 (by omega) h4 h5 kk
theorem z_gN5 (C : zOK X cc own nL ret fr lo) {index : Nat} {n : Int32} {N r : Nat} (hd : decode cc pc = .ok (.anewarray index, 3)) (hw : Cond.classLink own index "[I" ∈ zT) (e : gN G n = some N) (er : r = G.length) (eG : G' = G ++ [.inl (5, (N, .inr (.inr (.inr (.inr (fun _ => none))))))]) (kk : zZ X (pc + 3) lv (.ref r :: st) G') : zZ X pc lv (.int n :: st) G := by
  obtain ⟨h1, h2, h3, h4, h5⟩ := dnew_eq e
  subst er
  subst eG
  exact z_newq5 C hd hw h1 h2 (by omega) h4 h5 kk
theorem z_gO (C : zOK X cc own nL ret fr lo) {index ci : Nat} {Cn : String} {T : u_T} {N r : Nat} {fs : List Value} {u : Unit} (ty : Nat → FieldType) (hd : decode cc pc = .ok (.new index, 3)) (hc : vwCl[ci]? = some (Cn, T, N)) (hw : ∀ w ∈ u_ws Cn T N, w ∈ zT) (hty : ∀ k, k < N → parseFieldDescriptor (T k).2.2.1 = some (ty k)) (w1 : Cond.classLink own index Cn ∈ zT) (w2 : Cond.instantiable Cn N ∈ zT) (w3 : Cond.initialized Cn ∈ zT) (hfs : ∀ j, j < N → defaultValue (ty j) = vp_V fs j) (hfl : fs.length = N) (hfz : ∀ b, fs.map (zv b) = fs) (e : gP G N = some u) (er : r = G.length) (eG : G' = G ++ [.inr (ci, fs)]) (kk : zZ X (pc + 3) lv (.ref r :: st) G') : zZ X pc lv st G := by
  obtain ⟨h4, h5⟩ := gP_eq e
  subst er
  subst eG
  exact z_new C ty hd hc hw hty w1 w2 w3 hfs hfl hfz h4 h5 kk
theorem z_cp (C : zOK X cc own nL ret fr lo) {index h0 h1 : Nat} {sp dp n : Int32} (hd : decode cc pc = .ok (.invokestatic index, 3)) (w1 : Cond.methodLink own index arraycopyName ∈ zT) (hfr : 1 ≤ fr) (hlo : (st.map fun v => v.category).sum + (nativeFrameWords "java/lang/System" "arraycopy" 5 + 11) ≤ lo) (e : cp G h0 sp h1 dp n = some G') (kk : zZ X (pc + 3) lv st G') : zZ X pc lv (.int n :: .int dp :: .ref h1 :: .int sp :: .ref h0 :: st) G := by
  obtain ⟨f, e1, e2⟩ := ob1_eq e
  obtain ⟨g, e3, e4⟩ := ob1_eq e2
  split at e4
  · cases e4
  · rename_i hn
    simp only [not_or] at hn
    exact z_copyi C hd w1 w_ac1 w_ac2 w_sys (gA_eq e1) (gA_eq e3) hn.1 hn.2.1 hn.2.2.1 (by omega) (by omega) hfr hlo (Option.some.inj e4) kk
theorem z_nullL (C : zOK X cc own nL ret fr lo) {n : Fin 4} {i : Nat} (j : Nat) (hd : decode cc pc = .ok (.aload_n n, 1)) (hi : (n : Nat) = i) (hj : lv[j]? = some (i, .null)) (kk : zZ X (pc + 1) lv (.null :: st) G) : zZ X pc lv st G := z_ld hj (fun ls H locs c1 c2 Q a q => lv_aload_nN C.1 C.2.1 hd hi a q) kk
theorem z_nullS (C : zOK X cc own nL ret fr lo) {n : Fin 4} {i : Nat} {lv' : List (Nat × Value)} (hd : decode cc pc = .ok (.astore_n n, 1)) (hi : (n : Nat) = i) (hn : i < nL) (hl : zput lv i .null = lv') (kk : zZ X (pc + 1) lv' st G) : zZ X pc lv (.null :: st) G :=
  z_st (fun ls H locs c1 c2 Q a q => lv_astore_nN C.1 C.2.1 hd hi a (by rw [C.2.2.2.2.2.2.2.2.1]; exact hn) (zput_map _ lv i .null) (by rw [hl]; exact q)) kk
variable {y : MethodName} {code : ByteArray} {maxL fr' lo' index n : Nat} {yret : Option FieldType} {As : List Value}
theorem z_callSr (C : zOK X cc own nL ret fr lo) {r : Nat} (hd : decode cc pc = .ok (.invokestatic index, 3)) (hw : zWS own index y code maxL yret n) (hM : zM X.1.2.1 X.2.2.1.1 X.2.2.1.2.1 X.2.2.1.2.2.1 y code maxL yret fr' lo' As G (poR r G')) (hn : As.length = n) (hst : As.reverse ++ rest = st) (hrm : (rest.map fun v => v.category).sum ≤ 8) (hR : fr' + 1 ≤ fr ∧ 8 + (maxL + 11) + lo' ≤ lo) (kk : zZ X (pc + 3) lv (.ref r :: rest) G') : zZ X pc lv st G := z_callS C hd hw hM hn hst hrm hR (fun v G' q => by obtain ⟨rfl, rfl⟩ := q; exact kk)
theorem z_callIv (C : zOK X cc own nL ret fr lo) {h : Nat} (hd : decode cc pc = .ok (.invokespecial index, 3)) (hw : zWI own index y code maxL n) (hy1 : y.name = "<init>") (hM : zM X.1.2.1 X.2.2.1.1 X.2.2.1.2.1 X.2.2.1.2.2.1 y code maxL none fr' lo' (.ref h :: As) G (poV G')) (hn : As.length = n) (hst : As.reverse ++ .ref h :: rest = st) (hrm : (rest.map fun v => v.category).sum ≤ 8) (hR : fr' + 1 ≤ fr ∧ 8 + (maxL + 11) + lo' ≤ lo) (kk : zZ X (pc + 3) lv rest G') : zZ X pc lv st G := z_callI C hd hw hy1 hM hn hst hrm hR (fun v G' q => by obtain ⟨rfl, rfl⟩ := q; exact kk)
theorem z_callINv (C : zOK X cc own nL ret fr lo) {h : Nat} (hd : decode cc pc = .ok (.invokespecial index, 3)) (hw : zWIN own index y code maxL n) (hy1 : y.name = "<init>") (hM : zM X.1.2.1 X.2.2.1.1 X.2.2.1.2.1 X.2.2.1.2.2.1 y code maxL none fr' lo' (.ref h :: As) G (poV G')) (hn : As.length = n) (hst : As.reverse ++ .ref h :: rest = st) (hrm : (rest.map fun v => v.category).sum ≤ 8) (hR : fr' + 1 ≤ fr ∧ 8 + (maxL + 11) + lo' ≤ lo) (kk : zZ X (pc + 3) lv rest G') : zZ X pc lv st G := z_callIN C hd hw hy1 hM hn hst hrm hR (fun v G' q => by obtain ⟨rfl, rfl⟩ := q; exact kk)
end ZGen
/-! a method of a class with natives -/
theorem z_ofWF {l : Launch} {y : MethodName} {ws ws' : List Cond} {rm : Room} {Pc : Array Value → State → Prop} {Qc : Array Value → State → Outcome → State → Prop} {mc ms : Nat} {free : Addr → Prop} {cc : ByteArray} {maxL : Nat} {ret : Option FieldType}
    (hy : plainFor y = true) (hw : ws = Cond.code y cc maxL ret :: ws')
    (body : ∀ p e s m args below meth c s₁, BodyLoose p l y (headSpec ws rm) cc maxL ret e s m args below meth c s₁ → c.maxLocals = maxL → Pc args s →
      W p l e (headSpec ws rm).room s m args below meth c s.heap [] 0 0 (MQ below Qc args s mc ms free) (entryFrame m args maxL)) : Met l y ws rm Pc Qc mc ms free := by
  refine MetFree.of_bodySF (code := cc) (maxLocals := maxL) (ret := ret) hy ?_ ?_
  · intro args s m h hn
    obtain ⟨meth, c, h1, h2, h3, h4, h5, h6, -, -⟩ := Cond.code_spec hn (atoms_spec (ws := ws) h _ (by rw [hw]; exact List.mem_cons_self))
    exact ⟨meth, c, h1, h2, h3, h4, h5, h6⟩
  · intro p e s m args below meth c s₁ B hml hP _
    have hh0 : s₁.heap = s.heap := by rw [B.state]; rfl
    obtain ⟨t, a1, o, b1, b2, b3⟩ := body p e s m args below meth c s₁ B hml hP s₁ hh0 (Stand.of_body B)
    exact ⟨t, o, a1, b1, b2, ⟨b3.1, b3.2⟩⟩
section ZEntryF
variable {cc : ByteArray} {nL fr lo : Nat} {ret : Option FieldType} {G : zH}
/-- the same of a method whose class has natives of its own -/
theorem z_entryF {l : Launch} {D : va_G} {cA : Nat → ClassId} {b : Nat} {y : MethodName} {av : List Value} {post : Option Value → zH → Prop} (hy : plainFor y = true) (hav : (lg_sl av).length ≤ nL) (body : ∀ X : zX, zOK X cc y.cls nL ret fr lo → zPost X post → X.2.1.2.2.2.1.name = y.name → zL G → X.2.2.2.1 = G → zZ X 0 (lv_args 0 av) [] G) : zM l D cA b y cc nL ret fr lo av G post := by
  refine z_ofWF (cc := cc) (maxL := nL) (ret := ret) hy rfl ?_
  intro p e s m args below meth c s₁ B hml hv
  obtain ⟨rfl, hI, hK, hL⟩ := hv
  have hts := atoms_spec (ws := zws y cc nL ret) B.pre
  have hzl : ∀ (i : Nat) (av : List Value), zlv b (lv_args i av) = lv_args i (av.map (zv b)) := by
    intro i av
    induction av generalizing i with
    | nil => rfl
    | cons v vs ih =>
      show (i, zv b v) :: zlv b (lv_args _ vs) = (i, zv b v) :: lv_args _ (vs.map (zv b))
      rw [ih, zv_cat]
  have hsl := zlen b av
  have hl := lv_entry (av.map (zv b)) (n := nL) (by rw [hsl]; exact hav)
  rw [lg_entry_eq]
  generalize (lg_sl (av.map (zv b)) ++ List.replicate (nL - (lg_sl (av.map (zv b))).length) Slot.unset).toArray = ls at hl ⊢
  rw [← hzl] at hl
  exact body ((p, l, e, (headSpec (zws y cc nL ret) { frames := fr, cells := zGL - G.length, slots := zKL - zs G, locals := lo }).room, s), (m, (av.map (zv b)).toArray, below, meth, c), (D, cA, b, nL), G, MQ below (zQ D cA b post) (av.map (zv b)).toArray s (zGL - G.length) (zKL - zs G) (fun q => b ≤ q))
    ⟨B.exec, B.bytes, B.returns, hml, findClass_of_methodNamed B.named, fun w hw => hts w (List.mem_cons_of_mem _ hw), B.notSynchronized, hK, rfl, rfl, hI⟩ rfl (name_of_methodNamed B.named B.method).1 hL rfl ls s.heap [] 0 0 hl hI hL va_S.rf
end ZEntryF
