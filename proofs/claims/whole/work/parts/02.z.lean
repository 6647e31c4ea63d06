/-! Z: a method's walk over a heap of cells by their handles (the address is b + handle); the words of all tables for every method -/
abbrev zE : Type := (Nat × vp_A) ⊕ (Nat × List Value)
abbrev zH : Type := List zE
def zT : List Cond := lw_tbl.filter goodWord
def zv (b : Nat) (v : Value) : Value := match v with
  | .ref h => .ref (b + h)
  | w => w
def zr (b : Nat) (f : Nat → Option Nat) : Nat → Option Nat := fun j => (f j).map (fun h => b + h)
def za (b : Nat) (x : vp_A) : vp_A := match x with
  | (n, .inr (.inr (.inr (.inr f)))) => (n, .inr (.inr (.inr (.inr (zr b f)))))
  | y => y
def ze (cA : Nat → ClassId) (b : Nat) (e : zE) : va_E := match e with
  | .inl (t, x) => .inl (cA t, za b x)
  | .inr (ci, fs) => .inr (ci, fs.map (zv b))
def zsz (e : zE) : Nat := match e with
  | .inl (_, x) => x.1
  | .inr (_, fs) => fs.length
def zs : zH → Nat
  | [] => 0
  | e :: t => zsz e + zs t
theorem zs_set : ∀ {G : zH} {k : Nat} {e e' : zE}, G[k]? = some e → zsz e' = zsz e → zs (G.set k e') = zs G
  | [], k, e, e', h, _ => by simp at h
  | a :: t, 0, e, e', h, he => by
    simp at h
    subst h
    simp [zs, he]
  | a :: t, k + 1, e, e', h, he => by
    simp at h
    simp [zs, zs_set (G := t) h he]
theorem zs_push : ∀ (G : zH) (e : zE), zs (G ++ [e]) = zs G + zsz e
  | [], e => by simp [zs]
  | a :: t, e => by simp [zs, zs_push t e]; omega
theorem zv_cat (b : Nat) (v : Value) : (zv b v).category = v.category := by cases v <;> rfl
theorem zv_cats (b : Nat) (st : List Value) : ((st.map (zv b)).map fun v => v.category).sum = (st.map fun v => v.category).sum := by
  rw [List.map_map]
  congr 1
  apply List.map_congr_left
  intro v _
  exact zv_cat b v
/-- what stands beside the words: links between nest mates, arrays of references -/
def zNest : List Cond := [.methodLinkNest "PieceBook$Leaf" 65 ⟨"PieceBook", "storeOf", "(I)I"⟩ "PieceBook", .methodLinkNest "PieceBook$Page" 50 ⟨"PieceBook", "isOfWord", "(I)Z"⟩ "PieceBook", .methodLinkNest "PieceBook" 15 ⟨"PieceBook$Told", "<init>", "()V"⟩ "PieceBook", .methodLinkNest "PieceBook" 22 ⟨"PieceBook$Stores", "<init>", "()V"⟩ "PieceBook", .methodLinkNest "PieceBook" 29 ⟨"PieceBook$History", "<init>", "()V"⟩ "PieceBook", .methodLinkNest "PieceBook" 54 ⟨"PieceBook$Page", "<init>", "()V"⟩ "PieceBook"]
def zt (cA : Nat → ClassId) : List (ClassId × FieldType) := [(cA 0, .int), (cA 1, .long), (cA 2, .byte), (cA 3, .boolean), (cA 4, .object "PieceBook$Leaf"), (cA 5, .array .int)]
def zK (D : va_G) (cA : Nat → ClassId) (U : State) : Prop := va_K D vwCl (zt cA) U ∧ (∀ w ∈ zNest, va_Nw w U) ∧ va_AO "PieceBook$Leaf" U ∧ (∃ kA k0 : Class, U.vm.classes[cA 5]? = some kA ∧ kA.kind = .array (cA 0) (.array .int) ∧ U.vm.classes[cA 0]? = some k0) ∧ (Cond.arrayOver (.array .int)).before #[] U = true
theorem zK.a5 {cA : Nat → ClassId} {u U : State} (hvm : u.vm.Alike U.vm) (h : ∃ kA k0 : Class, u.vm.classes[cA 5]? = some kA ∧ kA.kind = .array (cA 0) (.array .int) ∧ u.vm.classes[cA 0]? = some k0) : ∃ kA k0 : Class, U.vm.classes[cA 5]? = some kA ∧ kA.kind = .array (cA 0) (.array .int) ∧ U.vm.classes[cA 0]? = some k0 := by
  obtain ⟨kA, k0, h1, h2, h3⟩ := h
  obtain ⟨k', hk', he⟩ := hvm.2.2 _ _ h1
  obtain ⟨k2, hk2, -⟩ := hvm.2.2 _ _ h3
  exact ⟨k', k2, hk', by rw [he]; exact h2, hk2⟩
theorem zK.warm {D : va_G} {cA : Nat → ClassId} {s U : State} (hW : s.WarmedH U.vm) (h : zK D cA s) : zK D cA U := by
  refine ⟨va_K.moved hW.alike h.1, fun w hw => ?_, va_AO.moved hW.alike h.2.2.1, zK.a5 hW.alike h.2.2.2.1, over_moved hW.alike h.2.2.2.2⟩
  have h1 := h.2.1 w hw
  simp only [zNest, List.mem_cons, List.not_mem_nil, or_false] at hw
  rcases hw with rfl | rfl | rfl | rfl | rfl | rfl <;> exact va_Nw.warmM hW h1
theorem zK.calling {D : va_G} {cA : Nat → ClassId} {U : State} {g : JFrame} {mk : MethodId} {a : Array Value} (h : zK D cA U) : zK D cA (U.calling g mk a) :=
  ⟨va_K.moved (u := U) (U := U.calling g mk a) (Vm.Alike.refl U.vm) h.1, fun w hw => by
    have h1 := h.2.1 w hw
    simp only [zNest, List.mem_cons, List.not_mem_nil, or_false] at hw
    rcases hw with rfl | rfl | rfl | rfl | rfl | rfl <;> exact va_Nw.same rfl (rfl : U.vm = (U.calling g mk a).vm) h1, va_AO.moved (u := U) (U := U.calling g mk a) (Vm.Alike.refl U.vm) h.2.2.1, zK.a5 (u := U) (U := U.calling g mk a) (Vm.Alike.refl U.vm) h.2.2.2.1, over_moved (u := U) (E := U.calling g mk a) (Vm.Alike.refl U.vm) h.2.2.2.2⟩
def zGL : Nat := 601024
def zKL : Nat := 7293034
/-- a cell of which nothing is told but its size: an object of the number 99 -/
def zvis (e : zE) : Bool := match e with
  | .inl _ => true
  | .inr (c, _) => c != 99
theorem zvis_of {ci : Nat} {q : vw_C} {fs : List Value} (h : vwCl[ci]? = some q) : zvis (.inr (ci, fs)) = true := by
  by_cases hc : ci = 99
  · subst hc
    cases h
  · simp [zvis, hc]
/-- the heap from b on is G: each cell as it is told, and of its size -/
def zI (D : va_G) (cA : Nat → ClassId) (b : Nat) (G : zH) (H : Heap) : Prop := H.size = b + G.length ∧ (∀ (k : Nat) (e : zE), G[k]? = some e → zvis e = true → va_at D vwCl (b + k, ze cA b e) H) ∧ ∀ (k : Nat) (e : zE), G[k]? = some e → ∃ c : Cell, H[b + k]? = some c ∧ c.slots.size = zsz e
def zL (G : zH) : Prop := G.length ≤ zGL ∧ zs G ≤ zKL
/-- a method's start and end -/
def zPc (D : va_G) (cA : Nat → ClassId) (b : Nat) (av : List Value) (G : zH) : Array Value → State → Prop := fun v U => v = (av.map (zv b)).toArray ∧ zI D cA b G U.heap ∧ zK D cA U ∧ zL G
def zQ (D : va_G) (cA : Nat → ClassId) (b : Nat) (post : Option Value → zH → Prop) : Array Value → State → Outcome → State → Prop := fun _ st oc t =>
  (∃ (r : Option Value) (G : zH), oc = .returned (r.map (zv b)) ∧ post r G ∧ zI D cA b G t.heap ∧ zL G) ∧ va_F (fun q => b ≤ q) st t
theorem zPc.blind {D : va_G} {cA : Nat → ClassId} {b : Nat} {av : List Value} {G : zH} : FrameBlind (zPc D cA b av G) := fun _ _ _ _ h => ⟨h.1, h.2.1, h.2.2.1.calling, h.2.2.2⟩
/-- the tables' words of a method: its own code ahead -/
def zws (y : MethodName) (cc : ByteArray) (n : Nat) (ret : Option FieldType) : List Cond := .code y cc n ret :: zT
/-- a method's contract: with the values av over the heap G it ends with post -/
def zM (l : Launch) (D : va_G) (cA : Nat → ClassId) (b : Nat) (y : MethodName) (cc : ByteArray) (n : Nat) (ret : Option FieldType) (fr lo : Nat) (av : List Value) (G : zH) (post : Option Value → zH → Prop) : Prop :=
  Met l y (zws y cc n ret) { frames := fr, cells := zGL - G.length, slots := zKL - zs G, locals := lo } (zPc D cA b av G) (zQ D cA b post) (zGL - G.length) (zKL - zs G) (fun q => b ≤ q)
/-- where a walk stands: the machine, the method, the names of classes, the heap at its start, its end -/
abbrev zX : Type := (Program × Launch × Env × Room × State) × (MethodId × Array Value × List Frame × Method × Code) × (va_G × (Nat → ClassId) × Nat × Nat) × zH × (State → Prop)
abbrev zW (X : zX) (H : Heap) (locs : List Loc) (cells slots : Nat) (Q : State → Prop) (g : JFrame) : Prop := W X.1.1 X.1.2.1 X.1.2.2.1 X.1.2.2.2.1 X.1.2.2.2.2 X.2.1.1 X.2.1.2.1 X.2.1.2.2.1 X.2.1.2.2.2.1 X.2.1.2.2.2.2 H locs cells slots Q g
def zlv (b : Nat) (lv : List (Nat × Value)) : List (Nat × Value) := lv.map fun q => (q.1, zv b q.2)
/-- what holds of the machine within a method: its code cc, of the class own, nL locals, ret, the room's frames and locals -/
def zOK (X : zX) (cc : ByteArray) (own : String) (nL : Nat) (ret : Option FieldType) (fr lo : Nat) : Prop :=
  X.1.1.tables.exec = Jvm.exec ∧ X.2.1.2.2.2.2.code = cc ∧ X.2.1.2.2.2.1.sig.returnType = ret ∧ X.2.1.2.2.2.2.maxLocals = nL ∧ X.1.2.2.2.2.vm.findClass own = some X.2.1.1.cls ∧ (∀ w ∈ zT, w.before X.2.1.2.1 X.1.2.2.2.2 = true) ∧ X.2.1.2.2.2.1.locks = false ∧ zK X.2.2.1.1 X.2.2.1.2.1 X.1.2.2.2.2 ∧ X.2.2.1.2.2.2 = nL ∧ X.1.2.2.2.1 = { frames := fr, cells := zGL - X.2.2.2.1.length, slots := zKL - zs X.2.2.2.1, locals := lo } ∧ zI X.2.2.1.1 X.2.2.1.2.1 X.2.2.1.2.2.1 X.2.2.2.1 X.1.2.2.2.2.heap
/-- at pc, with these locals, this stack, this heap, the method comes to its end -/
def zZ (X : zX) (pc : Nat) (lv : List (Nat × Value)) (st : List Value) (G : zH) : Prop :=
  ∀ (ls : Array Slot) (H : Heap) (locs : List Loc) (c1 c2 : Nat), lv_has ls X.2.2.1.2.2.2 (zlv X.2.2.1.2.2.1 lv) → zI X.2.2.1.1 X.2.2.1.2.1 X.2.2.1.2.2.1 G H → zL G → va_S (fun q => X.2.2.1.2.2.1 ≤ q) X.1.2.2.2.2.heap H locs →
    zW X H locs c1 c2 X.2.2.2.2 (F0 X.2.1.1 pc ls (st.map (zv X.2.2.1.2.2.1)))
section ZRules
variable {X : zX} {cc : ByteArray} {own : String} {nL fr lo : Nat} {ret : Option FieldType} {pc : Nat} {lv : List (Nat × Value)} {st : List Value} {G : zH} 
/-- a step that leaves locals and heap -/
theorem z_go {pc' : Nat} {st' : List Value} (f : ∀ (ls : Array Slot) (H : Heap) (locs : List Loc) (c1 c2 : Nat) (Q : State → Prop), zW X H locs c1 c2 Q (F0 X.2.1.1 pc' ls (st'.map (zv X.2.2.1.2.2.1))) → zW X H locs c1 c2 Q (F0 X.2.1.1 pc ls (st.map (zv X.2.2.1.2.2.1)))) (kk : zZ X pc' lv st' G) : zZ X pc lv st G :=
  fun ls H locs c1 c2 h1 h2 h3 h4 => f ls H locs _ _ _ (kk ls H locs c1 c2 h1 h2 h3 h4)
theorem z_iconst (C : zOK X cc own nL ret fr lo) {n : Int} {v : Int32} (hd : decode cc pc = .ok (.iconst n, 1)) (hv : Int32.ofInt n = v) (kk : zZ X (pc + 1) lv (.int v :: st) G) : zZ X pc lv st G := z_go (fun ls H locs c1 c2 Q q => lv_iconst C.1 C.2.1 hd hv q) kk
theorem z_bipush (C : zOK X cc own nL ret fr lo) {n : Int} {v : Int32} (hd : decode cc pc = .ok (.bipush n, 2)) (hv : (Int8.ofInt n).toInt32 = v) (kk : zZ X (pc + 2) lv (.int v :: st) G) : zZ X pc lv st G := z_go (fun ls H locs c1 c2 Q q => lv_bipush C.1 C.2.1 hd hv q) kk
theorem z_sipush (C : zOK X cc own nL ret fr lo) {n : Int} {v : Int32} (hd : decode cc pc = .ok (.sipush n, 3)) (hv : (Int16.ofInt n).toInt32 = v) (kk : zZ X (pc + 3) lv (.int v :: st) G) : zZ X pc lv st G := z_go (fun ls H locs c1 c2 Q q => lv_sipush C.1 C.2.1 hd hv q) kk
theorem z_lconst (C : zOK X cc own nL ret fr lo) {n : Fin 2} {v : Int64} (hd : decode cc pc = .ok (.lconst n, 1)) (hv : Int64.ofNat (n : Nat) = v) (kk : zZ X (pc + 1) lv (.long v :: st) G) : zZ X pc lv st G := z_go (fun ls H locs c1 c2 Q q => lv_lconst C.1 C.2.1 hd hv q) kk
theorem z_null (C : zOK X cc own nL ret fr lo) (hd : decode cc pc = .ok (.aconst_null, 1)) (kk : zZ X (pc + 1) lv (.null :: st) G) : zZ X pc lv st G := z_go (fun ls H locs c1 c2 Q q => lv_null C.1 C.2.1 hd q) kk
theorem z_ldc (C : zOK X cc own nL ret fr lo) {i : Nat} {v : Int32} (hd : decode cc pc = .ok (.ldc i, 2)) (hw : Jvm.Cond.constant own i v ∈ zT) (kk : zZ X (pc + 2) lv (.int v :: st) G) : zZ X pc lv st G := z_go (fun ls H locs c1 c2 Q q => lv_ldc C.1 C.2.1 C.2.2.2.2.1 (C.2.2.2.2.2.1 _ hw) hd q) kk
theorem z_ldcw (C : zOK X cc own nL ret fr lo) {i : Nat} {v : Int32} (hd : decode cc pc = .ok (.ldc_w i, 3)) (hw : Jvm.Cond.constant own i v ∈ zT) (kk : zZ X (pc + 3) lv (.int v :: st) G) : zZ X pc lv st G := z_go (fun ls H locs c1 c2 Q q => lv_ldcw C.1 C.2.1 C.2.2.2.2.1 (C.2.2.2.2.2.1 _ hw) hd q) kk
theorem z_ldc2 (C : zOK X cc own nL ret fr lo) {i : Nat} {v : Int64} (hd : decode cc pc = .ok (.ldc2_w i, 3)) (hw : Jvm.Cond.constantLong own i v ∈ zT) (kk : zZ X (pc + 3) lv (.long v :: st) G) : zZ X pc lv st G := z_go (fun ls H locs c1 c2 Q q => lv_ldc2 C.1 C.2.1 C.2.2.2.2.1 (C.2.2.2.2.2.1 _ hw) hd q) kk
theorem z_iadd (C : zOK X cc own nL ret fr lo) {x y : Int32} (hd : decode cc pc = .ok (.iadd, 1)) (kk : zZ X (pc + 1) lv (.int (x + y) :: st) G) : zZ X pc lv (.int y :: .int x :: st) G := z_go (fun ls H locs c1 c2 Q q => lv_iadd C.1 C.2.1 hd q) kk
theorem z_isub (C : zOK X cc own nL ret fr lo) {x y : Int32} (hd : decode cc pc = .ok (.isub, 1)) (kk : zZ X (pc + 1) lv (.int (x - y) :: st) G) : zZ X pc lv (.int y :: .int x :: st) G := z_go (fun ls H locs c1 c2 Q q => lv_isub C.1 C.2.1 hd q) kk
theorem z_imul (C : zOK X cc own nL ret fr lo) {x y : Int32} (hd : decode cc pc = .ok (.imul, 1)) (kk : zZ X (pc + 1) lv (.int (x * y) :: st) G) : zZ X pc lv (.int y :: .int x :: st) G := z_go (fun ls H locs c1 c2 Q q => lv_imul C.1 C.2.1 hd q) kk
theorem z_idiv (C : zOK X cc own nL ret fr lo) {x y : Int32} (hd : decode cc pc = .ok (.idiv, 1)) (hne : ¬ y = 0) (kk : zZ X (pc + 1) lv (.int (x / y) :: st) G) : zZ X pc lv (.int y :: .int x :: st) G := z_go (fun ls H locs c1 c2 Q q => lv_idiv C.1 C.2.1 hd hne q) kk
theorem z_irem (C : zOK X cc own nL ret fr lo) {x y : Int32} (hd : decode cc pc = .ok (.irem, 1)) (hne : ¬ y = 0) (kk : zZ X (pc + 1) lv (.int (x - x / y * y) :: st) G) : zZ X pc lv (.int y :: .int x :: st) G := z_go (fun ls H locs c1 c2 Q q => lv_irem C.1 C.2.1 hd hne q) kk
theorem z_iand (C : zOK X cc own nL ret fr lo) {x y : Int32} (hd : decode cc pc = .ok (.iand, 1)) (kk : zZ X (pc + 1) lv (.int (x &&& y) :: st) G) : zZ X pc lv (.int y :: .int x :: st) G := z_go (fun ls H locs c1 c2 Q q => lv_iand C.1 C.2.1 hd q) kk
theorem z_ior (C : zOK X cc own nL ret fr lo) {x y : Int32} (hd : decode cc pc = .ok (.ior, 1)) (kk : zZ X (pc + 1) lv (.int (x ||| y) :: st) G) : zZ X pc lv (.int y :: .int x :: st) G := z_go (fun ls H locs c1 c2 Q q => lv_ior C.1 C.2.1 hd q) kk
theorem z_ixor (C : zOK X cc own nL ret fr lo) {x y : Int32} (hd : decode cc pc = .ok (.ixor, 1)) (kk : zZ X (pc + 1) lv (.int (x ^^^ y) :: st) G) : zZ X pc lv (.int y :: .int x :: st) G := z_go (fun ls H locs c1 c2 Q q => lv_ixor C.1 C.2.1 hd q) kk
theorem z_ishl (C : zOK X cc own nL ret fr lo) {x y : Int32} (hd : decode cc pc = .ok (.ishl, 1)) (kk : zZ X (pc + 1) lv (.int (x <<< (y &&& 31)) :: st) G) : zZ X pc lv (.int y :: .int x :: st) G := z_go (fun ls H locs c1 c2 Q q => lv_ishl C.1 C.2.1 hd q) kk
theorem z_ishr (C : zOK X cc own nL ret fr lo) {x y : Int32} (hd : decode cc pc = .ok (.ishr, 1)) (kk : zZ X (pc + 1) lv (.int (x >>> (y &&& 31)) :: st) G) : zZ X pc lv (.int y :: .int x :: st) G := z_go (fun ls H locs c1 c2 Q q => lv_ishr C.1 C.2.1 hd q) kk
theorem z_iushr (C : zOK X cc own nL ret fr lo) {x y : Int32} (hd : decode cc pc = .ok (.iushr, 1)) (kk : zZ X (pc + 1) lv (.int (x.toUInt32 >>> (y.toUInt32 &&& Int32.toUInt32 31)).toInt32 :: st) G) : zZ X pc lv (.int y :: .int x :: st) G := z_go (fun ls H locs c1 c2 Q q => lv_iushr C.1 C.2.1 hd rfl q) kk
theorem z_ladd (C : zOK X cc own nL ret fr lo) {x y : Int64} (hd : decode cc pc = .ok (.ladd, 1)) (kk : zZ X (pc + 1) lv (.long (x + y) :: st) G) : zZ X pc lv (.long y :: .long x :: st) G := z_go (fun ls H locs c1 c2 Q q => lv_ladd C.1 C.2.1 hd q) kk
theorem z_lcmp (C : zOK X cc own nL ret fr lo) {x y : Int64} (hd : decode cc pc = .ok (.lcmp, 1)) (kk : zZ X (pc + 1) lv (.int (lg_cmp x y) :: st) G) : zZ X pc lv (.long y :: .long x :: st) G := z_go (fun ls H locs c1 c2 Q q => W.lcmp C.1 C.2.1 hd q) kk
theorem z_i2l (C : zOK X cc own nL ret fr lo) {x : Int32} (hd : decode cc pc = .ok (.i2l, 1)) (kk : zZ X (pc + 1) lv (.long x.toInt64 :: st) G) : zZ X pc lv (.int x :: st) G := z_go (fun ls H locs c1 c2 Q q => lv_i2l C.1 C.2.1 hd rfl q) kk
theorem z_i2b (C : zOK X cc own nL ret fr lo) {x : Int32} (hd : decode cc pc = .ok (.i2b, 1)) (kk : zZ X (pc + 1) lv (.int x.toInt8.toInt32 :: st) G) : zZ X pc lv (.int x :: st) G := z_go (fun ls H locs c1 c2 Q q => lv_i2b C.1 C.2.1 hd rfl q) kk
theorem z_dup (C : zOK X cc own nL ret fr lo) {v : Value} (hd : decode cc pc = .ok (.dup, 1)) (hv : v.category = 1) (kk : zZ X (pc + 1) lv (v :: v :: st) G) : zZ X pc lv (v :: st) G := z_go (fun ls H locs c1 c2 Q q => lv_dup C.1 C.2.1 hd ((zv_cat _ v).trans hv) q) kk
theorem z_dup2 (C : zOK X cc own nL ret fr lo) {v w : Value} (hd : decode cc pc = .ok (.dup2, 1)) (hv : v.category = 1) (hw : w.category = 1) (kk : zZ X (pc + 1) lv (v :: w :: v :: w :: st) G) : zZ X pc lv (v :: w :: st) G := z_go (fun ls H locs c1 c2 Q q => lv_dup2_11 C.1 C.2.1 hd ((zv_cat _ v).trans hv) ((zv_cat _ w).trans hw) q) kk
theorem z_pop (C : zOK X cc own nL ret fr lo) {v : Value} (hd : decode cc pc = .ok (.pop, 1)) (hv : v.category = 1) (kk : zZ X (pc + 1) lv st G) : zZ X pc lv (v :: st) G := z_go (fun ls H locs c1 c2 Q q => lv_pop C.1 C.2.1 hd ((zv_cat _ v).trans hv) q) kk
theorem z_goto (C : zOK X cc own nL ret fr lo) {off : Int} {tgt : Nat} (hd : decode cc pc = .ok (.goto off, 3)) (ht : (pc : Int) + off = (tgt : Int)) (kk : zZ X tgt lv st G) : zZ X pc lv st G := z_go (fun ls H locs c1 c2 Q q => lv_goto C.1 C.2.1 hd ht q) kk
/-- a branch -/
theorem z_br {c : Prop} {pt pf : Nat} {st' : List Value} (f : ∀ (ls : Array Slot) (H : Heap) (locs : List Loc) (c1 c2 : Nat) (Q : State → Prop), (c → zW X H locs c1 c2 Q (F0 X.2.1.1 pt ls (st'.map (zv X.2.2.1.2.2.1)))) → (¬ c → zW X H locs c1 c2 Q (F0 X.2.1.1 pf ls (st'.map (zv X.2.2.1.2.2.1)))) → zW X H locs c1 c2 Q (F0 X.2.1.1 pc ls (st.map (zv X.2.2.1.2.2.1))))
    (kt : c → zZ X pt lv st' G) (kf : ¬ c → zZ X pf lv st' G) : zZ X pc lv st G := by
  exact fun ls H locs c1 c2 h1 h2 h3 h4 => f ls H locs _ _ _ (fun h => kt h ls H locs c1 c2 h1 h2 h3 h4) (fun h => kf h ls H locs c1 c2 h1 h2 h3 h4)
theorem z_if_eq (C : zOK X cc own nL ret fr lo) {x : Int32} {off : Int} {tgt : Nat} (hd : decode cc pc = .ok (.ifCond .eq off, 3)) (ht : (pc : Int) + off = (tgt : Int)) (kt : x = 0 → zZ X tgt lv st G) (kf : ¬ x = 0 → zZ X (pc + 3) lv st G) : zZ X pc lv (.int x :: st) G := z_br (fun ls H locs c1 c2 Q a b => lv_if_eq C.1 C.2.1 hd ht a b) kt kf
theorem z_if_ne (C : zOK X cc own nL ret fr lo) {x : Int32} {off : Int} {tgt : Nat} (hd : decode cc pc = .ok (.ifCond .ne off, 3)) (ht : (pc : Int) + off = (tgt : Int)) (kt : ¬ x = 0 → zZ X tgt lv st G) (kf : x = 0 → zZ X (pc + 3) lv st G) : zZ X pc lv (.int x :: st) G := z_br (fun ls H locs c1 c2 Q a b => lv_if_ne C.1 C.2.1 hd ht b a) kf kt
theorem z_if_lt (C : zOK X cc own nL ret fr lo) {x : Int32} {off : Int} {tgt : Nat} (hd : decode cc pc = .ok (.ifCond .lt off, 3)) (ht : (pc : Int) + off = (tgt : Int)) (kt : x < 0 → zZ X tgt lv st G) (kf : ¬ x < 0 → zZ X (pc + 3) lv st G) : zZ X pc lv (.int x :: st) G := z_br (fun ls H locs c1 c2 Q a b => lv_if_lt C.1 C.2.1 hd ht a b) kt kf
theorem z_if_ge (C : zOK X cc own nL ret fr lo) {x : Int32} {off : Int} {tgt : Nat} (hd : decode cc pc = .ok (.ifCond .ge off, 3)) (ht : (pc : Int) + off = (tgt : Int)) (kt : 0 ≤ x → zZ X tgt lv st G) (kf : ¬ 0 ≤ x → zZ X (pc + 3) lv st G) : zZ X pc lv (.int x :: st) G := z_br (fun ls H locs c1 c2 Q a b => lv_if_ge C.1 C.2.1 hd ht a b) kt kf
theorem z_if_gt (C : zOK X cc own nL ret fr lo) {x : Int32} {off : Int} {tgt : Nat} (hd : decode cc pc = .ok (.ifCond .gt off, 3)) (ht : (pc : Int) + off = (tgt : Int)) (kt : 0 < x → zZ X tgt lv st G) (kf : ¬ 0 < x → zZ X (pc + 3) lv st G) : zZ X pc lv (.int x :: st) G := z_br (fun ls H locs c1 c2 Q a b => lv_if_gt C.1 C.2.1 hd ht a b) kt kf
theorem z_if_le (C : zOK X cc own nL ret fr lo) {x : Int32} {off : Int} {tgt : Nat} (hd : decode cc pc = .ok (.ifCond .le off, 3)) (ht : (pc : Int) + off = (tgt : Int)) (kt : x ≤ 0 → zZ X tgt lv st G) (kf : ¬ x ≤ 0 → zZ X (pc + 3) lv st G) : zZ X pc lv (.int x :: st) G := z_br (fun ls H locs c1 c2 Q a b => lv_if_le C.1 C.2.1 hd ht a b) kt kf
theorem z_ic_eq (C : zOK X cc own nL ret fr lo) {x y : Int32} {off : Int} {tgt : Nat} (hd : decode cc pc = .ok (.if_icmp .eq off, 3)) (ht : (pc : Int) + off = (tgt : Int)) (kt : x = y → zZ X tgt lv st G) (kf : ¬ x = y → zZ X (pc + 3) lv st G) : zZ X pc lv (.int y :: .int x :: st) G := z_br (fun ls H locs c1 c2 Q a b => lv_icmp_eq C.1 C.2.1 hd ht a b) kt kf
theorem z_ic_ne (C : zOK X cc own nL ret fr lo) {x y : Int32} {off : Int} {tgt : Nat} (hd : decode cc pc = .ok (.if_icmp .ne off, 3)) (ht : (pc : Int) + off = (tgt : Int)) (kt : ¬ x = y → zZ X tgt lv st G) (kf : x = y → zZ X (pc + 3) lv st G) : zZ X pc lv (.int y :: .int x :: st) G := z_br (fun ls H locs c1 c2 Q a b => lv_icmp_ne C.1 C.2.1 hd ht b a) kf kt
theorem z_ic_lt (C : zOK X cc own nL ret fr lo) {x y : Int32} {off : Int} {tgt : Nat} (hd : decode cc pc = .ok (.if_icmp .lt off, 3)) (ht : (pc : Int) + off = (tgt : Int)) (kt : x < y → zZ X tgt lv st G) (kf : ¬ x < y → zZ X (pc + 3) lv st G) : zZ X pc lv (.int y :: .int x :: st) G := z_br (fun ls H locs c1 c2 Q a b => lv_icmp_lt C.1 C.2.1 hd ht a b) kt kf
theorem z_ic_ge (C : zOK X cc own nL ret fr lo) {x y : Int32} {off : Int} {tgt : Nat} (hd : decode cc pc = .ok (.if_icmp .ge off, 3)) (ht : (pc : Int) + off = (tgt : Int)) (kt : y ≤ x → zZ X tgt lv st G) (kf : ¬ y ≤ x → zZ X (pc + 3) lv st G) : zZ X pc lv (.int y :: .int x :: st) G := z_br (fun ls H locs c1 c2 Q a b => lv_icmp_ge C.1 C.2.1 hd ht a b) kt kf
theorem z_ic_gt (C : zOK X cc own nL ret fr lo) {x y : Int32} {off : Int} {tgt : Nat} (hd : decode cc pc = .ok (.if_icmp .gt off, 3)) (ht : (pc : Int) + off = (tgt : Int)) (kt : y < x → zZ X tgt lv st G) (kf : ¬ y < x → zZ X (pc + 3) lv st G) : zZ X pc lv (.int y :: .int x :: st) G := z_br (fun ls H locs c1 c2 Q a b => lv_icmp_gt C.1 C.2.1 hd ht a b) kt kf
theorem z_ic_le (C : zOK X cc own nL ret fr lo) {x y : Int32} {off : Int} {tgt : Nat} (hd : decode cc pc = .ok (.if_icmp .le off, 3)) (ht : (pc : Int) + off = (tgt : Int)) (kt : x ≤ y → zZ X tgt lv st G) (kf : ¬ x ≤ y → zZ X (pc + 3) lv st G) : zZ X pc lv (.int y :: .int x :: st) G := z_br (fun ls H locs c1 c2 Q a b => lv_icmp_le C.1 C.2.1 hd ht a b) kt kf
theorem z_nonnull (C : zOK X cc own nL ret fr lo) {h : Nat} {off : Int} {tgt : Nat} (hd : decode cc pc = .ok (.ifnonnull off, 3)) (ht : (pc : Int) + off = (tgt : Int)) (kk : zZ X tgt lv st G) : zZ X pc lv (.ref h :: st) G := z_go (fun ls H locs c1 c2 Q q => lv_ifnonnull C.1 C.2.1 hd ht q) kk
theorem z_nonnullN (C : zOK X cc own nL ret fr lo) {off : Int} (hd : decode cc pc = .ok (.ifnonnull off, 3)) (kk : zZ X (pc + 3) lv st G) : zZ X pc lv (.null :: st) G := z_go (fun ls H locs c1 c2 Q q => lv_ifnonnullN C.1 C.2.1 hd q) kk
theorem z_lookup (C : zOK X cc own nL ret fr lo) {dflt : Int} {ps : Array (Int × Int)} {len : Nat} {x : Int32} {off : Int} {tgt : Nat} (hd : decode cc pc = .ok (.lookupswitch dflt ps, len)) (hp : (ps.toList.zip (ps.toList.drop 1)).all (fun (a, next) => a.1 < next.1) = true) (ho : Op.lookupswitch.offset ps.toList dflt x.toInt = off) (ht : (pc : Int) + off = (tgt : Int)) (kk : zZ X tgt lv st G) : zZ X pc lv (.int x :: st) G := z_go (fun ls H locs c1 c2 Q q => lv_lookup C.1 C.2.1 hd hp ho ht q) kk
theorem z_tableIn (C : zOK X cc own nL ret fr lo) {dflt lo' hi : Int} {offs : Array Int} {len : Nat} {x : Int32} {off : Int} {tgt : Nat} (hd : decode cc pc = .ok (.tableswitch dflt lo' hi offs, len)) (h1 : ¬ x.toInt < lo') (h2 : ¬ hi < x.toInt) (ho : offs[(x.toInt - lo').toNat]? = some off) (ht : (pc : Int) + off = (tgt : Int)) (kk : zZ X tgt lv st G) : zZ X pc lv (.int x :: st) G := z_go (fun ls H locs c1 c2 Q q => lv_tableIn C.1 C.2.1 hd h1 h2 ho ht q) kk
theorem z_tableOut (C : zOK X cc own nL ret fr lo) {dflt lo' hi : Int} {offs : Array Int} {len : Nat} {x : Int32} {tgt : Nat} (hd : decode cc pc = .ok (.tableswitch dflt lo' hi offs, len)) (h : x.toInt < lo' ∨ hi < x.toInt) (ht : (pc : Int) + dflt = (tgt : Int)) (kk : zZ X tgt lv st G) : zZ X pc lv (.int x :: st) G := z_go (fun ls H locs c1 c2 Q q => lv_tableOut C.1 C.2.1 hd h ht q) kk
/-! locals -/
theorem z_loc {b : Nat} {ls : Array Slot} {n i j : Nat} {v : Value} (h : lv_has ls n (zlv b lv)) (hj : lv[j]? = some (i, v)) : ls[i]? = some (.val (zv b v)) :=
  lv_at h j (by rw [zlv, List.getElem?_map, hj]; rfl)
/-- a load: locals stay -/
theorem z_ld {pc' i j : Nat} {v : Value} (hj : lv[j]? = some (i, v)) (f : ∀ (ls : Array Slot) (H : Heap) (locs : List Loc) (c1 c2 : Nat) (Q : State → Prop), ls[i]? = some (.val (zv X.2.2.1.2.2.1 v)) → zW X H locs c1 c2 Q (F0 X.2.1.1 pc' ls ((v :: st).map (zv X.2.2.1.2.2.1))) → zW X H locs c1 c2 Q (F0 X.2.1.1 pc ls (st.map (zv X.2.2.1.2.2.1)))) (kk : zZ X pc' lv (v :: st) G) : zZ X pc lv st G :=
  fun ls H locs c1 c2 h1 h2 h3 h4 => f ls H locs _ _ _ (z_loc h1 hj) (kk ls H locs c1 c2 h1 h2 h3 h4)
theorem z_iload_n (C : zOK X cc own nL ret fr lo) {n : Fin 4} {i : Nat} {x : Int32} (j : Nat) (hd : decode cc pc = .ok (.iload_n n, 1)) (hi : (n : Nat) = i) (hj : lv[j]? = some (i, .int x)) (kk : zZ X (pc + 1) lv (.int x :: st) G) : zZ X pc lv st G := z_ld hj (fun ls H locs c1 c2 Q a q => lv_iload_n C.1 C.2.1 hd hi a q) kk
theorem z_iload (C : zOK X cc own nL ret fr lo) {i : Nat} {x : Int32} (j : Nat) (hd : decode cc pc = .ok (.iload i, 2)) (hj : lv[j]? = some (i, .int x)) (kk : zZ X (pc + 2) lv (.int x :: st) G) : zZ X pc lv st G := z_ld hj (fun ls H locs c1 c2 Q a q => lv_iload C.1 C.2.1 hd a q) kk
theorem z_lload_n (C : zOK X cc own nL ret fr lo) {n : Fin 4} {i : Nat} {x : Int64} (j : Nat) (hd : decode cc pc = .ok (.lload_n n, 1)) (hi : (n : Nat) = i) (hj : lv[j]? = some (i, .long x)) (kk : zZ X (pc + 1) lv (.long x :: st) G) : zZ X pc lv st G := z_ld hj (fun ls H locs c1 c2 Q a q => lv_lload_n C.1 C.2.1 hd hi a q) kk
theorem z_lload (C : zOK X cc own nL ret fr lo) {i : Nat} {x : Int64} (j : Nat) (hd : decode cc pc = .ok (.lload i, 2)) (hj : lv[j]? = some (i, .long x)) (kk : zZ X (pc + 2) lv (.long x :: st) G) : zZ X pc lv st G := z_ld hj (fun ls H locs c1 c2 Q a q => lv_lload C.1 C.2.1 hd a q) kk
theorem z_aload_n (C : zOK X cc own nL ret fr lo) {n : Fin 4} {i h : Nat} (j : Nat) (hd : decode cc pc = .ok (.aload_n n, 1)) (hi : (n : Nat) = i) (hj : lv[j]? = some (i, .ref h)) (kk : zZ X (pc + 1) lv (.ref h :: st) G) : zZ X pc lv st G := z_ld hj (fun ls H locs c1 c2 Q a q => lv_aload_n C.1 C.2.1 hd hi a q) kk
theorem z_aload (C : zOK X cc own nL ret fr lo) {i h : Nat} (j : Nat) (hd : decode cc pc = .ok (.aload i, 2)) (hj : lv[j]? = some (i, .ref h)) (kk : zZ X (pc + 2) lv (.ref h :: st) G) : zZ X pc lv st G := z_ld hj (fun ls H locs c1 c2 Q a q => lv_aload C.1 C.2.1 hd a q) kk
/-- what a store leaves of the listed locals -/
def zput (lv : List (Nat × Value)) (i : Nat) (v : Value) : List (Nat × Value) := (i, v) :: lv.filter (fun q => !(q.1 == i) && !(q.1 + 1 == i && q.2.category == 2))
def zput2 (lv : List (Nat × Value)) (i : Nat) (v : Value) : List (Nat × Value) := (i, v) :: lv.filter (fun q => !(q.1 == i) && (!(q.1 == i + 1) && !(q.1 + 1 == i && q.2.category == 2)))
theorem zput_map (b : Nat) (lv : List (Nat × Value)) (i : Nat) (v : Value) : (i, zv b v) :: (zlv b lv).filter (fun q => !(q.1 == i) && !(q.1 + 1 == i && q.2.category == 2)) = zlv b (zput lv i v) := by
  simp only [zlv, zput, List.map_cons, List.filter_map]
  congr 2
  apply List.filter_congr
  intro q _
  simp [Function.comp, zv_cat]
theorem zput2_map (b : Nat) (lv : List (Nat × Value)) (i : Nat) (v : Value) : (i, zv b v) :: (zlv b lv).filter (fun q => !(q.1 == i) && (!(q.1 == i + 1) && !(q.1 + 1 == i && q.2.category == 2))) = zlv b (zput2 lv i v) := by
  simp only [zlv, zput2, List.map_cons, List.filter_map]
  congr 2
  apply List.filter_congr
  intro q _
  simp [Function.comp, zv_cat]
theorem z_st {pc' : Nat} {lv' : List (Nat × Value)} {st' : List Value} (f : ∀ (ls : Array Slot) (H : Heap) (locs : List Loc) (c1 c2 : Nat) (Q : State → Prop), lv_has ls X.2.2.1.2.2.2 (zlv X.2.2.1.2.2.1 lv) → (∀ ls' : Array Slot, lv_has ls' X.2.2.1.2.2.2 (zlv X.2.2.1.2.2.1 lv') → zW X H locs c1 c2 Q (F0 X.2.1.1 pc' ls' (st'.map (zv X.2.2.1.2.2.1)))) → zW X H locs c1 c2 Q (F0 X.2.1.1 pc ls (st.map (zv X.2.2.1.2.2.1)))) (kk : zZ X pc' lv' st' G) : zZ X pc lv st G :=
  fun ls H locs c1 c2 h1 h2 h3 h4 => f ls H locs _ _ _ h1 (fun ls' h' => kk ls' H locs c1 c2 h' h2 h3 h4)
theorem z_istore_n (C : zOK X cc own nL ret fr lo) {n : Fin 4} {i : Nat} {x : Int32} {lv' : List (Nat × Value)} (hd : decode cc pc = .ok (.istore_n n, 1)) (hi : (n : Nat) = i) (hn : i < nL) (hl : zput lv i (.int x) = lv') (kk : zZ X (pc + 1) lv' st G) : zZ X pc lv (.int x :: st) G :=
  z_st (fun ls H locs c1 c2 Q a q => lv_istore_n C.1 C.2.1 hd hi a (by rw [C.2.2.2.2.2.2.2.2.1]; exact hn) (zput_map _ lv i (.int x)) (by rw [hl]; exact q)) kk
theorem z_istore (C : zOK X cc own nL ret fr lo) {i : Nat} {x : Int32} {lv' : List (Nat × Value)} (hd : decode cc pc = .ok (.istore i, 2)) (hn : i < nL) (hl : zput lv i (.int x) = lv') (kk : zZ X (pc + 2) lv' st G) : zZ X pc lv (.int x :: st) G :=
  z_st (fun ls H locs c1 c2 Q a q => lv_istore C.1 C.2.1 hd a (by rw [C.2.2.2.2.2.2.2.2.1]; exact hn) (zput_map _ lv i (.int x)) (by rw [hl]; exact q)) kk
theorem z_astore_n (C : zOK X cc own nL ret fr lo) {n : Fin 4} {i h : Nat} {lv' : List (Nat × Value)} (hd : decode cc pc = .ok (.astore_n n, 1)) (hi : (n : Nat) = i) (hn : i < nL) (hl : zput lv i (.ref h) = lv') (kk : zZ X (pc + 1) lv' st G) : zZ X pc lv (.ref h :: st) G :=
  z_st (fun ls H locs c1 c2 Q a q => lv_astore_n C.1 C.2.1 hd hi a (by rw [C.2.2.2.2.2.2.2.2.1]; exact hn) (zput_map _ lv i (.ref h)) (by rw [hl]; exact q)) kk
theorem z_astore (C : zOK X cc own nL ret fr lo) {i h : Nat} {lv' : List (Nat × Value)} (hd : decode cc pc = .ok (.astore i, 2)) (hn : i < nL) (hl : zput lv i (.ref h) = lv') (kk : zZ X (pc + 2) lv' st G) : zZ X pc lv (.ref h :: st) G :=
  z_st (fun ls H locs c1 c2 Q a q => lv_astore C.1 C.2.1 hd a (by rw [C.2.2.2.2.2.2.2.2.1]; exact hn) (zput_map _ lv i (.ref h)) (by rw [hl]; exact q)) kk
theorem z_lstore (C : zOK X cc own nL ret fr lo) {i : Nat} {x : Int64} {lv' : List (Nat × Value)} (hd : decode cc pc = .ok (.lstore i, 2)) (hn : i + 1 < nL) (hl : zput2 lv i (.long x) = lv') (kk : zZ X (pc + 2) lv' st G) : zZ X pc lv (.long x :: st) G :=
  z_st (fun ls H locs c1 c2 Q a q => lv_lstore C.1 C.2.1 hd a (by rw [C.2.2.2.2.2.2.2.2.1]; exact hn) (zput2_map _ lv i (.long x)) (by rw [hl]; exact q)) kk
theorem z_iinc (C : zOK X cc own nL ret fr lo) {i : Nat} {n : Int} {x v : Int32} {lv' : List (Nat × Value)} (j : Nat) (hd : decode cc pc = .ok (.iinc i n, 3)) (hj : lv[j]? = some (i, .int x)) (hv : x + Int32.ofInt n = v) (hn : i < nL) (hl : zput lv i (.int v) = lv') (kk : zZ X (pc + 3) lv' st G) : zZ X pc lv st G :=
  z_st (fun ls H locs c1 c2 Q a q => lv_iinc (k := j) C.1 C.2.1 hd a (by rw [zlv, List.getElem?_map, hj]; rfl) hv (by rw [C.2.2.2.2.2.2.2.2.1]; exact hn) (zput_map _ lv i (.int v)) (by rw [hl]; exact q)) kk
/-- fewer locals, in any order -/
theorem z_sub {lv' : List (Nat × Value)} (ks : List Nat) (hl : lv_pick lv ks = lv') (kk : zZ X pc lv' st G) : zZ X pc lv st G :=
  fun ls H locs c1 c2 h1 h2 h3 h4 => kk ls H locs c1 c2 (lv_sub h1 ks (by
    subst hl
    simp only [lv_pick, zlv, List.map_filterMap, List.getElem?_map])) h2 h3 h4
end ZRules
