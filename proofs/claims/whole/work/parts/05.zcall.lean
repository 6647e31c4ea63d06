/-! Z: calls -/
theorem zT_good : ∀ w ∈ zT, (w.onTables && w.keeps) = true ∨ ∃ ty, w = .arrayClass ty := fun w hw => good_of_word (List.mem_filter.mp hw).2
theorem zT_in {ws : List Cond} (h : ∀ w ∈ ws, w ∈ zT) : GoodIn zT ws := fun w hw => ⟨h w hw, zT_good w (h w hw)⟩
theorem zT_ws {y : MethodName} {cc : ByteArray} {n : Nat} {ret : Option FieldType} (h : Cond.code y cc n ret ∈ zT) : ∀ w ∈ zws y cc n ret, w ∈ zT := fun w hw => (List.mem_cons.mp hw).elim (fun e => e ▸ h) id
/-- a call's words: virtual, static, of a constructor -/
def zWV (own : String) (index : Nat) (y : MethodName) (cc : ByteArray) (n : Nat) (ret : Option FieldType) (k : Nat) : Prop := Cond.methodLink own index y ∈ zT ∧ Cond.instanceMethod y ∈ zT ∧ Cond.selects y.cls y y ∈ zT ∧ Cond.initialized y.cls ∈ zT ∧ Cond.code y cc n ret ∈ zT ∧ y.cls ≠ "java/lang/invoke/MethodHandle" ∧ y.cls ≠ "java/lang/invoke/VarHandle" ∧ (parseMethodDescriptor y.desc).map (fun d => d.parameters.length) = some k
def zWS (own : String) (index : Nat) (y : MethodName) (cc : ByteArray) (n : Nat) (ret : Option FieldType) (k : Nat) : Prop := Cond.methodLink own index y ∈ zT ∧ Cond.static y ∈ zT ∧ Cond.initialized y.cls ∈ zT ∧ Cond.code y cc n ret ∈ zT ∧ y.cls ≠ "java/lang/invoke/MethodHandle" ∧ y.cls ≠ "java/lang/invoke/VarHandle" ∧ (parseMethodDescriptor y.desc).map (fun d => d.parameters.length) = some k
def zWI (own : String) (index : Nat) (y : MethodName) (cc : ByteArray) (n : Nat) (k : Nat) : Prop := Cond.methodLink own index y ∈ zT ∧ Cond.instanceMethod y ∈ zT ∧ Cond.initialized y.cls ∈ zT ∧ Cond.code y cc n none ∈ zT ∧ y.cls ≠ "java/lang/invoke/MethodHandle" ∧ y.cls ≠ "java/lang/invoke/VarHandle" ∧ (parseMethodDescriptor y.desc).map (fun d => d.parameters.length) = some k
/-- .. of nest mates -/
def zWSN (own : String) (index : Nat) (y : MethodName) (cc : ByteArray) (n : Nat) (ret : Option FieldType) (k : Nat) : Prop := Cond.methodLinkNest own index y "PieceBook" ∈ zNest ∧ Cond.static y ∈ zT ∧ Cond.initialized y.cls ∈ zT ∧ Cond.code y cc n ret ∈ zT ∧ y.cls ≠ "java/lang/invoke/MethodHandle" ∧ y.cls ≠ "java/lang/invoke/VarHandle" ∧ (parseMethodDescriptor y.desc).map (fun d => d.parameters.length) = some k
def zWIN (own : String) (index : Nat) (y : MethodName) (cc : ByteArray) (n : Nat) (k : Nat) : Prop := Cond.methodLinkNest own index y "PieceBook" ∈ zNest ∧ Cond.instanceMethod y ∈ zT ∧ Cond.initialized y.cls ∈ zT ∧ Cond.code y cc n none ∈ zT ∧ y.cls ≠ "java/lang/invoke/MethodHandle" ∧ y.cls ≠ "java/lang/invoke/VarHandle" ∧ (parseMethodDescriptor y.desc).map (fun d => d.parameters.length) = some k
section ZCall
variable {X : zX} {cc : ByteArray} {own : String} {nL fr lo : Nat} {ret : Option FieldType} {pc : Nat} {lv : List (Nat × Value)} {st rest : List Value} {G G' : zH}
theorem z_run {H : Heap} {locs : List Loc} {c1 c2 mc ms : Nat} {ls : Array Slot} {a : Array Value} {post : Option Value → zH → Prop} (h1 : lv_has ls X.2.2.1.2.2.2 (zlv X.2.2.1.2.2.1 lv)) (h4 : va_S (fun q => X.2.2.1.2.2.1 ≤ q) X.1.2.2.2.2.heap H locs)
    (hr : va_Run X.1.1 X.1.2.1 X.1.2.2.1 X.1.2.2.2.1 X.1.2.2.2.2 X.2.1.1 X.2.1.2.1 X.2.1.2.2.1 X.2.1.2.2.2.1 X.2.1.2.2.2.2 H locs c1 c2 mc ms (F0 X.2.1.1 pc ls (st.map (zv X.2.2.1.2.2.1))) (rest.map (zv X.2.2.1.2.2.1)) (zQ X.2.2.1.1 X.2.2.1.2.1 X.2.2.1.2.2.1 post a) (fun q => X.2.2.1.2.2.1 ≤ q))
    (kk : ∀ (r : Option Value) (G' : zH), post r G' → zZ X (pc + 3) lv (r.toList ++ rest) G') : zW X H locs c1 c2 X.2.2.2.2 (F0 X.2.1.1 pc ls (st.map (zv X.2.2.1.2.2.1))) := by
  intro T hT St
  obtain ⟨v, st₀, t, T', L, e0, St', hL, e1, e2, ⟨⟨r, G', hv, hp, hI, hZ⟩, hF⟩, goes⟩ := hr T hT St
  cases hv
  unfold va_F at hF
  rw [e0] at hF
  obtain ⟨t2, a1, b1⟩ := kk r G' hp ls T'.heap (locs ++ L) _ _ h1 (by rw [e1]; exact hI) hZ ⟨Nat.le_trans h4.1 (by rw [e1]; exact hF.1), fun q g1 g2 => by rw [e1, hF.2 q (Nat.lt_of_lt_of_le g1 h4.1) g2]; exact h4.2.1 q g1 g2, fun q hq => by
      rcases List.mem_append.mp hq with g | g
      · exact h4.2.2 q g
      · exact hL q g⟩ T' rfl St'
  refine ⟨t2, goes t2 ?_, b1⟩
  have e3 : (r.toList ++ rest).map (zv X.2.2.1.2.2.1) = (r.map (zv X.2.2.1.2.2.1)).toList ++ rest.map (zv X.2.2.1.2.2.1) := by cases r <;> rfl
  rw [e3] at a1
  exact a1
theorem z_fit (C : zOK X cc own nL ret fr lo) (h3 : zL G) (t1 : X.2.2.2.1.length ≤ G.length) (t2 : zs X.2.2.2.1 ≤ zs G) : G.length - X.2.2.2.1.length + (zGL - G.length) ≤ X.1.2.2.2.1.cells ∧ zs G - zs X.2.2.2.1 + (zKL - zs G) ≤ X.1.2.2.2.1.slots := by
  obtain ⟨r1, r2, r3, r4⟩ := C.room
  have := h3.1
  have := h3.2
  rw [r2, r3]
  omega
theorem z_pre (C : zOK X cc own nL ret fr lo) {H : Heap} {av : List Value} (h2 : zI X.2.2.1.1 X.2.2.1.2.1 X.2.2.1.2.2.1 G H) (h3 : zL G) : ∀ U : State, U.heap = H → X.1.2.2.2.2.WarmedH U.vm → zPc X.2.2.1.1 X.2.2.1.2.1 X.2.2.1.2.2.1 av G (av.map (zv X.2.2.1.2.2.1)).toArray U := fun U hU hW => ⟨rfl, by rw [hU]; exact h2, C.2.2.2.2.2.2.2.1.warm hW, h3⟩
variable {y : MethodName} {code : ByteArray} {maxL fr' lo' index n : Nat} {yret : Option FieldType} {As : List Value} {post : Option Value → zH → Prop}
theorem z_callV (C : zOK X cc own nL ret fr lo) {h ci : Nat} {fs : List Value} {T : u_T} {N : Nat} (hd : decode cc pc = .ok (.invokevirtual index, 3)) (hw : zWV own index y code maxL yret n) (hM : zM X.1.2.1 X.2.2.1.1 X.2.2.1.2.1 X.2.2.1.2.2.1 y code maxL yret fr' lo' (.ref h :: As) G post) (he : G[h]? = some (.inr (ci, fs))) (hc : vwCl[ci]? = some (y.cls, T, N)) (hn : As.length = n) (hst : As.reverse ++ .ref h :: rest = st) (hrm : (rest.map fun v => v.category).sum ≤ 8) (hR : fr' + 1 ≤ fr ∧ 8 + (maxL + 11) + lo' ≤ lo) (kk : ∀ (r : Option Value) (G' : zH), post r G' → zZ X (pc + 3) lv (r.toList ++ rest) G') : zZ X pc lv st G := by
  intro ls H locs c1 c2 h1 h2 h3 h4
  obtain ⟨w1, w2, w3, w4, w5, w6, w7, w8⟩ := hw
  obtain ⟨r1, r2, r3, r4⟩ := C.room
  refine z_tight C h2 (fun t1 t2 => ?_)
  have hG : GoodIn zT (wsV own index y.cls y (zws y code maxL yret)) := zT_in (fun w hw => by
    rcases List.mem_append.mp hw with g | g
    · simp only [List.mem_cons, List.not_mem_nil, or_false] at g
      rcases g with rfl | rfl | rfl | rfl <;> assumption
    · exact zT_ws w5 w g)
  exact z_run h1 h4 (va_runV (As := As.map (zv X.2.2.1.2.2.1)) (rest := rest.map (zv X.2.2.1.2.2.1)) (b := X.2.2.1.2.2.1 + h) ⟨C.1, C.2.1, C.2.2.2.1, C.2.2.2.2.1, C.2.2.2.2.2.1⟩ hM (cwV n C.2.2.2.2.2.1 hG rfl rfl rfl ⟨rfl, w6, w7, w8⟩ (by rw [r1, r4]; exact hR)) ⟨zPc.blind, va_recv (q0 := 0) C.2.2.2.2.2.2.2.1.1 (h2.one he (zvis_of hc)) hc rfl, z_pre C h2 h3⟩ rfl (by simpa using hn) (h1.1.trans C.2.2.2.2.2.2.2.2.1) (by rw [← hst, List.map_append, List.map_reverse]; rfl) (lv_room (by rw [zv_cats]; exact hrm)) hd (z_fit C h3 t1 t2)) kk
theorem z_callS (C : zOK X cc own nL ret fr lo) (hd : decode cc pc = .ok (.invokestatic index, 3)) (hw : zWS own index y code maxL yret n) (hM : zM X.1.2.1 X.2.2.1.1 X.2.2.1.2.1 X.2.2.1.2.2.1 y code maxL yret fr' lo' As G post) (hn : As.length = n) (hst : As.reverse ++ rest = st) (hrm : (rest.map fun v => v.category).sum ≤ 8) (hR : fr' + 1 ≤ fr ∧ 8 + (maxL + 11) + lo' ≤ lo) (kk : ∀ (r : Option Value) (G' : zH), post r G' → zZ X (pc + 3) lv (r.toList ++ rest) G') : zZ X pc lv st G := by
  intro ls H locs c1 c2 h1 h2 h3 h4
  obtain ⟨w1, w2, w4, w5, w6, w7, w8⟩ := hw
  obtain ⟨r1, r2, r3, r4⟩ := C.room
  refine z_tight C h2 (fun t1 t2 => ?_)
  exact z_run h1 h4 (va_runS (As := As.map (zv X.2.2.1.2.2.1)) (rest := rest.map (zv X.2.2.1.2.2.1)) ⟨C.1, C.2.1, C.2.2.2.1, C.2.2.2.2.1, C.2.2.2.2.2.1⟩ hM ⟨callB_of n C.2.2.2.2.2.1 (zT_in (zT_ws w5)) rfl rfl rfl (C.2.2.2.2.2.1 _ w4) (C.2.2.2.2.2.1 _ w1) ⟨w6, w7, w8⟩ (by rw [r1, r4]; exact hR), C.2.2.2.2.2.1 _ w2⟩ ⟨zPc.blind, z_pre C h2 h3⟩ rfl (by simpa using hn) (h1.1.trans C.2.2.2.2.2.2.2.2.1) (by rw [← hst, List.map_append, List.map_reverse]) (lv_room (by rw [zv_cats]; exact hrm)) hd (z_fit C h3 t1 t2)) kk
theorem z_callI (C : zOK X cc own nL ret fr lo) {h : Nat} (hd : decode cc pc = .ok (.invokespecial index, 3)) (hw : zWI own index y code maxL n) (hy1 : y.name = "<init>") (hM : zM X.1.2.1 X.2.2.1.1 X.2.2.1.2.1 X.2.2.1.2.2.1 y code maxL none fr' lo' (.ref h :: As) G post) (hn : As.length = n) (hst : As.reverse ++ .ref h :: rest = st) (hrm : (rest.map fun v => v.category).sum ≤ 8) (hR : fr' + 1 ≤ fr ∧ 8 + (maxL + 11) + lo' ≤ lo) (kk : ∀ (r : Option Value) (G' : zH), post r G' → zZ X (pc + 3) lv (r.toList ++ rest) G') : zZ X pc lv st G := by
  intro ls H locs c1 c2 h1 h2 h3 h4
  obtain ⟨w1, w2, w4, w5, w6, w7, w8⟩ := hw
  obtain ⟨r1, r2, r3, r4⟩ := C.room
  refine z_tight C h2 (fun t1 t2 => ?_)
  exact z_run h1 h4 (va_runI (As := As.map (zv X.2.2.1.2.2.1)) (rest := rest.map (zv X.2.2.1.2.2.1)) (b := X.2.2.1.2.2.1 + h) ⟨C.1, C.2.1, C.2.2.2.1, C.2.2.2.2.1, C.2.2.2.2.2.1⟩ hM (cwI n C.2.2.2.2.2.1 (zT_in (zT_ws w5)) rfl rfl rfl (C.2.2.2.2.2.1 _ w4) (C.2.2.2.2.2.1 _ w1) (C.2.2.2.2.2.1 _ w2) hy1 ⟨w6, w7, w8⟩ (by rw [r1, r4]; exact hR)) ⟨zPc.blind, z_pre C h2 h3⟩ rfl (by simpa using hn) (h1.1.trans C.2.2.2.2.2.2.2.2.1) (by rw [← hst, List.map_append, List.map_reverse]; rfl) (lv_room (by rw [zv_cats]; exact hrm)) hd (z_fit C h3 t1 t2)) kk
theorem z_callSN (C : zOK X cc own nL ret fr lo) (hd : decode cc pc = .ok (.invokestatic index, 3)) (hw : zWSN own index y code maxL yret n) (hM : zM X.1.2.1 X.2.2.1.1 X.2.2.1.2.1 X.2.2.1.2.2.1 y code maxL yret fr' lo' As G post) (hn : As.length = n) (hst : As.reverse ++ rest = st) (hrm : (rest.map fun v => v.category).sum ≤ 8) (hR : fr' + 1 ≤ fr ∧ 8 + (maxL + 11) + lo' ≤ lo) (kk : ∀ (r : Option Value) (G' : zH), post r G' → zZ X (pc + 3) lv (r.toList ++ rest) G') : zZ X pc lv st G := by
  intro ls H locs c1 c2 h1 h2 h3 h4
  obtain ⟨w1, w2, w4, w5, w6, w7, w8⟩ := hw
  obtain ⟨r1, r2, r3, r4⟩ := C.room
  refine z_tight C h2 (fun t1 t2 => ?_)
  exact z_run h1 h4 (va_runSN (As := As.map (zv X.2.2.1.2.2.1)) (rest := rest.map (zv X.2.2.1.2.2.1)) ⟨C.1, C.2.1, C.2.2.2.1, C.2.2.2.2.1, C.2.2.2.2.2.1⟩ hM ⟨va_cnB n C.2.2.2.2.2.1 (zT_in (zT_ws w5)) rfl rfl rfl (C.2.2.2.2.2.2.2.1.2.1 _ w1) (C.2.2.2.2.2.1 _ w4) ⟨w6, w7, w8⟩ (by rw [r1, r4]; exact hR), C.2.2.2.2.2.1 _ w2, trivial⟩ ⟨zPc.blind, z_pre C h2 h3⟩ rfl (by simpa using hn) (h1.1.trans C.2.2.2.2.2.2.2.2.1) (by rw [← hst, List.map_append, List.map_reverse]) (lv_room (by rw [zv_cats]; exact hrm)) hd (z_fit C h3 t1 t2)) kk
theorem z_callIN (C : zOK X cc own nL ret fr lo) {h : Nat} (hd : decode cc pc = .ok (.invokespecial index, 3)) (hw : zWIN own index y code maxL n) (hy1 : y.name = "<init>") (hM : zM X.1.2.1 X.2.2.1.1 X.2.2.1.2.1 X.2.2.1.2.2.1 y code maxL none fr' lo' (.ref h :: As) G post) (hn : As.length = n) (hst : As.reverse ++ .ref h :: rest = st) (hrm : (rest.map fun v => v.category).sum ≤ 8) (hR : fr' + 1 ≤ fr ∧ 8 + (maxL + 11) + lo' ≤ lo) (kk : ∀ (r : Option Value) (G' : zH), post r G' → zZ X (pc + 3) lv (r.toList ++ rest) G') : zZ X pc lv st G := by
  intro ls H locs c1 c2 h1 h2 h3 h4
  obtain ⟨w1, w2, w4, w5, w6, w7, w8⟩ := hw
  obtain ⟨r1, r2, r3, r4⟩ := C.room
  refine z_tight C h2 (fun t1 t2 => ?_)
  exact z_run h1 h4 (va_runIN (As := As.map (zv X.2.2.1.2.2.1)) (rest := rest.map (zv X.2.2.1.2.2.1)) (b := X.2.2.1.2.2.1 + h) ⟨C.1, C.2.1, C.2.2.2.1, C.2.2.2.2.1, C.2.2.2.2.2.1⟩ hM ⟨va_cnB n C.2.2.2.2.2.1 (zT_in (zT_ws w5)) rfl rfl rfl (C.2.2.2.2.2.2.2.1.2.1 _ w1) (C.2.2.2.2.2.1 _ w4) ⟨w6, w7, w8⟩ (by rw [r1, r4]; exact hR), hy1, C.2.2.2.2.2.1 _ w2⟩ ⟨zPc.blind, z_pre C h2 h3⟩ rfl (by simpa using hn) (h1.1.trans C.2.2.2.2.2.2.2.2.1) (by rw [← hst, List.map_append, List.map_reverse]; rfl) (lv_room (by rw [zv_cats]; exact hrm)) hd (z_fit C h3 t1 t2)) kk
theorem z_objInit (C : zOK X cc own nL ret fr lo) {h : Nat} (hd : decode cc pc = .ok (.invokespecial index, 3)) (w1 : Cond.methodLink own index objectInit ∈ zT) (w2 : Cond.instanceMethod objectInit ∈ zT) (w3 : Cond.code objectInit ⟨#[0xb1]⟩ 1 none ∈ zT) (hrm : (st.map fun v => v.category).sum ≤ 8) (hfr : 1 ≤ fr) (hlo : 8 + 12 ≤ lo) (kk : zZ X (pc + 3) lv st G) : zZ X pc lv (.ref h :: st) G := by
  intro ls H locs c1 c2 h1 h2 h3 h4
  obtain ⟨r1, r2, r3, r4⟩ := C.room
  refine z_tight C h2 (fun t1 t2 => ?_)
  have hf := z_fit C h3 t1 t2
  exact W.objInit (g := F0 X.2.1.1 pc ls ((Value.ref h :: st).map (zv X.2.2.1.2.2.1))) (rest := st.map (zv X.2.2.1.2.2.1)) C.1 C.2.1 C.2.2.2.2.1 (C.2.2.2.2.2.1 _ w1) (C.2.2.2.2.2.1 _ w2) (C.2.2.2.2.2.1 _ w3) rfl (show ls.size = _ by rw [h1.1, C.2.2.2.1, C.2.2.2.2.2.2.2.2.1]) rfl hd (by rw [r1]; exact hfr) (by show 2 * 0 + _ + 12 ≤ _; rw [zv_cats, r4]; omega) (kk ls H locs _ _ h1 h2 h3 h4)
theorem z_mmax (C : zOK X cc own nL ret fr lo) {x z : Int32} (hd : decode cc pc = .ok (.invokestatic index, 3)) (w1 : Cond.methodLink own index Lib.Math.max.name ∈ zT) (w2 : Cond.static Lib.Math.max.name ∈ zT) (w3 : Cond.initialized "java/lang/Math" ∈ zT) (w4 : Cond.code Lib.Math.max.name Lib.Math.max.code 2 (some .int) ∈ zT) (hrm : (st.map fun v => v.category).sum + 13 ≤ lo) (hfr : 1 ≤ fr) (kk : zZ X (pc + 3) lv (.int (if x < z then z else x) :: st) G) : zZ X pc lv (.int z :: .int x :: st) G := by
  intro ls H locs c1 c2 h1 h2 h3 h4
  obtain ⟨r1, r2, r3, r4⟩ := C.room
  refine z_tight C h2 (fun t1 t2 => ?_)
  have hf := z_fit C h3 t1 t2
  exact va_mmax C.1 C.2.1 (by rw [h1.1, C.2.2.2.1, C.2.2.2.2.2.2.2.2.1]) C.2.2.2.2.1 (C.2.2.2.2.2.1 _ w1) (C.2.2.2.2.2.1 _ w2) (C.2.2.2.2.2.1 _ w3) (C.2.2.2.2.2.1 _ w4) (by rw [r1]; exact hfr) (by rw [zv_cats, r4]; exact hrm) (by omega) (by omega) hd (kk ls H locs _ _ h1 h2 h3 h4)
theorem z_mmin (C : zOK X cc own nL ret fr lo) {x z : Int32} (hd : decode cc pc = .ok (.invokestatic index, 3)) (w1 : Cond.methodLink own index Lib.Math.min.name ∈ zT) (w2 : Cond.static Lib.Math.min.name ∈ zT) (w3 : Cond.initialized "java/lang/Math" ∈ zT) (w4 : Cond.code Lib.Math.min.name Lib.Math.min.code 2 (some .int) ∈ zT) (hrm : (st.map fun v => v.category).sum + 13 ≤ lo) (hfr : 1 ≤ fr) (kk : zZ X (pc + 3) lv (.int (if z < x then z else x) :: st) G) : zZ X pc lv (.int z :: .int x :: st) G := by
  intro ls H locs c1 c2 h1 h2 h3 h4
  obtain ⟨r1, r2, r3, r4⟩ := C.room
  refine z_tight C h2 (fun t1 t2 => ?_)
  have hf := z_fit C h3 t1 t2
  exact va_mmin C.1 C.2.1 (by rw [h1.1, C.2.2.2.1, C.2.2.2.2.2.2.2.2.1]) C.2.2.2.2.1 (C.2.2.2.2.2.1 _ w1) (C.2.2.2.2.2.1 _ w2) (C.2.2.2.2.2.1 _ w3) (C.2.2.2.2.2.1 _ w4) (by rw [r1]; exact hfr) (by rw [zv_cats, r4]; exact hrm) (by omega) (by omega) hd (kk ls H locs _ _ h1 h2 h3 h4)
end ZCall
