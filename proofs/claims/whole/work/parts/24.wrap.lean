/-! the three that catch -/
def zwsW (y : MethodName) (cc : ByteArray) (n : Nat) (ret : Option FieldType) (hh : List (Nat × Nat × Nat × Nat)) : List Cond := .codeWith y cc n ret hh :: zT
def zMW (l : Launch) (D : va_G) (cA : Nat → ClassId) (b : Nat) (y : MethodName) (cc : ByteArray) (n : Nat) (ret : Option FieldType) (hh : List (Nat × Nat × Nat × Nat)) (fr lo : Nat) (av : List Value) (G : zH) (post : Option Value → zH → Prop) : Prop :=
  Met l y (zwsW y cc n ret hh) { frames := fr, cells := zGL - G.length, slots := zKL - zs G, locals := lo } (fun v U => zPc D cA b av G v U ∧ zX3 b U) (zQ D cA b post) (zGL - G.length) (zKL - zs G) (fun q => b ≤ q)
theorem z_ofWH {l : Launch} {y : MethodName} {ws ws' : List Cond} {rm : Room} {Pc : Array Value → State → Prop} {Qc : Array Value → State → Outcome → State → Prop} {mc ms : Nat} {free : Addr → Prop} {cc : ByteArray} {maxL : Nat} {ret : Option FieldType} {hh : List (Nat × Nat × Nat × Nat)}
    (hy : plainName y.cls = true) (hw : ws = Cond.codeWith y cc maxL ret hh :: ws')
    (body : ∀ p e s m args below meth c s₁, BodyLoose p l y (headSpec ws rm) cc maxL ret e s m args below meth c s₁ → c.maxLocals = maxL → Pc args s → W p l e (headSpec ws rm).room s m args below meth c s.heap [] 0 0 (MQ below Qc args s mc ms free) (entryFrame m args maxL)) : Met l y ws rm Pc Qc mc ms free := by
  refine MetFree.of_bodyS (code := cc) (maxLocals := maxL) (ret := ret) hy ?_ ?_
  · intro args s m h hn
    obtain ⟨m9, meth, c, hn9, h1, h2, h3, h4, -, h5, h6, -⟩ := Cond.codeWith_spec (atoms_spec (ws := ws) h _ (by rw [hw]; exact List.mem_cons_self))
    cases hn.symm.trans hn9
    exact ⟨meth, c, h1, h2, h3, h4, h5, h6⟩
  · intro p e s m args below meth c s₁ B hml hP _
    obtain ⟨t, a1, o, b1, b2, b3⟩ := body p e s m args below meth c s₁ B hml hP s₁ (by rw [B.state]; rfl) (Stand.of_body B)
    exact ⟨t, o, a1, b1, b2, b3⟩
section ZWrap
variable {X : zX} {cc : ByteArray} {own : String} {nL fr lo : Nat} {ret : Option FieldType} {pc : Nat} {lv : List (Nat × Value)} {st rest : List Value} {G G1 : zH}
theorem z_entryW {l : Launch} {D : va_G} {cA : Nat → ClassId} {b : Nat} {y : MethodName} {av : List Value} {post : Option Value → zH → Prop} {hh : List (Nat × Nat × Nat × Nat)} (hy : plainName y.cls = true) (hav : (lg_sl av).length ≤ nL) (body : ∀ X : zX, zOK X cc y.cls nL ret fr lo → zPost X post → X.1.2.1 = l → X.2.2.1.1 = D → X.2.2.1.2.1 = cA → X.2.2.1.2.2.1 = b → zX3 X.2.2.1.2.2.1 X.1.2.2.2.2 → X.2.1.2.2.2.2.exceptionTable.toList = tableOf hh → zZ X 0 (lv_args 0 av) [] G) : zMW l D cA b y cc nL ret hh fr lo av G post := by
  refine z_ofWH (cc := cc) (maxL := nL) (ret := ret) (hh := hh) hy rfl ?_
  intro p e s m args below meth c s₁ B hml hv
  obtain ⟨⟨rfl, hI, hK, hL⟩, h3⟩ := hv
  have hts := atoms_spec (ws := zwsW y cc nL ret hh) B.pre
  have htb := vx_table (x := y) B (hts _ List.mem_cons_self)
  have hzl : ∀ (i : Nat) (av : List Value), zlv b (lv_args i av) = lv_args i (av.map (zv b)) := by
    intro i av
    induction av generalizing i with
    | nil => rfl
    | cons v vs ih =>
      show (i, zv b v) :: zlv b (lv_args _ vs) = (i, zv b v) :: lv_args _ (vs.map (zv b))
      rw [ih, zv_cat]
  have hsl := zlen b av
  have hl := lv_entry (av.map (zv b)) (n := nL) (by rw [hsl]; exact hav)
  rw [lg_entry_eq]
  generalize (lg_sl (av.map (zv b)) ++ List.replicate (nL - (lg_sl (av.map (zv b))).length) Slot.unset).toArray = ls at hl ⊢
  rw [← hzl] at hl
  exact body ((p, l, e, (headSpec (zwsW y cc nL ret hh) { frames := fr, cells := zGL - G.length, slots := zKL - zs G, locals := lo }).room, s), (m, (av.map (zv b)).toArray, below, meth, c), (D, cA, b, nL), G, MQ below (zQ D cA b post) (av.map (zv b)).toArray s (zGL - G.length) (zKL - zs G) (fun q => b ≤ q))
    ⟨B.exec, B.bytes, B.returns, hml, findClass_of_methodNamed B.named, fun w hw => hts w (List.mem_cons_of_mem _ hw), B.notSynchronized, hK, rfl, rfl, hI⟩ rfl rfl rfl rfl rfl h3 htb ls s.heap [] 0 0 hl hI hL va_S.rf
theorem zPX.blind {D : va_G} {cA : Nat → ClassId} {b : Nat} {av : List Value} {G : zH} : FrameBlind (fun v U => zPc D cA b av G v U ∧ zX3 b U) := fun _ _ _ _ h => ⟨zPc.blind _ _ _ _ h.1, h.2.calling⟩
variable {y : MethodName} {code : ByteArray} {maxL fr' lo' index n : Nat} {yret : Option FieldType} {As : List Value}
/-- where a handler takes up: any locals, the thrown one alone on the stack -/
def zHd (X : zX) (pc : Nat) (G : zH) : Prop := ∀ (q : Addr) (ls : Array Slot) (H : Heap) (locs : List Loc) (c1 c2 : Nat), lv_has ls X.2.2.1.2.2.2 [] → zI X.2.2.1.1 X.2.2.1.2.1 X.2.2.1.2.2.1 G H → va_S (fun q => X.2.2.1.2.2.1 ≤ q) X.1.2.2.2.2.heap H locs → zW X H locs c1 c2 X.2.2.2.2 (F0 X.2.1.1 pc ls [.ref q])
theorem z_hd (C : zOK X cc own nL ret fr lo) {i : Nat} (hd : decode cc pc = .ok (.astore i, 2)) (hn : i < nL) (hL : zL G) (kk : zZ X (pc + 2) [] [] G) : zHd X pc G := fun q ls H locs c1 c2 h1 h2 h4 => lv_astore C.1 C.2.1 hd h1 (by rw [C.2.2.2.2.2.2.2.2.1]; exact hn) rfl (fun ls' h' => kk ls' H locs c1 c2 ⟨h'.1, h'.2.1, fun _ hm => nomatch hm⟩ h2 hL h4)
theorem z_hd_n (C : zOK X cc own nL ret fr lo) {k : Fin 4} {i : Nat} (hd : decode cc pc = .ok (.astore_n k, 1)) (hi : (k : Nat) = i) (hn : i < nL) (hL : zL G) (kk : zZ X (pc + 1) [] [] G) : zHd X pc G := fun q ls H locs c1 c2 h1 h2 h4 => lv_astore_n C.1 C.2.1 hd hi h1 (by rw [C.2.2.2.2.2.2.2.2.1]; exact hn) rfl (fun ls' h' => kk ls' H locs c1 c2 ⟨h'.1, h'.2.1, fun _ hm => nomatch hm⟩ h2 hL h4)
theorem z_callVX (C : zOK X cc own nL ret fr lo) (h30 : zX3 X.2.2.1.2.2.1 X.1.2.2.2.2) {h ci : Nat} {fs : List Value} {T : u_T} {N : Nat} (hd : decode cc pc = .ok (.invokevirtual index, 3)) (hw : zWV own index y code maxL yret n) (hM : zMT X.1.2.1 X.2.2.1.1 X.2.2.1.2.1 X.2.2.1.2.2.1 y code maxL yret fr' lo' (.ref h :: As) G G1) (he : G[h]? = some (.inr (ci, fs))) (hc : vwCl[ci]? = some (y.cls, T, N)) (hn : As.length = n) (hst : As.reverse ++ .ref h :: rest = st) (hrm : (rest.map fun v => v.category).sum ≤ 8) (hR : fr' + 1 ≤ fr ∧ 8 + (maxL + 11) + lo' ≤ lo)
    (x : ExceptionTableEntry) (ht : X.2.1.2.2.2.2.exceptionTable.toList = [x]) (hx : covers x pc = true) (h0 : x.catchType ≠ 0) (hlk : Cond.classLink own x.catchType NSE ∈ zT) (kk : ∀ O : zH, zO1 O → zHd X x.handlerPc (G1 ++ O)) : zZ X pc lv st G := by
  intro ls H locs c1 c2 h1 h2 h3 h4
  obtain ⟨w1, w2, w3, w4, w5, w6, w7, w8⟩ := hw
  obtain ⟨r1, r2, r3, r4⟩ := C.room
  refine z_tight C h2 (fun t1 t2 => ?_)
  have hG : GoodIn zT (wsV own index y.cls y (zws y code maxL yret)) := zT_in (fun w hw => by
    rcases List.mem_append.mp hw with g | g
    · simp only [List.mem_cons, List.not_mem_nil, or_false] at g
      rcases g with rfl | rfl | rfl | rfl <;> assumption
    · exact zT_ws w5 w g)
  have hr := vx_runV (As := As.map (zv X.2.2.1.2.2.1)) (rest := rest.map (zv X.2.2.1.2.2.1)) (b := X.2.2.1.2.2.1 + h) (H := H) (locs := locs) (cells := G.length - X.2.2.2.1.length) (slots := zs G - zs X.2.2.2.1) (p := X.1.1) (e := X.1.2.2.1) (R := X.1.2.2.2.1) (below := X.2.1.2.2.1) (meth := X.2.1.2.2.2.1) (g := F0 X.2.1.1 pc ls (st.map (zv X.2.2.1.2.2.1))) ⟨C.1, C.2.1, C.2.2.2.1, C.2.2.2.2.1, C.2.2.2.2.2.1⟩ hM (cwV n C.2.2.2.2.2.1 hG rfl rfl rfl ⟨rfl, w6, w7, w8⟩ (by rw [r1, r4]; exact hR)) ⟨zPX.blind, va_recv (q0 := 0) C.2.2.2.2.2.2.2.1.1 (h2.one he (zvis_of hc)) hc rfl, fun U hU hW => ⟨z_pre C h2 h3 U hU hW, h30.move hW (fun a ha hb => by rw [hU]; exact h4.2.1 a ha hb)⟩⟩ rfl (by simpa using hn) (h1.1.trans C.2.2.2.2.2.2.2.2.1) (by rw [← hst, List.map_append, List.map_reverse]; rfl) (lv_room (by rw [zv_cats]; exact hrm)) hd (z_fit C h3 t1 t2)
  intro T hT St
  rcases hr T hT St with ⟨v, st₀, t, T', L, e0, St', hL, e1, e2, hq, goes⟩ | ⟨q, st₀, t, T', L, E, ce, e0, St', hL, e1, e2, ⟨rfl, ⟨O, hO, hI⟩, hF⟩, hce, hcv, hcl, steps⟩
  · exact hq.elim
  · unfold va_F at hF
    rw [e0] at hF
    obtain ⟨t2, a1, b1⟩ := vx_catch (H := T'.heap) (ls := ls) (pc := pc) (rest := rest.map (zv X.2.2.1.2.2.1)) (name := NSE) C.2.2.2.2.1 [] x [] ht (fun z hz => nomatch hz) hx h0 (C.2.2.2.2.2.1 _ hlk) (va_Nw.use rfl (h30.1 (.castable NSE NSE) (by simp [zXw]))) (by rw [e1]; exact hce) hcv hcl
      (kk O hO q ls T'.heap (locs ++ L) _ _ ⟨h1.1, h1.2.1, fun _ hm => nomatch hm⟩ (by rw [e1]; exact hI) ⟨Nat.le_trans h4.1 (by rw [e1]; exact hF.1), fun q g1 g2 => by rw [e1, hF.2 q (Nat.lt_of_lt_of_le g1 h4.1) g2]; exact h4.2.1 q g1 g2, fun q hq => by
        rcases List.mem_append.mp hq with g | g
        · exact h4.2.2 q g
        · exact hL q g⟩) T' rfl St'
    exact ⟨t2, steps.trans a1, b1⟩
end ZWrap
