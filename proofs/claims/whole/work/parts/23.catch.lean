/-! the roads that throw -/
theorem w_nse : Cond.initialized NSE ∈ zT := zin 100 (by decide +kernel) rfl
/-- what a throw stands on, beside the words -/
def zX3 (b : Nat) (U : State) : Prop := (∀ w ∈ zXw, va_Nw w U) ∧ vx_Zq Bundle.tN "UNASSIGNED_STACK" Bundle.steD (fun q => b ≤ q) U U.heap ∧ vx_Zq Bundle.tN "SUPPRESSED_SENTINEL" Bundle.listD (fun q => b ≤ q) U U.heap ∧ (∃ sa, vk_R RX6 109 "no such store, or nothing told of it" sa U) ∧ (∃ sa, vk_R RX6 262 "no such piece, or nothing told of it" sa U) ∧ ∃ sa, vk_R RX6 344 "no such number of the row" sa U
theorem zX3.move {b : Nat} {s U : State} (hW : s.WarmedH U.vm) (hq : ∀ a : Nat, a < s.heap.size → ¬ b ≤ a → U.heap[a]? = s.heap[a]?) (h : zX3 b s) : zX3 b U := by
  obtain ⟨h1, h2, h3, ⟨a, h4⟩, ⟨c, h5⟩, ⟨d, h6⟩⟩ := h
  refine ⟨fun w hw => ?_, (h2.moved hW.alike).kept hq, (h3.moved hW.alike).kept hq, ⟨a, h4.warm hW⟩, ⟨c, h5.warm hW⟩, ⟨d, h6.warm hW⟩⟩
  have hw1 := h1 w hw
  simp only [zXw, List.mem_cons, List.not_mem_nil, or_false] at hw
  rcases hw with rfl | rfl | rfl | rfl
  · exact va_Nw.warmD hW hw1
  · exact va_Nw.warmD hW hw1
  · exact va_Nw.warmD hW hw1
  · exact va_Nw.warmC hW hw1
theorem zX3.calling {b : Nat} {U : State} {g : JFrame} {mk : MethodId} {a : Array Value} (h : zX3 b U) : zX3 b (U.calling g mk a) := by
  obtain ⟨h1, h2, h3, ⟨x, h4⟩, ⟨c, h5⟩, ⟨d, h6⟩⟩ := h
  refine ⟨fun w hw => ?_, vx_Zq.moved (u := U) (U := U.calling g mk a) (Vm.Alike.refl U.vm) h2, vx_Zq.moved (u := U) (U := U.calling g mk a) (Vm.Alike.refl U.vm) h3, ⟨x, vk_R.same (u := U) (U := U.calling g mk a) rfl h4⟩, ⟨c, vk_R.same (u := U) (U := U.calling g mk a) rfl h5⟩, ⟨d, vk_R.same (u := U) (U := U.calling g mk a) rfl h6⟩⟩
  have hw1 := h1 w hw
  simp only [zXw, List.mem_cons, List.not_mem_nil, or_false] at hw
  rcases hw with rfl | rfl | rfl | rfl <;> exact va_Nw.same rfl (rfl : U.vm = (U.calling g mk a).vm) hw1
/-- thrown: the heap of G1, and behind it the cell that the throw made -/
def zO1 (O : zH) : Prop := O.length ≤ 1 ∧ zs O ≤ 6 ∧ ∀ e ∈ O, zvis e = false
def zXC (D : va_G) (cA : Nat → ClassId) (b : Nat) (G1 : zH) : String → State → State → Prop := fun E st t => E = NSE ∧ (∃ O : zH, zO1 O ∧ zI D cA b (G1 ++ O) t.heap) ∧ va_F (fun q => b ≤ q) st t
theorem zI.made {D : va_G} {cA : Nat → ClassId} {b : Nat} {G : zH} {H H1 : Heap} (hI : zI D cA b G H) (z : H1.size = H.size + 1) (hs : ((H1.toList.drop H.size).map (·.slots.size)).sum ≤ 6) (oq : ∀ q : Nat, q < H.size → H1[q]? = H[q]?) : ∃ O : zH, zO1 O ∧ zI D cA b (G ++ O) H1 := by
  have hlt : H.size < H1.size := by omega
  have hc : H1[H.size]? = some H1[H.size] := Array.getElem?_eq_getElem hlt
  have hd : H1.toList.drop H.size = [H1[H.size]] := by
    rw [List.drop_eq_getElem_cons (by simpa using hlt)]
    simp [z]
  rw [hd] at hs
  have hs6 : H1[H.size].slots.size ≤ 6 := by simpa using hs
  refine ⟨[.inr (99, List.replicate H1[H.size].slots.size .null)], ⟨Nat.le_refl _, ?_, ?_⟩, ?_⟩
  · show (List.replicate _ Value.null).length + 0 ≤ 6
    rw [List.length_replicate]; omega
  · intro e he
    rw [List.mem_singleton.mp he]; rfl
  refine ⟨by have h0 := hI.1; simp only [List.length_append, List.length_cons, List.length_nil]; omega, fun k x hx hv => ?_, fun k x hx => ?_⟩
  · by_cases hk : k < G.length
    · rw [List.getElem?_append_left hk] at hx
      exact (hI.2.1 k x hx hv).kept (oq (b + k) (by rw [hI.1]; omega))
    · rw [List.getElem?_append_right (by omega)] at hx
      have hz : k - G.length < 1 := (List.getElem?_eq_some_iff.mp hx).1
      rw [show k - G.length = 0 by omega] at hx
      cases hx
      exact absurd (show (false : Bool) = true from hv) (by decide)
  · by_cases hk : k < G.length
    · rw [List.getElem?_append_left hk] at hx
      obtain ⟨c', h1, h2⟩ := hI.2.2 k x hx
      exact ⟨c', by rw [oq (b + k) (by rw [hI.1]; omega)]; exact h1, h2⟩
    · rw [List.getElem?_append_right (by omega)] at hx
      have hz : k - G.length < 1 := (List.getElem?_eq_some_iff.mp hx).1
      rw [show k - G.length = 0 by omega] at hx
      cases hx
      rw [show b + k = H.size by rw [hI.1]; omega]
      exact ⟨_, hc, by show _ = (List.replicate _ Value.null).length; rw [List.length_replicate]⟩
def zMT (l : Launch) (D : va_G) (cA : Nat → ClassId) (b : Nat) (y : MethodName) (cc : ByteArray) (n : Nat) (ret : Option FieldType) (fr lo : Nat) (av : List Value) (G G1 : zH) : Prop :=
  vx_Met l y (zws y cc n ret) { frames := fr, cells := zGL - G.length, slots := zKL - zs G, locals := lo } (fun v U => zPc D cA b av G v U ∧ zX3 b U) (fun _ _ _ _ => False) (zXC D cA b G1) (zGL - G.length) (zKL - zs G) (fun q => b ≤ q)
section ZThrow
variable {X : zX} {cc : ByteArray} {nL fr lo : Nat} {ret : Option FieldType} {pc : Nat} {lv : List (Nat × Value)} {st : List Value} {G G1 : zH}
abbrev zTQ (X : zX) (G1 : zH) : Prop := X.2.2.2.2 = vx_MQ X.2.1.2.2.1 (fun _ _ _ _ => False) (zXC X.2.2.1.1 X.2.2.1.2.1 X.2.2.1.2.2.1 G1) X.2.1.2.1 X.1.2.2.2.2 (zGL - X.2.2.2.1.length) (zKL - zs X.2.2.2.1) (fun q => X.2.2.1.2.2.1 ≤ q)
theorem z_hat {args : Array Value} {s : State} (h : ∀ w ∈ zT, w.before args s = true) {b : Nat} (h3 : zX3 b s) : ∀ w ∈ zXa, w.before args s = true := by
  refine vx_hat (B := zXw) (fun w hw => h w (List.mem_filter.mpr ⟨vx_gw w hw, (List.mem_filter.mp hw).2⟩)) (fun w hw => by rw [vx_bad] at hw; exact hw) (fun w hw => ?_)
  have h1 := h3.1 w hw
  simp only [zXw, List.mem_cons, List.not_mem_nil, or_false] at hw
  rcases hw with rfl | rfl | rfl | rfl <;> exact va_Nw.use rfl h1
theorem z_throwX {H : Heap} {locs : List Loc} (h2 : zI X.2.2.1.1 X.2.2.1.2.1 X.2.2.1.2.2.1 G1 H) (h4 : va_S (fun q => X.2.2.1.2.2.1 ≤ q) X.1.2.2.2.2.heap H locs) : ∀ t : State, X.1.2.2.2.2.vm.Alike t.vm → t.heap.size = H.size + 1 → ((t.heap.toList.drop H.size).map (·.slots.size)).sum ≤ 6 → (∀ q : Nat, q < H.size → t.heap[q]? = H[q]?) → zXC X.2.2.1.1 X.2.2.1.2.1 X.2.2.1.2.2.1 G1 NSE X.1.2.2.2.2 t := fun t _ hz hs hq => ⟨rfl, h2.made hz hs hq, Nat.le_trans h4.1 (by omega), fun q a1 a2 => (hq q (Nat.lt_of_lt_of_le a1 h4.1)).trans (h4.2.1 q a1 a2)⟩
theorem z_throwS (C : zOK X cc RX6 nL ret fr lo) (E : zTQ X G1) (hl : X.1.2.1.stackTraces = false) (h3 : zX3 X.2.2.1.2.2.1 X.1.2.2.2.2) (ht : ∀ x ∈ X.2.1.2.2.2.2.exceptionTable.toList, False) {is sa : Nat} {text : String} (hstr : vk_R RX6 is text sa X.1.2.2.2.2) (d0 : decode cc pc = .ok (.new 107, 3)) (d3 : decode cc (pc + 3) = .ok (.dup, 1)) (d4 : decode cc (pc + 4) = .ok (.ldc is, 2)) (d6 : decode cc (pc + 6) = .ok (.invokespecial 111, 3)) (d9 : decode cc (pc + 9) = .ok (.athrow, 1)) (hfr : 5 < fr) (hlo : 82 ≤ lo) (hg : G1.length + 1 ≤ zGL) (hk : zs G1 + 6 ≤ zKL) : zZ X pc lv [] G1 := by
  intro ls H locs c1 c2 h1 h2 hL h4
  obtain ⟨r1, r2, r3, r4⟩ := C.room
  refine z_tight C h2 (fun t1 t2 => ?_)
  rw [show X.2.2.2.2 = _ from E]
  exact zx_throwS (rest := []) C.1 C.2.1 hl vx_d0 vx_d1 vx_d2 vx_d5 C.2.2.2.2.1 (by decide +kernel) (by decide +kernel) (C.2.2.2.2.2.1 _ ck_X6_107) (C.2.2.2.2.2.1 _ w_nse) hstr (z_hat C.2.2.2.2.2.1 h3) vx_ow h3.2.1 h3.2.2.1 h4 (by rw [h1.1, C.2.2.2.1, C.2.2.2.2.2.2.2.2.1]) d0 d3 d4 d6 d9 (fun x hx => (ht x hx).elim) (by rw [r1]; show 2 + 3 < fr; omega) (by rw [r4]; show 0 + (13 * (2 + 1) + 43) ≤ lo; omega) (by rw [r2]; omega) (by rw [r3]; omega) C.2.2.2.2.2.2.1 (z_throwX h2 h4) h4.2.2 (by omega) (by omega)
theorem z_throwSW (C : zOK X cc RX6 nL ret fr lo) (E : zTQ X G1) (hl : X.1.2.1.stackTraces = false) (h3 : zX3 X.2.2.1.2.2.1 X.1.2.2.2.2) (ht : ∀ x ∈ X.2.1.2.2.2.2.exceptionTable.toList, False) {is sa : Nat} {text : String} (hstr : vk_R RX6 is text sa X.1.2.2.2.2) (d0 : decode cc pc = .ok (.new 107, 3)) (d3 : decode cc (pc + 3) = .ok (.dup, 1)) (d4 : decode cc (pc + 4) = .ok (.ldc_w is, 3)) (d7 : decode cc (pc + 7) = .ok (.invokespecial 111, 3)) (d10 : decode cc (pc + 10) = .ok (.athrow, 1)) (hfr : 5 < fr) (hlo : 82 ≤ lo) (hg : G1.length + 1 ≤ zGL) (hk : zs G1 + 6 ≤ zKL) : zZ X pc lv [] G1 := by
  intro ls H locs c1 c2 h1 h2 hL h4
  obtain ⟨r1, r2, r3, r4⟩ := C.room
  refine z_tight C h2 (fun t1 t2 => ?_)
  rw [show X.2.2.2.2 = _ from E]
  exact zx_throwSW (rest := []) C.1 C.2.1 hl vx_d0 vx_d1 vx_d2 vx_d5 C.2.2.2.2.1 (by decide +kernel) (by decide +kernel) (C.2.2.2.2.2.1 _ ck_X6_107) (C.2.2.2.2.2.1 _ w_nse) hstr (z_hat C.2.2.2.2.2.1 h3) vx_ow h3.2.1 h3.2.2.1 h4 (by rw [h1.1, C.2.2.2.1, C.2.2.2.2.2.2.2.2.1]) d0 d3 d4 d7 d10 (fun x hx => (ht x hx).elim) (by rw [r1]; show 2 + 3 < fr; omega) (by rw [r4]; show 0 + (13 * (2 + 1) + 43) ≤ lo; omega) (by rw [r2]; omega) (by rw [r3]; omega) C.2.2.2.2.2.2.1 (z_throwX h2 h4) h4.2.2 (by omega) (by omega)
theorem z_entryT {l : Launch} {D : va_G} {cA : Nat → ClassId} {b : Nat} {y : MethodName} {av : List Value} (hy : plainName y.cls = true) (hav : (lg_sl av).length ≤ nL) (body : ∀ X : zX, zOK X cc y.cls nL ret fr lo → zTQ X G1 → X.1.2.1 = l → zX3 X.2.2.1.2.2.1 X.1.2.2.2.2 → (∀ x ∈ X.2.1.2.2.2.2.exceptionTable.toList, False) → zZ X 0 (lv_args 0 av) [] G) : zMT l D cA b y cc nL ret fr lo av G G1 := by
  refine vx_ofW (cc := cc) (maxL := nL) (ret := ret) hy rfl ?_
  intro p e s m args below meth c s₁ B hml ht hv
  obtain ⟨⟨rfl, hI, hK, hL⟩, h3⟩ := hv
  have hts := atoms_spec (ws := zws y cc nL ret) B.pre
  have hzl : ∀ (i : Nat) (av : List Value), zlv b (lv_args i av) = lv_args i (av.map (zv b)) := by
    intro i av
    induction av generalizing i with
    | nil => rfl
    | cons v vs ih =>
      show (i, zv b v) :: zlv b (lv_args _ vs) = (i, zv b v) :: lv_args _ (vs.map (zv b))
      rw [ih, zv_cat]
  have hsl := zlen b av
  have hl := lv_entry (av.map (zv b)) (n := nL) (by rw [hsl]; exact hav)
  rw [lg_entry_eq]
  generalize (lg_sl (av.map (zv b)) ++ List.replicate (nL - (lg_sl (av.map (zv b))).length) Slot.unset).toArray = ls at hl ⊢
  rw [← hzl] at hl
  exact body ((p, l, e, (headSpec (zws y cc nL ret) { frames := fr, cells := zGL - G.length, slots := zKL - zs G, locals := lo }).room, s), (m, (av.map (zv b)).toArray, below, meth, c), (D, cA, b, nL), G, vx_MQ below (fun _ _ _ _ => False) (zXC D cA b G1) (av.map (zv b)).toArray s (zGL - G.length) (zKL - zs G) (fun q => b ≤ q))
    ⟨B.exec, B.bytes, B.returns, hml, findClass_of_methodNamed B.named, fun w hw => hts w (List.mem_cons_of_mem _ hw), B.notSynchronized, hK, rfl, rfl, hI⟩ rfl rfl h3 ht ls s.heap [] 0 0 hl hI hL va_S.rf
end ZThrow
theorem tkX6_store (l : Launch) (hl : l.stackTraces = false) (D : va_G) (cA : Nat → ClassId) (b : Nat) (G : zH) (r0 : Nat) (x1 x2 : Int32) (out : zH) (h : tX6_store G r0 x1 x2 = some out) (hg : out.length + 1 ≤ zGL) (hk : zs out + 6 ≤ zKL) : zMT l D cA b yX6_store cX6_store 3 (some .int) 8 186 [.ref r0, .int x1, .int x2] G out :=
  z_entryT rfl (Nat.le_of_ble_eq_true rfl) (fun X C E el h3 ht => wtX6_store C (fun lv => by
    obtain ⟨sa, hs⟩ := h3.2.2.2.1
    exact z_throwS C E (by rw [el]; exact hl) h3 ht hs dX6_store_18 dX6_store_21 dX6_store_22 dX6_store_24 dX6_store_27 (by decide) (by decide) hg hk) G r0 x1 x2 h)
theorem tkX6_piece (l : Launch) (hl : l.stackTraces = false) (D : va_G) (cA : Nat → ClassId) (b : Nat) (G : zH) (r0 : Nat) (x1 x2 : Int32) (out : zH) (h : tX6_piece G r0 x1 x2 = some out) (hg : out.length + 1 ≤ zGL) (hk : zs out + 6 ≤ zKL) : zMT l D cA b yX6_piece cX6_piece 4 (some .int) 8 186 [.ref r0, .int x1, .int x2] G out :=
  z_entryT rfl (Nat.le_of_ble_eq_true rfl) (fun X C E el h3 ht => wtX6_piece C (fun lv => by
    obtain ⟨sa, hs⟩ := h3.2.2.2.2.1
    exact z_throwSW C E (by rw [el]; exact hl) h3 ht hs dX6_piece_29 dX6_piece_32 dX6_piece_33 dX6_piece_36 dX6_piece_39 (by decide) (by decide) hg hk) G r0 x1 x2 h)
theorem tkX6_row (l : Launch) (hl : l.stackTraces = false) (D : va_G) (cA : Nat → ClassId) (b : Nat) (G : zH) (r0 : Nat) (x1 : Int32) (out : zH) (h : tX6_row G r0 x1 = some out) (hg : out.length + 1 ≤ zGL) (hk : zs out + 6 ≤ zKL) : zMT l D cA b yX6_row cX6_row 2 (some .long) 8 186 [.ref r0, .int x1] G out :=
  z_entryT rfl (Nat.le_of_ble_eq_true rfl) (fun X C E el h3 ht => wtX6_row C (fun lv => by
    obtain ⟨sa, hs⟩ := h3.2.2.2.2.2
    exact z_throwSW C E (by rw [el]; exact hl) h3 ht hs dX6_row_15 dX6_row_18 dX6_row_19 dX6_row_22 dX6_row_25 (by decide) (by decide) hg hk) G r0 x1 h)
