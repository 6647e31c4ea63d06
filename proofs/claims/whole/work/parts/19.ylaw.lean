/-! the law: walks with the script's cell b0 in local 0 -/
def yZ (X : zX) (b0 : Nat) (pc : Nat) (lv : List (Nat × Value)) (st : List Value) (G : zH) : Prop :=
  ∀ (ls : Array Slot) (H : Heap) (locs : List Loc) (c1 c2 : Nat), lv_has ls X.2.2.1.2.2.2 ((0, .ref b0) :: zlv X.2.2.1.2.2.1 lv) → zI X.2.2.1.1 X.2.2.1.2.1 X.2.2.1.2.2.1 G H → zL G → va_S (fun q => X.2.2.1.2.2.1 ≤ q) X.1.2.2.2.2.heap H locs →
    zW X H locs c1 c2 X.2.2.2.2 (F0 X.2.1.1 pc ls (st.map (zv X.2.2.1.2.2.1)))
theorem y_put {b b0 i n : Nat} {ls : Array Slot} {lv : List (Nat × Value)} {v : Value} (hi : i ≠ 0) (h : lv_has ls n ((i, zv b v) :: ((0, .ref b0) :: zlv b lv).filter (fun q => !(q.1 == i) && !(q.1 + 1 == i && q.2.category == 2)))) : lv_has ls n ((0, .ref b0) :: zlv b (zput lv i v)) := by
  refine ⟨h.1, h.2.1, fun q hq => h.2.2 q ?_⟩
  rw [← zput_map] at hq
  rcases List.mem_cons.mp hq with rfl | hq
  · refine List.mem_cons_of_mem _ (List.mem_filter.mpr ⟨List.mem_cons_self, ?_⟩)
    simp [Ne.symm hi, Value.category]
  · rcases List.mem_cons.mp hq with rfl | hq
    · exact List.mem_cons_self
    · refine List.mem_cons_of_mem _ ?_
      rw [List.mem_filter] at hq ⊢
      exact ⟨List.mem_cons_of_mem _ hq.1, hq.2⟩
theorem y_put2 {b b0 i n : Nat} {ls : Array Slot} {lv : List (Nat × Value)} {v : Value} (hi : i ≠ 0) (h : lv_has ls n ((i, zv b v) :: ((0, .ref b0) :: zlv b lv).filter (fun q => !(q.1 == i) && (!(q.1 == i + 1) && !(q.1 + 1 == i && q.2.category == 2))))) : lv_has ls n ((0, .ref b0) :: zlv b (zput2 lv i v)) := by
  refine ⟨h.1, h.2.1, fun q hq => h.2.2 q ?_⟩
  rw [← zput2_map] at hq
  rcases List.mem_cons.mp hq with rfl | hq
  · refine List.mem_cons_of_mem _ (List.mem_filter.mpr ⟨List.mem_cons_self, ?_⟩)
    simp [Ne.symm hi, Value.category]
  · rcases List.mem_cons.mp hq with rfl | hq
    · exact List.mem_cons_self
    · refine List.mem_cons_of_mem _ ?_
      rw [List.mem_filter] at hq ⊢
      exact ⟨List.mem_cons_of_mem _ hq.1, hq.2⟩
section YRules
variable {X : zX} {b0 : Nat} {cc : ByteArray} {own : String} {nL fr lo : Nat} {ret : Option FieldType} {pc : Nat} {lv : List (Nat × Value)} {st rest : List Value} {G G' : zH}
theorem y_go {pc' : Nat} {st' : List Value} (f : ∀ (ls : Array Slot) (H : Heap) (locs : List Loc) (c1 c2 : Nat) (Q : State → Prop), zW X H locs c1 c2 Q (F0 X.2.1.1 pc' ls (st'.map (zv X.2.2.1.2.2.1))) → zW X H locs c1 c2 Q (F0 X.2.1.1 pc ls (st.map (zv X.2.2.1.2.2.1)))) (kk : yZ X b0 pc' lv st' G) : yZ X b0 pc lv st G :=
  fun ls H locs c1 c2 h1 h2 h3 h4 => f ls H locs _ _ _ (kk ls H locs c1 c2 h1 h2 h3 h4)
theorem y_iconst (C : zOK X cc own nL ret fr lo) {n : Int} {v : Int32} (hd : decode cc pc = .ok (.iconst n, 1)) (hv : Int32.ofInt n = v) (kk : yZ X b0 (pc + 1) lv (.int v :: st) G) : yZ X b0 pc lv st G := y_go (fun ls H locs c1 c2 Q q => lv_iconst C.1 C.2.1 hd hv q) kk
theorem y_bipush (C : zOK X cc own nL ret fr lo) {n : Int} {v : Int32} (hd : decode cc pc = .ok (.bipush n, 2)) (hv : (Int8.ofInt n).toInt32 = v) (kk : yZ X b0 (pc + 2) lv (.int v :: st) G) : yZ X b0 pc lv st G := y_go (fun ls H locs c1 c2 Q q => lv_bipush C.1 C.2.1 hd hv q) kk
theorem y_iadd (C : zOK X cc own nL ret fr lo) {x y : Int32} (hd : decode cc pc = .ok (.iadd, 1)) (kk : yZ X b0 (pc + 1) lv (.int (x + y) :: st) G) : yZ X b0 pc lv (.int y :: .int x :: st) G := y_go (fun ls H locs c1 c2 Q q => lv_iadd C.1 C.2.1 hd q) kk
theorem y_isub (C : zOK X cc own nL ret fr lo) {x y : Int32} (hd : decode cc pc = .ok (.isub, 1)) (kk : yZ X b0 (pc + 1) lv (.int (x - y) :: st) G) : yZ X b0 pc lv (.int y :: .int x :: st) G := y_go (fun ls H locs c1 c2 Q q => lv_isub C.1 C.2.1 hd q) kk
theorem y_iand (C : zOK X cc own nL ret fr lo) {x y : Int32} (hd : decode cc pc = .ok (.iand, 1)) (kk : yZ X b0 (pc + 1) lv (.int (x &&& y) :: st) G) : yZ X b0 pc lv (.int y :: .int x :: st) G := y_go (fun ls H locs c1 c2 Q q => lv_iand C.1 C.2.1 hd q) kk
theorem y_lcmp (C : zOK X cc own nL ret fr lo) {x y : Int64} (hd : decode cc pc = .ok (.lcmp, 1)) (kk : yZ X b0 (pc + 1) lv (.int (lg_cmp x y) :: st) G) : yZ X b0 pc lv (.long y :: .long x :: st) G := y_go (fun ls H locs c1 c2 Q q => W.lcmp C.1 C.2.1 hd q) kk
theorem y_i2l (C : zOK X cc own nL ret fr lo) {x : Int32} (hd : decode cc pc = .ok (.i2l, 1)) (kk : yZ X b0 (pc + 1) lv (.long x.toInt64 :: st) G) : yZ X b0 pc lv (.int x :: st) G := y_go (fun ls H locs c1 c2 Q q => lv_i2l C.1 C.2.1 hd rfl q) kk
theorem y_dup (C : zOK X cc own nL ret fr lo) {v : Value} (hd : decode cc pc = .ok (.dup, 1)) (hv : v.category = 1) (kk : yZ X b0 (pc + 1) lv (v :: v :: st) G) : yZ X b0 pc lv (v :: st) G := y_go (fun ls H locs c1 c2 Q q => lv_dup C.1 C.2.1 hd ((zv_cat _ v).trans hv) q) kk
theorem y_goto (C : zOK X cc own nL ret fr lo) {off : Int} {tgt : Nat} (hd : decode cc pc = .ok (.goto off, 3)) (ht : (pc : Int) + off = (tgt : Int)) (kk : yZ X b0 tgt lv st G) : yZ X b0 pc lv st G := y_go (fun ls H locs c1 c2 Q q => lv_goto C.1 C.2.1 hd ht q) kk
theorem y_br {c : Prop} {pt pf : Nat} {st' : List Value} (f : ∀ (ls : Array Slot) (H : Heap) (locs : List Loc) (c1 c2 : Nat) (Q : State → Prop), (c → zW X H locs c1 c2 Q (F0 X.2.1.1 pt ls (st'.map (zv X.2.2.1.2.2.1)))) → (¬ c → zW X H locs c1 c2 Q (F0 X.2.1.1 pf ls (st'.map (zv X.2.2.1.2.2.1)))) → zW X H locs c1 c2 Q (F0 X.2.1.1 pc ls (st.map (zv X.2.2.1.2.2.1))))
    (kt : c → yZ X b0 pt lv st' G) (kf : ¬ c → yZ X b0 pf lv st' G) : yZ X b0 pc lv st G := by
  exact fun ls H locs c1 c2 h1 h2 h3 h4 => f ls H locs _ _ _ (fun h => kt h ls H locs c1 c2 h1 h2 h3 h4) (fun h => kf h ls H locs c1 c2 h1 h2 h3 h4)
theorem y_if_eq (C : zOK X cc own nL ret fr lo) {x : Int32} {off : Int} {tgt : Nat} (hd : decode cc pc = .ok (.ifCond .eq off, 3)) (ht : (pc : Int) + off = (tgt : Int)) (kt : x = 0 → yZ X b0 tgt lv st G) (kf : ¬ x = 0 → yZ X b0 (pc + 3) lv st G) : yZ X b0 pc lv (.int x :: st) G := y_br (fun ls H locs c1 c2 Q a b => lv_if_eq C.1 C.2.1 hd ht a b) kt kf
theorem y_if_ne (C : zOK X cc own nL ret fr lo) {x : Int32} {off : Int} {tgt : Nat} (hd : decode cc pc = .ok (.ifCond .ne off, 3)) (ht : (pc : Int) + off = (tgt : Int)) (kt : ¬ x = 0 → yZ X b0 tgt lv st G) (kf : x = 0 → yZ X b0 (pc + 3) lv st G) : yZ X b0 pc lv (.int x :: st) G := y_br (fun ls H locs c1 c2 Q a b => lv_if_ne C.1 C.2.1 hd ht b a) kf kt
theorem y_ic_eq (C : zOK X cc own nL ret fr lo) {x y : Int32} {off : Int} {tgt : Nat} (hd : decode cc pc = .ok (.if_icmp .eq off, 3)) (ht : (pc : Int) + off = (tgt : Int)) (kt : x = y → yZ X b0 tgt lv st G) (kf : ¬ x = y → yZ X b0 (pc + 3) lv st G) : yZ X b0 pc lv (.int y :: .int x :: st) G := y_br (fun ls H locs c1 c2 Q a b => lv_icmp_eq C.1 C.2.1 hd ht a b) kt kf
theorem y_ic_gt (C : zOK X cc own nL ret fr lo) {x y : Int32} {off : Int} {tgt : Nat} (hd : decode cc pc = .ok (.if_icmp .gt off, 3)) (ht : (pc : Int) + off = (tgt : Int)) (kt : y < x → yZ X b0 tgt lv st G) (kf : ¬ y < x → yZ X b0 (pc + 3) lv st G) : yZ X b0 pc lv (.int y :: .int x :: st) G := y_br (fun ls H locs c1 c2 Q a b => lv_icmp_gt C.1 C.2.1 hd ht a b) kt kf
theorem y_tableIn (C : zOK X cc own nL ret fr lo) {dflt lo' hi : Int} {offs : Array Int} {len : Nat} {x : Int32} {off : Int} {tgt : Nat} (hd : decode cc pc = .ok (.tableswitch dflt lo' hi offs, len)) (h1 : ¬ x.toInt < lo') (h2 : ¬ hi < x.toInt) (ho : offs[(x.toInt - lo').toNat]? = some off) (ht : (pc : Int) + off = (tgt : Int)) (kk : yZ X b0 tgt lv st G) : yZ X b0 pc lv (.int x :: st) G := y_go (fun ls H locs c1 c2 Q q => lv_tableIn C.1 C.2.1 hd h1 h2 ho ht q) kk
theorem y_tableOut (C : zOK X cc own nL ret fr lo) {dflt lo' hi : Int} {offs : Array Int} {len : Nat} {x : Int32} {tgt : Nat} (hd : decode cc pc = .ok (.tableswitch dflt lo' hi offs, len)) (h : x.toInt < lo' ∨ hi < x.toInt) (ht : (pc : Int) + dflt = (tgt : Int)) (kk : yZ X b0 tgt lv st G) : yZ X b0 pc lv (.int x :: st) G := y_go (fun ls H locs c1 c2 Q q => lv_tableOut C.1 C.2.1 hd h ht q) kk
theorem y_ld {pc' i j : Nat} {v : Value} (hj : lv[j]? = some (i, v)) (f : ∀ (ls : Array Slot) (H : Heap) (locs : List Loc) (c1 c2 : Nat) (Q : State → Prop), ls[i]? = some (.val (zv X.2.2.1.2.2.1 v)) → zW X H locs c1 c2 Q (F0 X.2.1.1 pc' ls ((v :: st).map (zv X.2.2.1.2.2.1))) → zW X H locs c1 c2 Q (F0 X.2.1.1 pc ls (st.map (zv X.2.2.1.2.2.1)))) (kk : yZ X b0 pc' lv (v :: st) G) : yZ X b0 pc lv st G :=
  fun ls H locs c1 c2 h1 h2 h3 h4 => f ls H locs _ _ _ (z_loc (lv := lv) ⟨h1.1, h1.2.1, fun q hq => h1.2.2 q (List.mem_cons_of_mem _ hq)⟩ hj) (kk ls H locs c1 c2 h1 h2 h3 h4)
theorem y_iload (C : zOK X cc own nL ret fr lo) {i : Nat} {x : Int32} (j : Nat) (hd : decode cc pc = .ok (.iload i, 2)) (hj : lv[j]? = some (i, .int x)) (kk : yZ X b0 (pc + 2) lv (.int x :: st) G) : yZ X b0 pc lv st G := y_ld hj (fun ls H locs c1 c2 Q a q => lv_iload C.1 C.2.1 hd a q) kk
theorem y_lload (C : zOK X cc own nL ret fr lo) {i : Nat} {x : Int64} (j : Nat) (hd : decode cc pc = .ok (.lload i, 2)) (hj : lv[j]? = some (i, .long x)) (kk : yZ X b0 (pc + 2) lv (.long x :: st) G) : yZ X b0 pc lv st G := y_ld hj (fun ls H locs c1 c2 Q a q => lv_lload C.1 C.2.1 hd a q) kk
theorem y_aload_n (C : zOK X cc own nL ret fr lo) {n : Fin 4} {i h : Nat} (j : Nat) (hd : decode cc pc = .ok (.aload_n n, 1)) (hi : (n : Nat) = i) (hj : lv[j]? = some (i, .ref h)) (kk : yZ X b0 (pc + 1) lv (.ref h :: st) G) : yZ X b0 pc lv st G := y_ld hj (fun ls H locs c1 c2 Q a q => lv_aload_n C.1 C.2.1 hd hi a q) kk
theorem y_st {pc' : Nat} {lv' : List (Nat × Value)} {st' : List Value} (f : ∀ (ls : Array Slot) (H : Heap) (locs : List Loc) (c1 c2 : Nat) (Q : State → Prop), lv_has ls X.2.2.1.2.2.2 ((0, .ref b0) :: zlv X.2.2.1.2.2.1 lv) → (∀ ls' : Array Slot, lv_has ls' X.2.2.1.2.2.2 ((0, .ref b0) :: zlv X.2.2.1.2.2.1 lv') → zW X H locs c1 c2 Q (F0 X.2.1.1 pc' ls' (st'.map (zv X.2.2.1.2.2.1)))) → zW X H locs c1 c2 Q (F0 X.2.1.1 pc ls (st.map (zv X.2.2.1.2.2.1)))) (kk : yZ X b0 pc' lv' st' G) : yZ X b0 pc lv st G :=
  fun ls H locs c1 c2 h1 h2 h3 h4 => f ls H locs _ _ _ h1 (fun ls' h' => kk ls' H locs c1 c2 h' h2 h3 h4)
theorem y_istore (C : zOK X cc own nL ret fr lo) {i : Nat} {x : Int32} {lv' : List (Nat × Value)} (hd : decode cc pc = .ok (.istore i, 2)) (hn : i < nL) (h0 : i ≠ 0) (hl : zput lv i (.int x) = lv') (kk : yZ X b0 (pc + 2) lv' st G) : yZ X b0 pc lv (.int x :: st) G :=
  y_st (fun ls H locs c1 c2 Q a q => lv_istore C.1 C.2.1 hd a (by rw [C.2.2.2.2.2.2.2.2.1]; exact hn) rfl (fun ls' h' => q ls' (hl ▸ y_put h0 h'))) kk
theorem y_lstore (C : zOK X cc own nL ret fr lo) {i : Nat} {x : Int64} {lv' : List (Nat × Value)} (hd : decode cc pc = .ok (.lstore i, 2)) (hn : i + 1 < nL) (h0 : i ≠ 0) (hl : zput2 lv i (.long x) = lv') (kk : yZ X b0 (pc + 2) lv' st G) : yZ X b0 pc lv (.long x :: st) G :=
  y_st (fun ls H locs c1 c2 Q a q => lv_lstore C.1 C.2.1 hd a (by rw [C.2.2.2.2.2.2.2.2.1]; exact hn) rfl (fun ls' h' => q ls' (hl ▸ y_put2 h0 h'))) kk
theorem y_astore_n (C : zOK X cc own nL ret fr lo) {n : Fin 4} {i h : Nat} {lv' : List (Nat × Value)} (hd : decode cc pc = .ok (.astore_n n, 1)) (hi : (n : Nat) = i) (hn : i < nL) (h0 : i ≠ 0) (hl : zput lv i (.ref h) = lv') (kk : yZ X b0 (pc + 1) lv' st G) : yZ X b0 pc lv (.ref h :: st) G :=
  y_st (fun ls H locs c1 c2 Q a q => lv_astore_n C.1 C.2.1 hd hi a (by rw [C.2.2.2.2.2.2.2.2.1]; exact hn) rfl (fun ls' h' => q ls' (hl ▸ y_put h0 h'))) kk
theorem y_iinc (C : zOK X cc own nL ret fr lo) {i : Nat} {n : Int} {x v : Int32} {lv' : List (Nat × Value)} (j : Nat) (hd : decode cc pc = .ok (.iinc i n, 3)) (hj : lv[j]? = some (i, .int x)) (hv : x + Int32.ofInt n = v) (hn : i < nL) (h0 : i ≠ 0) (hl : zput lv i (.int v) = lv') (kk : yZ X b0 (pc + 3) lv' st G) : yZ X b0 pc lv st G :=
  y_st (fun ls H locs c1 c2 Q a q => lv_iinc (k := j + 1) C.1 C.2.1 hd a (by rw [List.getElem?_cons_succ, zlv, List.getElem?_map, hj]; rfl) hv (by rw [C.2.2.2.2.2.2.2.2.1]; exact hn) rfl (fun ls' h' => q ls' (hl ▸ y_put h0 h'))) kk
theorem y_sub {lv' : List (Nat × Value)} (ks : List Nat) (hl : lv_pick lv ks = lv') (kk : yZ X b0 pc lv' st G) : yZ X b0 pc lv st G :=
  fun ls H locs c1 c2 h1 h2 h3 h4 => kk ls H locs c1 c2 (by
    have h5 : lv_has ls X.2.2.1.2.2.2 (zlv X.2.2.1.2.2.1 lv') := lv_sub (l := zlv X.2.2.1.2.2.1 lv) ⟨h1.1, h1.2.1, fun q hq => h1.2.2 q (List.mem_cons_of_mem _ hq)⟩ ks (by subst hl; simp only [lv_pick, zlv, List.map_filterMap, List.getElem?_map])
    refine ⟨h1.1, h1.2.1, fun q hq => ?_⟩
    rcases List.mem_cons.mp hq with rfl | hq
    · exact h1.2.2 _ List.mem_cons_self
    · exact h5.2.2 q hq) h2 h3 h4
theorem y_topi {v x : Int32} (h : v = x) (kk : yZ X b0 pc lv (.int v :: st) G) : yZ X b0 pc lv (.int x :: st) G := h ▸ kk
theorem y_topl {v x : Int64} (h : v = x) (kk : yZ X b0 pc lv (.long v :: st) G) : yZ X b0 pc lv (.long x :: st) G := h ▸ kk
theorem y_run {H : Heap} {locs : List Loc} {c1 c2 mc ms : Nat} {ls : Array Slot} {a : Array Value} {post : Option Value → zH → Prop} (h1 : lv_has ls X.2.2.1.2.2.2 ((0, .ref b0) :: zlv X.2.2.1.2.2.1 lv)) (h4 : va_S (fun q => X.2.2.1.2.2.1 ≤ q) X.1.2.2.2.2.heap H locs)
    (hr : va_Run X.1.1 X.1.2.1 X.1.2.2.1 X.1.2.2.2.1 X.1.2.2.2.2 X.2.1.1 X.2.1.2.1 X.2.1.2.2.1 X.2.1.2.2.2.1 X.2.1.2.2.2.2 H locs c1 c2 mc ms (F0 X.2.1.1 pc ls (st.map (zv X.2.2.1.2.2.1))) (rest.map (zv X.2.2.1.2.2.1)) (zQ X.2.2.1.1 X.2.2.1.2.1 X.2.2.1.2.2.1 post a) (fun q => X.2.2.1.2.2.1 ≤ q))
    (kk : ∀ (r : Option Value) (G' : zH), post r G' → yZ X b0 (pc + 3) lv (r.toList ++ rest) G') : zW X H locs c1 c2 X.2.2.2.2 (F0 X.2.1.1 pc ls (st.map (zv X.2.2.1.2.2.1))) := by
  intro T hT St
  obtain ⟨v, st₀, t, T', L, e0, St', hL, e1, e2, ⟨⟨r, G', hv, hp, hI, hZ⟩, hF⟩, goes⟩ := hr T hT St
  cases hv
  unfold va_F at hF
  rw [e0] at hF
  obtain ⟨t2, a1, b1⟩ := kk r G' hp ls T'.heap (locs ++ L) _ _ h1 (by rw [e1]; exact hI) hZ ⟨Nat.le_trans h4.1 (by rw [e1]; exact hF.1), fun q g1 g2 => by rw [e1, hF.2 q (Nat.lt_of_lt_of_le g1 h4.1) g2]; exact h4.2.1 q g1 g2, fun q hq => by
      rcases List.mem_append.mp hq with g | g
      · exact h4.2.2 q g
      · exact hL q g⟩ T' rfl St'
  refine ⟨t2, goes t2 ?_, b1⟩
  have e3 : (r.toList ++ rest).map (zv X.2.2.1.2.2.1) = (r.map (zv X.2.2.1.2.2.1)).toList ++ rest.map (zv X.2.2.1.2.2.1) := by cases r <;> rfl
  rw [e3] at a1
  exact a1
variable {y : MethodName} {code : ByteArray} {maxL fr' lo' index n : Nat} {yret : Option FieldType} {As : List Value} {post : Option Value → zH → Prop}
theorem y_callV (C : zOK X cc own nL ret fr lo) {h ci : Nat} {fs : List Value} {T : u_T} {N : Nat} (hd : decode cc pc = .ok (.invokevirtual index, 3)) (hw : zWV own index y code maxL yret n) (hM : zM X.1.2.1 X.2.2.1.1 X.2.2.1.2.1 X.2.2.1.2.2.1 y code maxL yret fr' lo' (.ref h :: As) G post) (he : G[h]? = some (.inr (ci, fs))) (hc : vwCl[ci]? = some (y.cls, T, N)) (hn : As.length = n) (hst : As.reverse ++ .ref h :: rest = st) (hrm : (rest.map fun v => v.category).sum ≤ 8) (hR : fr' + 1 ≤ fr ∧ 8 + (maxL + 11) + lo' ≤ lo) (kk : ∀ (r : Option Value) (G' : zH), post r G' → yZ X b0 (pc + 3) lv (r.toList ++ rest) G') : yZ X b0 pc lv st G := by
  intro ls H locs c1 c2 h1 h2 h3 h4
  obtain ⟨w1, w2, w3, w4, w5, w6, w7, w8⟩ := hw
  obtain ⟨r1, r2, r3, r4⟩ := C.room
  refine z_tight C h2 (fun t1 t2 => ?_)
  have hG : GoodIn zT (wsV own index y.cls y (zws y code maxL yret)) := zT_in (fun w hw => by
    rcases List.mem_append.mp hw with g | g
    · simp only [List.mem_cons, List.not_mem_nil, or_false] at g
      rcases g with rfl | rfl | rfl | rfl <;> assumption
    · exact zT_ws w5 w g)
  exact y_run h1 h4 (va_runV (As := As.map (zv X.2.2.1.2.2.1)) (rest := rest.map (zv X.2.2.1.2.2.1)) (b := X.2.2.1.2.2.1 + h) ⟨C.1, C.2.1, C.2.2.2.1, C.2.2.2.2.1, C.2.2.2.2.2.1⟩ hM (cwV n C.2.2.2.2.2.1 hG rfl rfl rfl ⟨rfl, w6, w7, w8⟩ (by rw [r1, r4]; exact hR)) ⟨zPc.blind, va_recv (q0 := 0) C.2.2.2.2.2.2.2.1.1 (h2.one he (zvis_of hc)) hc rfl, z_pre C h2 h3⟩ rfl (by simpa using hn) (h1.1.trans C.2.2.2.2.2.2.2.2.1) (by rw [← hst, List.map_append, List.map_reverse]; rfl) (lv_room (by rw [zv_cats]; exact hrm)) hd (z_fit C h3 t1 t2)) kk
theorem y_callS (C : zOK X cc own nL ret fr lo) (hd : decode cc pc = .ok (.invokestatic index, 3)) (hw : zWS own index y code maxL yret n) (hM : zM X.1.2.1 X.2.2.1.1 X.2.2.1.2.1 X.2.2.1.2.2.1 y code maxL yret fr' lo' As G post) (hn : As.length = n) (hst : As.reverse ++ rest = st) (hrm : (rest.map fun v => v.category).sum ≤ 8) (hR : fr' + 1 ≤ fr ∧ 8 + (maxL + 11) + lo' ≤ lo) (kk : ∀ (r : Option Value) (G' : zH), post r G' → yZ X b0 (pc + 3) lv (r.toList ++ rest) G') : yZ X b0 pc lv st G := by
  intro ls H locs c1 c2 h1 h2 h3 h4
  obtain ⟨w1, w2, w4, w5, w6, w7, w8⟩ := hw
  obtain ⟨r1, r2, r3, r4⟩ := C.room
  refine z_tight C h2 (fun t1 t2 => ?_)
  exact y_run h1 h4 (va_runS (As := As.map (zv X.2.2.1.2.2.1)) (rest := rest.map (zv X.2.2.1.2.2.1)) ⟨C.1, C.2.1, C.2.2.2.1, C.2.2.2.2.1, C.2.2.2.2.2.1⟩ hM ⟨callB_of n C.2.2.2.2.2.1 (zT_in (zT_ws w5)) rfl rfl rfl (C.2.2.2.2.2.1 _ w4) (C.2.2.2.2.2.1 _ w1) ⟨w6, w7, w8⟩ (by rw [r1, r4]; exact hR), C.2.2.2.2.2.1 _ w2⟩ ⟨zPc.blind, z_pre C h2 h3⟩ rfl (by simpa using hn) (h1.1.trans C.2.2.2.2.2.2.2.2.1) (by rw [← hst, List.map_append, List.map_reverse]) (lv_room (by rw [zv_cats]; exact hrm)) hd (z_fit C h3 t1 t2)) kk
theorem y_callI (C : zOK X cc own nL ret fr lo) {h : Nat} (hd : decode cc pc = .ok (.invokespecial index, 3)) (hw : zWI own index y code maxL n) (hy1 : y.name = "<init>") (hM : zM X.1.2.1 X.2.2.1.1 X.2.2.1.2.1 X.2.2.1.2.2.1 y code maxL none fr' lo' (.ref h :: As) G post) (hn : As.length = n) (hst : As.reverse ++ .ref h :: rest = st) (hrm : (rest.map fun v => v.category).sum ≤ 8) (hR : fr' + 1 ≤ fr ∧ 8 + (maxL + 11) + lo' ≤ lo) (kk : ∀ (r : Option Value) (G' : zH), post r G' → yZ X b0 (pc + 3) lv (r.toList ++ rest) G') : yZ X b0 pc lv st G := by
  intro ls H locs c1 c2 h1 h2 h3 h4
  obtain ⟨w1, w2, w4, w5, w6, w7, w8⟩ := hw
  obtain ⟨r1, r2, r3, r4⟩ := C.room
  refine z_tight C h2 (fun t1 t2 => ?_)
  exact y_run h1 h4 (va_runI (As := As.map (zv X.2.2.1.2.2.1)) (rest := rest.map (zv X.2.2.1.2.2.1)) (b := X.2.2.1.2.2.1 + h) ⟨C.1, C.2.1, C.2.2.2.1, C.2.2.2.2.1, C.2.2.2.2.2.1⟩ hM (cwI n C.2.2.2.2.2.1 (zT_in (zT_ws w5)) rfl rfl rfl (C.2.2.2.2.2.1 _ w4) (C.2.2.2.2.2.1 _ w1) (C.2.2.2.2.2.1 _ w2) hy1 ⟨w6, w7, w8⟩ (by rw [r1, r4]; exact hR)) ⟨zPc.blind, z_pre C h2 h3⟩ rfl (by simpa using hn) (h1.1.trans C.2.2.2.2.2.2.2.2.1) (by rw [← hst, List.map_append, List.map_reverse]; rfl) (lv_room (by rw [zv_cats]; exact hrm)) hd (z_fit C h3 t1 t2)) kk
theorem y_callVi (C : zOK X cc own nL ret fr lo) {h ci : Nat} {fs : List Value} {T : u_T} {N : Nat} {r : Int32} (hd : decode cc pc = .ok (.invokevirtual index, 3)) (hw : zWV own index y code maxL yret n) (hM : zM X.1.2.1 X.2.2.1.1 X.2.2.1.2.1 X.2.2.1.2.2.1 y code maxL yret fr' lo' (.ref h :: As) G (poI r G')) (he : G[h]? = some (.inr (ci, fs))) (hc : vwCl[ci]? = some (y.cls, T, N)) (hn : As.length = n) (hst : As.reverse ++ .ref h :: rest = st) (hrm : (rest.map fun v => v.category).sum ≤ 8) (hR : fr' + 1 ≤ fr ∧ 8 + (maxL + 11) + lo' ≤ lo) (kk : yZ X b0 (pc + 3) lv (.int r :: rest) G') : yZ X b0 pc lv st G := y_callV C hd hw hM he hc hn hst hrm hR (fun v G' q => by obtain ⟨rfl, rfl⟩ := q; exact kk)
theorem y_callVl (C : zOK X cc own nL ret fr lo) {h ci : Nat} {fs : List Value} {T : u_T} {N : Nat} {r : Int64} (hd : decode cc pc = .ok (.invokevirtual index, 3)) (hw : zWV own index y code maxL yret n) (hM : zM X.1.2.1 X.2.2.1.1 X.2.2.1.2.1 X.2.2.1.2.2.1 y code maxL yret fr' lo' (.ref h :: As) G (poL r G')) (he : G[h]? = some (.inr (ci, fs))) (hc : vwCl[ci]? = some (y.cls, T, N)) (hn : As.length = n) (hst : As.reverse ++ .ref h :: rest = st) (hrm : (rest.map fun v => v.category).sum ≤ 8) (hR : fr' + 1 ≤ fr ∧ 8 + (maxL + 11) + lo' ≤ lo) (kk : yZ X b0 (pc + 3) lv (.long r :: rest) G') : yZ X b0 pc lv st G := y_callV C hd hw hM he hc hn hst hrm hR (fun v G' q => by obtain ⟨rfl, rfl⟩ := q; exact kk)
theorem y_callIv (C : zOK X cc own nL ret fr lo) {h : Nat} (hd : decode cc pc = .ok (.invokespecial index, 3)) (hw : zWI own index y code maxL n) (hy1 : y.name = "<init>") (hM : zM X.1.2.1 X.2.2.1.1 X.2.2.1.2.1 X.2.2.1.2.2.1 y code maxL none fr' lo' (.ref h :: As) G (poV G')) (hn : As.length = n) (hst : As.reverse ++ .ref h :: rest = st) (hrm : (rest.map fun v => v.category).sum ≤ 8) (hR : fr' + 1 ≤ fr ∧ 8 + (maxL + 11) + lo' ≤ lo) (kk : yZ X b0 (pc + 3) lv rest G') : yZ X b0 pc lv st G := y_callI C hd hw hy1 hM hn hst hrm hR (fun v G' q => by obtain ⟨rfl, rfl⟩ := q; exact kk)
theorem y_new (C : zOK X cc own nL ret fr lo) {index ci : Nat} {Cn : String} {T : u_T} {N : Nat} {fs : List Value} (ty : Nat → FieldType) (hd : decode cc pc = .ok (.new index, 3)) (hc : vwCl[ci]? = some (Cn, T, N)) (hw : ∀ w ∈ u_ws Cn T N, w ∈ zT) (hty : ∀ k, k < N → parseFieldDescriptor (T k).2.2.1 = some (ty k)) (w1 : Cond.classLink own index Cn ∈ zT) (w2 : Cond.instantiable Cn N ∈ zT) (w3 : Cond.initialized Cn ∈ zT) (hfs : ∀ j, j < N → defaultValue (ty j) = vp_V fs j) (hfl : fs.length = N) (hfz : ∀ b, fs.map (zv b) = fs) (hl : G.length + 1 ≤ zGL) (hk : zs G + N ≤ zKL) (kk : yZ X b0 (pc + 3) lv (.ref G.length :: st) (G ++ [.inr (ci, fs)])) : yZ X b0 pc lv st G := by
  intro ls H locs c1 c2 h1 h2 h3 h4
  obtain ⟨r1, r2, r3, r4⟩ := C.room
  have hKn := C.2.2.2.2.2.2.2.1.1.1 ci _ hc
  refine z_tight C h2 (fun t1 t2 => ?_)
  refine W.newcK C.1 C.2.1 C.2.2.2.2.1 (C.2.2.2.2.2.1 _ w1) (C.2.2.2.2.2.1 _ w2) (C.2.2.2.2.2.1 _ w3) rfl hd (by rw [r2]; omega) (by rw [r3]; omega) hKn.2.1 h2.1 fun H1 kC hkC e1 z1 o1 => ?_
  have e2 : va_at X.2.2.1.1 vwCl (X.2.2.1.2.2.1 + G.length, ze X.2.2.1.2.1 X.2.2.1.2.2.1 (.inr (ci, fs))) H1 := by
    refine ⟨_, hc, ?_⟩
    show t_OB _ _ _ _ _ (vp_V (fs.map (zv _)))
    rw [hfz]
    exact (u_born ty C.2.2.2.2.2.1 hw hKn hkC e1 hty).to hfs
  have hsz : (blank (X.2.2.1.1.1 ci) kC).slots.size = N := by
    obtain ⟨cC, kC', q1, q2, -, -, -, q3⟩ := Cond.instantiable_spec (C.2.2.2.2.2.1 _ w2)
    cases q1.symm.trans hKn.2.1
    cases q2.symm.trans hkC
    simp [blank, q3]
  exact kk ls H1 _ _ _ h1 (h2.push e2 e1 (by rw [hsz]; exact hfl.symm) (by rw [z1, h2.1]) (fun q hq => o1 q (by rw [← h2.1]; exact hq))) ⟨by simp; omega, by rw [zs_push]; simp [zsz, hfl]; omega⟩ ⟨Nat.le_trans h4.1 (by rw [z1, h2.1]; omega), fun x g1 g2 => (o1 x (Nat.lt_of_lt_of_le g1 (by have := h4.1; rw [h2.1] at this; omega))).trans (h4.2.1 x g1 g2), h4.2.2⟩
theorem y_newa (C : zOK X cc own nL ret fr lo) {atype : ArrayType} {ty : FieldType} {t : Nat} {n : Int32} {N : Nat} {a0 : vp_A} (hd : decode cc pc = .ok (.newarray atype, 2)) (hty : newarray.typeOf atype = ty) (hw : Cond.arrayClass ty ∈ zT) (ht : (zt X.2.2.1.2.1)[t]? = some (X.2.2.1.2.1 t, ty)) (hra : ∀ (U : State) (cA : ClassId), va_RA U cA ty = (U.vm.findClass ("[" ++ ty.toString) = some cA)) (ha : ∀ (b : Nat) (cA : ClassId), vp_cell cA (za b a0) = arrV cA N (fun _ => defaultValue ty)) (ha1 : a0.1 = N) (hn : ¬ n < 0) (hN : n.toNatClampNeg = N) (hbytes : N * componentBytes ty ≤ 536870912) (hl : G.length + 1 ≤ zGL) (hk : zs G + N ≤ zKL) (kk : yZ X b0 (pc + 2) lv (.ref G.length :: st) (G ++ [.inl (t, a0)])) : yZ X b0 pc lv (.int n :: st) G := by
  intro ls H locs c1 c2 h1 h2 h3 h4
  subst hty
  obtain ⟨r1, r2, r3, r4⟩ := C.room
  refine z_tight C h2 (fun t1 t2 => ?_)
  refine va_newaK C.1 C.2.1 (C.2.2.2.2.2.1 _ hw) rfl hd rfl hn hN hbytes (by rw [r2]; omega) (by rw [r3]; omega) h2.1 fun H1 cA e1 z1 o1 hAr hNm => ?_
  have hcA : cA = X.2.2.1.2.1 t := by
    have := (C.2.2.2.2.2.2.2.1.1.2 t _ ht).2
    rw [hra] at this
    exact Option.some.inj (hNm.symm.trans this)
  subst hcA
  have e2 : va_at X.2.2.1.1 vwCl (X.2.2.1.2.2.1 + G.length, ze X.2.2.1.2.1 X.2.2.1.2.2.1 (.inl (t, a0))) H1 := by
    show H1[X.2.2.1.2.2.1 + G.length]? = some (vp_cell _ _)
    rw [ha, e1]
  exact kk ls H1 _ _ _ h1 (h2.push e2 e1 (by rw [arrV_size]; exact ha1.symm) (by rw [z1, h2.1]) (fun q hq => o1 q (by rw [← h2.1]; exact hq))) ⟨by simp; omega, by rw [zs_push]; simp [zsz, ha1]; omega⟩ ⟨Nat.le_trans h4.1 (by rw [z1, h2.1]; omega), fun x g1 g2 => (o1 x (Nat.lt_of_lt_of_le g1 (by have := h4.1; rw [h2.1] at this; omega))).trans (h4.2.1 x g1 g2), h4.2.2⟩
theorem y_lald (C : zOK X cc own nL ret fr lo) {h n : Nat} {f : Nat → Int64} {i : Int32} (hd : decode cc pc = .ok (.laload, 1)) (he : G[h]? = some (.inl (1, (n, .inr (.inl f))))) (hi : vp_in i n) (kk : yZ X b0 (pc + 1) lv (.long (f i.toNatClampNeg) :: st) G) : yZ X b0 pc lv (.int i :: .ref h :: st) G := fun ls H locs c1 c2 h1 h2 h3 h4 => va_lald C.1 C.2.1 C.2.2.2.2.2.2.2.1.1 (h2.one he rfl) 0 1 rfl rfl hi hd (kk ls H locs c1 c2 h1 h2 h3 h4)
theorem y_gNj (C : zOK X cc own nL ret fr lo) {n : Int32} {N r : Nat} (hd : decode cc pc = .ok (.newarray .long, 2)) (e : gN G n = some N) (er : r = G.length) (eG : G' = G ++ [.inl (1, (N, .inr (.inl (fun _ => 0))))]) (kk : yZ X b0 (pc + 2) lv (.ref r :: st) G') : yZ X b0 pc lv (.int n :: st) G := by
  obtain ⟨h1, h2, h3, h4, h5⟩ := dnew_eq e
  subst er
  subst eG
  exact y_newa (t := 1) (a0 := (N, .inr (.inl (fun _ => 0)))) C hd rfl w_along rfl (fun _ _ => rfl) (fun _ _ => rfl) rfl h1 h2 (by show N * 8 ≤ 536870912; omega) h4 h5 kk
theorem y_gO (C : zOK X cc own nL ret fr lo) {index ci : Nat} {Cn : String} {T : u_T} {N r : Nat} {fs : List Value} {u : Unit} (ty : Nat → FieldType) (hd : decode cc pc = .ok (.new index, 3)) (hc : vwCl[ci]? = some (Cn, T, N)) (hw : ∀ w ∈ u_ws Cn T N, w ∈ zT) (hty : ∀ k, k < N → parseFieldDescriptor (T k).2.2.1 = some (ty k)) (w1 : Cond.classLink own index Cn ∈ zT) (w2 : Cond.instantiable Cn N ∈ zT) (w3 : Cond.initialized Cn ∈ zT) (hfs : ∀ j, j < N → defaultValue (ty j) = vp_V fs j) (hfl : fs.length = N) (hfz : ∀ b, fs.map (zv b) = fs) (e : gP G N = some u) (er : r = G.length) (eG : G' = G ++ [.inr (ci, fs)]) (kk : yZ X b0 (pc + 3) lv (.ref r :: st) G') : yZ X b0 pc lv st G := by
  obtain ⟨h4, h5⟩ := gP_eq e
  subst er
  subst eG
  exact y_new C ty hd hc hw hty w1 w2 w3 hfs hfl hfz h4 h5 kk
theorem y_jR (C : zOK X cc own nL ret fr lo) {r : Nat} {i : Int32} {v : Int64} (hd : decode cc pc = .ok (.laload, 1)) (e : jR G r i = some v) (kk : yZ X b0 (pc + 1) lv (.long v :: st) G) : yZ X b0 pc lv (.int i :: .ref r :: st) G := by
  obtain ⟨q, h1, h2⟩ := ob1_eq e
  exact y_lald C hd (gJ_eq h1) (rd_eq h2).1 (y_topl (rd_eq h2).2 kk)
/-- the script's length, and its ints -/
theorem y_slen (C : zOK X cc own nL ret fr lo) {L : Nat} {xs : Nat → Int32} (hX : va_X b0 L xs X.1.2.2.2.2 X.1.2.2.2.2.heap) (hbl : b0 < X.1.2.2.2.2.heap.size) (hbA : b0 < X.2.2.1.2.2.1) (d0 : decode cc pc = .ok (.aload_n 0, 1)) (d1 : decode cc (pc + 1) = .ok (.arraylength, 1)) (kk : yZ X b0 (pc + 1 + 1) lv (.int (Int32.ofNat L) :: st) G) : yZ X b0 pc lv st G := by
  intro ls H locs c1 c2 h1 h2 h3 h4
  refine lv_aload_n C.1 C.2.1 d0 rfl (h1.2.2 (0, .ref b0) List.mem_cons_self) ?_
  exact va_slen C.1 C.2.1 hX hbl (Nat.not_le.mpr hbA) h4 d1 (kk ls H locs c1 c2 h1 h2 h3 h4)
theorem y_sget0 (C : zOK X cc own nL ret fr lo) {L j : Nat} {xs : Nat → Int32} {i v : Int32} (hX : va_X b0 L xs X.1.2.2.2.2 X.1.2.2.2.2.heap) (hbl : b0 < X.1.2.2.2.2.heap.size) (hbA : b0 < X.2.2.1.2.2.1) (hj : lv[j]? = some (4, .int i)) (hin : vp_in i L) (hv : xs i.toNatClampNeg = v) (d0 : decode cc pc = .ok (.aload_n 0, 1)) (d1 : decode cc (pc + 1) = .ok (.iload 4, 2)) (d2 : decode cc (pc + 1 + 2) = .ok (.iaload, 1)) (kk : yZ X b0 (pc + 1 + 2 + 1) lv (.int v :: st) G) : yZ X b0 pc lv st G := by
  intro ls H locs c1 c2 h1 h2 h3 h4
  refine lv_aload_n C.1 C.2.1 d0 rfl (h1.2.2 (0, .ref b0) List.mem_cons_self) ?_
  refine lv_iload C.1 C.2.1 d1 (z_loc (v := .int i) (lv := lv) ⟨h1.1, h1.2.1, fun q hq => h1.2.2 q (List.mem_cons_of_mem _ hq)⟩ hj) ?_
  refine va_sld C.1 C.2.1 hX hbl (Nat.not_le.mpr hbA) h4 hin d2 ?_
  rw [hv]
  exact kk ls H locs c1 c2 h1 h2 h3 h4
theorem y_sget (C : zOK X cc own nL ret fr lo) {L j : Nat} {xs : Nat → Int32} {i k v : Int32} {n : Int} (hX : va_X b0 L xs X.1.2.2.2.2 X.1.2.2.2.2.heap) (hbl : b0 < X.1.2.2.2.2.heap.size) (hbA : b0 < X.2.2.1.2.2.1) (hj : lv[j]? = some (4, .int i)) (hk : Int32.ofInt n = k) (hin : vp_in (i + k) L) (hv : xs (i + k).toNatClampNeg = v) (d0 : decode cc pc = .ok (.aload_n 0, 1)) (d1 : decode cc (pc + 1) = .ok (.iload 4, 2)) (d2 : decode cc (pc + 1 + 2) = .ok (.iconst n, 1)) (d3 : decode cc (pc + 1 + 2 + 1) = .ok (.iadd, 1)) (d4 : decode cc (pc + 1 + 2 + 1 + 1) = .ok (.iaload, 1)) (kk : yZ X b0 (pc + 1 + 2 + 1 + 1 + 1) lv (.int v :: st) G) : yZ X b0 pc lv st G := by
  intro ls H locs c1 c2 h1 h2 h3 h4
  refine lv_aload_n C.1 C.2.1 d0 rfl (h1.2.2 (0, .ref b0) List.mem_cons_self) ?_
  refine lv_iload C.1 C.2.1 d1 (z_loc (v := .int i) (lv := lv) ⟨h1.1, h1.2.1, fun q hq => h1.2.2 q (List.mem_cons_of_mem _ hq)⟩ hj) ?_
  refine lv_iconst C.1 C.2.1 d2 hk ?_
  refine lv_iadd C.1 C.2.1 d3 ?_
  refine va_sld C.1 C.2.1 hX hbl (Nat.not_le.mpr hbA) h4 hin d4 ?_
  rw [hv]
  exact kk ls H locs c1 c2 h1 h2 h3 h4
end YRules
