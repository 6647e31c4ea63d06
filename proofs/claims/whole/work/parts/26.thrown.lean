/-! the law's three calls that may throw -/
def zWW (own : String) (index : Nat) (y : MethodName) (cc : ByteArray) (n : Nat) (ret : Option FieldType) (hh : List (Nat × Nat × Nat × Nat)) (k : Nat) : Prop := Cond.methodLink own index y ∈ zT ∧ Cond.static y ∈ zT ∧ Cond.initialized y.cls ∈ zT ∧ Cond.codeWith y cc n ret hh ∈ zT ∧ y.cls ≠ "java/lang/invoke/MethodHandle" ∧ y.cls ≠ "java/lang/invoke/VarHandle" ∧ (parseMethodDescriptor y.desc).map (fun d => d.parameters.length) = some k
theorem sw_store : zWW RL 40 yL_store cL_store 5 (some .int) [(0, 10, 13, 13)] 4 := ⟨zin 847 (by decide +kernel) rfl, zin 848 (by decide +kernel) rfl, zin 86 (by decide +kernel) rfl, zin 849 (by decide +kernel) rfl, by decide, by decide, by decide +kernel⟩
theorem sw_piece : zWW RL 135 yL_piece cL_piece 5 (some .int) [(0, 10, 13, 13)] 4 := ⟨zin 929 (by decide +kernel) rfl, zin 930 (by decide +kernel) rfl, zin 86 (by decide +kernel) rfl, zin 931 (by decide +kernel) rfl, by decide, by decide, by decide +kernel⟩
theorem sw_row : zWW RL 230 yL_row cL_row 4 (some .int) [(0, 8, 11, 13)] 3 := ⟨zin 937 (by decide +kernel) rfl, zin 938 (by decide +kernel) rfl, zin 86 (by decide +kernel) rfl, zin 939 (by decide +kernel) rfl, by decide, by decide, by decide +kernel⟩
theorem zT_wsW {y : MethodName} {cc : ByteArray} {n : Nat} {ret : Option FieldType} {hh : List (Nat × Nat × Nat × Nat)} (h : Cond.codeWith y cc n ret hh ∈ zT) : ∀ w ∈ zwsW y cc n ret hh, w ∈ zT := fun w hw => (List.mem_cons.mp hw).elim (fun e => by rw [e]; exact h) id
theorem y_callSW {X : zX} {b0 : Nat} {cc : ByteArray} {own : String} {nL fr lo : Nat} {ret : Option FieldType} {pc : Nat} {lv : List (Nat × Value)} {st rest : List Value} {G : zH} {y : MethodName} {code : ByteArray} {maxL fr' lo' index n : Nat} {yret : Option FieldType} {As : List Value} {post : Option Value → zH → Prop} {hh : List (Nat × Nat × Nat × Nat)} (C : zOK X cc own nL ret fr lo) (h30 : zX3 X.2.2.1.2.2.1 X.1.2.2.2.2) (hd : decode cc pc = .ok (.invokestatic index, 3)) (hw : zWW own index y code maxL yret hh n) (hM : zMW X.1.2.1 X.2.2.1.1 X.2.2.1.2.1 X.2.2.1.2.2.1 y code maxL yret hh fr' lo' As G post) (hn : As.length = n) (hst : As.reverse ++ rest = st) (hrm : (rest.map fun v => v.category).sum ≤ 8) (hR : fr' + 1 ≤ fr ∧ 8 + (maxL + 11) + lo' ≤ lo) (kk : ∀ (r : Option Value) (G' : zH), post r G' → yZ X b0 (pc + 3) lv (r.toList ++ rest) G') : yZ X b0 pc lv st G := by
  intro ls H locs c1 c2 h1 h2 h3 h4
  obtain ⟨w1, w2, w4, w5, w6, w7, w8⟩ := hw
  obtain ⟨r1, r2, r3, r4⟩ := C.room
  refine z_tight C h2 (fun t1 t2 => ?_)
  have hG : GoodIn zT (va_wsS own index y (zwsW y code maxL yret hh)) := zT_in (fun w hw => by
    unfold va_wsS at hw
    rcases List.mem_append.mp hw with g | g
    · simp only [List.mem_cons, List.not_mem_nil, or_false] at g
      rcases g with rfl | rfl | rfl <;> assumption
    · exact zT_wsW w5 w g)
  exact y_run h1 h4 (vx_runSW (As := As.map (zv X.2.2.1.2.2.1)) (rest := rest.map (zv X.2.2.1.2.2.1)) ⟨C.1, C.2.1, C.2.2.2.1, C.2.2.2.2.1, C.2.2.2.2.2.1⟩ hM (vx_cwSW n C.2.2.2.2.2.1 hG rfl rfl rfl ⟨w6, w7, w8⟩ (by rw [r1, r4]; exact hR)) ⟨zPX.blind, fun U hU hW => ⟨z_pre C h2 h3 U hU hW, h30.move hW (fun a ha hb => by rw [hU]; exact h4.2.1 a ha hb)⟩⟩ rfl (by simpa using hn) (h1.1.trans C.2.2.2.2.2.2.2.2.1) (by rw [← hst, List.map_append, List.map_reverse]) (lv_room (by rw [zv_cats]; exact hrm)) hd (z_fit C h3 t1 t2)) kk
theorem lg_cmp_self (x : Int64) : lg_cmp x x = 0 := by simp [lg_cmp]
theorem hl_store {X : zX} {b0 L : Nat} {xs : Nat → Int32} {Inv : Nat → zH → Prop} (C : LC X) (hl : X.1.2.1.stackTraces = false) (h30 : zX3 X.2.2.1.2.2.1 X.1.2.2.2.2) (hX : va_X b0 L xs X.1.2.2.2.2 X.1.2.2.2.2.heap) (hbl : b0 < X.1.2.2.2.2.heap.size) (hbA : b0 < X.2.2.1.2.2.1) (hobj : ∀ k G, Inv k G → ∃ fs, G[0]? = some (.inr (6, fs))) (op : Op_store Inv) (k : Nat) (G : zH) (i : Int32) (hI : Inv (k + 1) G) (v0 : vp_in i L) (v1 : vp_in (i + 1) L) (v2 : vp_in (i + 2) L) (v3 : vp_in (i + 3) L) (hn : ∀ G', Inv k G' → yZ X b0 1726 (LV i) [] G') : yZ X b0 327 (LV i) [] G := by
  obtain ⟨fs, ho⟩ := hobj _ _ hI
  obtain ⟨x1, hx1⟩ : ∃ x, x = xs (i + 1).toNatClampNeg := ⟨_, rfl⟩
  obtain ⟨x2, hx2⟩ : ∃ x, x = xs (i + 2).toNatClampNeg := ⟨_, rfl⟩
  rcases op k G x1 x2 hI with ⟨r, G1, G2, A, M, B, M1, e1, ew, rfl, hA, e2, e3, e4, hI2⟩ | ⟨G1, e1, hg, hk, hO⟩
  ·
    refine y_aload_n (pc := 327) C 0 dL_law_327 rfl rfl ?_
    refine y_sget (pc := 328) (j := 3) (k := 1) C hX hbl hbA rfl (by decide) v1 hx1.symm dL_law_328 dL_law_329 dL_law_331 dL_law_332 dL_law_333 ?_
    refine y_sget (pc := 334) (j := 3) (k := 2) C hX hbl hbA rfl (by decide) v2 hx2.symm dL_law_334 dL_law_335 dL_law_337 dL_law_338 dL_law_339 ?_
    refine y_aload_n (pc := 340) C 2 dL_law_340 rfl rfl ?_
    refine y_callSW (pc := 341) (As := [.ref 0, .int x1, .int x2, .ref 49]) (rest := []) C h30 dL_law_341 sw_store (kL_store _ _ _ _ G 0 49 x1 x2 r G1 (hG A M B) ho e1 ew) rfl rfl (Nat.le_of_ble_eq_true rfl) (by decide) (fun v G' q => ?_)
    obtain ⟨rfl, rfl⟩ := q
    refine y_istore (pc := 344) C dL_law_344 (by decide) (by decide) rfl ?_
    refine y_aload_n (pc := 346) C 2 dL_law_346 rfl rfl (y_topr hA ?_)
    refine y_sget (pc := 347) (j := 4) (k := 1) C hX hbl hbA rfl (by decide) v1 hx1.symm dL_law_347 dL_law_348 dL_law_350 dL_law_351 dL_law_352 ?_
    refine y_sget (pc := 353) (j := 4) (k := 2) C hX hbl hbA rfl (by decide) v2 hx2.symm dL_law_353 dL_law_354 dL_law_356 dL_law_357 dL_law_358 ?_
    refine y_callVi (pc := 359) (h := A.length) (As := [.int x1, .int x2]) (rest := []) C dL_law_359 ml_L_45 (kX7_store _ _ _ _ A M B x1 x2 (r, M1) e2) (hM_o A M B) rfl rfl rfl (Nat.le_of_ble_eq_true rfl) (by decide) ?_
    refine y_istore (pc := 362) C dL_law_362 (by decide) (by decide) rfl ?_
    refine y_aload_n (pc := 364) C 3 dL_law_364 rfl rfl (y_topr hA ?_)
    refine y_callVi (pc := 365) (h := A.length) (As := []) (rest := []) C dL_law_365 ml_L_46 (kX7_thrown _ _ _ _ A M1 B 0 e3) (hM_o A M1 B) rfl rfl rfl (Nat.le_of_ble_eq_true rfl) (by decide) ?_
    refine y_iload (pc := 368) C 1 dL_law_368 rfl ?_
    refine y_ic_eq (pc := 370) C dL_law_370 (tgt := 375) (by decide) (fun _ => ?_) (fun q => absurd rfl q)
    refine y_iload (pc := 375) C 1 dL_law_375 rfl ?_
    refine y_if_ne (pc := 377) C dL_law_377 (tgt := 392) (by decide) (fun q => absurd rfl q) (fun _ => ?_)
    refine y_aload_n (pc := 380) C 4 dL_law_380 rfl rfl ?_
    refine y_iconst (pc := 381) (v := 0) C dL_law_381 rfl ?_
    refine y_jR (pc := 382) C dL_law_382 e4 ?_
    refine y_iload (pc := 383) C 0 dL_law_383 rfl ?_
    refine y_i2l (pc := 385) C dL_law_385 ?_
    refine y_lcmp (pc := 386) C dL_law_386 ?_
    refine y_if_eq (pc := 387) C dL_law_387 (tgt := 392) (by decide) (fun _ => ?_) (fun q => absurd (lg_cmp_self _) q)
    refine y_goto (pc := 392) (tgt := 1726) C dL_law_392 (by decide) ?_
    exact y_sub [2, 3, 4, 5] rfl (hn _ hI2)
  ·
    refine y_aload_n (pc := 327) C 0 dL_law_327 rfl rfl ?_
    refine y_sget (pc := 328) (j := 3) (k := 1) C hX hbl hbA rfl (by decide) v1 hx1.symm dL_law_328 dL_law_329 dL_law_331 dL_law_332 dL_law_333 ?_
    refine y_sget (pc := 334) (j := 3) (k := 2) C hX hbl hbA rfl (by decide) v2 hx2.symm dL_law_334 dL_law_335 dL_law_337 dL_law_338 dL_law_339 ?_
    refine y_aload_n (pc := 340) C 2 dL_law_340 rfl rfl ?_
    refine y_callSW (pc := 341) (As := [.ref 0, .int x1, .int x2, .ref 49]) (rest := []) C h30 dL_law_341 sw_store (xL_store _ hl _ _ _ G 0 49 x1 x2 G1 ho e1 hg hk) rfl rfl (Nat.le_of_ble_eq_true rfl) (by decide) (fun v G' q => ?_)
    obtain ⟨rfl, O, ⟨o1, o2, o3⟩, rfl⟩ := q
    obtain ⟨r, A, M, B, M1, eG, hA, e2, e3, hI2⟩ := hO O o1 o2 o3
    rw [eG]
    refine y_istore (pc := 344) C dL_law_344 (by decide) (by decide) rfl ?_
    refine y_aload_n (pc := 346) C 2 dL_law_346 rfl rfl (y_topr hA ?_)
    refine y_sget (pc := 347) (j := 4) (k := 1) C hX hbl hbA rfl (by decide) v1 hx1.symm dL_law_347 dL_law_348 dL_law_350 dL_law_351 dL_law_352 ?_
    refine y_sget (pc := 353) (j := 4) (k := 2) C hX hbl hbA rfl (by decide) v2 hx2.symm dL_law_353 dL_law_354 dL_law_356 dL_law_357 dL_law_358 ?_
    refine y_callVi (pc := 359) (h := A.length) (As := [.int x1, .int x2]) (rest := []) C dL_law_359 ml_L_45 (kX7_store _ _ _ _ A M B x1 x2 (r, M1) e2) (hM_o A M B) rfl rfl rfl (Nat.le_of_ble_eq_true rfl) (by decide) ?_
    refine y_istore (pc := 362) C dL_law_362 (by decide) (by decide) rfl ?_
    refine y_aload_n (pc := 364) C 3 dL_law_364 rfl rfl (y_topr hA ?_)
    refine y_callVi (pc := 365) (h := A.length) (As := []) (rest := []) C dL_law_365 ml_L_46 (kX7_thrown _ _ _ _ A M1 B 1 e3) (hM_o A M1 B) rfl rfl rfl (Nat.le_of_ble_eq_true rfl) (by decide) ?_
    refine y_iload (pc := 368) C 1 dL_law_368 rfl ?_
    refine y_ic_eq (pc := 370) C dL_law_370 (tgt := 375) (by decide) (fun _ => ?_) (fun q => absurd rfl q)
    refine y_iload (pc := 375) C 1 dL_law_375 rfl ?_
    refine y_if_ne (pc := 377) C dL_law_377 (tgt := 392) (by decide) (fun _ => ?_) (fun q => absurd q (by decide))
    refine y_goto (pc := 392) (tgt := 1726) C dL_law_392 (by decide) ?_
    exact y_sub [2, 3, 4, 5] rfl (hn _ hI2)
theorem hl_piece {X : zX} {b0 L : Nat} {xs : Nat → Int32} {Inv : Nat → zH → Prop} (C : LC X) (hl : X.1.2.1.stackTraces = false) (h30 : zX3 X.2.2.1.2.2.1 X.1.2.2.2.2) (hX : va_X b0 L xs X.1.2.2.2.2 X.1.2.2.2.2.heap) (hbl : b0 < X.1.2.2.2.2.heap.size) (hbA : b0 < X.2.2.1.2.2.1) (hobj : ∀ k G, Inv k G → ∃ fs, G[0]? = some (.inr (6, fs))) (op : Op_piece Inv) (k : Nat) (G : zH) (i : Int32) (hI : Inv (k + 1) G) (v0 : vp_in i L) (v1 : vp_in (i + 1) L) (v2 : vp_in (i + 2) L) (v3 : vp_in (i + 3) L) (hn : ∀ G', Inv k G' → yZ X b0 1726 (LV i) [] G') : yZ X b0 1028 (LV i) [] G := by
  obtain ⟨fs, ho⟩ := hobj _ _ hI
  obtain ⟨x1, hx1⟩ : ∃ x, x = xs (i + 1).toNatClampNeg := ⟨_, rfl⟩
  obtain ⟨x2, hx2⟩ : ∃ x, x = xs (i + 2).toNatClampNeg := ⟨_, rfl⟩
  rcases op k G x1 x2 hI with ⟨r, G1, G2, A, M, B, M1, e1, ew, rfl, hA, e2, e3, e4, hI2⟩ | ⟨G1, e1, hg, hk, hO⟩
  ·
    refine y_aload_n (pc := 1028) C 0 dL_law_1028 rfl rfl ?_
    refine y_sget (pc := 1029) (j := 3) (k := 1) C hX hbl hbA rfl (by decide) v1 hx1.symm dL_law_1029 dL_law_1030 dL_law_1032 dL_law_1033 dL_law_1034 ?_
    refine y_sget (pc := 1035) (j := 3) (k := 2) C hX hbl hbA rfl (by decide) v2 hx2.symm dL_law_1035 dL_law_1036 dL_law_1038 dL_law_1039 dL_law_1040 ?_
    refine y_aload_n (pc := 1041) C 2 dL_law_1041 rfl rfl ?_
    refine y_callSW (pc := 1042) (As := [.ref 0, .int x1, .int x2, .ref 49]) (rest := []) C h30 dL_law_1042 sw_piece (kL_piece _ _ _ _ G 0 49 x1 x2 r G1 (hG A M B) ho e1 ew) rfl rfl (Nat.le_of_ble_eq_true rfl) (by decide) (fun v G' q => ?_)
    obtain ⟨rfl, rfl⟩ := q
    refine y_istore (pc := 1045) C dL_law_1045 (by decide) (by decide) rfl ?_
    refine y_aload_n (pc := 1047) C 2 dL_law_1047 rfl rfl (y_topr hA ?_)
    refine y_sget (pc := 1048) (j := 4) (k := 1) C hX hbl hbA rfl (by decide) v1 hx1.symm dL_law_1048 dL_law_1049 dL_law_1051 dL_law_1052 dL_law_1053 ?_
    refine y_sget (pc := 1054) (j := 4) (k := 2) C hX hbl hbA rfl (by decide) v2 hx2.symm dL_law_1054 dL_law_1055 dL_law_1057 dL_law_1058 dL_law_1059 ?_
    refine y_callVi (pc := 1060) (h := A.length) (As := [.int x1, .int x2]) (rest := []) C dL_law_1060 ml_L_137 (kX7_piece _ _ _ _ A M B x1 x2 (r, M1) e2) (hM_o A M B) rfl rfl rfl (Nat.le_of_ble_eq_true rfl) (by decide) ?_
    refine y_istore (pc := 1063) C dL_law_1063 (by decide) (by decide) rfl ?_
    refine y_aload_n (pc := 1065) C 3 dL_law_1065 rfl rfl (y_topr hA ?_)
    refine y_callVi (pc := 1066) (h := A.length) (As := []) (rest := []) C dL_law_1066 ml_L_46 (kX7_thrown _ _ _ _ A M1 B 0 e3) (hM_o A M1 B) rfl rfl rfl (Nat.le_of_ble_eq_true rfl) (by decide) ?_
    refine y_iload (pc := 1069) C 1 dL_law_1069 rfl ?_
    refine y_ic_eq (pc := 1071) C dL_law_1071 (tgt := 1076) (by decide) (fun _ => ?_) (fun q => absurd rfl q)
    refine y_iload (pc := 1076) C 1 dL_law_1076 rfl ?_
    refine y_if_ne (pc := 1078) C dL_law_1078 (tgt := 1093) (by decide) (fun q => absurd rfl q) (fun _ => ?_)
    refine y_aload_n (pc := 1081) C 4 dL_law_1081 rfl rfl ?_
    refine y_iconst (pc := 1082) (v := 0) C dL_law_1082 rfl ?_
    refine y_jR (pc := 1083) C dL_law_1083 e4 ?_
    refine y_iload (pc := 1084) C 0 dL_law_1084 rfl ?_
    refine y_i2l (pc := 1086) C dL_law_1086 ?_
    refine y_lcmp (pc := 1087) C dL_law_1087 ?_
    refine y_if_eq (pc := 1088) C dL_law_1088 (tgt := 1093) (by decide) (fun _ => ?_) (fun q => absurd (lg_cmp_self _) q)
    refine y_goto (pc := 1093) (tgt := 1726) C dL_law_1093 (by decide) ?_
    exact y_sub [2, 3, 4, 5] rfl (hn _ hI2)
  ·
    refine y_aload_n (pc := 1028) C 0 dL_law_1028 rfl rfl ?_
    refine y_sget (pc := 1029) (j := 3) (k := 1) C hX hbl hbA rfl (by decide) v1 hx1.symm dL_law_1029 dL_law_1030 dL_law_1032 dL_law_1033 dL_law_1034 ?_
    refine y_sget (pc := 1035) (j := 3) (k := 2) C hX hbl hbA rfl (by decide) v2 hx2.symm dL_law_1035 dL_law_1036 dL_law_1038 dL_law_1039 dL_law_1040 ?_
    refine y_aload_n (pc := 1041) C 2 dL_law_1041 rfl rfl ?_
    refine y_callSW (pc := 1042) (As := [.ref 0, .int x1, .int x2, .ref 49]) (rest := []) C h30 dL_law_1042 sw_piece (xL_piece _ hl _ _ _ G 0 49 x1 x2 G1 ho e1 hg hk) rfl rfl (Nat.le_of_ble_eq_true rfl) (by decide) (fun v G' q => ?_)
    obtain ⟨rfl, O, ⟨o1, o2, o3⟩, rfl⟩ := q
    obtain ⟨r, A, M, B, M1, eG, hA, e2, e3, hI2⟩ := hO O o1 o2 o3
    rw [eG]
    refine y_istore (pc := 1045) C dL_law_1045 (by decide) (by decide) rfl ?_
    refine y_aload_n (pc := 1047) C 2 dL_law_1047 rfl rfl (y_topr hA ?_)
    refine y_sget (pc := 1048) (j := 4) (k := 1) C hX hbl hbA rfl (by decide) v1 hx1.symm dL_law_1048 dL_law_1049 dL_law_1051 dL_law_1052 dL_law_1053 ?_
    refine y_sget (pc := 1054) (j := 4) (k := 2) C hX hbl hbA rfl (by decide) v2 hx2.symm dL_law_1054 dL_law_1055 dL_law_1057 dL_law_1058 dL_law_1059 ?_
    refine y_callVi (pc := 1060) (h := A.length) (As := [.int x1, .int x2]) (rest := []) C dL_law_1060 ml_L_137 (kX7_piece _ _ _ _ A M B x1 x2 (r, M1) e2) (hM_o A M B) rfl rfl rfl (Nat.le_of_ble_eq_true rfl) (by decide) ?_
    refine y_istore (pc := 1063) C dL_law_1063 (by decide) (by decide) rfl ?_
    refine y_aload_n (pc := 1065) C 3 dL_law_1065 rfl rfl (y_topr hA ?_)
    refine y_callVi (pc := 1066) (h := A.length) (As := []) (rest := []) C dL_law_1066 ml_L_46 (kX7_thrown _ _ _ _ A M1 B 1 e3) (hM_o A M1 B) rfl rfl rfl (Nat.le_of_ble_eq_true rfl) (by decide) ?_
    refine y_iload (pc := 1069) C 1 dL_law_1069 rfl ?_
    refine y_ic_eq (pc := 1071) C dL_law_1071 (tgt := 1076) (by decide) (fun _ => ?_) (fun q => absurd rfl q)
    refine y_iload (pc := 1076) C 1 dL_law_1076 rfl ?_
    refine y_if_ne (pc := 1078) C dL_law_1078 (tgt := 1093) (by decide) (fun _ => ?_) (fun q => absurd q (by decide))
    refine y_goto (pc := 1093) (tgt := 1726) C dL_law_1093 (by decide) ?_
    exact y_sub [2, 3, 4, 5] rfl (hn _ hI2)
theorem hl_row {X : zX} {b0 L : Nat} {xs : Nat → Int32} {Inv : Nat → zH → Prop} (C : LC X) (hl : X.1.2.1.stackTraces = false) (h30 : zX3 X.2.2.1.2.2.1 X.1.2.2.2.2) (hX : va_X b0 L xs X.1.2.2.2.2 X.1.2.2.2.2.heap) (hbl : b0 < X.1.2.2.2.2.heap.size) (hbA : b0 < X.2.2.1.2.2.1) (hobj : ∀ k G, Inv k G → ∃ fs, G[0]? = some (.inr (6, fs))) (op : Op_row Inv) (k : Nat) (G : zH) (i : Int32) (hI : Inv (k + 1) G) (v0 : vp_in i L) (v1 : vp_in (i + 1) L) (v2 : vp_in (i + 2) L) (v3 : vp_in (i + 3) L) (hn : ∀ G', Inv k G' → yZ X b0 1726 (LV i) [] G') : yZ X b0 1671 (LV i) [] G := by
  obtain ⟨fs, ho⟩ := hobj _ _ hI
  obtain ⟨x1, hx1⟩ : ∃ x, x = xs (i + 1).toNatClampNeg := ⟨_, rfl⟩
  rcases op k G x1 hI with ⟨r, G1, G2, A, M, B, M1, e1, rfl, ew, rfl, hA, e2, e3, e4, hI2⟩ | ⟨G1, e1, hg, hk, hO⟩
  ·
    refine y_aload_n (pc := 1671) C 0 dL_law_1671 rfl rfl ?_
    refine y_sget (pc := 1672) (j := 3) (k := 1) C hX hbl hbA rfl (by decide) v1 hx1.symm dL_law_1672 dL_law_1673 dL_law_1675 dL_law_1676 dL_law_1677 ?_
    refine y_aload_n (pc := 1678) C 2 dL_law_1678 rfl rfl ?_
    refine y_callSW (pc := 1679) (As := [.ref 0, .int x1, .ref 49]) (rest := []) C h30 dL_law_1679 sw_row (kL_row _ _ _ _ _ 0 49 x1 r (hG A M B) ho e1 ew) rfl rfl (Nat.le_of_ble_eq_true rfl) (by decide) (fun v G' q => ?_)
    obtain ⟨rfl, rfl⟩ := q
    refine y_istore (pc := 1682) C dL_law_1682 (by decide) (by decide) rfl ?_
    refine y_aload_n (pc := 1684) C 2 dL_law_1684 rfl rfl (y_topr hA ?_)
    refine y_sget (pc := 1685) (j := 4) (k := 1) C hX hbl hbA rfl (by decide) v1 hx1.symm dL_law_1685 dL_law_1686 dL_law_1688 dL_law_1689 dL_law_1690 ?_
    refine y_callVl (pc := 1691) (h := A.length) (As := [.int x1]) (rest := []) C dL_law_1691 ml_L_233 (kX7_row _ _ _ _ A M B x1 (r, M1) e2) (hM_o A M B) rfl rfl rfl (Nat.le_of_ble_eq_true rfl) (by decide) ?_
    refine y_lstore (pc := 1694) C dL_law_1694 (by decide) (by decide) rfl ?_
    refine y_aload_n (pc := 1696) C 3 dL_law_1696 rfl rfl (y_topr hA ?_)
    refine y_callVi (pc := 1697) (h := A.length) (As := []) (rest := []) C dL_law_1697 ml_L_46 (kX7_thrown _ _ _ _ A M1 B 0 e3) (hM_o A M1 B) rfl rfl rfl (Nat.le_of_ble_eq_true rfl) (by decide) ?_
    refine y_iload (pc := 1700) C 1 dL_law_1700 rfl ?_
    refine y_ic_eq (pc := 1702) C dL_law_1702 (tgt := 1707) (by decide) (fun _ => ?_) (fun q => absurd rfl q)
    refine y_iload (pc := 1707) C 1 dL_law_1707 rfl ?_
    refine y_if_ne (pc := 1709) C dL_law_1709 (tgt := 1723) (by decide) (fun q => absurd rfl q) (fun _ => ?_)
    refine y_aload_n (pc := 1712) C 4 dL_law_1712 rfl rfl ?_
    refine y_iconst (pc := 1713) (v := 0) C dL_law_1713 rfl ?_
    refine y_jR (pc := 1714) C dL_law_1714 e4 ?_
    refine y_lload (pc := 1715) C 0 dL_law_1715 rfl ?_
    refine y_lcmp (pc := 1717) C dL_law_1717 ?_
    refine y_if_eq (pc := 1718) C dL_law_1718 (tgt := 1723) (by decide) (fun _ => ?_) (fun q => absurd (lg_cmp_self _) q)
    refine y_goto (pc := 1723) (tgt := 1726) C dL_law_1723 (by decide) ?_
    exact y_sub [2, 3, 4, 5] rfl (hn _ hI2)
  ·
    refine y_aload_n (pc := 1671) C 0 dL_law_1671 rfl rfl ?_
    refine y_sget (pc := 1672) (j := 3) (k := 1) C hX hbl hbA rfl (by decide) v1 hx1.symm dL_law_1672 dL_law_1673 dL_law_1675 dL_law_1676 dL_law_1677 ?_
    refine y_aload_n (pc := 1678) C 2 dL_law_1678 rfl rfl ?_
    refine y_callSW (pc := 1679) (As := [.ref 0, .int x1, .ref 49]) (rest := []) C h30 dL_law_1679 sw_row (xL_row _ hl _ _ _ G 0 49 x1 G1 ho e1 hg hk) rfl rfl (Nat.le_of_ble_eq_true rfl) (by decide) (fun v G' q => ?_)
    obtain ⟨rfl, O, ⟨o1, o2, o3⟩, rfl⟩ := q
    obtain ⟨r, A, M, B, M1, eG, hA, e2, e3, hI2⟩ := hO O o1 o2 o3
    rw [eG]
    refine y_istore (pc := 1682) C dL_law_1682 (by decide) (by decide) rfl ?_
    refine y_aload_n (pc := 1684) C 2 dL_law_1684 rfl rfl (y_topr hA ?_)
    refine y_sget (pc := 1685) (j := 4) (k := 1) C hX hbl hbA rfl (by decide) v1 hx1.symm dL_law_1685 dL_law_1686 dL_law_1688 dL_law_1689 dL_law_1690 ?_
    refine y_callVl (pc := 1691) (h := A.length) (As := [.int x1]) (rest := []) C dL_law_1691 ml_L_233 (kX7_row _ _ _ _ A M B x1 (r, M1) e2) (hM_o A M B) rfl rfl rfl (Nat.le_of_ble_eq_true rfl) (by decide) ?_
    refine y_lstore (pc := 1694) C dL_law_1694 (by decide) (by decide) rfl ?_
    refine y_aload_n (pc := 1696) C 3 dL_law_1696 rfl rfl (y_topr hA ?_)
    refine y_callVi (pc := 1697) (h := A.length) (As := []) (rest := []) C dL_law_1697 ml_L_46 (kX7_thrown _ _ _ _ A M1 B 1 e3) (hM_o A M1 B) rfl rfl rfl (Nat.le_of_ble_eq_true rfl) (by decide) ?_
    refine y_iload (pc := 1700) C 1 dL_law_1700 rfl ?_
    refine y_ic_eq (pc := 1702) C dL_law_1702 (tgt := 1707) (by decide) (fun _ => ?_) (fun q => absurd rfl q)
    refine y_iload (pc := 1707) C 1 dL_law_1707 rfl ?_
    refine y_if_ne (pc := 1709) C dL_law_1709 (tgt := 1723) (by decide) (fun _ => ?_) (fun q => absurd q (by decide))
    refine y_goto (pc := 1723) (tgt := 1726) C dL_law_1723 (by decide) ?_
    exact y_sub [2, 3, 4, 5] rfl (hn _ hI2)
