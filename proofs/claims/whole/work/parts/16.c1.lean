theorem dfX0 : ∀ j, j < 1 → defaultValue (tyX0 j) = vp_V [.int 0] j := fun j hj => match j, hj with
  | 0, _ => rfl
  | k + 1, hk => absurd hk (by omega)
theorem dfX1 : ∀ j, j < 4 → defaultValue (tyX1 j) = vp_V [.null, .int 0, .int 0, .int 0] j := fun j hj => match j, hj with
  | 0, _ => rfl
  | 1, _ => rfl
  | 2, _ => rfl
  | 3, _ => rfl
  | k + 4, hk => absurd hk (by omega)
theorem dfX2 : ∀ j, j < 6 → defaultValue (tyX2 j) = vp_V [.null, .null, .int 0, .int 0, .null, .null] j := fun j hj => match j, hj with
  | 0, _ => rfl
  | 1, _ => rfl
  | 2, _ => rfl
  | 3, _ => rfl
  | 4, _ => rfl
  | 5, _ => rfl
  | k + 6, hk => absurd hk (by omega)
theorem dfX3 : ∀ j, j < 3 → defaultValue (tyX3 j) = vp_V [.null, .null, .int 0] j := fun j hj => match j, hj with
  | 0, _ => rfl
  | 1, _ => rfl
  | 2, _ => rfl
  | k + 3, hk => absurd hk (by omega)
theorem dfX4 : ∀ j, j < 3 → defaultValue (tyX4 j) = vp_V [.null, .int 0, .int 0] j := fun j hj => match j, hj with
  | 0, _ => rfl
  | 1, _ => rfl
  | 2, _ => rfl
  | k + 3, hk => absurd hk (by omega)
theorem dfX5 : ∀ j, j < 2 → defaultValue (tyX5 j) = vp_V [.null, .int 0] j := fun j hj => match j, hj with
  | 0, _ => rfl
  | 1, _ => rfl
  | k + 2, hk => absurd hk (by omega)
theorem dfX6 : ∀ j, j < 14 → defaultValue (tyX6 j) = vp_V [.null, .int 0, .null, .null, .null, .null, .null, .null, .null, .null, .int 0, .null, .null, .int 0] j := fun j hj => match j, hj with
  | 0, _ => rfl
  | 1, _ => rfl
  | 2, _ => rfl
  | 3, _ => rfl
  | 4, _ => rfl
  | 5, _ => rfl
  | 6, _ => rfl
  | 7, _ => rfl
  | 8, _ => rfl
  | 9, _ => rfl
  | 10, _ => rfl
  | 11, _ => rfl
  | 12, _ => rfl
  | 13, _ => rfl
  | k + 14, hk => absurd hk (by omega)
theorem dfX7 : ∀ j, j < 34 → defaultValue (tyX7 j) = vp_V [.int 0, .int 0, .null, .null, .int 0, .int 0, .null, .null, .int 0, .int 0, .null, .int 0, .null, .null, .null, .null, .null, .int 0, .null, .null, .int 0, .int 0, .null, .null, .null, .null, .null, .null, .null, .int 0, .int 0, .null, .null, .int 0] j := fun j hj => match j, hj with
  | 0, _ => rfl
  | 1, _ => rfl
  | 2, _ => rfl
  | 3, _ => rfl
  | 4, _ => rfl
  | 5, _ => rfl
  | 6, _ => rfl
  | 7, _ => rfl
  | 8, _ => rfl
  | 9, _ => rfl
  | 10, _ => rfl
  | 11, _ => rfl
  | 12, _ => rfl
  | 13, _ => rfl
  | 14, _ => rfl
  | 15, _ => rfl
  | 16, _ => rfl
  | 17, _ => rfl
  | 18, _ => rfl
  | 19, _ => rfl
  | 20, _ => rfl
  | 21, _ => rfl
  | 22, _ => rfl
  | 23, _ => rfl
  | 24, _ => rfl
  | 25, _ => rfl
  | 26, _ => rfl
  | 27, _ => rfl
  | 28, _ => rfl
  | 29, _ => rfl
  | 30, _ => rfl
  | 31, _ => rfl
  | 32, _ => rfl
  | 33, _ => rfl
  | k + 34, hk => absurd hk (by omega)
def fX0_init (G : zH) (r0 : Nat) (x1 : Int32) : Option zH :=
    ob1 (fset G r0 0 0 (.int x1)) fun G1 =>
    some G1
set_option maxRecDepth 100000 in
set_option maxHeartbeats 4000000 in
theorem wfX0_init {X : zX} {out : zH} (C : zOK X cX0_init yX0_init.cls 2 none 1 20) (E : zPost X (poV out)) (hn : X.2.1.2.2.2.1.name = "<init>") (G : zH) (r0 : Nat) (x1 : Int32) (h : fX0_init G r0 x1 = some out) : zZ X 0 [(0, .ref r0), (1, .int x1)] [] G := by
  rw [fX0_init] at h
  refine z_aload_n (pc := 0) C 0 dX0_init_0 rfl rfl ?_
  refine z_objInit (pc := 1) C dX0_init_1 ml_X0_1 w_oi1 w_oi2 (Nat.le_of_ble_eq_true rfl) (by decide) (by decide) ?_
  refine z_aload_n (pc := 4) C 0 dX0_init_4 rfl rfl ?_
  refine z_iload_n (pc := 5) C 1 dX0_init_5 rfl rfl ?_
  obtain ⟨G1, eG1, h⟩ := ob1_eq h
  refine z_si (pc := 6) C dX0_init_6 fl_X0_7w eG1 ?_
  obtain rfl := Option.some.inj h
  exact z_vret (pc := 9) C E dX0_init_9 ⟨rfl, rfl⟩
theorem kX0_init (l : Launch) (D : va_G) (cA : Nat → ClassId) (b : Nat) (G : zH) (r0 : Nat) (x1 : Int32) (out : zH) (h : fX0_init G r0 x1 = some out) : zM l D cA b yX0_init cX0_init 2 none 1 20 [.ref r0, .int x1] G (poV out) := z_entry rfl (Nat.le_of_ble_eq_true rfl) (fun X C E hn _ _ => wfX0_init C E hn G r0 x1 h)
def fX0_draw (G : zH) (r0 : Nat) (x1 : Int32) : Option (Int32 × zH) :=
    ob1 (fi G r0 0 0) fun v1 =>
    ob1 (fset G r0 0 0 (.int ((v1 * (1103515245 : Int32)) + (12345 : Int32)))) fun G2 =>
    if (1 : Int32) ≤ x1 then (ob1 (fi G2 r0 0 0) fun v4 =>
    ob1 (nz x1) fun u5 =>
    some (((v4.toUInt32 >>> ((16 : Int32).toUInt32 &&& Int32.toUInt32 31)).toInt32 - (v4.toUInt32 >>> ((16 : Int32).toUInt32 &&& Int32.toUInt32 31)).toInt32 / x1 * x1), G2)) else
    some ((0 : Int32), G2)
set_option maxRecDepth 100000 in
set_option maxHeartbeats 4000000 in
theorem wfX0_draw {X : zX} {out : Int32 × zH} (C : zOK X cX0_draw yX0_draw.cls 2 (some .int) 0 0) (E : zPost X (poI out.1 out.2)) (G : zH) (r0 : Nat) (x1 : Int32) (h : fX0_draw G r0 x1 = some out) : zZ X 0 [(0, .ref r0), (1, .int x1)] [] G := by
  rw [fX0_draw] at h
  refine z_aload_n (pc := 0) C 0 dX0_draw_0 rfl rfl ?_
  refine z_aload_n (pc := 1) C 0 dX0_draw_1 rfl rfl ?_
  obtain ⟨v1, ev1, h⟩ := ob1_eq h
  refine z_fi (pc := 2) C dX0_draw_2 fl_X0_7 ev1 ?_
  refine z_ldc (pc := 5) C dX0_draw_5 cn_X0_13 ?_
  refine z_imul (pc := 7) C dX0_draw_7 ?_
  refine z_sipush (pc := 8) C dX0_draw_8 (v := (12345 : Int32)) (by decide) ?_
  refine z_iadd (pc := 11) C dX0_draw_11 ?_
  obtain ⟨G2, eG2, h⟩ := ob1_eq h
  refine z_si (pc := 12) C dX0_draw_12 fl_X0_7w eG2 ?_
  refine z_iload_n (pc := 15) C 1 dX0_draw_15 rfl rfl ?_
  refine z_iconst (pc := 16) C dX0_draw_16 (v := (1 : Int32)) (by decide) ?_
  refine z_ic_ge (pc := 17) C dX0_draw_17 (tgt := 24) (by decide) (fun c3 => ?_) (fun c3 => ?_)
  · rw [if_pos c3] at h
    refine z_aload_n (pc := 24) C 0 dX0_draw_24 rfl rfl ?_
    obtain ⟨v4, ev4, h⟩ := ob1_eq h
    refine z_fi (pc := 25) C dX0_draw_25 fl_X0_7 ev4 ?_
    refine z_bipush (pc := 28) C dX0_draw_28 (v := (16 : Int32)) (by decide) ?_
    refine z_iushr (pc := 30) C dX0_draw_30 ?_
    refine z_iload_n (pc := 31) C 1 dX0_draw_31 rfl rfl ?_
    obtain ⟨u5, eu5, h⟩ := ob1_eq h
    refine z_irem (pc := 32) C dX0_draw_32 (nz_eq eu5) ?_
    obtain rfl := Option.some.inj h
    exact z_iret (pc := 33) C E dX0_draw_33 ⟨rfl, rfl⟩
  · rw [if_neg c3] at h
    refine z_iconst (pc := 20) C dX0_draw_20 (v := (0 : Int32)) (by decide) ?_
    refine z_goto (pc := 21) C dX0_draw_21 (tgt := 33) (by decide) ?_
    obtain rfl := Option.some.inj h
    exact z_iret (pc := 33) C E dX0_draw_33 ⟨rfl, rfl⟩
theorem kX0_draw (l : Launch) (D : va_G) (cA : Nat → ClassId) (b : Nat) (G : zH) (r0 : Nat) (x1 : Int32) (out : Int32 × zH) (h : fX0_draw G r0 x1 = some out) : zM l D cA b yX0_draw cX0_draw 2 (some .int) 0 0 [.ref r0, .int x1] G (poI out.1 out.2) := z_entry rfl (Nat.le_of_ble_eq_true rfl) (fun X C E _ _ _ => wfX0_draw C E G r0 x1 h)
def fX1_init (G : zH) (r0 : Nat) : Option zH :=
    ob1 (gN G (31 : Int32)) fun N1 =>
    zlet (List.length G) fun qv2 =>
    zlet (G ++ [.inl (4, (N1, .inr (.inr (.inr (.inr (fun _ => none))))))]) fun G3 =>
    ob1 (fset G3 r0 1 0 (.ref qv2)) fun G4 =>
    some G4
set_option maxRecDepth 100000 in
set_option maxHeartbeats 4000000 in
theorem wfX1_init {X : zX} {out : zH} (C : zOK X cX1_init yX1_init.cls 1 none 1 20) (E : zPost X (poV out)) (hn : X.2.1.2.2.2.1.name = "<init>") (G : zH) (r0 : Nat) (h : fX1_init G r0 = some out) : zZ X 0 [(0, .ref r0)] [] G := by
  rw [fX1_init] at h
  refine z_aload_n (pc := 0) C 0 dX1_init_0 rfl rfl ?_
  refine z_objInit (pc := 1) C dX1_init_1 ml_X1_3 w_oi1 w_oi2 (Nat.le_of_ble_eq_true rfl) (by decide) (by decide) ?_
  refine z_aload_n (pc := 4) C 0 dX1_init_4 rfl rfl ?_
  refine z_bipush (pc := 5) C dX1_init_5 (v := (31 : Int32)) (by decide) ?_
  obtain ⟨N1, eN1, h⟩ := ob1_eq h
  obtain ⟨qv2, eqv2, h⟩ := zlet_eq h
  obtain ⟨G3, eG3, h⟩ := zlet_eq h
  refine z_gNq (pc := 7) C dX1_init_7 ck_X1_9 eN1 eqv2 eG3 ?_
  obtain ⟨G4, eG4, h⟩ := ob1_eq h
  refine z_srF (pc := 10) C hn dX1_init_10 fl_X1_11w (fun _ => ⟨rfl, rfl⟩) eG4 ?_
  obtain rfl := Option.some.inj h
  exact z_vret (pc := 13) C E dX1_init_13 ⟨rfl, rfl⟩
theorem kX1_init (l : Launch) (D : va_G) (cA : Nat → ClassId) (b : Nat) (G : zH) (r0 : Nat) (out : zH) (h : fX1_init G r0 = some out) : zM l D cA b yX1_init cX1_init 1 none 1 20 [.ref r0] G (poV out) := z_entry rfl (Nat.le_of_ble_eq_true rfl) (fun X C E hn _ _ => wfX1_init C E hn G r0 h)
def fJ9_floorMod_7cf53 (x0 : Int32) (x1 : Int32) : Option Int32 :=
    ob1 (nz x1) fun u1 =>
    zlet ((x0 - x0 / x1 * x1)) fun y2 =>
    if 0 ≤ (x0 ^^^ x1) then (some y2) else
    if y2 = 0 then (some y2) else
    some (y2 + x1)
set_option maxRecDepth 100000 in
set_option maxHeartbeats 4000000 in
theorem wfJ9_floorMod_7cf53 {X : zX} {G : zH} {out : Int32} (C : zOK X cJ9_floorMod_7cf53 yJ9_floorMod_7cf53.cls 3 (some .int) 0 0) (E : zPost X (poI out G)) (x0 : Int32) (x1 : Int32) (h : fJ9_floorMod_7cf53 x0 x1 = some out) : zZ X 0 [(0, .int x0), (1, .int x1)] [] G := by
  rw [fJ9_floorMod_7cf53] at h
  refine z_iload_n (pc := 0) C 0 dJ9_floorMod_7cf53_0 rfl rfl ?_
  refine z_iload_n (pc := 1) C 1 dJ9_floorMod_7cf53_1 rfl rfl ?_
  obtain ⟨u1, eu1, h⟩ := ob1_eq h
  refine z_irem (pc := 2) C dJ9_floorMod_7cf53_2 (nz_eq eu1) ?_
  obtain ⟨y2, ey2, h⟩ := zlet_eq h
  refine z_topi ey2 ?_
  refine z_istore_n (pc := 3) C dJ9_floorMod_7cf53_3 rfl (by decide) (show zput _ _ _ = [(2, .int y2), (0, .int x0), (1, .int x1)] from rfl) ?_
  refine z_iload_n (pc := 4) C 1 dJ9_floorMod_7cf53_4 rfl rfl ?_
  refine z_iload_n (pc := 5) C 2 dJ9_floorMod_7cf53_5 rfl rfl ?_
  refine z_ixor (pc := 6) C dJ9_floorMod_7cf53_6 ?_
  refine z_if_ge (pc := 7) C dJ9_floorMod_7cf53_7 (tgt := 18) (by decide) (fun c3 => ?_) (fun c3 => ?_)
  · rw [if_pos c3] at h
    refine z_iload_n (pc := 18) C 0 dJ9_floorMod_7cf53_18 rfl rfl ?_
    obtain rfl := Option.some.inj h
    exact z_iret (pc := 19) C E dJ9_floorMod_7cf53_19 ⟨rfl, rfl⟩
  · rw [if_neg c3] at h
    refine z_iload_n (pc := 10) C 0 dJ9_floorMod_7cf53_10 rfl rfl ?_
    refine z_if_eq (pc := 11) C dJ9_floorMod_7cf53_11 (tgt := 18) (by decide) (fun c4 => ?_) (fun c4 => ?_)
    · rw [if_pos c4] at h
      refine z_iload_n (pc := 18) C 0 dJ9_floorMod_7cf53_18 rfl rfl ?_
      obtain rfl := Option.some.inj h
      exact z_iret (pc := 19) C E dJ9_floorMod_7cf53_19 ⟨rfl, rfl⟩
    · rw [if_neg c4] at h
      refine z_iload_n (pc := 14) C 0 dJ9_floorMod_7cf53_14 rfl rfl ?_
      refine z_iload_n (pc := 15) C 2 dJ9_floorMod_7cf53_15 rfl rfl ?_
      refine z_iadd (pc := 16) C dJ9_floorMod_7cf53_16 ?_
      obtain rfl := Option.some.inj h
      exact z_iret (pc := 17) C E dJ9_floorMod_7cf53_17 ⟨rfl, rfl⟩
theorem kJ9_floorMod_7cf53 (l : Launch) (D : va_G) (cA : Nat → ClassId) (b : Nat) (G : zH) (x0 : Int32) (x1 : Int32) (out : Int32) (h : fJ9_floorMod_7cf53 x0 x1 = some out) : zM l D cA b yJ9_floorMod_7cf53 cJ9_floorMod_7cf53 3 (some .int) 0 0 [.int x0, .int x1] G (poI out G) := z_entryF (by decide +kernel) (Nat.le_of_ble_eq_true rfl) (fun X C E _ _ _ => wfJ9_floorMod_7cf53 C E x0 x1 h)
def fJ7_fill_53178_b5 : Nat → zH → Nat → Int32 → Int32 → Int32 → Option zH
  | 0, _, _, _, _, _ => none
  | n + 1, G, r0, x1, x2, x3 =>
    if x3 ≤ x2 then (some G) else
    ob1 (aW G 0 r0 x2 x1) fun G2 =>
    zlet (x2 + (1 : Int32)) fun y3 =>
    (fJ7_fill_53178_b5 n) G2 r0 x1 y3 x3
set_option maxRecDepth 100000 in
set_option maxHeartbeats 4000000 in
theorem wfJ7_fill_53178_b5 {X : zX} {out : zH} (C : zOK X cJ7_fill_53178 yJ7_fill_53178.cls 4 none 0 0) (E : zPost X (poV out)) : ∀ (n : Nat) (G : zH) (r0 : Nat) (x1 : Int32) (x2 : Int32) (x3 : Int32) (h : fJ7_fill_53178_b5 n G r0 x1 x2 x3 = some out), zZ X 5 [(0, .ref r0), (1, .int x1), (2, .int x2), (3, .int x3)] [] G := by
  intro n
  induction n with
  | zero => intro G r0 x1 x2 x3 h; cases h
  | succ n ih =>
    intro G r0 x1 x2 x3 h
    rw [fJ7_fill_53178_b5] at h
    refine z_iload_n (pc := 5) C 2 dJ7_fill_53178_5 rfl rfl ?_
    refine z_iload_n (pc := 6) C 3 dJ7_fill_53178_6 rfl rfl ?_
    refine z_ic_ge (pc := 7) C dJ7_fill_53178_7 (tgt := 20) (by decide) (fun c1 => ?_) (fun c1 => ?_)
    · rw [if_pos c1] at h
      obtain rfl := Option.some.inj h
      exact z_vret (pc := 20) C E dJ7_fill_53178_20 ⟨rfl, rfl⟩
    · rw [if_neg c1] at h
      refine z_aload_n (pc := 10) C 0 dJ7_fill_53178_10 rfl rfl ?_
      refine z_iload_n (pc := 11) C 2 dJ7_fill_53178_11 rfl rfl ?_
      refine z_iload_n (pc := 12) C 1 dJ7_fill_53178_12 rfl rfl ?_
      obtain ⟨G2, eG2, h⟩ := ob1_eq h
      refine z_aW (pc := 13) C dJ7_fill_53178_13 eG2 ?_
      obtain ⟨y3, ey3, h⟩ := zlet_eq h
      refine z_iinc (pc := 14) (v := y3) C 2 dJ7_fill_53178_14 rfl (by rw [ey3]; rfl) (by decide) (show zput _ _ _ = [(2, .int y3), (0, .ref r0), (1, .int x1), (3, .int x3)] from rfl) ?_
      refine z_goto (pc := 17) C dJ7_fill_53178_17 (tgt := 5) (by decide) ?_
      exact z_subL [1, 2, 0, 3] (ih G2 r0 x1 y3 x3 h) rfl
def fJ7_fill_53178 (G : zH) (r0 : Nat) (x1 : Int32) : Option zH :=
    ob1 (aL G 0 r0) fun v1 =>
    fJ7_fill_53178_b5 FU G r0 x1 (0 : Int32) v1
set_option maxRecDepth 100000 in
set_option maxHeartbeats 4000000 in
theorem wfJ7_fill_53178 {X : zX} {out : zH} (C : zOK X cJ7_fill_53178 yJ7_fill_53178.cls 4 none 0 0) (E : zPost X (poV out)) (G : zH) (r0 : Nat) (x1 : Int32) (h : fJ7_fill_53178 G r0 x1 = some out) : zZ X 0 [(0, .ref r0), (1, .int x1)] [] G := by
  rw [fJ7_fill_53178] at h
  refine z_iconst (pc := 0) C dJ7_fill_53178_0 (v := (0 : Int32)) (by decide) ?_
  refine z_istore_n (pc := 1) C dJ7_fill_53178_1 rfl (by decide) (show zput _ _ _ = [(2, .int (0 : Int32)), (0, .ref r0), (1, .int x1)] from rfl) ?_
  refine z_aload_n (pc := 2) C 1 dJ7_fill_53178_2 rfl rfl ?_
  obtain ⟨v1, ev1, h⟩ := ob1_eq h
  refine z_aL (pc := 3) C dJ7_fill_53178_3 (by decide) ev1 ?_
  refine z_istore_n (pc := 4) C dJ7_fill_53178_4 rfl (by decide) (show zput _ _ _ = [(3, .int v1), (2, .int (0 : Int32)), (0, .ref r0), (1, .int x1)] from rfl) ?_
  exact z_subL [2, 3, 1, 0] (wfJ7_fill_53178_b5 C E FU G r0 x1 (0 : Int32) v1 h) rfl
theorem kJ7_fill_53178 (l : Launch) (D : va_G) (cA : Nat → ClassId) (b : Nat) (G : zH) (r0 : Nat) (x1 : Int32) (out : zH) (h : fJ7_fill_53178 G r0 x1 = some out) : zM l D cA b yJ7_fill_53178 cJ7_fill_53178 4 none 0 0 [.ref r0, .int x1] G (poV out) := z_entry rfl (Nat.le_of_ble_eq_true rfl) (fun X C E _ _ _ => wfJ7_fill_53178 C E G r0 x1 h)
def fX2_init (G : zH) (r0 : Nat) : Option zH :=
    ob1 (gN G (16 : Int32)) fun N1 =>
    zlet (List.length G) fun qv2 =>
    zlet (G ++ [.inl (0, (N1, .inl (fun _ => 0)))]) fun G3 =>
    ob1 (fset G3 r0 2 0 (.ref qv2)) fun G4 =>
    ob1 (gN G4 (16 : Int32)) fun N5 =>
    zlet (List.length G4) fun qv6 =>
    zlet (G4 ++ [.inl (0, (N5, .inl (fun _ => 0)))]) fun G7 =>
    ob1 (fset G7 r0 2 1 (.ref qv6)) fun G8 =>
    ob1 (gN G8 (8 : Int32)) fun N9 =>
    zlet (List.length G8) fun qv10 =>
    zlet (G8 ++ [.inl (0, (N9, .inl (fun _ => 0)))]) fun G11 =>
    ob1 (fset G11 r0 2 4 (.ref qv10)) fun G12 =>
    ob1 (gN G12 (8 : Int32)) fun N13 =>
    zlet (List.length G12) fun qv14 =>
    zlet (G12 ++ [.inl (3, (N13, .inl (fun _ => 0)))]) fun G15 =>
    ob1 (fset G15 r0 2 5 (.ref qv14)) fun G16 =>
    ob1 (frf G16 r0 2 4) fun qv17 =>
    ob1 (fJ7_fill_53178 G16 qv17 (-1 : Int32)) fun G18 =>
    some G18
set_option maxRecDepth 100000 in
set_option maxHeartbeats 4000000 in
theorem wfX2_init {X : zX} {out : zH} (C : zOK X cX2_init yX2_init.cls 1 none 1 23) (E : zPost X (poV out)) (hn : X.2.1.2.2.2.1.name = "<init>") (G : zH) (r0 : Nat) (h : fX2_init G r0 = some out) : zZ X 0 [(0, .ref r0)] [] G := by
  rw [fX2_init] at h
  refine z_aload_n (pc := 0) C 0 dX2_init_0 rfl rfl ?_
  refine z_objInit (pc := 1) C dX2_init_1 ml_X2_3 w_oi1 w_oi2 (Nat.le_of_ble_eq_true rfl) (by decide) (by decide) ?_
  refine z_aload_n (pc := 4) C 0 dX2_init_4 rfl rfl ?_
  refine z_bipush (pc := 5) C dX2_init_5 (v := (16 : Int32)) (by decide) ?_
  obtain ⟨N1, eN1, h⟩ := ob1_eq h
  obtain ⟨qv2, eqv2, h⟩ := zlet_eq h
  obtain ⟨G3, eG3, h⟩ := zlet_eq h
  refine z_gN (pc := 7) C dX2_init_7 eN1 eqv2 eG3 ?_
  obtain ⟨G4, eG4, h⟩ := ob1_eq h
  refine z_sr (pc := 9) C dX2_init_9 fl_X2_9w (fun _ => ⟨rfl, rfl⟩) eG4 ?_
  refine z_aload_n (pc := 12) C 0 dX2_init_12 rfl rfl ?_
  refine z_bipush (pc := 13) C dX2_init_13 (v := (16 : Int32)) (by decide) ?_
  obtain ⟨N5, eN5, h⟩ := ob1_eq h
  obtain ⟨qv6, eqv6, h⟩ := zlet_eq h
  obtain ⟨G7, eG7, h⟩ := zlet_eq h
  refine z_gN (pc := 15) C dX2_init_15 eN5 eqv6 eG7 ?_
  obtain ⟨G8, eG8, h⟩ := ob1_eq h
  refine z_sr (pc := 17) C dX2_init_17 fl_X2_15w (fun _ => ⟨rfl, rfl⟩) eG8 ?_
  refine z_aload_n (pc := 20) C 0 dX2_init_20 rfl rfl ?_
  refine z_bipush (pc := 21) C dX2_init_21 (v := (8 : Int32)) (by decide) ?_
  obtain ⟨N9, eN9, h⟩ := ob1_eq h
  obtain ⟨qv10, eqv10, h⟩ := zlet_eq h
  obtain ⟨G11, eG11, h⟩ := zlet_eq h
  refine z_gN (pc := 23) C dX2_init_23 eN9 eqv10 eG11 ?_
  obtain ⟨G12, eG12, h⟩ := ob1_eq h
  refine z_srF (pc := 25) C hn dX2_init_25 fl_X2_18w (fun _ => ⟨rfl, rfl⟩) eG12 ?_
  refine z_aload_n (pc := 28) C 0 dX2_init_28 rfl rfl ?_
  refine z_bipush (pc := 29) C dX2_init_29 (v := (8 : Int32)) (by decide) ?_
  obtain ⟨N13, eN13, h⟩ := ob1_eq h
  obtain ⟨qv14, eqv14, h⟩ := zlet_eq h
  obtain ⟨G15, eG15, h⟩ := zlet_eq h
  refine z_gNz (pc := 31) C dX2_init_31 eN13 eqv14 eG15 ?_
  obtain ⟨G16, eG16, h⟩ := ob1_eq h
  refine z_srF (pc := 33) C hn dX2_init_33 fl_X2_21w (fun _ => ⟨rfl, rfl⟩) eG16 ?_
  refine z_aload_n (pc := 36) C 0 dX2_init_36 rfl rfl ?_
  obtain ⟨qv17, eqv17, h⟩ := ob1_eq h
  refine z_fr (pc := 37) C dX2_init_37 fl_X2_18 eqv17 ?_
  refine z_iconst (pc := 40) C dX2_init_40 (v := (-1 : Int32)) (by decide) ?_
  obtain ⟨G18, eG18, h⟩ := ob1_eq h
  refine z_callSv (As := [.ref qv17, .int (-1 : Int32)]) (rest := []) (pc := 41) C dX2_init_41 ml_X2_25 (kJ7_fill_53178 _ _ _ _ G16 qv17 (-1 : Int32) _ eG18) rfl rfl (Nat.le_of_ble_eq_true rfl) (by decide) ?_
  obtain rfl := Option.some.inj h
  exact z_vret (pc := 44) C E dX2_init_44 ⟨rfl, rfl⟩
theorem kX2_init (l : Launch) (D : va_G) (cA : Nat → ClassId) (b : Nat) (G : zH) (r0 : Nat) (out : zH) (h : fX2_init G r0 = some out) : zM l D cA b yX2_init cX2_init 1 none 1 23 [.ref r0] G (poV out) := z_entry rfl (Nat.le_of_ble_eq_true rfl) (fun X C E hn _ _ => wfX2_init C E hn G r0 h)
def fX1_ago_b34 (G : zH) (r0 : Nat) (x2 : Int32) : Option (Nat × zH) :=
    ob1 (frf G r0 1 0) fun qv1 =>
    ob1 (qR G 4 qv1 x2) fun oq2 =>
    ob1 oq2 fun qv3 =>
    some (qv3, G)
set_option maxRecDepth 100000 in
set_option maxHeartbeats 4000000 in
theorem wfX1_ago_b34 {X : zX} {out : Nat × zH} (C : zOK X cX1_ago yX1_ago.cls 3 (some (.object "PieceBook$Leaf")) 2 43) (E : zPost X (poR out.1 out.2)) (G : zH) (r0 : Nat) (x2 : Int32) (h : fX1_ago_b34 G r0 x2 = some out) : zZ X 34 [(0, .ref r0), (2, .int x2)] [] G := by
  rw [fX1_ago_b34] at h
  refine z_aload_n (pc := 34) C 0 dX1_ago_34 rfl rfl ?_
  obtain ⟨qv1, eqv1, h⟩ := ob1_eq h
  refine z_fr (pc := 35) C dX1_ago_35 fl_X1_11 eqv1 ?_
  refine z_iload_n (pc := 38) C 1 dX1_ago_38 rfl rfl ?_
  obtain ⟨oq2, eoq2, h⟩ := ob1_eq h
  obtain ⟨qv3, eqv3, h⟩ := ob1_eq h
  refine z_qR (pc := 39) C dX1_ago_39 eoq2 ?_
  subst eqv3
  show zZ X 40 [(0, .ref r0), (2, .int x2)] (.ref qv3 :: []) G
  obtain rfl := Option.some.inj h
  exact z_aret (pc := 40) C E dX1_ago_40 (Or.inl ⟨_, rfl⟩) ⟨rfl, rfl⟩
def fX1_ago (G : zH) (r0 : Nat) (x1 : Int32) : Option (Nat × zH) :=
    ob1 (fi G r0 1 1) fun v1 =>
    ob1 (fJ9_floorMod_7cf53 (v1 - x1) (31 : Int32)) fun v2 =>
    ob1 (frf G r0 1 0) fun qv3 =>
    ob1 (qR G 4 qv3 v2) fun oq4 =>
    oq oq4 (ob1 (frf G r0 1 0) fun qv6 =>
    ob1 (gP G 6) fun u7 =>
    zlet (List.length G) fun qv8 =>
    zlet (G ++ [.inr (2, [.null, .null, .int 0, .int 0, .null, .null])]) fun G9 =>
    ob1 (fX2_init G9 qv8 ) fun G10 =>
    ob1 (qW G10 qv6 v2 qv8) fun G11 =>
    fX1_ago_b34 G11 r0 v2) fun qv5 =>
    fX1_ago_b34 G r0 v2
set_option maxRecDepth 100000 in
set_option maxHeartbeats 4000000 in
theorem wfX1_ago {X : zX} {out : Nat × zH} (C : zOK X cX1_ago yX1_ago.cls 3 (some (.object "PieceBook$Leaf")) 2 43) (E : zPost X (poR out.1 out.2)) (G : zH) (r0 : Nat) (x1 : Int32) (h : fX1_ago G r0 x1 = some out) : zZ X 0 [(0, .ref r0), (1, .int x1)] [] G := by
  rw [fX1_ago] at h
  refine z_aload_n (pc := 0) C 0 dX1_ago_0 rfl rfl ?_
  obtain ⟨v1, ev1, h⟩ := ob1_eq h
  refine z_fi (pc := 1) C dX1_ago_1 fl_X1_21 ev1 ?_
  refine z_iload_n (pc := 4) C 1 dX1_ago_4 rfl rfl ?_
  refine z_isub (pc := 5) C dX1_ago_5 ?_
  refine z_bipush (pc := 6) C dX1_ago_6 (v := (31 : Int32)) (by decide) ?_
  obtain ⟨v2, ev2, h⟩ := ob1_eq h
  refine z_callSi (As := [.int (v1 - x1), .int (31 : Int32)]) (rest := []) (pc := 8) C dX1_ago_8 ml_X1_25 (kJ9_floorMod_7cf53 _ _ _ _ G (v1 - x1) (31 : Int32) _ ev2) rfl rfl (Nat.le_of_ble_eq_true rfl) (by decide) ?_
  refine z_istore_n (pc := 11) C dX1_ago_11 rfl (by decide) (show zput _ _ _ = [(2, .int v2), (0, .ref r0), (1, .int x1)] from rfl) ?_
  refine z_aload_n (pc := 12) C 1 dX1_ago_12 rfl rfl ?_
  obtain ⟨qv3, eqv3, h⟩ := ob1_eq h
  refine z_fr (pc := 13) C dX1_ago_13 fl_X1_11 eqv3 ?_
  refine z_iload_n (pc := 16) C 0 dX1_ago_16 rfl rfl ?_
  obtain ⟨oq4, eoq4, h⟩ := ob1_eq h
  refine z_qR (pc := 17) C dX1_ago_17 eoq4 ?_
  rcases oq_eq h with ⟨rfl, h⟩ | ⟨qv5, rfl, h⟩
  · show zZ X 18 [(2, .int v2), (0, .ref r0), (1, .int x1)] (.null :: []) G
    refine z_nonnullN (pc := 18) C dX1_ago_18 ?_
    refine z_aload_n (pc := 21) C 1 dX1_ago_21 rfl rfl ?_
    obtain ⟨qv6, eqv6, h⟩ := ob1_eq h
    refine z_fr (pc := 22) C dX1_ago_22 fl_X1_11 eqv6 ?_
    refine z_iload_n (pc := 25) C 0 dX1_ago_25 rfl rfl ?_
    obtain ⟨u7, eu7, h⟩ := ob1_eq h
    obtain ⟨qv8, eqv8, h⟩ := zlet_eq h
    obtain ⟨G9, eG9, h⟩ := zlet_eq h
    refine z_gO (ci := 2) (pc := 26) C tyX2 dX1_ago_26 rfl uwX2 tyX2_ok ck_X1_9 insX2 iniX2 dfX2 rfl (fun _ => rfl) eu7 eqv8 eG9 ?_
    refine z_dup (pc := 29) C dX1_ago_29 rfl ?_
    obtain ⟨G10, eG10, h⟩ := ob1_eq h
    refine z_callIv (h := qv8) (As := []) (rest := [.ref qv8, .int v2, .ref qv6]) (pc := 30) C dX1_ago_30 ml_X1_31 rfl (kX2_init _ _ _ _ G9 qv8  _ eG10) rfl rfl (Nat.le_of_ble_eq_true rfl) (by decide) ?_
    obtain ⟨G11, eG11, h⟩ := ob1_eq h
    refine z_qW (pc := 33) C dX1_ago_33 eG11 ?_
    exact z_subL [1, 0] (wfX1_ago_b34 C E G11 r0 v2 h) rfl
  · show zZ X 18 [(2, .int v2), (0, .ref r0), (1, .int x1)] (.ref qv5 :: []) G
    refine z_nonnull (pc := 18) C dX1_ago_18 (tgt := 34) (by decide) ?_
    exact z_subL [1, 0] (wfX1_ago_b34 C E G r0 v2 h) rfl
theorem kX1_ago (l : Launch) (D : va_G) (cA : Nat → ClassId) (b : Nat) (G : zH) (r0 : Nat) (x1 : Int32) (out : Nat × zH) (h : fX1_ago G r0 x1 = some out) : zM l D cA b yX1_ago cX1_ago 3 (some (.object "PieceBook$Leaf")) 2 43 [.ref r0, .int x1] G (poR out.1 out.2) := z_entry rfl (Nat.le_of_ble_eq_true rfl) (fun X C E _ _ _ => wfX1_ago C E G r0 x1 h)
def fX1_current (G : zH) (r0 : Nat) : Option (Nat × zH) :=
    ob1 (isO G r0 1) fun u1 =>
    ob2 (fX1_ago G r0 (0 : Int32)) fun qv4 G3 =>
    some (qv4, G3)
set_option maxRecDepth 100000 in
set_option maxHeartbeats 4000000 in
theorem wfX1_current {X : zX} {out : Nat × zH} (C : zOK X cX1_current yX1_current.cls 1 (some (.object "PieceBook$Leaf")) 3 65) (E : zPost X (poR out.1 out.2)) (G : zH) (r0 : Nat) (h : fX1_current G r0 = some out) : zZ X 0 [(0, .ref r0)] [] G := by
  rw [fX1_current] at h
  refine z_aload_n (pc := 0) C 0 dX1_current_0 rfl rfl ?_
  refine z_iconst (pc := 1) C dX1_current_1 (v := (0 : Int32)) (by decide) ?_
  obtain ⟨u1, eu1, h⟩ := ob1_eq h
  obtain ⟨w2, ew2⟩ := isO_eq eu1
  obtain ⟨qv4, G3, eqv4, h⟩ := ob2_eq h
  refine z_callVr (h := r0) (As := [.int (0 : Int32)]) (rest := []) (pc := 2) C dX1_current_2 ml_X1_17 (kX1_ago _ _ _ _ G r0 (0 : Int32) (qv4, G3) eqv4) ew2 rfl rfl rfl (Nat.le_of_ble_eq_true rfl) (by decide) ?_
  obtain rfl := Option.some.inj h
  exact z_aret (pc := 5) C E dX1_current_5 (Or.inl ⟨_, rfl⟩) ⟨rfl, rfl⟩
theorem kX1_current (l : Launch) (D : va_G) (cA : Nat → ClassId) (b : Nat) (G : zH) (r0 : Nat) (out : Nat × zH) (h : fX1_current G r0 = some out) : zM l D cA b yX1_current cX1_current 1 (some (.object "PieceBook$Leaf")) 3 65 [.ref r0] G (poR out.1 out.2) := z_entry rfl (Nat.le_of_ble_eq_true rfl) (fun X C E _ _ _ => wfX1_current C E G r0 h)
def fJ7_copyOf_59c91 (G : zH) (r0 : Nat) (x1 : Int32) : Option (Nat × zH) :=
    ob1 (aL G 0 r0) fun v1 =>
    if x1 = v1 then (none) else
    ob1 (gN G x1) fun N3 =>
    zlet (List.length G) fun qv4 =>
    zlet (G ++ [.inl (0, (N3, .inl (fun _ => 0)))]) fun G5 =>
    ob1 (aL G5 0 r0) fun v6 =>
    ob1 (cp G5 r0 (0 : Int32) qv4 (0 : Int32) (if x1 < v6 then x1 else v6)) fun G7 =>
    some (qv4, G7)
set_option maxRecDepth 100000 in
set_option maxHeartbeats 4000000 in
theorem wfJ7_copyOf_59c91 {X : zX} {out : Nat × zH} (C : zOK X cJ7_copyOf_59c91 yJ7_copyOf_59c91.cls 3 (some (.array .int)) 1 21) (E : zPost X (poR out.1 out.2)) (G : zH) (r0 : Nat) (x1 : Int32) (h : fJ7_copyOf_59c91 G r0 x1 = some out) : zZ X 0 [(0, .ref r0), (1, .int x1)] [] G := by
  rw [fJ7_copyOf_59c91] at h
  refine z_iload_n (pc := 0) C 1 dJ7_copyOf_59c91_0 rfl rfl ?_
  refine z_aload_n (pc := 1) C 0 dJ7_copyOf_59c91_1 rfl rfl ?_
  obtain ⟨v1, ev1, h⟩ := ob1_eq h
  refine z_aL (pc := 2) C dJ7_copyOf_59c91_2 (by decide) ev1 ?_
  refine z_ic_ne (pc := 3) C dJ7_copyOf_59c91_3 (tgt := 14) (by decide) (fun c2 => ?_) (fun c2 => ?_)
  · rw [if_neg c2] at h
    refine z_iload_n (pc := 14) C 1 dJ7_copyOf_59c91_14 rfl rfl ?_
    obtain ⟨N3, eN3, h⟩ := ob1_eq h
    obtain ⟨qv4, eqv4, h⟩ := zlet_eq h
    obtain ⟨G5, eG5, h⟩ := zlet_eq h
    refine z_gN (pc := 15) C dJ7_copyOf_59c91_15 eN3 eqv4 eG5 ?_
    refine z_astore_n (pc := 17) C dJ7_copyOf_59c91_17 rfl (by decide) (show zput _ _ _ = [(2, .ref qv4), (0, .ref r0), (1, .int x1)] from rfl) ?_
    refine z_aload_n (pc := 18) C 1 dJ7_copyOf_59c91_18 rfl rfl ?_
    refine z_iconst (pc := 19) C dJ7_copyOf_59c91_19 (v := (0 : Int32)) (by decide) ?_
    refine z_aload_n (pc := 20) C 0 dJ7_copyOf_59c91_20 rfl rfl ?_
    refine z_iconst (pc := 21) C dJ7_copyOf_59c91_21 (v := (0 : Int32)) (by decide) ?_
    refine z_aload_n (pc := 22) C 1 dJ7_copyOf_59c91_22 rfl rfl ?_
    obtain ⟨v6, ev6, h⟩ := ob1_eq h
    refine z_aL (pc := 23) C dJ7_copyOf_59c91_23 (by decide) ev6 ?_
    refine z_iload_n (pc := 24) C 2 dJ7_copyOf_59c91_24 rfl rfl ?_
    refine z_mmin (pc := 25) C dJ7_copyOf_59c91_25 ml_J7_304 w_min1 w_math w_min2 (Nat.le_of_ble_eq_true rfl) (by decide) ?_
    obtain ⟨G7, eG7, h⟩ := ob1_eq h
    refine z_cp (pc := 28) C dJ7_copyOf_59c91_28 ml_J7_150 (by decide) (Nat.le_of_ble_eq_true rfl) eG7 ?_
    refine z_aload_n (pc := 31) C 0 dJ7_copyOf_59c91_31 rfl rfl ?_
    obtain rfl := Option.some.inj h
    exact z_aret (pc := 32) C E dJ7_copyOf_59c91_32 (Or.inr ⟨_, rfl⟩) ⟨rfl, rfl⟩
  · rw [if_pos c2] at h
    refine z_aload_n (pc := 6) C 0 dJ7_copyOf_59c91_6 rfl rfl ?_
    cases h
theorem kJ7_copyOf_59c91 (l : Launch) (D : va_G) (cA : Nat → ClassId) (b : Nat) (G : zH) (r0 : Nat) (x1 : Int32) (out : Nat × zH) (h : fJ7_copyOf_59c91 G r0 x1 = some out) : zM l D cA b yJ7_copyOf_59c91 cJ7_copyOf_59c91 3 (some (.array .int)) 1 21 [.ref r0, .int x1] G (poR out.1 out.2) := z_entry rfl (Nat.le_of_ble_eq_true rfl) (fun X C E _ _ _ => wfJ7_copyOf_59c91 C E G r0 x1 h)
def fX2_openGap_b61 (G : zH) (r0 : Nat) (x1 : Int32) (x2 : Int32) (x3 : Int32) : Option zH :=
    ob1 (frf G r0 2 0) fun qv1 =>
    ob1 (frf G r0 2 0) fun qv2 =>
    ob1 (fi G r0 2 2) fun v3 =>
    ob1 (cp G qv1 x1 qv2 (x1 + x2) (v3 - x1)) fun G4 =>
    ob1 (frf G4 r0 2 1) fun qv5 =>
    ob1 (frf G4 r0 2 1) fun qv6 =>
    ob1 (fi G4 r0 2 2) fun v7 =>
    ob1 (cp G4 qv5 x1 qv6 (x1 + x2) (v7 - x1)) fun G8 =>
    ob1 (fset G8 r0 2 2 (.int x3)) fun G9 =>
    some G9
set_option maxRecDepth 100000 in
set_option maxHeartbeats 4000000 in
theorem wfX2_openGap_b61 {X : zX} {out : zH} (C : zOK X cX2_openGap yX2_openGap.cls 5 none 2 43) (E : zPost X (poV out)) (G : zH) (r0 : Nat) (x1 : Int32) (x2 : Int32) (x3 : Int32) (h : fX2_openGap_b61 G r0 x1 x2 x3 = some out) : zZ X 61 [(0, .ref r0), (1, .int x1), (2, .int x2), (3, .int x3)] [] G := by
  rw [fX2_openGap_b61] at h
  refine z_aload_n (pc := 61) C 0 dX2_openGap_61 rfl rfl ?_
  obtain ⟨qv1, eqv1, h⟩ := ob1_eq h
  refine z_fr (pc := 62) C dX2_openGap_62 fl_X2_9 eqv1 ?_
  refine z_iload_n (pc := 65) C 1 dX2_openGap_65 rfl rfl ?_
  refine z_aload_n (pc := 66) C 0 dX2_openGap_66 rfl rfl ?_
  obtain ⟨qv2, eqv2, h⟩ := ob1_eq h
  refine z_fr (pc := 67) C dX2_openGap_67 fl_X2_9 eqv2 ?_
  refine z_iload_n (pc := 70) C 1 dX2_openGap_70 rfl rfl ?_
  refine z_iload_n (pc := 71) C 2 dX2_openGap_71 rfl rfl ?_
  refine z_iadd (pc := 72) C dX2_openGap_72 ?_
  refine z_aload_n (pc := 73) C 0 dX2_openGap_73 rfl rfl ?_
  obtain ⟨v3, ev3, h⟩ := ob1_eq h
  refine z_fi (pc := 74) C dX2_openGap_74 fl_X2_31 ev3 ?_
  refine z_iload_n (pc := 77) C 1 dX2_openGap_77 rfl rfl ?_
  refine z_isub (pc := 78) C dX2_openGap_78 ?_
  obtain ⟨G4, eG4, h⟩ := ob1_eq h
  refine z_cp (pc := 79) C dX2_openGap_79 ml_X2_42 (by decide) (Nat.le_of_ble_eq_true rfl) eG4 ?_
  refine z_aload_n (pc := 82) C 0 dX2_openGap_82 rfl rfl ?_
  obtain ⟨qv5, eqv5, h⟩ := ob1_eq h
  refine z_fr (pc := 83) C dX2_openGap_83 fl_X2_15 eqv5 ?_
  refine z_iload_n (pc := 86) C 1 dX2_openGap_86 rfl rfl ?_
  refine z_aload_n (pc := 87) C 0 dX2_openGap_87 rfl rfl ?_
  obtain ⟨qv6, eqv6, h⟩ := ob1_eq h
  refine z_fr (pc := 88) C dX2_openGap_88 fl_X2_15 eqv6 ?_
  refine z_iload_n (pc := 91) C 1 dX2_openGap_91 rfl rfl ?_
  refine z_iload_n (pc := 92) C 2 dX2_openGap_92 rfl rfl ?_
  refine z_iadd (pc := 93) C dX2_openGap_93 ?_
  refine z_aload_n (pc := 94) C 0 dX2_openGap_94 rfl rfl ?_
  obtain ⟨v7, ev7, h⟩ := ob1_eq h
  refine z_fi (pc := 95) C dX2_openGap_95 fl_X2_31 ev7 ?_
  refine z_iload_n (pc := 98) C 1 dX2_openGap_98 rfl rfl ?_
  refine z_isub (pc := 99) C dX2_openGap_99 ?_
  obtain ⟨G8, eG8, h⟩ := ob1_eq h
  refine z_cp (pc := 100) C dX2_openGap_100 ml_X2_42 (by decide) (Nat.le_of_ble_eq_true rfl) eG8 ?_
  refine z_aload_n (pc := 103) C 0 dX2_openGap_103 rfl rfl ?_
  refine z_iload_n (pc := 104) C 3 dX2_openGap_104 rfl rfl ?_
  obtain ⟨G9, eG9, h⟩ := ob1_eq h
  refine z_si (pc := 105) C dX2_openGap_105 fl_X2_31w eG9 ?_
  obtain rfl := Option.some.inj h
  exact z_vret (pc := 108) C E dX2_openGap_108 ⟨rfl, rfl⟩
def fX2_openGap (G : zH) (r0 : Nat) (x1 : Int32) (x2 : Int32) : Option zH :=
    ob1 (fi G r0 2 2) fun v1 =>
    zlet ((v1 + x2)) fun y2 =>
    ob1 (frf G r0 2 0) fun qv3 =>
    ob1 (aL G 0 qv3) fun v4 =>
    if y2 ≤ v4 then (fX2_openGap_b61 G r0 x1 x2 y2) else
    ob1 (frf G r0 2 0) fun qv6 =>
    ob1 (aL G 0 qv6) fun v7 =>
    zlet ((if y2 < (if (3000 : Int32) < ((2 : Int32) * v7) then (3000 : Int32) else ((2 : Int32) * v7)) then (if (3000 : Int32) < ((2 : Int32) * v7) then (3000 : Int32) else ((2 : Int32) * v7)) else y2)) fun y8 =>
    ob1 (frf G r0 2 0) fun qv9 =>
    ob2 (fJ7_copyOf_59c91 G qv9 y8) fun qv10 G11 =>
    ob1 (fset G11 r0 2 0 (.ref qv10)) fun G12 =>
    ob1 (frf G12 r0 2 1) fun qv13 =>
    ob2 (fJ7_copyOf_59c91 G12 qv13 y8) fun qv14 G15 =>
    ob1 (fset G15 r0 2 1 (.ref qv14)) fun G16 =>
    fX2_openGap_b61 G16 r0 x1 x2 y2
set_option maxRecDepth 100000 in
set_option maxHeartbeats 4000000 in
theorem wfX2_openGap {X : zX} {out : zH} (C : zOK X cX2_openGap yX2_openGap.cls 5 none 2 43) (E : zPost X (poV out)) (G : zH) (r0 : Nat) (x1 : Int32) (x2 : Int32) (h : fX2_openGap G r0 x1 x2 = some out) : zZ X 0 [(0, .ref r0), (1, .int x1), (2, .int x2)] [] G := by
  rw [fX2_openGap] at h
  refine z_aload_n (pc := 0) C 0 dX2_openGap_0 rfl rfl ?_
  obtain ⟨v1, ev1, h⟩ := ob1_eq h
  refine z_fi (pc := 1) C dX2_openGap_1 fl_X2_31 ev1 ?_
  refine z_iload_n (pc := 4) C 2 dX2_openGap_4 rfl rfl ?_
  refine z_iadd (pc := 5) C dX2_openGap_5 ?_
  obtain ⟨y2, ey2, h⟩ := zlet_eq h
  refine z_topi ey2 ?_
  refine z_istore_n (pc := 6) C dX2_openGap_6 rfl (by decide) (show zput _ _ _ = [(3, .int y2), (0, .ref r0), (1, .int x1), (2, .int x2)] from rfl) ?_
  refine z_iload_n (pc := 7) C 0 dX2_openGap_7 rfl rfl ?_
  refine z_aload_n (pc := 8) C 1 dX2_openGap_8 rfl rfl ?_
  obtain ⟨qv3, eqv3, h⟩ := ob1_eq h
  refine z_fr (pc := 9) C dX2_openGap_9 fl_X2_9 eqv3 ?_
  obtain ⟨v4, ev4, h⟩ := ob1_eq h
  refine z_aL (pc := 12) C dX2_openGap_12 (by decide) ev4 ?_
  refine z_ic_le (pc := 13) C dX2_openGap_13 (tgt := 61) (by decide) (fun c5 => ?_) (fun c5 => ?_)
  · rw [if_pos c5] at h
    exact z_subL [1, 2, 3, 0] (wfX2_openGap_b61 C E G r0 x1 x2 y2 h) rfl
  · rw [if_neg c5] at h
    refine z_iload_n (pc := 16) C 0 dX2_openGap_16 rfl rfl ?_
    refine z_iconst (pc := 17) C dX2_openGap_17 (v := (2 : Int32)) (by decide) ?_
    refine z_aload_n (pc := 18) C 1 dX2_openGap_18 rfl rfl ?_
    obtain ⟨qv6, eqv6, h⟩ := ob1_eq h
    refine z_fr (pc := 19) C dX2_openGap_19 fl_X2_9 eqv6 ?_
    obtain ⟨v7, ev7, h⟩ := ob1_eq h
    refine z_aL (pc := 22) C dX2_openGap_22 (by decide) ev7 ?_
    refine z_imul (pc := 23) C dX2_openGap_23 ?_
    refine z_sipush (pc := 24) C dX2_openGap_24 (v := (3000 : Int32)) (by decide) ?_
    refine z_mmin (pc := 27) C dX2_openGap_27 ml_X2_48 w_min1 w_math w_min2 (Nat.le_of_ble_eq_true rfl) (by decide) ?_
    refine z_mmax (pc := 30) C dX2_openGap_30 ml_X2_54 w_max1 w_math w_max2 (Nat.le_of_ble_eq_true rfl) (by decide) ?_
    obtain ⟨y8, ey8, h⟩ := zlet_eq h
    refine z_topi ey8 ?_
    refine z_istore (pc := 33) C dX2_openGap_33 (by decide) (show zput _ _ _ = [(4, .int y8), (3, .int y2), (0, .ref r0), (1, .int x1), (2, .int x2)] from rfl) ?_
    refine z_aload_n (pc := 35) C 2 dX2_openGap_35 rfl rfl ?_
    refine z_aload_n (pc := 36) C 2 dX2_openGap_36 rfl rfl ?_
    obtain ⟨qv9, eqv9, h⟩ := ob1_eq h
    refine z_fr (pc := 37) C dX2_openGap_37 fl_X2_9 eqv9 ?_
    refine z_iload (pc := 40) C 0 dX2_openGap_40 rfl ?_
    obtain ⟨qv10, G11, eqv10, h⟩ := ob2_eq h
    refine z_callSr (As := [.ref qv9, .int y8]) (rest := [.ref r0]) (pc := 42) C dX2_openGap_42 ml_X2_57 (kJ7_copyOf_59c91 _ _ _ _ G qv9 y8 (qv10, G11) eqv10) rfl rfl (Nat.le_of_ble_eq_true rfl) (by decide) ?_
    obtain ⟨G12, eG12, h⟩ := ob1_eq h
    refine z_sr (pc := 45) C dX2_openGap_45 fl_X2_9w (fun _ => ⟨rfl, rfl⟩) eG12 ?_
    refine z_aload_n (pc := 48) C 2 dX2_openGap_48 rfl rfl ?_
    refine z_aload_n (pc := 49) C 2 dX2_openGap_49 rfl rfl ?_
    obtain ⟨qv13, eqv13, h⟩ := ob1_eq h
    refine z_fr (pc := 50) C dX2_openGap_50 fl_X2_15 eqv13 ?_
    refine z_iload (pc := 53) C 0 dX2_openGap_53 rfl ?_
    obtain ⟨qv14, G15, eqv14, h⟩ := ob2_eq h
    refine z_callSr (As := [.ref qv13, .int y8]) (rest := [.ref r0]) (pc := 55) C dX2_openGap_55 ml_X2_57 (kJ7_copyOf_59c91 _ _ _ _ G12 qv13 y8 (qv14, G15) eqv14) rfl rfl (Nat.le_of_ble_eq_true rfl) (by decide) ?_
    obtain ⟨G16, eG16, h⟩ := ob1_eq h
    refine z_sr (pc := 58) C dX2_openGap_58 fl_X2_15w (fun _ => ⟨rfl, rfl⟩) eG16 ?_
    exact z_subL [2, 3, 4, 1] (wfX2_openGap_b61 C E G16 r0 x1 x2 y2 h) rfl
theorem kX2_openGap (l : Launch) (D : va_G) (cA : Nat → ClassId) (b : Nat) (G : zH) (r0 : Nat) (x1 : Int32) (x2 : Int32) (out : zH) (h : fX2_openGap G r0 x1 x2 = some out) : zM l D cA b yX2_openGap cX2_openGap 5 none 2 43 [.ref r0, .int x1, .int x2] G (poV out) := z_entry rfl (Nat.le_of_ble_eq_true rfl) (fun X C E _ _ _ => wfX2_openGap C E G r0 x1 x2 h)
def fX2_become_b58 : Nat → zH → Nat → Nat → Int32 → Option zH
  | 0, _, _, _, _ => none
  | n + 1, G, r0, r1, x2 =>
    if (8 : Int32) ≤ x2 then (some G) else
    ob1 (frf G r0 2 4) fun qv2 =>
    ob1 (frf G r1 2 4) fun qv3 =>
    ob1 (aR G 0 qv3 x2) fun v4 =>
    ob1 (aW G 0 qv2 x2 v4) fun G5 =>
    ob1 (frf G5 r0 2 5) fun qv6 =>
    ob1 (frf G5 r1 2 5) fun qv7 =>
    ob1 (aR G5 3 qv7 x2) fun v8 =>
    ob1 (aW G5 3 qv6 x2 (vp_nar .boolean v8)) fun G9 =>
    zlet (x2 + (1 : Int32)) fun y10 =>
    (fX2_become_b58 n) G9 r0 r1 y10
set_option maxRecDepth 100000 in
set_option maxHeartbeats 4000000 in
theorem wfX2_become_b58 {X : zX} {out : zH} (C : zOK X cX2_become yX2_become.cls 3 none 3 67) (E : zPost X (poV out)) : ∀ (n : Nat) (G : zH) (r0 : Nat) (r1 : Nat) (x2 : Int32) (h : fX2_become_b58 n G r0 r1 x2 = some out), zZ X 58 [(0, .ref r0), (1, .ref r1), (2, .int x2)] [] G := by
  intro n
  induction n with
  | zero => intro G r0 r1 x2 h; cases h
  | succ n ih =>
    intro G r0 r1 x2 h
    rw [fX2_become_b58] at h
    refine z_iload_n (pc := 58) C 2 dX2_become_58 rfl rfl ?_
    refine z_bipush (pc := 59) C dX2_become_59 (v := (8 : Int32)) (by decide) ?_
    refine z_ic_ge (pc := 61) C dX2_become_61 (tgt := 94) (by decide) (fun c1 => ?_) (fun c1 => ?_)
    · rw [if_pos c1] at h
      obtain rfl := Option.some.inj h
      exact z_vret (pc := 94) C E dX2_become_94 ⟨rfl, rfl⟩
    · rw [if_neg c1] at h
      refine z_aload_n (pc := 64) C 0 dX2_become_64 rfl rfl ?_
      obtain ⟨qv2, eqv2, h⟩ := ob1_eq h
      refine z_fr (pc := 65) C dX2_become_65 fl_X2_18 eqv2 ?_
      refine z_iload_n (pc := 68) C 2 dX2_become_68 rfl rfl ?_
      refine z_aload_n (pc := 69) C 1 dX2_become_69 rfl rfl ?_
      obtain ⟨qv3, eqv3, h⟩ := ob1_eq h
      refine z_fr (pc := 70) C dX2_become_70 fl_X2_18 eqv3 ?_
      refine z_iload_n (pc := 73) C 2 dX2_become_73 rfl rfl ?_
      obtain ⟨v4, ev4, h⟩ := ob1_eq h
      refine z_aR (pc := 74) C dX2_become_74 ev4 ?_
      obtain ⟨G5, eG5, h⟩ := ob1_eq h
      refine z_aW (pc := 75) C dX2_become_75 eG5 ?_
      refine z_aload_n (pc := 76) C 0 dX2_become_76 rfl rfl ?_
      obtain ⟨qv6, eqv6, h⟩ := ob1_eq h
      refine z_fr (pc := 77) C dX2_become_77 fl_X2_21 eqv6 ?_
      refine z_iload_n (pc := 80) C 2 dX2_become_80 rfl rfl ?_
      refine z_aload_n (pc := 81) C 1 dX2_become_81 rfl rfl ?_
      obtain ⟨qv7, eqv7, h⟩ := ob1_eq h
      refine z_fr (pc := 82) C dX2_become_82 fl_X2_21 eqv7 ?_
      refine z_iload_n (pc := 85) C 2 dX2_become_85 rfl rfl ?_
      obtain ⟨v8, ev8, h⟩ := ob1_eq h
      refine z_zR (pc := 86) C dX2_become_86 ev8 ?_
      obtain ⟨G9, eG9, h⟩ := ob1_eq h
      refine z_zW (pc := 87) C dX2_become_87 eG9 ?_
      obtain ⟨y10, ey10, h⟩ := zlet_eq h
      refine z_iinc (pc := 88) (v := y10) C 2 dX2_become_88 rfl (by rw [ey10]; rfl) (by decide) (show zput _ _ _ = [(2, .int y10), (0, .ref r0), (1, .ref r1)] from rfl) ?_
      refine z_goto (pc := 91) C dX2_become_91 (tgt := 58) (by decide) ?_
      exact z_subL [1, 2, 0] (ih G9 r0 r1 y10 h) rfl
def fX2_become (G : zH) (r0 : Nat) (r1 : Nat) : Option zH :=
    ob1 (fset G r0 2 2 (.int (0 : Int32))) fun G1 =>
    ob1 (fi G1 r1 2 2) fun v2 =>
    ob1 (isO G1 r0 2) fun u3 =>
    ob1 (fX2_openGap G1 r0 (0 : Int32) v2) fun G5 =>
    ob1 (frf G5 r1 2 0) fun qv6 =>
    ob1 (frf G5 r0 2 0) fun qv7 =>
    ob1 (fi G5 r1 2 2) fun v8 =>
    ob1 (cp G5 qv6 (0 : Int32) qv7 (0 : Int32) v8) fun G9 =>
    ob1 (frf G9 r1 2 1) fun qv10 =>
    ob1 (frf G9 r0 2 1) fun qv11 =>
    ob1 (fi G9 r1 2 2) fun v12 =>
    ob1 (cp G9 qv10 (0 : Int32) qv11 (0 : Int32) v12) fun G13 =>
    ob1 (fi G13 r1 2 3) fun v14 =>
    ob1 (fset G13 r0 2 3 (.int v14)) fun G15 =>
    fX2_become_b58 FU G15 r0 r1 (0 : Int32)
set_option maxRecDepth 100000 in
set_option maxHeartbeats 4000000 in
theorem wfX2_become {X : zX} {out : zH} (C : zOK X cX2_become yX2_become.cls 3 none 3 67) (E : zPost X (poV out)) (G : zH) (r0 : Nat) (r1 : Nat) (h : fX2_become G r0 r1 = some out) : zZ X 0 [(0, .ref r0), (1, .ref r1)] [] G := by
  rw [fX2_become] at h
  refine z_aload_n (pc := 0) C 0 dX2_become_0 rfl rfl ?_
  refine z_iconst (pc := 1) C dX2_become_1 (v := (0 : Int32)) (by decide) ?_
  obtain ⟨G1, eG1, h⟩ := ob1_eq h
  refine z_si (pc := 2) C dX2_become_2 fl_X2_31w eG1 ?_
  refine z_aload_n (pc := 5) C 0 dX2_become_5 rfl rfl ?_
  refine z_iconst (pc := 6) C dX2_become_6 (v := (0 : Int32)) (by decide) ?_
  refine z_aload_n (pc := 7) C 1 dX2_become_7 rfl rfl ?_
  obtain ⟨v2, ev2, h⟩ := ob1_eq h
  refine z_fi (pc := 8) C dX2_become_8 fl_X2_31 ev2 ?_
  obtain ⟨u3, eu3, h⟩ := ob1_eq h
  obtain ⟨w4, ew4⟩ := isO_eq eu3
  obtain ⟨G5, eG5, h⟩ := ob1_eq h
  refine z_callVv (h := r0) (As := [.int (0 : Int32), .int v2]) (rest := []) (pc := 11) C dX2_become_11 ml_X2_38 (kX2_openGap _ _ _ _ G1 r0 (0 : Int32) v2 G5 eG5) ew4 rfl rfl rfl (Nat.le_of_ble_eq_true rfl) (by decide) ?_
  refine z_aload_n (pc := 14) C 1 dX2_become_14 rfl rfl ?_
  obtain ⟨qv6, eqv6, h⟩ := ob1_eq h
  refine z_fr (pc := 15) C dX2_become_15 fl_X2_9 eqv6 ?_
  refine z_iconst (pc := 18) C dX2_become_18 (v := (0 : Int32)) (by decide) ?_
  refine z_aload_n (pc := 19) C 0 dX2_become_19 rfl rfl ?_
  obtain ⟨qv7, eqv7, h⟩ := ob1_eq h
  refine z_fr (pc := 20) C dX2_become_20 fl_X2_9 eqv7 ?_
  refine z_iconst (pc := 23) C dX2_become_23 (v := (0 : Int32)) (by decide) ?_
  refine z_aload_n (pc := 24) C 1 dX2_become_24 rfl rfl ?_
  obtain ⟨v8, ev8, h⟩ := ob1_eq h
  refine z_fi (pc := 25) C dX2_become_25 fl_X2_31 ev8 ?_
  obtain ⟨G9, eG9, h⟩ := ob1_eq h
  refine z_cp (pc := 28) C dX2_become_28 ml_X2_42 (by decide) (Nat.le_of_ble_eq_true rfl) eG9 ?_
  refine z_aload_n (pc := 31) C 1 dX2_become_31 rfl rfl ?_
  obtain ⟨qv10, eqv10, h⟩ := ob1_eq h
  refine z_fr (pc := 32) C dX2_become_32 fl_X2_15 eqv10 ?_
  refine z_iconst (pc := 35) C dX2_become_35 (v := (0 : Int32)) (by decide) ?_
  refine z_aload_n (pc := 36) C 0 dX2_become_36 rfl rfl ?_
  obtain ⟨qv11, eqv11, h⟩ := ob1_eq h
  refine z_fr (pc := 37) C dX2_become_37 fl_X2_15 eqv11 ?_
  refine z_iconst (pc := 40) C dX2_become_40 (v := (0 : Int32)) (by decide) ?_
  refine z_aload_n (pc := 41) C 1 dX2_become_41 rfl rfl ?_
  obtain ⟨v12, ev12, h⟩ := ob1_eq h
  refine z_fi (pc := 42) C dX2_become_42 fl_X2_31 ev12 ?_
  obtain ⟨G13, eG13, h⟩ := ob1_eq h
  refine z_cp (pc := 45) C dX2_become_45 ml_X2_42 (by decide) (Nat.le_of_ble_eq_true rfl) eG13 ?_
  refine z_aload_n (pc := 48) C 0 dX2_become_48 rfl rfl ?_
  refine z_aload_n (pc := 49) C 1 dX2_become_49 rfl rfl ?_
  obtain ⟨v14, ev14, h⟩ := ob1_eq h
  refine z_fi (pc := 50) C dX2_become_50 fl_X2_35 ev14 ?_
  obtain ⟨G15, eG15, h⟩ := ob1_eq h
  refine z_si (pc := 53) C dX2_become_53 fl_X2_35w eG15 ?_
  refine z_iconst (pc := 56) C dX2_become_56 (v := (0 : Int32)) (by decide) ?_
  refine z_istore_n (pc := 57) C dX2_become_57 rfl (by decide) (show zput _ _ _ = [(2, .int (0 : Int32)), (0, .ref r0), (1, .ref r1)] from rfl) ?_
  exact z_subL [1, 2, 0] (wfX2_become_b58 C E FU G15 r0 r1 (0 : Int32) h) rfl
theorem kX2_become (l : Launch) (D : va_G) (cA : Nat → ClassId) (b : Nat) (G : zH) (r0 : Nat) (r1 : Nat) (out : zH) (h : fX2_become G r0 r1 = some out) : zM l D cA b yX2_become cX2_become 3 none 3 67 [.ref r0, .ref r1] G (poV out) := z_entry rfl (Nat.le_of_ble_eq_true rfl) (fun X C E _ _ _ => wfX2_become C E G r0 r1 h)
def fX1_beginEdit (G : zH) (r0 : Nat) : Option (Nat × zH) :=
    ob1 (isO G r0 1) fun u1 =>
    ob2 (fX1_ago G r0 (0 : Int32)) fun qv4 G3 =>
    ob1 (fi G3 r0 1 1) fun v5 =>
    ob1 (fset G3 r0 1 1 (.int ((v5 + (1 : Int32)) - (v5 + (1 : Int32)) / (31 : Int32) * (31 : Int32)))) fun G6 =>
    ob1 (fi G6 r0 1 2) fun v7 =>
    ob1 (fset G6 r0 1 2 (.int (if (30 : Int32) < (v7 + (1 : Int32)) then (30 : Int32) else (v7 + (1 : Int32))))) fun G8 =>
    ob1 (fset G8 r0 1 3 (.int (0 : Int32))) fun G9 =>
    ob1 (isO G9 r0 1) fun u10 =>
    ob2 (fX1_ago G9 r0 (0 : Int32)) fun qv13 G12 =>
    ob1 (isO G12 qv13 2) fun u14 =>
    ob1 (fX2_become G12 qv13 qv4) fun G16 =>
    some (qv13, G16)
set_option maxRecDepth 100000 in
set_option maxHeartbeats 4000000 in
theorem wfX1_beginEdit {X : zX} {out : Nat × zH} (C : zOK X cX1_beginEdit yX1_beginEdit.cls 3 (some (.object "PieceBook$Leaf")) 4 89) (E : zPost X (poR out.1 out.2)) (G : zH) (r0 : Nat) (h : fX1_beginEdit G r0 = some out) : zZ X 0 [(0, .ref r0)] [] G := by
  rw [fX1_beginEdit] at h
  refine z_aload_n (pc := 0) C 0 dX1_beginEdit_0 rfl rfl ?_
  refine z_iconst (pc := 1) C dX1_beginEdit_1 (v := (0 : Int32)) (by decide) ?_
  obtain ⟨u1, eu1, h⟩ := ob1_eq h
  obtain ⟨w2, ew2⟩ := isO_eq eu1
  obtain ⟨qv4, G3, eqv4, h⟩ := ob2_eq h
  refine z_callVr (h := r0) (As := [.int (0 : Int32)]) (rest := []) (pc := 2) C dX1_beginEdit_2 ml_X1_17 (kX1_ago _ _ _ _ G r0 (0 : Int32) (qv4, G3) eqv4) ew2 rfl rfl rfl (Nat.le_of_ble_eq_true rfl) (by decide) ?_
  refine z_astore_n (pc := 5) C dX1_beginEdit_5 rfl (by decide) (show zput _ _ _ = [(1, .ref qv4), (0, .ref r0)] from rfl) ?_
  refine z_aload_n (pc := 6) C 1 dX1_beginEdit_6 rfl rfl ?_
  refine z_aload_n (pc := 7) C 1 dX1_beginEdit_7 rfl rfl ?_
  obtain ⟨v5, ev5, h⟩ := ob1_eq h
  refine z_fi (pc := 8) C dX1_beginEdit_8 fl_X1_21 ev5 ?_
  refine z_iconst (pc := 11) C dX1_beginEdit_11 (v := (1 : Int32)) (by decide) ?_
  refine z_iadd (pc := 12) C dX1_beginEdit_12 ?_
  refine z_bipush (pc := 13) C dX1_beginEdit_13 (v := (31 : Int32)) (by decide) ?_
  refine z_irem (pc := 15) C dX1_beginEdit_15 (by decide) ?_
  obtain ⟨G6, eG6, h⟩ := ob1_eq h
  refine z_si (pc := 16) C dX1_beginEdit_16 fl_X1_21w eG6 ?_
  refine z_aload_n (pc := 19) C 1 dX1_beginEdit_19 rfl rfl ?_
  refine z_aload_n (pc := 20) C 1 dX1_beginEdit_20 rfl rfl ?_
  obtain ⟨v7, ev7, h⟩ := ob1_eq h
  refine z_fi (pc := 21) C dX1_beginEdit_21 fl_X1_32 ev7 ?_
  refine z_iconst (pc := 24) C dX1_beginEdit_24 (v := (1 : Int32)) (by decide) ?_
  refine z_iadd (pc := 25) C dX1_beginEdit_25 ?_
  refine z_bipush (pc := 26) C dX1_beginEdit_26 (v := (30 : Int32)) (by decide) ?_
  refine z_mmin (pc := 28) C dX1_beginEdit_28 ml_X1_35 w_min1 w_math w_min2 (Nat.le_of_ble_eq_true rfl) (by decide) ?_
  obtain ⟨G8, eG8, h⟩ := ob1_eq h
  refine z_si (pc := 31) C dX1_beginEdit_31 fl_X1_32w eG8 ?_
  refine z_aload_n (pc := 34) C 1 dX1_beginEdit_34 rfl rfl ?_
  refine z_iconst (pc := 35) C dX1_beginEdit_35 (v := (0 : Int32)) (by decide) ?_
  obtain ⟨G9, eG9, h⟩ := ob1_eq h
  refine z_si (pc := 36) C dX1_beginEdit_36 fl_X1_38w eG9 ?_
  refine z_aload_n (pc := 39) C 1 dX1_beginEdit_39 rfl rfl ?_
  refine z_iconst (pc := 40) C dX1_beginEdit_40 (v := (0 : Int32)) (by decide) ?_
  obtain ⟨u10, eu10, h⟩ := ob1_eq h
  obtain ⟨w11, ew11⟩ := isO_eq eu10
  obtain ⟨qv13, G12, eqv13, h⟩ := ob2_eq h
  refine z_callVr (h := r0) (As := [.int (0 : Int32)]) (rest := []) (pc := 41) C dX1_beginEdit_41 ml_X1_17 (kX1_ago _ _ _ _ G9 r0 (0 : Int32) (qv13, G12) eqv13) ew11 rfl rfl rfl (Nat.le_of_ble_eq_true rfl) (by decide) ?_
  refine z_astore_n (pc := 44) C dX1_beginEdit_44 rfl (by decide) (show zput _ _ _ = [(2, .ref qv13), (1, .ref qv4), (0, .ref r0)] from rfl) ?_
  refine z_aload_n (pc := 45) C 0 dX1_beginEdit_45 rfl rfl ?_
  refine z_aload_n (pc := 46) C 1 dX1_beginEdit_46 rfl rfl ?_
  obtain ⟨u14, eu14, h⟩ := ob1_eq h
  obtain ⟨w15, ew15⟩ := isO_eq eu14
  obtain ⟨G16, eG16, h⟩ := ob1_eq h
  refine z_callVv (h := qv13) (As := [.ref qv4]) (rest := []) (pc := 47) C dX1_beginEdit_47 ml_X1_41 (kX2_become _ _ _ _ G12 qv13 qv4 G16 eG16) ew15 rfl rfl rfl (Nat.le_of_ble_eq_true rfl) (by decide) ?_
  refine z_aload_n (pc := 50) C 0 dX1_beginEdit_50 rfl rfl ?_
  obtain rfl := Option.some.inj h
  exact z_aret (pc := 51) C E dX1_beginEdit_51 (Or.inl ⟨_, rfl⟩) ⟨rfl, rfl⟩
theorem kX1_beginEdit (l : Launch) (D : va_G) (cA : Nat → ClassId) (b : Nat) (G : zH) (r0 : Nat) (out : Nat × zH) (h : fX1_beginEdit G r0 = some out) : zM l D cA b yX1_beginEdit cX1_beginEdit 3 (some (.object "PieceBook$Leaf")) 4 89 [.ref r0] G (poR out.1 out.2) := z_entry rfl (Nat.le_of_ble_eq_true rfl) (fun X C E _ _ _ => wfX1_beginEdit C E G r0 h)
def fX1_goBack (G : zH) (r0 : Nat) : Option zH :=
    ob1 (fi G r0 1 1) fun v1 =>
    ob1 (fJ9_floorMod_7cf53 (v1 - (1 : Int32)) (31 : Int32)) fun v2 =>
    ob1 (fset G r0 1 1 (.int v2)) fun G3 =>
    ob1 (fi G3 r0 1 2) fun v4 =>
    ob1 (fset G3 r0 1 2 (.int (v4 - (1 : Int32)))) fun G5 =>
    ob1 (fi G5 r0 1 3) fun v6 =>
    ob1 (fset G5 r0 1 3 (.int (v6 + (1 : Int32)))) fun G7 =>
    some G7
set_option maxRecDepth 100000 in
set_option maxHeartbeats 4000000 in
theorem wfX1_goBack {X : zX} {out : zH} (C : zOK X cX1_goBack yX1_goBack.cls 1 none 1 22) (E : zPost X (poV out)) (G : zH) (r0 : Nat) (h : fX1_goBack G r0 = some out) : zZ X 0 [(0, .ref r0)] [] G := by
  rw [fX1_goBack] at h
  refine z_aload_n (pc := 0) C 0 dX1_goBack_0 rfl rfl ?_
  refine z_aload_n (pc := 1) C 0 dX1_goBack_1 rfl rfl ?_
  obtain ⟨v1, ev1, h⟩ := ob1_eq h
  refine z_fi (pc := 2) C dX1_goBack_2 fl_X1_21 ev1 ?_
  refine z_iconst (pc := 5) C dX1_goBack_5 (v := (1 : Int32)) (by decide) ?_
  refine z_isub (pc := 6) C dX1_goBack_6 ?_
  refine z_bipush (pc := 7) C dX1_goBack_7 (v := (31 : Int32)) (by decide) ?_
  obtain ⟨v2, ev2, h⟩ := ob1_eq h
  refine z_callSi (As := [.int (v1 - (1 : Int32)), .int (31 : Int32)]) (rest := [.ref r0]) (pc := 9) C dX1_goBack_9 ml_X1_25 (kJ9_floorMod_7cf53 _ _ _ _ G (v1 - (1 : Int32)) (31 : Int32) _ ev2) rfl rfl (Nat.le_of_ble_eq_true rfl) (by decide) ?_
  obtain ⟨G3, eG3, h⟩ := ob1_eq h
  refine z_si (pc := 12) C dX1_goBack_12 fl_X1_21w eG3 ?_
  refine z_aload_n (pc := 15) C 0 dX1_goBack_15 rfl rfl ?_
  refine z_dup (pc := 16) C dX1_goBack_16 rfl ?_
  obtain ⟨v4, ev4, h⟩ := ob1_eq h
  refine z_fi (pc := 17) C dX1_goBack_17 fl_X1_32 ev4 ?_
  refine z_iconst (pc := 20) C dX1_goBack_20 (v := (1 : Int32)) (by decide) ?_
  refine z_isub (pc := 21) C dX1_goBack_21 ?_
  obtain ⟨G5, eG5, h⟩ := ob1_eq h
  refine z_si (pc := 22) C dX1_goBack_22 fl_X1_32w eG5 ?_
  refine z_aload_n (pc := 25) C 0 dX1_goBack_25 rfl rfl ?_
  refine z_dup (pc := 26) C dX1_goBack_26 rfl ?_
  obtain ⟨v6, ev6, h⟩ := ob1_eq h
  refine z_fi (pc := 27) C dX1_goBack_27 fl_X1_38 ev6 ?_
  refine z_iconst (pc := 30) C dX1_goBack_30 (v := (1 : Int32)) (by decide) ?_
  refine z_iadd (pc := 31) C dX1_goBack_31 ?_
  obtain ⟨G7, eG7, h⟩ := ob1_eq h
  refine z_si (pc := 32) C dX1_goBack_32 fl_X1_38w eG7 ?_
  obtain rfl := Option.some.inj h
  exact z_vret (pc := 35) C E dX1_goBack_35 ⟨rfl, rfl⟩
theorem kX1_goBack (l : Launch) (D : va_G) (cA : Nat → ClassId) (b : Nat) (G : zH) (r0 : Nat) (out : zH) (h : fX1_goBack G r0 = some out) : zM l D cA b yX1_goBack cX1_goBack 1 none 1 22 [.ref r0] G (poV out) := z_entry rfl (Nat.le_of_ble_eq_true rfl) (fun X C E _ _ _ => wfX1_goBack C E G r0 h)
def fX1_goOn (G : zH) (r0 : Nat) : Option zH :=
    ob1 (fi G r0 1 1) fun v1 =>
    ob1 (fset G r0 1 1 (.int ((v1 + (1 : Int32)) - (v1 + (1 : Int32)) / (31 : Int32) * (31 : Int32)))) fun G2 =>
    ob1 (fi G2 r0 1 2) fun v3 =>
    ob1 (fset G2 r0 1 2 (.int (v3 + (1 : Int32)))) fun G4 =>
    ob1 (fi G4 r0 1 3) fun v5 =>
    ob1 (fset G4 r0 1 3 (.int (v5 - (1 : Int32)))) fun G6 =>
    some G6
set_option maxRecDepth 100000 in
set_option maxHeartbeats 4000000 in
theorem wfX1_goOn {X : zX} {out : zH} (C : zOK X cX1_goOn yX1_goOn.cls 1 none 0 0) (E : zPost X (poV out)) (G : zH) (r0 : Nat) (h : fX1_goOn G r0 = some out) : zZ X 0 [(0, .ref r0)] [] G := by
  rw [fX1_goOn] at h
  refine z_aload_n (pc := 0) C 0 dX1_goOn_0 rfl rfl ?_
  refine z_aload_n (pc := 1) C 0 dX1_goOn_1 rfl rfl ?_
  obtain ⟨v1, ev1, h⟩ := ob1_eq h
  refine z_fi (pc := 2) C dX1_goOn_2 fl_X1_21 ev1 ?_
  refine z_iconst (pc := 5) C dX1_goOn_5 (v := (1 : Int32)) (by decide) ?_
  refine z_iadd (pc := 6) C dX1_goOn_6 ?_
  refine z_bipush (pc := 7) C dX1_goOn_7 (v := (31 : Int32)) (by decide) ?_
  refine z_irem (pc := 9) C dX1_goOn_9 (by decide) ?_
  obtain ⟨G2, eG2, h⟩ := ob1_eq h
  refine z_si (pc := 10) C dX1_goOn_10 fl_X1_21w eG2 ?_
  refine z_aload_n (pc := 13) C 0 dX1_goOn_13 rfl rfl ?_
  refine z_dup (pc := 14) C dX1_goOn_14 rfl ?_
  obtain ⟨v3, ev3, h⟩ := ob1_eq h
  refine z_fi (pc := 15) C dX1_goOn_15 fl_X1_32 ev3 ?_
  refine z_iconst (pc := 18) C dX1_goOn_18 (v := (1 : Int32)) (by decide) ?_
  refine z_iadd (pc := 19) C dX1_goOn_19 ?_
  obtain ⟨G4, eG4, h⟩ := ob1_eq h
  refine z_si (pc := 20) C dX1_goOn_20 fl_X1_32w eG4 ?_
  refine z_aload_n (pc := 23) C 0 dX1_goOn_23 rfl rfl ?_
  refine z_dup (pc := 24) C dX1_goOn_24 rfl ?_
  obtain ⟨v5, ev5, h⟩ := ob1_eq h
  refine z_fi (pc := 25) C dX1_goOn_25 fl_X1_38 ev5 ?_
  refine z_iconst (pc := 28) C dX1_goOn_28 (v := (1 : Int32)) (by decide) ?_
  refine z_isub (pc := 29) C dX1_goOn_29 ?_
  obtain ⟨G6, eG6, h⟩ := ob1_eq h
  refine z_si (pc := 30) C dX1_goOn_30 fl_X1_38w eG6 ?_
  obtain rfl := Option.some.inj h
  exact z_vret (pc := 33) C E dX1_goOn_33 ⟨rfl, rfl⟩
theorem kX1_goOn (l : Launch) (D : va_G) (cA : Nat → ClassId) (b : Nat) (G : zH) (r0 : Nat) (out : zH) (h : fX1_goOn G r0 = some out) : zM l D cA b yX1_goOn cX1_goOn 1 none 0 0 [.ref r0] G (poV out) := z_entry rfl (Nat.le_of_ble_eq_true rfl) (fun X C E _ _ _ => wfX1_goOn C E G r0 h)
def fX1_forget (G : zH) (r0 : Nat) : Option zH :=
    ob1 (fset G r0 1 2 (.int (0 : Int32))) fun G1 =>
    ob1 (fset G1 r0 1 3 (.int (0 : Int32))) fun G2 =>
    some G2
set_option maxRecDepth 100000 in
set_option maxHeartbeats 4000000 in
theorem wfX1_forget {X : zX} {out : zH} (C : zOK X cX1_forget yX1_forget.cls 1 none 0 0) (E : zPost X (poV out)) (G : zH) (r0 : Nat) (h : fX1_forget G r0 = some out) : zZ X 0 [(0, .ref r0)] [] G := by
  rw [fX1_forget] at h
  refine z_aload_n (pc := 0) C 0 dX1_forget_0 rfl rfl ?_
  refine z_iconst (pc := 1) C dX1_forget_1 (v := (0 : Int32)) (by decide) ?_
  obtain ⟨G1, eG1, h⟩ := ob1_eq h
  refine z_si (pc := 2) C dX1_forget_2 fl_X1_32w eG1 ?_
  refine z_aload_n (pc := 5) C 0 dX1_forget_5 rfl rfl ?_
  refine z_iconst (pc := 6) C dX1_forget_6 (v := (0 : Int32)) (by decide) ?_
  obtain ⟨G2, eG2, h⟩ := ob1_eq h
  refine z_si (pc := 7) C dX1_forget_7 fl_X1_38w eG2 ?_
  obtain rfl := Option.some.inj h
  exact z_vret (pc := 10) C E dX1_forget_10 ⟨rfl, rfl⟩
theorem kX1_forget (l : Launch) (D : va_G) (cA : Nat → ClassId) (b : Nat) (G : zH) (r0 : Nat) (out : zH) (h : fX1_forget G r0 = some out) : zM l D cA b yX1_forget cX1_forget 1 none 0 0 [.ref r0] G (poV out) := z_entry rfl (Nat.le_of_ble_eq_true rfl) (fun X C E _ _ _ => wfX1_forget C E G r0 h)
def fX2_clear (G : zH) (r0 : Nat) : Option zH :=
    ob1 (fset G r0 2 2 (.int (0 : Int32))) fun G1 =>
    ob1 (fset G1 r0 2 3 (.int (0 : Int32))) fun G2 =>
    ob1 (frf G2 r0 2 4) fun qv3 =>
    ob1 (fJ7_fill_53178 G2 qv3 (-1 : Int32)) fun G4 =>
    some G4
set_option maxRecDepth 100000 in
set_option maxHeartbeats 4000000 in
theorem wfX2_clear {X : zX} {out : zH} (C : zOK X cX2_clear yX2_clear.cls 1 none 1 23) (E : zPost X (poV out)) (G : zH) (r0 : Nat) (h : fX2_clear G r0 = some out) : zZ X 0 [(0, .ref r0)] [] G := by
  rw [fX2_clear] at h
  refine z_aload_n (pc := 0) C 0 dX2_clear_0 rfl rfl ?_
  refine z_iconst (pc := 1) C dX2_clear_1 (v := (0 : Int32)) (by decide) ?_
  obtain ⟨G1, eG1, h⟩ := ob1_eq h
  refine z_si (pc := 2) C dX2_clear_2 fl_X2_31w eG1 ?_
  refine z_aload_n (pc := 5) C 0 dX2_clear_5 rfl rfl ?_
  refine z_iconst (pc := 6) C dX2_clear_6 (v := (0 : Int32)) (by decide) ?_
  obtain ⟨G2, eG2, h⟩ := ob1_eq h
  refine z_si (pc := 7) C dX2_clear_7 fl_X2_35w eG2 ?_
  refine z_aload_n (pc := 10) C 0 dX2_clear_10 rfl rfl ?_
  obtain ⟨qv3, eqv3, h⟩ := ob1_eq h
  refine z_fr (pc := 11) C dX2_clear_11 fl_X2_18 eqv3 ?_
  refine z_iconst (pc := 14) C dX2_clear_14 (v := (-1 : Int32)) (by decide) ?_
  obtain ⟨G4, eG4, h⟩ := ob1_eq h
  refine z_callSv (As := [.ref qv3, .int (-1 : Int32)]) (rest := []) (pc := 15) C dX2_clear_15 ml_X2_25 (kJ7_fill_53178 _ _ _ _ G2 qv3 (-1 : Int32) _ eG4) rfl rfl (Nat.le_of_ble_eq_true rfl) (by decide) ?_
  obtain rfl := Option.some.inj h
  exact z_vret (pc := 18) C E dX2_clear_18 ⟨rfl, rfl⟩
theorem kX2_clear (l : Launch) (D : va_G) (cA : Nat → ClassId) (b : Nat) (G : zH) (r0 : Nat) (out : zH) (h : fX2_clear G r0 = some out) : zM l D cA b yX2_clear cX2_clear 1 none 1 23 [.ref r0] G (poV out) := z_entry rfl (Nat.le_of_ble_eq_true rfl) (fun X C E _ _ _ => wfX2_clear C E G r0 h)
def fX2_addPiece (G : zH) (r0 : Nat) (x1 : Int32) (x2 : Int32) : Option zH :=
    ob1 (fi G r0 2 2) fun v1 =>
    ob1 (isO G r0 2) fun u2 =>
    ob1 (fX2_openGap G r0 v1 (1 : Int32)) fun G4 =>
    ob1 (frf G4 r0 2 0) fun qv5 =>
    ob1 (fi G4 r0 2 2) fun v6 =>
    ob1 (aW G4 0 qv5 (v6 - (1 : Int32)) x1) fun G7 =>
    ob1 (frf G7 r0 2 1) fun qv8 =>
    ob1 (fi G7 r0 2 2) fun v9 =>
    ob1 (aW G7 0 qv8 (v9 - (1 : Int32)) x2) fun G10 =>
    ob1 (fi G10 r0 2 3) fun v11 =>
    ob1 (fset G10 r0 2 3 (.int (v11 + x2))) fun G12 =>
    some G12
set_option maxRecDepth 100000 in
set_option maxHeartbeats 4000000 in
theorem wfX2_addPiece {X : zX} {out : zH} (C : zOK X cX2_addPiece yX2_addPiece.cls 3 none 3 67) (E : zPost X (poV out)) (G : zH) (r0 : Nat) (x1 : Int32) (x2 : Int32) (h : fX2_addPiece G r0 x1 x2 = some out) : zZ X 0 [(0, .ref r0), (1, .int x1), (2, .int x2)] [] G := by
  rw [fX2_addPiece] at h
  refine z_aload_n (pc := 0) C 0 dX2_addPiece_0 rfl rfl ?_
  refine z_aload_n (pc := 1) C 0 dX2_addPiece_1 rfl rfl ?_
  obtain ⟨v1, ev1, h⟩ := ob1_eq h
  refine z_fi (pc := 2) C dX2_addPiece_2 fl_X2_31 ev1 ?_
  refine z_iconst (pc := 5) C dX2_addPiece_5 (v := (1 : Int32)) (by decide) ?_
  obtain ⟨u2, eu2, h⟩ := ob1_eq h
  obtain ⟨w3, ew3⟩ := isO_eq eu2
  obtain ⟨G4, eG4, h⟩ := ob1_eq h
  refine z_callVv (h := r0) (As := [.int v1, .int (1 : Int32)]) (rest := []) (pc := 6) C dX2_addPiece_6 ml_X2_38 (kX2_openGap _ _ _ _ G r0 v1 (1 : Int32) G4 eG4) ew3 rfl rfl rfl (Nat.le_of_ble_eq_true rfl) (by decide) ?_
  refine z_aload_n (pc := 9) C 0 dX2_addPiece_9 rfl rfl ?_
  obtain ⟨qv5, eqv5, h⟩ := ob1_eq h
  refine z_fr (pc := 10) C dX2_addPiece_10 fl_X2_9 eqv5 ?_
  refine z_aload_n (pc := 13) C 0 dX2_addPiece_13 rfl rfl ?_
  obtain ⟨v6, ev6, h⟩ := ob1_eq h
  refine z_fi (pc := 14) C dX2_addPiece_14 fl_X2_31 ev6 ?_
  refine z_iconst (pc := 17) C dX2_addPiece_17 (v := (1 : Int32)) (by decide) ?_
  refine z_isub (pc := 18) C dX2_addPiece_18 ?_
  refine z_iload_n (pc := 19) C 1 dX2_addPiece_19 rfl rfl ?_
  obtain ⟨G7, eG7, h⟩ := ob1_eq h
  refine z_aW (pc := 20) C dX2_addPiece_20 eG7 ?_
  refine z_aload_n (pc := 21) C 0 dX2_addPiece_21 rfl rfl ?_
  obtain ⟨qv8, eqv8, h⟩ := ob1_eq h
  refine z_fr (pc := 22) C dX2_addPiece_22 fl_X2_15 eqv8 ?_
  refine z_aload_n (pc := 25) C 0 dX2_addPiece_25 rfl rfl ?_
  obtain ⟨v9, ev9, h⟩ := ob1_eq h
  refine z_fi (pc := 26) C dX2_addPiece_26 fl_X2_31 ev9 ?_
  refine z_iconst (pc := 29) C dX2_addPiece_29 (v := (1 : Int32)) (by decide) ?_
  refine z_isub (pc := 30) C dX2_addPiece_30 ?_
  refine z_iload_n (pc := 31) C 2 dX2_addPiece_31 rfl rfl ?_
  obtain ⟨G10, eG10, h⟩ := ob1_eq h
  refine z_aW (pc := 32) C dX2_addPiece_32 eG10 ?_
  refine z_aload_n (pc := 33) C 0 dX2_addPiece_33 rfl rfl ?_
  refine z_dup (pc := 34) C dX2_addPiece_34 rfl ?_
  obtain ⟨v11, ev11, h⟩ := ob1_eq h
  refine z_fi (pc := 35) C dX2_addPiece_35 fl_X2_35 ev11 ?_
  refine z_iload_n (pc := 38) C 2 dX2_addPiece_38 rfl rfl ?_
  refine z_iadd (pc := 39) C dX2_addPiece_39 ?_
  obtain ⟨G12, eG12, h⟩ := ob1_eq h
  refine z_si (pc := 40) C dX2_addPiece_40 fl_X2_35w eG12 ?_
  obtain rfl := Option.some.inj h
  exact z_vret (pc := 43) C E dX2_addPiece_43 ⟨rfl, rfl⟩
theorem kX2_addPiece (l : Launch) (D : va_G) (cA : Nat → ClassId) (b : Nat) (G : zH) (r0 : Nat) (x1 : Int32) (x2 : Int32) (out : zH) (h : fX2_addPiece G r0 x1 x2 = some out) : zM l D cA b yX2_addPiece cX2_addPiece 3 none 3 67 [.ref r0, .int x1, .int x2] G (poV out) := z_entry rfl (Nat.le_of_ble_eq_true rfl) (fun X C E _ _ _ => wfX2_addPiece C E G r0 x1 x2 h)
def fX2_closeGap (G : zH) (r0 : Nat) (x1 : Int32) (x2 : Int32) : Option zH :=
    ob1 (frf G r0 2 0) fun qv1 =>
    ob1 (frf G r0 2 0) fun qv2 =>
    ob1 (fi G r0 2 2) fun v3 =>
    ob1 (cp G qv1 (x1 + x2) qv2 x1 ((v3 - x1) - x2)) fun G4 =>
    ob1 (frf G4 r0 2 1) fun qv5 =>
    ob1 (frf G4 r0 2 1) fun qv6 =>
    ob1 (fi G4 r0 2 2) fun v7 =>
    ob1 (cp G4 qv5 (x1 + x2) qv6 x1 ((v7 - x1) - x2)) fun G8 =>
    ob1 (fi G8 r0 2 2) fun v9 =>
    ob1 (fset G8 r0 2 2 (.int (v9 - x2))) fun G10 =>
    some G10
set_option maxRecDepth 100000 in
set_option maxHeartbeats 4000000 in
theorem wfX2_closeGap {X : zX} {out : zH} (C : zOK X cX2_closeGap yX2_closeGap.cls 3 none 1 18) (E : zPost X (poV out)) (G : zH) (r0 : Nat) (x1 : Int32) (x2 : Int32) (h : fX2_closeGap G r0 x1 x2 = some out) : zZ X 0 [(0, .ref r0), (1, .int x1), (2, .int x2)] [] G := by
  rw [fX2_closeGap] at h
  refine z_aload_n (pc := 0) C 0 dX2_closeGap_0 rfl rfl ?_
  obtain ⟨qv1, eqv1, h⟩ := ob1_eq h
  refine z_fr (pc := 1) C dX2_closeGap_1 fl_X2_9 eqv1 ?_
  refine z_iload_n (pc := 4) C 1 dX2_closeGap_4 rfl rfl ?_
  refine z_iload_n (pc := 5) C 2 dX2_closeGap_5 rfl rfl ?_
  refine z_iadd (pc := 6) C dX2_closeGap_6 ?_
  refine z_aload_n (pc := 7) C 0 dX2_closeGap_7 rfl rfl ?_
  obtain ⟨qv2, eqv2, h⟩ := ob1_eq h
  refine z_fr (pc := 8) C dX2_closeGap_8 fl_X2_9 eqv2 ?_
  refine z_iload_n (pc := 11) C 1 dX2_closeGap_11 rfl rfl ?_
  refine z_aload_n (pc := 12) C 0 dX2_closeGap_12 rfl rfl ?_
  obtain ⟨v3, ev3, h⟩ := ob1_eq h
  refine z_fi (pc := 13) C dX2_closeGap_13 fl_X2_31 ev3 ?_
  refine z_iload_n (pc := 16) C 1 dX2_closeGap_16 rfl rfl ?_
  refine z_isub (pc := 17) C dX2_closeGap_17 ?_
  refine z_iload_n (pc := 18) C 2 dX2_closeGap_18 rfl rfl ?_
  refine z_isub (pc := 19) C dX2_closeGap_19 ?_
  obtain ⟨G4, eG4, h⟩ := ob1_eq h
  refine z_cp (pc := 20) C dX2_closeGap_20 ml_X2_42 (by decide) (Nat.le_of_ble_eq_true rfl) eG4 ?_
  refine z_aload_n (pc := 23) C 0 dX2_closeGap_23 rfl rfl ?_
  obtain ⟨qv5, eqv5, h⟩ := ob1_eq h
  refine z_fr (pc := 24) C dX2_closeGap_24 fl_X2_15 eqv5 ?_
  refine z_iload_n (pc := 27) C 1 dX2_closeGap_27 rfl rfl ?_
  refine z_iload_n (pc := 28) C 2 dX2_closeGap_28 rfl rfl ?_
  refine z_iadd (pc := 29) C dX2_closeGap_29 ?_
  refine z_aload_n (pc := 30) C 0 dX2_closeGap_30 rfl rfl ?_
  obtain ⟨qv6, eqv6, h⟩ := ob1_eq h
  refine z_fr (pc := 31) C dX2_closeGap_31 fl_X2_15 eqv6 ?_
  refine z_iload_n (pc := 34) C 1 dX2_closeGap_34 rfl rfl ?_
  refine z_aload_n (pc := 35) C 0 dX2_closeGap_35 rfl rfl ?_
  obtain ⟨v7, ev7, h⟩ := ob1_eq h
  refine z_fi (pc := 36) C dX2_closeGap_36 fl_X2_31 ev7 ?_
  refine z_iload_n (pc := 39) C 1 dX2_closeGap_39 rfl rfl ?_
  refine z_isub (pc := 40) C dX2_closeGap_40 ?_
  refine z_iload_n (pc := 41) C 2 dX2_closeGap_41 rfl rfl ?_
  refine z_isub (pc := 42) C dX2_closeGap_42 ?_
  obtain ⟨G8, eG8, h⟩ := ob1_eq h
  refine z_cp (pc := 43) C dX2_closeGap_43 ml_X2_42 (by decide) (Nat.le_of_ble_eq_true rfl) eG8 ?_
  refine z_aload_n (pc := 46) C 0 dX2_closeGap_46 rfl rfl ?_
  refine z_dup (pc := 47) C dX2_closeGap_47 rfl ?_
  obtain ⟨v9, ev9, h⟩ := ob1_eq h
  refine z_fi (pc := 48) C dX2_closeGap_48 fl_X2_31 ev9 ?_
  refine z_iload_n (pc := 51) C 2 dX2_closeGap_51 rfl rfl ?_
  refine z_isub (pc := 52) C dX2_closeGap_52 ?_
  obtain ⟨G10, eG10, h⟩ := ob1_eq h
  refine z_si (pc := 53) C dX2_closeGap_53 fl_X2_31w eG10 ?_
  obtain rfl := Option.some.inj h
  exact z_vret (pc := 56) C E dX2_closeGap_56 ⟨rfl, rfl⟩
theorem kX2_closeGap (l : Launch) (D : va_G) (cA : Nat → ClassId) (b : Nat) (G : zH) (r0 : Nat) (x1 : Int32) (x2 : Int32) (out : zH) (h : fX2_closeGap G r0 x1 x2 = some out) : zM l D cA b yX2_closeGap cX2_closeGap 3 none 1 18 [.ref r0, .int x1, .int x2] G (poV out) := z_entry rfl (Nat.le_of_ble_eq_true rfl) (fun X C E _ _ _ => wfX2_closeGap C E G r0 x1 x2 h)
def fX2_cutAt_b98 (G : zH) (r0 : Nat) : Option (Int32 × zH) :=
    ob1 (fi G r0 2 2) fun v1 =>
    some (v1, G)
set_option maxRecDepth 100000 in
set_option maxHeartbeats 4000000 in
theorem wfX2_cutAt_b98 {X : zX} {out : Int32 × zH} (C : zOK X cX2_cutAt yX2_cutAt.cls 5 (some .int) 3 67) (E : zPost X (poI out.1 out.2)) (G : zH) (r0 : Nat) (h : fX2_cutAt_b98 G r0 = some out) : zZ X 98 [(0, .ref r0)] [] G := by
  rw [fX2_cutAt_b98] at h
  refine z_aload_n (pc := 98) C 0 dX2_cutAt_98 rfl rfl ?_
  obtain ⟨v1, ev1, h⟩ := ob1_eq h
  refine z_fi (pc := 99) C dX2_cutAt_99 fl_X2_31 ev1 ?_
  obtain rfl := Option.some.inj h
  exact z_iret (pc := 102) C E dX2_cutAt_102 ⟨rfl, rfl⟩
def fX2_cutAt_b4 : Nat → zH → Nat → Int32 → Int32 → Int32 → Option (Int32 × zH)
  | 0, _, _, _, _, _ => none
  | n + 1, G, r0, x1, x2, x3 =>
    ob1 (fi G r0 2 2) fun v1 =>
    if v1 ≤ x3 then (fX2_cutAt_b98 G r0) else
    if x2 < x1 then (zlet ((x1 - x2)) fun y4 =>
    ob1 (frf G r0 2 1) fun qv5 =>
    ob1 (aR G 0 qv5 x3) fun v6 =>
    zlet ((x2 + v6)) fun y7 =>
    if y7 ≤ x1 then (zlet (x3 + (1 : Int32)) fun y9 =>
    (fX2_cutAt_b4 n) G r0 x1 y7 y9) else
    ob1 (isO G r0 2) fun u10 =>
    ob1 (fX2_openGap G r0 (x3 + (1 : Int32)) (1 : Int32)) fun G12 =>
    ob1 (frf G12 r0 2 0) fun qv13 =>
    ob1 (frf G12 r0 2 0) fun qv14 =>
    ob1 (aR G12 0 qv14 x3) fun v15 =>
    ob1 (aW G12 0 qv13 (x3 + (1 : Int32)) (v15 + y4)) fun G16 =>
    ob1 (frf G16 r0 2 1) fun qv17 =>
    ob1 (frf G16 r0 2 1) fun qv18 =>
    ob1 (aR G16 0 qv18 x3) fun v19 =>
    ob1 (aW G16 0 qv17 (x3 + (1 : Int32)) (v19 - y4)) fun G20 =>
    ob1 (frf G20 r0 2 1) fun qv21 =>
    ob1 (aW G20 0 qv21 x3 y4) fun G22 =>
    some ((x3 + (1 : Int32)), G22)) else
    some (x3, G)
set_option maxRecDepth 100000 in
set_option maxHeartbeats 4000000 in
theorem wfX2_cutAt_b4 {X : zX} {out : Int32 × zH} (C : zOK X cX2_cutAt yX2_cutAt.cls 5 (some .int) 3 67) (E : zPost X (poI out.1 out.2)) : ∀ (n : Nat) (G : zH) (r0 : Nat) (x1 : Int32) (x2 : Int32) (x3 : Int32) (h : fX2_cutAt_b4 n G r0 x1 x2 x3 = some out), zZ X 4 [(0, .ref r0), (1, .int x1), (2, .int x2), (3, .int x3)] [] G := by
  intro n
  induction n with
  | zero => intro G r0 x1 x2 x3 h; cases h
  | succ n ih =>
    intro G r0 x1 x2 x3 h
    rw [fX2_cutAt_b4] at h
    refine z_iload_n (pc := 4) C 3 dX2_cutAt_4 rfl rfl ?_
    refine z_aload_n (pc := 5) C 0 dX2_cutAt_5 rfl rfl ?_
    obtain ⟨v1, ev1, h⟩ := ob1_eq h
    refine z_fi (pc := 6) C dX2_cutAt_6 fl_X2_31 ev1 ?_
    refine z_ic_ge (pc := 9) C dX2_cutAt_9 (tgt := 98) (by decide) (fun c2 => ?_) (fun c2 => ?_)
    · rw [if_pos c2] at h
      exact z_subL [0] (wfX2_cutAt_b98 C E G r0 h) rfl
    · rw [if_neg c2] at h
      refine z_iload_n (pc := 12) C 2 dX2_cutAt_12 rfl rfl ?_
      refine z_iload_n (pc := 13) C 1 dX2_cutAt_13 rfl rfl ?_
      refine z_ic_lt (pc := 14) C dX2_cutAt_14 (tgt := 19) (by decide) (fun c3 => ?_) (fun c3 => ?_)
      · rw [if_pos c3] at h
        refine z_iload_n (pc := 19) C 1 dX2_cutAt_19 rfl rfl ?_
        refine z_iload_n (pc := 20) C 2 dX2_cutAt_20 rfl rfl ?_
        refine z_isub (pc := 21) C dX2_cutAt_21 ?_
        obtain ⟨y4, ey4, h⟩ := zlet_eq h
        refine z_topi ey4 ?_
        refine z_istore (pc := 22) C dX2_cutAt_22 (by decide) (show zput _ _ _ = [(4, .int y4), (0, .ref r0), (1, .int x1), (2, .int x2), (3, .int x3)] from rfl) ?_
        refine z_iload_n (pc := 24) C 3 dX2_cutAt_24 rfl rfl ?_
        refine z_aload_n (pc := 25) C 1 dX2_cutAt_25 rfl rfl ?_
        obtain ⟨qv5, eqv5, h⟩ := ob1_eq h
        refine z_fr (pc := 26) C dX2_cutAt_26 fl_X2_15 eqv5 ?_
        refine z_iload_n (pc := 29) C 4 dX2_cutAt_29 rfl rfl ?_
        obtain ⟨v6, ev6, h⟩ := ob1_eq h
        refine z_aR (pc := 30) C dX2_cutAt_30 ev6 ?_
        refine z_iadd (pc := 31) C dX2_cutAt_31 ?_
        obtain ⟨y7, ey7, h⟩ := zlet_eq h
        refine z_topi ey7 ?_
        refine z_istore_n (pc := 32) C dX2_cutAt_32 rfl (by decide) (show zput _ _ _ = [(2, .int y7), (4, .int y4), (0, .ref r0), (1, .int x1), (3, .int x3)] from rfl) ?_
        refine z_iload_n (pc := 33) C 0 dX2_cutAt_33 rfl rfl ?_
        refine z_iload_n (pc := 34) C 3 dX2_cutAt_34 rfl rfl ?_
        refine z_ic_le (pc := 35) C dX2_cutAt_35 (tgt := 92) (by decide) (fun c8 => ?_) (fun c8 => ?_)
        · rw [if_pos c8] at h
          obtain ⟨y9, ey9, h⟩ := zlet_eq h
          refine z_iinc (pc := 92) (v := y9) C 4 dX2_cutAt_92 rfl (by rw [ey9]; rfl) (by decide) (show zput _ _ _ = [(3, .int y9), (2, .int y7), (4, .int y4), (0, .ref r0), (1, .int x1)] from rfl) ?_
          refine z_goto (pc := 95) C dX2_cutAt_95 (tgt := 4) (by decide) ?_
          exact z_subL [3, 4, 1, 0] (ih G r0 x1 y7 y9 h) rfl
        · rw [if_neg c8] at h
          refine z_aload_n (pc := 38) C 2 dX2_cutAt_38 rfl rfl ?_
          refine z_iload_n (pc := 39) C 4 dX2_cutAt_39 rfl rfl ?_
          refine z_iconst (pc := 40) C dX2_cutAt_40 (v := (1 : Int32)) (by decide) ?_
          refine z_iadd (pc := 41) C dX2_cutAt_41 ?_
          refine z_iconst (pc := 42) C dX2_cutAt_42 (v := (1 : Int32)) (by decide) ?_
          obtain ⟨u10, eu10, h⟩ := ob1_eq h
          obtain ⟨w11, ew11⟩ := isO_eq eu10
          obtain ⟨G12, eG12, h⟩ := ob1_eq h
          refine z_callVv (h := r0) (As := [.int (x3 + (1 : Int32)), .int (1 : Int32)]) (rest := []) (pc := 43) C dX2_cutAt_43 ml_X2_38 (kX2_openGap _ _ _ _ G r0 (x3 + (1 : Int32)) (1 : Int32) G12 eG12) ew11 rfl rfl rfl (Nat.le_of_ble_eq_true rfl) (by decide) ?_
          refine z_aload_n (pc := 46) C 2 dX2_cutAt_46 rfl rfl ?_
          obtain ⟨qv13, eqv13, h⟩ := ob1_eq h
          refine z_fr (pc := 47) C dX2_cutAt_47 fl_X2_9 eqv13 ?_
          refine z_iload_n (pc := 50) C 4 dX2_cutAt_50 rfl rfl ?_
          refine z_iconst (pc := 51) C dX2_cutAt_51 (v := (1 : Int32)) (by decide) ?_
          refine z_iadd (pc := 52) C dX2_cutAt_52 ?_
          refine z_aload_n (pc := 53) C 2 dX2_cutAt_53 rfl rfl ?_
          obtain ⟨qv14, eqv14, h⟩ := ob1_eq h
          refine z_fr (pc := 54) C dX2_cutAt_54 fl_X2_9 eqv14 ?_
          refine z_iload_n (pc := 57) C 4 dX2_cutAt_57 rfl rfl ?_
          obtain ⟨v15, ev15, h⟩ := ob1_eq h
          refine z_aR (pc := 58) C dX2_cutAt_58 ev15 ?_
          refine z_iload (pc := 59) C 1 dX2_cutAt_59 rfl ?_
          refine z_iadd (pc := 61) C dX2_cutAt_61 ?_
          obtain ⟨G16, eG16, h⟩ := ob1_eq h
          refine z_aW (pc := 62) C dX2_cutAt_62 eG16 ?_
          refine z_aload_n (pc := 63) C 2 dX2_cutAt_63 rfl rfl ?_
          obtain ⟨qv17, eqv17, h⟩ := ob1_eq h
          refine z_fr (pc := 64) C dX2_cutAt_64 fl_X2_15 eqv17 ?_
          refine z_iload_n (pc := 67) C 4 dX2_cutAt_67 rfl rfl ?_
          refine z_iconst (pc := 68) C dX2_cutAt_68 (v := (1 : Int32)) (by decide) ?_
          refine z_iadd (pc := 69) C dX2_cutAt_69 ?_
          refine z_aload_n (pc := 70) C 2 dX2_cutAt_70 rfl rfl ?_
          obtain ⟨qv18, eqv18, h⟩ := ob1_eq h
          refine z_fr (pc := 71) C dX2_cutAt_71 fl_X2_15 eqv18 ?_
          refine z_iload_n (pc := 74) C 4 dX2_cutAt_74 rfl rfl ?_
          obtain ⟨v19, ev19, h⟩ := ob1_eq h
          refine z_aR (pc := 75) C dX2_cutAt_75 ev19 ?_
          refine z_iload (pc := 76) C 1 dX2_cutAt_76 rfl ?_
          refine z_isub (pc := 78) C dX2_cutAt_78 ?_
          obtain ⟨G20, eG20, h⟩ := ob1_eq h
          refine z_aW (pc := 79) C dX2_cutAt_79 eG20 ?_
          refine z_aload_n (pc := 80) C 2 dX2_cutAt_80 rfl rfl ?_
          obtain ⟨qv21, eqv21, h⟩ := ob1_eq h
          refine z_fr (pc := 81) C dX2_cutAt_81 fl_X2_15 eqv21 ?_
          refine z_iload_n (pc := 84) C 4 dX2_cutAt_84 rfl rfl ?_
          refine z_iload (pc := 85) C 1 dX2_cutAt_85 rfl ?_
          obtain ⟨G22, eG22, h⟩ := ob1_eq h
          refine z_aW (pc := 87) C dX2_cutAt_87 eG22 ?_
          refine z_iload_n (pc := 88) C 4 dX2_cutAt_88 rfl rfl ?_
          refine z_iconst (pc := 89) C dX2_cutAt_89 (v := (1 : Int32)) (by decide) ?_
          refine z_iadd (pc := 90) C dX2_cutAt_90 ?_
          obtain rfl := Option.some.inj h
          exact z_iret (pc := 91) C E dX2_cutAt_91 ⟨rfl, rfl⟩
      · rw [if_neg c3] at h
        refine z_iload_n (pc := 17) C 3 dX2_cutAt_17 rfl rfl ?_
        obtain rfl := Option.some.inj h
        exact z_iret (pc := 18) C E dX2_cutAt_18 ⟨rfl, rfl⟩
def fX2_cutAt (G : zH) (r0 : Nat) (x1 : Int32) : Option (Int32 × zH) :=
    fX2_cutAt_b4 FU G r0 x1 (0 : Int32) (0 : Int32)
set_option maxRecDepth 100000 in
set_option maxHeartbeats 4000000 in
theorem wfX2_cutAt {X : zX} {out : Int32 × zH} (C : zOK X cX2_cutAt yX2_cutAt.cls 5 (some .int) 3 67) (E : zPost X (poI out.1 out.2)) (G : zH) (r0 : Nat) (x1 : Int32) (h : fX2_cutAt G r0 x1 = some out) : zZ X 0 [(0, .ref r0), (1, .int x1)] [] G := by
  rw [fX2_cutAt] at h
  refine z_iconst (pc := 0) C dX2_cutAt_0 (v := (0 : Int32)) (by decide) ?_
  refine z_istore_n (pc := 1) C dX2_cutAt_1 rfl (by decide) (show zput _ _ _ = [(2, .int (0 : Int32)), (0, .ref r0), (1, .int x1)] from rfl) ?_
  refine z_iconst (pc := 2) C dX2_cutAt_2 (v := (0 : Int32)) (by decide) ?_
  refine z_istore_n (pc := 3) C dX2_cutAt_3 rfl (by decide) (show zput _ _ _ = [(3, .int (0 : Int32)), (2, .int (0 : Int32)), (0, .ref r0), (1, .int x1)] from rfl) ?_
  exact z_subL [2, 3, 1, 0] (wfX2_cutAt_b4 C E FU G r0 x1 (0 : Int32) (0 : Int32) h) rfl
theorem kX2_cutAt (l : Launch) (D : va_G) (cA : Nat → ClassId) (b : Nat) (G : zH) (r0 : Nat) (x1 : Int32) (out : Int32 × zH) (h : fX2_cutAt G r0 x1 = some out) : zM l D cA b yX2_cutAt cX2_cutAt 5 (some .int) 3 67 [.ref r0, .int x1] G (poI out.1 out.2) := z_entry rfl (Nat.le_of_ble_eq_true rfl) (fun X C E _ _ _ => wfX2_cutAt C E G r0 x1 h)
def fX6_storeOf (x0 : Int32) : Option Int32 :=
    if (1600 : Int32) ≤ x0 then (some (1 : Int32)) else
    some (0 : Int32)
set_option maxRecDepth 100000 in
set_option maxHeartbeats 4000000 in
theorem wfX6_storeOf {X : zX} {G : zH} {out : Int32} (C : zOK X cX6_storeOf yX6_storeOf.cls 1 (some .int) 0 0) (E : zPost X (poI out G)) (x0 : Int32) (h : fX6_storeOf x0 = some out) : zZ X 0 [(0, .int x0)] [] G := by
  rw [fX6_storeOf] at h
  refine z_iload_n (pc := 0) C 0 dX6_storeOf_0 rfl rfl ?_
  refine z_sipush (pc := 1) C dX6_storeOf_1 (v := (1600 : Int32)) (by decide) ?_
  refine z_ic_ge (pc := 4) C dX6_storeOf_4 (tgt := 11) (by decide) (fun c1 => ?_) (fun c1 => ?_)
  · rw [if_pos c1] at h
    refine z_iconst (pc := 11) C dX6_storeOf_11 (v := (1 : Int32)) (by decide) ?_
    obtain rfl := Option.some.inj h
    exact z_iret (pc := 12) C E dX6_storeOf_12 ⟨rfl, rfl⟩
  · rw [if_neg c1] at h
    refine z_iconst (pc := 7) C dX6_storeOf_7 (v := (0 : Int32)) (by decide) ?_
    refine z_goto (pc := 8) C dX6_storeOf_8 (tgt := 12) (by decide) ?_
    obtain rfl := Option.some.inj h
    exact z_iret (pc := 12) C E dX6_storeOf_12 ⟨rfl, rfl⟩
theorem kX6_storeOf (l : Launch) (D : va_G) (cA : Nat → ClassId) (b : Nat) (G : zH) (x0 : Int32) (out : Int32) (h : fX6_storeOf x0 = some out) : zM l D cA b yX6_storeOf cX6_storeOf 1 (some .int) 0 0 [.int x0] G (poI out G) := z_entry rfl (Nat.le_of_ble_eq_true rfl) (fun X C E _ _ _ => wfX6_storeOf C E x0 h)
def fX2_marksGoOn_b47 (k2 : zH → Nat → Int32 → Int32 → Int32 → Option zH) (G : zH) (r0 : Nat) (x1 : Int32) (x2 : Int32) (x3 : Int32) : Option zH :=
    zlet (x3 + (1 : Int32)) fun y1 =>
    k2 G r0 x1 x2 y1
set_option maxRecDepth 100000 in
set_option maxHeartbeats 4000000 in
theorem wfX2_marksGoOn_b47 {X : zX} {out : zH} (C : zOK X cX2_marksGoOn yX2_marksGoOn.cls 4 none 0 0) (E : zPost X (poV out)) (k2 : zH → Nat → Int32 → Int32 → Int32 → Option zH) (hk2 : ∀ (G : zH) (r0 : Nat) (x1 : Int32) (x2 : Int32) (x3 : Int32), k2 G r0 x1 x2 x3 = some out → zZ X 2 [(0, .ref r0), (1, .int x1), (2, .int x2), (3, .int x3)] [] G) (G : zH) (r0 : Nat) (x1 : Int32) (x2 : Int32) (x3 : Int32) (h : fX2_marksGoOn_b47 k2 G r0 x1 x2 x3 = some out) : zZ X 47 [(0, .ref r0), (1, .int x1), (2, .int x2), (3, .int x3)] [] G := by
  rw [fX2_marksGoOn_b47] at h
  obtain ⟨y1, ey1, h⟩ := zlet_eq h
  refine z_iinc (pc := 47) (v := y1) C 3 dX2_marksGoOn_47 rfl (by rw [ey1]; rfl) (by decide) (show zput _ _ _ = [(3, .int y1), (0, .ref r0), (1, .int x1), (2, .int x2)] from rfl) ?_
  refine z_goto (pc := 50) C dX2_marksGoOn_50 (tgt := 2) (by decide) ?_
  exact z_subL [1, 2, 3, 0] (hk2 G r0 x1 x2 y1 h) rfl
def fX2_marksGoOn_b37 (k2 : zH → Nat → Int32 → Int32 → Int32 → Option zH) (G : zH) (r0 : Nat) (x1 : Int32) (x2 : Int32) (x3 : Int32) : Option zH :=
    ob1 (frf G r0 2 4) fun qv1 =>
    ob1 (aR G 0 qv1 x3) fun v2 =>
    ob1 (aW G 0 qv1 x3 (v2 + x2)) fun G3 =>
    fX2_marksGoOn_b47 k2 G3 r0 x1 x2 x3
set_option maxRecDepth 100000 in
set_option maxHeartbeats 4000000 in
theorem wfX2_marksGoOn_b37 {X : zX} {out : zH} (C : zOK X cX2_marksGoOn yX2_marksGoOn.cls 4 none 0 0) (E : zPost X (poV out)) (k2 : zH → Nat → Int32 → Int32 → Int32 → Option zH) (hk2 : ∀ (G : zH) (r0 : Nat) (x1 : Int32) (x2 : Int32) (x3 : Int32), k2 G r0 x1 x2 x3 = some out → zZ X 2 [(0, .ref r0), (1, .int x1), (2, .int x2), (3, .int x3)] [] G) (G : zH) (r0 : Nat) (x1 : Int32) (x2 : Int32) (x3 : Int32) (h : fX2_marksGoOn_b37 k2 G r0 x1 x2 x3 = some out) : zZ X 37 [(0, .ref r0), (1, .int x1), (2, .int x2), (3, .int x3)] [] G := by
  rw [fX2_marksGoOn_b37] at h
  refine z_aload_n (pc := 37) C 0 dX2_marksGoOn_37 rfl rfl ?_
  obtain ⟨qv1, eqv1, h⟩ := ob1_eq h
  refine z_fr (pc := 38) C dX2_marksGoOn_38 fl_X2_18 eqv1 ?_
  refine z_iload_n (pc := 41) C 3 dX2_marksGoOn_41 rfl rfl ?_
  refine z_dup2 (pc := 42) C dX2_marksGoOn_42 rfl rfl ?_
  obtain ⟨v2, ev2, h⟩ := ob1_eq h
  refine z_aR (pc := 43) C dX2_marksGoOn_43 ev2 ?_
  refine z_iload_n (pc := 44) C 2 dX2_marksGoOn_44 rfl rfl ?_
  refine z_iadd (pc := 45) C dX2_marksGoOn_45 ?_
  obtain ⟨G3, eG3, h⟩ := ob1_eq h
  refine z_aW (pc := 46) C dX2_marksGoOn_46 eG3 ?_
  exact z_subL [0, 1, 2, 3] (wfX2_marksGoOn_b47 C E k2 hk2 G3 r0 x1 x2 x3 h) rfl
def fX2_marksGoOn_b2 : Nat → zH → Nat → Int32 → Int32 → Int32 → Option zH
  | 0, _, _, _, _, _ => none
  | n + 1, G, r0, x1, x2, x3 =>
    if (8 : Int32) ≤ x3 then (some G) else
    ob1 (frf G r0 2 4) fun qv2 =>
    ob1 (aR G 0 qv2 x3) fun v3 =>
    if x1 < v3 then (fX2_marksGoOn_b37 (fX2_marksGoOn_b2 n) G r0 x1 x2 x3) else
    ob1 (frf G r0 2 4) fun qv5 =>
    ob1 (aR G 0 qv5 x3) fun v6 =>
    if v6 = x1 then (ob1 (frf G r0 2 5) fun qv8 =>
    ob1 (aR G 3 qv8 x3) fun v9 =>
    if v9 = 0 then (fX2_marksGoOn_b47 (fX2_marksGoOn_b2 n) G r0 x1 x2 x3) else
    fX2_marksGoOn_b37 (fX2_marksGoOn_b2 n) G r0 x1 x2 x3) else
    fX2_marksGoOn_b47 (fX2_marksGoOn_b2 n) G r0 x1 x2 x3
set_option maxRecDepth 100000 in
set_option maxHeartbeats 4000000 in
theorem wfX2_marksGoOn_b2 {X : zX} {out : zH} (C : zOK X cX2_marksGoOn yX2_marksGoOn.cls 4 none 0 0) (E : zPost X (poV out)) : ∀ (n : Nat) (G : zH) (r0 : Nat) (x1 : Int32) (x2 : Int32) (x3 : Int32) (h : fX2_marksGoOn_b2 n G r0 x1 x2 x3 = some out), zZ X 2 [(0, .ref r0), (1, .int x1), (2, .int x2), (3, .int x3)] [] G := by
  intro n
  induction n with
  | zero => intro G r0 x1 x2 x3 h; cases h
  | succ n ih =>
    intro G r0 x1 x2 x3 h
    rw [fX2_marksGoOn_b2] at h
    refine z_iload_n (pc := 2) C 3 dX2_marksGoOn_2 rfl rfl ?_
    refine z_bipush (pc := 3) C dX2_marksGoOn_3 (v := (8 : Int32)) (by decide) ?_
    refine z_ic_ge (pc := 5) C dX2_marksGoOn_5 (tgt := 53) (by decide) (fun c1 => ?_) (fun c1 => ?_)
    · rw [if_pos c1] at h
      obtain rfl := Option.some.inj h
      exact z_vret (pc := 53) C E dX2_marksGoOn_53 ⟨rfl, rfl⟩
    · rw [if_neg c1] at h
      refine z_aload_n (pc := 8) C 0 dX2_marksGoOn_8 rfl rfl ?_
      obtain ⟨qv2, eqv2, h⟩ := ob1_eq h
      refine z_fr (pc := 9) C dX2_marksGoOn_9 fl_X2_18 eqv2 ?_
      refine z_iload_n (pc := 12) C 3 dX2_marksGoOn_12 rfl rfl ?_
      obtain ⟨v3, ev3, h⟩ := ob1_eq h
      refine z_aR (pc := 13) C dX2_marksGoOn_13 ev3 ?_
      refine z_iload_n (pc := 14) C 1 dX2_marksGoOn_14 rfl rfl ?_
      refine z_ic_gt (pc := 15) C dX2_marksGoOn_15 (tgt := 37) (by decide) (fun c4 => ?_) (fun c4 => ?_)
      · rw [if_pos c4] at h
        exact z_subL [0, 1, 2, 3] (wfX2_marksGoOn_b37 C E (fX2_marksGoOn_b2 n) ih G r0 x1 x2 x3 h) rfl
      · rw [if_neg c4] at h
        refine z_aload_n (pc := 18) C 0 dX2_marksGoOn_18 rfl rfl ?_
        obtain ⟨qv5, eqv5, h⟩ := ob1_eq h
        refine z_fr (pc := 19) C dX2_marksGoOn_19 fl_X2_18 eqv5 ?_
        refine z_iload_n (pc := 22) C 3 dX2_marksGoOn_22 rfl rfl ?_
        obtain ⟨v6, ev6, h⟩ := ob1_eq h
        refine z_aR (pc := 23) C dX2_marksGoOn_23 ev6 ?_
        refine z_iload_n (pc := 24) C 1 dX2_marksGoOn_24 rfl rfl ?_
        refine z_ic_ne (pc := 25) C dX2_marksGoOn_25 (tgt := 47) (by decide) (fun c7 => ?_) (fun c7 => ?_)
        · rw [if_neg c7] at h
          exact z_subL [0, 1, 2, 3] (wfX2_marksGoOn_b47 C E (fX2_marksGoOn_b2 n) ih G r0 x1 x2 x3 h) rfl
        · rw [if_pos c7] at h
          refine z_aload_n (pc := 28) C 0 dX2_marksGoOn_28 rfl rfl ?_
          obtain ⟨qv8, eqv8, h⟩ := ob1_eq h
          refine z_fr (pc := 29) C dX2_marksGoOn_29 fl_X2_21 eqv8 ?_
          refine z_iload_n (pc := 32) C 3 dX2_marksGoOn_32 rfl rfl ?_
          obtain ⟨v9, ev9, h⟩ := ob1_eq h
          refine z_zR (pc := 33) C dX2_marksGoOn_33 ev9 ?_
          refine z_if_eq (pc := 34) C dX2_marksGoOn_34 (tgt := 47) (by decide) (fun c10 => ?_) (fun c10 => ?_)
          · rw [if_pos c10] at h
            exact z_subL [0, 1, 2, 3] (wfX2_marksGoOn_b47 C E (fX2_marksGoOn_b2 n) ih G r0 x1 x2 x3 h) rfl
          · rw [if_neg c10] at h
            exact z_subL [0, 1, 2, 3] (wfX2_marksGoOn_b37 C E (fX2_marksGoOn_b2 n) ih G r0 x1 x2 x3 h) rfl
def fX2_marksGoOn (G : zH) (r0 : Nat) (x1 : Int32) (x2 : Int32) : Option zH :=
    fX2_marksGoOn_b2 FU G r0 x1 x2 (0 : Int32)
set_option maxRecDepth 100000 in
set_option maxHeartbeats 4000000 in
theorem wfX2_marksGoOn {X : zX} {out : zH} (C : zOK X cX2_marksGoOn yX2_marksGoOn.cls 4 none 0 0) (E : zPost X (poV out)) (G : zH) (r0 : Nat) (x1 : Int32) (x2 : Int32) (h : fX2_marksGoOn G r0 x1 x2 = some out) : zZ X 0 [(0, .ref r0), (1, .int x1), (2, .int x2)] [] G := by
  rw [fX2_marksGoOn] at h
  refine z_iconst (pc := 0) C dX2_marksGoOn_0 (v := (0 : Int32)) (by decide) ?_
  refine z_istore_n (pc := 1) C dX2_marksGoOn_1 rfl (by decide) (show zput _ _ _ = [(3, .int (0 : Int32)), (0, .ref r0), (1, .int x1), (2, .int x2)] from rfl) ?_
  exact z_subL [1, 2, 3, 0] (wfX2_marksGoOn_b2 C E FU G r0 x1 x2 (0 : Int32) h) rfl
theorem kX2_marksGoOn (l : Launch) (D : va_G) (cA : Nat → ClassId) (b : Nat) (G : zH) (r0 : Nat) (x1 : Int32) (x2 : Int32) (out : zH) (h : fX2_marksGoOn G r0 x1 x2 = some out) : zM l D cA b yX2_marksGoOn cX2_marksGoOn 4 none 0 0 [.ref r0, .int x1, .int x2] G (poV out) := z_entry rfl (Nat.le_of_ble_eq_true rfl) (fun X C E _ _ _ => wfX2_marksGoOn C E G r0 x1 x2 h)
def fX2_insert_b90 (G : zH) (r0 : Nat) (x1 : Int32) (x3 : Int32) : Option zH :=
    ob1 (fi G r0 2 3) fun v1 =>
    ob1 (fset G r0 2 3 (.int (v1 + x3))) fun G2 =>
    ob1 (isO G2 r0 2) fun u3 =>
    ob1 (fX2_marksGoOn G2 r0 x1 x3) fun G5 =>
    some G5
set_option maxRecDepth 100000 in
set_option maxHeartbeats 4000000 in
theorem wfX2_insert_b90 {X : zX} {out : zH} (C : zOK X cX2_insert yX2_insert.cls 5 none 4 91) (E : zPost X (poV out)) (G : zH) (r0 : Nat) (x1 : Int32) (x3 : Int32) (h : fX2_insert_b90 G r0 x1 x3 = some out) : zZ X 90 [(0, .ref r0), (1, .int x1), (3, .int x3)] [] G := by
  rw [fX2_insert_b90] at h
  refine z_aload_n (pc := 90) C 0 dX2_insert_90 rfl rfl ?_
  refine z_dup (pc := 91) C dX2_insert_91 rfl ?_
  obtain ⟨v1, ev1, h⟩ := ob1_eq h
  refine z_fi (pc := 92) C dX2_insert_92 fl_X2_35 ev1 ?_
  refine z_iload_n (pc := 95) C 2 dX2_insert_95 rfl rfl ?_
  refine z_iadd (pc := 96) C dX2_insert_96 ?_
  obtain ⟨G2, eG2, h⟩ := ob1_eq h
  refine z_si (pc := 97) C dX2_insert_97 fl_X2_35w eG2 ?_
  refine z_aload_n (pc := 100) C 0 dX2_insert_100 rfl rfl ?_
  refine z_iload_n (pc := 101) C 1 dX2_insert_101 rfl rfl ?_
  refine z_iload_n (pc := 102) C 2 dX2_insert_102 rfl rfl ?_
  obtain ⟨u3, eu3, h⟩ := ob1_eq h
  obtain ⟨w4, ew4⟩ := isO_eq eu3
  obtain ⟨G5, eG5, h⟩ := ob1_eq h
  refine z_callVv (h := r0) (As := [.int x1, .int x3]) (rest := []) (pc := 103) C dX2_insert_103 ml_X2_68 (kX2_marksGoOn _ _ _ _ G2 r0 x1 x3 G5 eG5) ew4 rfl rfl rfl (Nat.le_of_ble_eq_true rfl) (by decide) ?_
  obtain rfl := Option.some.inj h
  exact z_vret (pc := 106) C E dX2_insert_106 ⟨rfl, rfl⟩
def fX2_insert_b67 (G : zH) (r0 : Nat) (x1 : Int32) (x2 : Int32) (x3 : Int32) (x4 : Int32) : Option zH :=
    ob1 (isO G r0 2) fun u1 =>
    ob1 (fX2_openGap G r0 x4 (1 : Int32)) fun G3 =>
    ob1 (frf G3 r0 2 0) fun qv4 =>
    ob1 (aW G3 0 qv4 x4 x2) fun G5 =>
    ob1 (frf G5 r0 2 1) fun qv6 =>
    ob1 (aW G5 0 qv6 x4 x3) fun G7 =>
    fX2_insert_b90 G7 r0 x1 x3
set_option maxRecDepth 100000 in
set_option maxHeartbeats 4000000 in
theorem wfX2_insert_b67 {X : zX} {out : zH} (C : zOK X cX2_insert yX2_insert.cls 5 none 4 91) (E : zPost X (poV out)) (G : zH) (r0 : Nat) (x1 : Int32) (x2 : Int32) (x3 : Int32) (x4 : Int32) (h : fX2_insert_b67 G r0 x1 x2 x3 x4 = some out) : zZ X 67 [(0, .ref r0), (1, .int x1), (2, .int x2), (3, .int x3), (4, .int x4)] [] G := by
  rw [fX2_insert_b67] at h
  refine z_aload_n (pc := 67) C 0 dX2_insert_67 rfl rfl ?_
  refine z_iload (pc := 68) C 4 dX2_insert_68 rfl ?_
  refine z_iconst (pc := 70) C dX2_insert_70 (v := (1 : Int32)) (by decide) ?_
  obtain ⟨u1, eu1, h⟩ := ob1_eq h
  obtain ⟨w2, ew2⟩ := isO_eq eu1
  obtain ⟨G3, eG3, h⟩ := ob1_eq h
  refine z_callVv (h := r0) (As := [.int x4, .int (1 : Int32)]) (rest := []) (pc := 71) C dX2_insert_71 ml_X2_38 (kX2_openGap _ _ _ _ G r0 x4 (1 : Int32) G3 eG3) ew2 rfl rfl rfl (Nat.le_of_ble_eq_true rfl) (by decide) ?_
  refine z_aload_n (pc := 74) C 0 dX2_insert_74 rfl rfl ?_
  obtain ⟨qv4, eqv4, h⟩ := ob1_eq h
  refine z_fr (pc := 75) C dX2_insert_75 fl_X2_9 eqv4 ?_
  refine z_iload (pc := 78) C 4 dX2_insert_78 rfl ?_
  refine z_iload_n (pc := 80) C 2 dX2_insert_80 rfl rfl ?_
  obtain ⟨G5, eG5, h⟩ := ob1_eq h
  refine z_aW (pc := 81) C dX2_insert_81 eG5 ?_
  refine z_aload_n (pc := 82) C 0 dX2_insert_82 rfl rfl ?_
  obtain ⟨qv6, eqv6, h⟩ := ob1_eq h
  refine z_fr (pc := 83) C dX2_insert_83 fl_X2_15 eqv6 ?_
  refine z_iload (pc := 86) C 4 dX2_insert_86 rfl ?_
  refine z_iload_n (pc := 88) C 3 dX2_insert_88 rfl rfl ?_
  obtain ⟨G7, eG7, h⟩ := ob1_eq h
  refine z_aW (pc := 89) C dX2_insert_89 eG7 ?_
  exact z_subL [0, 1, 3] (wfX2_insert_b90 C E G7 r0 x1 x3 h) rfl
def fX2_insert (G : zH) (r0 : Nat) (x1 : Int32) (x2 : Int32) (x3 : Int32) : Option zH :=
    ob1 (isO G r0 2) fun u1 =>
    ob2 (fX2_cutAt G r0 x1) fun v4 G3 =>
    if v4 ≤ 0 then (fX2_insert_b67 G3 r0 x1 x2 x3 v4) else
    ob1 (frf G3 r0 2 0) fun qv6 =>
    ob1 (aR G3 0 qv6 (v4 - (1 : Int32))) fun v7 =>
    ob1 (fX6_storeOf v7) fun v8 =>
    if v8 = (1 : Int32) then (ob1 (frf G3 r0 2 0) fun qv10 =>
    ob1 (aR G3 0 qv10 (v4 - (1 : Int32))) fun v11 =>
    ob1 (frf G3 r0 2 1) fun qv12 =>
    ob1 (aR G3 0 qv12 (v4 - (1 : Int32))) fun v13 =>
    if (v11 + v13) = x2 then (ob1 (frf G3 r0 2 1) fun qv15 =>
    ob1 (aR G3 0 qv15 (v4 - (1 : Int32))) fun v16 =>
    ob1 (aW G3 0 qv15 (v4 - (1 : Int32)) (v16 + x3)) fun G17 =>
    fX2_insert_b90 G17 r0 x1 x3) else
    fX2_insert_b67 G3 r0 x1 x2 x3 v4) else
    fX2_insert_b67 G3 r0 x1 x2 x3 v4
set_option maxRecDepth 100000 in
set_option maxHeartbeats 4000000 in
theorem wfX2_insert {X : zX} {out : zH} (C : zOK X cX2_insert yX2_insert.cls 5 none 4 91) (E : zPost X (poV out)) (G : zH) (r0 : Nat) (x1 : Int32) (x2 : Int32) (x3 : Int32) (h : fX2_insert G r0 x1 x2 x3 = some out) : zZ X 0 [(0, .ref r0), (1, .int x1), (2, .int x2), (3, .int x3)] [] G := by
  rw [fX2_insert] at h
  refine z_aload_n (pc := 0) C 0 dX2_insert_0 rfl rfl ?_
  refine z_iload_n (pc := 1) C 1 dX2_insert_1 rfl rfl ?_
  obtain ⟨u1, eu1, h⟩ := ob1_eq h
  obtain ⟨w2, ew2⟩ := isO_eq eu1
  obtain ⟨v4, G3, ev4, h⟩ := ob2_eq h
  refine z_callVi (h := r0) (As := [.int x1]) (rest := []) (pc := 2) C dX2_insert_2 ml_X2_61 (kX2_cutAt _ _ _ _ G r0 x1 (v4, G3) ev4) ew2 rfl rfl rfl (Nat.le_of_ble_eq_true rfl) (by decide) ?_
  refine z_istore (pc := 5) C dX2_insert_5 (by decide) (show zput _ _ _ = [(4, .int v4), (0, .ref r0), (1, .int x1), (2, .int x2), (3, .int x3)] from rfl) ?_
  refine z_iload (pc := 7) C 0 dX2_insert_7 rfl ?_
  refine z_if_le (pc := 9) C dX2_insert_9 (tgt := 67) (by decide) (fun c5 => ?_) (fun c5 => ?_)
  · rw [if_pos c5] at h
    exact z_subL [1, 2, 3, 4, 0] (wfX2_insert_b67 C E G3 r0 x1 x2 x3 v4 h) rfl
  · rw [if_neg c5] at h
    refine z_aload_n (pc := 12) C 1 dX2_insert_12 rfl rfl ?_
    obtain ⟨qv6, eqv6, h⟩ := ob1_eq h
    refine z_fr (pc := 13) C dX2_insert_13 fl_X2_9 eqv6 ?_
    refine z_iload (pc := 16) C 0 dX2_insert_16 rfl ?_
    refine z_iconst (pc := 18) C dX2_insert_18 (v := (1 : Int32)) (by decide) ?_
    refine z_isub (pc := 19) C dX2_insert_19 ?_
    obtain ⟨v7, ev7, h⟩ := ob1_eq h
    refine z_aR (pc := 20) C dX2_insert_20 ev7 ?_
    obtain ⟨v8, ev8, h⟩ := ob1_eq h
    refine z_callSNi (As := [.int v7]) (rest := []) (pc := 21) C dX2_insert_21 ml_X2_65 (kX6_storeOf _ _ _ _ G3 v7 _ ev8) rfl rfl (Nat.le_of_ble_eq_true rfl) (by decide) ?_
    refine z_iconst (pc := 24) C dX2_insert_24 (v := (1 : Int32)) (by decide) ?_
    refine z_ic_ne (pc := 25) C dX2_insert_25 (tgt := 67) (by decide) (fun c9 => ?_) (fun c9 => ?_)
    · rw [if_neg c9] at h
      exact z_subL [1, 2, 3, 4, 0] (wfX2_insert_b67 C E G3 r0 x1 x2 x3 v4 h) rfl
    · rw [if_pos c9] at h
      refine z_aload_n (pc := 28) C 1 dX2_insert_28 rfl rfl ?_
      obtain ⟨qv10, eqv10, h⟩ := ob1_eq h
      refine z_fr (pc := 29) C dX2_insert_29 fl_X2_9 eqv10 ?_
      refine z_iload (pc := 32) C 0 dX2_insert_32 rfl ?_
      refine z_iconst (pc := 34) C dX2_insert_34 (v := (1 : Int32)) (by decide) ?_
      refine z_isub (pc := 35) C dX2_insert_35 ?_
      obtain ⟨v11, ev11, h⟩ := ob1_eq h
      refine z_aR (pc := 36) C dX2_insert_36 ev11 ?_
      refine z_aload_n (pc := 37) C 1 dX2_insert_37 rfl rfl ?_
      obtain ⟨qv12, eqv12, h⟩ := ob1_eq h
      refine z_fr (pc := 38) C dX2_insert_38 fl_X2_15 eqv12 ?_
      refine z_iload (pc := 41) C 0 dX2_insert_41 rfl ?_
      refine z_iconst (pc := 43) C dX2_insert_43 (v := (1 : Int32)) (by decide) ?_
      refine z_isub (pc := 44) C dX2_insert_44 ?_
      obtain ⟨v13, ev13, h⟩ := ob1_eq h
      refine z_aR (pc := 45) C dX2_insert_45 ev13 ?_
      refine z_iadd (pc := 46) C dX2_insert_46 ?_
      refine z_iload_n (pc := 47) C 3 dX2_insert_47 rfl rfl ?_
      refine z_ic_ne (pc := 48) C dX2_insert_48 (tgt := 67) (by decide) (fun c14 => ?_) (fun c14 => ?_)
      · rw [if_neg c14] at h
        exact z_subL [1, 2, 3, 4, 0] (wfX2_insert_b67 C E G3 r0 x1 x2 x3 v4 h) rfl
      · rw [if_pos c14] at h
        refine z_aload_n (pc := 51) C 1 dX2_insert_51 rfl rfl ?_
        obtain ⟨qv15, eqv15, h⟩ := ob1_eq h
        refine z_fr (pc := 52) C dX2_insert_52 fl_X2_15 eqv15 ?_
        refine z_iload (pc := 55) C 0 dX2_insert_55 rfl ?_
        refine z_iconst (pc := 57) C dX2_insert_57 (v := (1 : Int32)) (by decide) ?_
        refine z_isub (pc := 58) C dX2_insert_58 ?_
        refine z_dup2 (pc := 59) C dX2_insert_59 rfl rfl ?_
        obtain ⟨v16, ev16, h⟩ := ob1_eq h
        refine z_aR (pc := 60) C dX2_insert_60 ev16 ?_
        refine z_iload_n (pc := 61) C 4 dX2_insert_61 rfl rfl ?_
        refine z_iadd (pc := 62) C dX2_insert_62 ?_
        obtain ⟨G17, eG17, h⟩ := ob1_eq h
        refine z_aW (pc := 63) C dX2_insert_63 eG17 ?_
        refine z_goto (pc := 64) C dX2_insert_64 (tgt := 90) (by decide) ?_
        exact z_subL [1, 2, 4] (wfX2_insert_b90 C E G17 r0 x1 x3 h) rfl
theorem kX2_insert (l : Launch) (D : va_G) (cA : Nat → ClassId) (b : Nat) (G : zH) (r0 : Nat) (x1 : Int32) (x2 : Int32) (x3 : Int32) (out : zH) (h : fX2_insert G r0 x1 x2 x3 = some out) : zM l D cA b yX2_insert cX2_insert 5 none 4 91 [.ref r0, .int x1, .int x2, .int x3] G (poV out) := z_entry rfl (Nat.le_of_ble_eq_true rfl) (fun X C E _ _ _ => wfX2_insert C E G r0 x1 x2 x3 h)
def fX2_dropSigns (G : zH) (r0 : Nat) (x1 : Int32) (x2 : Int32) : Option zH :=
    ob1 (isO G r0 2) fun u1 =>
    ob2 (fX2_cutAt G r0 x1) fun v4 G3 =>
    ob1 (isO G3 r0 2) fun u5 =>
    ob2 (fX2_cutAt G3 r0 (x1 + x2)) fun v8 G7 =>
    ob1 (isO G7 r0 2) fun u9 =>
    ob1 (fX2_closeGap G7 r0 v4 (v8 - v4)) fun G11 =>
    ob1 (fi G11 r0 2 3) fun v12 =>
    ob1 (fset G11 r0 2 3 (.int (v12 - x2))) fun G13 =>
    some G13
set_option maxRecDepth 100000 in
set_option maxHeartbeats 4000000 in
theorem wfX2_dropSigns {X : zX} {out : zH} (C : zOK X cX2_dropSigns yX2_dropSigns.cls 5 none 4 91) (E : zPost X (poV out)) (G : zH) (r0 : Nat) (x1 : Int32) (x2 : Int32) (h : fX2_dropSigns G r0 x1 x2 = some out) : zZ X 0 [(0, .ref r0), (1, .int x1), (2, .int x2)] [] G := by
  rw [fX2_dropSigns] at h
  refine z_aload_n (pc := 0) C 0 dX2_dropSigns_0 rfl rfl ?_
  refine z_iload_n (pc := 1) C 1 dX2_dropSigns_1 rfl rfl ?_
  obtain ⟨u1, eu1, h⟩ := ob1_eq h
  obtain ⟨w2, ew2⟩ := isO_eq eu1
  obtain ⟨v4, G3, ev4, h⟩ := ob2_eq h
  refine z_callVi (h := r0) (As := [.int x1]) (rest := []) (pc := 2) C dX2_dropSigns_2 ml_X2_61 (kX2_cutAt _ _ _ _ G r0 x1 (v4, G3) ev4) ew2 rfl rfl rfl (Nat.le_of_ble_eq_true rfl) (by decide) ?_
  refine z_istore_n (pc := 5) C dX2_dropSigns_5 rfl (by decide) (show zput _ _ _ = [(3, .int v4), (0, .ref r0), (1, .int x1), (2, .int x2)] from rfl) ?_
  refine z_aload_n (pc := 6) C 1 dX2_dropSigns_6 rfl rfl ?_
  refine z_iload_n (pc := 7) C 2 dX2_dropSigns_7 rfl rfl ?_
  refine z_iload_n (pc := 8) C 3 dX2_dropSigns_8 rfl rfl ?_
  refine z_iadd (pc := 9) C dX2_dropSigns_9 ?_
  obtain ⟨u5, eu5, h⟩ := ob1_eq h
  obtain ⟨w6, ew6⟩ := isO_eq eu5
  obtain ⟨v8, G7, ev8, h⟩ := ob2_eq h
  refine z_callVi (h := r0) (As := [.int (x1 + x2)]) (rest := []) (pc := 10) C dX2_dropSigns_10 ml_X2_61 (kX2_cutAt _ _ _ _ G3 r0 (x1 + x2) (v8, G7) ev8) ew6 rfl rfl rfl (Nat.le_of_ble_eq_true rfl) (by decide) ?_
  refine z_istore (pc := 13) C dX2_dropSigns_13 (by decide) (show zput _ _ _ = [(4, .int v8), (3, .int v4), (0, .ref r0), (1, .int x1), (2, .int x2)] from rfl) ?_
  refine z_aload_n (pc := 15) C 2 dX2_dropSigns_15 rfl rfl ?_
  refine z_iload_n (pc := 16) C 1 dX2_dropSigns_16 rfl rfl ?_
  refine z_iload (pc := 17) C 0 dX2_dropSigns_17 rfl ?_
  refine z_iload_n (pc := 19) C 1 dX2_dropSigns_19 rfl rfl ?_
  refine z_isub (pc := 20) C dX2_dropSigns_20 ?_
  obtain ⟨u9, eu9, h⟩ := ob1_eq h
  obtain ⟨w10, ew10⟩ := isO_eq eu9
  obtain ⟨G11, eG11, h⟩ := ob1_eq h
  refine z_callVv (h := r0) (As := [.int v4, .int (v8 - v4)]) (rest := []) (pc := 21) C dX2_dropSigns_21 ml_X2_89 (kX2_closeGap _ _ _ _ G7 r0 v4 (v8 - v4) G11 eG11) ew10 rfl rfl rfl (Nat.le_of_ble_eq_true rfl) (by decide) ?_
  refine z_aload_n (pc := 24) C 2 dX2_dropSigns_24 rfl rfl ?_
  refine z_dup (pc := 25) C dX2_dropSigns_25 rfl ?_
  obtain ⟨v12, ev12, h⟩ := ob1_eq h
  refine z_fi (pc := 26) C dX2_dropSigns_26 fl_X2_35 ev12 ?_
  refine z_iload_n (pc := 29) C 4 dX2_dropSigns_29 rfl rfl ?_
  refine z_isub (pc := 30) C dX2_dropSigns_30 ?_
  obtain ⟨G13, eG13, h⟩ := ob1_eq h
  refine z_si (pc := 31) C dX2_dropSigns_31 fl_X2_35w eG13 ?_
  obtain rfl := Option.some.inj h
  exact z_vret (pc := 34) C E dX2_dropSigns_34 ⟨rfl, rfl⟩
theorem kX2_dropSigns (l : Launch) (D : va_G) (cA : Nat → ClassId) (b : Nat) (G : zH) (r0 : Nat) (x1 : Int32) (x2 : Int32) (out : zH) (h : fX2_dropSigns G r0 x1 x2 = some out) : zM l D cA b yX2_dropSigns cX2_dropSigns 5 none 4 91 [.ref r0, .int x1, .int x2] G (poV out) := z_entry rfl (Nat.le_of_ble_eq_true rfl) (fun X C E _ _ _ => wfX2_dropSigns C E G r0 x1 x2 h)
def fX2_marksGoBack_b50 (k2 : zH → Nat → Int32 → Int32 → Int32 → Option zH) (G : zH) (r0 : Nat) (x1 : Int32) (x2 : Int32) (x3 : Int32) : Option zH :=
    zlet (x3 + (1 : Int32)) fun y1 =>
    k2 G r0 x1 x2 y1
set_option maxRecDepth 100000 in
set_option maxHeartbeats 4000000 in
theorem wfX2_marksGoBack_b50 {X : zX} {out : zH} (C : zOK X cX2_marksGoBack yX2_marksGoBack.cls 4 none 0 0) (E : zPost X (poV out)) (k2 : zH → Nat → Int32 → Int32 → Int32 → Option zH) (hk2 : ∀ (G : zH) (r0 : Nat) (x1 : Int32) (x2 : Int32) (x3 : Int32), k2 G r0 x1 x2 x3 = some out → zZ X 2 [(0, .ref r0), (1, .int x1), (2, .int x2), (3, .int x3)] [] G) (G : zH) (r0 : Nat) (x1 : Int32) (x2 : Int32) (x3 : Int32) (h : fX2_marksGoBack_b50 k2 G r0 x1 x2 x3 = some out) : zZ X 50 [(0, .ref r0), (1, .int x1), (2, .int x2), (3, .int x3)] [] G := by
  rw [fX2_marksGoBack_b50] at h
  obtain ⟨y1, ey1, h⟩ := zlet_eq h
  refine z_iinc (pc := 50) (v := y1) C 3 dX2_marksGoBack_50 rfl (by rw [ey1]; rfl) (by decide) (show zput _ _ _ = [(3, .int y1), (0, .ref r0), (1, .int x1), (2, .int x2)] from rfl) ?_
  refine z_goto (pc := 53) C dX2_marksGoBack_53 (tgt := 2) (by decide) ?_
  exact z_subL [1, 2, 3, 0] (hk2 G r0 x1 x2 y1 h) rfl
def fX2_marksGoBack_b2 : Nat → zH → Nat → Int32 → Int32 → Int32 → Option zH
  | 0, _, _, _, _, _ => none
  | n + 1, G, r0, x1, x2, x3 =>
    if (8 : Int32) ≤ x3 then (some G) else
    ob1 (frf G r0 2 4) fun qv2 =>
    ob1 (aR G 0 qv2 x3) fun v3 =>
    if v3 < (x1 + x2) then (ob1 (frf G r0 2 4) fun qv5 =>
    ob1 (aR G 0 qv5 x3) fun v6 =>
    if v6 ≤ x1 then (fX2_marksGoBack_b50 (fX2_marksGoBack_b2 n) G r0 x1 x2 x3) else
    ob1 (frf G r0 2 4) fun qv8 =>
    ob1 (aW G 0 qv8 x3 x1) fun G9 =>
    fX2_marksGoBack_b50 (fX2_marksGoBack_b2 n) G9 r0 x1 x2 x3) else
    ob1 (frf G r0 2 4) fun qv10 =>
    ob1 (aR G 0 qv10 x3) fun v11 =>
    ob1 (aW G 0 qv10 x3 (v11 - x2)) fun G12 =>
    fX2_marksGoBack_b50 (fX2_marksGoBack_b2 n) G12 r0 x1 x2 x3
set_option maxRecDepth 100000 in
set_option maxHeartbeats 4000000 in
theorem wfX2_marksGoBack_b2 {X : zX} {out : zH} (C : zOK X cX2_marksGoBack yX2_marksGoBack.cls 4 none 0 0) (E : zPost X (poV out)) : ∀ (n : Nat) (G : zH) (r0 : Nat) (x1 : Int32) (x2 : Int32) (x3 : Int32) (h : fX2_marksGoBack_b2 n G r0 x1 x2 x3 = some out), zZ X 2 [(0, .ref r0), (1, .int x1), (2, .int x2), (3, .int x3)] [] G := by
  intro n
  induction n with
  | zero => intro G r0 x1 x2 x3 h; cases h
  | succ n ih =>
    intro G r0 x1 x2 x3 h
    rw [fX2_marksGoBack_b2] at h
    refine z_iload_n (pc := 2) C 3 dX2_marksGoBack_2 rfl rfl ?_
    refine z_bipush (pc := 3) C dX2_marksGoBack_3 (v := (8 : Int32)) (by decide) ?_
    refine z_ic_ge (pc := 5) C dX2_marksGoBack_5 (tgt := 56) (by decide) (fun c1 => ?_) (fun c1 => ?_)
    · rw [if_pos c1] at h
      obtain rfl := Option.some.inj h
      exact z_vret (pc := 56) C E dX2_marksGoBack_56 ⟨rfl, rfl⟩
    · rw [if_neg c1] at h
      refine z_aload_n (pc := 8) C 0 dX2_marksGoBack_8 rfl rfl ?_
      obtain ⟨qv2, eqv2, h⟩ := ob1_eq h
      refine z_fr (pc := 9) C dX2_marksGoBack_9 fl_X2_18 eqv2 ?_
      refine z_iload_n (pc := 12) C 3 dX2_marksGoBack_12 rfl rfl ?_
      obtain ⟨v3, ev3, h⟩ := ob1_eq h
      refine z_aR (pc := 13) C dX2_marksGoBack_13 ev3 ?_
      refine z_iload_n (pc := 14) C 1 dX2_marksGoBack_14 rfl rfl ?_
      refine z_iload_n (pc := 15) C 2 dX2_marksGoBack_15 rfl rfl ?_
      refine z_iadd (pc := 16) C dX2_marksGoBack_16 ?_
      refine z_ic_lt (pc := 17) C dX2_marksGoBack_17 (tgt := 33) (by decide) (fun c4 => ?_) (fun c4 => ?_)
      · rw [if_pos c4] at h
        refine z_aload_n (pc := 33) C 0 dX2_marksGoBack_33 rfl rfl ?_
        obtain ⟨qv5, eqv5, h⟩ := ob1_eq h
        refine z_fr (pc := 34) C dX2_marksGoBack_34 fl_X2_18 eqv5 ?_
        refine z_iload_n (pc := 37) C 3 dX2_marksGoBack_37 rfl rfl ?_
        obtain ⟨v6, ev6, h⟩ := ob1_eq h
        refine z_aR (pc := 38) C dX2_marksGoBack_38 ev6 ?_
        refine z_iload_n (pc := 39) C 1 dX2_marksGoBack_39 rfl rfl ?_
        refine z_ic_le (pc := 40) C dX2_marksGoBack_40 (tgt := 50) (by decide) (fun c7 => ?_) (fun c7 => ?_)
        · rw [if_pos c7] at h
          exact z_subL [0, 1, 2, 3] (wfX2_marksGoBack_b50 C E (fX2_marksGoBack_b2 n) ih G r0 x1 x2 x3 h) rfl
        · rw [if_neg c7] at h
          refine z_aload_n (pc := 43) C 0 dX2_marksGoBack_43 rfl rfl ?_
          obtain ⟨qv8, eqv8, h⟩ := ob1_eq h
          refine z_fr (pc := 44) C dX2_marksGoBack_44 fl_X2_18 eqv8 ?_
          refine z_iload_n (pc := 47) C 3 dX2_marksGoBack_47 rfl rfl ?_
          refine z_iload_n (pc := 48) C 1 dX2_marksGoBack_48 rfl rfl ?_
          obtain ⟨G9, eG9, h⟩ := ob1_eq h
          refine z_aW (pc := 49) C dX2_marksGoBack_49 eG9 ?_
          exact z_subL [0, 1, 2, 3] (wfX2_marksGoBack_b50 C E (fX2_marksGoBack_b2 n) ih G9 r0 x1 x2 x3 h) rfl
      · rw [if_neg c4] at h
        refine z_aload_n (pc := 20) C 0 dX2_marksGoBack_20 rfl rfl ?_
        obtain ⟨qv10, eqv10, h⟩ := ob1_eq h
        refine z_fr (pc := 21) C dX2_marksGoBack_21 fl_X2_18 eqv10 ?_
        refine z_iload_n (pc := 24) C 3 dX2_marksGoBack_24 rfl rfl ?_
        refine z_dup2 (pc := 25) C dX2_marksGoBack_25 rfl rfl ?_
        obtain ⟨v11, ev11, h⟩ := ob1_eq h
        refine z_aR (pc := 26) C dX2_marksGoBack_26 ev11 ?_
        refine z_iload_n (pc := 27) C 2 dX2_marksGoBack_27 rfl rfl ?_
        refine z_isub (pc := 28) C dX2_marksGoBack_28 ?_
        obtain ⟨G12, eG12, h⟩ := ob1_eq h
        refine z_aW (pc := 29) C dX2_marksGoBack_29 eG12 ?_
        refine z_goto (pc := 30) C dX2_marksGoBack_30 (tgt := 50) (by decide) ?_
        exact z_subL [0, 1, 2, 3] (wfX2_marksGoBack_b50 C E (fX2_marksGoBack_b2 n) ih G12 r0 x1 x2 x3 h) rfl
def fX2_marksGoBack (G : zH) (r0 : Nat) (x1 : Int32) (x2 : Int32) : Option zH :=
    fX2_marksGoBack_b2 FU G r0 x1 x2 (0 : Int32)
set_option maxRecDepth 100000 in
set_option maxHeartbeats 4000000 in
theorem wfX2_marksGoBack {X : zX} {out : zH} (C : zOK X cX2_marksGoBack yX2_marksGoBack.cls 4 none 0 0) (E : zPost X (poV out)) (G : zH) (r0 : Nat) (x1 : Int32) (x2 : Int32) (h : fX2_marksGoBack G r0 x1 x2 = some out) : zZ X 0 [(0, .ref r0), (1, .int x1), (2, .int x2)] [] G := by
  rw [fX2_marksGoBack] at h
  refine z_iconst (pc := 0) C dX2_marksGoBack_0 (v := (0 : Int32)) (by decide) ?_
  refine z_istore_n (pc := 1) C dX2_marksGoBack_1 rfl (by decide) (show zput _ _ _ = [(3, .int (0 : Int32)), (0, .ref r0), (1, .int x1), (2, .int x2)] from rfl) ?_
  exact z_subL [1, 2, 3, 0] (wfX2_marksGoBack_b2 C E FU G r0 x1 x2 (0 : Int32) h) rfl
theorem kX2_marksGoBack (l : Launch) (D : va_G) (cA : Nat → ClassId) (b : Nat) (G : zH) (r0 : Nat) (x1 : Int32) (x2 : Int32) (out : zH) (h : fX2_marksGoBack G r0 x1 x2 = some out) : zM l D cA b yX2_marksGoBack cX2_marksGoBack 4 none 0 0 [.ref r0, .int x1, .int x2] G (poV out) := z_entry rfl (Nat.le_of_ble_eq_true rfl) (fun X C E _ _ _ => wfX2_marksGoBack C E G r0 x1 x2 h)
def fX2_take (G : zH) (r0 : Nat) (x1 : Int32) (x2 : Int32) : Option zH :=
    ob1 (isO G r0 2) fun u1 =>
    ob1 (fX2_dropSigns G r0 x1 x2) fun G3 =>
    ob1 (isO G3 r0 2) fun u4 =>
    ob1 (fX2_marksGoBack G3 r0 x1 x2) fun G6 =>
    some G6
set_option maxRecDepth 100000 in
set_option maxHeartbeats 4000000 in
theorem wfX2_take {X : zX} {out : zH} (C : zOK X cX2_take yX2_take.cls 3 none 5 115) (E : zPost X (poV out)) (G : zH) (r0 : Nat) (x1 : Int32) (x2 : Int32) (h : fX2_take G r0 x1 x2 = some out) : zZ X 0 [(0, .ref r0), (1, .int x1), (2, .int x2)] [] G := by
  rw [fX2_take] at h
  refine z_aload_n (pc := 0) C 0 dX2_take_0 rfl rfl ?_
  refine z_iload_n (pc := 1) C 1 dX2_take_1 rfl rfl ?_
  refine z_iload_n (pc := 2) C 2 dX2_take_2 rfl rfl ?_
  obtain ⟨u1, eu1, h⟩ := ob1_eq h
  obtain ⟨w2, ew2⟩ := isO_eq eu1
  obtain ⟨G3, eG3, h⟩ := ob1_eq h
  refine z_callVv (h := r0) (As := [.int x1, .int x2]) (rest := []) (pc := 3) C dX2_take_3 ml_X2_71 (kX2_dropSigns _ _ _ _ G r0 x1 x2 G3 eG3) ew2 rfl rfl rfl (Nat.le_of_ble_eq_true rfl) (by decide) ?_
  refine z_aload_n (pc := 6) C 0 dX2_take_6 rfl rfl ?_
  refine z_iload_n (pc := 7) C 1 dX2_take_7 rfl rfl ?_
  refine z_iload_n (pc := 8) C 2 dX2_take_8 rfl rfl ?_
  obtain ⟨u4, eu4, h⟩ := ob1_eq h
  obtain ⟨w5, ew5⟩ := isO_eq eu4
  obtain ⟨G6, eG6, h⟩ := ob1_eq h
  refine z_callVv (h := r0) (As := [.int x1, .int x2]) (rest := []) (pc := 9) C dX2_take_9 ml_X2_74 (kX2_marksGoBack _ _ _ _ G3 r0 x1 x2 G6 eG6) ew5 rfl rfl rfl (Nat.le_of_ble_eq_true rfl) (by decide) ?_
  obtain rfl := Option.some.inj h
  exact z_vret (pc := 12) C E dX2_take_12 ⟨rfl, rfl⟩
theorem kX2_take (l : Launch) (D : va_G) (cA : Nat → ClassId) (b : Nat) (G : zH) (r0 : Nat) (x1 : Int32) (x2 : Int32) (out : zH) (h : fX2_take G r0 x1 x2 = some out) : zM l D cA b yX2_take cX2_take 3 none 5 115 [.ref r0, .int x1, .int x2] G (poV out) := z_entry rfl (Nat.le_of_ble_eq_true rfl) (fun X C E _ _ _ => wfX2_take C E G r0 x1 x2 h)
def fX2_becomePart_b74 (k10 : zH → Nat → Nat → Int32 → Int32 → Int32 → Int32 → Option zH) (G : zH) (r0 : Nat) (r1 : Nat) (x2 : Int32) (x3 : Int32) (x4 : Int32) (x5 : Int32) : Option zH :=
    ob1 (frf G r1 2 1) fun qv1 =>
    ob1 (aR G 0 qv1 x5) fun v2 =>
    zlet ((x4 + v2)) fun y3 =>
    zlet (x5 + (1 : Int32)) fun y4 =>
    k10 G r0 r1 x2 x3 y3 y4
set_option maxRecDepth 100000 in
set_option maxHeartbeats 4000000 in
theorem wfX2_becomePart_b74 {X : zX} {out : zH} (C : zOK X cX2_becomePart yX2_becomePart.cls 8 none 4 89) (E : zPost X (poV out)) (k10 : zH → Nat → Nat → Int32 → Int32 → Int32 → Int32 → Option zH) (hk10 : ∀ (G : zH) (r0 : Nat) (r1 : Nat) (x2 : Int32) (x3 : Int32) (x4 : Int32) (x5 : Int32), k10 G r0 r1 x2 x3 x4 x5 = some out → zZ X 10 [(0, .ref r0), (1, .ref r1), (2, .int x2), (3, .int x3), (4, .int x4), (5, .int x5)] [] G) (G : zH) (r0 : Nat) (r1 : Nat) (x2 : Int32) (x3 : Int32) (x4 : Int32) (x5 : Int32) (h : fX2_becomePart_b74 k10 G r0 r1 x2 x3 x4 x5 = some out) : zZ X 74 [(0, .ref r0), (1, .ref r1), (2, .int x2), (3, .int x3), (4, .int x4), (5, .int x5)] [] G := by
  rw [fX2_becomePart_b74] at h
  refine z_iload (pc := 74) C 4 dX2_becomePart_74 rfl ?_
  refine z_aload_n (pc := 76) C 1 dX2_becomePart_76 rfl rfl ?_
  obtain ⟨qv1, eqv1, h⟩ := ob1_eq h
  refine z_fr (pc := 77) C dX2_becomePart_77 fl_X2_15 eqv1 ?_
  refine z_iload (pc := 80) C 5 dX2_becomePart_80 rfl ?_
  obtain ⟨v2, ev2, h⟩ := ob1_eq h
  refine z_aR (pc := 82) C dX2_becomePart_82 ev2 ?_
  refine z_iadd (pc := 83) C dX2_becomePart_83 ?_
  obtain ⟨y3, ey3, h⟩ := zlet_eq h
  refine z_topi ey3 ?_
  refine z_istore (pc := 84) C dX2_becomePart_84 (by decide) (show zput _ _ _ = [(4, .int y3), (0, .ref r0), (1, .ref r1), (2, .int x2), (3, .int x3), (5, .int x5)] from rfl) ?_
  obtain ⟨y4, ey4, h⟩ := zlet_eq h
  refine z_iinc (pc := 86) (v := y4) C 5 dX2_becomePart_86 rfl (by rw [ey4]; rfl) (by decide) (show zput _ _ _ = [(5, .int y4), (4, .int y3), (0, .ref r0), (1, .ref r1), (2, .int x2), (3, .int x3)] from rfl) ?_
  refine z_goto (pc := 89) C dX2_becomePart_89 (tgt := 10) (by decide) ?_
  exact z_subL [2, 3, 4, 5, 1, 0] (hk10 G r0 r1 x2 x3 y3 y4 h) rfl
def fX2_becomePart_b10 : Nat → zH → Nat → Nat → Int32 → Int32 → Int32 → Int32 → Option zH
  | 0, _, _, _, _, _, _, _ => none
  | n + 1, G, r0, r1, x2, x3, x4, x5 =>
    ob1 (fi G r1 2 2) fun v1 =>
    if v1 ≤ x5 then (some G) else
    zlet ((if x2 < x4 then x4 else x2)) fun y3 =>
    ob1 (frf G r1 2 1) fun qv4 =>
    ob1 (aR G 0 qv4 x5) fun v5 =>
    zlet ((if (x4 + v5) < (x2 + x3) then (x4 + v5) else (x2 + x3))) fun y6 =>
    if y6 ≤ y3 then (fX2_becomePart_b74 (fX2_becomePart_b10 n) G r0 r1 x2 x3 x4 x5) else
    ob1 (frf G r1 2 0) fun qv8 =>
    ob1 (aR G 0 qv8 x5) fun v9 =>
    ob1 (isO G r0 2) fun u10 =>
    ob1 (fX2_addPiece G r0 ((v9 + y3) - x4) (y6 - y3)) fun G12 =>
    fX2_becomePart_b74 (fX2_becomePart_b10 n) G12 r0 r1 x2 x3 x4 x5
set_option maxRecDepth 100000 in
set_option maxHeartbeats 4000000 in
theorem wfX2_becomePart_b10 {X : zX} {out : zH} (C : zOK X cX2_becomePart yX2_becomePart.cls 8 none 4 89) (E : zPost X (poV out)) : ∀ (n : Nat) (G : zH) (r0 : Nat) (r1 : Nat) (x2 : Int32) (x3 : Int32) (x4 : Int32) (x5 : Int32) (h : fX2_becomePart_b10 n G r0 r1 x2 x3 x4 x5 = some out), zZ X 10 [(0, .ref r0), (1, .ref r1), (2, .int x2), (3, .int x3), (4, .int x4), (5, .int x5)] [] G := by
  intro n
  induction n with
  | zero => intro G r0 r1 x2 x3 x4 x5 h; cases h
  | succ n ih =>
    intro G r0 r1 x2 x3 x4 x5 h
    rw [fX2_becomePart_b10] at h
    refine z_iload (pc := 10) C 5 dX2_becomePart_10 rfl ?_
    refine z_aload_n (pc := 12) C 1 dX2_becomePart_12 rfl rfl ?_
    obtain ⟨v1, ev1, h⟩ := ob1_eq h
    refine z_fi (pc := 13) C dX2_becomePart_13 fl_X2_31 ev1 ?_
    refine z_ic_ge (pc := 16) C dX2_becomePart_16 (tgt := 92) (by decide) (fun c2 => ?_) (fun c2 => ?_)
    · rw [if_pos c2] at h
      obtain rfl := Option.some.inj h
      exact z_vret (pc := 92) C E dX2_becomePart_92 ⟨rfl, rfl⟩
    · rw [if_neg c2] at h
      refine z_iload_n (pc := 19) C 2 dX2_becomePart_19 rfl rfl ?_
      refine z_iload (pc := 20) C 4 dX2_becomePart_20 rfl ?_
      refine z_mmax (pc := 22) C dX2_becomePart_22 ml_X2_54 w_max1 w_math w_max2 (Nat.le_of_ble_eq_true rfl) (by decide) ?_
      obtain ⟨y3, ey3, h⟩ := zlet_eq h
      refine z_topi ey3 ?_
      refine z_istore (pc := 25) C dX2_becomePart_25 (by decide) (show zput _ _ _ = [(6, .int y3), (0, .ref r0), (1, .ref r1), (2, .int x2), (3, .int x3), (4, .int x4), (5, .int x5)] from rfl) ?_
      refine z_iload_n (pc := 27) C 3 dX2_becomePart_27 rfl rfl ?_
      refine z_iload_n (pc := 28) C 4 dX2_becomePart_28 rfl rfl ?_
      refine z_iadd (pc := 29) C dX2_becomePart_29 ?_
      refine z_iload (pc := 30) C 5 dX2_becomePart_30 rfl ?_
      refine z_aload_n (pc := 32) C 2 dX2_becomePart_32 rfl rfl ?_
      obtain ⟨qv4, eqv4, h⟩ := ob1_eq h
      refine z_fr (pc := 33) C dX2_becomePart_33 fl_X2_15 eqv4 ?_
      refine z_iload (pc := 36) C 6 dX2_becomePart_36 rfl ?_
      obtain ⟨v5, ev5, h⟩ := ob1_eq h
      refine z_aR (pc := 38) C dX2_becomePart_38 ev5 ?_
      refine z_iadd (pc := 39) C dX2_becomePart_39 ?_
      refine z_mmin (pc := 40) C dX2_becomePart_40 ml_X2_48 w_min1 w_math w_min2 (Nat.le_of_ble_eq_true rfl) (by decide) ?_
      obtain ⟨y6, ey6, h⟩ := zlet_eq h
      refine z_topi ey6 ?_
      refine z_istore (pc := 43) C dX2_becomePart_43 (by decide) (show zput _ _ _ = [(7, .int y6), (6, .int y3), (0, .ref r0), (1, .ref r1), (2, .int x2), (3, .int x3), (4, .int x4), (5, .int x5)] from rfl) ?_
      refine z_iload (pc := 45) C 1 dX2_becomePart_45 rfl ?_
      refine z_iload (pc := 47) C 0 dX2_becomePart_47 rfl ?_
      refine z_ic_ge (pc := 49) C dX2_becomePart_49 (tgt := 74) (by decide) (fun c7 => ?_) (fun c7 => ?_)
      · rw [if_pos c7] at h
        exact z_subL [2, 3, 4, 5, 6, 7] (wfX2_becomePart_b74 C E (fX2_becomePart_b10 n) ih G r0 r1 x2 x3 x4 x5 h) rfl
      · rw [if_neg c7] at h
        refine z_aload_n (pc := 52) C 2 dX2_becomePart_52 rfl rfl ?_
        refine z_aload_n (pc := 53) C 3 dX2_becomePart_53 rfl rfl ?_
        obtain ⟨qv8, eqv8, h⟩ := ob1_eq h
        refine z_fr (pc := 54) C dX2_becomePart_54 fl_X2_9 eqv8 ?_
        refine z_iload (pc := 57) C 7 dX2_becomePart_57 rfl ?_
        obtain ⟨v9, ev9, h⟩ := ob1_eq h
        refine z_aR (pc := 59) C dX2_becomePart_59 ev9 ?_
        refine z_iload (pc := 60) C 1 dX2_becomePart_60 rfl ?_
        refine z_iadd (pc := 62) C dX2_becomePart_62 ?_
        refine z_iload (pc := 63) C 6 dX2_becomePart_63 rfl ?_
        refine z_isub (pc := 65) C dX2_becomePart_65 ?_
        refine z_iload (pc := 66) C 0 dX2_becomePart_66 rfl ?_
        refine z_iload (pc := 68) C 1 dX2_becomePart_68 rfl ?_
        refine z_isub (pc := 70) C dX2_becomePart_70 ?_
        obtain ⟨u10, eu10, h⟩ := ob1_eq h
        obtain ⟨w11, ew11⟩ := isO_eq eu10
        obtain ⟨G12, eG12, h⟩ := ob1_eq h
        refine z_callVv (h := r0) (As := [.int ((v9 + y3) - x4), .int (y6 - y3)]) (rest := []) (pc := 71) C dX2_becomePart_71 ml_X2_95 (kX2_addPiece _ _ _ _ G r0 ((v9 + y3) - x4) (y6 - y3) G12 eG12) ew11 rfl rfl rfl (Nat.le_of_ble_eq_true rfl) (by decide) ?_
        exact z_subL [2, 3, 4, 5, 6, 7] (wfX2_becomePart_b74 C E (fX2_becomePart_b10 n) ih G12 r0 r1 x2 x3 x4 x5 h) rfl
def fX2_becomePart (G : zH) (r0 : Nat) (r1 : Nat) (x2 : Int32) (x3 : Int32) : Option zH :=
    ob1 (isO G r0 2) fun u1 =>
    ob1 (fX2_clear G r0 ) fun G3 =>
    fX2_becomePart_b10 FU G3 r0 r1 x2 x3 (0 : Int32) (0 : Int32)
set_option maxRecDepth 100000 in
set_option maxHeartbeats 4000000 in
theorem wfX2_becomePart {X : zX} {out : zH} (C : zOK X cX2_becomePart yX2_becomePart.cls 8 none 4 89) (E : zPost X (poV out)) (G : zH) (r0 : Nat) (r1 : Nat) (x2 : Int32) (x3 : Int32) (h : fX2_becomePart G r0 r1 x2 x3 = some out) : zZ X 0 [(0, .ref r0), (1, .ref r1), (2, .int x2), (3, .int x3)] [] G := by
  rw [fX2_becomePart] at h
  refine z_aload_n (pc := 0) C 0 dX2_becomePart_0 rfl rfl ?_
  obtain ⟨u1, eu1, h⟩ := ob1_eq h
  obtain ⟨w2, ew2⟩ := isO_eq eu1
  obtain ⟨G3, eG3, h⟩ := ob1_eq h
  refine z_callVv (h := r0) (As := []) (rest := []) (pc := 1) C dX2_becomePart_1 ml_X2_92 (kX2_clear _ _ _ _ G r0  G3 eG3) ew2 rfl rfl rfl (Nat.le_of_ble_eq_true rfl) (by decide) ?_
  refine z_iconst (pc := 4) C dX2_becomePart_4 (v := (0 : Int32)) (by decide) ?_
  refine z_istore (pc := 5) C dX2_becomePart_5 (by decide) (show zput _ _ _ = [(4, .int (0 : Int32)), (0, .ref r0), (1, .ref r1), (2, .int x2), (3, .int x3)] from rfl) ?_
  refine z_iconst (pc := 7) C dX2_becomePart_7 (v := (0 : Int32)) (by decide) ?_
  refine z_istore (pc := 8) C dX2_becomePart_8 (by decide) (show zput _ _ _ = [(5, .int (0 : Int32)), (4, .int (0 : Int32)), (0, .ref r0), (1, .ref r1), (2, .int x2), (3, .int x3)] from rfl) ?_
  exact z_subL [2, 3, 4, 5, 1, 0] (wfX2_becomePart_b10 C E FU G3 r0 r1 x2 x3 (0 : Int32) (0 : Int32) h) rfl
theorem kX2_becomePart (l : Launch) (D : va_G) (cA : Nat → ClassId) (b : Nat) (G : zH) (r0 : Nat) (r1 : Nat) (x2 : Int32) (x3 : Int32) (out : zH) (h : fX2_becomePart G r0 r1 x2 x3 = some out) : zM l D cA b yX2_becomePart cX2_becomePart 8 none 4 89 [.ref r0, .ref r1, .int x2, .int x3] G (poV out) := z_entry rfl (Nat.le_of_ble_eq_true rfl) (fun X C E _ _ _ => wfX2_becomePart C E G r0 r1 x2 x3 h)
def fX2_layPieces (G : zH) (r0 : Nat) (r1 : Nat) (x2 : Int32) : Option zH :=
    ob1 (isO G r0 2) fun u1 =>
    ob2 (fX2_cutAt G r0 x2) fun v4 G3 =>
    ob1 (fi G3 r1 2 2) fun v5 =>
    ob1 (isO G3 r0 2) fun u6 =>
    ob1 (fX2_openGap G3 r0 v4 v5) fun G8 =>
    ob1 (frf G8 r1 2 0) fun qv9 =>
    ob1 (frf G8 r0 2 0) fun qv10 =>
    ob1 (fi G8 r1 2 2) fun v11 =>
    ob1 (cp G8 qv9 (0 : Int32) qv10 v4 v11) fun G12 =>
    ob1 (frf G12 r1 2 1) fun qv13 =>
    ob1 (frf G12 r0 2 1) fun qv14 =>
    ob1 (fi G12 r1 2 2) fun v15 =>
    ob1 (cp G12 qv13 (0 : Int32) qv14 v4 v15) fun G16 =>
    ob1 (fi G16 r0 2 3) fun v17 =>
    ob1 (fi G16 r1 2 3) fun v18 =>
    ob1 (fset G16 r0 2 3 (.int (v17 + v18))) fun G19 =>
    some G19
set_option maxRecDepth 100000 in
set_option maxHeartbeats 4000000 in
theorem wfX2_layPieces {X : zX} {out : zH} (C : zOK X cX2_layPieces yX2_layPieces.cls 4 none 4 91) (E : zPost X (poV out)) (G : zH) (r0 : Nat) (r1 : Nat) (x2 : Int32) (h : fX2_layPieces G r0 r1 x2 = some out) : zZ X 0 [(0, .ref r0), (1, .ref r1), (2, .int x2)] [] G := by
  rw [fX2_layPieces] at h
  refine z_aload_n (pc := 0) C 0 dX2_layPieces_0 rfl rfl ?_
  refine z_iload_n (pc := 1) C 2 dX2_layPieces_1 rfl rfl ?_
  obtain ⟨u1, eu1, h⟩ := ob1_eq h
  obtain ⟨w2, ew2⟩ := isO_eq eu1
  obtain ⟨v4, G3, ev4, h⟩ := ob2_eq h
  refine z_callVi (h := r0) (As := [.int x2]) (rest := []) (pc := 2) C dX2_layPieces_2 ml_X2_61 (kX2_cutAt _ _ _ _ G r0 x2 (v4, G3) ev4) ew2 rfl rfl rfl (Nat.le_of_ble_eq_true rfl) (by decide) ?_
  refine z_istore_n (pc := 5) C dX2_layPieces_5 rfl (by decide) (show zput _ _ _ = [(3, .int v4), (0, .ref r0), (1, .ref r1), (2, .int x2)] from rfl) ?_
  refine z_aload_n (pc := 6) C 1 dX2_layPieces_6 rfl rfl ?_
  refine z_iload_n (pc := 7) C 0 dX2_layPieces_7 rfl rfl ?_
  refine z_aload_n (pc := 8) C 2 dX2_layPieces_8 rfl rfl ?_
  obtain ⟨v5, ev5, h⟩ := ob1_eq h
  refine z_fi (pc := 9) C dX2_layPieces_9 fl_X2_31 ev5 ?_
  obtain ⟨u6, eu6, h⟩ := ob1_eq h
  obtain ⟨w7, ew7⟩ := isO_eq eu6
  obtain ⟨G8, eG8, h⟩ := ob1_eq h
  refine z_callVv (h := r0) (As := [.int v4, .int v5]) (rest := []) (pc := 12) C dX2_layPieces_12 ml_X2_38 (kX2_openGap _ _ _ _ G3 r0 v4 v5 G8 eG8) ew7 rfl rfl rfl (Nat.le_of_ble_eq_true rfl) (by decide) ?_
  refine z_aload_n (pc := 15) C 2 dX2_layPieces_15 rfl rfl ?_
  obtain ⟨qv9, eqv9, h⟩ := ob1_eq h
  refine z_fr (pc := 16) C dX2_layPieces_16 fl_X2_9 eqv9 ?_
  refine z_iconst (pc := 19) C dX2_layPieces_19 (v := (0 : Int32)) (by decide) ?_
  refine z_aload_n (pc := 20) C 1 dX2_layPieces_20 rfl rfl ?_
  obtain ⟨qv10, eqv10, h⟩ := ob1_eq h
  refine z_fr (pc := 21) C dX2_layPieces_21 fl_X2_9 eqv10 ?_
  refine z_iload_n (pc := 24) C 0 dX2_layPieces_24 rfl rfl ?_
  refine z_aload_n (pc := 25) C 2 dX2_layPieces_25 rfl rfl ?_
  obtain ⟨v11, ev11, h⟩ := ob1_eq h
  refine z_fi (pc := 26) C dX2_layPieces_26 fl_X2_31 ev11 ?_
  obtain ⟨G12, eG12, h⟩ := ob1_eq h
  refine z_cp (pc := 29) C dX2_layPieces_29 ml_X2_42 (by decide) (Nat.le_of_ble_eq_true rfl) eG12 ?_
  refine z_aload_n (pc := 32) C 2 dX2_layPieces_32 rfl rfl ?_
  obtain ⟨qv13, eqv13, h⟩ := ob1_eq h
  refine z_fr (pc := 33) C dX2_layPieces_33 fl_X2_15 eqv13 ?_
  refine z_iconst (pc := 36) C dX2_layPieces_36 (v := (0 : Int32)) (by decide) ?_
  refine z_aload_n (pc := 37) C 1 dX2_layPieces_37 rfl rfl ?_
  obtain ⟨qv14, eqv14, h⟩ := ob1_eq h
  refine z_fr (pc := 38) C dX2_layPieces_38 fl_X2_15 eqv14 ?_
  refine z_iload_n (pc := 41) C 0 dX2_layPieces_41 rfl rfl ?_
  refine z_aload_n (pc := 42) C 2 dX2_layPieces_42 rfl rfl ?_
  obtain ⟨v15, ev15, h⟩ := ob1_eq h
  refine z_fi (pc := 43) C dX2_layPieces_43 fl_X2_31 ev15 ?_
  obtain ⟨G16, eG16, h⟩ := ob1_eq h
  refine z_cp (pc := 46) C dX2_layPieces_46 ml_X2_42 (by decide) (Nat.le_of_ble_eq_true rfl) eG16 ?_
  refine z_aload_n (pc := 49) C 1 dX2_layPieces_49 rfl rfl ?_
  refine z_dup (pc := 50) C dX2_layPieces_50 rfl ?_
  obtain ⟨v17, ev17, h⟩ := ob1_eq h
  refine z_fi (pc := 51) C dX2_layPieces_51 fl_X2_35 ev17 ?_
  refine z_aload_n (pc := 54) C 2 dX2_layPieces_54 rfl rfl ?_
  obtain ⟨v18, ev18, h⟩ := ob1_eq h
  refine z_fi (pc := 55) C dX2_layPieces_55 fl_X2_35 ev18 ?_
  refine z_iadd (pc := 58) C dX2_layPieces_58 ?_
  obtain ⟨G19, eG19, h⟩ := ob1_eq h
  refine z_si (pc := 59) C dX2_layPieces_59 fl_X2_35w eG19 ?_
  obtain rfl := Option.some.inj h
  exact z_vret (pc := 62) C E dX2_layPieces_62 ⟨rfl, rfl⟩
theorem kX2_layPieces (l : Launch) (D : va_G) (cA : Nat → ClassId) (b : Nat) (G : zH) (r0 : Nat) (r1 : Nat) (x2 : Int32) (out : zH) (h : fX2_layPieces G r0 r1 x2 = some out) : zM l D cA b yX2_layPieces cX2_layPieces 4 none 4 91 [.ref r0, .ref r1, .int x2] G (poV out) := z_entry rfl (Nat.le_of_ble_eq_true rfl) (fun X C E _ _ _ => wfX2_layPieces C E G r0 r1 x2 h)
def fX2_lay (G : zH) (r0 : Nat) (x1 : Int32) (x2 : Int32) (x3 : Int32) (r4 : Nat) : Option zH :=
    ob1 (isO G r4 2) fun u1 =>
    ob1 (fX2_becomePart G r4 r0 x1 x2) fun G3 =>
    ob1 (isO G3 r0 2) fun u4 =>
    ob1 (fX2_layPieces G3 r0 r4 x3) fun G6 =>
    ob1 (isO G6 r0 2) fun u7 =>
    ob1 (fX2_marksGoOn G6 r0 x3 x2) fun G9 =>
    some G9
set_option maxRecDepth 100000 in
set_option maxHeartbeats 4000000 in
theorem wfX2_lay {X : zX} {out : zH} (C : zOK X cX2_lay yX2_lay.cls 5 none 5 116) (E : zPost X (poV out)) (G : zH) (r0 : Nat) (x1 : Int32) (x2 : Int32) (x3 : Int32) (r4 : Nat) (h : fX2_lay G r0 x1 x2 x3 r4 = some out) : zZ X 0 [(0, .ref r0), (1, .int x1), (2, .int x2), (3, .int x3), (4, .ref r4)] [] G := by
  rw [fX2_lay] at h
  refine z_aload (pc := 0) C 4 dX2_lay_0 rfl ?_
  refine z_aload_n (pc := 2) C 0 dX2_lay_2 rfl rfl ?_
  refine z_iload_n (pc := 3) C 1 dX2_lay_3 rfl rfl ?_
  refine z_iload_n (pc := 4) C 2 dX2_lay_4 rfl rfl ?_
  obtain ⟨u1, eu1, h⟩ := ob1_eq h
  obtain ⟨w2, ew2⟩ := isO_eq eu1
  obtain ⟨G3, eG3, h⟩ := ob1_eq h
  refine z_callVv (h := r4) (As := [.ref r0, .int x1, .int x2]) (rest := []) (pc := 5) C dX2_lay_5 ml_X2_77 (kX2_becomePart _ _ _ _ G r4 r0 x1 x2 G3 eG3) ew2 rfl rfl rfl (Nat.le_of_ble_eq_true rfl) (by decide) ?_
  refine z_aload_n (pc := 8) C 0 dX2_lay_8 rfl rfl ?_
  refine z_aload (pc := 9) C 4 dX2_lay_9 rfl ?_
  refine z_iload_n (pc := 11) C 3 dX2_lay_11 rfl rfl ?_
  obtain ⟨u4, eu4, h⟩ := ob1_eq h
  obtain ⟨w5, ew5⟩ := isO_eq eu4
  obtain ⟨G6, eG6, h⟩ := ob1_eq h
  refine z_callVv (h := r0) (As := [.ref r4, .int x3]) (rest := []) (pc := 12) C dX2_lay_12 ml_X2_81 (kX2_layPieces _ _ _ _ G3 r0 r4 x3 G6 eG6) ew5 rfl rfl rfl (Nat.le_of_ble_eq_true rfl) (by decide) ?_
  refine z_aload_n (pc := 15) C 0 dX2_lay_15 rfl rfl ?_
  refine z_iload_n (pc := 16) C 3 dX2_lay_16 rfl rfl ?_
  refine z_iload_n (pc := 17) C 2 dX2_lay_17 rfl rfl ?_
  obtain ⟨u7, eu7, h⟩ := ob1_eq h
  obtain ⟨w8, ew8⟩ := isO_eq eu7
  obtain ⟨G9, eG9, h⟩ := ob1_eq h
  refine z_callVv (h := r0) (As := [.int x3, .int x2]) (rest := []) (pc := 18) C dX2_lay_18 ml_X2_68 (kX2_marksGoOn _ _ _ _ G6 r0 x3 x2 G9 eG9) ew8 rfl rfl rfl (Nat.le_of_ble_eq_true rfl) (by decide) ?_
  obtain rfl := Option.some.inj h
  exact z_vret (pc := 21) C E dX2_lay_21 ⟨rfl, rfl⟩
theorem kX2_lay (l : Launch) (D : va_G) (cA : Nat → ClassId) (b : Nat) (G : zH) (r0 : Nat) (x1 : Int32) (x2 : Int32) (x3 : Int32) (r4 : Nat) (out : zH) (h : fX2_lay G r0 x1 x2 x3 r4 = some out) : zM l D cA b yX2_lay cX2_lay 5 none 5 116 [.ref r0, .int x1, .int x2, .int x3, .ref r4] G (poV out) := z_entry rfl (Nat.le_of_ble_eq_true rfl) (fun X C E _ _ _ => wfX2_lay C E G r0 x1 x2 x3 r4 h)
def fX2_marksMove_b106 (k3 : zH → Nat → Int32 → Int32 → Int32 → Int32 → Option zH) (G : zH) (r0 : Nat) (x1 : Int32) (x2 : Int32) (x3 : Int32) (x4 : Int32) : Option zH :=
    zlet (x4 + (1 : Int32)) fun y1 =>
    k3 G r0 x1 x2 x3 y1
set_option maxRecDepth 100000 in
set_option maxHeartbeats 4000000 in
theorem wfX2_marksMove_b106 {X : zX} {out : zH} (C : zOK X cX2_marksMove yX2_marksMove.cls 7 none 0 0) (E : zPost X (poV out)) (k3 : zH → Nat → Int32 → Int32 → Int32 → Int32 → Option zH) (hk3 : ∀ (G : zH) (r0 : Nat) (x1 : Int32) (x2 : Int32) (x3 : Int32) (x4 : Int32), k3 G r0 x1 x2 x3 x4 = some out → zZ X 3 [(0, .ref r0), (1, .int x1), (2, .int x2), (3, .int x3), (4, .int x4)] [] G) (G : zH) (r0 : Nat) (x1 : Int32) (x2 : Int32) (x3 : Int32) (x4 : Int32) (h : fX2_marksMove_b106 k3 G r0 x1 x2 x3 x4 = some out) : zZ X 106 [(0, .ref r0), (1, .int x1), (2, .int x2), (3, .int x3), (4, .int x4)] [] G := by
  rw [fX2_marksMove_b106] at h
  obtain ⟨y1, ey1, h⟩ := zlet_eq h
  refine z_iinc (pc := 106) (v := y1) C 4 dX2_marksMove_106 rfl (by rw [ey1]; rfl) (by decide) (show zput _ _ _ = [(4, .int y1), (0, .ref r0), (1, .int x1), (2, .int x2), (3, .int x3)] from rfl) ?_
  refine z_goto (pc := 109) C dX2_marksMove_109 (tgt := 3) (by decide) ?_
  exact z_subL [1, 2, 3, 4, 0] (hk3 G r0 x1 x2 x3 y1 h) rfl
def fX2_marksMove_b105 (k3 : zH → Nat → Int32 → Int32 → Int32 → Int32 → Option zH) (G : zH) (r0 : Nat) (x1 : Int32) (x2 : Int32) (x3 : Int32) (x4 : Int32) (s0 : Int32) (s1 : Int32) (s2 : Nat) : Option zH :=
    ob1 (aW G 0 s2 s1 s0) fun G1 =>
    fX2_marksMove_b106 k3 G1 r0 x1 x2 x3 x4
set_option maxRecDepth 100000 in
set_option maxHeartbeats 4000000 in
theorem wfX2_marksMove_b105 {X : zX} {out : zH} (C : zOK X cX2_marksMove yX2_marksMove.cls 7 none 0 0) (E : zPost X (poV out)) (k3 : zH → Nat → Int32 → Int32 → Int32 → Int32 → Option zH) (hk3 : ∀ (G : zH) (r0 : Nat) (x1 : Int32) (x2 : Int32) (x3 : Int32) (x4 : Int32), k3 G r0 x1 x2 x3 x4 = some out → zZ X 3 [(0, .ref r0), (1, .int x1), (2, .int x2), (3, .int x3), (4, .int x4)] [] G) (G : zH) (r0 : Nat) (x1 : Int32) (x2 : Int32) (x3 : Int32) (x4 : Int32) (s0 : Int32) (s1 : Int32) (s2 : Nat) (h : fX2_marksMove_b105 k3 G r0 x1 x2 x3 x4 s0 s1 s2 = some out) : zZ X 105 [(0, .ref r0), (1, .int x1), (2, .int x2), (3, .int x3), (4, .int x4)] [.int s0, .int s1, .ref s2] G := by
  rw [fX2_marksMove_b105] at h
  obtain ⟨G1, eG1, h⟩ := ob1_eq h
  refine z_aW (pc := 105) C dX2_marksMove_105 eG1 ?_
  exact z_subL [0, 1, 2, 3, 4] (wfX2_marksMove_b106 C E k3 hk3 G1 r0 x1 x2 x3 x4 h) rfl
def fX2_marksMove_b103 (k3 : zH → Nat → Int32 → Int32 → Int32 → Int32 → Option zH) (G : zH) (r0 : Nat) (x1 : Int32) (x2 : Int32) (x3 : Int32) (x4 : Int32) (x6 : Int32) (s0 : Int32) (s1 : Nat) : Option zH :=
    fX2_marksMove_b105 k3 G r0 x1 x2 x3 x4 x6 s0 s1
set_option maxRecDepth 100000 in
set_option maxHeartbeats 4000000 in
theorem wfX2_marksMove_b103 {X : zX} {out : zH} (C : zOK X cX2_marksMove yX2_marksMove.cls 7 none 0 0) (E : zPost X (poV out)) (k3 : zH → Nat → Int32 → Int32 → Int32 → Int32 → Option zH) (hk3 : ∀ (G : zH) (r0 : Nat) (x1 : Int32) (x2 : Int32) (x3 : Int32) (x4 : Int32), k3 G r0 x1 x2 x3 x4 = some out → zZ X 3 [(0, .ref r0), (1, .int x1), (2, .int x2), (3, .int x3), (4, .int x4)] [] G) (G : zH) (r0 : Nat) (x1 : Int32) (x2 : Int32) (x3 : Int32) (x4 : Int32) (x6 : Int32) (s0 : Int32) (s1 : Nat) (h : fX2_marksMove_b103 k3 G r0 x1 x2 x3 x4 x6 s0 s1 = some out) : zZ X 103 [(0, .ref r0), (1, .int x1), (2, .int x2), (3, .int x3), (4, .int x4), (6, .int x6)] [.int s0, .ref s1] G := by
  rw [fX2_marksMove_b103] at h
  refine z_iload (pc := 103) C 5 dX2_marksMove_103 rfl ?_
  exact z_subL [0, 1, 2, 3, 4] (wfX2_marksMove_b105 C E k3 hk3 G r0 x1 x2 x3 x4 x6 s0 s1 h) rfl
def fX2_marksMove_b96 (k3 : zH → Nat → Int32 → Int32 → Int32 → Int32 → Option zH) (G : zH) (r0 : Nat) (x1 : Int32) (x2 : Int32) (x3 : Int32) (x4 : Int32) (x6 : Int32) (s0 : Int32) (s1 : Nat) : Option zH :=
    fX2_marksMove_b105 k3 G r0 x1 x2 x3 x4 (x6 + x2) s0 s1
set_option maxRecDepth 100000 in
set_option maxHeartbeats 4000000 in
theorem wfX2_marksMove_b96 {X : zX} {out : zH} (C : zOK X cX2_marksMove yX2_marksMove.cls 7 none 0 0) (E : zPost X (poV out)) (k3 : zH → Nat → Int32 → Int32 → Int32 → Int32 → Option zH) (hk3 : ∀ (G : zH) (r0 : Nat) (x1 : Int32) (x2 : Int32) (x3 : Int32) (x4 : Int32), k3 G r0 x1 x2 x3 x4 = some out → zZ X 3 [(0, .ref r0), (1, .int x1), (2, .int x2), (3, .int x3), (4, .int x4)] [] G) (G : zH) (r0 : Nat) (x1 : Int32) (x2 : Int32) (x3 : Int32) (x4 : Int32) (x6 : Int32) (s0 : Int32) (s1 : Nat) (h : fX2_marksMove_b96 k3 G r0 x1 x2 x3 x4 x6 s0 s1 = some out) : zZ X 96 [(0, .ref r0), (1, .int x1), (2, .int x2), (3, .int x3), (4, .int x4), (6, .int x6)] [.int s0, .ref s1] G := by
  rw [fX2_marksMove_b96] at h
  refine z_iload (pc := 96) C 5 dX2_marksMove_96 rfl ?_
  refine z_iload_n (pc := 98) C 2 dX2_marksMove_98 rfl rfl ?_
  refine z_iadd (pc := 99) C dX2_marksMove_99 ?_
  refine z_goto (pc := 100) C dX2_marksMove_100 (tgt := 105) (by decide) ?_
  exact z_subL [0, 1, 2, 3, 4] (wfX2_marksMove_b105 C E k3 hk3 G r0 x1 x2 x3 x4 (x6 + x2) s0 s1 h) rfl
def fX2_marksMove_b66 (k3 : zH → Nat → Int32 → Int32 → Int32 → Int32 → Option zH) (G : zH) (r0 : Nat) (x1 : Int32) (x2 : Int32) (x3 : Int32) (x4 : Int32) (s0 : Int32) : Option zH :=
    ob1 (frf G r0 2 4) fun qv1 =>
    if x3 < s0 then (fX2_marksMove_b96 k3 G r0 x1 x2 x3 x4 s0 x4 qv1) else
    if s0 = x3 then (ob1 (frf G r0 2 5) fun qv4 =>
    ob1 (aR G 3 qv4 x4) fun v5 =>
    if v5 = 0 then (fX2_marksMove_b103 k3 G r0 x1 x2 x3 x4 s0 x4 qv1) else
    fX2_marksMove_b96 k3 G r0 x1 x2 x3 x4 s0 x4 qv1) else
    fX2_marksMove_b103 k3 G r0 x1 x2 x3 x4 s0 x4 qv1
set_option maxRecDepth 100000 in
set_option maxHeartbeats 4000000 in
theorem wfX2_marksMove_b66 {X : zX} {out : zH} (C : zOK X cX2_marksMove yX2_marksMove.cls 7 none 0 0) (E : zPost X (poV out)) (k3 : zH → Nat → Int32 → Int32 → Int32 → Int32 → Option zH) (hk3 : ∀ (G : zH) (r0 : Nat) (x1 : Int32) (x2 : Int32) (x3 : Int32) (x4 : Int32), k3 G r0 x1 x2 x3 x4 = some out → zZ X 3 [(0, .ref r0), (1, .int x1), (2, .int x2), (3, .int x3), (4, .int x4)] [] G) (G : zH) (r0 : Nat) (x1 : Int32) (x2 : Int32) (x3 : Int32) (x4 : Int32) (s0 : Int32) (h : fX2_marksMove_b66 k3 G r0 x1 x2 x3 x4 s0 = some out) : zZ X 66 [(0, .ref r0), (1, .int x1), (2, .int x2), (3, .int x3), (4, .int x4)] [.int s0] G := by
  rw [fX2_marksMove_b66] at h
  refine z_istore (pc := 66) C dX2_marksMove_66 (by decide) (show zput _ _ _ = [(6, .int s0), (0, .ref r0), (1, .int x1), (2, .int x2), (3, .int x3), (4, .int x4)] from rfl) ?_
  refine z_aload_n (pc := 68) C 1 dX2_marksMove_68 rfl rfl ?_
  obtain ⟨qv1, eqv1, h⟩ := ob1_eq h
  refine z_fr (pc := 69) C dX2_marksMove_69 fl_X2_18 eqv1 ?_
  refine z_iload (pc := 72) C 5 dX2_marksMove_72 rfl ?_
  refine z_iload (pc := 74) C 0 dX2_marksMove_74 rfl ?_
  refine z_iload_n (pc := 76) C 4 dX2_marksMove_76 rfl rfl ?_
  refine z_ic_gt (pc := 77) C dX2_marksMove_77 (tgt := 96) (by decide) (fun c2 => ?_) (fun c2 => ?_)
  · rw [if_pos c2] at h
    exact z_subL [1, 2, 3, 4, 5, 0] (wfX2_marksMove_b96 C E k3 hk3 G r0 x1 x2 x3 x4 s0 x4 qv1 h) rfl
  · rw [if_neg c2] at h
    refine z_iload (pc := 80) C 0 dX2_marksMove_80 rfl ?_
    refine z_iload_n (pc := 82) C 4 dX2_marksMove_82 rfl rfl ?_
    refine z_ic_ne (pc := 83) C dX2_marksMove_83 (tgt := 103) (by decide) (fun c3 => ?_) (fun c3 => ?_)
    · rw [if_neg c3] at h
      exact z_subL [1, 2, 3, 4, 5, 0] (wfX2_marksMove_b103 C E k3 hk3 G r0 x1 x2 x3 x4 s0 x4 qv1 h) rfl
    · rw [if_pos c3] at h
      refine z_aload_n (pc := 86) C 1 dX2_marksMove_86 rfl rfl ?_
      obtain ⟨qv4, eqv4, h⟩ := ob1_eq h
      refine z_fr (pc := 87) C dX2_marksMove_87 fl_X2_21 eqv4 ?_
      refine z_iload (pc := 90) C 5 dX2_marksMove_90 rfl ?_
      obtain ⟨v5, ev5, h⟩ := ob1_eq h
      refine z_zR (pc := 92) C dX2_marksMove_92 ev5 ?_
      refine z_if_eq (pc := 93) C dX2_marksMove_93 (tgt := 103) (by decide) (fun c6 => ?_) (fun c6 => ?_)
      · rw [if_pos c6] at h
        exact z_subL [1, 2, 3, 4, 5, 0] (wfX2_marksMove_b103 C E k3 hk3 G r0 x1 x2 x3 x4 s0 x4 qv1 h) rfl
      · rw [if_neg c6] at h
        exact z_subL [1, 2, 3, 4, 5, 0] (wfX2_marksMove_b96 C E k3 hk3 G r0 x1 x2 x3 x4 s0 x4 qv1 h) rfl
def fX2_marksMove_b49 (k3 : zH → Nat → Int32 → Int32 → Int32 → Int32 → Option zH) (G : zH) (r0 : Nat) (x1 : Int32) (x2 : Int32) (x3 : Int32) (x4 : Int32) (x5 : Int32) : Option zH :=
    if x5 < (x1 + x2) then (fX2_marksMove_b66 k3 G r0 x1 x2 x3 x4 x5) else
    fX2_marksMove_b66 k3 G r0 x1 x2 x3 x4 (x5 - x2)
set_option maxRecDepth 100000 in
set_option maxHeartbeats 4000000 in
theorem wfX2_marksMove_b49 {X : zX} {out : zH} (C : zOK X cX2_marksMove yX2_marksMove.cls 7 none 0 0) (E : zPost X (poV out)) (k3 : zH → Nat → Int32 → Int32 → Int32 → Int32 → Option zH) (hk3 : ∀ (G : zH) (r0 : Nat) (x1 : Int32) (x2 : Int32) (x3 : Int32) (x4 : Int32), k3 G r0 x1 x2 x3 x4 = some out → zZ X 3 [(0, .ref r0), (1, .int x1), (2, .int x2), (3, .int x3), (4, .int x4)] [] G) (G : zH) (r0 : Nat) (x1 : Int32) (x2 : Int32) (x3 : Int32) (x4 : Int32) (x5 : Int32) (h : fX2_marksMove_b49 k3 G r0 x1 x2 x3 x4 x5 = some out) : zZ X 49 [(0, .ref r0), (1, .int x1), (2, .int x2), (3, .int x3), (4, .int x4), (5, .int x5)] [] G := by
  rw [fX2_marksMove_b49] at h
  refine z_iload (pc := 49) C 5 dX2_marksMove_49 rfl ?_
  refine z_iload_n (pc := 51) C 1 dX2_marksMove_51 rfl rfl ?_
  refine z_iload_n (pc := 52) C 2 dX2_marksMove_52 rfl rfl ?_
  refine z_iadd (pc := 53) C dX2_marksMove_53 ?_
  refine z_ic_lt (pc := 54) C dX2_marksMove_54 (tgt := 64) (by decide) (fun c1 => ?_) (fun c1 => ?_)
  · rw [if_pos c1] at h
    refine z_iload (pc := 64) C 5 dX2_marksMove_64 rfl ?_
    exact z_subL [0, 1, 2, 3, 4] (wfX2_marksMove_b66 C E k3 hk3 G r0 x1 x2 x3 x4 x5 h) rfl
  · rw [if_neg c1] at h
    refine z_iload (pc := 57) C 5 dX2_marksMove_57 rfl ?_
    refine z_iload_n (pc := 59) C 2 dX2_marksMove_59 rfl rfl ?_
    refine z_isub (pc := 60) C dX2_marksMove_60 ?_
    refine z_goto (pc := 61) C dX2_marksMove_61 (tgt := 66) (by decide) ?_
    exact z_subL [0, 1, 2, 3, 4] (wfX2_marksMove_b66 C E k3 hk3 G r0 x1 x2 x3 x4 (x5 - x2) h) rfl
def fX2_marksMove_b3 : Nat → zH → Nat → Int32 → Int32 → Int32 → Int32 → Option zH
  | 0, _, _, _, _, _, _ => none
  | n + 1, G, r0, x1, x2, x3, x4 =>
    if (8 : Int32) ≤ x4 then (some G) else
    ob1 (frf G r0 2 4) fun qv2 =>
    ob1 (aR G 0 qv2 x4) fun v3 =>
    if v3 ≤ x1 then (fX2_marksMove_b49 (fX2_marksMove_b3 n) G r0 x1 x2 x3 x4 v3) else
    if (x1 + x2) ≤ v3 then (fX2_marksMove_b49 (fX2_marksMove_b3 n) G r0 x1 x2 x3 x4 v3) else
    ob1 (frf G r0 2 4) fun qv6 =>
    ob1 (aW G 0 qv6 x4 ((x3 + v3) - x1)) fun G7 =>
    fX2_marksMove_b106 (fX2_marksMove_b3 n) G7 r0 x1 x2 x3 x4
set_option maxRecDepth 100000 in
set_option maxHeartbeats 4000000 in
theorem wfX2_marksMove_b3 {X : zX} {out : zH} (C : zOK X cX2_marksMove yX2_marksMove.cls 7 none 0 0) (E : zPost X (poV out)) : ∀ (n : Nat) (G : zH) (r0 : Nat) (x1 : Int32) (x2 : Int32) (x3 : Int32) (x4 : Int32) (h : fX2_marksMove_b3 n G r0 x1 x2 x3 x4 = some out), zZ X 3 [(0, .ref r0), (1, .int x1), (2, .int x2), (3, .int x3), (4, .int x4)] [] G := by
  intro n
  induction n with
  | zero => intro G r0 x1 x2 x3 x4 h; cases h
  | succ n ih =>
    intro G r0 x1 x2 x3 x4 h
    rw [fX2_marksMove_b3] at h
    refine z_iload (pc := 3) C 4 dX2_marksMove_3 rfl ?_
    refine z_bipush (pc := 5) C dX2_marksMove_5 (v := (8 : Int32)) (by decide) ?_
    refine z_ic_ge (pc := 7) C dX2_marksMove_7 (tgt := 112) (by decide) (fun c1 => ?_) (fun c1 => ?_)
    · rw [if_pos c1] at h
      obtain rfl := Option.some.inj h
      exact z_vret (pc := 112) C E dX2_marksMove_112 ⟨rfl, rfl⟩
    · rw [if_neg c1] at h
      refine z_aload_n (pc := 10) C 0 dX2_marksMove_10 rfl rfl ?_
      obtain ⟨qv2, eqv2, h⟩ := ob1_eq h
      refine z_fr (pc := 11) C dX2_marksMove_11 fl_X2_18 eqv2 ?_
      refine z_iload (pc := 14) C 4 dX2_marksMove_14 rfl ?_
      obtain ⟨v3, ev3, h⟩ := ob1_eq h
      refine z_aR (pc := 16) C dX2_marksMove_16 ev3 ?_
      refine z_istore (pc := 17) C dX2_marksMove_17 (by decide) (show zput _ _ _ = [(5, .int v3), (0, .ref r0), (1, .int x1), (2, .int x2), (3, .int x3), (4, .int x4)] from rfl) ?_
      refine z_iload (pc := 19) C 0 dX2_marksMove_19 rfl ?_
      refine z_iload_n (pc := 21) C 2 dX2_marksMove_21 rfl rfl ?_
      refine z_ic_le (pc := 22) C dX2_marksMove_22 (tgt := 49) (by decide) (fun c4 => ?_) (fun c4 => ?_)
      · rw [if_pos c4] at h
        exact z_subL [1, 2, 3, 4, 5, 0] (wfX2_marksMove_b49 C E (fX2_marksMove_b3 n) ih G r0 x1 x2 x3 x4 v3 h) rfl
      · rw [if_neg c4] at h
        refine z_iload (pc := 25) C 0 dX2_marksMove_25 rfl ?_
        refine z_iload_n (pc := 27) C 2 dX2_marksMove_27 rfl rfl ?_
        refine z_iload_n (pc := 28) C 3 dX2_marksMove_28 rfl rfl ?_
        refine z_iadd (pc := 29) C dX2_marksMove_29 ?_
        refine z_ic_ge (pc := 30) C dX2_marksMove_30 (tgt := 49) (by decide) (fun c5 => ?_) (fun c5 => ?_)
        · rw [if_pos c5] at h
          exact z_subL [1, 2, 3, 4, 5, 0] (wfX2_marksMove_b49 C E (fX2_marksMove_b3 n) ih G r0 x1 x2 x3 x4 v3 h) rfl
        · rw [if_neg c5] at h
          refine z_aload_n (pc := 33) C 1 dX2_marksMove_33 rfl rfl ?_
          obtain ⟨qv6, eqv6, h⟩ := ob1_eq h
          refine z_fr (pc := 34) C dX2_marksMove_34 fl_X2_18 eqv6 ?_
          refine z_iload (pc := 37) C 5 dX2_marksMove_37 rfl ?_
          refine z_iload_n (pc := 39) C 4 dX2_marksMove_39 rfl rfl ?_
          refine z_iload (pc := 40) C 0 dX2_marksMove_40 rfl ?_
          refine z_iadd (pc := 42) C dX2_marksMove_42 ?_
          refine z_iload_n (pc := 43) C 2 dX2_marksMove_43 rfl rfl ?_
          refine z_isub (pc := 44) C dX2_marksMove_44 ?_
          obtain ⟨G7, eG7, h⟩ := ob1_eq h
          refine z_aW (pc := 45) C dX2_marksMove_45 eG7 ?_
          refine z_goto (pc := 46) C dX2_marksMove_46 (tgt := 106) (by decide) ?_
          exact z_subL [1, 2, 3, 4, 5] (wfX2_marksMove_b106 C E (fX2_marksMove_b3 n) ih G7 r0 x1 x2 x3 x4 h) rfl
def fX2_marksMove (G : zH) (r0 : Nat) (x1 : Int32) (x2 : Int32) (x3 : Int32) : Option zH :=
    fX2_marksMove_b3 FU G r0 x1 x2 x3 (0 : Int32)
set_option maxRecDepth 100000 in
set_option maxHeartbeats 4000000 in
theorem wfX2_marksMove {X : zX} {out : zH} (C : zOK X cX2_marksMove yX2_marksMove.cls 7 none 0 0) (E : zPost X (poV out)) (G : zH) (r0 : Nat) (x1 : Int32) (x2 : Int32) (x3 : Int32) (h : fX2_marksMove G r0 x1 x2 x3 = some out) : zZ X 0 [(0, .ref r0), (1, .int x1), (2, .int x2), (3, .int x3)] [] G := by
  rw [fX2_marksMove] at h
  refine z_iconst (pc := 0) C dX2_marksMove_0 (v := (0 : Int32)) (by decide) ?_
  refine z_istore (pc := 1) C dX2_marksMove_1 (by decide) (show zput _ _ _ = [(4, .int (0 : Int32)), (0, .ref r0), (1, .int x1), (2, .int x2), (3, .int x3)] from rfl) ?_
  exact z_subL [1, 2, 3, 4, 0] (wfX2_marksMove_b3 C E FU G r0 x1 x2 x3 (0 : Int32) h) rfl
theorem kX2_marksMove (l : Launch) (D : va_G) (cA : Nat → ClassId) (b : Nat) (G : zH) (r0 : Nat) (x1 : Int32) (x2 : Int32) (x3 : Int32) (out : zH) (h : fX2_marksMove G r0 x1 x2 x3 = some out) : zM l D cA b yX2_marksMove cX2_marksMove 7 none 0 0 [.ref r0, .int x1, .int x2, .int x3] G (poV out) := z_entry rfl (Nat.le_of_ble_eq_true rfl) (fun X C E _ _ _ => wfX2_marksMove C E G r0 x1 x2 x3 h)
def fX2_move (G : zH) (r0 : Nat) (x1 : Int32) (x2 : Int32) (x3 : Int32) (r4 : Nat) : Option zH :=
    ob1 (isO G r4 2) fun u1 =>
    ob1 (fX2_becomePart G r4 r0 x1 x2) fun G3 =>
    ob1 (isO G3 r0 2) fun u4 =>
    ob1 (fX2_dropSigns G3 r0 x1 x2) fun G6 =>
    ob1 (isO G6 r0 2) fun u7 =>
    ob1 (fX2_layPieces G6 r0 r4 x3) fun G9 =>
    ob1 (isO G9 r0 2) fun u10 =>
    ob1 (fX2_marksMove G9 r0 x1 x2 x3) fun G12 =>
    some G12
set_option maxRecDepth 100000 in
set_option maxHeartbeats 4000000 in
theorem wfX2_move {X : zX} {out : zH} (C : zOK X cX2_move yX2_move.cls 5 none 5 116) (E : zPost X (poV out)) (G : zH) (r0 : Nat) (x1 : Int32) (x2 : Int32) (x3 : Int32) (r4 : Nat) (h : fX2_move G r0 x1 x2 x3 r4 = some out) : zZ X 0 [(0, .ref r0), (1, .int x1), (2, .int x2), (3, .int x3), (4, .ref r4)] [] G := by
  rw [fX2_move] at h
  refine z_aload (pc := 0) C 4 dX2_move_0 rfl ?_
  refine z_aload_n (pc := 2) C 0 dX2_move_2 rfl rfl ?_
  refine z_iload_n (pc := 3) C 1 dX2_move_3 rfl rfl ?_
  refine z_iload_n (pc := 4) C 2 dX2_move_4 rfl rfl ?_
  obtain ⟨u1, eu1, h⟩ := ob1_eq h
  obtain ⟨w2, ew2⟩ := isO_eq eu1
  obtain ⟨G3, eG3, h⟩ := ob1_eq h
  refine z_callVv (h := r4) (As := [.ref r0, .int x1, .int x2]) (rest := []) (pc := 5) C dX2_move_5 ml_X2_77 (kX2_becomePart _ _ _ _ G r4 r0 x1 x2 G3 eG3) ew2 rfl rfl rfl (Nat.le_of_ble_eq_true rfl) (by decide) ?_
  refine z_aload_n (pc := 8) C 0 dX2_move_8 rfl rfl ?_
  refine z_iload_n (pc := 9) C 1 dX2_move_9 rfl rfl ?_
  refine z_iload_n (pc := 10) C 2 dX2_move_10 rfl rfl ?_
  obtain ⟨u4, eu4, h⟩ := ob1_eq h
  obtain ⟨w5, ew5⟩ := isO_eq eu4
  obtain ⟨G6, eG6, h⟩ := ob1_eq h
  refine z_callVv (h := r0) (As := [.int x1, .int x2]) (rest := []) (pc := 11) C dX2_move_11 ml_X2_71 (kX2_dropSigns _ _ _ _ G3 r0 x1 x2 G6 eG6) ew5 rfl rfl rfl (Nat.le_of_ble_eq_true rfl) (by decide) ?_
  refine z_aload_n (pc := 14) C 0 dX2_move_14 rfl rfl ?_
  refine z_aload (pc := 15) C 4 dX2_move_15 rfl ?_
  refine z_iload_n (pc := 17) C 3 dX2_move_17 rfl rfl ?_
  obtain ⟨u7, eu7, h⟩ := ob1_eq h
  obtain ⟨w8, ew8⟩ := isO_eq eu7
  obtain ⟨G9, eG9, h⟩ := ob1_eq h
  refine z_callVv (h := r0) (As := [.ref r4, .int x3]) (rest := []) (pc := 18) C dX2_move_18 ml_X2_81 (kX2_layPieces _ _ _ _ G6 r0 r4 x3 G9 eG9) ew8 rfl rfl rfl (Nat.le_of_ble_eq_true rfl) (by decide) ?_
  refine z_aload_n (pc := 21) C 0 dX2_move_21 rfl rfl ?_
  refine z_iload_n (pc := 22) C 1 dX2_move_22 rfl rfl ?_
  refine z_iload_n (pc := 23) C 2 dX2_move_23 rfl rfl ?_
  refine z_iload_n (pc := 24) C 3 dX2_move_24 rfl rfl ?_
  obtain ⟨u10, eu10, h⟩ := ob1_eq h
  obtain ⟨w11, ew11⟩ := isO_eq eu10
  obtain ⟨G12, eG12, h⟩ := ob1_eq h
  refine z_callVv (h := r0) (As := [.int x1, .int x2, .int x3]) (rest := []) (pc := 25) C dX2_move_25 ml_X2_85 (kX2_marksMove _ _ _ _ G9 r0 x1 x2 x3 G12 eG12) ew11 rfl rfl rfl (Nat.le_of_ble_eq_true rfl) (by decide) ?_
  obtain rfl := Option.some.inj h
  exact z_vret (pc := 28) C E dX2_move_28 ⟨rfl, rfl⟩
theorem kX2_move (l : Launch) (D : va_G) (cA : Nat → ClassId) (b : Nat) (G : zH) (r0 : Nat) (x1 : Int32) (x2 : Int32) (x3 : Int32) (r4 : Nat) (out : zH) (h : fX2_move G r0 x1 x2 x3 r4 = some out) : zM l D cA b yX2_move cX2_move 5 none 5 116 [.ref r0, .int x1, .int x2, .int x3, .ref r4] G (poV out) := z_entry rfl (Nat.le_of_ble_eq_true rfl) (fun X C E _ _ _ => wfX2_move C E G r0 x1 x2 x3 r4 h)
def fX2_piecesOf_b28 (G : zH) (k4 : Nat → Int32 → Int32 → Int32 → Option Int32) (r0 : Nat) (x1 : Int32) (x2 : Int32) (x3 : Int32) : Option Int32 :=
    zlet (x3 + (1 : Int32)) fun y1 =>
    k4 r0 x1 x2 y1
set_option maxRecDepth 100000 in
set_option maxHeartbeats 4000000 in
theorem wfX2_piecesOf_b28 {X : zX} {G : zH} {out : Int32} (C : zOK X cX2_piecesOf yX2_piecesOf.cls 4 (some .int) 1 20) (E : zPost X (poI out G)) (k4 : Nat → Int32 → Int32 → Int32 → Option Int32) (hk4 : ∀ (r0 : Nat) (x1 : Int32) (x2 : Int32) (x3 : Int32), k4 r0 x1 x2 x3 = some out → zZ X 4 [(0, .ref r0), (1, .int x1), (2, .int x2), (3, .int x3)] [] G) (r0 : Nat) (x1 : Int32) (x2 : Int32) (x3 : Int32) (h : fX2_piecesOf_b28 G k4 r0 x1 x2 x3 = some out) : zZ X 28 [(0, .ref r0), (1, .int x1), (2, .int x2), (3, .int x3)] [] G := by
  rw [fX2_piecesOf_b28] at h
  obtain ⟨y1, ey1, h⟩ := zlet_eq h
  refine z_iinc (pc := 28) (v := y1) C 3 dX2_piecesOf_28 rfl (by rw [ey1]; rfl) (by decide) (show zput _ _ _ = [(3, .int y1), (0, .ref r0), (1, .int x1), (2, .int x2)] from rfl) ?_
  refine z_goto (pc := 31) C dX2_piecesOf_31 (tgt := 4) (by decide) ?_
  exact z_subL [1, 2, 3, 0] (hk4 r0 x1 x2 y1 h) rfl
def fX2_piecesOf_b4 (G : zH) : Nat → Nat → Int32 → Int32 → Int32 → Option Int32
  | 0, _, _, _, _ => none
  | n + 1, r0, x1, x2, x3 =>
    ob1 (fi G r0 2 2) fun v1 =>
    if v1 ≤ x3 then (some x2) else
    ob1 (frf G r0 2 0) fun qv3 =>
    ob1 (aR G 0 qv3 x3) fun v4 =>
    ob1 (fX6_storeOf v4) fun v5 =>
    if v5 = x1 then (zlet (x2 + (1 : Int32)) fun y7 =>
    fX2_piecesOf_b28 G (fX2_piecesOf_b4 G n) r0 x1 y7 x3) else
    fX2_piecesOf_b28 G (fX2_piecesOf_b4 G n) r0 x1 x2 x3
set_option maxRecDepth 100000 in
set_option maxHeartbeats 4000000 in
theorem wfX2_piecesOf_b4 {X : zX} {G : zH} {out : Int32} (C : zOK X cX2_piecesOf yX2_piecesOf.cls 4 (some .int) 1 20) (E : zPost X (poI out G)) : ∀ (n : Nat) (r0 : Nat) (x1 : Int32) (x2 : Int32) (x3 : Int32) (h : fX2_piecesOf_b4 G n r0 x1 x2 x3 = some out), zZ X 4 [(0, .ref r0), (1, .int x1), (2, .int x2), (3, .int x3)] [] G := by
  intro n
  induction n with
  | zero => intro r0 x1 x2 x3 h; cases h
  | succ n ih =>
    intro r0 x1 x2 x3 h
    rw [fX2_piecesOf_b4] at h
    refine z_iload_n (pc := 4) C 3 dX2_piecesOf_4 rfl rfl ?_
    refine z_aload_n (pc := 5) C 0 dX2_piecesOf_5 rfl rfl ?_
    obtain ⟨v1, ev1, h⟩ := ob1_eq h
    refine z_fi (pc := 6) C dX2_piecesOf_6 fl_X2_31 ev1 ?_
    refine z_ic_ge (pc := 9) C dX2_piecesOf_9 (tgt := 34) (by decide) (fun c2 => ?_) (fun c2 => ?_)
    · rw [if_pos c2] at h
      refine z_iload_n (pc := 34) C 2 dX2_piecesOf_34 rfl rfl ?_
      obtain rfl := Option.some.inj h
      exact z_iret (pc := 35) C E dX2_piecesOf_35 ⟨rfl, rfl⟩
    · rw [if_neg c2] at h
      refine z_aload_n (pc := 12) C 0 dX2_piecesOf_12 rfl rfl ?_
      obtain ⟨qv3, eqv3, h⟩ := ob1_eq h
      refine z_fr (pc := 13) C dX2_piecesOf_13 fl_X2_9 eqv3 ?_
      refine z_iload_n (pc := 16) C 3 dX2_piecesOf_16 rfl rfl ?_
      obtain ⟨v4, ev4, h⟩ := ob1_eq h
      refine z_aR (pc := 17) C dX2_piecesOf_17 ev4 ?_
      obtain ⟨v5, ev5, h⟩ := ob1_eq h
      refine z_callSNi (As := [.int v4]) (rest := []) (pc := 18) C dX2_piecesOf_18 ml_X2_65 (kX6_storeOf _ _ _ _ G v4 _ ev5) rfl rfl (Nat.le_of_ble_eq_true rfl) (by decide) ?_
      refine z_iload_n (pc := 21) C 1 dX2_piecesOf_21 rfl rfl ?_
      refine z_ic_ne (pc := 22) C dX2_piecesOf_22 (tgt := 28) (by decide) (fun c6 => ?_) (fun c6 => ?_)
      · rw [if_neg c6] at h
        exact z_subL [0, 1, 2, 3] (wfX2_piecesOf_b28 C E (fX2_piecesOf_b4 G n) ih r0 x1 x2 x3 h) rfl
      · rw [if_pos c6] at h
        obtain ⟨y7, ey7, h⟩ := zlet_eq h
        refine z_iinc (pc := 25) (v := y7) C 2 dX2_piecesOf_25 rfl (by rw [ey7]; rfl) (by decide) (show zput _ _ _ = [(2, .int y7), (0, .ref r0), (1, .int x1), (3, .int x3)] from rfl) ?_
        exact z_subL [1, 2, 0, 3] (wfX2_piecesOf_b28 C E (fX2_piecesOf_b4 G n) ih r0 x1 y7 x3 h) rfl
def fX2_piecesOf (G : zH) (r0 : Nat) (x1 : Int32) : Option Int32 :=
    fX2_piecesOf_b4 G FU r0 x1 (0 : Int32) (0 : Int32)
set_option maxRecDepth 100000 in
set_option maxHeartbeats 4000000 in
theorem wfX2_piecesOf {X : zX} {G : zH} {out : Int32} (C : zOK X cX2_piecesOf yX2_piecesOf.cls 4 (some .int) 1 20) (E : zPost X (poI out G)) (r0 : Nat) (x1 : Int32) (h : fX2_piecesOf G r0 x1 = some out) : zZ X 0 [(0, .ref r0), (1, .int x1)] [] G := by
  rw [fX2_piecesOf] at h
  refine z_iconst (pc := 0) C dX2_piecesOf_0 (v := (0 : Int32)) (by decide) ?_
  refine z_istore_n (pc := 1) C dX2_piecesOf_1 rfl (by decide) (show zput _ _ _ = [(2, .int (0 : Int32)), (0, .ref r0), (1, .int x1)] from rfl) ?_
  refine z_iconst (pc := 2) C dX2_piecesOf_2 (v := (0 : Int32)) (by decide) ?_
  refine z_istore_n (pc := 3) C dX2_piecesOf_3 rfl (by decide) (show zput _ _ _ = [(3, .int (0 : Int32)), (2, .int (0 : Int32)), (0, .ref r0), (1, .int x1)] from rfl) ?_
  exact z_subL [2, 3, 1, 0] (wfX2_piecesOf_b4 C E FU r0 x1 (0 : Int32) (0 : Int32) h) rfl
theorem kX2_piecesOf (l : Launch) (D : va_G) (cA : Nat → ClassId) (b : Nat) (G : zH) (r0 : Nat) (x1 : Int32) (out : Int32) (h : fX2_piecesOf G r0 x1 = some out) : zM l D cA b yX2_piecesOf cX2_piecesOf 4 (some .int) 1 20 [.ref r0, .int x1] G (poI out G) := z_entry rfl (Nat.le_of_ble_eq_true rfl) (fun X C E _ _ _ => wfX2_piecesOf C E r0 x1 h)
def fX2_beginOf_b4 (G : zH) : Nat → Nat → Int32 → Int32 → Int32 → Option Int32
  | 0, _, _, _, _ => none
  | n + 1, r0, x1, x2, x3 =>
    if x1 ≤ x3 then (some x2) else
    ob1 (fi G r0 2 2) fun v2 =>
    if v2 ≤ x3 then (some x2) else
    ob1 (frf G r0 2 1) fun qv4 =>
    ob1 (aR G 0 qv4 x3) fun v5 =>
    zlet ((x2 + v5)) fun y6 =>
    zlet (x3 + (1 : Int32)) fun y7 =>
    (fX2_beginOf_b4 G n) r0 x1 y6 y7
set_option maxRecDepth 100000 in
set_option maxHeartbeats 4000000 in
theorem wfX2_beginOf_b4 {X : zX} {G : zH} {out : Int32} (C : zOK X cX2_beginOf yX2_beginOf.cls 4 (some .int) 0 0) (E : zPost X (poI out G)) : ∀ (n : Nat) (r0 : Nat) (x1 : Int32) (x2 : Int32) (x3 : Int32) (h : fX2_beginOf_b4 G n r0 x1 x2 x3 = some out), zZ X 4 [(0, .ref r0), (1, .int x1), (2, .int x2), (3, .int x3)] [] G := by
  intro n
  induction n with
  | zero => intro r0 x1 x2 x3 h; cases h
  | succ n ih =>
    intro r0 x1 x2 x3 h
    rw [fX2_beginOf_b4] at h
    refine z_iload_n (pc := 4) C 3 dX2_beginOf_4 rfl rfl ?_
    refine z_iload_n (pc := 5) C 1 dX2_beginOf_5 rfl rfl ?_
    refine z_ic_ge (pc := 6) C dX2_beginOf_6 (tgt := 32) (by decide) (fun c1 => ?_) (fun c1 => ?_)
    · rw [if_pos c1] at h
      refine z_iload_n (pc := 32) C 2 dX2_beginOf_32 rfl rfl ?_
      obtain rfl := Option.some.inj h
      exact z_iret (pc := 33) C E dX2_beginOf_33 ⟨rfl, rfl⟩
    · rw [if_neg c1] at h
      refine z_iload_n (pc := 9) C 3 dX2_beginOf_9 rfl rfl ?_
      refine z_aload_n (pc := 10) C 0 dX2_beginOf_10 rfl rfl ?_
      obtain ⟨v2, ev2, h⟩ := ob1_eq h
      refine z_fi (pc := 11) C dX2_beginOf_11 fl_X2_31 ev2 ?_
      refine z_ic_ge (pc := 14) C dX2_beginOf_14 (tgt := 32) (by decide) (fun c3 => ?_) (fun c3 => ?_)
      · rw [if_pos c3] at h
        refine z_iload_n (pc := 32) C 2 dX2_beginOf_32 rfl rfl ?_
        obtain rfl := Option.some.inj h
        exact z_iret (pc := 33) C E dX2_beginOf_33 ⟨rfl, rfl⟩
      · rw [if_neg c3] at h
        refine z_iload_n (pc := 17) C 2 dX2_beginOf_17 rfl rfl ?_
        refine z_aload_n (pc := 18) C 0 dX2_beginOf_18 rfl rfl ?_
        obtain ⟨qv4, eqv4, h⟩ := ob1_eq h
        refine z_fr (pc := 19) C dX2_beginOf_19 fl_X2_15 eqv4 ?_
        refine z_iload_n (pc := 22) C 3 dX2_beginOf_22 rfl rfl ?_
        obtain ⟨v5, ev5, h⟩ := ob1_eq h
        refine z_aR (pc := 23) C dX2_beginOf_23 ev5 ?_
        refine z_iadd (pc := 24) C dX2_beginOf_24 ?_
        obtain ⟨y6, ey6, h⟩ := zlet_eq h
        refine z_topi ey6 ?_
        refine z_istore_n (pc := 25) C dX2_beginOf_25 rfl (by decide) (show zput _ _ _ = [(2, .int y6), (0, .ref r0), (1, .int x1), (3, .int x3)] from rfl) ?_
        obtain ⟨y7, ey7, h⟩ := zlet_eq h
        refine z_iinc (pc := 26) (v := y7) C 3 dX2_beginOf_26 rfl (by rw [ey7]; rfl) (by decide) (show zput _ _ _ = [(3, .int y7), (2, .int y6), (0, .ref r0), (1, .int x1)] from rfl) ?_
        refine z_goto (pc := 29) C dX2_beginOf_29 (tgt := 4) (by decide) ?_
        exact z_subL [2, 3, 1, 0] (ih r0 x1 y6 y7 h) rfl
def fX2_beginOf (G : zH) (r0 : Nat) (x1 : Int32) : Option Int32 :=
    fX2_beginOf_b4 G FU r0 x1 (0 : Int32) (0 : Int32)
set_option maxRecDepth 100000 in
set_option maxHeartbeats 4000000 in
theorem wfX2_beginOf {X : zX} {G : zH} {out : Int32} (C : zOK X cX2_beginOf yX2_beginOf.cls 4 (some .int) 0 0) (E : zPost X (poI out G)) (r0 : Nat) (x1 : Int32) (h : fX2_beginOf G r0 x1 = some out) : zZ X 0 [(0, .ref r0), (1, .int x1)] [] G := by
  rw [fX2_beginOf] at h
  refine z_iconst (pc := 0) C dX2_beginOf_0 (v := (0 : Int32)) (by decide) ?_
  refine z_istore_n (pc := 1) C dX2_beginOf_1 rfl (by decide) (show zput _ _ _ = [(2, .int (0 : Int32)), (0, .ref r0), (1, .int x1)] from rfl) ?_
  refine z_iconst (pc := 2) C dX2_beginOf_2 (v := (0 : Int32)) (by decide) ?_
  refine z_istore_n (pc := 3) C dX2_beginOf_3 rfl (by decide) (show zput _ _ _ = [(3, .int (0 : Int32)), (2, .int (0 : Int32)), (0, .ref r0), (1, .int x1)] from rfl) ?_
  exact z_subL [2, 3, 1, 0] (wfX2_beginOf_b4 C E FU r0 x1 (0 : Int32) (0 : Int32) h) rfl
theorem kX2_beginOf (l : Launch) (D : va_G) (cA : Nat → ClassId) (b : Nat) (G : zH) (r0 : Nat) (x1 : Int32) (out : Int32) (h : fX2_beginOf G r0 x1 = some out) : zM l D cA b yX2_beginOf cX2_beginOf 4 (some .int) 0 0 [.ref r0, .int x1] G (poI out G) := z_entry rfl (Nat.le_of_ble_eq_true rfl) (fun X C E _ _ _ => wfX2_beginOf C E r0 x1 h)
def fX2_goOn (G : zH) (r0 : Nat) (x1 : Int32) (x2 : Int32) : Option Int32 :=
    ob1 (frf G r0 2 0) fun qv1 =>
    ob1 (aR G 0 qv1 x1) fun v2 =>
    ob1 (fX6_storeOf v2) fun v3 =>
    ob1 (frf G r0 2 0) fun qv4 =>
    ob1 (aR G 0 qv4 x2) fun v5 =>
    ob1 (fX6_storeOf v5) fun v6 =>
    if v3 = v6 then (ob1 (frf G r0 2 0) fun qv8 =>
    ob1 (aR G 0 qv8 x1) fun v9 =>
    ob1 (frf G r0 2 1) fun qv10 =>
    ob1 (aR G 0 qv10 x1) fun v11 =>
    ob1 (frf G r0 2 0) fun qv12 =>
    ob1 (aR G 0 qv12 x2) fun v13 =>
    if (v9 + v11) = v13 then (some (1 : Int32)) else
    some (0 : Int32)) else
    some (0 : Int32)
set_option maxRecDepth 100000 in
set_option maxHeartbeats 4000000 in
theorem wfX2_goOn {X : zX} {G : zH} {out : Int32} (C : zOK X cX2_goOn yX2_goOn.cls 3 (some .boolean) 1 20) (E : zPost X (poI out G)) (r0 : Nat) (x1 : Int32) (x2 : Int32) (h : fX2_goOn G r0 x1 x2 = some out) : zZ X 0 [(0, .ref r0), (1, .int x1), (2, .int x2)] [] G := by
  rw [fX2_goOn] at h
  refine z_aload_n (pc := 0) C 0 dX2_goOn_0 rfl rfl ?_
  obtain ⟨qv1, eqv1, h⟩ := ob1_eq h
  refine z_fr (pc := 1) C dX2_goOn_1 fl_X2_9 eqv1 ?_
  refine z_iload_n (pc := 4) C 1 dX2_goOn_4 rfl rfl ?_
  obtain ⟨v2, ev2, h⟩ := ob1_eq h
  refine z_aR (pc := 5) C dX2_goOn_5 ev2 ?_
  obtain ⟨v3, ev3, h⟩ := ob1_eq h
  refine z_callSNi (As := [.int v2]) (rest := []) (pc := 6) C dX2_goOn_6 ml_X2_65 (kX6_storeOf _ _ _ _ G v2 _ ev3) rfl rfl (Nat.le_of_ble_eq_true rfl) (by decide) ?_
  refine z_aload_n (pc := 9) C 0 dX2_goOn_9 rfl rfl ?_
  obtain ⟨qv4, eqv4, h⟩ := ob1_eq h
  refine z_fr (pc := 10) C dX2_goOn_10 fl_X2_9 eqv4 ?_
  refine z_iload_n (pc := 13) C 2 dX2_goOn_13 rfl rfl ?_
  obtain ⟨v5, ev5, h⟩ := ob1_eq h
  refine z_aR (pc := 14) C dX2_goOn_14 ev5 ?_
  obtain ⟨v6, ev6, h⟩ := ob1_eq h
  refine z_callSNi (As := [.int v5]) (rest := [.int v3]) (pc := 15) C dX2_goOn_15 ml_X2_65 (kX6_storeOf _ _ _ _ G v5 _ ev6) rfl rfl (Nat.le_of_ble_eq_true rfl) (by decide) ?_
  refine z_ic_ne (pc := 18) C dX2_goOn_18 (tgt := 47) (by decide) (fun c7 => ?_) (fun c7 => ?_)
  · rw [if_neg c7] at h
    refine z_iconst (pc := 47) C dX2_goOn_47 (v := (0 : Int32)) (by decide) ?_
    obtain rfl := Option.some.inj h
    exact z_zret (pc := 48) C E dX2_goOn_48 rfl ⟨rfl, rfl⟩
  · rw [if_pos c7] at h
    refine z_aload_n (pc := 21) C 0 dX2_goOn_21 rfl rfl ?_
    obtain ⟨qv8, eqv8, h⟩ := ob1_eq h
    refine z_fr (pc := 22) C dX2_goOn_22 fl_X2_9 eqv8 ?_
    refine z_iload_n (pc := 25) C 1 dX2_goOn_25 rfl rfl ?_
    obtain ⟨v9, ev9, h⟩ := ob1_eq h
    refine z_aR (pc := 26) C dX2_goOn_26 ev9 ?_
    refine z_aload_n (pc := 27) C 0 dX2_goOn_27 rfl rfl ?_
    obtain ⟨qv10, eqv10, h⟩ := ob1_eq h
    refine z_fr (pc := 28) C dX2_goOn_28 fl_X2_15 eqv10 ?_
    refine z_iload_n (pc := 31) C 1 dX2_goOn_31 rfl rfl ?_
    obtain ⟨v11, ev11, h⟩ := ob1_eq h
    refine z_aR (pc := 32) C dX2_goOn_32 ev11 ?_
    refine z_iadd (pc := 33) C dX2_goOn_33 ?_
    refine z_aload_n (pc := 34) C 0 dX2_goOn_34 rfl rfl ?_
    obtain ⟨qv12, eqv12, h⟩ := ob1_eq h
    refine z_fr (pc := 35) C dX2_goOn_35 fl_X2_9 eqv12 ?_
    refine z_iload_n (pc := 38) C 2 dX2_goOn_38 rfl rfl ?_
    obtain ⟨v13, ev13, h⟩ := ob1_eq h
    refine z_aR (pc := 39) C dX2_goOn_39 ev13 ?_
    refine z_ic_ne (pc := 40) C dX2_goOn_40 (tgt := 47) (by decide) (fun c14 => ?_) (fun c14 => ?_)
    · rw [if_neg c14] at h
      refine z_iconst (pc := 47) C dX2_goOn_47 (v := (0 : Int32)) (by decide) ?_
      obtain rfl := Option.some.inj h
      exact z_zret (pc := 48) C E dX2_goOn_48 rfl ⟨rfl, rfl⟩
    · rw [if_pos c14] at h
      refine z_iconst (pc := 43) C dX2_goOn_43 (v := (1 : Int32)) (by decide) ?_
      refine z_goto (pc := 44) C dX2_goOn_44 (tgt := 48) (by decide) ?_
      obtain rfl := Option.some.inj h
      exact z_zret (pc := 48) C E dX2_goOn_48 rfl ⟨rfl, rfl⟩
theorem kX2_goOn (l : Launch) (D : va_G) (cA : Nat → ClassId) (b : Nat) (G : zH) (r0 : Nat) (x1 : Int32) (x2 : Int32) (out : Int32) (h : fX2_goOn G r0 x1 x2 = some out) : zM l D cA b yX2_goOn cX2_goOn 3 (some .boolean) 1 20 [.ref r0, .int x1, .int x2] G (poI out G) := z_entry rfl (Nat.le_of_ble_eq_true rfl) (fun X C E _ _ _ => wfX2_goOn C E r0 x1 x2 h)
def fX2_bordersToHeal_b26 (G : zH) (k4 : Nat → Int32 → Int32 → Option Int32) (r0 : Nat) (x1 : Int32) (x2 : Int32) : Option Int32 :=
    zlet (x2 + (1 : Int32)) fun y1 =>
    k4 r0 x1 y1
set_option maxRecDepth 100000 in
set_option maxHeartbeats 4000000 in
theorem wfX2_bordersToHeal_b26 {X : zX} {G : zH} {out : Int32} (C : zOK X cX2_bordersToHeal yX2_bordersToHeal.cls 3 (some .int) 2 42) (E : zPost X (poI out G)) (k4 : Nat → Int32 → Int32 → Option Int32) (hk4 : ∀ (r0 : Nat) (x1 : Int32) (x2 : Int32), k4 r0 x1 x2 = some out → zZ X 4 [(0, .ref r0), (1, .int x1), (2, .int x2)] [] G) (r0 : Nat) (x1 : Int32) (x2 : Int32) (h : fX2_bordersToHeal_b26 G k4 r0 x1 x2 = some out) : zZ X 26 [(0, .ref r0), (1, .int x1), (2, .int x2)] [] G := by
  rw [fX2_bordersToHeal_b26] at h
  obtain ⟨y1, ey1, h⟩ := zlet_eq h
  refine z_iinc (pc := 26) (v := y1) C 2 dX2_bordersToHeal_26 rfl (by rw [ey1]; rfl) (by decide) (show zput _ _ _ = [(2, .int y1), (0, .ref r0), (1, .int x1)] from rfl) ?_
  refine z_goto (pc := 29) C dX2_bordersToHeal_29 (tgt := 4) (by decide) ?_
  exact z_subL [1, 2, 0] (hk4 r0 x1 y1 h) rfl
def fX2_bordersToHeal_b4 (G : zH) : Nat → Nat → Int32 → Int32 → Option Int32
  | 0, _, _, _ => none
  | n + 1, r0, x1, x2 =>
    ob1 (fi G r0 2 2) fun v1 =>
    if v1 ≤ x2 then (some x1) else
    ob1 (isO G r0 2) fun u3 =>
    ob1 (fX2_goOn G r0 (x2 - (1 : Int32)) x2) fun v5 =>
    if v5 = 0 then (fX2_bordersToHeal_b26 G (fX2_bordersToHeal_b4 G n) r0 x1 x2) else
    zlet (x1 + (1 : Int32)) fun y7 =>
    fX2_bordersToHeal_b26 G (fX2_bordersToHeal_b4 G n) r0 y7 x2
set_option maxRecDepth 100000 in
set_option maxHeartbeats 4000000 in
theorem wfX2_bordersToHeal_b4 {X : zX} {G : zH} {out : Int32} (C : zOK X cX2_bordersToHeal yX2_bordersToHeal.cls 3 (some .int) 2 42) (E : zPost X (poI out G)) : ∀ (n : Nat) (r0 : Nat) (x1 : Int32) (x2 : Int32) (h : fX2_bordersToHeal_b4 G n r0 x1 x2 = some out), zZ X 4 [(0, .ref r0), (1, .int x1), (2, .int x2)] [] G := by
  intro n
  induction n with
  | zero => intro r0 x1 x2 h; cases h
  | succ n ih =>
    intro r0 x1 x2 h
    rw [fX2_bordersToHeal_b4] at h
    refine z_iload_n (pc := 4) C 2 dX2_bordersToHeal_4 rfl rfl ?_
    refine z_aload_n (pc := 5) C 0 dX2_bordersToHeal_5 rfl rfl ?_
    obtain ⟨v1, ev1, h⟩ := ob1_eq h
    refine z_fi (pc := 6) C dX2_bordersToHeal_6 fl_X2_31 ev1 ?_
    refine z_ic_ge (pc := 9) C dX2_bordersToHeal_9 (tgt := 32) (by decide) (fun c2 => ?_) (fun c2 => ?_)
    · rw [if_pos c2] at h
      refine z_iload_n (pc := 32) C 1 dX2_bordersToHeal_32 rfl rfl ?_
      obtain rfl := Option.some.inj h
      exact z_iret (pc := 33) C E dX2_bordersToHeal_33 ⟨rfl, rfl⟩
    · rw [if_neg c2] at h
      refine z_aload_n (pc := 12) C 0 dX2_bordersToHeal_12 rfl rfl ?_
      refine z_iload_n (pc := 13) C 2 dX2_bordersToHeal_13 rfl rfl ?_
      refine z_iconst (pc := 14) C dX2_bordersToHeal_14 (v := (1 : Int32)) (by decide) ?_
      refine z_isub (pc := 15) C dX2_bordersToHeal_15 ?_
      refine z_iload_n (pc := 16) C 2 dX2_bordersToHeal_16 rfl rfl ?_
      obtain ⟨u3, eu3, h⟩ := ob1_eq h
      obtain ⟨w4, ew4⟩ := isO_eq eu3
      obtain ⟨v5, ev5, h⟩ := ob1_eq h
      refine z_callVi (h := r0) (As := [.int (x2 - (1 : Int32)), .int x2]) (rest := []) (pc := 17) C dX2_bordersToHeal_17 ml_X2_98 (kX2_goOn _ _ _ _ G r0 (x2 - (1 : Int32)) x2 v5 ev5) ew4 rfl rfl rfl (Nat.le_of_ble_eq_true rfl) (by decide) ?_
      refine z_if_eq (pc := 20) C dX2_bordersToHeal_20 (tgt := 26) (by decide) (fun c6 => ?_) (fun c6 => ?_)
      · rw [if_pos c6] at h
        exact z_subL [0, 1, 2] (wfX2_bordersToHeal_b26 C E (fX2_bordersToHeal_b4 G n) ih r0 x1 x2 h) rfl
      · rw [if_neg c6] at h
        obtain ⟨y7, ey7, h⟩ := zlet_eq h
        refine z_iinc (pc := 23) (v := y7) C 1 dX2_bordersToHeal_23 rfl (by rw [ey7]; rfl) (by decide) (show zput _ _ _ = [(1, .int y7), (0, .ref r0), (2, .int x2)] from rfl) ?_
        exact z_subL [1, 0, 2] (wfX2_bordersToHeal_b26 C E (fX2_bordersToHeal_b4 G n) ih r0 y7 x2 h) rfl
def fX2_bordersToHeal (G : zH) (r0 : Nat) : Option Int32 :=
    fX2_bordersToHeal_b4 G FU r0 (0 : Int32) (1 : Int32)
set_option maxRecDepth 100000 in
set_option maxHeartbeats 4000000 in
theorem wfX2_bordersToHeal {X : zX} {G : zH} {out : Int32} (C : zOK X cX2_bordersToHeal yX2_bordersToHeal.cls 3 (some .int) 2 42) (E : zPost X (poI out G)) (r0 : Nat) (h : fX2_bordersToHeal G r0 = some out) : zZ X 0 [(0, .ref r0)] [] G := by
  rw [fX2_bordersToHeal] at h
  refine z_iconst (pc := 0) C dX2_bordersToHeal_0 (v := (0 : Int32)) (by decide) ?_
  refine z_istore_n (pc := 1) C dX2_bordersToHeal_1 rfl (by decide) (show zput _ _ _ = [(1, .int (0 : Int32)), (0, .ref r0)] from rfl) ?_
  refine z_iconst (pc := 2) C dX2_bordersToHeal_2 (v := (1 : Int32)) (by decide) ?_
  refine z_istore_n (pc := 3) C dX2_bordersToHeal_3 rfl (by decide) (show zput _ _ _ = [(2, .int (1 : Int32)), (1, .int (0 : Int32)), (0, .ref r0)] from rfl) ?_
  exact z_subL [2, 1, 0] (wfX2_bordersToHeal_b4 C E FU r0 (0 : Int32) (1 : Int32) h) rfl
theorem kX2_bordersToHeal (l : Launch) (D : va_G) (cA : Nat → ClassId) (b : Nat) (G : zH) (r0 : Nat) (out : Int32) (h : fX2_bordersToHeal G r0 = some out) : zM l D cA b yX2_bordersToHeal cX2_bordersToHeal 3 (some .int) 2 42 [.ref r0] G (poI out G) := z_entry rfl (Nat.le_of_ble_eq_true rfl) (fun X C E _ _ _ => wfX2_bordersToHeal C E r0 h)
def fX2_joinPieces_b80 (G : zH) (r0 : Nat) (x1 : Int32) : Option (Int32 × zH) :=
    ob1 (fi G r0 2 2) fun v1 =>
    zlet ((v1 - x1)) fun y2 =>
    ob1 (fset G r0 2 2 (.int x1)) fun G3 =>
    some (y2, G3)
set_option maxRecDepth 100000 in
set_option maxHeartbeats 4000000 in
theorem wfX2_joinPieces_b80 {X : zX} {out : Int32 × zH} (C : zOK X cX2_joinPieces yX2_joinPieces.cls 3 (some .int) 2 42) (E : zPost X (poI out.1 out.2)) (G : zH) (r0 : Nat) (x1 : Int32) (h : fX2_joinPieces_b80 G r0 x1 = some out) : zZ X 80 [(0, .ref r0), (1, .int x1)] [] G := by
  rw [fX2_joinPieces_b80] at h
  refine z_aload_n (pc := 80) C 0 dX2_joinPieces_80 rfl rfl ?_
  obtain ⟨v1, ev1, h⟩ := ob1_eq h
  refine z_fi (pc := 81) C dX2_joinPieces_81 fl_X2_31 ev1 ?_
  refine z_iload_n (pc := 84) C 1 dX2_joinPieces_84 rfl rfl ?_
  refine z_isub (pc := 85) C dX2_joinPieces_85 ?_
  obtain ⟨y2, ey2, h⟩ := zlet_eq h
  refine z_topi ey2 ?_
  refine z_istore_n (pc := 86) C dX2_joinPieces_86 rfl (by decide) (show zput _ _ _ = [(2, .int y2), (0, .ref r0), (1, .int x1)] from rfl) ?_
  refine z_aload_n (pc := 87) C 1 dX2_joinPieces_87 rfl rfl ?_
  refine z_iload_n (pc := 88) C 2 dX2_joinPieces_88 rfl rfl ?_
  obtain ⟨G3, eG3, h⟩ := ob1_eq h
  refine z_si (pc := 89) C dX2_joinPieces_89 fl_X2_31w eG3 ?_
  refine z_iload_n (pc := 92) C 0 dX2_joinPieces_92 rfl rfl ?_
  obtain rfl := Option.some.inj h
  exact z_iret (pc := 93) C E dX2_joinPieces_93 ⟨rfl, rfl⟩
def fX2_joinPieces_b74 (k4 : zH → Nat → Int32 → Int32 → Option (Int32 × zH)) (G : zH) (r0 : Nat) (x1 : Int32) (x2 : Int32) : Option (Int32 × zH) :=
    zlet (x2 + (1 : Int32)) fun y1 =>
    k4 G r0 x1 y1
set_option maxRecDepth 100000 in
set_option maxHeartbeats 4000000 in
theorem wfX2_joinPieces_b74 {X : zX} {out : Int32 × zH} (C : zOK X cX2_joinPieces yX2_joinPieces.cls 3 (some .int) 2 42) (E : zPost X (poI out.1 out.2)) (k4 : zH → Nat → Int32 → Int32 → Option (Int32 × zH)) (hk4 : ∀ (G : zH) (r0 : Nat) (x1 : Int32) (x2 : Int32), k4 G r0 x1 x2 = some out → zZ X 4 [(0, .ref r0), (1, .int x1), (2, .int x2)] [] G) (G : zH) (r0 : Nat) (x1 : Int32) (x2 : Int32) (h : fX2_joinPieces_b74 k4 G r0 x1 x2 = some out) : zZ X 74 [(0, .ref r0), (1, .int x1), (2, .int x2)] [] G := by
  rw [fX2_joinPieces_b74] at h
  obtain ⟨y1, ey1, h⟩ := zlet_eq h
  refine z_iinc (pc := 74) (v := y1) C 2 dX2_joinPieces_74 rfl (by rw [ey1]; rfl) (by decide) (show zput _ _ _ = [(2, .int y1), (0, .ref r0), (1, .int x1)] from rfl) ?_
  refine z_goto (pc := 77) C dX2_joinPieces_77 (tgt := 4) (by decide) ?_
  exact z_subL [1, 2, 0] (hk4 G r0 x1 y1 h) rfl
def fX2_joinPieces_b47 (k4 : zH → Nat → Int32 → Int32 → Option (Int32 × zH)) (G : zH) (r0 : Nat) (x1 : Int32) (x2 : Int32) : Option (Int32 × zH) :=
    ob1 (frf G r0 2 0) fun qv1 =>
    ob1 (frf G r0 2 0) fun qv2 =>
    ob1 (aR G 0 qv2 x2) fun v3 =>
    ob1 (aW G 0 qv1 x1 v3) fun G4 =>
    ob1 (frf G4 r0 2 1) fun qv5 =>
    ob1 (frf G4 r0 2 1) fun qv6 =>
    ob1 (aR G4 0 qv6 x2) fun v7 =>
    ob1 (aW G4 0 qv5 x1 v7) fun G8 =>
    zlet (x1 + (1 : Int32)) fun y9 =>
    fX2_joinPieces_b74 k4 G8 r0 y9 x2
set_option maxRecDepth 100000 in
set_option maxHeartbeats 4000000 in
theorem wfX2_joinPieces_b47 {X : zX} {out : Int32 × zH} (C : zOK X cX2_joinPieces yX2_joinPieces.cls 3 (some .int) 2 42) (E : zPost X (poI out.1 out.2)) (k4 : zH → Nat → Int32 → Int32 → Option (Int32 × zH)) (hk4 : ∀ (G : zH) (r0 : Nat) (x1 : Int32) (x2 : Int32), k4 G r0 x1 x2 = some out → zZ X 4 [(0, .ref r0), (1, .int x1), (2, .int x2)] [] G) (G : zH) (r0 : Nat) (x1 : Int32) (x2 : Int32) (h : fX2_joinPieces_b47 k4 G r0 x1 x2 = some out) : zZ X 47 [(0, .ref r0), (1, .int x1), (2, .int x2)] [] G := by
  rw [fX2_joinPieces_b47] at h
  refine z_aload_n (pc := 47) C 0 dX2_joinPieces_47 rfl rfl ?_
  obtain ⟨qv1, eqv1, h⟩ := ob1_eq h
  refine z_fr (pc := 48) C dX2_joinPieces_48 fl_X2_9 eqv1 ?_
  refine z_iload_n (pc := 51) C 1 dX2_joinPieces_51 rfl rfl ?_
  refine z_aload_n (pc := 52) C 0 dX2_joinPieces_52 rfl rfl ?_
  obtain ⟨qv2, eqv2, h⟩ := ob1_eq h
  refine z_fr (pc := 53) C dX2_joinPieces_53 fl_X2_9 eqv2 ?_
  refine z_iload_n (pc := 56) C 2 dX2_joinPieces_56 rfl rfl ?_
  obtain ⟨v3, ev3, h⟩ := ob1_eq h
  refine z_aR (pc := 57) C dX2_joinPieces_57 ev3 ?_
  obtain ⟨G4, eG4, h⟩ := ob1_eq h
  refine z_aW (pc := 58) C dX2_joinPieces_58 eG4 ?_
  refine z_aload_n (pc := 59) C 0 dX2_joinPieces_59 rfl rfl ?_
  obtain ⟨qv5, eqv5, h⟩ := ob1_eq h
  refine z_fr (pc := 60) C dX2_joinPieces_60 fl_X2_15 eqv5 ?_
  refine z_iload_n (pc := 63) C 1 dX2_joinPieces_63 rfl rfl ?_
  refine z_aload_n (pc := 64) C 0 dX2_joinPieces_64 rfl rfl ?_
  obtain ⟨qv6, eqv6, h⟩ := ob1_eq h
  refine z_fr (pc := 65) C dX2_joinPieces_65 fl_X2_15 eqv6 ?_
  refine z_iload_n (pc := 68) C 2 dX2_joinPieces_68 rfl rfl ?_
  obtain ⟨v7, ev7, h⟩ := ob1_eq h
  refine z_aR (pc := 69) C dX2_joinPieces_69 ev7 ?_
  obtain ⟨G8, eG8, h⟩ := ob1_eq h
  refine z_aW (pc := 70) C dX2_joinPieces_70 eG8 ?_
  obtain ⟨y9, ey9, h⟩ := zlet_eq h
  refine z_iinc (pc := 71) (v := y9) C 1 dX2_joinPieces_71 rfl (by rw [ey9]; rfl) (by decide) (show zput _ _ _ = [(1, .int y9), (0, .ref r0), (2, .int x2)] from rfl) ?_
  exact z_subL [1, 0, 2] (wfX2_joinPieces_b74 C E k4 hk4 G8 r0 y9 x2 h) rfl
def fX2_joinPieces_b4 : Nat → zH → Nat → Int32 → Int32 → Option (Int32 × zH)
  | 0, _, _, _, _ => none
  | n + 1, G, r0, x1, x2 =>
    ob1 (fi G r0 2 2) fun v1 =>
    if v1 ≤ x2 then (fX2_joinPieces_b80 G r0 x1) else
    if x1 ≤ 0 then (fX2_joinPieces_b47 (fX2_joinPieces_b4 n) G r0 x1 x2) else
    ob1 (isO G r0 2) fun u4 =>
    ob1 (fX2_goOn G r0 (x1 - (1 : Int32)) x2) fun v6 =>
    if v6 = 0 then (fX2_joinPieces_b47 (fX2_joinPieces_b4 n) G r0 x1 x2) else
    ob1 (frf G r0 2 1) fun qv8 =>
    ob1 (aR G 0 qv8 (x1 - (1 : Int32))) fun v9 =>
    ob1 (frf G r0 2 1) fun qv10 =>
    ob1 (aR G 0 qv10 x2) fun v11 =>
    ob1 (aW G 0 qv8 (x1 - (1 : Int32)) (v9 + v11)) fun G12 =>
    fX2_joinPieces_b74 (fX2_joinPieces_b4 n) G12 r0 x1 x2
set_option maxRecDepth 100000 in
set_option maxHeartbeats 4000000 in
theorem wfX2_joinPieces_b4 {X : zX} {out : Int32 × zH} (C : zOK X cX2_joinPieces yX2_joinPieces.cls 3 (some .int) 2 42) (E : zPost X (poI out.1 out.2)) : ∀ (n : Nat) (G : zH) (r0 : Nat) (x1 : Int32) (x2 : Int32) (h : fX2_joinPieces_b4 n G r0 x1 x2 = some out), zZ X 4 [(0, .ref r0), (1, .int x1), (2, .int x2)] [] G := by
  intro n
  induction n with
  | zero => intro G r0 x1 x2 h; cases h
  | succ n ih =>
    intro G r0 x1 x2 h
    rw [fX2_joinPieces_b4] at h
    refine z_iload_n (pc := 4) C 2 dX2_joinPieces_4 rfl rfl ?_
    refine z_aload_n (pc := 5) C 0 dX2_joinPieces_5 rfl rfl ?_
    obtain ⟨v1, ev1, h⟩ := ob1_eq h
    refine z_fi (pc := 6) C dX2_joinPieces_6 fl_X2_31 ev1 ?_
    refine z_ic_ge (pc := 9) C dX2_joinPieces_9 (tgt := 80) (by decide) (fun c2 => ?_) (fun c2 => ?_)
    · rw [if_pos c2] at h
      exact z_subL [0, 1] (wfX2_joinPieces_b80 C E G r0 x1 h) rfl
    · rw [if_neg c2] at h
      refine z_iload_n (pc := 12) C 1 dX2_joinPieces_12 rfl rfl ?_
      refine z_if_le (pc := 13) C dX2_joinPieces_13 (tgt := 47) (by decide) (fun c3 => ?_) (fun c3 => ?_)
      · rw [if_pos c3] at h
        exact z_subL [0, 1, 2] (wfX2_joinPieces_b47 C E (fX2_joinPieces_b4 n) ih G r0 x1 x2 h) rfl
      · rw [if_neg c3] at h
        refine z_aload_n (pc := 16) C 0 dX2_joinPieces_16 rfl rfl ?_
        refine z_iload_n (pc := 17) C 1 dX2_joinPieces_17 rfl rfl ?_
        refine z_iconst (pc := 18) C dX2_joinPieces_18 (v := (1 : Int32)) (by decide) ?_
        refine z_isub (pc := 19) C dX2_joinPieces_19 ?_
        refine z_iload_n (pc := 20) C 2 dX2_joinPieces_20 rfl rfl ?_
        obtain ⟨u4, eu4, h⟩ := ob1_eq h
        obtain ⟨w5, ew5⟩ := isO_eq eu4
        obtain ⟨v6, ev6, h⟩ := ob1_eq h
        refine z_callVi (h := r0) (As := [.int (x1 - (1 : Int32)), .int x2]) (rest := []) (pc := 21) C dX2_joinPieces_21 ml_X2_98 (kX2_goOn _ _ _ _ G r0 (x1 - (1 : Int32)) x2 v6 ev6) ew5 rfl rfl rfl (Nat.le_of_ble_eq_true rfl) (by decide) ?_
        refine z_if_eq (pc := 24) C dX2_joinPieces_24 (tgt := 47) (by decide) (fun c7 => ?_) (fun c7 => ?_)
        · rw [if_pos c7] at h
          exact z_subL [0, 1, 2] (wfX2_joinPieces_b47 C E (fX2_joinPieces_b4 n) ih G r0 x1 x2 h) rfl
        · rw [if_neg c7] at h
          refine z_aload_n (pc := 27) C 0 dX2_joinPieces_27 rfl rfl ?_
          obtain ⟨qv8, eqv8, h⟩ := ob1_eq h
          refine z_fr (pc := 28) C dX2_joinPieces_28 fl_X2_15 eqv8 ?_
          refine z_iload_n (pc := 31) C 1 dX2_joinPieces_31 rfl rfl ?_
          refine z_iconst (pc := 32) C dX2_joinPieces_32 (v := (1 : Int32)) (by decide) ?_
          refine z_isub (pc := 33) C dX2_joinPieces_33 ?_
          refine z_dup2 (pc := 34) C dX2_joinPieces_34 rfl rfl ?_
          obtain ⟨v9, ev9, h⟩ := ob1_eq h
          refine z_aR (pc := 35) C dX2_joinPieces_35 ev9 ?_
          refine z_aload_n (pc := 36) C 0 dX2_joinPieces_36 rfl rfl ?_
          obtain ⟨qv10, eqv10, h⟩ := ob1_eq h
          refine z_fr (pc := 37) C dX2_joinPieces_37 fl_X2_15 eqv10 ?_
          refine z_iload_n (pc := 40) C 2 dX2_joinPieces_40 rfl rfl ?_
          obtain ⟨v11, ev11, h⟩ := ob1_eq h
          refine z_aR (pc := 41) C dX2_joinPieces_41 ev11 ?_
          refine z_iadd (pc := 42) C dX2_joinPieces_42 ?_
          obtain ⟨G12, eG12, h⟩ := ob1_eq h
          refine z_aW (pc := 43) C dX2_joinPieces_43 eG12 ?_
          refine z_goto (pc := 44) C dX2_joinPieces_44 (tgt := 74) (by decide) ?_
          exact z_subL [0, 1, 2] (wfX2_joinPieces_b74 C E (fX2_joinPieces_b4 n) ih G12 r0 x1 x2 h) rfl
def fX2_joinPieces (G : zH) (r0 : Nat) : Option (Int32 × zH) :=
    fX2_joinPieces_b4 FU G r0 (0 : Int32) (0 : Int32)
set_option maxRecDepth 100000 in
set_option maxHeartbeats 4000000 in
theorem wfX2_joinPieces {X : zX} {out : Int32 × zH} (C : zOK X cX2_joinPieces yX2_joinPieces.cls 3 (some .int) 2 42) (E : zPost X (poI out.1 out.2)) (G : zH) (r0 : Nat) (h : fX2_joinPieces G r0 = some out) : zZ X 0 [(0, .ref r0)] [] G := by
  rw [fX2_joinPieces] at h
  refine z_iconst (pc := 0) C dX2_joinPieces_0 (v := (0 : Int32)) (by decide) ?_
  refine z_istore_n (pc := 1) C dX2_joinPieces_1 rfl (by decide) (show zput _ _ _ = [(1, .int (0 : Int32)), (0, .ref r0)] from rfl) ?_
  refine z_iconst (pc := 2) C dX2_joinPieces_2 (v := (0 : Int32)) (by decide) ?_
  refine z_istore_n (pc := 3) C dX2_joinPieces_3 rfl (by decide) (show zput _ _ _ = [(2, .int (0 : Int32)), (1, .int (0 : Int32)), (0, .ref r0)] from rfl) ?_
  exact z_subL [2, 1, 0] (wfX2_joinPieces_b4 C E FU G r0 (0 : Int32) (0 : Int32) h) rfl
theorem kX2_joinPieces (l : Launch) (D : va_G) (cA : Nat → ClassId) (b : Nat) (G : zH) (r0 : Nat) (out : Int32 × zH) (h : fX2_joinPieces G r0 = some out) : zM l D cA b yX2_joinPieces cX2_joinPieces 3 (some .int) 2 42 [.ref r0] G (poI out.1 out.2) := z_entry rfl (Nat.le_of_ble_eq_true rfl) (fun X C E _ _ _ => wfX2_joinPieces C E G r0 h)
def fX2_setMark (G : zH) (r0 : Nat) (x1 : Int32) (x2 : Int32) (x3 : Int32) : Option zH :=
    if x1 < 0 then (some G) else
    if (8 : Int32) ≤ x1 then (some G) else
    ob1 (frf G r0 2 4) fun qv3 =>
    ob1 (aW G 0 qv3 x1 x2) fun G4 =>
    ob1 (frf G4 r0 2 5) fun qv5 =>
    ob1 (aW G4 3 qv5 x1 (vp_nar .boolean x3)) fun G6 =>
    some G6
set_option maxRecDepth 100000 in
set_option maxHeartbeats 4000000 in
theorem wfX2_setMark {X : zX} {out : zH} (C : zOK X cX2_setMark yX2_setMark.cls 4 none 0 0) (E : zPost X (poV out)) (G : zH) (r0 : Nat) (x1 : Int32) (x2 : Int32) (x3 : Int32) (h : fX2_setMark G r0 x1 x2 x3 = some out) : zZ X 0 [(0, .ref r0), (1, .int x1), (2, .int x2), (3, .int x3)] [] G := by
  rw [fX2_setMark] at h
  refine z_iload_n (pc := 0) C 1 dX2_setMark_0 rfl rfl ?_
  refine z_if_lt (pc := 1) C dX2_setMark_1 (tgt := 24) (by decide) (fun c1 => ?_) (fun c1 => ?_)
  · rw [if_pos c1] at h
    obtain rfl := Option.some.inj h
    exact z_vret (pc := 24) C E dX2_setMark_24 ⟨rfl, rfl⟩
  · rw [if_neg c1] at h
    refine z_iload_n (pc := 4) C 1 dX2_setMark_4 rfl rfl ?_
    refine z_bipush (pc := 5) C dX2_setMark_5 (v := (8 : Int32)) (by decide) ?_
    refine z_ic_ge (pc := 7) C dX2_setMark_7 (tgt := 24) (by decide) (fun c2 => ?_) (fun c2 => ?_)
    · rw [if_pos c2] at h
      obtain rfl := Option.some.inj h
      exact z_vret (pc := 24) C E dX2_setMark_24 ⟨rfl, rfl⟩
    · rw [if_neg c2] at h
      refine z_aload_n (pc := 10) C 0 dX2_setMark_10 rfl rfl ?_
      obtain ⟨qv3, eqv3, h⟩ := ob1_eq h
      refine z_fr (pc := 11) C dX2_setMark_11 fl_X2_18 eqv3 ?_
      refine z_iload_n (pc := 14) C 1 dX2_setMark_14 rfl rfl ?_
      refine z_iload_n (pc := 15) C 2 dX2_setMark_15 rfl rfl ?_
      obtain ⟨G4, eG4, h⟩ := ob1_eq h
      refine z_aW (pc := 16) C dX2_setMark_16 eG4 ?_
      refine z_aload_n (pc := 17) C 0 dX2_setMark_17 rfl rfl ?_
      obtain ⟨qv5, eqv5, h⟩ := ob1_eq h
      refine z_fr (pc := 18) C dX2_setMark_18 fl_X2_21 eqv5 ?_
      refine z_iload_n (pc := 21) C 1 dX2_setMark_21 rfl rfl ?_
      refine z_iload_n (pc := 22) C 3 dX2_setMark_22 rfl rfl ?_
      obtain ⟨G6, eG6, h⟩ := ob1_eq h
      refine z_zW (pc := 23) C dX2_setMark_23 eG6 ?_
      obtain rfl := Option.some.inj h
      exact z_vret (pc := 24) C E dX2_setMark_24 ⟨rfl, rfl⟩
theorem kX2_setMark (l : Launch) (D : va_G) (cA : Nat → ClassId) (b : Nat) (G : zH) (r0 : Nat) (x1 : Int32) (x2 : Int32) (x3 : Int32) (out : zH) (h : fX2_setMark G r0 x1 x2 x3 = some out) : zM l D cA b yX2_setMark cX2_setMark 4 none 0 0 [.ref r0, .int x1, .int x2, .int x3] G (poV out) := z_entry rfl (Nat.le_of_ble_eq_true rfl) (fun X C E _ _ _ => wfX2_setMark C E G r0 x1 x2 x3 h)
def fX2_marksFrom_b52 (G : zH) (k5 : Nat → Int32 → Int32 → Int32 → Int32 → Option Int32) (r0 : Nat) (x1 : Int32) (x2 : Int32) (x3 : Int32) (x4 : Int32) : Option Int32 :=
    zlet (x4 + (1 : Int32)) fun y1 =>
    k5 r0 x1 x2 x3 y1
set_option maxRecDepth 100000 in
set_option maxHeartbeats 4000000 in
theorem wfX2_marksFrom_b52 {X : zX} {G : zH} {out : Int32} (C : zOK X cX2_marksFrom yX2_marksFrom.cls 5 (some .int) 0 0) (E : zPost X (poI out G)) (k5 : Nat → Int32 → Int32 → Int32 → Int32 → Option Int32) (hk5 : ∀ (r0 : Nat) (x1 : Int32) (x2 : Int32) (x3 : Int32) (x4 : Int32), k5 r0 x1 x2 x3 x4 = some out → zZ X 5 [(0, .ref r0), (1, .int x1), (2, .int x2), (3, .int x3), (4, .int x4)] [] G) (r0 : Nat) (x1 : Int32) (x2 : Int32) (x3 : Int32) (x4 : Int32) (h : fX2_marksFrom_b52 G k5 r0 x1 x2 x3 x4 = some out) : zZ X 52 [(0, .ref r0), (1, .int x1), (2, .int x2), (3, .int x3), (4, .int x4)] [] G := by
  rw [fX2_marksFrom_b52] at h
  obtain ⟨y1, ey1, h⟩ := zlet_eq h
  refine z_iinc (pc := 52) (v := y1) C 4 dX2_marksFrom_52 rfl (by rw [ey1]; rfl) (by decide) (show zput _ _ _ = [(4, .int y1), (0, .ref r0), (1, .int x1), (2, .int x2), (3, .int x3)] from rfl) ?_
  refine z_goto (pc := 55) C dX2_marksFrom_55 (tgt := 5) (by decide) ?_
  exact z_subL [1, 2, 3, 4, 0] (hk5 r0 x1 x2 x3 y1 h) rfl
def fX2_marksFrom_b5 (G : zH) : Nat → Nat → Int32 → Int32 → Int32 → Int32 → Option Int32
  | 0, _, _, _, _, _ => none
  | n + 1, r0, x1, x2, x3, x4 =>
    if (8 : Int32) ≤ x4 then (some x3) else
    ob1 (frf G r0 2 4) fun qv2 =>
    ob1 (aR G 0 qv2 x4) fun v3 =>
    if v3 = (-1 : Int32) then (fX2_marksFrom_b52 G (fX2_marksFrom_b5 G n) r0 x1 x2 x3 x4) else
    ob1 (frf G r0 2 4) fun qv5 =>
    ob1 (aR G 0 qv5 x4) fun v6 =>
    if v6 < x1 then (fX2_marksFrom_b52 G (fX2_marksFrom_b5 G n) r0 x1 x2 x3 x4) else
    ob1 (frf G r0 2 4) fun qv8 =>
    ob1 (aR G 0 qv8 x4) fun v9 =>
    if x2 < v9 then (fX2_marksFrom_b52 G (fX2_marksFrom_b5 G n) r0 x1 x2 x3 x4) else
    zlet ((x3 ||| ((1 : Int32) <<< (x4 &&& 31)))) fun y11 =>
    fX2_marksFrom_b52 G (fX2_marksFrom_b5 G n) r0 x1 x2 y11 x4
set_option maxRecDepth 100000 in
set_option maxHeartbeats 4000000 in
theorem wfX2_marksFrom_b5 {X : zX} {G : zH} {out : Int32} (C : zOK X cX2_marksFrom yX2_marksFrom.cls 5 (some .int) 0 0) (E : zPost X (poI out G)) : ∀ (n : Nat) (r0 : Nat) (x1 : Int32) (x2 : Int32) (x3 : Int32) (x4 : Int32) (h : fX2_marksFrom_b5 G n r0 x1 x2 x3 x4 = some out), zZ X 5 [(0, .ref r0), (1, .int x1), (2, .int x2), (3, .int x3), (4, .int x4)] [] G := by
  intro n
  induction n with
  | zero => intro r0 x1 x2 x3 x4 h; cases h
  | succ n ih =>
    intro r0 x1 x2 x3 x4 h
    rw [fX2_marksFrom_b5] at h
    refine z_iload (pc := 5) C 4 dX2_marksFrom_5 rfl ?_
    refine z_bipush (pc := 7) C dX2_marksFrom_7 (v := (8 : Int32)) (by decide) ?_
    refine z_ic_ge (pc := 9) C dX2_marksFrom_9 (tgt := 58) (by decide) (fun c1 => ?_) (fun c1 => ?_)
    · rw [if_pos c1] at h
      refine z_iload_n (pc := 58) C 3 dX2_marksFrom_58 rfl rfl ?_
      obtain rfl := Option.some.inj h
      exact z_iret (pc := 59) C E dX2_marksFrom_59 ⟨rfl, rfl⟩
    · rw [if_neg c1] at h
      refine z_aload_n (pc := 12) C 0 dX2_marksFrom_12 rfl rfl ?_
      obtain ⟨qv2, eqv2, h⟩ := ob1_eq h
      refine z_fr (pc := 13) C dX2_marksFrom_13 fl_X2_18 eqv2 ?_
      refine z_iload (pc := 16) C 4 dX2_marksFrom_16 rfl ?_
      obtain ⟨v3, ev3, h⟩ := ob1_eq h
      refine z_aR (pc := 18) C dX2_marksFrom_18 ev3 ?_
      refine z_iconst (pc := 19) C dX2_marksFrom_19 (v := (-1 : Int32)) (by decide) ?_
      refine z_ic_eq (pc := 20) C dX2_marksFrom_20 (tgt := 52) (by decide) (fun c4 => ?_) (fun c4 => ?_)
      · rw [if_pos c4] at h
        exact z_subL [0, 1, 2, 3, 4] (wfX2_marksFrom_b52 C E (fX2_marksFrom_b5 G n) ih r0 x1 x2 x3 x4 h) rfl
      · rw [if_neg c4] at h
        refine z_aload_n (pc := 23) C 0 dX2_marksFrom_23 rfl rfl ?_
        obtain ⟨qv5, eqv5, h⟩ := ob1_eq h
        refine z_fr (pc := 24) C dX2_marksFrom_24 fl_X2_18 eqv5 ?_
        refine z_iload (pc := 27) C 4 dX2_marksFrom_27 rfl ?_
        obtain ⟨v6, ev6, h⟩ := ob1_eq h
        refine z_aR (pc := 29) C dX2_marksFrom_29 ev6 ?_
        refine z_iload_n (pc := 30) C 1 dX2_marksFrom_30 rfl rfl ?_
        refine z_ic_lt (pc := 31) C dX2_marksFrom_31 (tgt := 52) (by decide) (fun c7 => ?_) (fun c7 => ?_)
        · rw [if_pos c7] at h
          exact z_subL [0, 1, 2, 3, 4] (wfX2_marksFrom_b52 C E (fX2_marksFrom_b5 G n) ih r0 x1 x2 x3 x4 h) rfl
        · rw [if_neg c7] at h
          refine z_aload_n (pc := 34) C 0 dX2_marksFrom_34 rfl rfl ?_
          obtain ⟨qv8, eqv8, h⟩ := ob1_eq h
          refine z_fr (pc := 35) C dX2_marksFrom_35 fl_X2_18 eqv8 ?_
          refine z_iload (pc := 38) C 4 dX2_marksFrom_38 rfl ?_
          obtain ⟨v9, ev9, h⟩ := ob1_eq h
          refine z_aR (pc := 40) C dX2_marksFrom_40 ev9 ?_
          refine z_iload_n (pc := 41) C 2 dX2_marksFrom_41 rfl rfl ?_
          refine z_ic_gt (pc := 42) C dX2_marksFrom_42 (tgt := 52) (by decide) (fun c10 => ?_) (fun c10 => ?_)
          · rw [if_pos c10] at h
            exact z_subL [0, 1, 2, 3, 4] (wfX2_marksFrom_b52 C E (fX2_marksFrom_b5 G n) ih r0 x1 x2 x3 x4 h) rfl
          · rw [if_neg c10] at h
            refine z_iload_n (pc := 45) C 3 dX2_marksFrom_45 rfl rfl ?_
            refine z_iconst (pc := 46) C dX2_marksFrom_46 (v := (1 : Int32)) (by decide) ?_
            refine z_iload (pc := 47) C 4 dX2_marksFrom_47 rfl ?_
            refine z_ishl (pc := 49) C dX2_marksFrom_49 ?_
            refine z_ior (pc := 50) C dX2_marksFrom_50 ?_
            obtain ⟨y11, ey11, h⟩ := zlet_eq h
            refine z_topi ey11 ?_
            refine z_istore_n (pc := 51) C dX2_marksFrom_51 rfl (by decide) (show zput _ _ _ = [(3, .int y11), (0, .ref r0), (1, .int x1), (2, .int x2), (4, .int x4)] from rfl) ?_
            exact z_subL [1, 2, 3, 0, 4] (wfX2_marksFrom_b52 C E (fX2_marksFrom_b5 G n) ih r0 x1 x2 y11 x4 h) rfl
def fX2_marksFrom (G : zH) (r0 : Nat) (x1 : Int32) (x2 : Int32) : Option Int32 :=
    fX2_marksFrom_b5 G FU r0 x1 x2 (0 : Int32) (0 : Int32)
set_option maxRecDepth 100000 in
set_option maxHeartbeats 4000000 in
theorem wfX2_marksFrom {X : zX} {G : zH} {out : Int32} (C : zOK X cX2_marksFrom yX2_marksFrom.cls 5 (some .int) 0 0) (E : zPost X (poI out G)) (r0 : Nat) (x1 : Int32) (x2 : Int32) (h : fX2_marksFrom G r0 x1 x2 = some out) : zZ X 0 [(0, .ref r0), (1, .int x1), (2, .int x2)] [] G := by
  rw [fX2_marksFrom] at h
  refine z_iconst (pc := 0) C dX2_marksFrom_0 (v := (0 : Int32)) (by decide) ?_
  refine z_istore_n (pc := 1) C dX2_marksFrom_1 rfl (by decide) (show zput _ _ _ = [(3, .int (0 : Int32)), (0, .ref r0), (1, .int x1), (2, .int x2)] from rfl) ?_
  refine z_iconst (pc := 2) C dX2_marksFrom_2 (v := (0 : Int32)) (by decide) ?_
  refine z_istore (pc := 3) C dX2_marksFrom_3 (by decide) (show zput _ _ _ = [(4, .int (0 : Int32)), (3, .int (0 : Int32)), (0, .ref r0), (1, .int x1), (2, .int x2)] from rfl) ?_
  exact z_subL [2, 3, 4, 1, 0] (wfX2_marksFrom_b5 C E FU r0 x1 x2 (0 : Int32) (0 : Int32) h) rfl
theorem kX2_marksFrom (l : Launch) (D : va_G) (cA : Nat → ClassId) (b : Nat) (G : zH) (r0 : Nat) (x1 : Int32) (x2 : Int32) (out : Int32) (h : fX2_marksFrom G r0 x1 x2 = some out) : zM l D cA b yX2_marksFrom cX2_marksFrom 5 (some .int) 0 0 [.ref r0, .int x1, .int x2] G (poI out G) := z_entry rfl (Nat.le_of_ble_eq_true rfl) (fun X C E _ _ _ => wfX2_marksFrom C E r0 x1 x2 h)
def fX3_init (G : zH) (r0 : Nat) : Option zH :=
    ob1 (gN G (3000 : Int32)) fun N1 =>
    zlet (List.length G) fun qv2 =>
    zlet (G ++ [.inl (2, (N1, .inl (fun _ => 0)))]) fun G3 =>
    ob1 (fset G3 r0 3 0 (.ref qv2)) fun G4 =>
    ob1 (gN G4 (3000 : Int32)) fun N5 =>
    zlet (List.length G4) fun qv6 =>
    zlet (G4 ++ [.inl (0, (N5, .inl (fun _ => 0)))]) fun G7 =>
    ob1 (fset G7 r0 3 1 (.ref qv6)) fun G8 =>
    some G8
set_option maxRecDepth 100000 in
set_option maxHeartbeats 4000000 in
theorem wfX3_init {X : zX} {out : zH} (C : zOK X cX3_init yX3_init.cls 1 none 1 20) (E : zPost X (poV out)) (hn : X.2.1.2.2.2.1.name = "<init>") (G : zH) (r0 : Nat) (h : fX3_init G r0 = some out) : zZ X 0 [(0, .ref r0)] [] G := by
  rw [fX3_init] at h
  refine z_aload_n (pc := 0) C 0 dX3_init_0 rfl rfl ?_
  refine z_objInit (pc := 1) C dX3_init_1 ml_X3_3 w_oi1 w_oi2 (Nat.le_of_ble_eq_true rfl) (by decide) (by decide) ?_
  refine z_aload_n (pc := 4) C 0 dX3_init_4 rfl rfl ?_
  refine z_sipush (pc := 5) C dX3_init_5 (v := (3000 : Int32)) (by decide) ?_
  obtain ⟨N1, eN1, h⟩ := ob1_eq h
  obtain ⟨qv2, eqv2, h⟩ := zlet_eq h
  obtain ⟨G3, eG3, h⟩ := zlet_eq h
  refine z_gNb (pc := 8) C dX3_init_8 eN1 eqv2 eG3 ?_
  obtain ⟨G4, eG4, h⟩ := ob1_eq h
  refine z_srF (pc := 10) C hn dX3_init_10 fl_X3_9w (fun _ => ⟨rfl, rfl⟩) eG4 ?_
  refine z_aload_n (pc := 13) C 0 dX3_init_13 rfl rfl ?_
  refine z_sipush (pc := 14) C dX3_init_14 (v := (3000 : Int32)) (by decide) ?_
  obtain ⟨N5, eN5, h⟩ := ob1_eq h
  obtain ⟨qv6, eqv6, h⟩ := zlet_eq h
  obtain ⟨G7, eG7, h⟩ := zlet_eq h
  refine z_gN (pc := 17) C dX3_init_17 eN5 eqv6 eG7 ?_
  obtain ⟨G8, eG8, h⟩ := ob1_eq h
  refine z_srF (pc := 19) C hn dX3_init_19 fl_X3_15w (fun _ => ⟨rfl, rfl⟩) eG8 ?_
  obtain rfl := Option.some.inj h
  exact z_vret (pc := 22) C E dX3_init_22 ⟨rfl, rfl⟩
theorem kX3_init (l : Launch) (D : va_G) (cA : Nat → ClassId) (b : Nat) (G : zH) (r0 : Nat) (out : zH) (h : fX3_init G r0 = some out) : zM l D cA b yX3_init cX3_init 1 none 1 20 [.ref r0] G (poV out) := z_entry rfl (Nat.le_of_ble_eq_true rfl) (fun X C E hn _ _ => wfX3_init C E hn G r0 h)
def fX4_signAt (G : zH) (r0 : Nat) (x1 : Int32) : Option Int32 :=
    if x1 < 0 then (some (0 : Int32)) else
    ob1 (frf G r0 4 0) fun qv2 =>
    ob1 (aL G 2 qv2) fun v3 =>
    if v3 ≤ x1 then (some (0 : Int32)) else
    ob1 (frf G r0 4 0) fun qv5 =>
    ob1 (aR G 2 qv5 x1) fun v6 =>
    some v6
set_option maxRecDepth 100000 in
set_option maxHeartbeats 4000000 in
theorem wfX4_signAt {X : zX} {G : zH} {out : Int32} (C : zOK X cX4_signAt yX4_signAt.cls 2 (some .int) 0 0) (E : zPost X (poI out G)) (r0 : Nat) (x1 : Int32) (h : fX4_signAt G r0 x1 = some out) : zZ X 0 [(0, .ref r0), (1, .int x1)] [] G := by
  rw [fX4_signAt] at h
  refine z_iload_n (pc := 0) C 1 dX4_signAt_0 rfl rfl ?_
  refine z_if_lt (pc := 1) C dX4_signAt_1 (tgt := 22) (by decide) (fun c1 => ?_) (fun c1 => ?_)
  · rw [if_pos c1] at h
    refine z_iconst (pc := 22) C dX4_signAt_22 (v := (0 : Int32)) (by decide) ?_
    obtain rfl := Option.some.inj h
    exact z_iret (pc := 23) C E dX4_signAt_23 ⟨rfl, rfl⟩
  · rw [if_neg c1] at h
    refine z_iload_n (pc := 4) C 1 dX4_signAt_4 rfl rfl ?_
    refine z_aload_n (pc := 5) C 0 dX4_signAt_5 rfl rfl ?_
    obtain ⟨qv2, eqv2, h⟩ := ob1_eq h
    refine z_fr (pc := 6) C dX4_signAt_6 fl_X4_9 eqv2 ?_
    obtain ⟨v3, ev3, h⟩ := ob1_eq h
    refine z_aL (pc := 9) C dX4_signAt_9 (by decide) ev3 ?_
    refine z_ic_ge (pc := 10) C dX4_signAt_10 (tgt := 22) (by decide) (fun c4 => ?_) (fun c4 => ?_)
    · rw [if_pos c4] at h
      refine z_iconst (pc := 22) C dX4_signAt_22 (v := (0 : Int32)) (by decide) ?_
      obtain rfl := Option.some.inj h
      exact z_iret (pc := 23) C E dX4_signAt_23 ⟨rfl, rfl⟩
    · rw [if_neg c4] at h
      refine z_aload_n (pc := 13) C 0 dX4_signAt_13 rfl rfl ?_
      obtain ⟨qv5, eqv5, h⟩ := ob1_eq h
      refine z_fr (pc := 14) C dX4_signAt_14 fl_X4_9 eqv5 ?_
      refine z_iload_n (pc := 17) C 1 dX4_signAt_17 rfl rfl ?_
      obtain ⟨v6, ev6, h⟩ := ob1_eq h
      refine z_bR (pc := 18) C dX4_signAt_18 ev6 ?_
      refine z_goto (pc := 19) C dX4_signAt_19 (tgt := 23) (by decide) ?_
      obtain rfl := Option.some.inj h
      exact z_iret (pc := 23) C E dX4_signAt_23 ⟨rfl, rfl⟩
theorem kX4_signAt (l : Launch) (D : va_G) (cA : Nat → ClassId) (b : Nat) (G : zH) (r0 : Nat) (x1 : Int32) (out : Int32) (h : fX4_signAt G r0 x1 = some out) : zM l D cA b yX4_signAt cX4_signAt 2 (some .int) 0 0 [.ref r0, .int x1] G (poI out G) := z_entry rfl (Nat.le_of_ble_eq_true rfl) (fun X C E _ _ _ => wfX4_signAt C E r0 x1 h)
def fX3_lay_b97 (k7 : zH → Nat → Nat → Nat → Int32 → Option zH) (G : zH) (r0 : Nat) (r1 : Nat) (r2 : Nat) (x3 : Int32) : Option zH :=
    zlet (x3 + (1 : Int32)) fun y1 =>
    k7 G r0 r1 r2 y1
set_option maxRecDepth 100000 in
set_option maxHeartbeats 4000000 in
theorem wfX3_lay_b97 {X : zX} {out : zH} (C : zOK X cX3_lay yX3_lay.cls 7 none 1 21) (E : zPost X (poV out)) (k7 : zH → Nat → Nat → Nat → Int32 → Option zH) (hk7 : ∀ (G : zH) (r0 : Nat) (r1 : Nat) (r2 : Nat) (x3 : Int32), k7 G r0 r1 r2 x3 = some out → zZ X 7 [(0, .ref r0), (1, .ref r1), (2, .ref r2), (3, .int x3)] [] G) (G : zH) (r0 : Nat) (r1 : Nat) (r2 : Nat) (x3 : Int32) (h : fX3_lay_b97 k7 G r0 r1 r2 x3 = some out) : zZ X 97 [(0, .ref r0), (1, .ref r1), (2, .ref r2), (3, .int x3)] [] G := by
  rw [fX3_lay_b97] at h
  obtain ⟨y1, ey1, h⟩ := zlet_eq h
  refine z_iinc (pc := 97) (v := y1) C 3 dX3_lay_97 rfl (by rw [ey1]; rfl) (by decide) (show zput _ _ _ = [(3, .int y1), (0, .ref r0), (1, .ref r1), (2, .ref r2)] from rfl) ?_
  refine z_goto (pc := 100) C dX3_lay_100 (tgt := 7) (by decide) ?_
  exact z_subL [1, 2, 3, 0] (hk7 G r0 r1 r2 y1 h) rfl
def fX3_lay_b38 (k7 : zH → Nat → Nat → Nat → Int32 → Option zH) : Nat → zH → Nat → Nat → Nat → Int32 → Int32 → Int32 → Option zH
  | 0, _, _, _, _, _, _, _ => none
  | n + 1, G, r0, r1, r2, x3, x5, x6 =>
    if x5 ≤ x6 then (fX3_lay_b97 k7 G r0 r1 r2 x3) else
    ob1 (fi G r0 3 2) fun v2 =>
    if (3000 : Int32) ≤ v2 then (fX3_lay_b97 k7 G r0 r1 r2 x3) else
    ob1 (frf G r0 3 0) fun qv4 =>
    ob1 (fi G r0 3 2) fun v5 =>
    ob1 (isO G r2 4) fun u6 =>
    ob1 (fX4_signAt G r2 x6) fun v8 =>
    ob1 (aW G 2 qv4 v5 (vp_nar .byte v8.toInt8.toInt32)) fun G9 =>
    ob1 (frf G9 r0 3 1) fun qv10 =>
    ob1 (fi G9 r0 3 2) fun v11 =>
    ob1 (aW G9 0 qv10 v11 x3) fun G12 =>
    ob1 (fi G12 r0 3 2) fun v13 =>
    ob1 (fset G12 r0 3 2 (.int (v13 + (1 : Int32)))) fun G14 =>
    zlet (x6 + (1 : Int32)) fun y15 =>
    (fX3_lay_b38 k7 n) G14 r0 r1 r2 x3 x5 y15
set_option maxRecDepth 100000 in
set_option maxHeartbeats 4000000 in
theorem wfX3_lay_b38 {X : zX} {out : zH} (C : zOK X cX3_lay yX3_lay.cls 7 none 1 21) (E : zPost X (poV out)) (k7 : zH → Nat → Nat → Nat → Int32 → Option zH) (hk7 : ∀ (G : zH) (r0 : Nat) (r1 : Nat) (r2 : Nat) (x3 : Int32), k7 G r0 r1 r2 x3 = some out → zZ X 7 [(0, .ref r0), (1, .ref r1), (2, .ref r2), (3, .int x3)] [] G) : ∀ (n : Nat) (G : zH) (r0 : Nat) (r1 : Nat) (r2 : Nat) (x3 : Int32) (x5 : Int32) (x6 : Int32) (h : fX3_lay_b38 k7 n G r0 r1 r2 x3 x5 x6 = some out), zZ X 38 [(0, .ref r0), (1, .ref r1), (2, .ref r2), (3, .int x3), (5, .int x5), (6, .int x6)] [] G := by
  intro n
  induction n with
  | zero => intro G r0 r1 r2 x3 x5 x6 h; cases h
  | succ n ih =>
    intro G r0 r1 r2 x3 x5 x6 h
    rw [fX3_lay_b38] at h
    refine z_iload (pc := 38) C 5 dX3_lay_38 rfl ?_
    refine z_iload (pc := 40) C 4 dX3_lay_40 rfl ?_
    refine z_ic_ge (pc := 42) C dX3_lay_42 (tgt := 97) (by decide) (fun c1 => ?_) (fun c1 => ?_)
    · rw [if_pos c1] at h
      exact z_subL [0, 1, 2, 3] (wfX3_lay_b97 C E k7 hk7 G r0 r1 r2 x3 h) rfl
    · rw [if_neg c1] at h
      refine z_aload_n (pc := 45) C 0 dX3_lay_45 rfl rfl ?_
      obtain ⟨v2, ev2, h⟩ := ob1_eq h
      refine z_fi (pc := 46) C dX3_lay_46 fl_X3_19 ev2 ?_
      refine z_sipush (pc := 49) C dX3_lay_49 (v := (3000 : Int32)) (by decide) ?_
      refine z_ic_ge (pc := 52) C dX3_lay_52 (tgt := 97) (by decide) (fun c3 => ?_) (fun c3 => ?_)
      · rw [if_pos c3] at h
        exact z_subL [0, 1, 2, 3] (wfX3_lay_b97 C E k7 hk7 G r0 r1 r2 x3 h) rfl
      · rw [if_neg c3] at h
        refine z_aload_n (pc := 55) C 0 dX3_lay_55 rfl rfl ?_
        obtain ⟨qv4, eqv4, h⟩ := ob1_eq h
        refine z_fr (pc := 56) C dX3_lay_56 fl_X3_9 eqv4 ?_
        refine z_aload_n (pc := 59) C 0 dX3_lay_59 rfl rfl ?_
        obtain ⟨v5, ev5, h⟩ := ob1_eq h
        refine z_fi (pc := 60) C dX3_lay_60 fl_X3_19 ev5 ?_
        refine z_aload_n (pc := 63) C 2 dX3_lay_63 rfl rfl ?_
        refine z_iload (pc := 64) C 5 dX3_lay_64 rfl ?_
        obtain ⟨u6, eu6, h⟩ := ob1_eq h
        obtain ⟨w7, ew7⟩ := isO_eq eu6
        obtain ⟨v8, ev8, h⟩ := ob1_eq h
        refine z_callVi (h := r2) (As := [.int x6]) (rest := [.int v5, .ref qv4]) (pc := 66) C dX3_lay_66 ml_X3_34 (kX4_signAt _ _ _ _ G r2 x6 v8 ev8) ew7 rfl rfl rfl (Nat.le_of_ble_eq_true rfl) (by decide) ?_
        refine z_i2b (pc := 69) C dX3_lay_69 ?_
        obtain ⟨G9, eG9, h⟩ := ob1_eq h
        refine z_bW (pc := 70) C dX3_lay_70 eG9 ?_
        refine z_aload_n (pc := 71) C 0 dX3_lay_71 rfl rfl ?_
        obtain ⟨qv10, eqv10, h⟩ := ob1_eq h
        refine z_fr (pc := 72) C dX3_lay_72 fl_X3_15 eqv10 ?_
        refine z_aload_n (pc := 75) C 0 dX3_lay_75 rfl rfl ?_
        obtain ⟨v11, ev11, h⟩ := ob1_eq h
        refine z_fi (pc := 76) C dX3_lay_76 fl_X3_19 ev11 ?_
        refine z_iload_n (pc := 79) C 3 dX3_lay_79 rfl rfl ?_
        obtain ⟨G12, eG12, h⟩ := ob1_eq h
        refine z_aW (pc := 80) C dX3_lay_80 eG12 ?_
        refine z_aload_n (pc := 81) C 0 dX3_lay_81 rfl rfl ?_
        refine z_dup (pc := 82) C dX3_lay_82 rfl ?_
        obtain ⟨v13, ev13, h⟩ := ob1_eq h
        refine z_fi (pc := 83) C dX3_lay_83 fl_X3_19 ev13 ?_
        refine z_iconst (pc := 86) C dX3_lay_86 (v := (1 : Int32)) (by decide) ?_
        refine z_iadd (pc := 87) C dX3_lay_87 ?_
        obtain ⟨G14, eG14, h⟩ := ob1_eq h
        refine z_si (pc := 88) C dX3_lay_88 fl_X3_19w eG14 ?_
        obtain ⟨y15, ey15, h⟩ := zlet_eq h
        refine z_iinc (pc := 91) (v := y15) C 5 dX3_lay_91 rfl (by rw [ey15]; rfl) (by decide) (show zput _ _ _ = [(6, .int y15), (0, .ref r0), (1, .ref r1), (2, .ref r2), (3, .int x3), (5, .int x5)] from rfl) ?_
        refine z_goto (pc := 94) C dX3_lay_94 (tgt := 38) (by decide) ?_
        exact z_subL [1, 2, 3, 4, 5, 0] (ih G14 r0 r1 r2 x3 x5 y15 h) rfl
def fX3_lay_b7 : Nat → zH → Nat → Nat → Nat → Int32 → Option zH
  | 0, _, _, _, _, _ => none
  | n + 1, G, r0, r1, r2, x3 =>
    ob1 (fi G r1 2 2) fun v1 =>
    if v1 ≤ x3 then (some G) else
    ob1 (frf G r1 2 0) fun qv3 =>
    ob1 (aR G 0 qv3 x3) fun v4 =>
    ob1 (frf G r1 2 1) fun qv5 =>
    ob1 (aR G 0 qv5 x3) fun v6 =>
    zlet ((v4 + v6)) fun y7 =>
    fX3_lay_b38 (fX3_lay_b7 n) FU G r0 r1 r2 x3 y7 v4
set_option maxRecDepth 100000 in
set_option maxHeartbeats 4000000 in
theorem wfX3_lay_b7 {X : zX} {out : zH} (C : zOK X cX3_lay yX3_lay.cls 7 none 1 21) (E : zPost X (poV out)) : ∀ (n : Nat) (G : zH) (r0 : Nat) (r1 : Nat) (r2 : Nat) (x3 : Int32) (h : fX3_lay_b7 n G r0 r1 r2 x3 = some out), zZ X 7 [(0, .ref r0), (1, .ref r1), (2, .ref r2), (3, .int x3)] [] G := by
  intro n
  induction n with
  | zero => intro G r0 r1 r2 x3 h; cases h
  | succ n ih =>
    intro G r0 r1 r2 x3 h
    rw [fX3_lay_b7] at h
    refine z_iload_n (pc := 7) C 3 dX3_lay_7 rfl rfl ?_
    refine z_aload_n (pc := 8) C 1 dX3_lay_8 rfl rfl ?_
    obtain ⟨v1, ev1, h⟩ := ob1_eq h
    refine z_fi (pc := 9) C dX3_lay_9 fl_X3_23 ev1 ?_
    refine z_ic_ge (pc := 12) C dX3_lay_12 (tgt := 103) (by decide) (fun c2 => ?_) (fun c2 => ?_)
    · rw [if_pos c2] at h
      obtain rfl := Option.some.inj h
      exact z_vret (pc := 103) C E dX3_lay_103 ⟨rfl, rfl⟩
    · rw [if_neg c2] at h
      refine z_aload_n (pc := 15) C 1 dX3_lay_15 rfl rfl ?_
      obtain ⟨qv3, eqv3, h⟩ := ob1_eq h
      refine z_fr (pc := 16) C dX3_lay_16 fl_X3_28 eqv3 ?_
      refine z_iload_n (pc := 19) C 3 dX3_lay_19 rfl rfl ?_
      obtain ⟨v4, ev4, h⟩ := ob1_eq h
      refine z_aR (pc := 20) C dX3_lay_20 ev4 ?_
      refine z_istore (pc := 21) C dX3_lay_21 (by decide) (show zput _ _ _ = [(4, .int v4), (0, .ref r0), (1, .ref r1), (2, .ref r2), (3, .int x3)] from rfl) ?_
      refine z_iload (pc := 23) C 0 dX3_lay_23 rfl ?_
      refine z_aload_n (pc := 25) C 2 dX3_lay_25 rfl rfl ?_
      obtain ⟨qv5, eqv5, h⟩ := ob1_eq h
      refine z_fr (pc := 26) C dX3_lay_26 fl_X3_31 eqv5 ?_
      refine z_iload_n (pc := 29) C 4 dX3_lay_29 rfl rfl ?_
      obtain ⟨v6, ev6, h⟩ := ob1_eq h
      refine z_aR (pc := 30) C dX3_lay_30 ev6 ?_
      refine z_iadd (pc := 31) C dX3_lay_31 ?_
      obtain ⟨y7, ey7, h⟩ := zlet_eq h
      refine z_topi ey7 ?_
      refine z_istore (pc := 32) C dX3_lay_32 (by decide) (show zput _ _ _ = [(5, .int y7), (4, .int v4), (0, .ref r0), (1, .ref r1), (2, .ref r2), (3, .int x3)] from rfl) ?_
      refine z_iload (pc := 34) C 1 dX3_lay_34 rfl ?_
      refine z_istore (pc := 36) C dX3_lay_36 (by decide) (show zput _ _ _ = [(6, .int v4), (5, .int y7), (4, .int v4), (0, .ref r0), (1, .ref r1), (2, .ref r2), (3, .int x3)] from rfl) ?_
      exact z_subL [3, 4, 5, 6, 1, 0] (wfX3_lay_b38 C E (fX3_lay_b7 n) ih FU G r0 r1 r2 x3 y7 v4 h) rfl
def fX3_lay (G : zH) (r0 : Nat) (r1 : Nat) (r2 : Nat) : Option zH :=
    ob1 (fset G r0 3 2 (.int (0 : Int32))) fun G1 =>
    fX3_lay_b7 FU G1 r0 r1 r2 (0 : Int32)
set_option maxRecDepth 100000 in
set_option maxHeartbeats 4000000 in
theorem wfX3_lay {X : zX} {out : zH} (C : zOK X cX3_lay yX3_lay.cls 7 none 1 21) (E : zPost X (poV out)) (G : zH) (r0 : Nat) (r1 : Nat) (r2 : Nat) (h : fX3_lay G r0 r1 r2 = some out) : zZ X 0 [(0, .ref r0), (1, .ref r1), (2, .ref r2)] [] G := by
  rw [fX3_lay] at h
  refine z_aload_n (pc := 0) C 0 dX3_lay_0 rfl rfl ?_
  refine z_iconst (pc := 1) C dX3_lay_1 (v := (0 : Int32)) (by decide) ?_
  obtain ⟨G1, eG1, h⟩ := ob1_eq h
  refine z_si (pc := 2) C dX3_lay_2 fl_X3_19w eG1 ?_
  refine z_iconst (pc := 5) C dX3_lay_5 (v := (0 : Int32)) (by decide) ?_
  refine z_istore_n (pc := 6) C dX3_lay_6 rfl (by decide) (show zput _ _ _ = [(3, .int (0 : Int32)), (0, .ref r0), (1, .ref r1), (2, .ref r2)] from rfl) ?_
  exact z_subL [1, 2, 3, 0] (wfX3_lay_b7 C E FU G1 r0 r1 r2 (0 : Int32) h) rfl
theorem kX3_lay (l : Launch) (D : va_G) (cA : Nat → ClassId) (b : Nat) (G : zH) (r0 : Nat) (r1 : Nat) (r2 : Nat) (out : zH) (h : fX3_lay G r0 r1 r2 = some out) : zM l D cA b yX3_lay cX3_lay 7 none 1 21 [.ref r0, .ref r1, .ref r2] G (poV out) := z_entry rfl (Nat.le_of_ble_eq_true rfl) (fun X C E _ _ _ => wfX3_lay C E G r0 r1 r2 h)
def fX3_has (G : zH) (r0 : Nat) (x1 : Int32) : Option Int32 :=
    if x1 < 0 then (some (0 : Int32)) else
    ob1 (fi G r0 3 2) fun v2 =>
    if v2 ≤ x1 then (some (0 : Int32)) else
    some (1 : Int32)
set_option maxRecDepth 100000 in
set_option maxHeartbeats 4000000 in
theorem wfX3_has {X : zX} {G : zH} {out : Int32} (C : zOK X cX3_has yX3_has.cls 2 (some .boolean) 0 0) (E : zPost X (poI out G)) (r0 : Nat) (x1 : Int32) (h : fX3_has G r0 x1 = some out) : zZ X 0 [(0, .ref r0), (1, .int x1)] [] G := by
  rw [fX3_has] at h
  refine z_iload_n (pc := 0) C 1 dX3_has_0 rfl rfl ?_
  refine z_if_lt (pc := 1) C dX3_has_1 (tgt := 16) (by decide) (fun c1 => ?_) (fun c1 => ?_)
  · rw [if_pos c1] at h
    refine z_iconst (pc := 16) C dX3_has_16 (v := (0 : Int32)) (by decide) ?_
    obtain rfl := Option.some.inj h
    exact z_zret (pc := 17) C E dX3_has_17 rfl ⟨rfl, rfl⟩
  · rw [if_neg c1] at h
    refine z_iload_n (pc := 4) C 1 dX3_has_4 rfl rfl ?_
    refine z_aload_n (pc := 5) C 0 dX3_has_5 rfl rfl ?_
    obtain ⟨v2, ev2, h⟩ := ob1_eq h
    refine z_fi (pc := 6) C dX3_has_6 fl_X3_19 ev2 ?_
    refine z_ic_ge (pc := 9) C dX3_has_9 (tgt := 16) (by decide) (fun c3 => ?_) (fun c3 => ?_)
    · rw [if_pos c3] at h
      refine z_iconst (pc := 16) C dX3_has_16 (v := (0 : Int32)) (by decide) ?_
      obtain rfl := Option.some.inj h
      exact z_zret (pc := 17) C E dX3_has_17 rfl ⟨rfl, rfl⟩
    · rw [if_neg c3] at h
      refine z_iconst (pc := 12) C dX3_has_12 (v := (1 : Int32)) (by decide) ?_
      refine z_goto (pc := 13) C dX3_has_13 (tgt := 17) (by decide) ?_
      obtain rfl := Option.some.inj h
      exact z_zret (pc := 17) C E dX3_has_17 rfl ⟨rfl, rfl⟩
theorem kX3_has (l : Launch) (D : va_G) (cA : Nat → ClassId) (b : Nat) (G : zH) (r0 : Nat) (x1 : Int32) (out : Int32) (h : fX3_has G r0 x1 = some out) : zM l D cA b yX3_has cX3_has 2 (some .boolean) 0 0 [.ref r0, .int x1] G (poI out G) := z_entry rfl (Nat.le_of_ble_eq_true rfl) (fun X C E _ _ _ => wfX3_has C E r0 x1 h)
def fX3_signAt (G : zH) (r0 : Nat) (x1 : Int32) : Option Int32 :=
    if x1 < 0 then (some (0 : Int32)) else
    ob1 (fi G r0 3 2) fun v2 =>
    if v2 ≤ x1 then (some (0 : Int32)) else
    ob1 (frf G r0 3 0) fun qv4 =>
    ob1 (aR G 2 qv4 x1) fun v5 =>
    some v5
set_option maxRecDepth 100000 in
set_option maxHeartbeats 4000000 in
theorem wfX3_signAt {X : zX} {G : zH} {out : Int32} (C : zOK X cX3_signAt yX3_signAt.cls 2 (some .int) 0 0) (E : zPost X (poI out G)) (r0 : Nat) (x1 : Int32) (h : fX3_signAt G r0 x1 = some out) : zZ X 0 [(0, .ref r0), (1, .int x1)] [] G := by
  rw [fX3_signAt] at h
  refine z_iload_n (pc := 0) C 1 dX3_signAt_0 rfl rfl ?_
  refine z_if_lt (pc := 1) C dX3_signAt_1 (tgt := 21) (by decide) (fun c1 => ?_) (fun c1 => ?_)
  · rw [if_pos c1] at h
    refine z_iconst (pc := 21) C dX3_signAt_21 (v := (0 : Int32)) (by decide) ?_
    obtain rfl := Option.some.inj h
    exact z_iret (pc := 22) C E dX3_signAt_22 ⟨rfl, rfl⟩
  · rw [if_neg c1] at h
    refine z_iload_n (pc := 4) C 1 dX3_signAt_4 rfl rfl ?_
    refine z_aload_n (pc := 5) C 0 dX3_signAt_5 rfl rfl ?_
    obtain ⟨v2, ev2, h⟩ := ob1_eq h
    refine z_fi (pc := 6) C dX3_signAt_6 fl_X3_19 ev2 ?_
    refine z_ic_ge (pc := 9) C dX3_signAt_9 (tgt := 21) (by decide) (fun c3 => ?_) (fun c3 => ?_)
    · rw [if_pos c3] at h
      refine z_iconst (pc := 21) C dX3_signAt_21 (v := (0 : Int32)) (by decide) ?_
      obtain rfl := Option.some.inj h
      exact z_iret (pc := 22) C E dX3_signAt_22 ⟨rfl, rfl⟩
    · rw [if_neg c3] at h
      refine z_aload_n (pc := 12) C 0 dX3_signAt_12 rfl rfl ?_
      obtain ⟨qv4, eqv4, h⟩ := ob1_eq h
      refine z_fr (pc := 13) C dX3_signAt_13 fl_X3_9 eqv4 ?_
      refine z_iload_n (pc := 16) C 1 dX3_signAt_16 rfl rfl ?_
      obtain ⟨v5, ev5, h⟩ := ob1_eq h
      refine z_bR (pc := 17) C dX3_signAt_17 ev5 ?_
      refine z_goto (pc := 18) C dX3_signAt_18 (tgt := 22) (by decide) ?_
      obtain rfl := Option.some.inj h
      exact z_iret (pc := 22) C E dX3_signAt_22 ⟨rfl, rfl⟩
theorem kX3_signAt (l : Launch) (D : va_G) (cA : Nat → ClassId) (b : Nat) (G : zH) (r0 : Nat) (x1 : Int32) (out : Int32) (h : fX3_signAt G r0 x1 = some out) : zM l D cA b yX3_signAt cX3_signAt 2 (some .int) 0 0 [.ref r0, .int x1] G (poI out G) := z_entry rfl (Nat.le_of_ble_eq_true rfl) (fun X C E _ _ _ => wfX3_signAt C E r0 x1 h)
def fX3_pieceAt (G : zH) (r0 : Nat) (x1 : Int32) : Option Int32 :=
    if x1 < 0 then (some (0 : Int32)) else
    ob1 (fi G r0 3 2) fun v2 =>
    if v2 ≤ x1 then (some (0 : Int32)) else
    ob1 (frf G r0 3 1) fun qv4 =>
    ob1 (aR G 0 qv4 x1) fun v5 =>
    some v5
set_option maxRecDepth 100000 in
set_option maxHeartbeats 4000000 in
theorem wfX3_pieceAt {X : zX} {G : zH} {out : Int32} (C : zOK X cX3_pieceAt yX3_pieceAt.cls 2 (some .int) 0 0) (E : zPost X (poI out G)) (r0 : Nat) (x1 : Int32) (h : fX3_pieceAt G r0 x1 = some out) : zZ X 0 [(0, .ref r0), (1, .int x1)] [] G := by
  rw [fX3_pieceAt] at h
  refine z_iload_n (pc := 0) C 1 dX3_pieceAt_0 rfl rfl ?_
  refine z_if_lt (pc := 1) C dX3_pieceAt_1 (tgt := 21) (by decide) (fun c1 => ?_) (fun c1 => ?_)
  · rw [if_pos c1] at h
    refine z_iconst (pc := 21) C dX3_pieceAt_21 (v := (0 : Int32)) (by decide) ?_
    obtain rfl := Option.some.inj h
    exact z_iret (pc := 22) C E dX3_pieceAt_22 ⟨rfl, rfl⟩
  · rw [if_neg c1] at h
    refine z_iload_n (pc := 4) C 1 dX3_pieceAt_4 rfl rfl ?_
    refine z_aload_n (pc := 5) C 0 dX3_pieceAt_5 rfl rfl ?_
    obtain ⟨v2, ev2, h⟩ := ob1_eq h
    refine z_fi (pc := 6) C dX3_pieceAt_6 fl_X3_19 ev2 ?_
    refine z_ic_ge (pc := 9) C dX3_pieceAt_9 (tgt := 21) (by decide) (fun c3 => ?_) (fun c3 => ?_)
    · rw [if_pos c3] at h
      refine z_iconst (pc := 21) C dX3_pieceAt_21 (v := (0 : Int32)) (by decide) ?_
      obtain rfl := Option.some.inj h
      exact z_iret (pc := 22) C E dX3_pieceAt_22 ⟨rfl, rfl⟩
    · rw [if_neg c3] at h
      refine z_aload_n (pc := 12) C 0 dX3_pieceAt_12 rfl rfl ?_
      obtain ⟨qv4, eqv4, h⟩ := ob1_eq h
      refine z_fr (pc := 13) C dX3_pieceAt_13 fl_X3_15 eqv4 ?_
      refine z_iload_n (pc := 16) C 1 dX3_pieceAt_16 rfl rfl ?_
      obtain ⟨v5, ev5, h⟩ := ob1_eq h
      refine z_aR (pc := 17) C dX3_pieceAt_17 ev5 ?_
      refine z_goto (pc := 18) C dX3_pieceAt_18 (tgt := 22) (by decide) ?_
      obtain rfl := Option.some.inj h
      exact z_iret (pc := 22) C E dX3_pieceAt_22 ⟨rfl, rfl⟩
theorem kX3_pieceAt (l : Launch) (D : va_G) (cA : Nat → ClassId) (b : Nat) (G : zH) (r0 : Nat) (x1 : Int32) (out : Int32) (h : fX3_pieceAt G r0 x1 = some out) : zM l D cA b yX3_pieceAt cX3_pieceAt 2 (some .int) 0 0 [.ref r0, .int x1] G (poI out G) := z_entry rfl (Nat.le_of_ble_eq_true rfl) (fun X C E _ _ _ => wfX3_pieceAt C E r0 x1 h)
def fX3_piecesIn (G : zH) (r0 : Nat) (x1 : Int32) (x2 : Int32) : Option Int32 :=
    ob1 (isO G r0 3) fun u1 =>
    ob1 (fX3_pieceAt G r0 ((x1 + x2) - (1 : Int32))) fun v3 =>
    ob1 (isO G r0 3) fun u4 =>
    ob1 (fX3_pieceAt G r0 x1) fun v6 =>
    some ((v3 - v6) + (1 : Int32))
set_option maxRecDepth 100000 in
set_option maxHeartbeats 4000000 in
theorem wfX3_piecesIn {X : zX} {G : zH} {out : Int32} (C : zOK X cX3_piecesIn yX3_piecesIn.cls 3 (some .int) 1 21) (E : zPost X (poI out G)) (r0 : Nat) (x1 : Int32) (x2 : Int32) (h : fX3_piecesIn G r0 x1 x2 = some out) : zZ X 0 [(0, .ref r0), (1, .int x1), (2, .int x2)] [] G := by
  rw [fX3_piecesIn] at h
  refine z_aload_n (pc := 0) C 0 dX3_piecesIn_0 rfl rfl ?_
  refine z_iload_n (pc := 1) C 1 dX3_piecesIn_1 rfl rfl ?_
  refine z_iload_n (pc := 2) C 2 dX3_piecesIn_2 rfl rfl ?_
  refine z_iadd (pc := 3) C dX3_piecesIn_3 ?_
  refine z_iconst (pc := 4) C dX3_piecesIn_4 (v := (1 : Int32)) (by decide) ?_
  refine z_isub (pc := 5) C dX3_piecesIn_5 ?_
  obtain ⟨u1, eu1, h⟩ := ob1_eq h
  obtain ⟨w2, ew2⟩ := isO_eq eu1
  obtain ⟨v3, ev3, h⟩ := ob1_eq h
  refine z_callVi (h := r0) (As := [.int ((x1 + x2) - (1 : Int32))]) (rest := []) (pc := 6) C dX3_piecesIn_6 ml_X3_40 (kX3_pieceAt _ _ _ _ G r0 ((x1 + x2) - (1 : Int32)) v3 ev3) ew2 rfl rfl rfl (Nat.le_of_ble_eq_true rfl) (by decide) ?_
  refine z_aload_n (pc := 9) C 0 dX3_piecesIn_9 rfl rfl ?_
  refine z_iload_n (pc := 10) C 1 dX3_piecesIn_10 rfl rfl ?_
  obtain ⟨u4, eu4, h⟩ := ob1_eq h
  obtain ⟨w5, ew5⟩ := isO_eq eu4
  obtain ⟨v6, ev6, h⟩ := ob1_eq h
  refine z_callVi (h := r0) (As := [.int x1]) (rest := [.int v3]) (pc := 11) C dX3_piecesIn_11 ml_X3_40 (kX3_pieceAt _ _ _ _ G r0 x1 v6 ev6) ew5 rfl rfl rfl (Nat.le_of_ble_eq_true rfl) (by decide) ?_
  refine z_isub (pc := 14) C dX3_piecesIn_14 ?_
  refine z_iconst (pc := 15) C dX3_piecesIn_15 (v := (1 : Int32)) (by decide) ?_
  refine z_iadd (pc := 16) C dX3_piecesIn_16 ?_
  obtain rfl := Option.some.inj h
  exact z_iret (pc := 17) C E dX3_piecesIn_17 ⟨rfl, rfl⟩
theorem kX3_piecesIn (l : Launch) (D : va_G) (cA : Nat → ClassId) (b : Nat) (G : zH) (r0 : Nat) (x1 : Int32) (x2 : Int32) (out : Int32) (h : fX3_piecesIn G r0 x1 x2 = some out) : zM l D cA b yX3_piecesIn cX3_piecesIn 3 (some .int) 1 21 [.ref r0, .int x1, .int x2] G (poI out G) := z_entry rfl (Nat.le_of_ble_eq_true rfl) (fun X C E _ _ _ => wfX3_piecesIn C E r0 x1 x2 h)
def fX3_breaksIn_b34 (G : zH) (k5 : Nat → Int32 → Int32 → Int32 → Option Int32) (r0 : Nat) (x2 : Int32) (x3 : Int32) (x4 : Int32) : Option Int32 :=
    zlet (x4 + (1 : Int32)) fun y1 =>
    k5 r0 x2 x3 y1
set_option maxRecDepth 100000 in
set_option maxHeartbeats 4000000 in
theorem wfX3_breaksIn_b34 {X : zX} {G : zH} {out : Int32} (C : zOK X cX3_breaksIn yX3_breaksIn.cls 5 (some .int) 1 21) (E : zPost X (poI out G)) (k5 : Nat → Int32 → Int32 → Int32 → Option Int32) (hk5 : ∀ (r0 : Nat) (x2 : Int32) (x3 : Int32) (x4 : Int32), k5 r0 x2 x3 x4 = some out → zZ X 5 [(0, .ref r0), (2, .int x2), (3, .int x3), (4, .int x4)] [] G) (r0 : Nat) (x2 : Int32) (x3 : Int32) (x4 : Int32) (h : fX3_breaksIn_b34 G k5 r0 x2 x3 x4 = some out) : zZ X 34 [(0, .ref r0), (2, .int x2), (3, .int x3), (4, .int x4)] [] G := by
  rw [fX3_breaksIn_b34] at h
  obtain ⟨y1, ey1, h⟩ := zlet_eq h
  refine z_iinc (pc := 34) (v := y1) C 3 dX3_breaksIn_34 rfl (by rw [ey1]; rfl) (by decide) (show zput _ _ _ = [(4, .int y1), (0, .ref r0), (2, .int x2), (3, .int x3)] from rfl) ?_
  refine z_goto (pc := 37) C dX3_breaksIn_37 (tgt := 5) (by decide) ?_
  exact z_subL [1, 2, 3, 0] (hk5 r0 x2 x3 y1 h) rfl
def fX3_breaksIn_b5 (G : zH) : Nat → Nat → Int32 → Int32 → Int32 → Option Int32
  | 0, _, _, _, _ => none
  | n + 1, r0, x2, x3, x4 =>
    if x2 ≤ x4 then (some x3) else
    ob1 (fi G r0 3 2) fun v2 =>
    if v2 ≤ x4 then (some x3) else
    ob1 (isO G r0 3) fun u4 =>
    ob1 (fX3_signAt G r0 x4) fun v6 =>
    if v6 = (10 : Int32) then (zlet (x3 + (1 : Int32)) fun y8 =>
    fX3_breaksIn_b34 G (fX3_breaksIn_b5 G n) r0 x2 y8 x4) else
    fX3_breaksIn_b34 G (fX3_breaksIn_b5 G n) r0 x2 x3 x4
set_option maxRecDepth 100000 in
set_option maxHeartbeats 4000000 in
theorem wfX3_breaksIn_b5 {X : zX} {G : zH} {out : Int32} (C : zOK X cX3_breaksIn yX3_breaksIn.cls 5 (some .int) 1 21) (E : zPost X (poI out G)) : ∀ (n : Nat) (r0 : Nat) (x2 : Int32) (x3 : Int32) (x4 : Int32) (h : fX3_breaksIn_b5 G n r0 x2 x3 x4 = some out), zZ X 5 [(0, .ref r0), (2, .int x2), (3, .int x3), (4, .int x4)] [] G := by
  intro n
  induction n with
  | zero => intro r0 x2 x3 x4 h; cases h
  | succ n ih =>
    intro r0 x2 x3 x4 h
    rw [fX3_breaksIn_b5] at h
    refine z_iload (pc := 5) C 3 dX3_breaksIn_5 rfl ?_
    refine z_iload_n (pc := 7) C 1 dX3_breaksIn_7 rfl rfl ?_
    refine z_ic_ge (pc := 8) C dX3_breaksIn_8 (tgt := 40) (by decide) (fun c1 => ?_) (fun c1 => ?_)
    · rw [if_pos c1] at h
      refine z_iload_n (pc := 40) C 2 dX3_breaksIn_40 rfl rfl ?_
      obtain rfl := Option.some.inj h
      exact z_iret (pc := 41) C E dX3_breaksIn_41 ⟨rfl, rfl⟩
    · rw [if_neg c1] at h
      refine z_iload (pc := 11) C 3 dX3_breaksIn_11 rfl ?_
      refine z_aload_n (pc := 13) C 0 dX3_breaksIn_13 rfl rfl ?_
      obtain ⟨v2, ev2, h⟩ := ob1_eq h
      refine z_fi (pc := 14) C dX3_breaksIn_14 fl_X3_19 ev2 ?_
      refine z_ic_ge (pc := 17) C dX3_breaksIn_17 (tgt := 40) (by decide) (fun c3 => ?_) (fun c3 => ?_)
      · rw [if_pos c3] at h
        refine z_iload_n (pc := 40) C 2 dX3_breaksIn_40 rfl rfl ?_
        obtain rfl := Option.some.inj h
        exact z_iret (pc := 41) C E dX3_breaksIn_41 ⟨rfl, rfl⟩
      · rw [if_neg c3] at h
        refine z_aload_n (pc := 20) C 0 dX3_breaksIn_20 rfl rfl ?_
        refine z_iload (pc := 21) C 3 dX3_breaksIn_21 rfl ?_
        obtain ⟨u4, eu4, h⟩ := ob1_eq h
        obtain ⟨w5, ew5⟩ := isO_eq eu4
        obtain ⟨v6, ev6, h⟩ := ob1_eq h
        refine z_callVi (h := r0) (As := [.int x4]) (rest := []) (pc := 23) C dX3_breaksIn_23 ml_X3_43 (kX3_signAt _ _ _ _ G r0 x4 v6 ev6) ew5 rfl rfl rfl (Nat.le_of_ble_eq_true rfl) (by decide) ?_
        refine z_bipush (pc := 26) C dX3_breaksIn_26 (v := (10 : Int32)) (by decide) ?_
        refine z_ic_ne (pc := 28) C dX3_breaksIn_28 (tgt := 34) (by decide) (fun c7 => ?_) (fun c7 => ?_)
        · rw [if_neg c7] at h
          exact z_subL [0, 1, 2, 3] (wfX3_breaksIn_b34 C E (fX3_breaksIn_b5 G n) ih r0 x2 x3 x4 h) rfl
        · rw [if_pos c7] at h
          obtain ⟨y8, ey8, h⟩ := zlet_eq h
          refine z_iinc (pc := 31) (v := y8) C 2 dX3_breaksIn_31 rfl (by rw [ey8]; rfl) (by decide) (show zput _ _ _ = [(3, .int y8), (0, .ref r0), (2, .int x2), (4, .int x4)] from rfl) ?_
          exact z_subL [1, 2, 0, 3] (wfX3_breaksIn_b34 C E (fX3_breaksIn_b5 G n) ih r0 x2 y8 x4 h) rfl
def fX3_breaksIn (G : zH) (r0 : Nat) (x1 : Int32) (x2 : Int32) : Option Int32 :=
    fX3_breaksIn_b5 G FU r0 x2 (0 : Int32) x1
set_option maxRecDepth 100000 in
set_option maxHeartbeats 4000000 in
theorem wfX3_breaksIn {X : zX} {G : zH} {out : Int32} (C : zOK X cX3_breaksIn yX3_breaksIn.cls 5 (some .int) 1 21) (E : zPost X (poI out G)) (r0 : Nat) (x1 : Int32) (x2 : Int32) (h : fX3_breaksIn G r0 x1 x2 = some out) : zZ X 0 [(0, .ref r0), (1, .int x1), (2, .int x2)] [] G := by
  rw [fX3_breaksIn] at h
  refine z_iconst (pc := 0) C dX3_breaksIn_0 (v := (0 : Int32)) (by decide) ?_
  refine z_istore_n (pc := 1) C dX3_breaksIn_1 rfl (by decide) (show zput _ _ _ = [(3, .int (0 : Int32)), (0, .ref r0), (1, .int x1), (2, .int x2)] from rfl) ?_
  refine z_iload_n (pc := 2) C 2 dX3_breaksIn_2 rfl rfl ?_
  refine z_istore (pc := 3) C dX3_breaksIn_3 (by decide) (show zput _ _ _ = [(4, .int x1), (3, .int (0 : Int32)), (0, .ref r0), (1, .int x1), (2, .int x2)] from rfl) ?_
  exact z_subL [2, 4, 1, 0] (wfX3_breaksIn_b5 C E FU r0 x2 (0 : Int32) x1 h) rfl
theorem kX3_breaksIn (l : Launch) (D : va_G) (cA : Nat → ClassId) (b : Nat) (G : zH) (r0 : Nat) (x1 : Int32) (x2 : Int32) (out : Int32) (h : fX3_breaksIn G r0 x1 x2 = some out) : zM l D cA b yX3_breaksIn cX3_breaksIn 5 (some .int) 1 21 [.ref r0, .int x1, .int x2] G (poI out G) := z_entry rfl (Nat.le_of_ble_eq_true rfl) (fun X C E _ _ _ => wfX3_breaksIn C E r0 x1 x2 h)
def fX3_lineStart_b35 (G : zH) (x2 : Int32) (x3 : Int32) : Option Int32 :=
    if x2 = 0 then (some x3) else
    some (-1 : Int32)
set_option maxRecDepth 100000 in
set_option maxHeartbeats 4000000 in
theorem wfX3_lineStart_b35 {X : zX} {G : zH} {out : Int32} (C : zOK X cX3_lineStart yX3_lineStart.cls 4 (some .int) 1 21) (E : zPost X (poI out G)) (x2 : Int32) (x3 : Int32) (h : fX3_lineStart_b35 G x2 x3 = some out) : zZ X 35 [(2, .int x2), (3, .int x3)] [] G := by
  rw [fX3_lineStart_b35] at h
  refine z_iload_n (pc := 35) C 0 dX3_lineStart_35 rfl rfl ?_
  refine z_if_ne (pc := 36) C dX3_lineStart_36 (tgt := 43) (by decide) (fun c1 => ?_) (fun c1 => ?_)
  · rw [if_neg c1] at h
    refine z_iconst (pc := 43) C dX3_lineStart_43 (v := (-1 : Int32)) (by decide) ?_
    obtain rfl := Option.some.inj h
    exact z_iret (pc := 44) C E dX3_lineStart_44 ⟨rfl, rfl⟩
  · rw [if_pos c1] at h
    refine z_iload_n (pc := 39) C 1 dX3_lineStart_39 rfl rfl ?_
    refine z_goto (pc := 40) C dX3_lineStart_40 (tgt := 44) (by decide) ?_
    obtain rfl := Option.some.inj h
    exact z_iret (pc := 44) C E dX3_lineStart_44 ⟨rfl, rfl⟩
def fX3_lineStart_b29 (G : zH) (k4 : Nat → Int32 → Int32 → Option Int32) (r0 : Nat) (x2 : Int32) (x3 : Int32) : Option Int32 :=
    zlet (x3 + (1 : Int32)) fun y1 =>
    k4 r0 x2 y1
set_option maxRecDepth 100000 in
set_option maxHeartbeats 4000000 in
theorem wfX3_lineStart_b29 {X : zX} {G : zH} {out : Int32} (C : zOK X cX3_lineStart yX3_lineStart.cls 4 (some .int) 1 21) (E : zPost X (poI out G)) (k4 : Nat → Int32 → Int32 → Option Int32) (hk4 : ∀ (r0 : Nat) (x2 : Int32) (x3 : Int32), k4 r0 x2 x3 = some out → zZ X 4 [(0, .ref r0), (2, .int x2), (3, .int x3)] [] G) (r0 : Nat) (x2 : Int32) (x3 : Int32) (h : fX3_lineStart_b29 G k4 r0 x2 x3 = some out) : zZ X 29 [(0, .ref r0), (2, .int x2), (3, .int x3)] [] G := by
  rw [fX3_lineStart_b29] at h
  obtain ⟨y1, ey1, h⟩ := zlet_eq h
  refine z_iinc (pc := 29) (v := y1) C 2 dX3_lineStart_29 rfl (by rw [ey1]; rfl) (by decide) (show zput _ _ _ = [(3, .int y1), (0, .ref r0), (2, .int x2)] from rfl) ?_
  refine z_goto (pc := 32) C dX3_lineStart_32 (tgt := 4) (by decide) ?_
  exact z_subL [1, 2, 0] (hk4 r0 x2 y1 h) rfl
def fX3_lineStart_b4 (G : zH) : Nat → Nat → Int32 → Int32 → Option Int32
  | 0, _, _, _ => none
  | n + 1, r0, x2, x3 =>
    ob1 (fi G r0 3 2) fun v1 =>
    if v1 ≤ x3 then (fX3_lineStart_b35 G x2 x3) else
    if x2 ≤ 0 then (fX3_lineStart_b35 G x2 x3) else
    ob1 (isO G r0 3) fun u4 =>
    ob1 (fX3_signAt G r0 x3) fun v6 =>
    if v6 = (10 : Int32) then (zlet (x2 + (-1 : Int32)) fun y8 =>
    fX3_lineStart_b29 G (fX3_lineStart_b4 G n) r0 y8 x3) else
    fX3_lineStart_b29 G (fX3_lineStart_b4 G n) r0 x2 x3
set_option maxRecDepth 100000 in
set_option maxHeartbeats 4000000 in
theorem wfX3_lineStart_b4 {X : zX} {G : zH} {out : Int32} (C : zOK X cX3_lineStart yX3_lineStart.cls 4 (some .int) 1 21) (E : zPost X (poI out G)) : ∀ (n : Nat) (r0 : Nat) (x2 : Int32) (x3 : Int32) (h : fX3_lineStart_b4 G n r0 x2 x3 = some out), zZ X 4 [(0, .ref r0), (2, .int x2), (3, .int x3)] [] G := by
  intro n
  induction n with
  | zero => intro r0 x2 x3 h; cases h
  | succ n ih =>
    intro r0 x2 x3 h
    rw [fX3_lineStart_b4] at h
    refine z_iload_n (pc := 4) C 2 dX3_lineStart_4 rfl rfl ?_
    refine z_aload_n (pc := 5) C 0 dX3_lineStart_5 rfl rfl ?_
    obtain ⟨v1, ev1, h⟩ := ob1_eq h
    refine z_fi (pc := 6) C dX3_lineStart_6 fl_X3_19 ev1 ?_
    refine z_ic_ge (pc := 9) C dX3_lineStart_9 (tgt := 35) (by decide) (fun c2 => ?_) (fun c2 => ?_)
    · rw [if_pos c2] at h
      exact z_subL [1, 2] (wfX3_lineStart_b35 C E x2 x3 h) rfl
    · rw [if_neg c2] at h
      refine z_iload_n (pc := 12) C 1 dX3_lineStart_12 rfl rfl ?_
      refine z_if_le (pc := 13) C dX3_lineStart_13 (tgt := 35) (by decide) (fun c3 => ?_) (fun c3 => ?_)
      · rw [if_pos c3] at h
        exact z_subL [1, 2] (wfX3_lineStart_b35 C E x2 x3 h) rfl
      · rw [if_neg c3] at h
        refine z_aload_n (pc := 16) C 0 dX3_lineStart_16 rfl rfl ?_
        refine z_iload_n (pc := 17) C 2 dX3_lineStart_17 rfl rfl ?_
        obtain ⟨u4, eu4, h⟩ := ob1_eq h
        obtain ⟨w5, ew5⟩ := isO_eq eu4
        obtain ⟨v6, ev6, h⟩ := ob1_eq h
        refine z_callVi (h := r0) (As := [.int x3]) (rest := []) (pc := 18) C dX3_lineStart_18 ml_X3_43 (kX3_signAt _ _ _ _ G r0 x3 v6 ev6) ew5 rfl rfl rfl (Nat.le_of_ble_eq_true rfl) (by decide) ?_
        refine z_bipush (pc := 21) C dX3_lineStart_21 (v := (10 : Int32)) (by decide) ?_
        refine z_ic_ne (pc := 23) C dX3_lineStart_23 (tgt := 29) (by decide) (fun c7 => ?_) (fun c7 => ?_)
        · rw [if_neg c7] at h
          exact z_subL [0, 1, 2] (wfX3_lineStart_b29 C E (fX3_lineStart_b4 G n) ih r0 x2 x3 h) rfl
        · rw [if_pos c7] at h
          obtain ⟨y8, ey8, h⟩ := zlet_eq h
          refine z_iinc (pc := 26) (v := y8) C 1 dX3_lineStart_26 rfl (by rw [ey8]; rfl) (by decide) (show zput _ _ _ = [(2, .int y8), (0, .ref r0), (3, .int x3)] from rfl) ?_
          exact z_subL [1, 0, 2] (wfX3_lineStart_b29 C E (fX3_lineStart_b4 G n) ih r0 y8 x3 h) rfl
def fX3_lineStart (G : zH) (r0 : Nat) (x1 : Int32) : Option Int32 :=
    fX3_lineStart_b4 G FU r0 x1 (0 : Int32)
set_option maxRecDepth 100000 in
set_option maxHeartbeats 4000000 in
theorem wfX3_lineStart {X : zX} {G : zH} {out : Int32} (C : zOK X cX3_lineStart yX3_lineStart.cls 4 (some .int) 1 21) (E : zPost X (poI out G)) (r0 : Nat) (x1 : Int32) (h : fX3_lineStart G r0 x1 = some out) : zZ X 0 [(0, .ref r0), (1, .int x1)] [] G := by
  rw [fX3_lineStart] at h
  refine z_iload_n (pc := 0) C 1 dX3_lineStart_0 rfl rfl ?_
  refine z_istore_n (pc := 1) C dX3_lineStart_1 rfl (by decide) (show zput _ _ _ = [(2, .int x1), (0, .ref r0), (1, .int x1)] from rfl) ?_
  refine z_iconst (pc := 2) C dX3_lineStart_2 (v := (0 : Int32)) (by decide) ?_
  refine z_istore_n (pc := 3) C dX3_lineStart_3 rfl (by decide) (show zput _ _ _ = [(3, .int (0 : Int32)), (2, .int x1), (0, .ref r0), (1, .int x1)] from rfl) ?_
  exact z_subL [2, 1, 0] (wfX3_lineStart_b4 C E FU r0 x1 (0 : Int32) h) rfl
theorem kX3_lineStart (l : Launch) (D : va_G) (cA : Nat → ClassId) (b : Nat) (G : zH) (r0 : Nat) (x1 : Int32) (out : Int32) (h : fX3_lineStart G r0 x1 = some out) : zM l D cA b yX3_lineStart cX3_lineStart 4 (some .int) 1 21 [.ref r0, .int x1] G (poI out G) := z_entry rfl (Nat.le_of_ble_eq_true rfl) (fun X C E _ _ _ => wfX3_lineStart C E r0 x1 h)
def fX3_lineBegin_b6 (G : zH) : Nat → Nat → Int32 → Option Int32
  | 0, _, _ => none
  | n + 1, r0, x2 =>
    if x2 ≤ 0 then (some x2) else
    ob1 (isO G r0 3) fun u2 =>
    ob1 (fX3_signAt G r0 (x2 - (1 : Int32))) fun v4 =>
    if v4 = (10 : Int32) then (some x2) else
    zlet (x2 + (-1 : Int32)) fun y6 =>
    (fX3_lineBegin_b6 G n) r0 y6
set_option maxRecDepth 100000 in
set_option maxHeartbeats 4000000 in
theorem wfX3_lineBegin_b6 {X : zX} {G : zH} {out : Int32} (C : zOK X cX3_lineBegin yX3_lineBegin.cls 3 (some .int) 1 21) (E : zPost X (poI out G)) : ∀ (n : Nat) (r0 : Nat) (x2 : Int32) (h : fX3_lineBegin_b6 G n r0 x2 = some out), zZ X 6 [(0, .ref r0), (2, .int x2)] [] G := by
  intro n
  induction n with
  | zero => intro r0 x2 h; cases h
  | succ n ih =>
    intro r0 x2 h
    rw [fX3_lineBegin_b6] at h
    refine z_iload_n (pc := 6) C 1 dX3_lineBegin_6 rfl rfl ?_
    refine z_if_le (pc := 7) C dX3_lineBegin_7 (tgt := 28) (by decide) (fun c1 => ?_) (fun c1 => ?_)
    · rw [if_pos c1] at h
      refine z_iload_n (pc := 28) C 1 dX3_lineBegin_28 rfl rfl ?_
      obtain rfl := Option.some.inj h
      exact z_iret (pc := 29) C E dX3_lineBegin_29 ⟨rfl, rfl⟩
    · rw [if_neg c1] at h
      refine z_aload_n (pc := 10) C 0 dX3_lineBegin_10 rfl rfl ?_
      refine z_iload_n (pc := 11) C 1 dX3_lineBegin_11 rfl rfl ?_
      refine z_iconst (pc := 12) C dX3_lineBegin_12 (v := (1 : Int32)) (by decide) ?_
      refine z_isub (pc := 13) C dX3_lineBegin_13 ?_
      obtain ⟨u2, eu2, h⟩ := ob1_eq h
      obtain ⟨w3, ew3⟩ := isO_eq eu2
      obtain ⟨v4, ev4, h⟩ := ob1_eq h
      refine z_callVi (h := r0) (As := [.int (x2 - (1 : Int32))]) (rest := []) (pc := 14) C dX3_lineBegin_14 ml_X3_43 (kX3_signAt _ _ _ _ G r0 (x2 - (1 : Int32)) v4 ev4) ew3 rfl rfl rfl (Nat.le_of_ble_eq_true rfl) (by decide) ?_
      refine z_bipush (pc := 17) C dX3_lineBegin_17 (v := (10 : Int32)) (by decide) ?_
      refine z_ic_eq (pc := 19) C dX3_lineBegin_19 (tgt := 28) (by decide) (fun c5 => ?_) (fun c5 => ?_)
      · rw [if_pos c5] at h
        refine z_iload_n (pc := 28) C 1 dX3_lineBegin_28 rfl rfl ?_
        obtain rfl := Option.some.inj h
        exact z_iret (pc := 29) C E dX3_lineBegin_29 ⟨rfl, rfl⟩
      · rw [if_neg c5] at h
        obtain ⟨y6, ey6, h⟩ := zlet_eq h
        refine z_iinc (pc := 22) (v := y6) C 1 dX3_lineBegin_22 rfl (by rw [ey6]; rfl) (by decide) (show zput _ _ _ = [(2, .int y6), (0, .ref r0)] from rfl) ?_
        refine z_goto (pc := 25) C dX3_lineBegin_25 (tgt := 6) (by decide) ?_
        exact z_subL [1, 0] (ih r0 y6 h) rfl
def fX3_lineBegin (G : zH) (r0 : Nat) (x1 : Int32) : Option Int32 :=
    zlet ((if x1 < (0 : Int32) then (0 : Int32) else x1)) fun y1 =>
    fX3_lineBegin_b6 G FU r0 y1
set_option maxRecDepth 100000 in
set_option maxHeartbeats 4000000 in
theorem wfX3_lineBegin {X : zX} {G : zH} {out : Int32} (C : zOK X cX3_lineBegin yX3_lineBegin.cls 3 (some .int) 1 21) (E : zPost X (poI out G)) (r0 : Nat) (x1 : Int32) (h : fX3_lineBegin G r0 x1 = some out) : zZ X 0 [(0, .ref r0), (1, .int x1)] [] G := by
  rw [fX3_lineBegin] at h
  refine z_iload_n (pc := 0) C 1 dX3_lineBegin_0 rfl rfl ?_
  refine z_iconst (pc := 1) C dX3_lineBegin_1 (v := (0 : Int32)) (by decide) ?_
  refine z_mmax (pc := 2) C dX3_lineBegin_2 ml_X3_44 w_max1 w_math w_max2 (Nat.le_of_ble_eq_true rfl) (by decide) ?_
  obtain ⟨y1, ey1, h⟩ := zlet_eq h
  refine z_topi ey1 ?_
  refine z_istore_n (pc := 5) C dX3_lineBegin_5 rfl (by decide) (show zput _ _ _ = [(2, .int y1), (0, .ref r0), (1, .int x1)] from rfl) ?_
  exact z_subL [1, 0] (wfX3_lineBegin_b6 C E FU r0 y1 h) rfl
theorem kX3_lineBegin (l : Launch) (D : va_G) (cA : Nat → ClassId) (b : Nat) (G : zH) (r0 : Nat) (x1 : Int32) (out : Int32) (h : fX3_lineBegin G r0 x1 = some out) : zM l D cA b yX3_lineBegin cX3_lineBegin 3 (some .int) 1 21 [.ref r0, .int x1] G (poI out G) := z_entry rfl (Nat.le_of_ble_eq_true rfl) (fun X C E _ _ _ => wfX3_lineBegin C E r0 x1 h)
def fX3_lineEnd_b2 (G : zH) : Nat → Nat → Int32 → Option Int32
  | 0, _, _ => none
  | n + 1, r0, x2 =>
    ob1 (fi G r0 3 2) fun v1 =>
    if v1 ≤ x2 then (some x2) else
    ob1 (isO G r0 3) fun u3 =>
    ob1 (fX3_signAt G r0 x2) fun v5 =>
    if v5 = (10 : Int32) then (some x2) else
    zlet (x2 + (1 : Int32)) fun y7 =>
    (fX3_lineEnd_b2 G n) r0 y7
set_option maxRecDepth 100000 in
set_option maxHeartbeats 4000000 in
theorem wfX3_lineEnd_b2 {X : zX} {G : zH} {out : Int32} (C : zOK X cX3_lineEnd yX3_lineEnd.cls 3 (some .int) 1 21) (E : zPost X (poI out G)) : ∀ (n : Nat) (r0 : Nat) (x2 : Int32) (h : fX3_lineEnd_b2 G n r0 x2 = some out), zZ X 2 [(0, .ref r0), (2, .int x2)] [] G := by
  intro n
  induction n with
  | zero => intro r0 x2 h; cases h
  | succ n ih =>
    intro r0 x2 h
    rw [fX3_lineEnd_b2] at h
    refine z_iload_n (pc := 2) C 1 dX3_lineEnd_2 rfl rfl ?_
    refine z_aload_n (pc := 3) C 0 dX3_lineEnd_3 rfl rfl ?_
    obtain ⟨v1, ev1, h⟩ := ob1_eq h
    refine z_fi (pc := 4) C dX3_lineEnd_4 fl_X3_19 ev1 ?_
    refine z_ic_ge (pc := 7) C dX3_lineEnd_7 (tgt := 26) (by decide) (fun c2 => ?_) (fun c2 => ?_)
    · rw [if_pos c2] at h
      refine z_iload_n (pc := 26) C 1 dX3_lineEnd_26 rfl rfl ?_
      obtain rfl := Option.some.inj h
      exact z_iret (pc := 27) C E dX3_lineEnd_27 ⟨rfl, rfl⟩
    · rw [if_neg c2] at h
      refine z_aload_n (pc := 10) C 0 dX3_lineEnd_10 rfl rfl ?_
      refine z_iload_n (pc := 11) C 1 dX3_lineEnd_11 rfl rfl ?_
      obtain ⟨u3, eu3, h⟩ := ob1_eq h
      obtain ⟨w4, ew4⟩ := isO_eq eu3
      obtain ⟨v5, ev5, h⟩ := ob1_eq h
      refine z_callVi (h := r0) (As := [.int x2]) (rest := []) (pc := 12) C dX3_lineEnd_12 ml_X3_43 (kX3_signAt _ _ _ _ G r0 x2 v5 ev5) ew4 rfl rfl rfl (Nat.le_of_ble_eq_true rfl) (by decide) ?_
      refine z_bipush (pc := 15) C dX3_lineEnd_15 (v := (10 : Int32)) (by decide) ?_
      refine z_ic_eq (pc := 17) C dX3_lineEnd_17 (tgt := 26) (by decide) (fun c6 => ?_) (fun c6 => ?_)
      · rw [if_pos c6] at h
        refine z_iload_n (pc := 26) C 1 dX3_lineEnd_26 rfl rfl ?_
        obtain rfl := Option.some.inj h
        exact z_iret (pc := 27) C E dX3_lineEnd_27 ⟨rfl, rfl⟩
      · rw [if_neg c6] at h
        obtain ⟨y7, ey7, h⟩ := zlet_eq h
        refine z_iinc (pc := 20) (v := y7) C 1 dX3_lineEnd_20 rfl (by rw [ey7]; rfl) (by decide) (show zput _ _ _ = [(2, .int y7), (0, .ref r0)] from rfl) ?_
        refine z_goto (pc := 23) C dX3_lineEnd_23 (tgt := 2) (by decide) ?_
        exact z_subL [1, 0] (ih r0 y7 h) rfl
def fX3_lineEnd (G : zH) (r0 : Nat) (x1 : Int32) : Option Int32 :=
    fX3_lineEnd_b2 G FU r0 x1
set_option maxRecDepth 100000 in
set_option maxHeartbeats 4000000 in
theorem wfX3_lineEnd {X : zX} {G : zH} {out : Int32} (C : zOK X cX3_lineEnd yX3_lineEnd.cls 3 (some .int) 1 21) (E : zPost X (poI out G)) (r0 : Nat) (x1 : Int32) (h : fX3_lineEnd G r0 x1 = some out) : zZ X 0 [(0, .ref r0), (1, .int x1)] [] G := by
  rw [fX3_lineEnd] at h
  refine z_iload_n (pc := 0) C 1 dX3_lineEnd_0 rfl rfl ?_
  refine z_istore_n (pc := 1) C dX3_lineEnd_1 rfl (by decide) (show zput _ _ _ = [(2, .int x1), (0, .ref r0), (1, .int x1)] from rfl) ?_
  exact z_subL [1, 0] (wfX3_lineEnd_b2 C E FU r0 x1 h) rfl
theorem kX3_lineEnd (l : Launch) (D : va_G) (cA : Nat → ClassId) (b : Nat) (G : zH) (r0 : Nat) (x1 : Int32) (out : Int32) (h : fX3_lineEnd G r0 x1 = some out) : zM l D cA b yX3_lineEnd cX3_lineEnd 3 (some .int) 1 21 [.ref r0, .int x1] G (poI out G) := z_entry rfl (Nat.le_of_ble_eq_true rfl) (fun X C E _ _ _ => wfX3_lineEnd C E r0 x1 h)
def fX6_isSmall (x0 : Int32) : Option Int32 :=
    if x0 < (97 : Int32) then (some (0 : Int32)) else
    if (122 : Int32) < x0 then (some (0 : Int32)) else
    some (1 : Int32)
set_option maxRecDepth 100000 in
set_option maxHeartbeats 4000000 in
theorem wfX6_isSmall {X : zX} {G : zH} {out : Int32} (C : zOK X cX6_isSmall yX6_isSmall.cls 1 (some .boolean) 0 0) (E : zPost X (poI out G)) (x0 : Int32) (h : fX6_isSmall x0 = some out) : zZ X 0 [(0, .int x0)] [] G := by
  rw [fX6_isSmall] at h
  refine z_iload_n (pc := 0) C 0 dX6_isSmall_0 rfl rfl ?_
  refine z_bipush (pc := 1) C dX6_isSmall_1 (v := (97 : Int32)) (by decide) ?_
  refine z_ic_lt (pc := 3) C dX6_isSmall_3 (tgt := 16) (by decide) (fun c1 => ?_) (fun c1 => ?_)
  · rw [if_pos c1] at h
    refine z_iconst (pc := 16) C dX6_isSmall_16 (v := (0 : Int32)) (by decide) ?_
    obtain rfl := Option.some.inj h
    exact z_zret (pc := 17) C E dX6_isSmall_17 rfl ⟨rfl, rfl⟩
  · rw [if_neg c1] at h
    refine z_iload_n (pc := 6) C 0 dX6_isSmall_6 rfl rfl ?_
    refine z_bipush (pc := 7) C dX6_isSmall_7 (v := (122 : Int32)) (by decide) ?_
    refine z_ic_gt (pc := 9) C dX6_isSmall_9 (tgt := 16) (by decide) (fun c2 => ?_) (fun c2 => ?_)
    · rw [if_pos c2] at h
      refine z_iconst (pc := 16) C dX6_isSmall_16 (v := (0 : Int32)) (by decide) ?_
      obtain rfl := Option.some.inj h
      exact z_zret (pc := 17) C E dX6_isSmall_17 rfl ⟨rfl, rfl⟩
    · rw [if_neg c2] at h
      refine z_iconst (pc := 12) C dX6_isSmall_12 (v := (1 : Int32)) (by decide) ?_
      refine z_goto (pc := 13) C dX6_isSmall_13 (tgt := 17) (by decide) ?_
      obtain rfl := Option.some.inj h
      exact z_zret (pc := 17) C E dX6_isSmall_17 rfl ⟨rfl, rfl⟩
theorem kX6_isSmall (l : Launch) (D : va_G) (cA : Nat → ClassId) (b : Nat) (G : zH) (x0 : Int32) (out : Int32) (h : fX6_isSmall x0 = some out) : zM l D cA b yX6_isSmall cX6_isSmall 1 (some .boolean) 0 0 [.int x0] G (poI out G) := z_entry rfl (Nat.le_of_ble_eq_true rfl) (fun X C E _ _ _ => wfX6_isSmall C E x0 h)
def fX6_isCapital (x0 : Int32) : Option Int32 :=
    if x0 < (65 : Int32) then (some (0 : Int32)) else
    if (90 : Int32) < x0 then (some (0 : Int32)) else
    some (1 : Int32)
set_option maxRecDepth 100000 in
set_option maxHeartbeats 4000000 in
theorem wfX6_isCapital {X : zX} {G : zH} {out : Int32} (C : zOK X cX6_isCapital yX6_isCapital.cls 1 (some .boolean) 0 0) (E : zPost X (poI out G)) (x0 : Int32) (h : fX6_isCapital x0 = some out) : zZ X 0 [(0, .int x0)] [] G := by
  rw [fX6_isCapital] at h
  refine z_iload_n (pc := 0) C 0 dX6_isCapital_0 rfl rfl ?_
  refine z_bipush (pc := 1) C dX6_isCapital_1 (v := (65 : Int32)) (by decide) ?_
  refine z_ic_lt (pc := 3) C dX6_isCapital_3 (tgt := 16) (by decide) (fun c1 => ?_) (fun c1 => ?_)
  · rw [if_pos c1] at h
    refine z_iconst (pc := 16) C dX6_isCapital_16 (v := (0 : Int32)) (by decide) ?_
    obtain rfl := Option.some.inj h
    exact z_zret (pc := 17) C E dX6_isCapital_17 rfl ⟨rfl, rfl⟩
  · rw [if_neg c1] at h
    refine z_iload_n (pc := 6) C 0 dX6_isCapital_6 rfl rfl ?_
    refine z_bipush (pc := 7) C dX6_isCapital_7 (v := (90 : Int32)) (by decide) ?_
    refine z_ic_gt (pc := 9) C dX6_isCapital_9 (tgt := 16) (by decide) (fun c2 => ?_) (fun c2 => ?_)
    · rw [if_pos c2] at h
      refine z_iconst (pc := 16) C dX6_isCapital_16 (v := (0 : Int32)) (by decide) ?_
      obtain rfl := Option.some.inj h
      exact z_zret (pc := 17) C E dX6_isCapital_17 rfl ⟨rfl, rfl⟩
    · rw [if_neg c2] at h
      refine z_iconst (pc := 12) C dX6_isCapital_12 (v := (1 : Int32)) (by decide) ?_
      refine z_goto (pc := 13) C dX6_isCapital_13 (tgt := 17) (by decide) ?_
      obtain rfl := Option.some.inj h
      exact z_zret (pc := 17) C E dX6_isCapital_17 rfl ⟨rfl, rfl⟩
theorem kX6_isCapital (l : Launch) (D : va_G) (cA : Nat → ClassId) (b : Nat) (G : zH) (x0 : Int32) (out : Int32) (h : fX6_isCapital x0 = some out) : zM l D cA b yX6_isCapital cX6_isCapital 1 (some .boolean) 0 0 [.int x0] G (poI out G) := z_entry rfl (Nat.le_of_ble_eq_true rfl) (fun X C E _ _ _ => wfX6_isCapital C E x0 h)
def fX6_isDigit (x0 : Int32) : Option Int32 :=
    if x0 < (48 : Int32) then (some (0 : Int32)) else
    if (57 : Int32) < x0 then (some (0 : Int32)) else
    some (1 : Int32)
set_option maxRecDepth 100000 in
set_option maxHeartbeats 4000000 in
theorem wfX6_isDigit {X : zX} {G : zH} {out : Int32} (C : zOK X cX6_isDigit yX6_isDigit.cls 1 (some .boolean) 0 0) (E : zPost X (poI out G)) (x0 : Int32) (h : fX6_isDigit x0 = some out) : zZ X 0 [(0, .int x0)] [] G := by
  rw [fX6_isDigit] at h
  refine z_iload_n (pc := 0) C 0 dX6_isDigit_0 rfl rfl ?_
  refine z_bipush (pc := 1) C dX6_isDigit_1 (v := (48 : Int32)) (by decide) ?_
  refine z_ic_lt (pc := 3) C dX6_isDigit_3 (tgt := 16) (by decide) (fun c1 => ?_) (fun c1 => ?_)
  · rw [if_pos c1] at h
    refine z_iconst (pc := 16) C dX6_isDigit_16 (v := (0 : Int32)) (by decide) ?_
    obtain rfl := Option.some.inj h
    exact z_zret (pc := 17) C E dX6_isDigit_17 rfl ⟨rfl, rfl⟩
  · rw [if_neg c1] at h
    refine z_iload_n (pc := 6) C 0 dX6_isDigit_6 rfl rfl ?_
    refine z_bipush (pc := 7) C dX6_isDigit_7 (v := (57 : Int32)) (by decide) ?_
    refine z_ic_gt (pc := 9) C dX6_isDigit_9 (tgt := 16) (by decide) (fun c2 => ?_) (fun c2 => ?_)
    · rw [if_pos c2] at h
      refine z_iconst (pc := 16) C dX6_isDigit_16 (v := (0 : Int32)) (by decide) ?_
      obtain rfl := Option.some.inj h
      exact z_zret (pc := 17) C E dX6_isDigit_17 rfl ⟨rfl, rfl⟩
    · rw [if_neg c2] at h
      refine z_iconst (pc := 12) C dX6_isDigit_12 (v := (1 : Int32)) (by decide) ?_
      refine z_goto (pc := 13) C dX6_isDigit_13 (tgt := 17) (by decide) ?_
      obtain rfl := Option.some.inj h
      exact z_zret (pc := 17) C E dX6_isDigit_17 rfl ⟨rfl, rfl⟩
theorem kX6_isDigit (l : Launch) (D : va_G) (cA : Nat → ClassId) (b : Nat) (G : zH) (x0 : Int32) (out : Int32) (h : fX6_isDigit x0 = some out) : zM l D cA b yX6_isDigit cX6_isDigit 1 (some .boolean) 0 0 [.int x0] G (poI out G) := z_entry rfl (Nat.le_of_ble_eq_true rfl) (fun X C E _ _ _ => wfX6_isDigit C E x0 h)
def fX6_isOfWord_b21 : Option Int32 :=
    some (1 : Int32)
set_option maxRecDepth 100000 in
set_option maxHeartbeats 4000000 in
theorem wfX6_isOfWord_b21 {X : zX} {G : zH} {out : Int32} (C : zOK X cX6_isOfWord yX6_isOfWord.cls 1 (some .boolean) 1 20) (E : zPost X (poI out G)) (h : fX6_isOfWord_b21 = some out) : zZ X 21 [] [] G := by
  rw [fX6_isOfWord_b21] at h
  refine z_iconst (pc := 21) C dX6_isOfWord_21 (v := (1 : Int32)) (by decide) ?_
  refine z_goto (pc := 22) C dX6_isOfWord_22 (tgt := 26) (by decide) ?_
  obtain rfl := Option.some.inj h
  exact z_zret (pc := 26) C E dX6_isOfWord_26 rfl ⟨rfl, rfl⟩
def fX6_isOfWord (x0 : Int32) : Option Int32 :=
    ob1 (fX6_isSmall x0) fun v1 =>
    if v1 = 0 then (ob1 (fX6_isCapital x0) fun v3 =>
    if v3 = 0 then (ob1 (fX6_isDigit x0) fun v5 =>
    if v5 = 0 then (some (0 : Int32)) else
    fX6_isOfWord_b21) else
    fX6_isOfWord_b21) else
    fX6_isOfWord_b21
set_option maxRecDepth 100000 in
set_option maxHeartbeats 4000000 in
theorem wfX6_isOfWord {X : zX} {G : zH} {out : Int32} (C : zOK X cX6_isOfWord yX6_isOfWord.cls 1 (some .boolean) 1 20) (E : zPost X (poI out G)) (x0 : Int32) (h : fX6_isOfWord x0 = some out) : zZ X 0 [(0, .int x0)] [] G := by
  rw [fX6_isOfWord] at h
  refine z_iload_n (pc := 0) C 0 dX6_isOfWord_0 rfl rfl ?_
  obtain ⟨v1, ev1, h⟩ := ob1_eq h
  refine z_callSi (As := [.int x0]) (rest := []) (pc := 1) C dX6_isOfWord_1 ml_X6_393 (kX6_isSmall _ _ _ _ G x0 v1 ev1) rfl rfl (Nat.le_of_ble_eq_true rfl) (by decide) ?_
  refine z_if_ne (pc := 4) C dX6_isOfWord_4 (tgt := 21) (by decide) (fun c2 => ?_) (fun c2 => ?_)
  · rw [if_neg c2] at h
    exact z_subL [] (wfX6_isOfWord_b21 C E h) rfl
  · rw [if_pos c2] at h
    refine z_iload_n (pc := 7) C 0 dX6_isOfWord_7 rfl rfl ?_
    obtain ⟨v3, ev3, h⟩ := ob1_eq h
    refine z_callSi (As := [.int x0]) (rest := []) (pc := 8) C dX6_isOfWord_8 ml_X6_396 (kX6_isCapital _ _ _ _ G x0 v3 ev3) rfl rfl (Nat.le_of_ble_eq_true rfl) (by decide) ?_
    refine z_if_ne (pc := 11) C dX6_isOfWord_11 (tgt := 21) (by decide) (fun c4 => ?_) (fun c4 => ?_)
    · rw [if_neg c4] at h
      exact z_subL [] (wfX6_isOfWord_b21 C E h) rfl
    · rw [if_pos c4] at h
      refine z_iload_n (pc := 14) C 0 dX6_isOfWord_14 rfl rfl ?_
      obtain ⟨v5, ev5, h⟩ := ob1_eq h
      refine z_callSi (As := [.int x0]) (rest := []) (pc := 15) C dX6_isOfWord_15 ml_X6_399 (kX6_isDigit _ _ _ _ G x0 v5 ev5) rfl rfl (Nat.le_of_ble_eq_true rfl) (by decide) ?_
      refine z_if_eq (pc := 18) C dX6_isOfWord_18 (tgt := 25) (by decide) (fun c6 => ?_) (fun c6 => ?_)
      · rw [if_pos c6] at h
        refine z_iconst (pc := 25) C dX6_isOfWord_25 (v := (0 : Int32)) (by decide) ?_
        obtain rfl := Option.some.inj h
        exact z_zret (pc := 26) C E dX6_isOfWord_26 rfl ⟨rfl, rfl⟩
      · rw [if_neg c6] at h
        exact z_subL [] (wfX6_isOfWord_b21 C E h) rfl
theorem kX6_isOfWord (l : Launch) (D : va_G) (cA : Nat → ClassId) (b : Nat) (G : zH) (x0 : Int32) (out : Int32) (h : fX6_isOfWord x0 = some out) : zM l D cA b yX6_isOfWord cX6_isOfWord 1 (some .boolean) 1 20 [.int x0] G (poI out G) := z_entry rfl (Nat.le_of_ble_eq_true rfl) (fun X C E _ _ _ => wfX6_isOfWord C E x0 h)
def fX3_wordEnd_b2 (G : zH) : Nat → Nat → Int32 → Option Int32
  | 0, _, _ => none
  | n + 1, r0, x2 =>
    ob1 (fi G r0 3 2) fun v1 =>
    if v1 ≤ x2 then (some x2) else
    ob1 (isO G r0 3) fun u3 =>
    ob1 (fX3_signAt G r0 x2) fun v5 =>
    ob1 (fX6_isOfWord v5) fun v6 =>
    if v6 = 0 then (some x2) else
    zlet (x2 + (1 : Int32)) fun y8 =>
    (fX3_wordEnd_b2 G n) r0 y8
set_option maxRecDepth 100000 in
set_option maxHeartbeats 4000000 in
theorem wfX3_wordEnd_b2 {X : zX} {G : zH} {out : Int32} (C : zOK X cX3_wordEnd yX3_wordEnd.cls 3 (some .int) 2 40) (E : zPost X (poI out G)) : ∀ (n : Nat) (r0 : Nat) (x2 : Int32) (h : fX3_wordEnd_b2 G n r0 x2 = some out), zZ X 2 [(0, .ref r0), (2, .int x2)] [] G := by
  intro n
  induction n with
  | zero => intro r0 x2 h; cases h
  | succ n ih =>
    intro r0 x2 h
    rw [fX3_wordEnd_b2] at h
    refine z_iload_n (pc := 2) C 1 dX3_wordEnd_2 rfl rfl ?_
    refine z_aload_n (pc := 3) C 0 dX3_wordEnd_3 rfl rfl ?_
    obtain ⟨v1, ev1, h⟩ := ob1_eq h
    refine z_fi (pc := 4) C dX3_wordEnd_4 fl_X3_19 ev1 ?_
    refine z_ic_ge (pc := 7) C dX3_wordEnd_7 (tgt := 27) (by decide) (fun c2 => ?_) (fun c2 => ?_)
    · rw [if_pos c2] at h
      refine z_iload_n (pc := 27) C 1 dX3_wordEnd_27 rfl rfl ?_
      obtain rfl := Option.some.inj h
      exact z_iret (pc := 28) C E dX3_wordEnd_28 ⟨rfl, rfl⟩
    · rw [if_neg c2] at h
      refine z_aload_n (pc := 10) C 0 dX3_wordEnd_10 rfl rfl ?_
      refine z_iload_n (pc := 11) C 1 dX3_wordEnd_11 rfl rfl ?_
      obtain ⟨u3, eu3, h⟩ := ob1_eq h
      obtain ⟨w4, ew4⟩ := isO_eq eu3
      obtain ⟨v5, ev5, h⟩ := ob1_eq h
      refine z_callVi (h := r0) (As := [.int x2]) (rest := []) (pc := 12) C dX3_wordEnd_12 ml_X3_43 (kX3_signAt _ _ _ _ G r0 x2 v5 ev5) ew4 rfl rfl rfl (Nat.le_of_ble_eq_true rfl) (by decide) ?_
      obtain ⟨v6, ev6, h⟩ := ob1_eq h
      refine z_callSNi (As := [.int v5]) (rest := []) (pc := 15) C dX3_wordEnd_15 ml_X3_50 (kX6_isOfWord _ _ _ _ G v5 _ ev6) rfl rfl (Nat.le_of_ble_eq_true rfl) (by decide) ?_
      refine z_if_eq (pc := 18) C dX3_wordEnd_18 (tgt := 27) (by decide) (fun c7 => ?_) (fun c7 => ?_)
      · rw [if_pos c7] at h
        refine z_iload_n (pc := 27) C 1 dX3_wordEnd_27 rfl rfl ?_
        obtain rfl := Option.some.inj h
        exact z_iret (pc := 28) C E dX3_wordEnd_28 ⟨rfl, rfl⟩
      · rw [if_neg c7] at h
        obtain ⟨y8, ey8, h⟩ := zlet_eq h
        refine z_iinc (pc := 21) (v := y8) C 1 dX3_wordEnd_21 rfl (by rw [ey8]; rfl) (by decide) (show zput _ _ _ = [(2, .int y8), (0, .ref r0)] from rfl) ?_
        refine z_goto (pc := 24) C dX3_wordEnd_24 (tgt := 2) (by decide) ?_
        exact z_subL [1, 0] (ih r0 y8 h) rfl
def fX3_wordEnd (G : zH) (r0 : Nat) (x1 : Int32) : Option Int32 :=
    fX3_wordEnd_b2 G FU r0 x1
set_option maxRecDepth 100000 in
set_option maxHeartbeats 4000000 in
theorem wfX3_wordEnd {X : zX} {G : zH} {out : Int32} (C : zOK X cX3_wordEnd yX3_wordEnd.cls 3 (some .int) 2 40) (E : zPost X (poI out G)) (r0 : Nat) (x1 : Int32) (h : fX3_wordEnd G r0 x1 = some out) : zZ X 0 [(0, .ref r0), (1, .int x1)] [] G := by
  rw [fX3_wordEnd] at h
  refine z_iload_n (pc := 0) C 1 dX3_wordEnd_0 rfl rfl ?_
  refine z_istore_n (pc := 1) C dX3_wordEnd_1 rfl (by decide) (show zput _ _ _ = [(2, .int x1), (0, .ref r0), (1, .int x1)] from rfl) ?_
  exact z_subL [1, 0] (wfX3_wordEnd_b2 C E FU r0 x1 h) rfl
theorem kX3_wordEnd (l : Launch) (D : va_G) (cA : Nat → ClassId) (b : Nat) (G : zH) (r0 : Nat) (x1 : Int32) (out : Int32) (h : fX3_wordEnd G r0 x1 = some out) : zM l D cA b yX3_wordEnd cX3_wordEnd 3 (some .int) 2 40 [.ref r0, .int x1] G (poI out G) := z_entry rfl (Nat.le_of_ble_eq_true rfl) (fun X C E _ _ _ => wfX3_wordEnd C E r0 x1 h)
def fX3_rowEnd_b48 (G : zH) (x1 : Int32) (x2 : Int32) : Option Int32 :=
    some (x1 + x2)
set_option maxRecDepth 100000 in
set_option maxHeartbeats 4000000 in
theorem wfX3_rowEnd_b48 {X : zX} {G : zH} {out : Int32} (C : zOK X cX3_rowEnd yX3_rowEnd.cls 5 (some .int) 2 43) (E : zPost X (poI out G)) (x1 : Int32) (x2 : Int32) (h : fX3_rowEnd_b48 G x1 x2 = some out) : zZ X 48 [(1, .int x1), (2, .int x2)] [] G := by
  rw [fX3_rowEnd_b48] at h
  refine z_iload_n (pc := 48) C 0 dX3_rowEnd_48 rfl rfl ?_
  refine z_iload_n (pc := 49) C 1 dX3_rowEnd_49 rfl rfl ?_
  refine z_iadd (pc := 50) C dX3_rowEnd_50 ?_
  obtain rfl := Option.some.inj h
  exact z_iret (pc := 51) C E dX3_rowEnd_51 ⟨rfl, rfl⟩
def fX3_rowEnd_b20 (G : zH) : Nat → Nat → Int32 → Int32 → Int32 → Option Int32
  | 0, _, _, _, _ => none
  | n + 1, r0, x1, x2, x4 =>
    if x4 ≤ x1 then (fX3_rowEnd_b48 G x1 x2) else
    ob1 (isO G r0 3) fun u2 =>
    ob1 (fX3_signAt G r0 (x4 - (1 : Int32))) fun v4 =>
    if v4 = (32 : Int32) then (some x4) else
    zlet (x4 + (-1 : Int32)) fun y6 =>
    (fX3_rowEnd_b20 G n) r0 x1 x2 y6
set_option maxRecDepth 100000 in
set_option maxHeartbeats 4000000 in
theorem wfX3_rowEnd_b20 {X : zX} {G : zH} {out : Int32} (C : zOK X cX3_rowEnd yX3_rowEnd.cls 5 (some .int) 2 43) (E : zPost X (poI out G)) : ∀ (n : Nat) (r0 : Nat) (x1 : Int32) (x2 : Int32) (x4 : Int32) (h : fX3_rowEnd_b20 G n r0 x1 x2 x4 = some out), zZ X 20 [(0, .ref r0), (1, .int x1), (2, .int x2), (4, .int x4)] [] G := by
  intro n
  induction n with
  | zero => intro r0 x1 x2 x4 h; cases h
  | succ n ih =>
    intro r0 x1 x2 x4 h
    rw [fX3_rowEnd_b20] at h
    refine z_iload (pc := 20) C 3 dX3_rowEnd_20 rfl ?_
    refine z_iload_n (pc := 22) C 1 dX3_rowEnd_22 rfl rfl ?_
    refine z_ic_le (pc := 23) C dX3_rowEnd_23 (tgt := 48) (by decide) (fun c1 => ?_) (fun c1 => ?_)
    · rw [if_pos c1] at h
      exact z_subL [1, 2] (wfX3_rowEnd_b48 C E x1 x2 h) rfl
    · rw [if_neg c1] at h
      refine z_aload_n (pc := 26) C 0 dX3_rowEnd_26 rfl rfl ?_
      refine z_iload (pc := 27) C 3 dX3_rowEnd_27 rfl ?_
      refine z_iconst (pc := 29) C dX3_rowEnd_29 (v := (1 : Int32)) (by decide) ?_
      refine z_isub (pc := 30) C dX3_rowEnd_30 ?_
      obtain ⟨u2, eu2, h⟩ := ob1_eq h
      obtain ⟨w3, ew3⟩ := isO_eq eu2
      obtain ⟨v4, ev4, h⟩ := ob1_eq h
      refine z_callVi (h := r0) (As := [.int (x4 - (1 : Int32))]) (rest := []) (pc := 31) C dX3_rowEnd_31 ml_X3_43 (kX3_signAt _ _ _ _ G r0 (x4 - (1 : Int32)) v4 ev4) ew3 rfl rfl rfl (Nat.le_of_ble_eq_true rfl) (by decide) ?_
      refine z_bipush (pc := 34) C dX3_rowEnd_34 (v := (32 : Int32)) (by decide) ?_
      refine z_ic_ne (pc := 36) C dX3_rowEnd_36 (tgt := 42) (by decide) (fun c5 => ?_) (fun c5 => ?_)
      · rw [if_neg c5] at h
        obtain ⟨y6, ey6, h⟩ := zlet_eq h
        refine z_iinc (pc := 42) (v := y6) C 3 dX3_rowEnd_42 rfl (by rw [ey6]; rfl) (by decide) (show zput _ _ _ = [(4, .int y6), (0, .ref r0), (1, .int x1), (2, .int x2)] from rfl) ?_
        refine z_goto (pc := 45) C dX3_rowEnd_45 (tgt := 20) (by decide) ?_
        exact z_subL [1, 2, 3, 0] (ih r0 x1 x2 y6 h) rfl
      · rw [if_pos c5] at h
        refine z_iload (pc := 39) C 3 dX3_rowEnd_39 rfl ?_
        obtain rfl := Option.some.inj h
        exact z_iret (pc := 41) C E dX3_rowEnd_41 ⟨rfl, rfl⟩
def fX3_rowEnd (G : zH) (r0 : Nat) (x1 : Int32) (x2 : Int32) : Option Int32 :=
    ob1 (isO G r0 3) fun u1 =>
    ob1 (fX3_lineEnd G r0 x1) fun v3 =>
    if x2 < (v3 - x1) then (zlet ((x1 + x2)) fun y5 =>
    fX3_rowEnd_b20 G FU r0 x1 x2 y5) else
    some v3
set_option maxRecDepth 100000 in
set_option maxHeartbeats 4000000 in
theorem wfX3_rowEnd {X : zX} {G : zH} {out : Int32} (C : zOK X cX3_rowEnd yX3_rowEnd.cls 5 (some .int) 2 43) (E : zPost X (poI out G)) (r0 : Nat) (x1 : Int32) (x2 : Int32) (h : fX3_rowEnd G r0 x1 x2 = some out) : zZ X 0 [(0, .ref r0), (1, .int x1), (2, .int x2)] [] G := by
  rw [fX3_rowEnd] at h
  refine z_aload_n (pc := 0) C 0 dX3_rowEnd_0 rfl rfl ?_
  refine z_iload_n (pc := 1) C 1 dX3_rowEnd_1 rfl rfl ?_
  obtain ⟨u1, eu1, h⟩ := ob1_eq h
  obtain ⟨w2, ew2⟩ := isO_eq eu1
  obtain ⟨v3, ev3, h⟩ := ob1_eq h
  refine z_callVi (h := r0) (As := [.int x1]) (rest := []) (pc := 2) C dX3_rowEnd_2 ml_X3_54 (kX3_lineEnd _ _ _ _ G r0 x1 v3 ev3) ew2 rfl rfl rfl (Nat.le_of_ble_eq_true rfl) (by decide) ?_
  refine z_istore_n (pc := 5) C dX3_rowEnd_5 rfl (by decide) (show zput _ _ _ = [(3, .int v3), (0, .ref r0), (1, .int x1), (2, .int x2)] from rfl) ?_
  refine z_iload_n (pc := 6) C 0 dX3_rowEnd_6 rfl rfl ?_
  refine z_iload_n (pc := 7) C 2 dX3_rowEnd_7 rfl rfl ?_
  refine z_isub (pc := 8) C dX3_rowEnd_8 ?_
  refine z_iload_n (pc := 9) C 3 dX3_rowEnd_9 rfl rfl ?_
  refine z_ic_gt (pc := 10) C dX3_rowEnd_10 (tgt := 15) (by decide) (fun c4 => ?_) (fun c4 => ?_)
  · rw [if_pos c4] at h
    refine z_iload_n (pc := 15) C 2 dX3_rowEnd_15 rfl rfl ?_
    refine z_iload_n (pc := 16) C 3 dX3_rowEnd_16 rfl rfl ?_
    refine z_iadd (pc := 17) C dX3_rowEnd_17 ?_
    obtain ⟨y5, ey5, h⟩ := zlet_eq h
    refine z_topi ey5 ?_
    refine z_istore (pc := 18) C dX3_rowEnd_18 (by decide) (show zput _ _ _ = [(4, .int y5), (3, .int v3), (0, .ref r0), (1, .int x1), (2, .int x2)] from rfl) ?_
    exact z_subL [2, 3, 4, 0] (wfX3_rowEnd_b20 C E FU r0 x1 x2 y5 h) rfl
  · rw [if_neg c4] at h
    refine z_iload_n (pc := 13) C 0 dX3_rowEnd_13 rfl rfl ?_
    obtain rfl := Option.some.inj h
    exact z_iret (pc := 14) C E dX3_rowEnd_14 ⟨rfl, rfl⟩
theorem kX3_rowEnd (l : Launch) (D : va_G) (cA : Nat → ClassId) (b : Nat) (G : zH) (r0 : Nat) (x1 : Int32) (x2 : Int32) (out : Int32) (h : fX3_rowEnd G r0 x1 x2 = some out) : zM l D cA b yX3_rowEnd cX3_rowEnd 5 (some .int) 2 43 [.ref r0, .int x1, .int x2] G (poI out G) := z_entry rfl (Nat.le_of_ble_eq_true rfl) (fun X C E _ _ _ => wfX3_rowEnd C E r0 x1 x2 h)
def fX3_sumOf_b6 (G : zH) : Nat → Nat → Int32 → Int32 → Int32 → Option Int32
  | 0, _, _, _, _ => none
  | n + 1, r0, x2, x3, x4 =>
    if x2 ≤ x4 then (some x3) else
    ob1 (isO G r0 3) fun u2 =>
    ob1 (fX3_signAt G r0 x4) fun v4 =>
    zlet ((((31 : Int32) * x3) + v4)) fun y5 =>
    zlet (x4 + (1 : Int32)) fun y6 =>
    (fX3_sumOf_b6 G n) r0 x2 y5 y6
set_option maxRecDepth 100000 in
set_option maxHeartbeats 4000000 in
theorem wfX3_sumOf_b6 {X : zX} {G : zH} {out : Int32} (C : zOK X cX3_sumOf yX3_sumOf.cls 5 (some .int) 1 21) (E : zPost X (poI out G)) : ∀ (n : Nat) (r0 : Nat) (x2 : Int32) (x3 : Int32) (x4 : Int32) (h : fX3_sumOf_b6 G n r0 x2 x3 x4 = some out), zZ X 6 [(0, .ref r0), (2, .int x2), (3, .int x3), (4, .int x4)] [] G := by
  intro n
  induction n with
  | zero => intro r0 x2 x3 x4 h; cases h
  | succ n ih =>
    intro r0 x2 x3 x4 h
    rw [fX3_sumOf_b6] at h
    refine z_iload (pc := 6) C 3 dX3_sumOf_6 rfl ?_
    refine z_iload_n (pc := 8) C 1 dX3_sumOf_8 rfl rfl ?_
    refine z_ic_ge (pc := 9) C dX3_sumOf_9 (tgt := 30) (by decide) (fun c1 => ?_) (fun c1 => ?_)
    · rw [if_pos c1] at h
      refine z_iload_n (pc := 30) C 2 dX3_sumOf_30 rfl rfl ?_
      obtain rfl := Option.some.inj h
      exact z_iret (pc := 31) C E dX3_sumOf_31 ⟨rfl, rfl⟩
    · rw [if_neg c1] at h
      refine z_bipush (pc := 12) C dX3_sumOf_12 (v := (31 : Int32)) (by decide) ?_
      refine z_iload_n (pc := 14) C 2 dX3_sumOf_14 rfl rfl ?_
      refine z_imul (pc := 15) C dX3_sumOf_15 ?_
      refine z_aload_n (pc := 16) C 0 dX3_sumOf_16 rfl rfl ?_
      refine z_iload (pc := 17) C 3 dX3_sumOf_17 rfl ?_
      obtain ⟨u2, eu2, h⟩ := ob1_eq h
      obtain ⟨w3, ew3⟩ := isO_eq eu2
      obtain ⟨v4, ev4, h⟩ := ob1_eq h
      refine z_callVi (h := r0) (As := [.int x4]) (rest := [.int ((31 : Int32) * x3)]) (pc := 19) C dX3_sumOf_19 ml_X3_43 (kX3_signAt _ _ _ _ G r0 x4 v4 ev4) ew3 rfl rfl rfl (Nat.le_of_ble_eq_true rfl) (by decide) ?_
      refine z_iadd (pc := 22) C dX3_sumOf_22 ?_
      obtain ⟨y5, ey5, h⟩ := zlet_eq h
      refine z_topi ey5 ?_
      refine z_istore_n (pc := 23) C dX3_sumOf_23 rfl (by decide) (show zput _ _ _ = [(3, .int y5), (0, .ref r0), (2, .int x2), (4, .int x4)] from rfl) ?_
      obtain ⟨y6, ey6, h⟩ := zlet_eq h
      refine z_iinc (pc := 24) (v := y6) C 3 dX3_sumOf_24 rfl (by rw [ey6]; rfl) (by decide) (show zput _ _ _ = [(4, .int y6), (3, .int y5), (0, .ref r0), (2, .int x2)] from rfl) ?_
      refine z_goto (pc := 27) C dX3_sumOf_27 (tgt := 6) (by decide) ?_
      exact z_subL [2, 3, 1, 0] (ih r0 x2 y5 y6 h) rfl
def fX3_sumOf (G : zH) (r0 : Nat) (x1 : Int32) (x2 : Int32) : Option Int32 :=
    fX3_sumOf_b6 G FU r0 x2 (7 : Int32) x1
set_option maxRecDepth 100000 in
set_option maxHeartbeats 4000000 in
theorem wfX3_sumOf {X : zX} {G : zH} {out : Int32} (C : zOK X cX3_sumOf yX3_sumOf.cls 5 (some .int) 1 21) (E : zPost X (poI out G)) (r0 : Nat) (x1 : Int32) (x2 : Int32) (h : fX3_sumOf G r0 x1 x2 = some out) : zZ X 0 [(0, .ref r0), (1, .int x1), (2, .int x2)] [] G := by
  rw [fX3_sumOf] at h
  refine z_bipush (pc := 0) C dX3_sumOf_0 (v := (7 : Int32)) (by decide) ?_
  refine z_istore_n (pc := 2) C dX3_sumOf_2 rfl (by decide) (show zput _ _ _ = [(3, .int (7 : Int32)), (0, .ref r0), (1, .int x1), (2, .int x2)] from rfl) ?_
  refine z_iload_n (pc := 3) C 2 dX3_sumOf_3 rfl rfl ?_
  refine z_istore (pc := 4) C dX3_sumOf_4 (by decide) (show zput _ _ _ = [(4, .int x1), (3, .int (7 : Int32)), (0, .ref r0), (1, .int x1), (2, .int x2)] from rfl) ?_
  exact z_subL [2, 4, 1, 0] (wfX3_sumOf_b6 C E FU r0 x2 (7 : Int32) x1 h) rfl
theorem kX3_sumOf (l : Launch) (D : va_G) (cA : Nat → ClassId) (b : Nat) (G : zH) (r0 : Nat) (x1 : Int32) (x2 : Int32) (out : Int32) (h : fX3_sumOf G r0 x1 x2 = some out) : zM l D cA b yX3_sumOf cX3_sumOf 5 (some .int) 1 21 [.ref r0, .int x1, .int x2] G (poI out G) := z_entry rfl (Nat.le_of_ble_eq_true rfl) (fun X C E _ _ _ => wfX3_sumOf C E r0 x1 x2 h)
def fX3_holdOn_b45 (G : zH) (r0 : Nat) (x1 : Int32) (x3 : Int32) (x5 : Int32) : Option Int32 :=
    ob1 (isO G r0 3) fun u1 =>
    ob1 (fX3_signAt G r0 (x1 + x5)) fun v3 =>
    if v3 = x3 then (some (x5 + (1 : Int32))) else
    some x5
set_option maxRecDepth 100000 in
set_option maxHeartbeats 4000000 in
theorem wfX3_holdOn_b45 {X : zX} {G : zH} {out : Int32} (C : zOK X cX3_holdOn yX3_holdOn.cls 6 (some .int) 1 21) (E : zPost X (poI out G)) (r0 : Nat) (x1 : Int32) (x3 : Int32) (x5 : Int32) (h : fX3_holdOn_b45 G r0 x1 x3 x5 = some out) : zZ X 45 [(0, .ref r0), (1, .int x1), (3, .int x3), (5, .int x5)] [] G := by
  rw [fX3_holdOn_b45] at h
  refine z_aload_n (pc := 45) C 0 dX3_holdOn_45 rfl rfl ?_
  refine z_iload_n (pc := 46) C 1 dX3_holdOn_46 rfl rfl ?_
  refine z_iload (pc := 47) C 3 dX3_holdOn_47 rfl ?_
  refine z_iadd (pc := 49) C dX3_holdOn_49 ?_
  obtain ⟨u1, eu1, h⟩ := ob1_eq h
  obtain ⟨w2, ew2⟩ := isO_eq eu1
  obtain ⟨v3, ev3, h⟩ := ob1_eq h
  refine z_callVi (h := r0) (As := [.int (x1 + x5)]) (rest := []) (pc := 50) C dX3_holdOn_50 ml_X3_43 (kX3_signAt _ _ _ _ G r0 (x1 + x5) v3 ev3) ew2 rfl rfl rfl (Nat.le_of_ble_eq_true rfl) (by decide) ?_
  refine z_iload_n (pc := 53) C 2 dX3_holdOn_53 rfl rfl ?_
  refine z_ic_ne (pc := 54) C dX3_holdOn_54 (tgt := 64) (by decide) (fun c4 => ?_) (fun c4 => ?_)
  · rw [if_neg c4] at h
    refine z_iload (pc := 64) C 3 dX3_holdOn_64 rfl ?_
    obtain rfl := Option.some.inj h
    exact z_iret (pc := 66) C E dX3_holdOn_66 ⟨rfl, rfl⟩
  · rw [if_pos c4] at h
    refine z_iload (pc := 57) C 3 dX3_holdOn_57 rfl ?_
    refine z_iconst (pc := 59) C dX3_holdOn_59 (v := (1 : Int32)) (by decide) ?_
    refine z_iadd (pc := 60) C dX3_holdOn_60 ?_
    refine z_goto (pc := 61) C dX3_holdOn_61 (tgt := 66) (by decide) ?_
    obtain rfl := Option.some.inj h
    exact z_iret (pc := 66) C E dX3_holdOn_66 ⟨rfl, rfl⟩
def fX3_holdOn_b9 (G : zH) : Nat → Nat → Int32 → Int32 → Nat → Int32 → Option Int32
  | 0, _, _, _, _, _ => none
  | n + 1, r0, x1, x3, r4, x5 =>
    if x5 ≤ 0 then (fX3_holdOn_b45 G r0 x1 x3 x5) else
    ob1 (isO G r0 3) fun u2 =>
    ob1 (fX3_signAt G r0 (x1 + x5)) fun v4 =>
    if v4 = x3 then (fX3_holdOn_b45 G r0 x1 x3 x5) else
    ob1 (aR G 0 r4 (x5 - (1 : Int32))) fun v6 =>
    zlet ((if (x5 - (1 : Int32)) < v6 then (x5 - (1 : Int32)) else v6)) fun y7 =>
    (fX3_holdOn_b9 G n) r0 x1 x3 r4 y7
set_option maxRecDepth 100000 in
set_option maxHeartbeats 4000000 in
theorem wfX3_holdOn_b9 {X : zX} {G : zH} {out : Int32} (C : zOK X cX3_holdOn yX3_holdOn.cls 6 (some .int) 1 21) (E : zPost X (poI out G)) : ∀ (n : Nat) (r0 : Nat) (x1 : Int32) (x3 : Int32) (r4 : Nat) (x5 : Int32) (h : fX3_holdOn_b9 G n r0 x1 x3 r4 x5 = some out), zZ X 9 [(0, .ref r0), (1, .int x1), (3, .int x3), (4, .ref r4), (5, .int x5)] [] G := by
  intro n
  induction n with
  | zero => intro r0 x1 x3 r4 x5 h; cases h
  | succ n ih =>
    intro r0 x1 x3 r4 x5 h
    rw [fX3_holdOn_b9] at h
    refine z_iload (pc := 9) C 4 dX3_holdOn_9 rfl ?_
    refine z_if_le (pc := 11) C dX3_holdOn_11 (tgt := 45) (by decide) (fun c1 => ?_) (fun c1 => ?_)
    · rw [if_pos c1] at h
      exact z_subL [0, 1, 2, 4] (wfX3_holdOn_b45 C E r0 x1 x3 x5 h) rfl
    · rw [if_neg c1] at h
      refine z_aload_n (pc := 14) C 0 dX3_holdOn_14 rfl rfl ?_
      refine z_iload_n (pc := 15) C 1 dX3_holdOn_15 rfl rfl ?_
      refine z_iload (pc := 16) C 4 dX3_holdOn_16 rfl ?_
      refine z_iadd (pc := 18) C dX3_holdOn_18 ?_
      obtain ⟨u2, eu2, h⟩ := ob1_eq h
      obtain ⟨w3, ew3⟩ := isO_eq eu2
      obtain ⟨v4, ev4, h⟩ := ob1_eq h
      refine z_callVi (h := r0) (As := [.int (x1 + x5)]) (rest := []) (pc := 19) C dX3_holdOn_19 ml_X3_43 (kX3_signAt _ _ _ _ G r0 (x1 + x5) v4 ev4) ew3 rfl rfl rfl (Nat.le_of_ble_eq_true rfl) (by decide) ?_
      refine z_iload_n (pc := 22) C 2 dX3_holdOn_22 rfl rfl ?_
      refine z_ic_eq (pc := 23) C dX3_holdOn_23 (tgt := 45) (by decide) (fun c5 => ?_) (fun c5 => ?_)
      · rw [if_pos c5] at h
        exact z_subL [0, 1, 2, 4] (wfX3_holdOn_b45 C E r0 x1 x3 x5 h) rfl
      · rw [if_neg c5] at h
        refine z_aload (pc := 26) C 3 dX3_holdOn_26 rfl ?_
        refine z_iload (pc := 28) C 4 dX3_holdOn_28 rfl ?_
        refine z_iconst (pc := 30) C dX3_holdOn_30 (v := (1 : Int32)) (by decide) ?_
        refine z_isub (pc := 31) C dX3_holdOn_31 ?_
        obtain ⟨v6, ev6, h⟩ := ob1_eq h
        refine z_aR (pc := 32) C dX3_holdOn_32 ev6 ?_
        refine z_iload (pc := 33) C 4 dX3_holdOn_33 rfl ?_
        refine z_iconst (pc := 35) C dX3_holdOn_35 (v := (1 : Int32)) (by decide) ?_
        refine z_isub (pc := 36) C dX3_holdOn_36 ?_
        refine z_mmin (pc := 37) C dX3_holdOn_37 ml_X3_61 w_min1 w_math w_min2 (Nat.le_of_ble_eq_true rfl) (by decide) ?_
        obtain ⟨y7, ey7, h⟩ := zlet_eq h
        refine z_topi ey7 ?_
        refine z_istore (pc := 40) C dX3_holdOn_40 (by decide) (show zput _ _ _ = [(5, .int y7), (0, .ref r0), (1, .int x1), (3, .int x3), (4, .ref r4)] from rfl) ?_
        refine z_goto (pc := 42) C dX3_holdOn_42 (tgt := 9) (by decide) ?_
        exact z_subL [1, 2, 3, 4, 0] (ih r0 x1 x3 r4 y7 h) rfl
def fX3_holdOn (G : zH) (r0 : Nat) (x1 : Int32) (x2 : Int32) (x3 : Int32) (r4 : Nat) : Option Int32 :=
    ob1 (aL G 0 r4) fun v1 =>
    zlet ((if v1 < x2 then v1 else x2)) fun y2 =>
    fX3_holdOn_b9 G FU r0 x1 x3 r4 y2
set_option maxRecDepth 100000 in
set_option maxHeartbeats 4000000 in
theorem wfX3_holdOn {X : zX} {G : zH} {out : Int32} (C : zOK X cX3_holdOn yX3_holdOn.cls 6 (some .int) 1 21) (E : zPost X (poI out G)) (r0 : Nat) (x1 : Int32) (x2 : Int32) (x3 : Int32) (r4 : Nat) (h : fX3_holdOn G r0 x1 x2 x3 r4 = some out) : zZ X 0 [(0, .ref r0), (1, .int x1), (2, .int x2), (3, .int x3), (4, .ref r4)] [] G := by
  rw [fX3_holdOn] at h
  refine z_iload_n (pc := 0) C 2 dX3_holdOn_0 rfl rfl ?_
  refine z_aload (pc := 1) C 4 dX3_holdOn_1 rfl ?_
  obtain ⟨v1, ev1, h⟩ := ob1_eq h
  refine z_aL (pc := 3) C dX3_holdOn_3 (by decide) ev1 ?_
  refine z_mmin (pc := 4) C dX3_holdOn_4 ml_X3_61 w_min1 w_math w_min2 (Nat.le_of_ble_eq_true rfl) (by decide) ?_
  obtain ⟨y2, ey2, h⟩ := zlet_eq h
  refine z_topi ey2 ?_
  refine z_istore (pc := 7) C dX3_holdOn_7 (by decide) (show zput _ _ _ = [(5, .int y2), (0, .ref r0), (1, .int x1), (2, .int x2), (3, .int x3), (4, .ref r4)] from rfl) ?_
  exact z_subL [1, 2, 4, 5, 0] (wfX3_holdOn_b9 C E FU r0 x1 x3 r4 y2 h) rfl
theorem kX3_holdOn (l : Launch) (D : va_G) (cA : Nat → ClassId) (b : Nat) (G : zH) (r0 : Nat) (x1 : Int32) (x2 : Int32) (x3 : Int32) (r4 : Nat) (out : Int32) (h : fX3_holdOn G r0 x1 x2 x3 r4 = some out) : zM l D cA b yX3_holdOn cX3_holdOn 6 (some .int) 1 21 [.ref r0, .int x1, .int x2, .int x3, .ref r4] G (poI out G) := z_entry rfl (Nat.le_of_ble_eq_true rfl) (fun X C E _ _ _ => wfX3_holdOn C E r0 x1 x2 x3 r4 h)
def fX3_fillFallbacks_b44 (k5 : zH → Nat → Int32 → Nat → Int32 → Int32 → Option zH) (G : zH) (r0 : Nat) (x1 : Int32) (r2 : Nat) (x3 : Int32) (x4 : Int32) : Option zH :=
    ob1 (aW G 0 r2 x4 x3) fun G1 =>
    zlet (x4 + (1 : Int32)) fun y2 =>
    k5 G1 r0 x1 r2 x3 y2
set_option maxRecDepth 100000 in
set_option maxHeartbeats 4000000 in
theorem wfX3_fillFallbacks_b44 {X : zX} {out : zH} (C : zOK X cX3_fillFallbacks yX3_fillFallbacks.cls 5 none 2 46) (E : zPost X (poV out)) (k5 : zH → Nat → Int32 → Nat → Int32 → Int32 → Option zH) (hk5 : ∀ (G : zH) (r0 : Nat) (x1 : Int32) (r2 : Nat) (x3 : Int32) (x4 : Int32), k5 G r0 x1 r2 x3 x4 = some out → zZ X 5 [(0, .ref r0), (1, .int x1), (2, .ref r2), (3, .int x3), (4, .int x4)] [] G) (G : zH) (r0 : Nat) (x1 : Int32) (r2 : Nat) (x3 : Int32) (x4 : Int32) (h : fX3_fillFallbacks_b44 k5 G r0 x1 r2 x3 x4 = some out) : zZ X 44 [(0, .ref r0), (1, .int x1), (2, .ref r2), (3, .int x3), (4, .int x4)] [] G := by
  rw [fX3_fillFallbacks_b44] at h
  refine z_aload_n (pc := 44) C 2 dX3_fillFallbacks_44 rfl rfl ?_
  refine z_iload (pc := 45) C 4 dX3_fillFallbacks_45 rfl ?_
  refine z_iload_n (pc := 47) C 3 dX3_fillFallbacks_47 rfl rfl ?_
  obtain ⟨G1, eG1, h⟩ := ob1_eq h
  refine z_aW (pc := 48) C dX3_fillFallbacks_48 eG1 ?_
  obtain ⟨y2, ey2, h⟩ := zlet_eq h
  refine z_iinc (pc := 49) (v := y2) C 4 dX3_fillFallbacks_49 rfl (by rw [ey2]; rfl) (by decide) (show zput _ _ _ = [(4, .int y2), (0, .ref r0), (1, .int x1), (2, .ref r2), (3, .int x3)] from rfl) ?_
  refine z_goto (pc := 52) C dX3_fillFallbacks_52 (tgt := 5) (by decide) ?_
  exact z_subL [1, 2, 3, 4, 0] (hk5 G1 r0 x1 r2 x3 y2 h) rfl
def fX3_fillFallbacks_b5 : Nat → zH → Nat → Int32 → Nat → Int32 → Int32 → Option zH
  | 0, _, _, _, _, _, _ => none
  | n + 1, G, r0, x1, r2, x3, x4 =>
    ob1 (fi G r0 3 2) fun v1 =>
    if v1 ≤ (x1 + x4) then (some G) else
    ob1 (aL G 0 r2) fun v3 =>
    if v3 ≤ x4 then (some G) else
    if x4 ≤ 0 then (fX3_fillFallbacks_b44 (fX3_fillFallbacks_b5 n) G r0 x1 r2 x3 x4) else
    ob1 (isO G r0 3) fun u6 =>
    ob1 (fX3_signAt G r0 (x1 + x4)) fun v8 =>
    ob1 (isO G r0 3) fun u9 =>
    ob1 (fX3_holdOn G r0 x1 x3 v8 r2) fun v11 =>
    fX3_fillFallbacks_b44 (fX3_fillFallbacks_b5 n) G r0 x1 r2 v11 x4
set_option maxRecDepth 100000 in
set_option maxHeartbeats 4000000 in
theorem wfX3_fillFallbacks_b5 {X : zX} {out : zH} (C : zOK X cX3_fillFallbacks yX3_fillFallbacks.cls 5 none 2 46) (E : zPost X (poV out)) : ∀ (n : Nat) (G : zH) (r0 : Nat) (x1 : Int32) (r2 : Nat) (x3 : Int32) (x4 : Int32) (h : fX3_fillFallbacks_b5 n G r0 x1 r2 x3 x4 = some out), zZ X 5 [(0, .ref r0), (1, .int x1), (2, .ref r2), (3, .int x3), (4, .int x4)] [] G := by
  intro n
  induction n with
  | zero => intro G r0 x1 r2 x3 x4 h; cases h
  | succ n ih =>
    intro G r0 x1 r2 x3 x4 h
    rw [fX3_fillFallbacks_b5] at h
    refine z_iload_n (pc := 5) C 1 dX3_fillFallbacks_5 rfl rfl ?_
    refine z_iload (pc := 6) C 4 dX3_fillFallbacks_6 rfl ?_
    refine z_iadd (pc := 8) C dX3_fillFallbacks_8 ?_
    refine z_aload_n (pc := 9) C 0 dX3_fillFallbacks_9 rfl rfl ?_
    obtain ⟨v1, ev1, h⟩ := ob1_eq h
    refine z_fi (pc := 10) C dX3_fillFallbacks_10 fl_X3_19 ev1 ?_
    refine z_ic_ge (pc := 13) C dX3_fillFallbacks_13 (tgt := 55) (by decide) (fun c2 => ?_) (fun c2 => ?_)
    · rw [if_pos c2] at h
      obtain rfl := Option.some.inj h
      exact z_vret (pc := 55) C E dX3_fillFallbacks_55 ⟨rfl, rfl⟩
    · rw [if_neg c2] at h
      refine z_iload (pc := 16) C 4 dX3_fillFallbacks_16 rfl ?_
      refine z_aload_n (pc := 18) C 2 dX3_fillFallbacks_18 rfl rfl ?_
      obtain ⟨v3, ev3, h⟩ := ob1_eq h
      refine z_aL (pc := 19) C dX3_fillFallbacks_19 (by decide) ev3 ?_
      refine z_ic_ge (pc := 20) C dX3_fillFallbacks_20 (tgt := 55) (by decide) (fun c4 => ?_) (fun c4 => ?_)
      · rw [if_pos c4] at h
        obtain rfl := Option.some.inj h
        exact z_vret (pc := 55) C E dX3_fillFallbacks_55 ⟨rfl, rfl⟩
      · rw [if_neg c4] at h
        refine z_iload (pc := 23) C 4 dX3_fillFallbacks_23 rfl ?_
        refine z_if_le (pc := 25) C dX3_fillFallbacks_25 (tgt := 44) (by decide) (fun c5 => ?_) (fun c5 => ?_)
        · rw [if_pos c5] at h
          exact z_subL [0, 1, 2, 3, 4] (wfX3_fillFallbacks_b44 C E (fX3_fillFallbacks_b5 n) ih G r0 x1 r2 x3 x4 h) rfl
        · rw [if_neg c5] at h
          refine z_aload_n (pc := 28) C 0 dX3_fillFallbacks_28 rfl rfl ?_
          refine z_iload_n (pc := 29) C 1 dX3_fillFallbacks_29 rfl rfl ?_
          refine z_iload_n (pc := 30) C 3 dX3_fillFallbacks_30 rfl rfl ?_
          refine z_aload_n (pc := 31) C 0 dX3_fillFallbacks_31 rfl rfl ?_
          refine z_iload_n (pc := 32) C 1 dX3_fillFallbacks_32 rfl rfl ?_
          refine z_iload (pc := 33) C 4 dX3_fillFallbacks_33 rfl ?_
          refine z_iadd (pc := 35) C dX3_fillFallbacks_35 ?_
          obtain ⟨u6, eu6, h⟩ := ob1_eq h
          obtain ⟨w7, ew7⟩ := isO_eq eu6
          obtain ⟨v8, ev8, h⟩ := ob1_eq h
          refine z_callVi (h := r0) (As := [.int (x1 + x4)]) (rest := [.int x3, .int x1, .ref r0]) (pc := 36) C dX3_fillFallbacks_36 ml_X3_43 (kX3_signAt _ _ _ _ G r0 (x1 + x4) v8 ev8) ew7 rfl rfl rfl (Nat.le_of_ble_eq_true rfl) (by decide) ?_
          refine z_aload_n (pc := 39) C 2 dX3_fillFallbacks_39 rfl rfl ?_
          obtain ⟨u9, eu9, h⟩ := ob1_eq h
          obtain ⟨w10, ew10⟩ := isO_eq eu9
          obtain ⟨v11, ev11, h⟩ := ob1_eq h
          refine z_callVi (h := r0) (As := [.int x1, .int x3, .int v8, .ref r2]) (rest := []) (pc := 40) C dX3_fillFallbacks_40 ml_X3_57 (kX3_holdOn _ _ _ _ G r0 x1 x3 v8 r2 v11 ev11) ew10 rfl rfl rfl (Nat.le_of_ble_eq_true rfl) (by decide) ?_
          refine z_istore_n (pc := 43) C dX3_fillFallbacks_43 rfl (by decide) (show zput _ _ _ = [(3, .int v11), (0, .ref r0), (1, .int x1), (2, .ref r2), (4, .int x4)] from rfl) ?_
          exact z_subL [1, 2, 3, 0, 4] (wfX3_fillFallbacks_b44 C E (fX3_fillFallbacks_b5 n) ih G r0 x1 r2 v11 x4 h) rfl
def fX3_fillFallbacks (G : zH) (r0 : Nat) (x1 : Int32) (r2 : Nat) : Option zH :=
    fX3_fillFallbacks_b5 FU G r0 x1 r2 (0 : Int32) (0 : Int32)
set_option maxRecDepth 100000 in
set_option maxHeartbeats 4000000 in
theorem wfX3_fillFallbacks {X : zX} {out : zH} (C : zOK X cX3_fillFallbacks yX3_fillFallbacks.cls 5 none 2 46) (E : zPost X (poV out)) (G : zH) (r0 : Nat) (x1 : Int32) (r2 : Nat) (h : fX3_fillFallbacks G r0 x1 r2 = some out) : zZ X 0 [(0, .ref r0), (1, .int x1), (2, .ref r2)] [] G := by
  rw [fX3_fillFallbacks] at h
  refine z_iconst (pc := 0) C dX3_fillFallbacks_0 (v := (0 : Int32)) (by decide) ?_
  refine z_istore_n (pc := 1) C dX3_fillFallbacks_1 rfl (by decide) (show zput _ _ _ = [(3, .int (0 : Int32)), (0, .ref r0), (1, .int x1), (2, .ref r2)] from rfl) ?_
  refine z_iconst (pc := 2) C dX3_fillFallbacks_2 (v := (0 : Int32)) (by decide) ?_
  refine z_istore (pc := 3) C dX3_fillFallbacks_3 (by decide) (show zput _ _ _ = [(4, .int (0 : Int32)), (3, .int (0 : Int32)), (0, .ref r0), (1, .int x1), (2, .ref r2)] from rfl) ?_
  exact z_subL [2, 3, 4, 1, 0] (wfX3_fillFallbacks_b5 C E FU G r0 x1 r2 (0 : Int32) (0 : Int32) h) rfl
theorem kX3_fillFallbacks (l : Launch) (D : va_G) (cA : Nat → ClassId) (b : Nat) (G : zH) (r0 : Nat) (x1 : Int32) (r2 : Nat) (out : zH) (h : fX3_fillFallbacks G r0 x1 r2 = some out) : zM l D cA b yX3_fillFallbacks cX3_fillFallbacks 5 none 2 46 [.ref r0, .int x1, .ref r2] G (poV out) := z_entry rfl (Nat.le_of_ble_eq_true rfl) (fun X C E _ _ _ => wfX3_fillFallbacks C E G r0 x1 r2 h)
def fX4_init (G : zH) (r0 : Nat) : Option zH :=
    ob1 (gN G (7600 : Int32)) fun N1 =>
    zlet (List.length G) fun qv2 =>
    zlet (G ++ [.inl (2, (N1, .inl (fun _ => 0)))]) fun G3 =>
    ob1 (fset G3 r0 4 0 (.ref qv2)) fun G4 =>
    some G4
set_option maxRecDepth 100000 in
set_option maxHeartbeats 4000000 in
theorem wfX4_init {X : zX} {out : zH} (C : zOK X cX4_init yX4_init.cls 1 none 1 20) (E : zPost X (poV out)) (hn : X.2.1.2.2.2.1.name = "<init>") (G : zH) (r0 : Nat) (h : fX4_init G r0 = some out) : zZ X 0 [(0, .ref r0)] [] G := by
  rw [fX4_init] at h
  refine z_aload_n (pc := 0) C 0 dX4_init_0 rfl rfl ?_
  refine z_objInit (pc := 1) C dX4_init_1 ml_X4_3 w_oi1 w_oi2 (Nat.le_of_ble_eq_true rfl) (by decide) (by decide) ?_
  refine z_aload_n (pc := 4) C 0 dX4_init_4 rfl rfl ?_
  refine z_sipush (pc := 5) C dX4_init_5 (v := (7600 : Int32)) (by decide) ?_
  obtain ⟨N1, eN1, h⟩ := ob1_eq h
  obtain ⟨qv2, eqv2, h⟩ := zlet_eq h
  obtain ⟨G3, eG3, h⟩ := zlet_eq h
  refine z_gNb (pc := 8) C dX4_init_8 eN1 eqv2 eG3 ?_
  obtain ⟨G4, eG4, h⟩ := ob1_eq h
  refine z_srF (pc := 10) C hn dX4_init_10 fl_X4_9w (fun _ => ⟨rfl, rfl⟩) eG4 ?_
  obtain rfl := Option.some.inj h
  exact z_vret (pc := 13) C E dX4_init_13 ⟨rfl, rfl⟩
theorem kX4_init (l : Launch) (D : va_G) (cA : Nat → ClassId) (b : Nat) (G : zH) (r0 : Nat) (out : zH) (h : fX4_init G r0 = some out) : zM l D cA b yX4_init cX4_init 1 none 1 20 [.ref r0] G (poV out) := z_entry rfl (Nat.le_of_ble_eq_true rfl) (fun X C E hn _ _ => wfX4_init C E hn G r0 h)
def fX4_sizeOf (G : zH) (r0 : Nat) (x1 : Int32) : Option Int32 :=
    if x1 = 0 then (ob1 (fi G r0 4 1) fun v3 =>
    some v3) else
    ob1 (fi G r0 4 2) fun v2 =>
    some v2
set_option maxRecDepth 100000 in
set_option maxHeartbeats 4000000 in
theorem wfX4_sizeOf {X : zX} {G : zH} {out : Int32} (C : zOK X cX4_sizeOf yX4_sizeOf.cls 2 (some .int) 0 0) (E : zPost X (poI out G)) (r0 : Nat) (x1 : Int32) (h : fX4_sizeOf G r0 x1 = some out) : zZ X 0 [(0, .ref r0), (1, .int x1)] [] G := by
  rw [fX4_sizeOf] at h
  refine z_iload_n (pc := 0) C 1 dX4_sizeOf_0 rfl rfl ?_
  refine z_if_ne (pc := 1) C dX4_sizeOf_1 (tgt := 11) (by decide) (fun c1 => ?_) (fun c1 => ?_)
  · rw [if_neg c1] at h
    refine z_aload_n (pc := 11) C 0 dX4_sizeOf_11 rfl rfl ?_
    obtain ⟨v2, ev2, h⟩ := ob1_eq h
    refine z_fi (pc := 12) C dX4_sizeOf_12 fl_X4_19 ev2 ?_
    obtain rfl := Option.some.inj h
    exact z_iret (pc := 15) C E dX4_sizeOf_15 ⟨rfl, rfl⟩
  · rw [if_pos c1] at h
    refine z_aload_n (pc := 4) C 0 dX4_sizeOf_4 rfl rfl ?_
    obtain ⟨v3, ev3, h⟩ := ob1_eq h
    refine z_fi (pc := 5) C dX4_sizeOf_5 fl_X4_15 ev3 ?_
    refine z_goto (pc := 8) C dX4_sizeOf_8 (tgt := 15) (by decide) ?_
    obtain rfl := Option.some.inj h
    exact z_iret (pc := 15) C E dX4_sizeOf_15 ⟨rfl, rfl⟩
theorem kX4_sizeOf (l : Launch) (D : va_G) (cA : Nat → ClassId) (b : Nat) (G : zH) (r0 : Nat) (x1 : Int32) (out : Int32) (h : fX4_sizeOf G r0 x1 = some out) : zM l D cA b yX4_sizeOf cX4_sizeOf 2 (some .int) 0 0 [.ref r0, .int x1] G (poI out G) := z_entry rfl (Nat.le_of_ble_eq_true rfl) (fun X C E _ _ _ => wfX4_sizeOf C E r0 x1 h)
def fX4_addedEnd (G : zH) (r0 : Nat) : Option Int32 :=
    ob1 (fi G r0 4 2) fun v1 =>
    some ((1600 : Int32) + v1)
set_option maxRecDepth 100000 in
set_option maxHeartbeats 4000000 in
theorem wfX4_addedEnd {X : zX} {G : zH} {out : Int32} (C : zOK X cX4_addedEnd yX4_addedEnd.cls 1 (some .int) 0 0) (E : zPost X (poI out G)) (r0 : Nat) (h : fX4_addedEnd G r0 = some out) : zZ X 0 [(0, .ref r0)] [] G := by
  rw [fX4_addedEnd] at h
  refine z_sipush (pc := 0) C dX4_addedEnd_0 (v := (1600 : Int32)) (by decide) ?_
  refine z_aload_n (pc := 3) C 0 dX4_addedEnd_3 rfl rfl ?_
  obtain ⟨v1, ev1, h⟩ := ob1_eq h
  refine z_fi (pc := 4) C dX4_addedEnd_4 fl_X4_19 ev1 ?_
  refine z_iadd (pc := 7) C dX4_addedEnd_7 ?_
  obtain rfl := Option.some.inj h
  exact z_iret (pc := 8) C E dX4_addedEnd_8 ⟨rfl, rfl⟩
theorem kX4_addedEnd (l : Launch) (D : va_G) (cA : Nat → ClassId) (b : Nat) (G : zH) (r0 : Nat) (out : Int32) (h : fX4_addedEnd G r0 = some out) : zM l D cA b yX4_addedEnd cX4_addedEnd 1 (some .int) 0 0 [.ref r0] G (poI out G) := z_entry rfl (Nat.le_of_ble_eq_true rfl) (fun X C E _ _ _ => wfX4_addedEnd C E r0 h)
def fX4_renew_b75 (k13 : zH → Nat → Nat → Int32 → Int32 → Int32 → Option zH) (G : zH) (r0 : Nat) (r1 : Nat) (x2 : Int32) (x3 : Int32) (x4 : Int32) : Option zH :=
    zlet (x4 + (1 : Int32)) fun y1 =>
    k13 G r0 r1 x2 x3 y1
set_option maxRecDepth 100000 in
set_option maxHeartbeats 4000000 in
theorem wfX4_renew_b75 {X : zX} {out : zH} (C : zOK X cX4_renew yX4_renew.cls 6 none 0 0) (E : zPost X (poV out)) (k13 : zH → Nat → Nat → Int32 → Int32 → Int32 → Option zH) (hk13 : ∀ (G : zH) (r0 : Nat) (r1 : Nat) (x2 : Int32) (x3 : Int32) (x4 : Int32), k13 G r0 r1 x2 x3 x4 = some out → zZ X 13 [(0, .ref r0), (1, .ref r1), (2, .int x2), (3, .int x3), (4, .int x4)] [] G) (G : zH) (r0 : Nat) (r1 : Nat) (x2 : Int32) (x3 : Int32) (x4 : Int32) (h : fX4_renew_b75 k13 G r0 r1 x2 x3 x4 = some out) : zZ X 75 [(0, .ref r0), (1, .ref r1), (2, .int x2), (3, .int x3), (4, .int x4)] [] G := by
  rw [fX4_renew_b75] at h
  obtain ⟨y1, ey1, h⟩ := zlet_eq h
  refine z_iinc (pc := 75) (v := y1) C 4 dX4_renew_75 rfl (by rw [ey1]; rfl) (by decide) (show zput _ _ _ = [(4, .int y1), (0, .ref r0), (1, .ref r1), (2, .int x2), (3, .int x3)] from rfl) ?_
  refine z_goto (pc := 78) C dX4_renew_78 (tgt := 13) (by decide) ?_
  exact z_subL [1, 2, 3, 4, 0] (hk13 G r0 r1 x2 x3 y1 h) rfl
def fX4_renew_b22 (k13 : zH → Nat → Nat → Int32 → Int32 → Int32 → Option zH) : Nat → zH → Nat → Nat → Int32 → Int32 → Int32 → Int32 → Option zH
  | 0, _, _, _, _, _, _, _ => none
  | n + 1, G, r0, r1, x2, x3, x4, x5 =>
    if x2 ≤ x5 then (fX4_renew_b75 k13 G r0 r1 x2 x3 x4) else
    ob1 (aL G 0 r1) fun v2 =>
    if v2 ≤ x5 then (fX4_renew_b75 k13 G r0 r1 x2 x3 x4) else
    ob1 (fi G r0 4 1) fun v4 =>
    if (1600 : Int32) ≤ v4 then (fX4_renew_b75 k13 G r0 r1 x2 x3 x4) else
    ob1 (frf G r0 4 0) fun qv6 =>
    ob1 (fi G r0 4 1) fun v7 =>
    ob1 (aR G 0 r1 x5) fun v8 =>
    ob1 (aW G 2 qv6 v7 (vp_nar .byte v8.toInt8.toInt32)) fun G9 =>
    ob1 (fi G9 r0 4 1) fun v10 =>
    ob1 (fset G9 r0 4 1 (.int (v10 + (1 : Int32)))) fun G11 =>
    zlet (x5 + (1 : Int32)) fun y12 =>
    (fX4_renew_b22 k13 n) G11 r0 r1 x2 x3 x4 y12
set_option maxRecDepth 100000 in
set_option maxHeartbeats 4000000 in
theorem wfX4_renew_b22 {X : zX} {out : zH} (C : zOK X cX4_renew yX4_renew.cls 6 none 0 0) (E : zPost X (poV out)) (k13 : zH → Nat → Nat → Int32 → Int32 → Int32 → Option zH) (hk13 : ∀ (G : zH) (r0 : Nat) (r1 : Nat) (x2 : Int32) (x3 : Int32) (x4 : Int32), k13 G r0 r1 x2 x3 x4 = some out → zZ X 13 [(0, .ref r0), (1, .ref r1), (2, .int x2), (3, .int x3), (4, .int x4)] [] G) : ∀ (n : Nat) (G : zH) (r0 : Nat) (r1 : Nat) (x2 : Int32) (x3 : Int32) (x4 : Int32) (x5 : Int32) (h : fX4_renew_b22 k13 n G r0 r1 x2 x3 x4 x5 = some out), zZ X 22 [(0, .ref r0), (1, .ref r1), (2, .int x2), (3, .int x3), (4, .int x4), (5, .int x5)] [] G := by
  intro n
  induction n with
  | zero => intro G r0 r1 x2 x3 x4 x5 h; cases h
  | succ n ih =>
    intro G r0 r1 x2 x3 x4 x5 h
    rw [fX4_renew_b22] at h
    refine z_iload (pc := 22) C 5 dX4_renew_22 rfl ?_
    refine z_iload_n (pc := 24) C 2 dX4_renew_24 rfl rfl ?_
    refine z_ic_ge (pc := 25) C dX4_renew_25 (tgt := 75) (by decide) (fun c1 => ?_) (fun c1 => ?_)
    · rw [if_pos c1] at h
      exact z_subL [0, 1, 2, 3, 4] (wfX4_renew_b75 C E k13 hk13 G r0 r1 x2 x3 x4 h) rfl
    · rw [if_neg c1] at h
      refine z_iload (pc := 28) C 5 dX4_renew_28 rfl ?_
      refine z_aload_n (pc := 30) C 1 dX4_renew_30 rfl rfl ?_
      obtain ⟨v2, ev2, h⟩ := ob1_eq h
      refine z_aL (pc := 31) C dX4_renew_31 (by decide) ev2 ?_
      refine z_ic_ge (pc := 32) C dX4_renew_32 (tgt := 75) (by decide) (fun c3 => ?_) (fun c3 => ?_)
      · rw [if_pos c3] at h
        exact z_subL [0, 1, 2, 3, 4] (wfX4_renew_b75 C E k13 hk13 G r0 r1 x2 x3 x4 h) rfl
      · rw [if_neg c3] at h
        refine z_aload_n (pc := 35) C 0 dX4_renew_35 rfl rfl ?_
        obtain ⟨v4, ev4, h⟩ := ob1_eq h
        refine z_fi (pc := 36) C dX4_renew_36 fl_X4_15 ev4 ?_
        refine z_sipush (pc := 39) C dX4_renew_39 (v := (1600 : Int32)) (by decide) ?_
        refine z_ic_ge (pc := 42) C dX4_renew_42 (tgt := 75) (by decide) (fun c5 => ?_) (fun c5 => ?_)
        · rw [if_pos c5] at h
          exact z_subL [0, 1, 2, 3, 4] (wfX4_renew_b75 C E k13 hk13 G r0 r1 x2 x3 x4 h) rfl
        · rw [if_neg c5] at h
          refine z_aload_n (pc := 45) C 0 dX4_renew_45 rfl rfl ?_
          obtain ⟨qv6, eqv6, h⟩ := ob1_eq h
          refine z_fr (pc := 46) C dX4_renew_46 fl_X4_9 eqv6 ?_
          refine z_aload_n (pc := 49) C 0 dX4_renew_49 rfl rfl ?_
          obtain ⟨v7, ev7, h⟩ := ob1_eq h
          refine z_fi (pc := 50) C dX4_renew_50 fl_X4_15 ev7 ?_
          refine z_aload_n (pc := 53) C 1 dX4_renew_53 rfl rfl ?_
          refine z_iload (pc := 54) C 5 dX4_renew_54 rfl ?_
          obtain ⟨v8, ev8, h⟩ := ob1_eq h
          refine z_aR (pc := 56) C dX4_renew_56 ev8 ?_
          refine z_i2b (pc := 57) C dX4_renew_57 ?_
          obtain ⟨G9, eG9, h⟩ := ob1_eq h
          refine z_bW (pc := 58) C dX4_renew_58 eG9 ?_
          refine z_aload_n (pc := 59) C 0 dX4_renew_59 rfl rfl ?_
          refine z_dup (pc := 60) C dX4_renew_60 rfl ?_
          obtain ⟨v10, ev10, h⟩ := ob1_eq h
          refine z_fi (pc := 61) C dX4_renew_61 fl_X4_15 ev10 ?_
          refine z_iconst (pc := 64) C dX4_renew_64 (v := (1 : Int32)) (by decide) ?_
          refine z_iadd (pc := 65) C dX4_renew_65 ?_
          obtain ⟨G11, eG11, h⟩ := ob1_eq h
          refine z_si (pc := 66) C dX4_renew_66 fl_X4_15w eG11 ?_
          obtain ⟨y12, ey12, h⟩ := zlet_eq h
          refine z_iinc (pc := 69) (v := y12) C 5 dX4_renew_69 rfl (by rw [ey12]; rfl) (by decide) (show zput _ _ _ = [(5, .int y12), (0, .ref r0), (1, .ref r1), (2, .int x2), (3, .int x3), (4, .int x4)] from rfl) ?_
          refine z_goto (pc := 72) C dX4_renew_72 (tgt := 22) (by decide) ?_
          exact z_subL [1, 2, 3, 4, 5, 0] (ih G11 r0 r1 x2 x3 x4 y12 h) rfl
def fX4_renew_b13 : Nat → zH → Nat → Nat → Int32 → Int32 → Int32 → Option zH
  | 0, _, _, _, _, _, _ => none
  | n + 1, G, r0, r1, x2, x3, x4 =>
    if x3 ≤ x4 then (some G) else
    fX4_renew_b22 (fX4_renew_b13 n) FU G r0 r1 x2 x3 x4 (0 : Int32)
set_option maxRecDepth 100000 in
set_option maxHeartbeats 4000000 in
theorem wfX4_renew_b13 {X : zX} {out : zH} (C : zOK X cX4_renew yX4_renew.cls 6 none 0 0) (E : zPost X (poV out)) : ∀ (n : Nat) (G : zH) (r0 : Nat) (r1 : Nat) (x2 : Int32) (x3 : Int32) (x4 : Int32) (h : fX4_renew_b13 n G r0 r1 x2 x3 x4 = some out), zZ X 13 [(0, .ref r0), (1, .ref r1), (2, .int x2), (3, .int x3), (4, .int x4)] [] G := by
  intro n
  induction n with
  | zero => intro G r0 r1 x2 x3 x4 h; cases h
  | succ n ih =>
    intro G r0 r1 x2 x3 x4 h
    rw [fX4_renew_b13] at h
    refine z_iload (pc := 13) C 4 dX4_renew_13 rfl ?_
    refine z_iload_n (pc := 15) C 3 dX4_renew_15 rfl rfl ?_
    refine z_ic_ge (pc := 16) C dX4_renew_16 (tgt := 81) (by decide) (fun c1 => ?_) (fun c1 => ?_)
    · rw [if_pos c1] at h
      obtain rfl := Option.some.inj h
      exact z_vret (pc := 81) C E dX4_renew_81 ⟨rfl, rfl⟩
    · rw [if_neg c1] at h
      refine z_iconst (pc := 19) C dX4_renew_19 (v := (0 : Int32)) (by decide) ?_
      refine z_istore (pc := 20) C dX4_renew_20 (by decide) (show zput _ _ _ = [(5, .int (0 : Int32)), (0, .ref r0), (1, .ref r1), (2, .int x2), (3, .int x3), (4, .int x4)] from rfl) ?_
      exact z_subL [1, 2, 3, 4, 5, 0] (wfX4_renew_b22 C E (fX4_renew_b13 n) ih FU G r0 r1 x2 x3 x4 (0 : Int32) h) rfl
def fX4_renew (G : zH) (r0 : Nat) (r1 : Nat) (x2 : Int32) (x3 : Int32) : Option zH :=
    ob1 (fset G r0 4 1 (.int (0 : Int32))) fun G1 =>
    ob1 (fset G1 r0 4 2 (.int (0 : Int32))) fun G2 =>
    fX4_renew_b13 FU G2 r0 r1 x2 x3 (0 : Int32)
set_option maxRecDepth 100000 in
set_option maxHeartbeats 4000000 in
theorem wfX4_renew {X : zX} {out : zH} (C : zOK X cX4_renew yX4_renew.cls 6 none 0 0) (E : zPost X (poV out)) (G : zH) (r0 : Nat) (r1 : Nat) (x2 : Int32) (x3 : Int32) (h : fX4_renew G r0 r1 x2 x3 = some out) : zZ X 0 [(0, .ref r0), (1, .ref r1), (2, .int x2), (3, .int x3)] [] G := by
  rw [fX4_renew] at h
  refine z_aload_n (pc := 0) C 0 dX4_renew_0 rfl rfl ?_
  refine z_iconst (pc := 1) C dX4_renew_1 (v := (0 : Int32)) (by decide) ?_
  obtain ⟨G1, eG1, h⟩ := ob1_eq h
  refine z_si (pc := 2) C dX4_renew_2 fl_X4_15w eG1 ?_
  refine z_aload_n (pc := 5) C 0 dX4_renew_5 rfl rfl ?_
  refine z_iconst (pc := 6) C dX4_renew_6 (v := (0 : Int32)) (by decide) ?_
  obtain ⟨G2, eG2, h⟩ := ob1_eq h
  refine z_si (pc := 7) C dX4_renew_7 fl_X4_19w eG2 ?_
  refine z_iconst (pc := 10) C dX4_renew_10 (v := (0 : Int32)) (by decide) ?_
  refine z_istore (pc := 11) C dX4_renew_11 (by decide) (show zput _ _ _ = [(4, .int (0 : Int32)), (0, .ref r0), (1, .ref r1), (2, .int x2), (3, .int x3)] from rfl) ?_
  exact z_subL [1, 2, 3, 4, 0] (wfX4_renew_b13 C E FU G2 r0 r1 x2 x3 (0 : Int32) h) rfl
theorem kX4_renew (l : Launch) (D : va_G) (cA : Nat → ClassId) (b : Nat) (G : zH) (r0 : Nat) (r1 : Nat) (x2 : Int32) (x3 : Int32) (out : zH) (h : fX4_renew G r0 r1 x2 x3 = some out) : zM l D cA b yX4_renew cX4_renew 6 none 0 0 [.ref r0, .ref r1, .int x2, .int x3] G (poV out) := z_entry rfl (Nat.le_of_ble_eq_true rfl) (fun X C E _ _ _ => wfX4_renew C E G r0 r1 x2 x3 h)
def fX4_add (G : zH) (r0 : Nat) (x1 : Int32) : Option zH :=
    ob1 (fi G r0 4 2) fun v1 =>
    if (6000 : Int32) ≤ v1 then (some G) else
    ob1 (frf G r0 4 0) fun qv3 =>
    ob1 (fi G r0 4 2) fun v4 =>
    ob1 (aW G 2 qv3 ((1600 : Int32) + v4) (vp_nar .byte x1.toInt8.toInt32)) fun G5 =>
    ob1 (fi G5 r0 4 2) fun v6 =>
    ob1 (fset G5 r0 4 2 (.int (v6 + (1 : Int32)))) fun G7 =>
    some G7
set_option maxRecDepth 100000 in
set_option maxHeartbeats 4000000 in
theorem wfX4_add {X : zX} {out : zH} (C : zOK X cX4_add yX4_add.cls 2 none 0 0) (E : zPost X (poV out)) (G : zH) (r0 : Nat) (x1 : Int32) (h : fX4_add G r0 x1 = some out) : zZ X 0 [(0, .ref r0), (1, .int x1)] [] G := by
  rw [fX4_add] at h
  refine z_aload_n (pc := 0) C 0 dX4_add_0 rfl rfl ?_
  obtain ⟨v1, ev1, h⟩ := ob1_eq h
  refine z_fi (pc := 1) C dX4_add_1 fl_X4_19 ev1 ?_
  refine z_sipush (pc := 4) C dX4_add_4 (v := (6000 : Int32)) (by decide) ?_
  refine z_ic_ge (pc := 7) C dX4_add_7 (tgt := 35) (by decide) (fun c2 => ?_) (fun c2 => ?_)
  · rw [if_pos c2] at h
    obtain rfl := Option.some.inj h
    exact z_vret (pc := 35) C E dX4_add_35 ⟨rfl, rfl⟩
  · rw [if_neg c2] at h
    refine z_aload_n (pc := 10) C 0 dX4_add_10 rfl rfl ?_
    obtain ⟨qv3, eqv3, h⟩ := ob1_eq h
    refine z_fr (pc := 11) C dX4_add_11 fl_X4_9 eqv3 ?_
    refine z_sipush (pc := 14) C dX4_add_14 (v := (1600 : Int32)) (by decide) ?_
    refine z_aload_n (pc := 17) C 0 dX4_add_17 rfl rfl ?_
    obtain ⟨v4, ev4, h⟩ := ob1_eq h
    refine z_fi (pc := 18) C dX4_add_18 fl_X4_19 ev4 ?_
    refine z_iadd (pc := 21) C dX4_add_21 ?_
    refine z_iload_n (pc := 22) C 1 dX4_add_22 rfl rfl ?_
    refine z_i2b (pc := 23) C dX4_add_23 ?_
    obtain ⟨G5, eG5, h⟩ := ob1_eq h
    refine z_bW (pc := 24) C dX4_add_24 eG5 ?_
    refine z_aload_n (pc := 25) C 0 dX4_add_25 rfl rfl ?_
    refine z_dup (pc := 26) C dX4_add_26 rfl ?_
    obtain ⟨v6, ev6, h⟩ := ob1_eq h
    refine z_fi (pc := 27) C dX4_add_27 fl_X4_19 ev6 ?_
    refine z_iconst (pc := 30) C dX4_add_30 (v := (1 : Int32)) (by decide) ?_
    refine z_iadd (pc := 31) C dX4_add_31 ?_
    obtain ⟨G7, eG7, h⟩ := ob1_eq h
    refine z_si (pc := 32) C dX4_add_32 fl_X4_19w eG7 ?_
    obtain rfl := Option.some.inj h
    exact z_vret (pc := 35) C E dX4_add_35 ⟨rfl, rfl⟩
theorem kX4_add (l : Launch) (D : va_G) (cA : Nat → ClassId) (b : Nat) (G : zH) (r0 : Nat) (x1 : Int32) (out : zH) (h : fX4_add G r0 x1 = some out) : zM l D cA b yX4_add cX4_add 2 none 0 0 [.ref r0, .int x1] G (poV out) := z_entry rfl (Nat.le_of_ble_eq_true rfl) (fun X C E _ _ _ => wfX4_add C E G r0 x1 h)
def fX4_addText_b2 : Nat → zH → Nat → Nat → Int32 → Int32 → Option zH
  | 0, _, _, _, _, _ => none
  | n + 1, G, r0, r1, x2, x3 =>
    if x2 ≤ x3 then (some G) else
    ob1 (aL G 0 r1) fun v2 =>
    if v2 ≤ x3 then (some G) else
    ob1 (aR G 0 r1 x3) fun v4 =>
    ob1 (isO G r0 4) fun u5 =>
    ob1 (fX4_add G r0 v4) fun G7 =>
    zlet (x3 + (1 : Int32)) fun y8 =>
    (fX4_addText_b2 n) G7 r0 r1 x2 y8
set_option maxRecDepth 100000 in
set_option maxHeartbeats 4000000 in
theorem wfX4_addText_b2 {X : zX} {out : zH} (C : zOK X cX4_addText yX4_addText.cls 4 none 1 21) (E : zPost X (poV out)) : ∀ (n : Nat) (G : zH) (r0 : Nat) (r1 : Nat) (x2 : Int32) (x3 : Int32) (h : fX4_addText_b2 n G r0 r1 x2 x3 = some out), zZ X 2 [(0, .ref r0), (1, .ref r1), (2, .int x2), (3, .int x3)] [] G := by
  intro n
  induction n with
  | zero => intro G r0 r1 x2 x3 h; cases h
  | succ n ih =>
    intro G r0 r1 x2 x3 h
    rw [fX4_addText_b2] at h
    refine z_iload_n (pc := 2) C 3 dX4_addText_2 rfl rfl ?_
    refine z_iload_n (pc := 3) C 2 dX4_addText_3 rfl rfl ?_
    refine z_ic_ge (pc := 4) C dX4_addText_4 (tgt := 26) (by decide) (fun c1 => ?_) (fun c1 => ?_)
    · rw [if_pos c1] at h
      obtain rfl := Option.some.inj h
      exact z_vret (pc := 26) C E dX4_addText_26 ⟨rfl, rfl⟩
    · rw [if_neg c1] at h
      refine z_iload_n (pc := 7) C 3 dX4_addText_7 rfl rfl ?_
      refine z_aload_n (pc := 8) C 1 dX4_addText_8 rfl rfl ?_
      obtain ⟨v2, ev2, h⟩ := ob1_eq h
      refine z_aL (pc := 9) C dX4_addText_9 (by decide) ev2 ?_
      refine z_ic_ge (pc := 10) C dX4_addText_10 (tgt := 26) (by decide) (fun c3 => ?_) (fun c3 => ?_)
      · rw [if_pos c3] at h
        obtain rfl := Option.some.inj h
        exact z_vret (pc := 26) C E dX4_addText_26 ⟨rfl, rfl⟩
      · rw [if_neg c3] at h
        refine z_aload_n (pc := 13) C 0 dX4_addText_13 rfl rfl ?_
        refine z_aload_n (pc := 14) C 1 dX4_addText_14 rfl rfl ?_
        refine z_iload_n (pc := 15) C 3 dX4_addText_15 rfl rfl ?_
        obtain ⟨v4, ev4, h⟩ := ob1_eq h
        refine z_aR (pc := 16) C dX4_addText_16 ev4 ?_
        obtain ⟨u5, eu5, h⟩ := ob1_eq h
        obtain ⟨w6, ew6⟩ := isO_eq eu5
        obtain ⟨G7, eG7, h⟩ := ob1_eq h
        refine z_callVv (h := r0) (As := [.int v4]) (rest := []) (pc := 17) C dX4_addText_17 ml_X4_22 (kX4_add _ _ _ _ G r0 v4 G7 eG7) ew6 rfl rfl rfl (Nat.le_of_ble_eq_true rfl) (by decide) ?_
        obtain ⟨y8, ey8, h⟩ := zlet_eq h
        refine z_iinc (pc := 20) (v := y8) C 3 dX4_addText_20 rfl (by rw [ey8]; rfl) (by decide) (show zput _ _ _ = [(3, .int y8), (0, .ref r0), (1, .ref r1), (2, .int x2)] from rfl) ?_
        refine z_goto (pc := 23) C dX4_addText_23 (tgt := 2) (by decide) ?_
        exact z_subL [1, 2, 3, 0] (ih G7 r0 r1 x2 y8 h) rfl
def fX4_addText (G : zH) (r0 : Nat) (r1 : Nat) (x2 : Int32) : Option zH :=
    fX4_addText_b2 FU G r0 r1 x2 (0 : Int32)
set_option maxRecDepth 100000 in
set_option maxHeartbeats 4000000 in
theorem wfX4_addText {X : zX} {out : zH} (C : zOK X cX4_addText yX4_addText.cls 4 none 1 21) (E : zPost X (poV out)) (G : zH) (r0 : Nat) (r1 : Nat) (x2 : Int32) (h : fX4_addText G r0 r1 x2 = some out) : zZ X 0 [(0, .ref r0), (1, .ref r1), (2, .int x2)] [] G := by
  rw [fX4_addText] at h
  refine z_iconst (pc := 0) C dX4_addText_0 (v := (0 : Int32)) (by decide) ?_
  refine z_istore_n (pc := 1) C dX4_addText_1 rfl (by decide) (show zput _ _ _ = [(3, .int (0 : Int32)), (0, .ref r0), (1, .ref r1), (2, .int x2)] from rfl) ?_
  exact z_subL [1, 2, 3, 0] (wfX4_addText_b2 C E FU G r0 r1 x2 (0 : Int32) h) rfl
theorem kX4_addText (l : Launch) (D : va_G) (cA : Nat → ClassId) (b : Nat) (G : zH) (r0 : Nat) (r1 : Nat) (x2 : Int32) (out : zH) (h : fX4_addText G r0 r1 x2 = some out) : zM l D cA b yX4_addText cX4_addText 4 none 1 21 [.ref r0, .ref r1, .int x2] G (poV out) := z_entry rfl (Nat.le_of_ble_eq_true rfl) (fun X C E _ _ _ => wfX4_addText C E G r0 r1 x2 h)
def fX4_addBlanks_b2 : Nat → zH → Nat → Int32 → Int32 → Option zH
  | 0, _, _, _, _ => none
  | n + 1, G, r0, x1, x2 =>
    if x1 ≤ x2 then (some G) else
    ob1 (isO G r0 4) fun u2 =>
    ob1 (fX4_add G r0 (32 : Int32)) fun G4 =>
    zlet (x2 + (1 : Int32)) fun y5 =>
    (fX4_addBlanks_b2 n) G4 r0 x1 y5
set_option maxRecDepth 100000 in
set_option maxHeartbeats 4000000 in
theorem wfX4_addBlanks_b2 {X : zX} {out : zH} (C : zOK X cX4_addBlanks yX4_addBlanks.cls 3 none 1 21) (E : zPost X (poV out)) : ∀ (n : Nat) (G : zH) (r0 : Nat) (x1 : Int32) (x2 : Int32) (h : fX4_addBlanks_b2 n G r0 x1 x2 = some out), zZ X 2 [(0, .ref r0), (1, .int x1), (2, .int x2)] [] G := by
  intro n
  induction n with
  | zero => intro G r0 x1 x2 h; cases h
  | succ n ih =>
    intro G r0 x1 x2 h
    rw [fX4_addBlanks_b2] at h
    refine z_iload_n (pc := 2) C 2 dX4_addBlanks_2 rfl rfl ?_
    refine z_iload_n (pc := 3) C 1 dX4_addBlanks_3 rfl rfl ?_
    refine z_ic_ge (pc := 4) C dX4_addBlanks_4 (tgt := 19) (by decide) (fun c1 => ?_) (fun c1 => ?_)
    · rw [if_pos c1] at h
      obtain rfl := Option.some.inj h
      exact z_vret (pc := 19) C E dX4_addBlanks_19 ⟨rfl, rfl⟩
    · rw [if_neg c1] at h
      refine z_aload_n (pc := 7) C 0 dX4_addBlanks_7 rfl rfl ?_
      refine z_bipush (pc := 8) C dX4_addBlanks_8 (v := (32 : Int32)) (by decide) ?_
      obtain ⟨u2, eu2, h⟩ := ob1_eq h
      obtain ⟨w3, ew3⟩ := isO_eq eu2
      obtain ⟨G4, eG4, h⟩ := ob1_eq h
      refine z_callVv (h := r0) (As := [.int (32 : Int32)]) (rest := []) (pc := 10) C dX4_addBlanks_10 ml_X4_22 (kX4_add _ _ _ _ G r0 (32 : Int32) G4 eG4) ew3 rfl rfl rfl (Nat.le_of_ble_eq_true rfl) (by decide) ?_
      obtain ⟨y5, ey5, h⟩ := zlet_eq h
      refine z_iinc (pc := 13) (v := y5) C 2 dX4_addBlanks_13 rfl (by rw [ey5]; rfl) (by decide) (show zput _ _ _ = [(2, .int y5), (0, .ref r0), (1, .int x1)] from rfl) ?_
      refine z_goto (pc := 16) C dX4_addBlanks_16 (tgt := 2) (by decide) ?_
      exact z_subL [1, 2, 0] (ih G4 r0 x1 y5 h) rfl
def fX4_addBlanks (G : zH) (r0 : Nat) (x1 : Int32) : Option zH :=
    fX4_addBlanks_b2 FU G r0 x1 (0 : Int32)
set_option maxRecDepth 100000 in
set_option maxHeartbeats 4000000 in
theorem wfX4_addBlanks {X : zX} {out : zH} (C : zOK X cX4_addBlanks yX4_addBlanks.cls 3 none 1 21) (E : zPost X (poV out)) (G : zH) (r0 : Nat) (x1 : Int32) (h : fX4_addBlanks G r0 x1 = some out) : zZ X 0 [(0, .ref r0), (1, .int x1)] [] G := by
  rw [fX4_addBlanks] at h
  refine z_iconst (pc := 0) C dX4_addBlanks_0 (v := (0 : Int32)) (by decide) ?_
  refine z_istore_n (pc := 1) C dX4_addBlanks_1 rfl (by decide) (show zput _ _ _ = [(2, .int (0 : Int32)), (0, .ref r0), (1, .int x1)] from rfl) ?_
  exact z_subL [1, 2, 0] (wfX4_addBlanks_b2 C E FU G r0 x1 (0 : Int32) h) rfl
theorem kX4_addBlanks (l : Launch) (D : va_G) (cA : Nat → ClassId) (b : Nat) (G : zH) (r0 : Nat) (x1 : Int32) (out : zH) (h : fX4_addBlanks G r0 x1 = some out) : zM l D cA b yX4_addBlanks cX4_addBlanks 3 none 1 21 [.ref r0, .int x1] G (poV out) := z_entry rfl (Nat.le_of_ble_eq_true rfl) (fun X C E _ _ _ => wfX4_addBlanks C E G r0 x1 h)
def fX4_breaksIn_b27 (G : zH) (k5 : Nat → Int32 → Int32 → Int32 → Int32 → Option Int32) (r0 : Nat) (x1 : Int32) (x2 : Int32) (x3 : Int32) (x4 : Int32) : Option Int32 :=
    zlet (x4 + (1 : Int32)) fun y1 =>
    k5 r0 x1 x2 x3 y1
set_option maxRecDepth 100000 in
set_option maxHeartbeats 4000000 in
theorem wfX4_breaksIn_b27 {X : zX} {G : zH} {out : Int32} (C : zOK X cX4_breaksIn yX4_breaksIn.cls 5 (some .int) 1 21) (E : zPost X (poI out G)) (k5 : Nat → Int32 → Int32 → Int32 → Int32 → Option Int32) (hk5 : ∀ (r0 : Nat) (x1 : Int32) (x2 : Int32) (x3 : Int32) (x4 : Int32), k5 r0 x1 x2 x3 x4 = some out → zZ X 5 [(0, .ref r0), (1, .int x1), (2, .int x2), (3, .int x3), (4, .int x4)] [] G) (r0 : Nat) (x1 : Int32) (x2 : Int32) (x3 : Int32) (x4 : Int32) (h : fX4_breaksIn_b27 G k5 r0 x1 x2 x3 x4 = some out) : zZ X 27 [(0, .ref r0), (1, .int x1), (2, .int x2), (3, .int x3), (4, .int x4)] [] G := by
  rw [fX4_breaksIn_b27] at h
  obtain ⟨y1, ey1, h⟩ := zlet_eq h
  refine z_iinc (pc := 27) (v := y1) C 4 dX4_breaksIn_27 rfl (by rw [ey1]; rfl) (by decide) (show zput _ _ _ = [(4, .int y1), (0, .ref r0), (1, .int x1), (2, .int x2), (3, .int x3)] from rfl) ?_
  refine z_goto (pc := 30) C dX4_breaksIn_30 (tgt := 5) (by decide) ?_
  exact z_subL [1, 2, 3, 4, 0] (hk5 r0 x1 x2 x3 y1 h) rfl
def fX4_breaksIn_b5 (G : zH) : Nat → Nat → Int32 → Int32 → Int32 → Int32 → Option Int32
  | 0, _, _, _, _, _ => none
  | n + 1, r0, x1, x2, x3, x4 =>
    if (x1 + x2) ≤ x4 then (some x3) else
    ob1 (isO G r0 4) fun u2 =>
    ob1 (fX4_signAt G r0 x4) fun v4 =>
    if v4 = (10 : Int32) then (zlet (x3 + (1 : Int32)) fun y6 =>
    fX4_breaksIn_b27 G (fX4_breaksIn_b5 G n) r0 x1 x2 y6 x4) else
    fX4_breaksIn_b27 G (fX4_breaksIn_b5 G n) r0 x1 x2 x3 x4
set_option maxRecDepth 100000 in
set_option maxHeartbeats 4000000 in
theorem wfX4_breaksIn_b5 {X : zX} {G : zH} {out : Int32} (C : zOK X cX4_breaksIn yX4_breaksIn.cls 5 (some .int) 1 21) (E : zPost X (poI out G)) : ∀ (n : Nat) (r0 : Nat) (x1 : Int32) (x2 : Int32) (x3 : Int32) (x4 : Int32) (h : fX4_breaksIn_b5 G n r0 x1 x2 x3 x4 = some out), zZ X 5 [(0, .ref r0), (1, .int x1), (2, .int x2), (3, .int x3), (4, .int x4)] [] G := by
  intro n
  induction n with
  | zero => intro r0 x1 x2 x3 x4 h; cases h
  | succ n ih =>
    intro r0 x1 x2 x3 x4 h
    rw [fX4_breaksIn_b5] at h
    refine z_iload (pc := 5) C 4 dX4_breaksIn_5 rfl ?_
    refine z_iload_n (pc := 7) C 1 dX4_breaksIn_7 rfl rfl ?_
    refine z_iload_n (pc := 8) C 2 dX4_breaksIn_8 rfl rfl ?_
    refine z_iadd (pc := 9) C dX4_breaksIn_9 ?_
    refine z_ic_ge (pc := 10) C dX4_breaksIn_10 (tgt := 33) (by decide) (fun c1 => ?_) (fun c1 => ?_)
    · rw [if_pos c1] at h
      refine z_iload_n (pc := 33) C 3 dX4_breaksIn_33 rfl rfl ?_
      obtain rfl := Option.some.inj h
      exact z_iret (pc := 34) C E dX4_breaksIn_34 ⟨rfl, rfl⟩
    · rw [if_neg c1] at h
      refine z_aload_n (pc := 13) C 0 dX4_breaksIn_13 rfl rfl ?_
      refine z_iload (pc := 14) C 4 dX4_breaksIn_14 rfl ?_
      obtain ⟨u2, eu2, h⟩ := ob1_eq h
      obtain ⟨w3, ew3⟩ := isO_eq eu2
      obtain ⟨v4, ev4, h⟩ := ob1_eq h
      refine z_callVi (h := r0) (As := [.int x4]) (rest := []) (pc := 16) C dX4_breaksIn_16 ml_X4_26 (kX4_signAt _ _ _ _ G r0 x4 v4 ev4) ew3 rfl rfl rfl (Nat.le_of_ble_eq_true rfl) (by decide) ?_
      refine z_bipush (pc := 19) C dX4_breaksIn_19 (v := (10 : Int32)) (by decide) ?_
      refine z_ic_ne (pc := 21) C dX4_breaksIn_21 (tgt := 27) (by decide) (fun c5 => ?_) (fun c5 => ?_)
      · rw [if_neg c5] at h
        exact z_subL [0, 1, 2, 3, 4] (wfX4_breaksIn_b27 C E (fX4_breaksIn_b5 G n) ih r0 x1 x2 x3 x4 h) rfl
      · rw [if_pos c5] at h
        obtain ⟨y6, ey6, h⟩ := zlet_eq h
        refine z_iinc (pc := 24) (v := y6) C 3 dX4_breaksIn_24 rfl (by rw [ey6]; rfl) (by decide) (show zput _ _ _ = [(3, .int y6), (0, .ref r0), (1, .int x1), (2, .int x2), (4, .int x4)] from rfl) ?_
        exact z_subL [1, 2, 3, 0, 4] (wfX4_breaksIn_b27 C E (fX4_breaksIn_b5 G n) ih r0 x1 x2 y6 x4 h) rfl
def fX4_breaksIn (G : zH) (r0 : Nat) (x1 : Int32) (x2 : Int32) : Option Int32 :=
    fX4_breaksIn_b5 G FU r0 x1 x2 (0 : Int32) x1
set_option maxRecDepth 100000 in
set_option maxHeartbeats 4000000 in
theorem wfX4_breaksIn {X : zX} {G : zH} {out : Int32} (C : zOK X cX4_breaksIn yX4_breaksIn.cls 5 (some .int) 1 21) (E : zPost X (poI out G)) (r0 : Nat) (x1 : Int32) (x2 : Int32) (h : fX4_breaksIn G r0 x1 x2 = some out) : zZ X 0 [(0, .ref r0), (1, .int x1), (2, .int x2)] [] G := by
  rw [fX4_breaksIn] at h
  refine z_iconst (pc := 0) C dX4_breaksIn_0 (v := (0 : Int32)) (by decide) ?_
  refine z_istore_n (pc := 1) C dX4_breaksIn_1 rfl (by decide) (show zput _ _ _ = [(3, .int (0 : Int32)), (0, .ref r0), (1, .int x1), (2, .int x2)] from rfl) ?_
  refine z_iload_n (pc := 2) C 2 dX4_breaksIn_2 rfl rfl ?_
  refine z_istore (pc := 3) C dX4_breaksIn_3 (by decide) (show zput _ _ _ = [(4, .int x1), (3, .int (0 : Int32)), (0, .ref r0), (1, .int x1), (2, .int x2)] from rfl) ?_
  exact z_subL [2, 3, 4, 1, 0] (wfX4_breaksIn_b5 C E FU r0 x1 x2 (0 : Int32) x1 h) rfl
theorem kX4_breaksIn (l : Launch) (D : va_G) (cA : Nat → ClassId) (b : Nat) (G : zH) (r0 : Nat) (x1 : Int32) (x2 : Int32) (out : Int32) (h : fX4_breaksIn G r0 x1 x2 = some out) : zM l D cA b yX4_breaksIn cX4_breaksIn 5 (some .int) 1 21 [.ref r0, .int x1, .int x2] G (poI out G) := z_entry rfl (Nat.le_of_ble_eq_true rfl) (fun X C E _ _ _ => wfX4_breaksIn C E r0 x1 x2 h)
def fX5_init (G : zH) (r0 : Nat) : Option zH :=
    ob1 (gN G (16 : Int32)) fun N1 =>
    zlet (List.length G) fun qv2 =>
    zlet (G ++ [.inl (1, (N1, .inr (.inl (fun _ => 0))))]) fun G3 =>
    ob1 (fset G3 r0 5 0 (.ref qv2)) fun G4 =>
    some G4
set_option maxRecDepth 100000 in
set_option maxHeartbeats 4000000 in
theorem wfX5_init {X : zX} {out : zH} (C : zOK X cX5_init yX5_init.cls 1 none 1 20) (E : zPost X (poV out)) (hn : X.2.1.2.2.2.1.name = "<init>") (G : zH) (r0 : Nat) (h : fX5_init G r0 = some out) : zZ X 0 [(0, .ref r0)] [] G := by
  rw [fX5_init] at h
  refine z_aload_n (pc := 0) C 0 dX5_init_0 rfl rfl ?_
  refine z_objInit (pc := 1) C dX5_init_1 ml_X5_3 w_oi1 w_oi2 (Nat.le_of_ble_eq_true rfl) (by decide) (by decide) ?_
  refine z_aload_n (pc := 4) C 0 dX5_init_4 rfl rfl ?_
  refine z_bipush (pc := 5) C dX5_init_5 (v := (16 : Int32)) (by decide) ?_
  obtain ⟨N1, eN1, h⟩ := ob1_eq h
  obtain ⟨qv2, eqv2, h⟩ := zlet_eq h
  obtain ⟨G3, eG3, h⟩ := zlet_eq h
  refine z_gNj (pc := 7) C dX5_init_7 eN1 eqv2 eG3 ?_
  obtain ⟨G4, eG4, h⟩ := ob1_eq h
  refine z_srF (pc := 9) C hn dX5_init_9 fl_X5_9w (fun _ => ⟨rfl, rfl⟩) eG4 ?_
  obtain rfl := Option.some.inj h
  exact z_vret (pc := 12) C E dX5_init_12 ⟨rfl, rfl⟩
theorem kX5_init (l : Launch) (D : va_G) (cA : Nat → ClassId) (b : Nat) (G : zH) (r0 : Nat) (out : zH) (h : fX5_init G r0 = some out) : zM l D cA b yX5_init cX5_init 1 none 1 20 [.ref r0] G (poV out) := z_entry rfl (Nat.le_of_ble_eq_true rfl) (fun X C E hn _ _ => wfX5_init C E hn G r0 h)
def fX5_clear (G : zH) (r0 : Nat) : Option zH :=
    ob1 (fset G r0 5 1 (.int (0 : Int32))) fun G1 =>
    some G1
set_option maxRecDepth 100000 in
set_option maxHeartbeats 4000000 in
theorem wfX5_clear {X : zX} {out : zH} (C : zOK X cX5_clear yX5_clear.cls 1 none 0 0) (E : zPost X (poV out)) (G : zH) (r0 : Nat) (h : fX5_clear G r0 = some out) : zZ X 0 [(0, .ref r0)] [] G := by
  rw [fX5_clear] at h
  refine z_aload_n (pc := 0) C 0 dX5_clear_0 rfl rfl ?_
  refine z_iconst (pc := 1) C dX5_clear_1 (v := (0 : Int32)) (by decide) ?_
  obtain ⟨G1, eG1, h⟩ := ob1_eq h
  refine z_si (pc := 2) C dX5_clear_2 fl_X5_15w eG1 ?_
  obtain rfl := Option.some.inj h
  exact z_vret (pc := 5) C E dX5_clear_5 ⟨rfl, rfl⟩
theorem kX5_clear (l : Launch) (D : va_G) (cA : Nat → ClassId) (b : Nat) (G : zH) (r0 : Nat) (out : zH) (h : fX5_clear G r0 = some out) : zM l D cA b yX5_clear cX5_clear 1 none 0 0 [.ref r0] G (poV out) := z_entry rfl (Nat.le_of_ble_eq_true rfl) (fun X C E _ _ _ => wfX5_clear C E G r0 h)
def fX5_add (G : zH) (r0 : Nat) (x1 : Int64) : Option zH :=
    ob1 (fi G r0 5 1) fun v1 =>
    ob1 (frf G r0 5 0) fun qv2 =>
    ob1 (jL G qv2) fun v3 =>
    if v3 ≤ v1 then (some G) else
    ob1 (frf G r0 5 0) fun qv5 =>
    ob1 (fi G r0 5 1) fun v6 =>
    ob1 (jW G qv5 v6 x1) fun G7 =>
    ob1 (fi G7 r0 5 1) fun v8 =>
    ob1 (fset G7 r0 5 1 (.int (v8 + (1 : Int32)))) fun G9 =>
    some G9
set_option maxRecDepth 100000 in
set_option maxHeartbeats 4000000 in
theorem wfX5_add {X : zX} {out : zH} (C : zOK X cX5_add yX5_add.cls 3 none 0 0) (E : zPost X (poV out)) (G : zH) (r0 : Nat) (x1 : Int64) (h : fX5_add G r0 x1 = some out) : zZ X 0 [(0, .ref r0), (1, .long x1)] [] G := by
  rw [fX5_add] at h
  refine z_aload_n (pc := 0) C 0 dX5_add_0 rfl rfl ?_
  obtain ⟨v1, ev1, h⟩ := ob1_eq h
  refine z_fi (pc := 1) C dX5_add_1 fl_X5_15 ev1 ?_
  refine z_aload_n (pc := 4) C 0 dX5_add_4 rfl rfl ?_
  obtain ⟨qv2, eqv2, h⟩ := ob1_eq h
  refine z_fr (pc := 5) C dX5_add_5 fl_X5_9 eqv2 ?_
  obtain ⟨v3, ev3, h⟩ := ob1_eq h
  refine z_jL (pc := 8) C dX5_add_8 ev3 ?_
  refine z_ic_ge (pc := 9) C dX5_add_9 (tgt := 32) (by decide) (fun c4 => ?_) (fun c4 => ?_)
  · rw [if_pos c4] at h
    obtain rfl := Option.some.inj h
    exact z_vret (pc := 32) C E dX5_add_32 ⟨rfl, rfl⟩
  · rw [if_neg c4] at h
    refine z_aload_n (pc := 12) C 0 dX5_add_12 rfl rfl ?_
    obtain ⟨qv5, eqv5, h⟩ := ob1_eq h
    refine z_fr (pc := 13) C dX5_add_13 fl_X5_9 eqv5 ?_
    refine z_aload_n (pc := 16) C 0 dX5_add_16 rfl rfl ?_
    obtain ⟨v6, ev6, h⟩ := ob1_eq h
    refine z_fi (pc := 17) C dX5_add_17 fl_X5_15 ev6 ?_
    refine z_lload_n (pc := 20) C 1 dX5_add_20 rfl rfl ?_
    obtain ⟨G7, eG7, h⟩ := ob1_eq h
    refine z_jW (pc := 21) C dX5_add_21 eG7 ?_
    refine z_aload_n (pc := 22) C 0 dX5_add_22 rfl rfl ?_
    refine z_dup (pc := 23) C dX5_add_23 rfl ?_
    obtain ⟨v8, ev8, h⟩ := ob1_eq h
    refine z_fi (pc := 24) C dX5_add_24 fl_X5_15 ev8 ?_
    refine z_iconst (pc := 27) C dX5_add_27 (v := (1 : Int32)) (by decide) ?_
    refine z_iadd (pc := 28) C dX5_add_28 ?_
    obtain ⟨G9, eG9, h⟩ := ob1_eq h
    refine z_si (pc := 29) C dX5_add_29 fl_X5_15w eG9 ?_
    obtain rfl := Option.some.inj h
    exact z_vret (pc := 32) C E dX5_add_32 ⟨rfl, rfl⟩
theorem kX5_add (l : Launch) (D : va_G) (cA : Nat → ClassId) (b : Nat) (G : zH) (r0 : Nat) (x1 : Int64) (out : zH) (h : fX5_add G r0 x1 = some out) : zM l D cA b yX5_add cX5_add 3 none 0 0 [.ref r0, .long x1] G (poV out) := z_entry rfl (Nat.le_of_ble_eq_true rfl) (fun X C E _ _ _ => wfX5_add C E G r0 x1 h)
def fX5_tell (G : zH) (r0 : Nat) (x1 : Int64) : Option zH :=
    ob1 (isO G r0 5) fun u1 =>
    ob1 (fX5_clear G r0 ) fun G3 =>
    ob1 (isO G3 r0 5) fun u4 =>
    ob1 (fX5_add G3 r0 x1) fun G6 =>
    some G6
set_option maxRecDepth 100000 in
set_option maxHeartbeats 4000000 in
theorem wfX5_tell {X : zX} {out : zH} (C : zOK X cX5_tell yX5_tell.cls 3 none 1 22) (E : zPost X (poV out)) (G : zH) (r0 : Nat) (x1 : Int64) (h : fX5_tell G r0 x1 = some out) : zZ X 0 [(0, .ref r0), (1, .long x1)] [] G := by
  rw [fX5_tell] at h
  refine z_aload_n (pc := 0) C 0 dX5_tell_0 rfl rfl ?_
  obtain ⟨u1, eu1, h⟩ := ob1_eq h
  obtain ⟨w2, ew2⟩ := isO_eq eu1
  obtain ⟨G3, eG3, h⟩ := ob1_eq h
  refine z_callVv (h := r0) (As := []) (rest := []) (pc := 1) C dX5_tell_1 ml_X5_19 (kX5_clear _ _ _ _ G r0  G3 eG3) ew2 rfl rfl rfl (Nat.le_of_ble_eq_true rfl) (by decide) ?_
  refine z_aload_n (pc := 4) C 0 dX5_tell_4 rfl rfl ?_
  refine z_lload_n (pc := 5) C 1 dX5_tell_5 rfl rfl ?_
  obtain ⟨u4, eu4, h⟩ := ob1_eq h
  obtain ⟨w5, ew5⟩ := isO_eq eu4
  obtain ⟨G6, eG6, h⟩ := ob1_eq h
  refine z_callVv (h := r0) (As := [.long x1]) (rest := []) (pc := 6) C dX5_tell_6 ml_X5_22 (kX5_add _ _ _ _ G3 r0 x1 G6 eG6) ew5 rfl rfl rfl (Nat.le_of_ble_eq_true rfl) (by decide) ?_
  obtain rfl := Option.some.inj h
  exact z_vret (pc := 9) C E dX5_tell_9 ⟨rfl, rfl⟩
theorem kX5_tell (l : Launch) (D : va_G) (cA : Nat → ClassId) (b : Nat) (G : zH) (r0 : Nat) (x1 : Int64) (out : zH) (h : fX5_tell G r0 x1 = some out) : zM l D cA b yX5_tell cX5_tell 3 none 1 22 [.ref r0, .long x1] G (poV out) := z_entry rfl (Nat.le_of_ble_eq_true rfl) (fun X C E _ _ _ => wfX5_tell C E G r0 x1 h)
def fX5_tell_ (G : zH) (r0 : Nat) (x1 : Int64) (x3 : Int64) : Option zH :=
    ob1 (isO G r0 5) fun u1 =>
    ob1 (fX5_tell G r0 x1) fun G3 =>
    ob1 (isO G3 r0 5) fun u4 =>
    ob1 (fX5_add G3 r0 x3) fun G6 =>
    some G6
set_option maxRecDepth 100000 in
set_option maxHeartbeats 4000000 in
theorem wfX5_tell_ {X : zX} {out : zH} (C : zOK X cX5_tell_ yX5_tell_.cls 5 none 2 44) (E : zPost X (poV out)) (G : zH) (r0 : Nat) (x1 : Int64) (x3 : Int64) (h : fX5_tell_ G r0 x1 x3 = some out) : zZ X 0 [(0, .ref r0), (1, .long x1), (3, .long x3)] [] G := by
  rw [fX5_tell_] at h
  refine z_aload_n (pc := 0) C 0 dX5_tell__0 rfl rfl ?_
  refine z_lload_n (pc := 1) C 1 dX5_tell__1 rfl rfl ?_
  obtain ⟨u1, eu1, h⟩ := ob1_eq h
  obtain ⟨w2, ew2⟩ := isO_eq eu1
  obtain ⟨G3, eG3, h⟩ := ob1_eq h
  refine z_callVv (h := r0) (As := [.long x1]) (rest := []) (pc := 2) C dX5_tell__2 ml_X5_26 (kX5_tell _ _ _ _ G r0 x1 G3 eG3) ew2 rfl rfl rfl (Nat.le_of_ble_eq_true rfl) (by decide) ?_
  refine z_aload_n (pc := 5) C 0 dX5_tell__5 rfl rfl ?_
  refine z_lload_n (pc := 6) C 2 dX5_tell__6 rfl rfl ?_
  obtain ⟨u4, eu4, h⟩ := ob1_eq h
  obtain ⟨w5, ew5⟩ := isO_eq eu4
  obtain ⟨G6, eG6, h⟩ := ob1_eq h
  refine z_callVv (h := r0) (As := [.long x3]) (rest := []) (pc := 7) C dX5_tell__7 ml_X5_22 (kX5_add _ _ _ _ G3 r0 x3 G6 eG6) ew5 rfl rfl rfl (Nat.le_of_ble_eq_true rfl) (by decide) ?_
  obtain rfl := Option.some.inj h
  exact z_vret (pc := 10) C E dX5_tell__10 ⟨rfl, rfl⟩
theorem kX5_tell_ (l : Launch) (D : va_G) (cA : Nat → ClassId) (b : Nat) (G : zH) (r0 : Nat) (x1 : Int64) (x3 : Int64) (out : zH) (h : fX5_tell_ G r0 x1 x3 = some out) : zM l D cA b yX5_tell_ cX5_tell_ 5 none 2 44 [.ref r0, .long x1, .long x3] G (poV out) := z_entry rfl (Nat.le_of_ble_eq_true rfl) (fun X C E _ _ _ => wfX5_tell_ C E G r0 x1 x3 h)
def fX5_tell__ (G : zH) (r0 : Nat) (x1 : Int64) (x3 : Int64) (x5 : Int64) : Option zH :=
    ob1 (isO G r0 5) fun u1 =>
    ob1 (fX5_tell_ G r0 x1 x3) fun G3 =>
    ob1 (isO G3 r0 5) fun u4 =>
    ob1 (fX5_add G3 r0 x5) fun G6 =>
    some G6
set_option maxRecDepth 100000 in
set_option maxHeartbeats 4000000 in
theorem wfX5_tell__ {X : zX} {out : zH} (C : zOK X cX5_tell__ yX5_tell__.cls 7 none 3 68) (E : zPost X (poV out)) (G : zH) (r0 : Nat) (x1 : Int64) (x3 : Int64) (x5 : Int64) (h : fX5_tell__ G r0 x1 x3 x5 = some out) : zZ X 0 [(0, .ref r0), (1, .long x1), (3, .long x3), (5, .long x5)] [] G := by
  rw [fX5_tell__] at h
  refine z_aload_n (pc := 0) C 0 dX5_tell___0 rfl rfl ?_
  refine z_lload_n (pc := 1) C 1 dX5_tell___1 rfl rfl ?_
  refine z_lload_n (pc := 2) C 2 dX5_tell___2 rfl rfl ?_
  obtain ⟨u1, eu1, h⟩ := ob1_eq h
  obtain ⟨w2, ew2⟩ := isO_eq eu1
  obtain ⟨G3, eG3, h⟩ := ob1_eq h
  refine z_callVv (h := r0) (As := [.long x1, .long x3]) (rest := []) (pc := 3) C dX5_tell___3 ml_X5_29 (kX5_tell_ _ _ _ _ G r0 x1 x3 G3 eG3) ew2 rfl rfl rfl (Nat.le_of_ble_eq_true rfl) (by decide) ?_
  refine z_aload_n (pc := 6) C 0 dX5_tell___6 rfl rfl ?_
  refine z_lload (pc := 7) C 3 dX5_tell___7 rfl ?_
  obtain ⟨u4, eu4, h⟩ := ob1_eq h
  obtain ⟨w5, ew5⟩ := isO_eq eu4
  obtain ⟨G6, eG6, h⟩ := ob1_eq h
  refine z_callVv (h := r0) (As := [.long x5]) (rest := []) (pc := 9) C dX5_tell___9 ml_X5_22 (kX5_add _ _ _ _ G3 r0 x5 G6 eG6) ew5 rfl rfl rfl (Nat.le_of_ble_eq_true rfl) (by decide) ?_
  obtain rfl := Option.some.inj h
  exact z_vret (pc := 12) C E dX5_tell___12 ⟨rfl, rfl⟩
theorem kX5_tell__ (l : Launch) (D : va_G) (cA : Nat → ClassId) (b : Nat) (G : zH) (r0 : Nat) (x1 : Int64) (x3 : Int64) (x5 : Int64) (out : zH) (h : fX5_tell__ G r0 x1 x3 x5 = some out) : zM l D cA b yX5_tell__ cX5_tell__ 7 none 3 68 [.ref r0, .long x1, .long x3, .long x5] G (poV out) := z_entry rfl (Nat.le_of_ble_eq_true rfl) (fun X C E _ _ _ => wfX5_tell__ C E G r0 x1 x3 x5 h)
def fX6_isSign (x0 : Int32) : Option Int32 :=
    if x0 < (1 : Int32) then (some (0 : Int32)) else
    if (127 : Int32) < x0 then (some (0 : Int32)) else
    some (1 : Int32)
set_option maxRecDepth 100000 in
set_option maxHeartbeats 4000000 in
theorem wfX6_isSign {X : zX} {G : zH} {out : Int32} (C : zOK X cX6_isSign yX6_isSign.cls 1 (some .boolean) 0 0) (E : zPost X (poI out G)) (x0 : Int32) (h : fX6_isSign x0 = some out) : zZ X 0 [(0, .int x0)] [] G := by
  rw [fX6_isSign] at h
  refine z_iload_n (pc := 0) C 0 dX6_isSign_0 rfl rfl ?_
  refine z_iconst (pc := 1) C dX6_isSign_1 (v := (1 : Int32)) (by decide) ?_
  refine z_ic_lt (pc := 2) C dX6_isSign_2 (tgt := 15) (by decide) (fun c1 => ?_) (fun c1 => ?_)
  · rw [if_pos c1] at h
    refine z_iconst (pc := 15) C dX6_isSign_15 (v := (0 : Int32)) (by decide) ?_
    obtain rfl := Option.some.inj h
    exact z_zret (pc := 16) C E dX6_isSign_16 rfl ⟨rfl, rfl⟩
  · rw [if_neg c1] at h
    refine z_iload_n (pc := 5) C 0 dX6_isSign_5 rfl rfl ?_
    refine z_bipush (pc := 6) C dX6_isSign_6 (v := (127 : Int32)) (by decide) ?_
    refine z_ic_gt (pc := 8) C dX6_isSign_8 (tgt := 15) (by decide) (fun c2 => ?_) (fun c2 => ?_)
    · rw [if_pos c2] at h
      refine z_iconst (pc := 15) C dX6_isSign_15 (v := (0 : Int32)) (by decide) ?_
      obtain rfl := Option.some.inj h
      exact z_zret (pc := 16) C E dX6_isSign_16 rfl ⟨rfl, rfl⟩
    · rw [if_neg c2] at h
      refine z_iconst (pc := 11) C dX6_isSign_11 (v := (1 : Int32)) (by decide) ?_
      refine z_goto (pc := 12) C dX6_isSign_12 (tgt := 16) (by decide) ?_
      obtain rfl := Option.some.inj h
      exact z_zret (pc := 16) C E dX6_isSign_16 rfl ⟨rfl, rfl⟩
theorem kX6_isSign (l : Launch) (D : va_G) (cA : Nat → ClassId) (b : Nat) (G : zH) (x0 : Int32) (out : Int32) (h : fX6_isSign x0 = some out) : zM l D cA b yX6_isSign cX6_isSign 1 (some .boolean) 0 0 [.int x0] G (poI out G) := z_entry rfl (Nat.le_of_ble_eq_true rfl) (fun X C E _ _ _ => wfX6_isSign C E x0 h)
def fX6_baseOf (x0 : Int32) : Option Int32 :=
    if x0 = 0 then (some (0 : Int32)) else
    some (1600 : Int32)
set_option maxRecDepth 100000 in
set_option maxHeartbeats 4000000 in
theorem wfX6_baseOf {X : zX} {G : zH} {out : Int32} (C : zOK X cX6_baseOf yX6_baseOf.cls 1 (some .int) 0 0) (E : zPost X (poI out G)) (x0 : Int32) (h : fX6_baseOf x0 = some out) : zZ X 0 [(0, .int x0)] [] G := by
  rw [fX6_baseOf] at h
  refine z_iload_n (pc := 0) C 0 dX6_baseOf_0 rfl rfl ?_
  refine z_if_ne (pc := 1) C dX6_baseOf_1 (tgt := 8) (by decide) (fun c1 => ?_) (fun c1 => ?_)
  · rw [if_neg c1] at h
    refine z_sipush (pc := 8) C dX6_baseOf_8 (v := (1600 : Int32)) (by decide) ?_
    obtain rfl := Option.some.inj h
    exact z_iret (pc := 11) C E dX6_baseOf_11 ⟨rfl, rfl⟩
  · rw [if_pos c1] at h
    refine z_iconst (pc := 4) C dX6_baseOf_4 (v := (0 : Int32)) (by decide) ?_
    refine z_goto (pc := 5) C dX6_baseOf_5 (tgt := 11) (by decide) ?_
    obtain rfl := Option.some.inj h
    exact z_iret (pc := 11) C E dX6_baseOf_11 ⟨rfl, rfl⟩
theorem kX6_baseOf (l : Launch) (D : va_G) (cA : Nat → ClassId) (b : Nat) (G : zH) (x0 : Int32) (out : Int32) (h : fX6_baseOf x0 = some out) : zM l D cA b yX6_baseOf cX6_baseOf 1 (some .int) 0 0 [.int x0] G (poI out G) := z_entry rfl (Nat.le_of_ble_eq_true rfl) (fun X C E _ _ _ => wfX6_baseOf C E x0 h)
def fX6_lengthOfAct (x0 : Int32) : Option Int32 :=
    if x0 = (100 : Int32) then (some (7 : Int32)) else
    if x0 = (101 : Int32) then (some (0 : Int32)) else
    if x0 = (102 : Int32) then (some (0 : Int32)) else
    if x0 = (103 : Int32) then (some (0 : Int32)) else
    if x0 = (104 : Int32) then (some (1 : Int32)) else
    if x0 = (105 : Int32) then (some (6 : Int32)) else
    if x0 = (106 : Int32) then (some (0 : Int32)) else
    if x0 = (107 : Int32) then (some (0 : Int32)) else
    if x0 = (108 : Int32) then (some (11 : Int32)) else
    if x0 = (109 : Int32) then (some (11 : Int32)) else
    if x0 = (110 : Int32) then (some (0 : Int32)) else
    if x0 = (111 : Int32) then (some (0 : Int32)) else
    if x0 = (112 : Int32) then (some (0 : Int32)) else
    if x0 = (113 : Int32) then (some (0 : Int32)) else
    if x0 = (114 : Int32) then (some (1 : Int32)) else
    if x0 = (115 : Int32) then (some (0 : Int32)) else
    if x0 = (116 : Int32) then (some (0 : Int32)) else
    if x0 = (117 : Int32) then (some (1 : Int32)) else
    if x0.toInt < 100 ∨ 117 < x0.toInt then (some (0 : Int32)) else none
set_option maxRecDepth 100000 in
set_option maxHeartbeats 4000000 in
theorem wfX6_lengthOfAct {X : zX} {G : zH} {out : Int32} (C : zOK X cX6_lengthOfAct yX6_lengthOfAct.cls 1 (some .int) 0 0) (E : zPost X (poI out G)) (x0 : Int32) (h : fX6_lengthOfAct x0 = some out) : zZ X 0 [(0, .int x0)] [] G := by
  rw [fX6_lengthOfAct] at h
  refine z_iload_n (pc := 0) C 0 dX6_lengthOfAct_0 rfl rfl ?_
  by_cases c1 : x0 = (100 : Int32)
  · rw [if_pos c1] at h
    refine z_tableIn (pc := 1) (tgt := 91) (off := 90) C dX6_lengthOfAct_1 (by rw [c1]; decide) (by rw [c1]; decide) (by rw [c1]; decide) (by decide) ?_
    refine z_bipush (pc := 91) C dX6_lengthOfAct_91 (v := (7 : Int32)) (by decide) ?_
    obtain rfl := Option.some.inj h
    exact z_iret (pc := 93) C E dX6_lengthOfAct_93 ⟨rfl, rfl⟩
  rw [if_neg c1] at h
  by_cases c2 : x0 = (101 : Int32)
  · rw [if_pos c2] at h
    refine z_tableIn (pc := 1) (tgt := 99) (off := 98) C dX6_lengthOfAct_1 (by rw [c2]; decide) (by rw [c2]; decide) (by rw [c2]; decide) (by decide) ?_
    refine z_iconst (pc := 99) C dX6_lengthOfAct_99 (v := (0 : Int32)) (by decide) ?_
    obtain rfl := Option.some.inj h
    exact z_iret (pc := 100) C E dX6_lengthOfAct_100 ⟨rfl, rfl⟩
  rw [if_neg c2] at h
  by_cases c3 : x0 = (102 : Int32)
  · rw [if_pos c3] at h
    refine z_tableIn (pc := 1) (tgt := 99) (off := 98) C dX6_lengthOfAct_1 (by rw [c3]; decide) (by rw [c3]; decide) (by rw [c3]; decide) (by decide) ?_
    refine z_iconst (pc := 99) C dX6_lengthOfAct_99 (v := (0 : Int32)) (by decide) ?_
    obtain rfl := Option.some.inj h
    exact z_iret (pc := 100) C E dX6_lengthOfAct_100 ⟨rfl, rfl⟩
  rw [if_neg c3] at h
  by_cases c4 : x0 = (103 : Int32)
  · rw [if_pos c4] at h
    refine z_tableIn (pc := 1) (tgt := 99) (off := 98) C dX6_lengthOfAct_1 (by rw [c4]; decide) (by rw [c4]; decide) (by rw [c4]; decide) (by decide) ?_
    refine z_iconst (pc := 99) C dX6_lengthOfAct_99 (v := (0 : Int32)) (by decide) ?_
    obtain rfl := Option.some.inj h
    exact z_iret (pc := 100) C E dX6_lengthOfAct_100 ⟨rfl, rfl⟩
  rw [if_neg c4] at h
  by_cases c5 : x0 = (104 : Int32)
  · rw [if_pos c5] at h
    refine z_tableIn (pc := 1) (tgt := 97) (off := 96) C dX6_lengthOfAct_1 (by rw [c5]; decide) (by rw [c5]; decide) (by rw [c5]; decide) (by decide) ?_
    refine z_iconst (pc := 97) C dX6_lengthOfAct_97 (v := (1 : Int32)) (by decide) ?_
    obtain rfl := Option.some.inj h
    exact z_iret (pc := 98) C E dX6_lengthOfAct_98 ⟨rfl, rfl⟩
  rw [if_neg c5] at h
  by_cases c6 : x0 = (105 : Int32)
  · rw [if_pos c6] at h
    refine z_tableIn (pc := 1) (tgt := 88) (off := 87) C dX6_lengthOfAct_1 (by rw [c6]; decide) (by rw [c6]; decide) (by rw [c6]; decide) (by decide) ?_
    refine z_bipush (pc := 88) C dX6_lengthOfAct_88 (v := (6 : Int32)) (by decide) ?_
    obtain rfl := Option.some.inj h
    exact z_iret (pc := 90) C E dX6_lengthOfAct_90 ⟨rfl, rfl⟩
  rw [if_neg c6] at h
  by_cases c7 : x0 = (106 : Int32)
  · rw [if_pos c7] at h
    refine z_tableIn (pc := 1) (tgt := 99) (off := 98) C dX6_lengthOfAct_1 (by rw [c7]; decide) (by rw [c7]; decide) (by rw [c7]; decide) (by decide) ?_
    refine z_iconst (pc := 99) C dX6_lengthOfAct_99 (v := (0 : Int32)) (by decide) ?_
    obtain rfl := Option.some.inj h
    exact z_iret (pc := 100) C E dX6_lengthOfAct_100 ⟨rfl, rfl⟩
  rw [if_neg c7] at h
  by_cases c8 : x0 = (107 : Int32)
  · rw [if_pos c8] at h
    refine z_tableIn (pc := 1) (tgt := 99) (off := 98) C dX6_lengthOfAct_1 (by rw [c8]; decide) (by rw [c8]; decide) (by rw [c8]; decide) (by decide) ?_
    refine z_iconst (pc := 99) C dX6_lengthOfAct_99 (v := (0 : Int32)) (by decide) ?_
    obtain rfl := Option.some.inj h
    exact z_iret (pc := 100) C E dX6_lengthOfAct_100 ⟨rfl, rfl⟩
  rw [if_neg c8] at h
  by_cases c9 : x0 = (108 : Int32)
  · rw [if_pos c9] at h
    refine z_tableIn (pc := 1) (tgt := 94) (off := 93) C dX6_lengthOfAct_1 (by rw [c9]; decide) (by rw [c9]; decide) (by rw [c9]; decide) (by decide) ?_
    refine z_bipush (pc := 94) C dX6_lengthOfAct_94 (v := (11 : Int32)) (by decide) ?_
    obtain rfl := Option.some.inj h
    exact z_iret (pc := 96) C E dX6_lengthOfAct_96 ⟨rfl, rfl⟩
  rw [if_neg c9] at h
  by_cases c10 : x0 = (109 : Int32)
  · rw [if_pos c10] at h
    refine z_tableIn (pc := 1) (tgt := 94) (off := 93) C dX6_lengthOfAct_1 (by rw [c10]; decide) (by rw [c10]; decide) (by rw [c10]; decide) (by decide) ?_
    refine z_bipush (pc := 94) C dX6_lengthOfAct_94 (v := (11 : Int32)) (by decide) ?_
    obtain rfl := Option.some.inj h
    exact z_iret (pc := 96) C E dX6_lengthOfAct_96 ⟨rfl, rfl⟩
  rw [if_neg c10] at h
  by_cases c11 : x0 = (110 : Int32)
  · rw [if_pos c11] at h
    refine z_tableIn (pc := 1) (tgt := 99) (off := 98) C dX6_lengthOfAct_1 (by rw [c11]; decide) (by rw [c11]; decide) (by rw [c11]; decide) (by decide) ?_
    refine z_iconst (pc := 99) C dX6_lengthOfAct_99 (v := (0 : Int32)) (by decide) ?_
    obtain rfl := Option.some.inj h
    exact z_iret (pc := 100) C E dX6_lengthOfAct_100 ⟨rfl, rfl⟩
  rw [if_neg c11] at h
  by_cases c12 : x0 = (111 : Int32)
  · rw [if_pos c12] at h
    refine z_tableIn (pc := 1) (tgt := 99) (off := 98) C dX6_lengthOfAct_1 (by rw [c12]; decide) (by rw [c12]; decide) (by rw [c12]; decide) (by decide) ?_
    refine z_iconst (pc := 99) C dX6_lengthOfAct_99 (v := (0 : Int32)) (by decide) ?_
    obtain rfl := Option.some.inj h
    exact z_iret (pc := 100) C E dX6_lengthOfAct_100 ⟨rfl, rfl⟩
  rw [if_neg c12] at h
  by_cases c13 : x0 = (112 : Int32)
  · rw [if_pos c13] at h
    refine z_tableIn (pc := 1) (tgt := 99) (off := 98) C dX6_lengthOfAct_1 (by rw [c13]; decide) (by rw [c13]; decide) (by rw [c13]; decide) (by decide) ?_
    refine z_iconst (pc := 99) C dX6_lengthOfAct_99 (v := (0 : Int32)) (by decide) ?_
    obtain rfl := Option.some.inj h
    exact z_iret (pc := 100) C E dX6_lengthOfAct_100 ⟨rfl, rfl⟩
  rw [if_neg c13] at h
  by_cases c14 : x0 = (113 : Int32)
  · rw [if_pos c14] at h
    refine z_tableIn (pc := 1) (tgt := 99) (off := 98) C dX6_lengthOfAct_1 (by rw [c14]; decide) (by rw [c14]; decide) (by rw [c14]; decide) (by decide) ?_
    refine z_iconst (pc := 99) C dX6_lengthOfAct_99 (v := (0 : Int32)) (by decide) ?_
    obtain rfl := Option.some.inj h
    exact z_iret (pc := 100) C E dX6_lengthOfAct_100 ⟨rfl, rfl⟩
  rw [if_neg c14] at h
  by_cases c15 : x0 = (114 : Int32)
  · rw [if_pos c15] at h
    refine z_tableIn (pc := 1) (tgt := 97) (off := 96) C dX6_lengthOfAct_1 (by rw [c15]; decide) (by rw [c15]; decide) (by rw [c15]; decide) (by decide) ?_
    refine z_iconst (pc := 97) C dX6_lengthOfAct_97 (v := (1 : Int32)) (by decide) ?_
    obtain rfl := Option.some.inj h
    exact z_iret (pc := 98) C E dX6_lengthOfAct_98 ⟨rfl, rfl⟩
  rw [if_neg c15] at h
  by_cases c16 : x0 = (115 : Int32)
  · rw [if_pos c16] at h
    refine z_tableIn (pc := 1) (tgt := 99) (off := 98) C dX6_lengthOfAct_1 (by rw [c16]; decide) (by rw [c16]; decide) (by rw [c16]; decide) (by decide) ?_
    refine z_iconst (pc := 99) C dX6_lengthOfAct_99 (v := (0 : Int32)) (by decide) ?_
    obtain rfl := Option.some.inj h
    exact z_iret (pc := 100) C E dX6_lengthOfAct_100 ⟨rfl, rfl⟩
  rw [if_neg c16] at h
  by_cases c17 : x0 = (116 : Int32)
  · rw [if_pos c17] at h
    refine z_tableIn (pc := 1) (tgt := 99) (off := 98) C dX6_lengthOfAct_1 (by rw [c17]; decide) (by rw [c17]; decide) (by rw [c17]; decide) (by decide) ?_
    refine z_iconst (pc := 99) C dX6_lengthOfAct_99 (v := (0 : Int32)) (by decide) ?_
    obtain rfl := Option.some.inj h
    exact z_iret (pc := 100) C E dX6_lengthOfAct_100 ⟨rfl, rfl⟩
  rw [if_neg c17] at h
  by_cases c18 : x0 = (117 : Int32)
  · rw [if_pos c18] at h
    refine z_tableIn (pc := 1) (tgt := 97) (off := 96) C dX6_lengthOfAct_1 (by rw [c18]; decide) (by rw [c18]; decide) (by rw [c18]; decide) (by decide) ?_
    refine z_iconst (pc := 97) C dX6_lengthOfAct_97 (v := (1 : Int32)) (by decide) ?_
    obtain rfl := Option.some.inj h
    exact z_iret (pc := 98) C E dX6_lengthOfAct_98 ⟨rfl, rfl⟩
  rw [if_neg c18] at h
  by_cases c19 : x0.toInt < 100 ∨ 117 < x0.toInt
  · rw [if_pos c19] at h
    refine z_tableOut (pc := 1) (tgt := 99) C dX6_lengthOfAct_1 c19 (by decide) ?_
    refine z_iconst (pc := 99) C dX6_lengthOfAct_99 (v := (0 : Int32)) (by decide) ?_
    obtain rfl := Option.some.inj h
    exact z_iret (pc := 100) C E dX6_lengthOfAct_100 ⟨rfl, rfl⟩
  · rw [if_neg c19] at h
    cases h
theorem kX6_lengthOfAct (l : Launch) (D : va_G) (cA : Nat → ClassId) (b : Nat) (G : zH) (x0 : Int32) (out : Int32) (h : fX6_lengthOfAct x0 = some out) : zM l D cA b yX6_lengthOfAct cX6_lengthOfAct 1 (some .int) 0 0 [.int x0] G (poI out G) := z_entry rfl (Nat.le_of_ble_eq_true rfl) (fun X C E _ _ _ => wfX6_lengthOfAct C E x0 h)
def fX6_mayStand_b30 (x2 : Int32) : Option Int32 :=
    ob1 (fX6_isDigit x2) fun v1 =>
    ob1 (bz v1) fun r2 => some r2
set_option maxRecDepth 100000 in
set_option maxHeartbeats 4000000 in
theorem wfX6_mayStand_b30 {X : zX} {G : zH} {out : Int32} (C : zOK X cX6_mayStand yX6_mayStand.cls 3 (some .boolean) 1 20) (E : zPost X (poI out G)) (x2 : Int32) (h : fX6_mayStand_b30 x2 = some out) : zZ X 30 [(2, .int x2)] [] G := by
  rw [fX6_mayStand_b30] at h
  refine z_iload_n (pc := 30) C 0 dX6_mayStand_30 rfl rfl ?_
  obtain ⟨v1, ev1, h⟩ := ob1_eq h
  refine z_callSi (As := [.int x2]) (rest := []) (pc := 31) C dX6_mayStand_31 ml_X6_399 (kX6_isDigit _ _ _ _ G x2 v1 ev1) rfl rfl (Nat.le_of_ble_eq_true rfl) (by decide) ?_
  obtain ⟨r2, er2, h⟩ := ob1_eq h
  have hb := bz_eq er2
  obtain rfl := Option.some.inj h
  exact z_zret (pc := 34) C E dX6_mayStand_34 hb.2 ⟨congrArg (fun z => some (Value.int z)) hb.1.symm, rfl⟩
def fX6_mayStand_b24 : Option Int32 :=
    some (1 : Int32)
set_option maxRecDepth 100000 in
set_option maxHeartbeats 4000000 in
theorem wfX6_mayStand_b24 {X : zX} {G : zH} {out : Int32} (C : zOK X cX6_mayStand yX6_mayStand.cls 3 (some .boolean) 1 20) (E : zPost X (poI out G)) (h : fX6_mayStand_b24 = some out) : zZ X 24 [] [] G := by
  rw [fX6_mayStand_b24] at h
  refine z_iconst (pc := 24) C dX6_mayStand_24 (v := (1 : Int32)) (by decide) ?_
  refine z_goto (pc := 25) C dX6_mayStand_25 (tgt := 29) (by decide) ?_
  obtain rfl := Option.some.inj h
  exact z_zret (pc := 29) C E dX6_mayStand_29 rfl ⟨rfl, rfl⟩
def fX6_mayStand (x0 : Int32) (x1 : Int32) (x2 : Int32) : Option Int32 :=
    if x0 = (105 : Int32) then (if x1 = (5 : Int32) then (ob1 (fX6_isSmall x2) fun v3 =>
    if v3 = 0 then (if x2 = (47 : Int32) then (fX6_mayStand_b24) else
    some (0 : Int32)) else
    fX6_mayStand_b24) else
    fX6_mayStand_b30 x2) else
    fX6_mayStand_b30 x2
set_option maxRecDepth 100000 in
set_option maxHeartbeats 4000000 in
theorem wfX6_mayStand {X : zX} {G : zH} {out : Int32} (C : zOK X cX6_mayStand yX6_mayStand.cls 3 (some .boolean) 1 20) (E : zPost X (poI out G)) (x0 : Int32) (x1 : Int32) (x2 : Int32) (h : fX6_mayStand x0 x1 x2 = some out) : zZ X 0 [(0, .int x0), (1, .int x1), (2, .int x2)] [] G := by
  rw [fX6_mayStand] at h
  refine z_iload_n (pc := 0) C 0 dX6_mayStand_0 rfl rfl ?_
  refine z_bipush (pc := 1) C dX6_mayStand_1 (v := (105 : Int32)) (by decide) ?_
  refine z_ic_ne (pc := 3) C dX6_mayStand_3 (tgt := 30) (by decide) (fun c1 => ?_) (fun c1 => ?_)
  · rw [if_neg c1] at h
    exact z_subL [2] (wfX6_mayStand_b30 C E x2 h) rfl
  · rw [if_pos c1] at h
    refine z_iload_n (pc := 6) C 1 dX6_mayStand_6 rfl rfl ?_
    refine z_iconst (pc := 7) C dX6_mayStand_7 (v := (5 : Int32)) (by decide) ?_
    refine z_ic_ne (pc := 8) C dX6_mayStand_8 (tgt := 30) (by decide) (fun c2 => ?_) (fun c2 => ?_)
    · rw [if_neg c2] at h
      exact z_subL [2] (wfX6_mayStand_b30 C E x2 h) rfl
    · rw [if_pos c2] at h
      refine z_iload_n (pc := 11) C 2 dX6_mayStand_11 rfl rfl ?_
      obtain ⟨v3, ev3, h⟩ := ob1_eq h
      refine z_callSi (As := [.int x2]) (rest := []) (pc := 12) C dX6_mayStand_12 ml_X6_393 (kX6_isSmall _ _ _ _ G x2 v3 ev3) rfl rfl (Nat.le_of_ble_eq_true rfl) (by decide) ?_
      refine z_if_ne (pc := 15) C dX6_mayStand_15 (tgt := 24) (by decide) (fun c4 => ?_) (fun c4 => ?_)
      · rw [if_neg c4] at h
        exact z_subL [] (wfX6_mayStand_b24 C E h) rfl
      · rw [if_pos c4] at h
        refine z_iload_n (pc := 18) C 2 dX6_mayStand_18 rfl rfl ?_
        refine z_bipush (pc := 19) C dX6_mayStand_19 (v := (47 : Int32)) (by decide) ?_
        refine z_ic_ne (pc := 21) C dX6_mayStand_21 (tgt := 28) (by decide) (fun c5 => ?_) (fun c5 => ?_)
        · rw [if_neg c5] at h
          refine z_iconst (pc := 28) C dX6_mayStand_28 (v := (0 : Int32)) (by decide) ?_
          obtain rfl := Option.some.inj h
          exact z_zret (pc := 29) C E dX6_mayStand_29 rfl ⟨rfl, rfl⟩
        · rw [if_pos c5] at h
          exact z_subL [] (wfX6_mayStand_b24 C E h) rfl
theorem kX6_mayStand (l : Launch) (D : va_G) (cA : Nat → ClassId) (b : Nat) (G : zH) (x0 : Int32) (x1 : Int32) (x2 : Int32) (out : Int32) (h : fX6_mayStand x0 x1 x2 = some out) : zM l D cA b yX6_mayStand cX6_mayStand 3 (some .boolean) 1 20 [.int x0, .int x1, .int x2] G (poI out G) := z_entry rfl (Nat.le_of_ble_eq_true rfl) (fun X C E _ _ _ => wfX6_mayStand C E x0 x1 x2 h)
def fX6_placeInStore (x0 : Int32) : Option Int32 :=
    ob1 (fX6_storeOf x0) fun v1 =>
    ob1 (fX6_baseOf v1) fun v2 =>
    some (x0 - v2)
set_option maxRecDepth 100000 in
set_option maxHeartbeats 4000000 in
theorem wfX6_placeInStore {X : zX} {G : zH} {out : Int32} (C : zOK X cX6_placeInStore yX6_placeInStore.cls 1 (some .int) 1 20) (E : zPost X (poI out G)) (x0 : Int32) (h : fX6_placeInStore x0 = some out) : zZ X 0 [(0, .int x0)] [] G := by
  rw [fX6_placeInStore] at h
  refine z_iload_n (pc := 0) C 0 dX6_placeInStore_0 rfl rfl ?_
  refine z_iload_n (pc := 1) C 0 dX6_placeInStore_1 rfl rfl ?_
  obtain ⟨v1, ev1, h⟩ := ob1_eq h
  refine z_callSi (As := [.int x0]) (rest := [.int x0]) (pc := 2) C dX6_placeInStore_2 ml_X6_267 (kX6_storeOf _ _ _ _ G x0 v1 ev1) rfl rfl (Nat.le_of_ble_eq_true rfl) (by decide) ?_
  obtain ⟨v2, ev2, h⟩ := ob1_eq h
  refine z_callSi (As := [.int v1]) (rest := [.int x0]) (pc := 5) C dX6_placeInStore_5 ml_X6_117 (kX6_baseOf _ _ _ _ G v1 v2 ev2) rfl rfl (Nat.le_of_ble_eq_true rfl) (by decide) ?_
  refine z_isub (pc := 8) C dX6_placeInStore_8 ?_
  obtain rfl := Option.some.inj h
  exact z_iret (pc := 9) C E dX6_placeInStore_9 ⟨rfl, rfl⟩
theorem kX6_placeInStore (l : Launch) (D : va_G) (cA : Nat → ClassId) (b : Nat) (G : zH) (x0 : Int32) (out : Int32) (h : fX6_placeInStore x0 = some out) : zM l D cA b yX6_placeInStore cX6_placeInStore 1 (some .int) 1 20 [.int x0] G (poI out G) := z_entry rfl (Nat.le_of_ble_eq_true rfl) (fun X C E _ _ _ => wfX6_placeInStore C E x0 h)
def fX6_small (x0 : Int32) : Option Int32 :=
    ob1 (fX6_isCapital x0) fun v1 =>
    if v1 = 0 then (some x0) else
    some ((x0 - (65 : Int32)) + (97 : Int32))
set_option maxRecDepth 100000 in
set_option maxHeartbeats 4000000 in
theorem wfX6_small {X : zX} {G : zH} {out : Int32} (C : zOK X cX6_small yX6_small.cls 1 (some .int) 1 20) (E : zPost X (poI out G)) (x0 : Int32) (h : fX6_small x0 = some out) : zZ X 0 [(0, .int x0)] [] G := by
  rw [fX6_small] at h
  refine z_iload_n (pc := 0) C 0 dX6_small_0 rfl rfl ?_
  obtain ⟨v1, ev1, h⟩ := ob1_eq h
  refine z_callSi (As := [.int x0]) (rest := []) (pc := 1) C dX6_small_1 ml_X6_396 (kX6_isCapital _ _ _ _ G x0 v1 ev1) rfl rfl (Nat.le_of_ble_eq_true rfl) (by decide) ?_
  refine z_if_eq (pc := 4) C dX6_small_4 (tgt := 17) (by decide) (fun c2 => ?_) (fun c2 => ?_)
  · rw [if_pos c2] at h
    refine z_iload_n (pc := 17) C 0 dX6_small_17 rfl rfl ?_
    obtain rfl := Option.some.inj h
    exact z_iret (pc := 18) C E dX6_small_18 ⟨rfl, rfl⟩
  · rw [if_neg c2] at h
    refine z_iload_n (pc := 7) C 0 dX6_small_7 rfl rfl ?_
    refine z_bipush (pc := 8) C dX6_small_8 (v := (65 : Int32)) (by decide) ?_
    refine z_isub (pc := 10) C dX6_small_10 ?_
    refine z_bipush (pc := 11) C dX6_small_11 (v := (97 : Int32)) (by decide) ?_
    refine z_iadd (pc := 13) C dX6_small_13 ?_
    refine z_goto (pc := 14) C dX6_small_14 (tgt := 18) (by decide) ?_
    obtain rfl := Option.some.inj h
    exact z_iret (pc := 18) C E dX6_small_18 ⟨rfl, rfl⟩
theorem kX6_small (l : Launch) (D : va_G) (cA : Nat → ClassId) (b : Nat) (G : zH) (x0 : Int32) (out : Int32) (h : fX6_small x0 = some out) : zM l D cA b yX6_small cX6_small 1 (some .int) 1 20 [.int x0] G (poI out G) := z_entry rfl (Nat.le_of_ble_eq_true rfl) (fun X C E _ _ _ => wfX6_small C E x0 h)
def fX6_isAlike_b46 (x0 : Int32) (x1 : Int32) (x2 : Int32) : Option Int32 :=
    if x2 = (2 : Int32) then (ob1 (fX6_isSign x1) fun v5 =>
    if v5 = 0 then (some (0 : Int32)) else
    ob1 (fX6_small x0) fun v7 =>
    ob1 (fX6_small x1) fun v8 =>
    if v7 = v8 then (some (1 : Int32)) else
    some (0 : Int32)) else
    ob1 (fX6_isSign x1) fun v2 =>
    if v2 = 0 then (some (0 : Int32)) else
    if x0 = x1 then (some (1 : Int32)) else
    some (0 : Int32)
set_option maxRecDepth 100000 in
set_option maxHeartbeats 4000000 in
theorem wfX6_isAlike_b46 {X : zX} {G : zH} {out : Int32} (C : zOK X cX6_isAlike yX6_isAlike.cls 3 (some .boolean) 2 40) (E : zPost X (poI out G)) (x0 : Int32) (x1 : Int32) (x2 : Int32) (h : fX6_isAlike_b46 x0 x1 x2 = some out) : zZ X 46 [(0, .int x0), (1, .int x1), (2, .int x2)] [] G := by
  rw [fX6_isAlike_b46] at h
  refine z_iload_n (pc := 46) C 2 dX6_isAlike_46 rfl rfl ?_
  refine z_iconst (pc := 47) C dX6_isAlike_47 (v := (2 : Int32)) (by decide) ?_
  refine z_ic_ne (pc := 48) C dX6_isAlike_48 (tgt := 75) (by decide) (fun c1 => ?_) (fun c1 => ?_)
  · rw [if_neg c1] at h
    refine z_iload_n (pc := 75) C 1 dX6_isAlike_75 rfl rfl ?_
    obtain ⟨v2, ev2, h⟩ := ob1_eq h
    refine z_callSi (As := [.int x1]) (rest := []) (pc := 76) C dX6_isAlike_76 ml_X6_131 (kX6_isSign _ _ _ _ G x1 v2 ev2) rfl rfl (Nat.le_of_ble_eq_true rfl) (by decide) ?_
    refine z_if_eq (pc := 79) C dX6_isAlike_79 (tgt := 91) (by decide) (fun c3 => ?_) (fun c3 => ?_)
    · rw [if_pos c3] at h
      refine z_iconst (pc := 91) C dX6_isAlike_91 (v := (0 : Int32)) (by decide) ?_
      obtain rfl := Option.some.inj h
      exact z_zret (pc := 92) C E dX6_isAlike_92 rfl ⟨rfl, rfl⟩
    · rw [if_neg c3] at h
      refine z_iload_n (pc := 82) C 0 dX6_isAlike_82 rfl rfl ?_
      refine z_iload_n (pc := 83) C 1 dX6_isAlike_83 rfl rfl ?_
      refine z_ic_ne (pc := 84) C dX6_isAlike_84 (tgt := 91) (by decide) (fun c4 => ?_) (fun c4 => ?_)
      · rw [if_neg c4] at h
        refine z_iconst (pc := 91) C dX6_isAlike_91 (v := (0 : Int32)) (by decide) ?_
        obtain rfl := Option.some.inj h
        exact z_zret (pc := 92) C E dX6_isAlike_92 rfl ⟨rfl, rfl⟩
      · rw [if_pos c4] at h
        refine z_iconst (pc := 87) C dX6_isAlike_87 (v := (1 : Int32)) (by decide) ?_
        refine z_goto (pc := 88) C dX6_isAlike_88 (tgt := 92) (by decide) ?_
        obtain rfl := Option.some.inj h
        exact z_zret (pc := 92) C E dX6_isAlike_92 rfl ⟨rfl, rfl⟩
  · rw [if_pos c1] at h
    refine z_iload_n (pc := 51) C 1 dX6_isAlike_51 rfl rfl ?_
    obtain ⟨v5, ev5, h⟩ := ob1_eq h
    refine z_callSi (As := [.int x1]) (rest := []) (pc := 52) C dX6_isAlike_52 ml_X6_131 (kX6_isSign _ _ _ _ G x1 v5 ev5) rfl rfl (Nat.le_of_ble_eq_true rfl) (by decide) ?_
    refine z_if_eq (pc := 55) C dX6_isAlike_55 (tgt := 73) (by decide) (fun c6 => ?_) (fun c6 => ?_)
    · rw [if_pos c6] at h
      refine z_iconst (pc := 73) C dX6_isAlike_73 (v := (0 : Int32)) (by decide) ?_
      obtain rfl := Option.some.inj h
      exact z_zret (pc := 74) C E dX6_isAlike_74 rfl ⟨rfl, rfl⟩
    · rw [if_neg c6] at h
      refine z_iload_n (pc := 58) C 0 dX6_isAlike_58 rfl rfl ?_
      obtain ⟨v7, ev7, h⟩ := ob1_eq h
      refine z_callSi (As := [.int x0]) (rest := []) (pc := 59) C dX6_isAlike_59 ml_X6_402 (kX6_small _ _ _ _ G x0 v7 ev7) rfl rfl (Nat.le_of_ble_eq_true rfl) (by decide) ?_
      refine z_iload_n (pc := 62) C 1 dX6_isAlike_62 rfl rfl ?_
      obtain ⟨v8, ev8, h⟩ := ob1_eq h
      refine z_callSi (As := [.int x1]) (rest := [.int v7]) (pc := 63) C dX6_isAlike_63 ml_X6_402 (kX6_small _ _ _ _ G x1 v8 ev8) rfl rfl (Nat.le_of_ble_eq_true rfl) (by decide) ?_
      refine z_ic_ne (pc := 66) C dX6_isAlike_66 (tgt := 73) (by decide) (fun c9 => ?_) (fun c9 => ?_)
      · rw [if_neg c9] at h
        refine z_iconst (pc := 73) C dX6_isAlike_73 (v := (0 : Int32)) (by decide) ?_
        obtain rfl := Option.some.inj h
        exact z_zret (pc := 74) C E dX6_isAlike_74 rfl ⟨rfl, rfl⟩
      · rw [if_pos c9] at h
        refine z_iconst (pc := 69) C dX6_isAlike_69 (v := (1 : Int32)) (by decide) ?_
        refine z_goto (pc := 70) C dX6_isAlike_70 (tgt := 74) (by decide) ?_
        obtain rfl := Option.some.inj h
        exact z_zret (pc := 74) C E dX6_isAlike_74 rfl ⟨rfl, rfl⟩
def fX6_isAlike_b30 (x0 : Int32) (x1 : Int32) (x2 : Int32) : Option Int32 :=
    if x2 = (1 : Int32) then (if x0 = (35 : Int32) then (ob1 (fX6_isDigit x1) fun v3 =>
    ob1 (bz v3) fun r4 => some r4) else
    fX6_isAlike_b46 x0 x1 x2) else
    fX6_isAlike_b46 x0 x1 x2
set_option maxRecDepth 100000 in
set_option maxHeartbeats 4000000 in
theorem wfX6_isAlike_b30 {X : zX} {G : zH} {out : Int32} (C : zOK X cX6_isAlike yX6_isAlike.cls 3 (some .boolean) 2 40) (E : zPost X (poI out G)) (x0 : Int32) (x1 : Int32) (x2 : Int32) (h : fX6_isAlike_b30 x0 x1 x2 = some out) : zZ X 30 [(0, .int x0), (1, .int x1), (2, .int x2)] [] G := by
  rw [fX6_isAlike_b30] at h
  refine z_iload_n (pc := 30) C 2 dX6_isAlike_30 rfl rfl ?_
  refine z_iconst (pc := 31) C dX6_isAlike_31 (v := (1 : Int32)) (by decide) ?_
  refine z_ic_ne (pc := 32) C dX6_isAlike_32 (tgt := 46) (by decide) (fun c1 => ?_) (fun c1 => ?_)
  · rw [if_neg c1] at h
    exact z_subL [0, 1, 2] (wfX6_isAlike_b46 C E x0 x1 x2 h) rfl
  · rw [if_pos c1] at h
    refine z_iload_n (pc := 35) C 0 dX6_isAlike_35 rfl rfl ?_
    refine z_bipush (pc := 36) C dX6_isAlike_36 (v := (35 : Int32)) (by decide) ?_
    refine z_ic_ne (pc := 38) C dX6_isAlike_38 (tgt := 46) (by decide) (fun c2 => ?_) (fun c2 => ?_)
    · rw [if_neg c2] at h
      exact z_subL [0, 1, 2] (wfX6_isAlike_b46 C E x0 x1 x2 h) rfl
    · rw [if_pos c2] at h
      refine z_iload_n (pc := 41) C 1 dX6_isAlike_41 rfl rfl ?_
      obtain ⟨v3, ev3, h⟩ := ob1_eq h
      refine z_callSi (As := [.int x1]) (rest := []) (pc := 42) C dX6_isAlike_42 ml_X6_399 (kX6_isDigit _ _ _ _ G x1 v3 ev3) rfl rfl (Nat.le_of_ble_eq_true rfl) (by decide) ?_
      obtain ⟨r4, er4, h⟩ := ob1_eq h
      have hb := bz_eq er4
      obtain rfl := Option.some.inj h
      exact z_zret (pc := 45) C E dX6_isAlike_45 hb.2 ⟨congrArg (fun z => some (Value.int z)) hb.1.symm, rfl⟩
def fX6_isAlike (x0 : Int32) (x1 : Int32) (x2 : Int32) : Option Int32 :=
    if x2 = (1 : Int32) then (if x0 = (63 : Int32) then (ob1 (fX6_isSign x1) fun v3 =>
    if v3 = 0 then (some (0 : Int32)) else
    if x1 = (10 : Int32) then (some (0 : Int32)) else
    some (1 : Int32)) else
    fX6_isAlike_b30 x0 x1 x2) else
    fX6_isAlike_b30 x0 x1 x2
set_option maxRecDepth 100000 in
set_option maxHeartbeats 4000000 in
theorem wfX6_isAlike {X : zX} {G : zH} {out : Int32} (C : zOK X cX6_isAlike yX6_isAlike.cls 3 (some .boolean) 2 40) (E : zPost X (poI out G)) (x0 : Int32) (x1 : Int32) (x2 : Int32) (h : fX6_isAlike x0 x1 x2 = some out) : zZ X 0 [(0, .int x0), (1, .int x1), (2, .int x2)] [] G := by
  rw [fX6_isAlike] at h
  refine z_iload_n (pc := 0) C 2 dX6_isAlike_0 rfl rfl ?_
  refine z_iconst (pc := 1) C dX6_isAlike_1 (v := (1 : Int32)) (by decide) ?_
  refine z_ic_ne (pc := 2) C dX6_isAlike_2 (tgt := 30) (by decide) (fun c1 => ?_) (fun c1 => ?_)
  · rw [if_neg c1] at h
    exact z_subL [0, 1, 2] (wfX6_isAlike_b30 C E x0 x1 x2 h) rfl
  · rw [if_pos c1] at h
    refine z_iload_n (pc := 5) C 0 dX6_isAlike_5 rfl rfl ?_
    refine z_bipush (pc := 6) C dX6_isAlike_6 (v := (63 : Int32)) (by decide) ?_
    refine z_ic_ne (pc := 8) C dX6_isAlike_8 (tgt := 30) (by decide) (fun c2 => ?_) (fun c2 => ?_)
    · rw [if_neg c2] at h
      exact z_subL [0, 1, 2] (wfX6_isAlike_b30 C E x0 x1 x2 h) rfl
    · rw [if_pos c2] at h
      refine z_iload_n (pc := 11) C 1 dX6_isAlike_11 rfl rfl ?_
      obtain ⟨v3, ev3, h⟩ := ob1_eq h
      refine z_callSi (As := [.int x1]) (rest := []) (pc := 12) C dX6_isAlike_12 ml_X6_131 (kX6_isSign _ _ _ _ G x1 v3 ev3) rfl rfl (Nat.le_of_ble_eq_true rfl) (by decide) ?_
      refine z_if_eq (pc := 15) C dX6_isAlike_15 (tgt := 28) (by decide) (fun c4 => ?_) (fun c4 => ?_)
      · rw [if_pos c4] at h
        refine z_iconst (pc := 28) C dX6_isAlike_28 (v := (0 : Int32)) (by decide) ?_
        obtain rfl := Option.some.inj h
        exact z_zret (pc := 29) C E dX6_isAlike_29 rfl ⟨rfl, rfl⟩
      · rw [if_neg c4] at h
        refine z_iload_n (pc := 18) C 1 dX6_isAlike_18 rfl rfl ?_
        refine z_bipush (pc := 19) C dX6_isAlike_19 (v := (10 : Int32)) (by decide) ?_
        refine z_ic_eq (pc := 21) C dX6_isAlike_21 (tgt := 28) (by decide) (fun c5 => ?_) (fun c5 => ?_)
        · rw [if_pos c5] at h
          refine z_iconst (pc := 28) C dX6_isAlike_28 (v := (0 : Int32)) (by decide) ?_
          obtain rfl := Option.some.inj h
          exact z_zret (pc := 29) C E dX6_isAlike_29 rfl ⟨rfl, rfl⟩
        · rw [if_neg c5] at h
          refine z_iconst (pc := 24) C dX6_isAlike_24 (v := (1 : Int32)) (by decide) ?_
          refine z_goto (pc := 25) C dX6_isAlike_25 (tgt := 29) (by decide) ?_
          obtain rfl := Option.some.inj h
          exact z_zret (pc := 29) C E dX6_isAlike_29 rfl ⟨rfl, rfl⟩
theorem kX6_isAlike (l : Launch) (D : va_G) (cA : Nat → ClassId) (b : Nat) (G : zH) (x0 : Int32) (x1 : Int32) (x2 : Int32) (out : Int32) (h : fX6_isAlike x0 x1 x2 = some out) : zM l D cA b yX6_isAlike cX6_isAlike 3 (some .boolean) 2 40 [.int x0, .int x1, .int x2] G (poI out G) := z_entry rfl (Nat.le_of_ble_eq_true rfl) (fun X C E _ _ _ => wfX6_isAlike C E x0 x1 x2 h)
def fX6_partnerOf (x0 : Int32) : Option Int32 :=
    if x0 = (40 : Int32) then (some (41 : Int32)) else
    if x0 = (41 : Int32) then (some (40 : Int32)) else
    if x0 = (91 : Int32) then (some (93 : Int32)) else
    if x0 = (93 : Int32) then (some (91 : Int32)) else
    if x0 = (123 : Int32) then (some (125 : Int32)) else
    if x0 = (125 : Int32) then (some (123 : Int32)) else
    if Op.lookupswitch.offset [(40, 59), (41, 62), (91, 65), (93, 68), (123, 71), (125, 74)] (77) x0.toInt = (77) then (some (0 : Int32)) else none
set_option maxRecDepth 100000 in
set_option maxHeartbeats 4000000 in
theorem wfX6_partnerOf {X : zX} {G : zH} {out : Int32} (C : zOK X cX6_partnerOf yX6_partnerOf.cls 1 (some .int) 0 0) (E : zPost X (poI out G)) (x0 : Int32) (h : fX6_partnerOf x0 = some out) : zZ X 0 [(0, .int x0)] [] G := by
  rw [fX6_partnerOf] at h
  refine z_iload_n (pc := 0) C 0 dX6_partnerOf_0 rfl rfl ?_
  by_cases c1 : x0 = (40 : Int32)
  · rw [if_pos c1] at h
    refine z_lookup (pc := 1) (tgt := 60) (off := 59) C dX6_partnerOf_1 (by decide) (by rw [c1]; decide) (by decide) ?_
    refine z_bipush (pc := 60) C dX6_partnerOf_60 (v := (41 : Int32)) (by decide) ?_
    obtain rfl := Option.some.inj h
    exact z_iret (pc := 62) C E dX6_partnerOf_62 ⟨rfl, rfl⟩
  rw [if_neg c1] at h
  by_cases c2 : x0 = (41 : Int32)
  · rw [if_pos c2] at h
    refine z_lookup (pc := 1) (tgt := 63) (off := 62) C dX6_partnerOf_1 (by decide) (by rw [c2]; decide) (by decide) ?_
    refine z_bipush (pc := 63) C dX6_partnerOf_63 (v := (40 : Int32)) (by decide) ?_
    obtain rfl := Option.some.inj h
    exact z_iret (pc := 65) C E dX6_partnerOf_65 ⟨rfl, rfl⟩
  rw [if_neg c2] at h
  by_cases c3 : x0 = (91 : Int32)
  · rw [if_pos c3] at h
    refine z_lookup (pc := 1) (tgt := 66) (off := 65) C dX6_partnerOf_1 (by decide) (by rw [c3]; decide) (by decide) ?_
    refine z_bipush (pc := 66) C dX6_partnerOf_66 (v := (93 : Int32)) (by decide) ?_
    obtain rfl := Option.some.inj h
    exact z_iret (pc := 68) C E dX6_partnerOf_68 ⟨rfl, rfl⟩
  rw [if_neg c3] at h
  by_cases c4 : x0 = (93 : Int32)
  · rw [if_pos c4] at h
    refine z_lookup (pc := 1) (tgt := 69) (off := 68) C dX6_partnerOf_1 (by decide) (by rw [c4]; decide) (by decide) ?_
    refine z_bipush (pc := 69) C dX6_partnerOf_69 (v := (91 : Int32)) (by decide) ?_
    obtain rfl := Option.some.inj h
    exact z_iret (pc := 71) C E dX6_partnerOf_71 ⟨rfl, rfl⟩
  rw [if_neg c4] at h
  by_cases c5 : x0 = (123 : Int32)
  · rw [if_pos c5] at h
    refine z_lookup (pc := 1) (tgt := 72) (off := 71) C dX6_partnerOf_1 (by decide) (by rw [c5]; decide) (by decide) ?_
    refine z_bipush (pc := 72) C dX6_partnerOf_72 (v := (125 : Int32)) (by decide) ?_
    obtain rfl := Option.some.inj h
    exact z_iret (pc := 74) C E dX6_partnerOf_74 ⟨rfl, rfl⟩
  rw [if_neg c5] at h
  by_cases c6 : x0 = (125 : Int32)
  · rw [if_pos c6] at h
    refine z_lookup (pc := 1) (tgt := 75) (off := 74) C dX6_partnerOf_1 (by decide) (by rw [c6]; decide) (by decide) ?_
    refine z_bipush (pc := 75) C dX6_partnerOf_75 (v := (123 : Int32)) (by decide) ?_
    obtain rfl := Option.some.inj h
    exact z_iret (pc := 77) C E dX6_partnerOf_77 ⟨rfl, rfl⟩
  rw [if_neg c6] at h
  by_cases c7 : Op.lookupswitch.offset [(40, 59), (41, 62), (91, 65), (93, 68), (123, 71), (125, 74)] (77) x0.toInt = (77)
  · rw [if_pos c7] at h
    refine z_lookup (pc := 1) (tgt := 78) (off := 77) C dX6_partnerOf_1 (by decide) c7 (by decide) ?_
    refine z_iconst (pc := 78) C dX6_partnerOf_78 (v := (0 : Int32)) (by decide) ?_
    obtain rfl := Option.some.inj h
    exact z_iret (pc := 79) C E dX6_partnerOf_79 ⟨rfl, rfl⟩
  · rw [if_neg c7] at h
    cases h
theorem kX6_partnerOf (l : Launch) (D : va_G) (cA : Nat → ClassId) (b : Nat) (G : zH) (x0 : Int32) (out : Int32) (h : fX6_partnerOf x0 = some out) : zM l D cA b yX6_partnerOf cX6_partnerOf 1 (some .int) 0 0 [.int x0] G (poI out G) := z_entry rfl (Nat.le_of_ble_eq_true rfl) (fun X C E _ _ _ => wfX6_partnerOf C E x0 h)
def fX6_opensPair_b18 : Option Int32 :=
    some (1 : Int32)
set_option maxRecDepth 100000 in
set_option maxHeartbeats 4000000 in
theorem wfX6_opensPair_b18 {X : zX} {G : zH} {out : Int32} (C : zOK X cX6_opensPair yX6_opensPair.cls 1 (some .boolean) 0 0) (E : zPost X (poI out G)) (h : fX6_opensPair_b18 = some out) : zZ X 18 [] [] G := by
  rw [fX6_opensPair_b18] at h
  refine z_iconst (pc := 18) C dX6_opensPair_18 (v := (1 : Int32)) (by decide) ?_
  refine z_goto (pc := 19) C dX6_opensPair_19 (tgt := 23) (by decide) ?_
  obtain rfl := Option.some.inj h
  exact z_zret (pc := 23) C E dX6_opensPair_23 rfl ⟨rfl, rfl⟩
def fX6_opensPair (x0 : Int32) : Option Int32 :=
    if x0 = (40 : Int32) then (fX6_opensPair_b18) else
    if x0 = (91 : Int32) then (fX6_opensPair_b18) else
    if x0 = (123 : Int32) then (fX6_opensPair_b18) else
    some (0 : Int32)
set_option maxRecDepth 100000 in
set_option maxHeartbeats 4000000 in
theorem wfX6_opensPair {X : zX} {G : zH} {out : Int32} (C : zOK X cX6_opensPair yX6_opensPair.cls 1 (some .boolean) 0 0) (E : zPost X (poI out G)) (x0 : Int32) (h : fX6_opensPair x0 = some out) : zZ X 0 [(0, .int x0)] [] G := by
  rw [fX6_opensPair] at h
  refine z_iload_n (pc := 0) C 0 dX6_opensPair_0 rfl rfl ?_
  refine z_bipush (pc := 1) C dX6_opensPair_1 (v := (40 : Int32)) (by decide) ?_
  refine z_ic_eq (pc := 3) C dX6_opensPair_3 (tgt := 18) (by decide) (fun c1 => ?_) (fun c1 => ?_)
  · rw [if_pos c1] at h
    exact z_subL [] (wfX6_opensPair_b18 C E h) rfl
  · rw [if_neg c1] at h
    refine z_iload_n (pc := 6) C 0 dX6_opensPair_6 rfl rfl ?_
    refine z_bipush (pc := 7) C dX6_opensPair_7 (v := (91 : Int32)) (by decide) ?_
    refine z_ic_eq (pc := 9) C dX6_opensPair_9 (tgt := 18) (by decide) (fun c2 => ?_) (fun c2 => ?_)
    · rw [if_pos c2] at h
      exact z_subL [] (wfX6_opensPair_b18 C E h) rfl
    · rw [if_neg c2] at h
      refine z_iload_n (pc := 12) C 0 dX6_opensPair_12 rfl rfl ?_
      refine z_bipush (pc := 13) C dX6_opensPair_13 (v := (123 : Int32)) (by decide) ?_
      refine z_ic_ne (pc := 15) C dX6_opensPair_15 (tgt := 22) (by decide) (fun c3 => ?_) (fun c3 => ?_)
      · rw [if_neg c3] at h
        refine z_iconst (pc := 22) C dX6_opensPair_22 (v := (0 : Int32)) (by decide) ?_
        obtain rfl := Option.some.inj h
        exact z_zret (pc := 23) C E dX6_opensPair_23 rfl ⟨rfl, rfl⟩
      · rw [if_pos c3] at h
        exact z_subL [] (wfX6_opensPair_b18 C E h) rfl
theorem kX6_opensPair (l : Launch) (D : va_G) (cA : Nat → ClassId) (b : Nat) (G : zH) (x0 : Int32) (out : Int32) (h : fX6_opensPair x0 = some out) : zM l D cA b yX6_opensPair cX6_opensPair 1 (some .boolean) 0 0 [.int x0] G (poI out G) := z_entry rfl (Nat.le_of_ble_eq_true rfl) (fun X C E _ _ _ => wfX6_opensPair C E x0 h)
