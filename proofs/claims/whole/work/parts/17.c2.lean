def fX6_init (G : zH) (r0 : Nat) : Option zH :=
    ob1 (gN G (80 : Int32)) fun N1 =>
    zlet (List.length G) fun qv2 =>
    zlet (G ++ [.inl (0, (N1, .inl (fun _ => 0)))]) fun G3 =>
    ob1 (fset G3 r0 6 0 (.ref qv2)) fun G4 =>
    ob1 (gP G4 2) fun u5 =>
    zlet (List.length G4) fun qv6 =>
    zlet (G4 ++ [.inr (5, [.null, .int 0])]) fun G7 =>
    ob1 (fX5_init G7 qv6 ) fun G8 =>
    ob1 (fset G8 r0 6 2 (.ref qv6)) fun G9 =>
    ob1 (gP G9 3) fun u10 =>
    zlet (List.length G9) fun qv11 =>
    zlet (G9 ++ [.inr (4, [.null, .int 0, .int 0])]) fun G12 =>
    ob1 (fX4_init G12 qv11 ) fun G13 =>
    ob1 (fset G13 r0 6 3 (.ref qv11)) fun G14 =>
    ob1 (gP G14 4) fun u15 =>
    zlet (List.length G14) fun qv16 =>
    zlet (G14 ++ [.inr (1, [.null, .int 0, .int 0, .int 0])]) fun G17 =>
    ob1 (fX1_init G17 qv16 ) fun G18 =>
    ob1 (fset G18 r0 6 4 (.ref qv16)) fun G19 =>
    ob1 (gN G19 (3 : Int32)) fun N20 =>
    zlet (List.length G19) fun qv21 =>
    zlet (G19 ++ [.inl (4, (N20, .inr (.inr (.inr (.inr (fun _ => none))))))]) fun G22 =>
    ob1 (fset G22 r0 6 5 (.ref qv21)) fun G23 =>
    ob1 (gN G23 (3 : Int32)) fun N24 =>
    zlet (List.length G23) fun qv25 =>
    zlet (G23 ++ [.inl (3, (N24, .inl (fun _ => 0)))]) fun G26 =>
    ob1 (fset G26 r0 6 6 (.ref qv25)) fun G27 =>
    ob1 (gP G27 6) fun u28 =>
    zlet (List.length G27) fun qv29 =>
    zlet (G27 ++ [.inr (2, [.null, .null, .int 0, .int 0, .null, .null])]) fun G30 =>
    ob1 (fX2_init G30 qv29 ) fun G31 =>
    ob1 (fset G31 r0 6 7 (.ref qv29)) fun G32 =>
    ob1 (gP G32 6) fun u33 =>
    zlet (List.length G32) fun qv34 =>
    zlet (G32 ++ [.inr (2, [.null, .null, .int 0, .int 0, .null, .null])]) fun G35 =>
    ob1 (fX2_init G35 qv34 ) fun G36 =>
    ob1 (fset G36 r0 6 8 (.ref qv34)) fun G37 =>
    ob1 (gP G37 3) fun u38 =>
    zlet (List.length G37) fun qv39 =>
    zlet (G37 ++ [.inr (3, [.null, .null, .int 0])]) fun G40 =>
    ob1 (fX3_init G40 qv39 ) fun G41 =>
    ob1 (fset G41 r0 6 9 (.ref qv39)) fun G42 =>
    ob1 (gP G42 3) fun u43 =>
    zlet (List.length G42) fun qv44 =>
    zlet (G42 ++ [.inr (3, [.null, .null, .int 0])]) fun G45 =>
    ob1 (fX3_init G45 qv44 ) fun G46 =>
    ob1 (fset G46 r0 6 11 (.ref qv44)) fun G47 =>
    ob1 (gN G47 (6000 : Int32)) fun N48 =>
    zlet (List.length G47) fun qv49 =>
    zlet (G47 ++ [.inl (0, (N48, .inl (fun _ => 0)))]) fun G50 =>
    ob1 (fset G50 r0 6 12 (.ref qv49)) fun G51 =>
    ob1 (fset G51 r0 6 13 (.int (-1 : Int32))) fun G52 =>
    some G52
set_option maxRecDepth 100000 in
set_option maxHeartbeats 4000000 in
theorem wfX6_init {X : zX} {out : zH} (C : zOK X cX6_init yX6_init.cls 1 none 2 43) (E : zPost X (poV out)) (hn : X.2.1.2.2.2.1.name = "<init>") (G : zH) (r0 : Nat) (h : fX6_init G r0 = some out) : zZ X 0 [(0, .ref r0)] [] G := by
  rw [fX6_init] at h
  refine z_aload_n (pc := 0) C 0 dX6_init_0 rfl rfl ?_
  refine z_objInit (pc := 1) C dX6_init_1 ml_X6_3 w_oi1 w_oi2 (Nat.le_of_ble_eq_true rfl) (by decide) (by decide) ?_
  refine z_aload_n (pc := 4) C 0 dX6_init_4 rfl rfl ?_
  refine z_bipush (pc := 5) C dX6_init_5 (v := (80 : Int32)) (by decide) ?_
  obtain ⟨N1, eN1, h⟩ := ob1_eq h
  obtain ⟨qv2, eqv2, h⟩ := zlet_eq h
  obtain ⟨G3, eG3, h⟩ := zlet_eq h
  refine z_gN (pc := 7) C dX6_init_7 eN1 eqv2 eG3 ?_
  obtain ⟨G4, eG4, h⟩ := ob1_eq h
  refine z_srF (pc := 9) C hn dX6_init_9 fl_X6_9w (fun _ => ⟨rfl, rfl⟩) eG4 ?_
  refine z_aload_n (pc := 12) C 0 dX6_init_12 rfl rfl ?_
  obtain ⟨u5, eu5, h⟩ := ob1_eq h
  obtain ⟨qv6, eqv6, h⟩ := zlet_eq h
  obtain ⟨G7, eG7, h⟩ := zlet_eq h
  refine z_gO (ci := 5) (pc := 13) C tyX5 dX6_init_13 rfl uwX5 tyX5_ok ck_X6_13 insX5 iniX5 dfX5 rfl (fun _ => rfl) eu5 eqv6 eG7 ?_
  refine z_dup (pc := 16) C dX6_init_16 rfl ?_
  obtain ⟨G8, eG8, h⟩ := ob1_eq h
  refine z_callINv (h := qv6) (As := []) (rest := [.ref qv6, .ref r0]) (pc := 17) C dX6_init_17 ml_X6_15 rfl (kX5_init _ _ _ _ G7 qv6  _ eG8) rfl rfl (Nat.le_of_ble_eq_true rfl) (by decide) ?_
  obtain ⟨G9, eG9, h⟩ := ob1_eq h
  refine z_srF (pc := 20) C hn dX6_init_20 fl_X6_16w (fun _ => ⟨rfl, rfl⟩) eG9 ?_
  refine z_aload_n (pc := 23) C 0 dX6_init_23 rfl rfl ?_
  obtain ⟨u10, eu10, h⟩ := ob1_eq h
  obtain ⟨qv11, eqv11, h⟩ := zlet_eq h
  obtain ⟨G12, eG12, h⟩ := zlet_eq h
  refine z_gO (ci := 4) (pc := 24) C tyX4 dX6_init_24 rfl uwX4 tyX4_ok ck_X6_20 insX4 iniX4 dfX4 rfl (fun _ => rfl) eu10 eqv11 eG12 ?_
  refine z_dup (pc := 27) C dX6_init_27 rfl ?_
  obtain ⟨G13, eG13, h⟩ := ob1_eq h
  refine z_callINv (h := qv11) (As := []) (rest := [.ref qv11, .ref r0]) (pc := 28) C dX6_init_28 ml_X6_22 rfl (kX4_init _ _ _ _ G12 qv11  _ eG13) rfl rfl (Nat.le_of_ble_eq_true rfl) (by decide) ?_
  obtain ⟨G14, eG14, h⟩ := ob1_eq h
  refine z_srF (pc := 31) C hn dX6_init_31 fl_X6_23w (fun _ => ⟨rfl, rfl⟩) eG14 ?_
  refine z_aload_n (pc := 34) C 0 dX6_init_34 rfl rfl ?_
  obtain ⟨u15, eu15, h⟩ := ob1_eq h
  obtain ⟨qv16, eqv16, h⟩ := zlet_eq h
  obtain ⟨G17, eG17, h⟩ := zlet_eq h
  refine z_gO (ci := 1) (pc := 35) C tyX1 dX6_init_35 rfl uwX1 tyX1_ok ck_X6_27 insX1 iniX1 dfX1 rfl (fun _ => rfl) eu15 eqv16 eG17 ?_
  refine z_dup (pc := 38) C dX6_init_38 rfl ?_
  obtain ⟨G18, eG18, h⟩ := ob1_eq h
  refine z_callINv (h := qv16) (As := []) (rest := [.ref qv16, .ref r0]) (pc := 39) C dX6_init_39 ml_X6_29 rfl (kX1_init _ _ _ _ G17 qv16  _ eG18) rfl rfl (Nat.le_of_ble_eq_true rfl) (by decide) ?_
  obtain ⟨G19, eG19, h⟩ := ob1_eq h
  refine z_srF (pc := 42) C hn dX6_init_42 fl_X6_30w (fun _ => ⟨rfl, rfl⟩) eG19 ?_
  refine z_aload_n (pc := 45) C 0 dX6_init_45 rfl rfl ?_
  refine z_iconst (pc := 46) C dX6_init_46 (v := (3 : Int32)) (by decide) ?_
  obtain ⟨N20, eN20, h⟩ := ob1_eq h
  obtain ⟨qv21, eqv21, h⟩ := zlet_eq h
  obtain ⟨G22, eG22, h⟩ := zlet_eq h
  refine z_gNq (pc := 47) C dX6_init_47 ck_X6_34 eN20 eqv21 eG22 ?_
  obtain ⟨G23, eG23, h⟩ := ob1_eq h
  refine z_srF (pc := 50) C hn dX6_init_50 fl_X6_36w (fun _ => ⟨rfl, rfl⟩) eG23 ?_
  refine z_aload_n (pc := 53) C 0 dX6_init_53 rfl rfl ?_
  refine z_iconst (pc := 54) C dX6_init_54 (v := (3 : Int32)) (by decide) ?_
  obtain ⟨N24, eN24, h⟩ := ob1_eq h
  obtain ⟨qv25, eqv25, h⟩ := zlet_eq h
  obtain ⟨G26, eG26, h⟩ := zlet_eq h
  refine z_gNz (pc := 55) C dX6_init_55 eN24 eqv25 eG26 ?_
  obtain ⟨G27, eG27, h⟩ := ob1_eq h
  refine z_srF (pc := 57) C hn dX6_init_57 fl_X6_40w (fun _ => ⟨rfl, rfl⟩) eG27 ?_
  refine z_aload_n (pc := 60) C 0 dX6_init_60 rfl rfl ?_
  obtain ⟨u28, eu28, h⟩ := ob1_eq h
  obtain ⟨qv29, eqv29, h⟩ := zlet_eq h
  obtain ⟨G30, eG30, h⟩ := zlet_eq h
  refine z_gO (ci := 2) (pc := 61) C tyX2 dX6_init_61 rfl uwX2 tyX2_ok ck_X6_34 insX2 iniX2 dfX2 rfl (fun _ => rfl) eu28 eqv29 eG30 ?_
  refine z_dup (pc := 64) C dX6_init_64 rfl ?_
  obtain ⟨G31, eG31, h⟩ := ob1_eq h
  refine z_callIv (h := qv29) (As := []) (rest := [.ref qv29, .ref r0]) (pc := 65) C dX6_init_65 ml_X6_44 rfl (kX2_init _ _ _ _ G30 qv29  _ eG31) rfl rfl (Nat.le_of_ble_eq_true rfl) (by decide) ?_
  obtain ⟨G32, eG32, h⟩ := ob1_eq h
  refine z_srF (pc := 68) C hn dX6_init_68 fl_X6_45w (fun _ => ⟨rfl, rfl⟩) eG32 ?_
  refine z_aload_n (pc := 71) C 0 dX6_init_71 rfl rfl ?_
  obtain ⟨u33, eu33, h⟩ := ob1_eq h
  obtain ⟨qv34, eqv34, h⟩ := zlet_eq h
  obtain ⟨G35, eG35, h⟩ := zlet_eq h
  refine z_gO (ci := 2) (pc := 72) C tyX2 dX6_init_72 rfl uwX2 tyX2_ok ck_X6_34 insX2 iniX2 dfX2 rfl (fun _ => rfl) eu33 eqv34 eG35 ?_
  refine z_dup (pc := 75) C dX6_init_75 rfl ?_
  obtain ⟨G36, eG36, h⟩ := ob1_eq h
  refine z_callIv (h := qv34) (As := []) (rest := [.ref qv34, .ref r0]) (pc := 76) C dX6_init_76 ml_X6_44 rfl (kX2_init _ _ _ _ G35 qv34  _ eG36) rfl rfl (Nat.le_of_ble_eq_true rfl) (by decide) ?_
  obtain ⟨G37, eG37, h⟩ := ob1_eq h
  refine z_srF (pc := 79) C hn dX6_init_79 fl_X6_49w (fun _ => ⟨rfl, rfl⟩) eG37 ?_
  refine z_aload_n (pc := 82) C 0 dX6_init_82 rfl rfl ?_
  obtain ⟨u38, eu38, h⟩ := ob1_eq h
  obtain ⟨qv39, eqv39, h⟩ := zlet_eq h
  obtain ⟨G40, eG40, h⟩ := zlet_eq h
  refine z_gO (ci := 3) (pc := 83) C tyX3 dX6_init_83 rfl uwX3 tyX3_ok ck_X6_52 insX3 iniX3 dfX3 rfl (fun _ => rfl) eu38 eqv39 eG40 ?_
  refine z_dup (pc := 86) C dX6_init_86 rfl ?_
  obtain ⟨G41, eG41, h⟩ := ob1_eq h
  refine z_callINv (h := qv39) (As := []) (rest := [.ref qv39, .ref r0]) (pc := 87) C dX6_init_87 ml_X6_54 rfl (kX3_init _ _ _ _ G40 qv39  _ eG41) rfl rfl (Nat.le_of_ble_eq_true rfl) (by decide) ?_
  obtain ⟨G42, eG42, h⟩ := ob1_eq h
  refine z_srF (pc := 90) C hn dX6_init_90 fl_X6_55w (fun _ => ⟨rfl, rfl⟩) eG42 ?_
  refine z_aload_n (pc := 93) C 0 dX6_init_93 rfl rfl ?_
  obtain ⟨u43, eu43, h⟩ := ob1_eq h
  obtain ⟨qv44, eqv44, h⟩ := zlet_eq h
  obtain ⟨G45, eG45, h⟩ := zlet_eq h
  refine z_gO (ci := 3) (pc := 94) C tyX3 dX6_init_94 rfl uwX3 tyX3_ok ck_X6_52 insX3 iniX3 dfX3 rfl (fun _ => rfl) eu43 eqv44 eG45 ?_
  refine z_dup (pc := 97) C dX6_init_97 rfl ?_
  obtain ⟨G46, eG46, h⟩ := ob1_eq h
  refine z_callINv (h := qv44) (As := []) (rest := [.ref qv44, .ref r0]) (pc := 98) C dX6_init_98 ml_X6_54 rfl (kX3_init _ _ _ _ G45 qv44  _ eG46) rfl rfl (Nat.le_of_ble_eq_true rfl) (by decide) ?_
  obtain ⟨G47, eG47, h⟩ := ob1_eq h
  refine z_srF (pc := 101) C hn dX6_init_101 fl_X6_59w (fun _ => ⟨rfl, rfl⟩) eG47 ?_
  refine z_aload_n (pc := 104) C 0 dX6_init_104 rfl rfl ?_
  refine z_sipush (pc := 105) C dX6_init_105 (v := (6000 : Int32)) (by decide) ?_
  obtain ⟨N48, eN48, h⟩ := ob1_eq h
  obtain ⟨qv49, eqv49, h⟩ := zlet_eq h
  obtain ⟨G50, eG50, h⟩ := zlet_eq h
  refine z_gN (pc := 108) C dX6_init_108 eN48 eqv49 eG50 ?_
  obtain ⟨G51, eG51, h⟩ := ob1_eq h
  refine z_srF (pc := 110) C hn dX6_init_110 fl_X6_62w (fun _ => ⟨rfl, rfl⟩) eG51 ?_
  refine z_aload_n (pc := 113) C 0 dX6_init_113 rfl rfl ?_
  refine z_iconst (pc := 114) C dX6_init_114 (v := (-1 : Int32)) (by decide) ?_
  obtain ⟨G52, eG52, h⟩ := ob1_eq h
  refine z_si (pc := 115) C dX6_init_115 fl_X6_65w eG52 ?_
  obtain rfl := Option.some.inj h
  exact z_vret (pc := 118) C E dX6_init_118 ⟨rfl, rfl⟩
theorem kX6_init (l : Launch) (D : va_G) (cA : Nat → ClassId) (b : Nat) (G : zH) (r0 : Nat) (out : zH) (h : fX6_init G r0 = some out) : zM l D cA b yX6_init cX6_init 1 none 2 43 [.ref r0] G (poV out) := z_entry rfl (Nat.le_of_ble_eq_true rfl) (fun X C E hn _ _ => wfX6_init C E hn G r0 h)
def fX6_sign_b52 (G : zH) (r0 : Nat) : Option (Int32 × zH) :=
    ob1 (fi G r0 6 1) fun v1 =>
    some (v1, G)
set_option maxRecDepth 100000 in
set_option maxHeartbeats 4000000 in
theorem wfX6_sign_b52 {X : zX} {out : Int32 × zH} (C : zOK X cX6_sign yX6_sign.cls 3 (some .int) 0 0) (E : zPost X (poI out.1 out.2)) (G : zH) (r0 : Nat) (h : fX6_sign_b52 G r0 = some out) : zZ X 52 [(0, .ref r0)] [] G := by
  rw [fX6_sign_b52] at h
  refine z_aload_n (pc := 52) C 0 dX6_sign_52 rfl rfl ?_
  obtain ⟨v1, ev1, h⟩ := ob1_eq h
  refine z_fi (pc := 53) C dX6_sign_53 fl_X6_69 ev1 ?_
  obtain rfl := Option.some.inj h
  exact z_iret (pc := 56) C E dX6_sign_56 ⟨rfl, rfl⟩
def fX6_sign_b16 : Nat → zH → Nat → Int32 → Int32 → Option (Int32 × zH)
  | 0, _, _, _, _ => none
  | n + 1, G, r0, x1, x2 =>
    if x2 < 0 then (fX6_sign_b52 G r0) else
    ob1 (frf G r0 6 0) fun qv2 =>
    ob1 (fi G r0 6 1) fun v3 =>
    ob1 (aW G 0 qv2 v3 ((x1.toUInt32 >>> (x2.toUInt32 &&& Int32.toUInt32 31)).toInt32 &&& (255 : Int32))) fun G4 =>
    ob1 (fi G4 r0 6 1) fun v5 =>
    ob1 (fset G4 r0 6 1 (.int (v5 + (1 : Int32)))) fun G6 =>
    zlet (x2 + (-8 : Int32)) fun y7 =>
    (fX6_sign_b16 n) G6 r0 x1 y7
set_option maxRecDepth 100000 in
set_option maxHeartbeats 4000000 in
theorem wfX6_sign_b16 {X : zX} {out : Int32 × zH} (C : zOK X cX6_sign yX6_sign.cls 3 (some .int) 0 0) (E : zPost X (poI out.1 out.2)) : ∀ (n : Nat) (G : zH) (r0 : Nat) (x1 : Int32) (x2 : Int32) (h : fX6_sign_b16 n G r0 x1 x2 = some out), zZ X 16 [(0, .ref r0), (1, .int x1), (2, .int x2)] [] G := by
  intro n
  induction n with
  | zero => intro G r0 x1 x2 h; cases h
  | succ n ih =>
    intro G r0 x1 x2 h
    rw [fX6_sign_b16] at h
    refine z_iload_n (pc := 16) C 2 dX6_sign_16 rfl rfl ?_
    refine z_if_lt (pc := 17) C dX6_sign_17 (tgt := 52) (by decide) (fun c1 => ?_) (fun c1 => ?_)
    · rw [if_pos c1] at h
      exact z_subL [0] (wfX6_sign_b52 C E G r0 h) rfl
    · rw [if_neg c1] at h
      refine z_aload_n (pc := 20) C 0 dX6_sign_20 rfl rfl ?_
      obtain ⟨qv2, eqv2, h⟩ := ob1_eq h
      refine z_fr (pc := 21) C dX6_sign_21 fl_X6_9 eqv2 ?_
      refine z_aload_n (pc := 24) C 0 dX6_sign_24 rfl rfl ?_
      obtain ⟨v3, ev3, h⟩ := ob1_eq h
      refine z_fi (pc := 25) C dX6_sign_25 fl_X6_69 ev3 ?_
      refine z_iload_n (pc := 28) C 1 dX6_sign_28 rfl rfl ?_
      refine z_iload_n (pc := 29) C 2 dX6_sign_29 rfl rfl ?_
      refine z_iushr (pc := 30) C dX6_sign_30 ?_
      refine z_sipush (pc := 31) C dX6_sign_31 (v := (255 : Int32)) (by decide) ?_
      refine z_iand (pc := 34) C dX6_sign_34 ?_
      obtain ⟨G4, eG4, h⟩ := ob1_eq h
      refine z_aW (pc := 35) C dX6_sign_35 eG4 ?_
      refine z_aload_n (pc := 36) C 0 dX6_sign_36 rfl rfl ?_
      refine z_dup (pc := 37) C dX6_sign_37 rfl ?_
      obtain ⟨v5, ev5, h⟩ := ob1_eq h
      refine z_fi (pc := 38) C dX6_sign_38 fl_X6_69 ev5 ?_
      refine z_iconst (pc := 41) C dX6_sign_41 (v := (1 : Int32)) (by decide) ?_
      refine z_iadd (pc := 42) C dX6_sign_42 ?_
      obtain ⟨G6, eG6, h⟩ := ob1_eq h
      refine z_si (pc := 43) C dX6_sign_43 fl_X6_69w eG6 ?_
      obtain ⟨y7, ey7, h⟩ := zlet_eq h
      refine z_iinc (pc := 46) (v := y7) C 2 dX6_sign_46 rfl (by rw [ey7]; rfl) (by decide) (show zput _ _ _ = [(2, .int y7), (0, .ref r0), (1, .int x1)] from rfl) ?_
      refine z_goto (pc := 49) C dX6_sign_49 (tgt := 16) (by decide) ?_
      exact z_subL [1, 2, 0] (ih G6 r0 x1 y7 h) rfl
def fX6_sign (G : zH) (r0 : Nat) (x1 : Int32) : Option (Int32 × zH) :=
    ob1 (fi G r0 6 1) fun v1 =>
    if (v1 + (4 : Int32)) ≤ (80 : Int32) then (fX6_sign_b16 FU G r0 x1 (24 : Int32)) else
    some ((-1 : Int32), G)
set_option maxRecDepth 100000 in
set_option maxHeartbeats 4000000 in
theorem wfX6_sign {X : zX} {out : Int32 × zH} (C : zOK X cX6_sign yX6_sign.cls 3 (some .int) 0 0) (E : zPost X (poI out.1 out.2)) (G : zH) (r0 : Nat) (x1 : Int32) (h : fX6_sign G r0 x1 = some out) : zZ X 0 [(0, .ref r0), (1, .int x1)] [] G := by
  rw [fX6_sign] at h
  refine z_aload_n (pc := 0) C 0 dX6_sign_0 rfl rfl ?_
  obtain ⟨v1, ev1, h⟩ := ob1_eq h
  refine z_fi (pc := 1) C dX6_sign_1 fl_X6_69 ev1 ?_
  refine z_iconst (pc := 4) C dX6_sign_4 (v := (4 : Int32)) (by decide) ?_
  refine z_iadd (pc := 5) C dX6_sign_5 ?_
  refine z_bipush (pc := 6) C dX6_sign_6 (v := (80 : Int32)) (by decide) ?_
  refine z_ic_le (pc := 8) C dX6_sign_8 (tgt := 13) (by decide) (fun c2 => ?_) (fun c2 => ?_)
  · rw [if_pos c2] at h
    refine z_bipush (pc := 13) C dX6_sign_13 (v := (24 : Int32)) (by decide) ?_
    refine z_istore_n (pc := 15) C dX6_sign_15 rfl (by decide) (show zput _ _ _ = [(2, .int (24 : Int32)), (0, .ref r0), (1, .int x1)] from rfl) ?_
    exact z_subL [1, 2, 0] (wfX6_sign_b16 C E FU G r0 x1 (24 : Int32) h) rfl
  · rw [if_neg c2] at h
    refine z_iconst (pc := 11) C dX6_sign_11 (v := (-1 : Int32)) (by decide) ?_
    obtain rfl := Option.some.inj h
    exact z_iret (pc := 12) C E dX6_sign_12 ⟨rfl, rfl⟩
theorem kX6_sign (l : Launch) (D : va_G) (cA : Nat → ClassId) (b : Nat) (G : zH) (r0 : Nat) (x1 : Int32) (out : Int32 × zH) (h : fX6_sign G r0 x1 = some out) : zM l D cA b yX6_sign cX6_sign 3 (some .int) 0 0 [.ref r0, .int x1] G (poI out.1 out.2) := z_entry rfl (Nat.le_of_ble_eq_true rfl) (fun X C E _ _ _ => wfX6_sign C E G r0 x1 h)
def fX6_end (G : zH) (r0 : Nat) (x1 : Int32) : Option (Int32 × zH) :=
    if x1 < 0 then (some ((0 : Int32), G)) else
    ob1 (fi G r0 6 1) fun v2 =>
    if x1 ≤ v2 then (ob1 (fset G r0 6 1 (.int x1)) fun G4 =>
    some ((1 : Int32), G4)) else
    some ((0 : Int32), G)
set_option maxRecDepth 100000 in
set_option maxHeartbeats 4000000 in
theorem wfX6_end {X : zX} {out : Int32 × zH} (C : zOK X cX6_end yX6_end.cls 2 (some .boolean) 0 0) (E : zPost X (poI out.1 out.2)) (G : zH) (r0 : Nat) (x1 : Int32) (h : fX6_end G r0 x1 = some out) : zZ X 0 [(0, .ref r0), (1, .int x1)] [] G := by
  rw [fX6_end] at h
  refine z_iload_n (pc := 0) C 1 dX6_end_0 rfl rfl ?_
  refine z_if_lt (pc := 1) C dX6_end_1 (tgt := 12) (by decide) (fun c1 => ?_) (fun c1 => ?_)
  · rw [if_pos c1] at h
    refine z_iconst (pc := 12) C dX6_end_12 (v := (0 : Int32)) (by decide) ?_
    obtain rfl := Option.some.inj h
    exact z_zret (pc := 13) C E dX6_end_13 rfl ⟨rfl, rfl⟩
  · rw [if_neg c1] at h
    refine z_iload_n (pc := 4) C 1 dX6_end_4 rfl rfl ?_
    refine z_aload_n (pc := 5) C 0 dX6_end_5 rfl rfl ?_
    obtain ⟨v2, ev2, h⟩ := ob1_eq h
    refine z_fi (pc := 6) C dX6_end_6 fl_X6_69 ev2 ?_
    refine z_ic_le (pc := 9) C dX6_end_9 (tgt := 14) (by decide) (fun c3 => ?_) (fun c3 => ?_)
    · rw [if_pos c3] at h
      refine z_aload_n (pc := 14) C 0 dX6_end_14 rfl rfl ?_
      refine z_iload_n (pc := 15) C 1 dX6_end_15 rfl rfl ?_
      obtain ⟨G4, eG4, h⟩ := ob1_eq h
      refine z_si (pc := 16) C dX6_end_16 fl_X6_69w eG4 ?_
      refine z_iconst (pc := 19) C dX6_end_19 (v := (1 : Int32)) (by decide) ?_
      obtain rfl := Option.some.inj h
      exact z_zret (pc := 20) C E dX6_end_20 rfl ⟨rfl, rfl⟩
    · rw [if_neg c3] at h
      refine z_iconst (pc := 12) C dX6_end_12 (v := (0 : Int32)) (by decide) ?_
      obtain rfl := Option.some.inj h
      exact z_zret (pc := 13) C E dX6_end_13 rfl ⟨rfl, rfl⟩
theorem kX6_end (l : Launch) (D : va_G) (cA : Nat → ClassId) (b : Nat) (G : zH) (r0 : Nat) (x1 : Int32) (out : Int32 × zH) (h : fX6_end G r0 x1 = some out) : zM l D cA b yX6_end cX6_end 2 (some .boolean) 0 0 [.ref r0, .int x1] G (poI out.1 out.2) := z_entry rfl (Nat.le_of_ble_eq_true rfl) (fun X C E _ _ _ => wfX6_end C E G r0 x1 h)
def fX6_readText (G : zH) (r0 : Nat) : Option (Int32 × zH) :=
    ob1 (fi G r0 6 1) fun v1 =>
    ob1 (fset G r0 6 1 (.int (0 : Int32))) fun G2 =>
    some (v1, G2)
set_option maxRecDepth 100000 in
set_option maxHeartbeats 4000000 in
theorem wfX6_readText {X : zX} {out : Int32 × zH} (C : zOK X cX6_readText yX6_readText.cls 2 (some .int) 0 0) (E : zPost X (poI out.1 out.2)) (G : zH) (r0 : Nat) (h : fX6_readText G r0 = some out) : zZ X 0 [(0, .ref r0)] [] G := by
  rw [fX6_readText] at h
  refine z_aload_n (pc := 0) C 0 dX6_readText_0 rfl rfl ?_
  obtain ⟨v1, ev1, h⟩ := ob1_eq h
  refine z_fi (pc := 1) C dX6_readText_1 fl_X6_69 ev1 ?_
  refine z_istore_n (pc := 4) C dX6_readText_4 rfl (by decide) (show zput _ _ _ = [(1, .int v1), (0, .ref r0)] from rfl) ?_
  refine z_aload_n (pc := 5) C 1 dX6_readText_5 rfl rfl ?_
  refine z_iconst (pc := 6) C dX6_readText_6 (v := (0 : Int32)) (by decide) ?_
  obtain ⟨G2, eG2, h⟩ := ob1_eq h
  refine z_si (pc := 7) C dX6_readText_7 fl_X6_69w eG2 ?_
  refine z_iload_n (pc := 10) C 0 dX6_readText_10 rfl rfl ?_
  obtain rfl := Option.some.inj h
  exact z_iret (pc := 11) C E dX6_readText_11 ⟨rfl, rfl⟩
theorem kX6_readText (l : Launch) (D : va_G) (cA : Nat → ClassId) (b : Nat) (G : zH) (r0 : Nat) (out : Int32 × zH) (h : fX6_readText G r0 = some out) : zM l D cA b yX6_readText cX6_readText 2 (some .int) 0 0 [.ref r0] G (poI out.1 out.2) := z_entry rfl (Nat.le_of_ble_eq_true rfl) (fun X C E _ _ _ => wfX6_readText C E G r0 h)
def fX6_firstThatIsNone_b2 (G : zH) : Nat → Nat → Int32 → Int32 → Option Int32
  | 0, _, _, _ => none
  | n + 1, r0, x1, x2 =>
    if x1 ≤ x2 then (some (-1 : Int32)) else
    ob1 (frf G r0 6 0) fun qv2 =>
    ob1 (aL G 0 qv2) fun v3 =>
    if v3 ≤ x2 then (some (-1 : Int32)) else
    ob1 (frf G r0 6 0) fun qv5 =>
    ob1 (aR G 0 qv5 x2) fun v6 =>
    ob1 (fX6_isSign v6) fun v7 =>
    if v7 = 0 then (some x2) else
    zlet (x2 + (1 : Int32)) fun y9 =>
    (fX6_firstThatIsNone_b2 G n) r0 x1 y9
set_option maxRecDepth 100000 in
set_option maxHeartbeats 4000000 in
theorem wfX6_firstThatIsNone_b2 {X : zX} {G : zH} {out : Int32} (C : zOK X cX6_firstThatIsNone yX6_firstThatIsNone.cls 3 (some .int) 1 20) (E : zPost X (poI out G)) : ∀ (n : Nat) (r0 : Nat) (x1 : Int32) (x2 : Int32) (h : fX6_firstThatIsNone_b2 G n r0 x1 x2 = some out), zZ X 2 [(0, .ref r0), (1, .int x1), (2, .int x2)] [] G := by
  intro n
  induction n with
  | zero => intro r0 x1 x2 h; cases h
  | succ n ih =>
    intro r0 x1 x2 h
    rw [fX6_firstThatIsNone_b2] at h
    refine z_iload_n (pc := 2) C 2 dX6_firstThatIsNone_2 rfl rfl ?_
    refine z_iload_n (pc := 3) C 1 dX6_firstThatIsNone_3 rfl rfl ?_
    refine z_ic_ge (pc := 4) C dX6_firstThatIsNone_4 (tgt := 36) (by decide) (fun c1 => ?_) (fun c1 => ?_)
    · rw [if_pos c1] at h
      refine z_iconst (pc := 36) C dX6_firstThatIsNone_36 (v := (-1 : Int32)) (by decide) ?_
      obtain rfl := Option.some.inj h
      exact z_iret (pc := 37) C E dX6_firstThatIsNone_37 ⟨rfl, rfl⟩
    · rw [if_neg c1] at h
      refine z_iload_n (pc := 7) C 2 dX6_firstThatIsNone_7 rfl rfl ?_
      refine z_aload_n (pc := 8) C 0 dX6_firstThatIsNone_8 rfl rfl ?_
      obtain ⟨qv2, eqv2, h⟩ := ob1_eq h
      refine z_fr (pc := 9) C dX6_firstThatIsNone_9 fl_X6_9 eqv2 ?_
      obtain ⟨v3, ev3, h⟩ := ob1_eq h
      refine z_aL (pc := 12) C dX6_firstThatIsNone_12 (by decide) ev3 ?_
      refine z_ic_ge (pc := 13) C dX6_firstThatIsNone_13 (tgt := 36) (by decide) (fun c4 => ?_) (fun c4 => ?_)
      · rw [if_pos c4] at h
        refine z_iconst (pc := 36) C dX6_firstThatIsNone_36 (v := (-1 : Int32)) (by decide) ?_
        obtain rfl := Option.some.inj h
        exact z_iret (pc := 37) C E dX6_firstThatIsNone_37 ⟨rfl, rfl⟩
      · rw [if_neg c4] at h
        refine z_aload_n (pc := 16) C 0 dX6_firstThatIsNone_16 rfl rfl ?_
        obtain ⟨qv5, eqv5, h⟩ := ob1_eq h
        refine z_fr (pc := 17) C dX6_firstThatIsNone_17 fl_X6_9 eqv5 ?_
        refine z_iload_n (pc := 20) C 2 dX6_firstThatIsNone_20 rfl rfl ?_
        obtain ⟨v6, ev6, h⟩ := ob1_eq h
        refine z_aR (pc := 21) C dX6_firstThatIsNone_21 ev6 ?_
        obtain ⟨v7, ev7, h⟩ := ob1_eq h
        refine z_callSi (As := [.int v6]) (rest := []) (pc := 22) C dX6_firstThatIsNone_22 ml_X6_131 (kX6_isSign _ _ _ _ G v6 _ ev7) rfl rfl (Nat.le_of_ble_eq_true rfl) (by decide) ?_
        refine z_if_ne (pc := 25) C dX6_firstThatIsNone_25 (tgt := 30) (by decide) (fun c8 => ?_) (fun c8 => ?_)
        · rw [if_neg c8] at h
          obtain ⟨y9, ey9, h⟩ := zlet_eq h
          refine z_iinc (pc := 30) (v := y9) C 2 dX6_firstThatIsNone_30 rfl (by rw [ey9]; rfl) (by decide) (show zput _ _ _ = [(2, .int y9), (0, .ref r0), (1, .int x1)] from rfl) ?_
          refine z_goto (pc := 33) C dX6_firstThatIsNone_33 (tgt := 2) (by decide) ?_
          exact z_subL [1, 2, 0] (ih r0 x1 y9 h) rfl
        · rw [if_pos c8] at h
          refine z_iload_n (pc := 28) C 2 dX6_firstThatIsNone_28 rfl rfl ?_
          obtain rfl := Option.some.inj h
          exact z_iret (pc := 29) C E dX6_firstThatIsNone_29 ⟨rfl, rfl⟩
def fX6_firstThatIsNone (G : zH) (r0 : Nat) (x1 : Int32) : Option Int32 :=
    fX6_firstThatIsNone_b2 G FU r0 x1 (0 : Int32)
set_option maxRecDepth 100000 in
set_option maxHeartbeats 4000000 in
theorem wfX6_firstThatIsNone {X : zX} {G : zH} {out : Int32} (C : zOK X cX6_firstThatIsNone yX6_firstThatIsNone.cls 3 (some .int) 1 20) (E : zPost X (poI out G)) (r0 : Nat) (x1 : Int32) (h : fX6_firstThatIsNone G r0 x1 = some out) : zZ X 0 [(0, .ref r0), (1, .int x1)] [] G := by
  rw [fX6_firstThatIsNone] at h
  refine z_iconst (pc := 0) C dX6_firstThatIsNone_0 (v := (0 : Int32)) (by decide) ?_
  refine z_istore_n (pc := 1) C dX6_firstThatIsNone_1 rfl (by decide) (show zput _ _ _ = [(2, .int (0 : Int32)), (0, .ref r0), (1, .int x1)] from rfl) ?_
  exact z_subL [1, 2, 0] (wfX6_firstThatIsNone_b2 C E FU r0 x1 (0 : Int32) h) rfl
theorem kX6_firstThatIsNone (l : Launch) (D : va_G) (cA : Nat → ClassId) (b : Nat) (G : zH) (r0 : Nat) (x1 : Int32) (out : Int32) (h : fX6_firstThatIsNone G r0 x1 = some out) : zM l D cA b yX6_firstThatIsNone cX6_firstThatIsNone 3 (some .int) 1 20 [.ref r0, .int x1] G (poI out G) := z_entry rfl (Nat.le_of_ble_eq_true rfl) (fun X C E _ _ _ => wfX6_firstThatIsNone C E r0 x1 h)
def fX6_bookIsOther (G : zH) (r0 : Nat) : Option zH :=
    ob1 (fset G r0 6 13 (.int (-1 : Int32))) fun G1 =>
    ob1 (bz (1 : Int32)) fun b2 =>
    ob1 (fset G1 r0 6 10 (.int b2)) fun G3 =>
    some G3
set_option maxRecDepth 100000 in
set_option maxHeartbeats 4000000 in
theorem wfX6_bookIsOther {X : zX} {out : zH} (C : zOK X cX6_bookIsOther yX6_bookIsOther.cls 1 none 0 0) (E : zPost X (poV out)) (G : zH) (r0 : Nat) (h : fX6_bookIsOther G r0 = some out) : zZ X 0 [(0, .ref r0)] [] G := by
  rw [fX6_bookIsOther] at h
  refine z_aload_n (pc := 0) C 0 dX6_bookIsOther_0 rfl rfl ?_
  refine z_iconst (pc := 1) C dX6_bookIsOther_1 (v := (-1 : Int32)) (by decide) ?_
  obtain ⟨G1, eG1, h⟩ := ob1_eq h
  refine z_si (pc := 2) C dX6_bookIsOther_2 fl_X6_65w eG1 ?_
  refine z_aload_n (pc := 5) C 0 dX6_bookIsOther_5 rfl rfl ?_
  refine z_iconst (pc := 6) C dX6_bookIsOther_6 (v := (1 : Int32)) (by decide) ?_
  obtain ⟨b2, eb2, h⟩ := ob1_eq h
  obtain ⟨G3, eG3, h⟩ := ob1_eq h
  refine z_sz (pc := 7) C dX6_bookIsOther_7 fl_X6_152w eb2 eG3 ?_
  obtain rfl := Option.some.inj h
  exact z_vret (pc := 10) C E dX6_bookIsOther_10 ⟨rfl, rfl⟩
theorem kX6_bookIsOther (l : Launch) (D : va_G) (cA : Nat → ClassId) (b : Nat) (G : zH) (r0 : Nat) (out : zH) (h : fX6_bookIsOther G r0 = some out) : zM l D cA b yX6_bookIsOther cX6_bookIsOther 1 none 0 0 [.ref r0] G (poV out) := z_entry rfl (Nat.le_of_ble_eq_true rfl) (fun X C E _ _ _ => wfX6_bookIsOther C E G r0 h)
def fX6_opens_b107 (G : zH) (r0 : Nat) (r4 : Nat) : Option (Int32 × zH) :=
    ob1 (frf G r0 6 4) fun qv1 =>
    ob1 (isO G qv1 1) fun u2 =>
    ob1 (fX1_forget G qv1 ) fun G4 =>
    ob1 (isO G4 r0 6) fun u5 =>
    ob1 (fX6_bookIsOther G4 r0 ) fun G7 =>
    ob1 (fi G7 r4 2 3) fun v8 =>
    some (v8, G7)
set_option maxRecDepth 100000 in
set_option maxHeartbeats 4000000 in
theorem wfX6_opens_b107 {X : zX} {out : Int32 × zH} (C : zOK X cX6_opens yX6_opens.cls 6 (some .int) 4 89) (E : zPost X (poI out.1 out.2)) (G : zH) (r0 : Nat) (r4 : Nat) (h : fX6_opens_b107 G r0 r4 = some out) : zZ X 107 [(0, .ref r0), (4, .ref r4)] [] G := by
  rw [fX6_opens_b107] at h
  refine z_aload_n (pc := 107) C 0 dX6_opens_107 rfl rfl ?_
  obtain ⟨qv1, eqv1, h⟩ := ob1_eq h
  refine z_fr (pc := 108) C dX6_opens_108 fl_X6_30 eqv1 ?_
  obtain ⟨u2, eu2, h⟩ := ob1_eq h
  obtain ⟨w3, ew3⟩ := isO_eq eu2
  obtain ⟨G4, eG4, h⟩ := ob1_eq h
  refine z_callVv (h := qv1) (As := []) (rest := []) (pc := 111) C dX6_opens_111 ml_X6_98 (kX1_forget _ _ _ _ G qv1  G4 eG4) ew3 rfl rfl rfl (Nat.le_of_ble_eq_true rfl) (by decide) ?_
  refine z_aload_n (pc := 114) C 0 dX6_opens_114 rfl rfl ?_
  obtain ⟨u5, eu5, h⟩ := ob1_eq h
  obtain ⟨w6, ew6⟩ := isO_eq eu5
  obtain ⟨G7, eG7, h⟩ := ob1_eq h
  refine z_callVv (h := r0) (As := []) (rest := []) (pc := 115) C dX6_opens_115 ml_X6_101 (kX6_bookIsOther _ _ _ _ G4 r0  G7 eG7) ew6 rfl rfl rfl (Nat.le_of_ble_eq_true rfl) (by decide) ?_
  refine z_aload (pc := 118) C 1 dX6_opens_118 rfl ?_
  obtain ⟨v8, ev8, h⟩ := ob1_eq h
  refine z_fi (pc := 120) C dX6_opens_120 fl_X6_104 ev8 ?_
  obtain rfl := Option.some.inj h
  exact z_iret (pc := 123) C E dX6_opens_123 ⟨rfl, rfl⟩
def fX6_opens_b87 : Nat → zH → Nat → Nat → Int32 → Option (Int32 × zH)
  | 0, _, _, _, _ => none
  | n + 1, G, r0, r4, x5 =>
    if (3 : Int32) ≤ x5 then (fX6_opens_b107 G r0 r4) else
    ob1 (frf G r0 6 6) fun qv2 =>
    ob1 (aW G 3 qv2 x5 (vp_nar .boolean (0 : Int32))) fun G3 =>
    zlet (x5 + (1 : Int32)) fun y4 =>
    (fX6_opens_b87 n) G3 r0 r4 y4
set_option maxRecDepth 100000 in
set_option maxHeartbeats 4000000 in
theorem wfX6_opens_b87 {X : zX} {out : Int32 × zH} (C : zOK X cX6_opens yX6_opens.cls 6 (some .int) 4 89) (E : zPost X (poI out.1 out.2)) : ∀ (n : Nat) (G : zH) (r0 : Nat) (r4 : Nat) (x5 : Int32) (h : fX6_opens_b87 n G r0 r4 x5 = some out), zZ X 87 [(0, .ref r0), (4, .ref r4), (5, .int x5)] [] G := by
  intro n
  induction n with
  | zero => intro G r0 r4 x5 h; cases h
  | succ n ih =>
    intro G r0 r4 x5 h
    rw [fX6_opens_b87] at h
    refine z_iload (pc := 87) C 2 dX6_opens_87 rfl ?_
    refine z_iconst (pc := 89) C dX6_opens_89 (v := (3 : Int32)) (by decide) ?_
    refine z_ic_ge (pc := 90) C dX6_opens_90 (tgt := 107) (by decide) (fun c1 => ?_) (fun c1 => ?_)
    · rw [if_pos c1] at h
      exact z_subL [0, 1] (wfX6_opens_b107 C E G r0 r4 h) rfl
    · rw [if_neg c1] at h
      refine z_aload_n (pc := 93) C 0 dX6_opens_93 rfl rfl ?_
      obtain ⟨qv2, eqv2, h⟩ := ob1_eq h
      refine z_fr (pc := 94) C dX6_opens_94 fl_X6_40 eqv2 ?_
      refine z_iload (pc := 97) C 2 dX6_opens_97 rfl ?_
      refine z_iconst (pc := 99) C dX6_opens_99 (v := (0 : Int32)) (by decide) ?_
      obtain ⟨G3, eG3, h⟩ := ob1_eq h
      refine z_zW (pc := 100) C dX6_opens_100 eG3 ?_
      obtain ⟨y4, ey4, h⟩ := zlet_eq h
      refine z_iinc (pc := 101) (v := y4) C 2 dX6_opens_101 rfl (by rw [ey4]; rfl) (by decide) (show zput _ _ _ = [(5, .int y4), (0, .ref r0), (4, .ref r4)] from rfl) ?_
      refine z_goto (pc := 104) C dX6_opens_104 (tgt := 87) (by decide) ?_
      exact z_subL [1, 2, 0] (ih G3 r0 r4 y4 h) rfl
def fX6_opens_b84 (G : zH) (r0 : Nat) (r4 : Nat) : Option (Int32 × zH) :=
    fX6_opens_b87 FU G r0 r4 (0 : Int32)
set_option maxRecDepth 100000 in
set_option maxHeartbeats 4000000 in
theorem wfX6_opens_b84 {X : zX} {out : Int32 × zH} (C : zOK X cX6_opens yX6_opens.cls 6 (some .int) 4 89) (E : zPost X (poI out.1 out.2)) (G : zH) (r0 : Nat) (r4 : Nat) (h : fX6_opens_b84 G r0 r4 = some out) : zZ X 84 [(0, .ref r0), (4, .ref r4)] [] G := by
  rw [fX6_opens_b84] at h
  refine z_iconst (pc := 84) C dX6_opens_84 (v := (0 : Int32)) (by decide) ?_
  refine z_istore (pc := 85) C dX6_opens_85 (by decide) (show zput _ _ _ = [(5, .int (0 : Int32)), (0, .ref r0), (4, .ref r4)] from rfl) ?_
  exact z_subL [1, 2, 0] (wfX6_opens_b87 C E FU G r0 r4 (0 : Int32) h) rfl
def fX6_opens (G : zH) (r0 : Nat) (x1 : Int32) : Option (Int32 × zH) :=
    ob1 (isO G r0 6) fun u1 =>
    ob2 (fX6_readText G r0 ) fun v4 G3 =>
    ob1 (isO G3 r0 6) fun u5 =>
    ob1 (fX6_firstThatIsNone G3 r0 v4) fun v7 =>
    if v7 = (-1 : Int32) then (if x1 < (1 : Int32) then (some ((-100 : Int32), G3)) else
    if x1 ≤ (20 : Int32) then (ob1 (frf G3 r0 6 3) fun qv11 =>
    ob1 (frf G3 r0 6 0) fun qv12 =>
    ob1 (isO G3 qv11 4) fun u13 =>
    ob1 (fX4_renew G3 qv11 qv12 v4 x1) fun G15 =>
    ob1 (frf G15 r0 6 4) fun qv16 =>
    ob1 (isO G15 qv16 1) fun u17 =>
    ob2 (fX1_current G15 qv16 ) fun qv20 G19 =>
    ob1 (isO G19 qv20 2) fun u21 =>
    ob1 (fX2_clear G19 qv20 ) fun G23 =>
    ob1 (frf G23 r0 6 3) fun qv24 =>
    ob1 (fi G23 qv24 4 1) fun v25 =>
    if v25 ≤ 0 then (fX6_opens_b84 G23 r0 qv20) else
    ob1 (frf G23 r0 6 3) fun qv27 =>
    ob1 (fi G23 qv27 4 1) fun v28 =>
    ob1 (isO G23 qv20 2) fun u29 =>
    ob1 (fX2_addPiece G23 qv20 (0 : Int32) v28) fun G31 =>
    fX6_opens_b84 G31 r0 qv20) else
    some ((-100 : Int32), G3)) else
    some (((-1 : Int32) - v7), G3)
set_option maxRecDepth 100000 in
set_option maxHeartbeats 4000000 in
theorem wfX6_opens {X : zX} {out : Int32 × zH} (C : zOK X cX6_opens yX6_opens.cls 6 (some .int) 4 89) (E : zPost X (poI out.1 out.2)) (G : zH) (r0 : Nat) (x1 : Int32) (h : fX6_opens G r0 x1 = some out) : zZ X 0 [(0, .ref r0), (1, .int x1)] [] G := by
  rw [fX6_opens] at h
  refine z_aload_n (pc := 0) C 0 dX6_opens_0 rfl rfl ?_
  obtain ⟨u1, eu1, h⟩ := ob1_eq h
  obtain ⟨w2, ew2⟩ := isO_eq eu1
  obtain ⟨v4, G3, ev4, h⟩ := ob2_eq h
  refine z_callVi (h := r0) (As := []) (rest := []) (pc := 1) C dX6_opens_1 ml_X6_72 (kX6_readText _ _ _ _ G r0  (v4, G3) ev4) ew2 rfl rfl rfl (Nat.le_of_ble_eq_true rfl) (by decide) ?_
  refine z_istore_n (pc := 4) C dX6_opens_4 rfl (by decide) (show zput _ _ _ = [(2, .int v4), (0, .ref r0), (1, .int x1)] from rfl) ?_
  refine z_aload_n (pc := 5) C 1 dX6_opens_5 rfl rfl ?_
  refine z_iload_n (pc := 6) C 0 dX6_opens_6 rfl rfl ?_
  obtain ⟨u5, eu5, h⟩ := ob1_eq h
  obtain ⟨w6, ew6⟩ := isO_eq eu5
  obtain ⟨v7, ev7, h⟩ := ob1_eq h
  refine z_callVi (h := r0) (As := [.int v4]) (rest := []) (pc := 7) C dX6_opens_7 ml_X6_76 (kX6_firstThatIsNone _ _ _ _ G3 r0 v4 v7 ev7) ew6 rfl rfl rfl (Nat.le_of_ble_eq_true rfl) (by decide) ?_
  refine z_istore_n (pc := 10) C dX6_opens_10 rfl (by decide) (show zput _ _ _ = [(3, .int v7), (2, .int v4), (0, .ref r0), (1, .int x1)] from rfl) ?_
  refine z_iload_n (pc := 11) C 0 dX6_opens_11 rfl rfl ?_
  refine z_iconst (pc := 12) C dX6_opens_12 (v := (-1 : Int32)) (by decide) ?_
  refine z_ic_eq (pc := 13) C dX6_opens_13 (tgt := 20) (by decide) (fun c8 => ?_) (fun c8 => ?_)
  · rw [if_pos c8] at h
    refine z_iload_n (pc := 20) C 3 dX6_opens_20 rfl rfl ?_
    refine z_iconst (pc := 21) C dX6_opens_21 (v := (1 : Int32)) (by decide) ?_
    refine z_ic_lt (pc := 22) C dX6_opens_22 (tgt := 31) (by decide) (fun c9 => ?_) (fun c9 => ?_)
    · rw [if_pos c9] at h
      refine z_bipush (pc := 31) C dX6_opens_31 (v := (-100 : Int32)) (by decide) ?_
      obtain rfl := Option.some.inj h
      exact z_iret (pc := 33) C E dX6_opens_33 ⟨rfl, rfl⟩
    · rw [if_neg c9] at h
      refine z_iload_n (pc := 25) C 3 dX6_opens_25 rfl rfl ?_
      refine z_bipush (pc := 26) C dX6_opens_26 (v := (20 : Int32)) (by decide) ?_
      refine z_ic_le (pc := 28) C dX6_opens_28 (tgt := 34) (by decide) (fun c10 => ?_) (fun c10 => ?_)
      · rw [if_pos c10] at h
        refine z_aload_n (pc := 34) C 2 dX6_opens_34 rfl rfl ?_
        obtain ⟨qv11, eqv11, h⟩ := ob1_eq h
        refine z_fr (pc := 35) C dX6_opens_35 fl_X6_23 eqv11 ?_
        refine z_aload_n (pc := 38) C 2 dX6_opens_38 rfl rfl ?_
        obtain ⟨qv12, eqv12, h⟩ := ob1_eq h
        refine z_fr (pc := 39) C dX6_opens_39 fl_X6_9 eqv12 ?_
        refine z_iload_n (pc := 42) C 1 dX6_opens_42 rfl rfl ?_
        refine z_iload_n (pc := 43) C 3 dX6_opens_43 rfl rfl ?_
        obtain ⟨u13, eu13, h⟩ := ob1_eq h
        obtain ⟨w14, ew14⟩ := isO_eq eu13
        obtain ⟨G15, eG15, h⟩ := ob1_eq h
        refine z_callVv (h := qv11) (As := [.ref qv12, .int v4, .int x1]) (rest := []) (pc := 44) C dX6_opens_44 ml_X6_80 (kX4_renew _ _ _ _ G3 qv11 qv12 v4 x1 G15 eG15) ew14 rfl rfl rfl (Nat.le_of_ble_eq_true rfl) (by decide) ?_
        refine z_aload_n (pc := 47) C 2 dX6_opens_47 rfl rfl ?_
        obtain ⟨qv16, eqv16, h⟩ := ob1_eq h
        refine z_fr (pc := 48) C dX6_opens_48 fl_X6_30 eqv16 ?_
        obtain ⟨u17, eu17, h⟩ := ob1_eq h
        obtain ⟨w18, ew18⟩ := isO_eq eu17
        obtain ⟨qv20, G19, eqv20, h⟩ := ob2_eq h
        refine z_callVr (h := qv16) (As := []) (rest := []) (pc := 51) C dX6_opens_51 ml_X6_84 (kX1_current _ _ _ _ G15 qv16  (qv20, G19) eqv20) ew18 rfl rfl rfl (Nat.le_of_ble_eq_true rfl) (by decide) ?_
        refine z_astore (pc := 54) C dX6_opens_54 (by decide) (show zput _ _ _ = [(4, .ref qv20), (3, .int v7), (2, .int v4), (0, .ref r0), (1, .int x1)] from rfl) ?_
        refine z_aload (pc := 56) C 0 dX6_opens_56 rfl ?_
        obtain ⟨u21, eu21, h⟩ := ob1_eq h
        obtain ⟨w22, ew22⟩ := isO_eq eu21
        obtain ⟨G23, eG23, h⟩ := ob1_eq h
        refine z_callVv (h := qv20) (As := []) (rest := []) (pc := 58) C dX6_opens_58 ml_X6_88 (kX2_clear _ _ _ _ G19 qv20  G23 eG23) ew22 rfl rfl rfl (Nat.le_of_ble_eq_true rfl) (by decide) ?_
        refine z_aload_n (pc := 61) C 3 dX6_opens_61 rfl rfl ?_
        obtain ⟨qv24, eqv24, h⟩ := ob1_eq h
        refine z_fr (pc := 62) C dX6_opens_62 fl_X6_23 eqv24 ?_
        obtain ⟨v25, ev25, h⟩ := ob1_eq h
        refine z_fi (pc := 65) C dX6_opens_65 fl_X6_91 ev25 ?_
        refine z_if_le (pc := 68) C dX6_opens_68 (tgt := 84) (by decide) (fun c26 => ?_) (fun c26 => ?_)
        · rw [if_pos c26] at h
          exact z_subL [3, 0] (wfX6_opens_b84 C E G23 r0 qv20 h) rfl
        · rw [if_neg c26] at h
          refine z_aload (pc := 71) C 0 dX6_opens_71 rfl ?_
          refine z_iconst (pc := 73) C dX6_opens_73 (v := (0 : Int32)) (by decide) ?_
          refine z_aload_n (pc := 74) C 3 dX6_opens_74 rfl rfl ?_
          obtain ⟨qv27, eqv27, h⟩ := ob1_eq h
          refine z_fr (pc := 75) C dX6_opens_75 fl_X6_23 eqv27 ?_
          obtain ⟨v28, ev28, h⟩ := ob1_eq h
          refine z_fi (pc := 78) C dX6_opens_78 fl_X6_91 ev28 ?_
          obtain ⟨u29, eu29, h⟩ := ob1_eq h
          obtain ⟨w30, ew30⟩ := isO_eq eu29
          obtain ⟨G31, eG31, h⟩ := ob1_eq h
          refine z_callVv (h := qv20) (As := [.int (0 : Int32), .int v28]) (rest := []) (pc := 81) C dX6_opens_81 ml_X6_94 (kX2_addPiece _ _ _ _ G23 qv20 (0 : Int32) v28 G31 eG31) ew30 rfl rfl rfl (Nat.le_of_ble_eq_true rfl) (by decide) ?_
          exact z_subL [3, 0] (wfX6_opens_b84 C E G31 r0 qv20 h) rfl
      · rw [if_neg c10] at h
        refine z_bipush (pc := 31) C dX6_opens_31 (v := (-100 : Int32)) (by decide) ?_
        obtain rfl := Option.some.inj h
        exact z_iret (pc := 33) C E dX6_opens_33 ⟨rfl, rfl⟩
  · rw [if_neg c8] at h
    refine z_iconst (pc := 16) C dX6_opens_16 (v := (-1 : Int32)) (by decide) ?_
    refine z_iload_n (pc := 17) C 0 dX6_opens_17 rfl rfl ?_
    refine z_isub (pc := 18) C dX6_opens_18 ?_
    obtain rfl := Option.some.inj h
    exact z_iret (pc := 19) C E dX6_opens_19 ⟨rfl, rfl⟩
theorem kX6_opens (l : Launch) (D : va_G) (cA : Nat → ClassId) (b : Nat) (G : zH) (r0 : Nat) (x1 : Int32) (out : Int32 × zH) (h : fX6_opens G r0 x1 = some out) : zM l D cA b yX6_opens cX6_opens 6 (some .int) 4 89 [.ref r0, .int x1] G (poI out.1 out.2) := z_entry rfl (Nat.le_of_ble_eq_true rfl) (fun X C E _ _ _ => wfX6_opens C E G r0 x1 h)
def fX6_store_b18 (G : zH) : Option (Int32 × zH) :=
    none
set_option maxRecDepth 100000 in
set_option maxHeartbeats 4000000 in
theorem wfX6_store_b18 {X : zX} {out : Int32 × zH} (C : zOK X cX6_store yX6_store.cls 3 (some .int) 4 85) (E : zPost X (poI out.1 out.2)) (G : zH) (h : fX6_store_b18 G = some out) : zZ X 18 [] [] G := by
  rw [fX6_store_b18] at h
  cases h
def fX6_store (G : zH) (r0 : Nat) (x1 : Int32) (x2 : Int32) : Option (Int32 × zH) :=
    if x1 < 0 then (fX6_store_b18 G) else
    if (1 : Int32) < x1 then (fX6_store_b18 G) else
    if x2 < 0 then (fX6_store_b18 G) else
    if x2 ≤ (2 : Int32) then (if x2 = 0 then (ob1 (frf G r0 6 3) fun qv24 =>
    ob1 (isO G qv24 4) fun u25 =>
    ob1 (fX4_sizeOf G qv24 x1) fun v27 =>
    some (v27, G)) else
    if x2 = (1 : Int32) then (ob1 (frf G r0 6 3) fun qv15 =>
    ob1 (fX6_baseOf x1) fun v16 =>
    ob1 (frf G r0 6 3) fun qv17 =>
    ob1 (isO G qv17 4) fun u18 =>
    ob1 (fX4_sizeOf G qv17 x1) fun v20 =>
    ob1 (isO G qv15 4) fun u21 =>
    ob1 (fX4_breaksIn G qv15 v16 v20) fun v23 =>
    some (v23, G)) else
    ob1 (frf G r0 6 4) fun qv7 =>
    ob1 (isO G qv7 1) fun u8 =>
    ob2 (fX1_current G qv7 ) fun qv11 G10 =>
    ob1 (isO G10 qv11 2) fun u12 =>
    ob1 (fX2_piecesOf G10 qv11 x1) fun v14 =>
    some (v14, G10)) else
    fX6_store_b18 G
set_option maxRecDepth 100000 in
set_option maxHeartbeats 4000000 in
theorem wfX6_store {X : zX} {out : Int32 × zH} (C : zOK X cX6_store yX6_store.cls 3 (some .int) 4 85) (E : zPost X (poI out.1 out.2)) (G : zH) (r0 : Nat) (x1 : Int32) (x2 : Int32) (h : fX6_store G r0 x1 x2 = some out) : zZ X 0 [(0, .ref r0), (1, .int x1), (2, .int x2)] [] G := by
  rw [fX6_store] at h
  refine z_iload_n (pc := 0) C 1 dX6_store_0 rfl rfl ?_
  refine z_if_lt (pc := 1) C dX6_store_1 (tgt := 18) (by decide) (fun c1 => ?_) (fun c1 => ?_)
  · rw [if_pos c1] at h
    exact z_subL [] (wfX6_store_b18 C E G h) rfl
  · rw [if_neg c1] at h
    refine z_iload_n (pc := 4) C 1 dX6_store_4 rfl rfl ?_
    refine z_iconst (pc := 5) C dX6_store_5 (v := (1 : Int32)) (by decide) ?_
    refine z_ic_gt (pc := 6) C dX6_store_6 (tgt := 18) (by decide) (fun c2 => ?_) (fun c2 => ?_)
    · rw [if_pos c2] at h
      exact z_subL [] (wfX6_store_b18 C E G h) rfl
    · rw [if_neg c2] at h
      refine z_iload_n (pc := 9) C 2 dX6_store_9 rfl rfl ?_
      refine z_if_lt (pc := 10) C dX6_store_10 (tgt := 18) (by decide) (fun c3 => ?_) (fun c3 => ?_)
      · rw [if_pos c3] at h
        exact z_subL [] (wfX6_store_b18 C E G h) rfl
      · rw [if_neg c3] at h
        refine z_iload_n (pc := 13) C 2 dX6_store_13 rfl rfl ?_
        refine z_iconst (pc := 14) C dX6_store_14 (v := (2 : Int32)) (by decide) ?_
        refine z_ic_le (pc := 15) C dX6_store_15 (tgt := 28) (by decide) (fun c4 => ?_) (fun c4 => ?_)
        · rw [if_pos c4] at h
          refine z_iload_n (pc := 28) C 2 dX6_store_28 rfl rfl ?_
          refine z_if_ne (pc := 29) C dX6_store_29 (tgt := 41) (by decide) (fun c5 => ?_) (fun c5 => ?_)
          · rw [if_neg c5] at h
            refine z_iload_n (pc := 41) C 2 dX6_store_41 rfl rfl ?_
            refine z_iconst (pc := 42) C dX6_store_42 (v := (1 : Int32)) (by decide) ?_
            refine z_ic_ne (pc := 43) C dX6_store_43 (tgt := 66) (by decide) (fun c6 => ?_) (fun c6 => ?_)
            · rw [if_neg c6] at h
              refine z_aload_n (pc := 66) C 0 dX6_store_66 rfl rfl ?_
              obtain ⟨qv7, eqv7, h⟩ := ob1_eq h
              refine z_fr (pc := 67) C dX6_store_67 fl_X6_30 eqv7 ?_
              obtain ⟨u8, eu8, h⟩ := ob1_eq h
              obtain ⟨w9, ew9⟩ := isO_eq eu8
              obtain ⟨qv11, G10, eqv11, h⟩ := ob2_eq h
              refine z_callVr (h := qv7) (As := []) (rest := []) (pc := 70) C dX6_store_70 ml_X6_84 (kX1_current _ _ _ _ G qv7  (qv11, G10) eqv11) ew9 rfl rfl rfl (Nat.le_of_ble_eq_true rfl) (by decide) ?_
              refine z_iload_n (pc := 73) C 1 dX6_store_73 rfl rfl ?_
              obtain ⟨u12, eu12, h⟩ := ob1_eq h
              obtain ⟨w13, ew13⟩ := isO_eq eu12
              obtain ⟨v14, ev14, h⟩ := ob1_eq h
              refine z_callVi (h := qv11) (As := [.int x1]) (rest := []) (pc := 74) C dX6_store_74 ml_X6_124 (kX2_piecesOf _ _ _ _ G10 qv11 x1 v14 ev14) ew13 rfl rfl rfl (Nat.le_of_ble_eq_true rfl) (by decide) ?_
              obtain rfl := Option.some.inj h
              exact z_iret (pc := 77) C E dX6_store_77 ⟨rfl, rfl⟩
            · rw [if_pos c6] at h
              refine z_aload_n (pc := 46) C 0 dX6_store_46 rfl rfl ?_
              obtain ⟨qv15, eqv15, h⟩ := ob1_eq h
              refine z_fr (pc := 47) C dX6_store_47 fl_X6_23 eqv15 ?_
              refine z_iload_n (pc := 50) C 1 dX6_store_50 rfl rfl ?_
              obtain ⟨v16, ev16, h⟩ := ob1_eq h
              refine z_callSi (As := [.int x1]) (rest := [.ref qv15]) (pc := 51) C dX6_store_51 ml_X6_117 (kX6_baseOf _ _ _ _ G x1 _ ev16) rfl rfl (Nat.le_of_ble_eq_true rfl) (by decide) ?_
              refine z_aload_n (pc := 54) C 0 dX6_store_54 rfl rfl ?_
              obtain ⟨qv17, eqv17, h⟩ := ob1_eq h
              refine z_fr (pc := 55) C dX6_store_55 fl_X6_23 eqv17 ?_
              refine z_iload_n (pc := 58) C 1 dX6_store_58 rfl rfl ?_
              obtain ⟨u18, eu18, h⟩ := ob1_eq h
              obtain ⟨w19, ew19⟩ := isO_eq eu18
              obtain ⟨v20, ev20, h⟩ := ob1_eq h
              refine z_callVi (h := qv17) (As := [.int x1]) (rest := [.int v16, .ref qv15]) (pc := 59) C dX6_store_59 ml_X6_114 (kX4_sizeOf _ _ _ _ G qv17 x1 v20 ev20) ew19 rfl rfl rfl (Nat.le_of_ble_eq_true rfl) (by decide) ?_
              obtain ⟨u21, eu21, h⟩ := ob1_eq h
              obtain ⟨w22, ew22⟩ := isO_eq eu21
              obtain ⟨v23, ev23, h⟩ := ob1_eq h
              refine z_callVi (h := qv15) (As := [.int v16, .int v20]) (rest := []) (pc := 62) C dX6_store_62 ml_X6_120 (kX4_breaksIn _ _ _ _ G qv15 v16 v20 v23 ev23) ew22 rfl rfl rfl (Nat.le_of_ble_eq_true rfl) (by decide) ?_
              obtain rfl := Option.some.inj h
              exact z_iret (pc := 65) C E dX6_store_65 ⟨rfl, rfl⟩
          · rw [if_pos c5] at h
            refine z_aload_n (pc := 32) C 0 dX6_store_32 rfl rfl ?_
            obtain ⟨qv24, eqv24, h⟩ := ob1_eq h
            refine z_fr (pc := 33) C dX6_store_33 fl_X6_23 eqv24 ?_
            refine z_iload_n (pc := 36) C 1 dX6_store_36 rfl rfl ?_
            obtain ⟨u25, eu25, h⟩ := ob1_eq h
            obtain ⟨w26, ew26⟩ := isO_eq eu25
            obtain ⟨v27, ev27, h⟩ := ob1_eq h
            refine z_callVi (h := qv24) (As := [.int x1]) (rest := []) (pc := 37) C dX6_store_37 ml_X6_114 (kX4_sizeOf _ _ _ _ G qv24 x1 v27 ev27) ew26 rfl rfl rfl (Nat.le_of_ble_eq_true rfl) (by decide) ?_
            obtain rfl := Option.some.inj h
            exact z_iret (pc := 40) C E dX6_store_40 ⟨rfl, rfl⟩
        · rw [if_neg c4] at h
          exact z_subL [] (wfX6_store_b18 C E G h) rfl
theorem kX6_store (l : Launch) (D : va_G) (cA : Nat → ClassId) (b : Nat) (G : zH) (r0 : Nat) (x1 : Int32) (x2 : Int32) (out : Int32 × zH) (h : fX6_store G r0 x1 x2 = some out) : zM l D cA b yX6_store cX6_store 3 (some .int) 4 85 [.ref r0, .int x1, .int x2] G (poI out.1 out.2) := z_entry rfl (Nat.le_of_ble_eq_true rfl) (fun X C E _ _ _ => wfX6_store C E G r0 x1 x2 h)
def fX6_hasSigns (G : zH) (r0 : Nat) (x1 : Int32) (x2 : Int32) : Option (Int32 × zH) :=
    if x1 < 0 then (some ((0 : Int32), G)) else
    if x2 < 0 then (some ((0 : Int32), G)) else
    ob1 (frf G r0 6 4) fun qv3 =>
    ob1 (isO G qv3 1) fun u4 =>
    ob2 (fX1_current G qv3 ) fun qv7 G6 =>
    ob1 (fi G6 qv7 2 3) fun v8 =>
    if (v8 - x2) < x1 then (some ((0 : Int32), G6)) else
    some ((1 : Int32), G6)
set_option maxRecDepth 100000 in
set_option maxHeartbeats 4000000 in
theorem wfX6_hasSigns {X : zX} {out : Int32 × zH} (C : zOK X cX6_hasSigns yX6_hasSigns.cls 3 (some .boolean) 4 85) (E : zPost X (poI out.1 out.2)) (G : zH) (r0 : Nat) (x1 : Int32) (x2 : Int32) (h : fX6_hasSigns G r0 x1 x2 = some out) : zZ X 0 [(0, .ref r0), (1, .int x1), (2, .int x2)] [] G := by
  rw [fX6_hasSigns] at h
  refine z_iload_n (pc := 0) C 1 dX6_hasSigns_0 rfl rfl ?_
  refine z_if_lt (pc := 1) C dX6_hasSigns_1 (tgt := 28) (by decide) (fun c1 => ?_) (fun c1 => ?_)
  · rw [if_pos c1] at h
    refine z_iconst (pc := 28) C dX6_hasSigns_28 (v := (0 : Int32)) (by decide) ?_
    obtain rfl := Option.some.inj h
    exact z_zret (pc := 29) C E dX6_hasSigns_29 rfl ⟨rfl, rfl⟩
  · rw [if_neg c1] at h
    refine z_iload_n (pc := 4) C 2 dX6_hasSigns_4 rfl rfl ?_
    refine z_if_lt (pc := 5) C dX6_hasSigns_5 (tgt := 28) (by decide) (fun c2 => ?_) (fun c2 => ?_)
    · rw [if_pos c2] at h
      refine z_iconst (pc := 28) C dX6_hasSigns_28 (v := (0 : Int32)) (by decide) ?_
      obtain rfl := Option.some.inj h
      exact z_zret (pc := 29) C E dX6_hasSigns_29 rfl ⟨rfl, rfl⟩
    · rw [if_neg c2] at h
      refine z_iload_n (pc := 8) C 1 dX6_hasSigns_8 rfl rfl ?_
      refine z_aload_n (pc := 9) C 0 dX6_hasSigns_9 rfl rfl ?_
      obtain ⟨qv3, eqv3, h⟩ := ob1_eq h
      refine z_fr (pc := 10) C dX6_hasSigns_10 fl_X6_30 eqv3 ?_
      obtain ⟨u4, eu4, h⟩ := ob1_eq h
      obtain ⟨w5, ew5⟩ := isO_eq eu4
      obtain ⟨qv7, G6, eqv7, h⟩ := ob2_eq h
      refine z_callVr (h := qv3) (As := []) (rest := [.int x1]) (pc := 13) C dX6_hasSigns_13 ml_X6_84 (kX1_current _ _ _ _ G qv3  (qv7, G6) eqv7) ew5 rfl rfl rfl (Nat.le_of_ble_eq_true rfl) (by decide) ?_
      obtain ⟨v8, ev8, h⟩ := ob1_eq h
      refine z_fi (pc := 16) C dX6_hasSigns_16 fl_X6_104 ev8 ?_
      refine z_iload_n (pc := 19) C 2 dX6_hasSigns_19 rfl rfl ?_
      refine z_isub (pc := 20) C dX6_hasSigns_20 ?_
      refine z_ic_gt (pc := 21) C dX6_hasSigns_21 (tgt := 28) (by decide) (fun c9 => ?_) (fun c9 => ?_)
      · rw [if_pos c9] at h
        refine z_iconst (pc := 28) C dX6_hasSigns_28 (v := (0 : Int32)) (by decide) ?_
        obtain rfl := Option.some.inj h
        exact z_zret (pc := 29) C E dX6_hasSigns_29 rfl ⟨rfl, rfl⟩
      · rw [if_neg c9] at h
        refine z_iconst (pc := 24) C dX6_hasSigns_24 (v := (1 : Int32)) (by decide) ?_
        refine z_goto (pc := 25) C dX6_hasSigns_25 (tgt := 29) (by decide) ?_
        obtain rfl := Option.some.inj h
        exact z_zret (pc := 29) C E dX6_hasSigns_29 rfl ⟨rfl, rfl⟩
theorem kX6_hasSigns (l : Launch) (D : va_G) (cA : Nat → ClassId) (b : Nat) (G : zH) (r0 : Nat) (x1 : Int32) (x2 : Int32) (out : Int32 × zH) (h : fX6_hasSigns G r0 x1 x2 = some out) : zM l D cA b yX6_hasSigns cX6_hasSigns 3 (some .boolean) 4 85 [.ref r0, .int x1, .int x2] G (poI out.1 out.2) := z_entry rfl (Nat.le_of_ble_eq_true rfl) (fun X C E _ _ _ => wfX6_hasSigns C E G r0 x1 x2 h)
def fX6_beginEdit (G : zH) (r0 : Nat) : Option (Nat × zH) :=
    ob1 (isO G r0 6) fun u1 =>
    ob1 (fX6_bookIsOther G r0 ) fun G3 =>
    ob1 (frf G3 r0 6 4) fun qv4 =>
    ob1 (isO G3 qv4 1) fun u5 =>
    ob2 (fX1_beginEdit G3 qv4 ) fun qv8 G7 =>
    some (qv8, G7)
set_option maxRecDepth 100000 in
set_option maxHeartbeats 4000000 in
theorem wfX6_beginEdit {X : zX} {out : Nat × zH} (C : zOK X cX6_beginEdit yX6_beginEdit.cls 1 (some (.object "PieceBook$Leaf")) 5 111) (E : zPost X (poR out.1 out.2)) (G : zH) (r0 : Nat) (h : fX6_beginEdit G r0 = some out) : zZ X 0 [(0, .ref r0)] [] G := by
  rw [fX6_beginEdit] at h
  refine z_aload_n (pc := 0) C 0 dX6_beginEdit_0 rfl rfl ?_
  obtain ⟨u1, eu1, h⟩ := ob1_eq h
  obtain ⟨w2, ew2⟩ := isO_eq eu1
  obtain ⟨G3, eG3, h⟩ := ob1_eq h
  refine z_callVv (h := r0) (As := []) (rest := []) (pc := 1) C dX6_beginEdit_1 ml_X6_101 (kX6_bookIsOther _ _ _ _ G r0  G3 eG3) ew2 rfl rfl rfl (Nat.le_of_ble_eq_true rfl) (by decide) ?_
  refine z_aload_n (pc := 4) C 0 dX6_beginEdit_4 rfl rfl ?_
  obtain ⟨qv4, eqv4, h⟩ := ob1_eq h
  refine z_fr (pc := 5) C dX6_beginEdit_5 fl_X6_30 eqv4 ?_
  obtain ⟨u5, eu5, h⟩ := ob1_eq h
  obtain ⟨w6, ew6⟩ := isO_eq eu5
  obtain ⟨qv8, G7, eqv8, h⟩ := ob2_eq h
  refine z_callVr (h := qv4) (As := []) (rest := []) (pc := 8) C dX6_beginEdit_8 ml_X6_350 (kX1_beginEdit _ _ _ _ G3 qv4  (qv8, G7) eqv8) ew6 rfl rfl rfl (Nat.le_of_ble_eq_true rfl) (by decide) ?_
  obtain rfl := Option.some.inj h
  exact z_aret (pc := 11) C E dX6_beginEdit_11 (Or.inl ⟨_, rfl⟩) ⟨rfl, rfl⟩
theorem kX6_beginEdit (l : Launch) (D : va_G) (cA : Nat → ClassId) (b : Nat) (G : zH) (r0 : Nat) (out : Nat × zH) (h : fX6_beginEdit G r0 = some out) : zM l D cA b yX6_beginEdit cX6_beginEdit 1 (some (.object "PieceBook$Leaf")) 5 111 [.ref r0] G (poR out.1 out.2) := z_entry rfl (Nat.le_of_ble_eq_true rfl) (fun X C E _ _ _ => wfX6_beginEdit C E G r0 h)
def fX6_putInPlace_b115 (G : zH) (r5 : Nat) : Option (Int32 × zH) :=
    ob1 (fi G r5 2 3) fun v1 =>
    some (v1, G)
set_option maxRecDepth 100000 in
set_option maxHeartbeats 4000000 in
theorem wfX6_putInPlace_b115 {X : zX} {out : Int32 × zH} (C : zOK X cX6_putInPlace yX6_putInPlace.cls 6 (some .int) 6 137) (E : zPost X (poI out.1 out.2)) (G : zH) (r5 : Nat) (h : fX6_putInPlace_b115 G r5 = some out) : zZ X 115 [(5, .ref r5)] [] G := by
  rw [fX6_putInPlace_b115] at h
  refine z_aload (pc := 115) C 0 dX6_putInPlace_115 rfl ?_
  obtain ⟨v1, ev1, h⟩ := ob1_eq h
  refine z_fi (pc := 117) C dX6_putInPlace_117 fl_X6_104 ev1 ?_
  obtain rfl := Option.some.inj h
  exact z_iret (pc := 120) C E dX6_putInPlace_120 ⟨rfl, rfl⟩
def fX6_putInPlace_b85 (G : zH) (r0 : Nat) (x1 : Int32) (x3 : Int32) (r5 : Nat) : Option (Int32 × zH) :=
    if x3 ≤ 0 then (fX6_putInPlace_b115 G r5) else
    ob1 (frf G r0 6 3) fun qv2 =>
    ob1 (isO G qv2 4) fun u3 =>
    ob1 (fX4_addedEnd G qv2 ) fun v5 =>
    ob1 (isO G r5 2) fun u6 =>
    ob1 (fX2_insert G r5 x1 v5 x3) fun G8 =>
    ob1 (frf G8 r0 6 3) fun qv9 =>
    ob1 (frf G8 r0 6 0) fun qv10 =>
    ob1 (isO G8 qv9 4) fun u11 =>
    ob1 (fX4_addText G8 qv9 qv10 x3) fun G13 =>
    fX6_putInPlace_b115 G13 r5
set_option maxRecDepth 100000 in
set_option maxHeartbeats 4000000 in
theorem wfX6_putInPlace_b85 {X : zX} {out : Int32 × zH} (C : zOK X cX6_putInPlace yX6_putInPlace.cls 6 (some .int) 6 137) (E : zPost X (poI out.1 out.2)) (G : zH) (r0 : Nat) (x1 : Int32) (x3 : Int32) (r5 : Nat) (h : fX6_putInPlace_b85 G r0 x1 x3 r5 = some out) : zZ X 85 [(0, .ref r0), (1, .int x1), (3, .int x3), (5, .ref r5)] [] G := by
  rw [fX6_putInPlace_b85] at h
  refine z_iload_n (pc := 85) C 2 dX6_putInPlace_85 rfl rfl ?_
  refine z_if_le (pc := 86) C dX6_putInPlace_86 (tgt := 115) (by decide) (fun c1 => ?_) (fun c1 => ?_)
  · rw [if_pos c1] at h
    exact z_subL [3] (wfX6_putInPlace_b115 C E G r5 h) rfl
  · rw [if_neg c1] at h
    refine z_aload (pc := 89) C 3 dX6_putInPlace_89 rfl ?_
    refine z_iload_n (pc := 91) C 1 dX6_putInPlace_91 rfl rfl ?_
    refine z_aload_n (pc := 92) C 0 dX6_putInPlace_92 rfl rfl ?_
    obtain ⟨qv2, eqv2, h⟩ := ob1_eq h
    refine z_fr (pc := 93) C dX6_putInPlace_93 fl_X6_23 eqv2 ?_
    obtain ⟨u3, eu3, h⟩ := ob1_eq h
    obtain ⟨w4, ew4⟩ := isO_eq eu3
    obtain ⟨v5, ev5, h⟩ := ob1_eq h
    refine z_callVi (h := qv2) (As := []) (rest := [.int x1, .ref r5]) (pc := 96) C dX6_putInPlace_96 ml_X6_141 (kX4_addedEnd _ _ _ _ G qv2  v5 ev5) ew4 rfl rfl rfl (Nat.le_of_ble_eq_true rfl) (by decide) ?_
    refine z_iload_n (pc := 99) C 2 dX6_putInPlace_99 rfl rfl ?_
    obtain ⟨u6, eu6, h⟩ := ob1_eq h
    obtain ⟨w7, ew7⟩ := isO_eq eu6
    obtain ⟨G8, eG8, h⟩ := ob1_eq h
    refine z_callVv (h := r5) (As := [.int x1, .int v5, .int x3]) (rest := []) (pc := 100) C dX6_putInPlace_100 ml_X6_144 (kX2_insert _ _ _ _ G r5 x1 v5 x3 G8 eG8) ew7 rfl rfl rfl (Nat.le_of_ble_eq_true rfl) (by decide) ?_
    refine z_aload_n (pc := 103) C 0 dX6_putInPlace_103 rfl rfl ?_
    obtain ⟨qv9, eqv9, h⟩ := ob1_eq h
    refine z_fr (pc := 104) C dX6_putInPlace_104 fl_X6_23 eqv9 ?_
    refine z_aload_n (pc := 107) C 0 dX6_putInPlace_107 rfl rfl ?_
    obtain ⟨qv10, eqv10, h⟩ := ob1_eq h
    refine z_fr (pc := 108) C dX6_putInPlace_108 fl_X6_9 eqv10 ?_
    refine z_iload_n (pc := 111) C 2 dX6_putInPlace_111 rfl rfl ?_
    obtain ⟨u11, eu11, h⟩ := ob1_eq h
    obtain ⟨w12, ew12⟩ := isO_eq eu11
    obtain ⟨G13, eG13, h⟩ := ob1_eq h
    refine z_callVv (h := qv9) (As := [.ref qv10, .int x3]) (rest := []) (pc := 112) C dX6_putInPlace_112 ml_X6_351 (kX4_addText _ _ _ _ G8 qv9 qv10 x3 G13 eG13) ew12 rfl rfl rfl (Nat.le_of_ble_eq_true rfl) (by decide) ?_
    exact z_subL [3] (wfX6_putInPlace_b115 C E G13 r5 h) rfl
def fX6_putInPlace_b68 (G : zH) (r0 : Nat) (x1 : Int32) (x2 : Int32) (x3 : Int32) : Option (Int32 × zH) :=
    ob1 (isO G r0 6) fun u1 =>
    ob2 (fX6_beginEdit G r0 ) fun qv4 G3 =>
    if x2 ≤ 0 then (fX6_putInPlace_b85 G3 r0 x1 x3 qv4) else
    ob1 (isO G3 qv4 2) fun u6 =>
    ob1 (fX2_take G3 qv4 x1 x2) fun G8 =>
    fX6_putInPlace_b85 G8 r0 x1 x3 qv4
set_option maxRecDepth 100000 in
set_option maxHeartbeats 4000000 in
theorem wfX6_putInPlace_b68 {X : zX} {out : Int32 × zH} (C : zOK X cX6_putInPlace yX6_putInPlace.cls 6 (some .int) 6 137) (E : zPost X (poI out.1 out.2)) (G : zH) (r0 : Nat) (x1 : Int32) (x2 : Int32) (x3 : Int32) (h : fX6_putInPlace_b68 G r0 x1 x2 x3 = some out) : zZ X 68 [(0, .ref r0), (1, .int x1), (2, .int x2), (3, .int x3)] [] G := by
  rw [fX6_putInPlace_b68] at h
  refine z_aload_n (pc := 68) C 0 dX6_putInPlace_68 rfl rfl ?_
  obtain ⟨u1, eu1, h⟩ := ob1_eq h
  obtain ⟨w2, ew2⟩ := isO_eq eu1
  obtain ⟨qv4, G3, eqv4, h⟩ := ob2_eq h
  refine z_callVr (h := r0) (As := []) (rest := []) (pc := 69) C dX6_putInPlace_69 ml_X6_138 (kX6_beginEdit _ _ _ _ G r0  (qv4, G3) eqv4) ew2 rfl rfl rfl (Nat.le_of_ble_eq_true rfl) (by decide) ?_
  refine z_astore (pc := 72) C dX6_putInPlace_72 (by decide) (show zput _ _ _ = [(5, .ref qv4), (0, .ref r0), (1, .int x1), (2, .int x2), (3, .int x3)] from rfl) ?_
  refine z_iload_n (pc := 74) C 3 dX6_putInPlace_74 rfl rfl ?_
  refine z_if_le (pc := 75) C dX6_putInPlace_75 (tgt := 85) (by decide) (fun c5 => ?_) (fun c5 => ?_)
  · rw [if_pos c5] at h
    exact z_subL [1, 2, 4, 0] (wfX6_putInPlace_b85 C E G3 r0 x1 x3 qv4 h) rfl
  · rw [if_neg c5] at h
    refine z_aload (pc := 78) C 0 dX6_putInPlace_78 rfl ?_
    refine z_iload_n (pc := 80) C 2 dX6_putInPlace_80 rfl rfl ?_
    refine z_iload_n (pc := 81) C 3 dX6_putInPlace_81 rfl rfl ?_
    obtain ⟨u6, eu6, h⟩ := ob1_eq h
    obtain ⟨w7, ew7⟩ := isO_eq eu6
    obtain ⟨G8, eG8, h⟩ := ob1_eq h
    refine z_callVv (h := qv4) (As := [.int x1, .int x2]) (rest := []) (pc := 82) C dX6_putInPlace_82 ml_X6_165 (kX2_take _ _ _ _ G3 qv4 x1 x2 G8 eG8) ew7 rfl rfl rfl (Nat.le_of_ble_eq_true rfl) (by decide) ?_
    exact z_subL [1, 2, 4, 0] (wfX6_putInPlace_b85 C E G8 r0 x1 x3 qv4 h) rfl
def fX6_putInPlace (G : zH) (r0 : Nat) (x1 : Int32) (x2 : Int32) (x3 : Int32) : Option (Int32 × zH) :=
    ob1 (isO G r0 6) fun u1 =>
    ob2 (fX6_hasSigns G r0 x1 x2) fun v4 G3 =>
    if v4 = 0 then (some ((-100 : Int32), G3)) else
    ob1 (frf G3 r0 6 4) fun qv6 =>
    ob1 (isO G3 qv6 1) fun u7 =>
    ob2 (fX1_current G3 qv6 ) fun qv10 G9 =>
    ob1 (fi G9 qv10 2 3) fun v11 =>
    if ((v11 - x2) + x3) ≤ (3000 : Int32) then (ob1 (frf G9 r0 6 3) fun qv13 =>
    ob1 (fi G9 qv13 4 2) fun v14 =>
    if (v14 + x3) ≤ (6000 : Int32) then (if x2 = 0 then (if x3 = 0 then (some (v11, G9)) else
    fX6_putInPlace_b68 G9 r0 x1 x2 x3) else
    fX6_putInPlace_b68 G9 r0 x1 x2 x3) else
    some ((-102 : Int32), G9)) else
    some ((-101 : Int32), G9)
set_option maxRecDepth 100000 in
set_option maxHeartbeats 4000000 in
theorem wfX6_putInPlace {X : zX} {out : Int32 × zH} (C : zOK X cX6_putInPlace yX6_putInPlace.cls 6 (some .int) 6 137) (E : zPost X (poI out.1 out.2)) (G : zH) (r0 : Nat) (x1 : Int32) (x2 : Int32) (x3 : Int32) (h : fX6_putInPlace G r0 x1 x2 x3 = some out) : zZ X 0 [(0, .ref r0), (1, .int x1), (2, .int x2), (3, .int x3)] [] G := by
  rw [fX6_putInPlace] at h
  refine z_aload_n (pc := 0) C 0 dX6_putInPlace_0 rfl rfl ?_
  refine z_iload_n (pc := 1) C 1 dX6_putInPlace_1 rfl rfl ?_
  refine z_iload_n (pc := 2) C 2 dX6_putInPlace_2 rfl rfl ?_
  obtain ⟨u1, eu1, h⟩ := ob1_eq h
  obtain ⟨w2, ew2⟩ := isO_eq eu1
  obtain ⟨v4, G3, ev4, h⟩ := ob2_eq h
  refine z_callVi (h := r0) (As := [.int x1, .int x2]) (rest := []) (pc := 3) C dX6_putInPlace_3 ml_X6_156 (kX6_hasSigns _ _ _ _ G r0 x1 x2 (v4, G3) ev4) ew2 rfl rfl rfl (Nat.le_of_ble_eq_true rfl) (by decide) ?_
  refine z_if_ne (pc := 6) C dX6_putInPlace_6 (tgt := 12) (by decide) (fun c5 => ?_) (fun c5 => ?_)
  · rw [if_neg c5] at h
    refine z_aload_n (pc := 12) C 0 dX6_putInPlace_12 rfl rfl ?_
    obtain ⟨qv6, eqv6, h⟩ := ob1_eq h
    refine z_fr (pc := 13) C dX6_putInPlace_13 fl_X6_30 eqv6 ?_
    obtain ⟨u7, eu7, h⟩ := ob1_eq h
    obtain ⟨w8, ew8⟩ := isO_eq eu7
    obtain ⟨qv10, G9, eqv10, h⟩ := ob2_eq h
    refine z_callVr (h := qv6) (As := []) (rest := []) (pc := 16) C dX6_putInPlace_16 ml_X6_84 (kX1_current _ _ _ _ G3 qv6  (qv10, G9) eqv10) ew8 rfl rfl rfl (Nat.le_of_ble_eq_true rfl) (by decide) ?_
    obtain ⟨v11, ev11, h⟩ := ob1_eq h
    refine z_fi (pc := 19) C dX6_putInPlace_19 fl_X6_104 ev11 ?_
    refine z_istore (pc := 22) C dX6_putInPlace_22 (by decide) (show zput _ _ _ = [(4, .int v11), (0, .ref r0), (1, .int x1), (2, .int x2), (3, .int x3)] from rfl) ?_
    refine z_iload (pc := 24) C 0 dX6_putInPlace_24 rfl ?_
    refine z_iload_n (pc := 26) C 3 dX6_putInPlace_26 rfl rfl ?_
    refine z_isub (pc := 27) C dX6_putInPlace_27 ?_
    refine z_iload_n (pc := 28) C 4 dX6_putInPlace_28 rfl rfl ?_
    refine z_iadd (pc := 29) C dX6_putInPlace_29 ?_
    refine z_sipush (pc := 30) C dX6_putInPlace_30 (v := (3000 : Int32)) (by decide) ?_
    refine z_ic_le (pc := 33) C dX6_putInPlace_33 (tgt := 39) (by decide) (fun c12 => ?_) (fun c12 => ?_)
    · rw [if_pos c12] at h
      refine z_aload_n (pc := 39) C 1 dX6_putInPlace_39 rfl rfl ?_
      obtain ⟨qv13, eqv13, h⟩ := ob1_eq h
      refine z_fr (pc := 40) C dX6_putInPlace_40 fl_X6_23 eqv13 ?_
      obtain ⟨v14, ev14, h⟩ := ob1_eq h
      refine z_fi (pc := 43) C dX6_putInPlace_43 fl_X6_135 ev14 ?_
      refine z_iload_n (pc := 46) C 4 dX6_putInPlace_46 rfl rfl ?_
      refine z_iadd (pc := 47) C dX6_putInPlace_47 ?_
      refine z_sipush (pc := 48) C dX6_putInPlace_48 (v := (6000 : Int32)) (by decide) ?_
      refine z_ic_le (pc := 51) C dX6_putInPlace_51 (tgt := 57) (by decide) (fun c15 => ?_) (fun c15 => ?_)
      · rw [if_pos c15] at h
        refine z_iload_n (pc := 57) C 3 dX6_putInPlace_57 rfl rfl ?_
        refine z_if_ne (pc := 58) C dX6_putInPlace_58 (tgt := 68) (by decide) (fun c16 => ?_) (fun c16 => ?_)
        · rw [if_neg c16] at h
          exact z_subL [1, 2, 3, 4] (wfX6_putInPlace_b68 C E G9 r0 x1 x2 x3 h) rfl
        · rw [if_pos c16] at h
          refine z_iload_n (pc := 61) C 4 dX6_putInPlace_61 rfl rfl ?_
          refine z_if_ne (pc := 62) C dX6_putInPlace_62 (tgt := 68) (by decide) (fun c17 => ?_) (fun c17 => ?_)
          · rw [if_neg c17] at h
            exact z_subL [1, 2, 3, 4] (wfX6_putInPlace_b68 C E G9 r0 x1 x2 x3 h) rfl
          · rw [if_pos c17] at h
            refine z_iload (pc := 65) C 0 dX6_putInPlace_65 rfl ?_
            obtain rfl := Option.some.inj h
            exact z_iret (pc := 67) C E dX6_putInPlace_67 ⟨rfl, rfl⟩
      · rw [if_neg c15] at h
        refine z_bipush (pc := 54) C dX6_putInPlace_54 (v := (-102 : Int32)) (by decide) ?_
        obtain rfl := Option.some.inj h
        exact z_iret (pc := 56) C E dX6_putInPlace_56 ⟨rfl, rfl⟩
    · rw [if_neg c12] at h
      refine z_bipush (pc := 36) C dX6_putInPlace_36 (v := (-101 : Int32)) (by decide) ?_
      obtain rfl := Option.some.inj h
      exact z_iret (pc := 38) C E dX6_putInPlace_38 ⟨rfl, rfl⟩
  · rw [if_pos c5] at h
    refine z_bipush (pc := 9) C dX6_putInPlace_9 (v := (-100 : Int32)) (by decide) ?_
    obtain rfl := Option.some.inj h
    exact z_iret (pc := 11) C E dX6_putInPlace_11 ⟨rfl, rfl⟩
theorem kX6_putInPlace (l : Launch) (D : va_G) (cA : Nat → ClassId) (b : Nat) (G : zH) (r0 : Nat) (x1 : Int32) (x2 : Int32) (x3 : Int32) (out : Int32 × zH) (h : fX6_putInPlace G r0 x1 x2 x3 = some out) : zM l D cA b yX6_putInPlace cX6_putInPlace 6 (some .int) 6 137 [.ref r0, .int x1, .int x2, .int x3] G (poI out.1 out.2) := z_entry rfl (Nat.le_of_ble_eq_true rfl) (fun X C E _ _ _ => wfX6_putInPlace C E G r0 x1 x2 x3 h)
def fX6_inserts (G : zH) (r0 : Nat) (x1 : Int32) : Option (Int32 × zH) :=
    ob1 (isO G r0 6) fun u1 =>
    ob2 (fX6_readText G r0 ) fun v4 G3 =>
    ob1 (isO G3 r0 6) fun u5 =>
    ob1 (fX6_firstThatIsNone G3 r0 v4) fun v7 =>
    if v7 = (-1 : Int32) then (ob1 (isO G3 r0 6) fun u9 =>
    ob2 (fX6_putInPlace G3 r0 x1 (0 : Int32) v4) fun v12 G11 =>
    some (v12, G11)) else
    some (((-1 : Int32) - v7), G3)
set_option maxRecDepth 100000 in
set_option maxHeartbeats 4000000 in
theorem wfX6_inserts {X : zX} {out : Int32 × zH} (C : zOK X cX6_inserts yX6_inserts.cls 4 (some .int) 7 162) (E : zPost X (poI out.1 out.2)) (G : zH) (r0 : Nat) (x1 : Int32) (h : fX6_inserts G r0 x1 = some out) : zZ X 0 [(0, .ref r0), (1, .int x1)] [] G := by
  rw [fX6_inserts] at h
  refine z_aload_n (pc := 0) C 0 dX6_inserts_0 rfl rfl ?_
  obtain ⟨u1, eu1, h⟩ := ob1_eq h
  obtain ⟨w2, ew2⟩ := isO_eq eu1
  obtain ⟨v4, G3, ev4, h⟩ := ob2_eq h
  refine z_callVi (h := r0) (As := []) (rest := []) (pc := 1) C dX6_inserts_1 ml_X6_72 (kX6_readText _ _ _ _ G r0  (v4, G3) ev4) ew2 rfl rfl rfl (Nat.le_of_ble_eq_true rfl) (by decide) ?_
  refine z_istore_n (pc := 4) C dX6_inserts_4 rfl (by decide) (show zput _ _ _ = [(2, .int v4), (0, .ref r0), (1, .int x1)] from rfl) ?_
  refine z_aload_n (pc := 5) C 1 dX6_inserts_5 rfl rfl ?_
  refine z_iload_n (pc := 6) C 0 dX6_inserts_6 rfl rfl ?_
  obtain ⟨u5, eu5, h⟩ := ob1_eq h
  obtain ⟨w6, ew6⟩ := isO_eq eu5
  obtain ⟨v7, ev7, h⟩ := ob1_eq h
  refine z_callVi (h := r0) (As := [.int v4]) (rest := []) (pc := 7) C dX6_inserts_7 ml_X6_76 (kX6_firstThatIsNone _ _ _ _ G3 r0 v4 v7 ev7) ew6 rfl rfl rfl (Nat.le_of_ble_eq_true rfl) (by decide) ?_
  refine z_istore_n (pc := 10) C dX6_inserts_10 rfl (by decide) (show zput _ _ _ = [(3, .int v7), (2, .int v4), (0, .ref r0), (1, .int x1)] from rfl) ?_
  refine z_iload_n (pc := 11) C 0 dX6_inserts_11 rfl rfl ?_
  refine z_iconst (pc := 12) C dX6_inserts_12 (v := (-1 : Int32)) (by decide) ?_
  refine z_ic_eq (pc := 13) C dX6_inserts_13 (tgt := 20) (by decide) (fun c8 => ?_) (fun c8 => ?_)
  · rw [if_pos c8] at h
    refine z_aload_n (pc := 20) C 2 dX6_inserts_20 rfl rfl ?_
    refine z_iload_n (pc := 21) C 3 dX6_inserts_21 rfl rfl ?_
    refine z_iconst (pc := 22) C dX6_inserts_22 (v := (0 : Int32)) (by decide) ?_
    refine z_iload_n (pc := 23) C 1 dX6_inserts_23 rfl rfl ?_
    obtain ⟨u9, eu9, h⟩ := ob1_eq h
    obtain ⟨w10, ew10⟩ := isO_eq eu9
    obtain ⟨v12, G11, ev12, h⟩ := ob2_eq h
    refine z_callVi (h := r0) (As := [.int x1, .int (0 : Int32), .int v4]) (rest := []) (pc := 24) C dX6_inserts_24 ml_X6_127 (kX6_putInPlace _ _ _ _ G3 r0 x1 (0 : Int32) v4 (v12, G11) ev12) ew10 rfl rfl rfl (Nat.le_of_ble_eq_true rfl) (by decide) ?_
    obtain rfl := Option.some.inj h
    exact z_iret (pc := 27) C E dX6_inserts_27 ⟨rfl, rfl⟩
  · rw [if_neg c8] at h
    refine z_iconst (pc := 16) C dX6_inserts_16 (v := (-1 : Int32)) (by decide) ?_
    refine z_iload_n (pc := 17) C 0 dX6_inserts_17 rfl rfl ?_
    refine z_isub (pc := 18) C dX6_inserts_18 ?_
    obtain rfl := Option.some.inj h
    exact z_iret (pc := 19) C E dX6_inserts_19 ⟨rfl, rfl⟩
theorem kX6_inserts (l : Launch) (D : va_G) (cA : Nat → ClassId) (b : Nat) (G : zH) (r0 : Nat) (x1 : Int32) (out : Int32 × zH) (h : fX6_inserts G r0 x1 = some out) : zM l D cA b yX6_inserts cX6_inserts 4 (some .int) 7 162 [.ref r0, .int x1] G (poI out.1 out.2) := z_entry rfl (Nat.le_of_ble_eq_true rfl) (fun X C E _ _ _ => wfX6_inserts C E G r0 x1 h)
def fX6_type_b74 (G : zH) (r0 : Nat) (x1 : Int32) (x2 : Int32) (r3 : Nat) : Option (Int32 × zH) :=
    ob1 (frf G r0 6 3) fun qv1 =>
    ob1 (isO G qv1 4) fun u2 =>
    ob1 (fX4_addedEnd G qv1 ) fun v4 =>
    ob1 (isO G r3 2) fun u5 =>
    ob1 (fX2_insert G r3 x1 v4 (1 : Int32)) fun G7 =>
    ob1 (frf G7 r0 6 3) fun qv8 =>
    ob1 (isO G7 qv8 4) fun u9 =>
    ob1 (fX4_add G7 qv8 x2) fun G11 =>
    ob1 (fset G11 r0 6 13 (.int (x1 + (1 : Int32)))) fun G12 =>
    ob1 (bz (1 : Int32)) fun b13 =>
    ob1 (fset G12 r0 6 10 (.int b13)) fun G14 =>
    ob1 (fi G14 r3 2 3) fun v15 =>
    some (v15, G14)
set_option maxRecDepth 100000 in
set_option maxHeartbeats 4000000 in
theorem wfX6_type_b74 {X : zX} {out : Int32 × zH} (C : zOK X cX6_type yX6_type.cls 4 (some .int) 6 131) (E : zPost X (poI out.1 out.2)) (G : zH) (r0 : Nat) (x1 : Int32) (x2 : Int32) (r3 : Nat) (h : fX6_type_b74 G r0 x1 x2 r3 = some out) : zZ X 74 [(0, .ref r0), (1, .int x1), (2, .int x2), (3, .ref r3)] [] G := by
  rw [fX6_type_b74] at h
  refine z_aload_n (pc := 74) C 3 dX6_type_74 rfl rfl ?_
  refine z_iload_n (pc := 75) C 1 dX6_type_75 rfl rfl ?_
  refine z_aload_n (pc := 76) C 0 dX6_type_76 rfl rfl ?_
  obtain ⟨qv1, eqv1, h⟩ := ob1_eq h
  refine z_fr (pc := 77) C dX6_type_77 fl_X6_23 eqv1 ?_
  obtain ⟨u2, eu2, h⟩ := ob1_eq h
  obtain ⟨w3, ew3⟩ := isO_eq eu2
  obtain ⟨v4, ev4, h⟩ := ob1_eq h
  refine z_callVi (h := qv1) (As := []) (rest := [.int x1, .ref r3]) (pc := 80) C dX6_type_80 ml_X6_141 (kX4_addedEnd _ _ _ _ G qv1  v4 ev4) ew3 rfl rfl rfl (Nat.le_of_ble_eq_true rfl) (by decide) ?_
  refine z_iconst (pc := 83) C dX6_type_83 (v := (1 : Int32)) (by decide) ?_
  obtain ⟨u5, eu5, h⟩ := ob1_eq h
  obtain ⟨w6, ew6⟩ := isO_eq eu5
  obtain ⟨G7, eG7, h⟩ := ob1_eq h
  refine z_callVv (h := r3) (As := [.int x1, .int v4, .int (1 : Int32)]) (rest := []) (pc := 84) C dX6_type_84 ml_X6_144 (kX2_insert _ _ _ _ G r3 x1 v4 (1 : Int32) G7 eG7) ew6 rfl rfl rfl (Nat.le_of_ble_eq_true rfl) (by decide) ?_
  refine z_aload_n (pc := 87) C 0 dX6_type_87 rfl rfl ?_
  obtain ⟨qv8, eqv8, h⟩ := ob1_eq h
  refine z_fr (pc := 88) C dX6_type_88 fl_X6_23 eqv8 ?_
  refine z_iload_n (pc := 91) C 2 dX6_type_91 rfl rfl ?_
  obtain ⟨u9, eu9, h⟩ := ob1_eq h
  obtain ⟨w10, ew10⟩ := isO_eq eu9
  obtain ⟨G11, eG11, h⟩ := ob1_eq h
  refine z_callVv (h := qv8) (As := [.int x2]) (rest := []) (pc := 92) C dX6_type_92 ml_X6_148 (kX4_add _ _ _ _ G7 qv8 x2 G11 eG11) ew10 rfl rfl rfl (Nat.le_of_ble_eq_true rfl) (by decide) ?_
  refine z_aload_n (pc := 95) C 0 dX6_type_95 rfl rfl ?_
  refine z_iload_n (pc := 96) C 1 dX6_type_96 rfl rfl ?_
  refine z_iconst (pc := 97) C dX6_type_97 (v := (1 : Int32)) (by decide) ?_
  refine z_iadd (pc := 98) C dX6_type_98 ?_
  obtain ⟨G12, eG12, h⟩ := ob1_eq h
  refine z_si (pc := 99) C dX6_type_99 fl_X6_65w eG12 ?_
  refine z_aload_n (pc := 102) C 0 dX6_type_102 rfl rfl ?_
  refine z_iconst (pc := 103) C dX6_type_103 (v := (1 : Int32)) (by decide) ?_
  obtain ⟨b13, eb13, h⟩ := ob1_eq h
  obtain ⟨G14, eG14, h⟩ := ob1_eq h
  refine z_sz (pc := 104) C dX6_type_104 fl_X6_152w eb13 eG14 ?_
  refine z_aload_n (pc := 107) C 3 dX6_type_107 rfl rfl ?_
  obtain ⟨v15, ev15, h⟩ := ob1_eq h
  refine z_fi (pc := 108) C dX6_type_108 fl_X6_104 ev15 ?_
  obtain rfl := Option.some.inj h
  exact z_iret (pc := 111) C E dX6_type_111 ⟨rfl, rfl⟩
def fX6_type (G : zH) (r0 : Nat) (x1 : Int32) (x2 : Int32) : Option (Int32 × zH) :=
    ob1 (fX6_isSign x2) fun v1 =>
    if v1 = 0 then (some ((-1 : Int32), G)) else
    ob1 (frf G r0 6 4) fun qv3 =>
    ob1 (isO G qv3 1) fun u4 =>
    ob2 (fX1_current G qv3 ) fun qv7 G6 =>
    if x1 < 0 then (some ((-2 : Int32), G6)) else
    ob1 (fi G6 qv7 2 3) fun v9 =>
    if x1 ≤ v9 then (ob1 (fi G6 qv7 2 3) fun v11 =>
    if v11 < (3000 : Int32) then (ob1 (frf G6 r0 6 3) fun qv13 =>
    ob1 (fi G6 qv13 4 2) fun v14 =>
    if v14 < (6000 : Int32) then (ob1 (fi G6 r0 6 13) fun v16 =>
    if x1 = v16 then (fX6_type_b74 G6 r0 x1 x2 qv7) else
    ob1 (isO G6 r0 6) fun u18 =>
    ob2 (fX6_beginEdit G6 r0 ) fun qv21 G20 =>
    fX6_type_b74 G20 r0 x1 x2 qv21) else
    some ((-4 : Int32), G6)) else
    some ((-3 : Int32), G6)) else
    some ((-2 : Int32), G6)
set_option maxRecDepth 100000 in
set_option maxHeartbeats 4000000 in
theorem wfX6_type {X : zX} {out : Int32 × zH} (C : zOK X cX6_type yX6_type.cls 4 (some .int) 6 131) (E : zPost X (poI out.1 out.2)) (G : zH) (r0 : Nat) (x1 : Int32) (x2 : Int32) (h : fX6_type G r0 x1 x2 = some out) : zZ X 0 [(0, .ref r0), (1, .int x1), (2, .int x2)] [] G := by
  rw [fX6_type] at h
  refine z_iload_n (pc := 0) C 2 dX6_type_0 rfl rfl ?_
  obtain ⟨v1, ev1, h⟩ := ob1_eq h
  refine z_callSi (As := [.int x2]) (rest := []) (pc := 1) C dX6_type_1 ml_X6_131 (kX6_isSign _ _ _ _ G x2 _ ev1) rfl rfl (Nat.le_of_ble_eq_true rfl) (by decide) ?_
  refine z_if_ne (pc := 4) C dX6_type_4 (tgt := 9) (by decide) (fun c2 => ?_) (fun c2 => ?_)
  · rw [if_neg c2] at h
    refine z_aload_n (pc := 9) C 0 dX6_type_9 rfl rfl ?_
    obtain ⟨qv3, eqv3, h⟩ := ob1_eq h
    refine z_fr (pc := 10) C dX6_type_10 fl_X6_30 eqv3 ?_
    obtain ⟨u4, eu4, h⟩ := ob1_eq h
    obtain ⟨w5, ew5⟩ := isO_eq eu4
    obtain ⟨qv7, G6, eqv7, h⟩ := ob2_eq h
    refine z_callVr (h := qv3) (As := []) (rest := []) (pc := 13) C dX6_type_13 ml_X6_84 (kX1_current _ _ _ _ G qv3  (qv7, G6) eqv7) ew5 rfl rfl rfl (Nat.le_of_ble_eq_true rfl) (by decide) ?_
    refine z_astore_n (pc := 16) C dX6_type_16 rfl (by decide) (show zput _ _ _ = [(3, .ref qv7), (0, .ref r0), (1, .int x1), (2, .int x2)] from rfl) ?_
    refine z_iload_n (pc := 17) C 2 dX6_type_17 rfl rfl ?_
    refine z_if_lt (pc := 18) C dX6_type_18 (tgt := 29) (by decide) (fun c8 => ?_) (fun c8 => ?_)
    · rw [if_pos c8] at h
      refine z_bipush (pc := 29) C dX6_type_29 (v := (-2 : Int32)) (by decide) ?_
      obtain rfl := Option.some.inj h
      exact z_iret (pc := 31) C E dX6_type_31 ⟨rfl, rfl⟩
    · rw [if_neg c8] at h
      refine z_iload_n (pc := 21) C 2 dX6_type_21 rfl rfl ?_
      refine z_aload_n (pc := 22) C 0 dX6_type_22 rfl rfl ?_
      obtain ⟨v9, ev9, h⟩ := ob1_eq h
      refine z_fi (pc := 23) C dX6_type_23 fl_X6_104 ev9 ?_
      refine z_ic_le (pc := 26) C dX6_type_26 (tgt := 32) (by decide) (fun c10 => ?_) (fun c10 => ?_)
      · rw [if_pos c10] at h
        refine z_aload_n (pc := 32) C 0 dX6_type_32 rfl rfl ?_
        obtain ⟨v11, ev11, h⟩ := ob1_eq h
        refine z_fi (pc := 33) C dX6_type_33 fl_X6_104 ev11 ?_
        refine z_sipush (pc := 36) C dX6_type_36 (v := (3000 : Int32)) (by decide) ?_
        refine z_ic_lt (pc := 39) C dX6_type_39 (tgt := 45) (by decide) (fun c12 => ?_) (fun c12 => ?_)
        · rw [if_pos c12] at h
          refine z_aload_n (pc := 45) C 1 dX6_type_45 rfl rfl ?_
          obtain ⟨qv13, eqv13, h⟩ := ob1_eq h
          refine z_fr (pc := 46) C dX6_type_46 fl_X6_23 eqv13 ?_
          obtain ⟨v14, ev14, h⟩ := ob1_eq h
          refine z_fi (pc := 49) C dX6_type_49 fl_X6_135 ev14 ?_
          refine z_sipush (pc := 52) C dX6_type_52 (v := (6000 : Int32)) (by decide) ?_
          refine z_ic_lt (pc := 55) C dX6_type_55 (tgt := 61) (by decide) (fun c15 => ?_) (fun c15 => ?_)
          · rw [if_pos c15] at h
            refine z_iload_n (pc := 61) C 2 dX6_type_61 rfl rfl ?_
            refine z_aload_n (pc := 62) C 1 dX6_type_62 rfl rfl ?_
            obtain ⟨v16, ev16, h⟩ := ob1_eq h
            refine z_fi (pc := 63) C dX6_type_63 fl_X6_65 ev16 ?_
            refine z_ic_eq (pc := 66) C dX6_type_66 (tgt := 74) (by decide) (fun c17 => ?_) (fun c17 => ?_)
            · rw [if_pos c17] at h
              exact z_subL [1, 2, 3, 0] (wfX6_type_b74 C E G6 r0 x1 x2 qv7 h) rfl
            · rw [if_neg c17] at h
              refine z_aload_n (pc := 69) C 1 dX6_type_69 rfl rfl ?_
              obtain ⟨u18, eu18, h⟩ := ob1_eq h
              obtain ⟨w19, ew19⟩ := isO_eq eu18
              obtain ⟨qv21, G20, eqv21, h⟩ := ob2_eq h
              refine z_callVr (h := r0) (As := []) (rest := []) (pc := 70) C dX6_type_70 ml_X6_138 (kX6_beginEdit _ _ _ _ G6 r0  (qv21, G20) eqv21) ew19 rfl rfl rfl (Nat.le_of_ble_eq_true rfl) (by decide) ?_
              refine z_astore_n (pc := 73) C dX6_type_73 rfl (by decide) (show zput _ _ _ = [(3, .ref qv21), (0, .ref r0), (1, .int x1), (2, .int x2)] from rfl) ?_
              exact z_subL [1, 2, 3, 0] (wfX6_type_b74 C E G20 r0 x1 x2 qv21 h) rfl
          · rw [if_neg c15] at h
            refine z_bipush (pc := 58) C dX6_type_58 (v := (-4 : Int32)) (by decide) ?_
            obtain rfl := Option.some.inj h
            exact z_iret (pc := 60) C E dX6_type_60 ⟨rfl, rfl⟩
        · rw [if_neg c12] at h
          refine z_bipush (pc := 42) C dX6_type_42 (v := (-3 : Int32)) (by decide) ?_
          obtain rfl := Option.some.inj h
          exact z_iret (pc := 44) C E dX6_type_44 ⟨rfl, rfl⟩
      · rw [if_neg c10] at h
        refine z_bipush (pc := 29) C dX6_type_29 (v := (-2 : Int32)) (by decide) ?_
        obtain rfl := Option.some.inj h
        exact z_iret (pc := 31) C E dX6_type_31 ⟨rfl, rfl⟩
  · rw [if_pos c2] at h
    refine z_iconst (pc := 7) C dX6_type_7 (v := (-1 : Int32)) (by decide) ?_
    obtain rfl := Option.some.inj h
    exact z_iret (pc := 8) C E dX6_type_8 ⟨rfl, rfl⟩
theorem kX6_type (l : Launch) (D : va_G) (cA : Nat → ClassId) (b : Nat) (G : zH) (r0 : Nat) (x1 : Int32) (x2 : Int32) (out : Int32 × zH) (h : fX6_type G r0 x1 x2 = some out) : zM l D cA b yX6_type cX6_type 4 (some .int) 6 131 [.ref r0, .int x1, .int x2] G (poI out.1 out.2) := z_entry rfl (Nat.le_of_ble_eq_true rfl) (fun X C E _ _ _ => wfX6_type C E G r0 x1 x2 h)
def fX6_shownPage_b30 (G : zH) (r0 : Nat) : Option (Nat × zH) :=
    ob1 (frf G r0 6 9) fun qv1 =>
    some (qv1, G)
set_option maxRecDepth 100000 in
set_option maxHeartbeats 4000000 in
theorem wfX6_shownPage_b30 {X : zX} {out : Nat × zH} (C : zOK X cX6_shownPage yX6_shownPage.cls 1 (some (.object "PieceBook$Page")) 4 85) (E : zPost X (poR out.1 out.2)) (G : zH) (r0 : Nat) (h : fX6_shownPage_b30 G r0 = some out) : zZ X 30 [(0, .ref r0)] [] G := by
  rw [fX6_shownPage_b30] at h
  refine z_aload_n (pc := 30) C 0 dX6_shownPage_30 rfl rfl ?_
  obtain ⟨qv1, eqv1, h⟩ := ob1_eq h
  refine z_fr (pc := 31) C dX6_shownPage_31 fl_X6_55 eqv1 ?_
  obtain rfl := Option.some.inj h
  exact z_aret (pc := 34) C E dX6_shownPage_34 (Or.inl ⟨_, rfl⟩) ⟨rfl, rfl⟩
def fX6_shownPage (G : zH) (r0 : Nat) : Option (Nat × zH) :=
    ob1 (fi G r0 6 10) fun v1 =>
    if v1 = 0 then (fX6_shownPage_b30 G r0) else
    ob1 (frf G r0 6 9) fun qv3 =>
    ob1 (frf G r0 6 4) fun qv4 =>
    ob1 (isO G qv4 1) fun u5 =>
    ob2 (fX1_current G qv4 ) fun qv8 G7 =>
    ob1 (frf G7 r0 6 3) fun qv9 =>
    ob1 (isO G7 qv3 3) fun u10 =>
    ob1 (fX3_lay G7 qv3 qv8 qv9) fun G12 =>
    ob1 (bz (0 : Int32)) fun b13 =>
    ob1 (fset G12 r0 6 10 (.int b13)) fun G14 =>
    fX6_shownPage_b30 G14 r0
set_option maxRecDepth 100000 in
set_option maxHeartbeats 4000000 in
theorem wfX6_shownPage {X : zX} {out : Nat × zH} (C : zOK X cX6_shownPage yX6_shownPage.cls 1 (some (.object "PieceBook$Page")) 4 85) (E : zPost X (poR out.1 out.2)) (G : zH) (r0 : Nat) (h : fX6_shownPage G r0 = some out) : zZ X 0 [(0, .ref r0)] [] G := by
  rw [fX6_shownPage] at h
  refine z_aload_n (pc := 0) C 0 dX6_shownPage_0 rfl rfl ?_
  obtain ⟨v1, ev1, h⟩ := ob1_eq h
  refine z_fi (pc := 1) C dX6_shownPage_1 fl_X6_152 ev1 ?_
  refine z_if_eq (pc := 4) C dX6_shownPage_4 (tgt := 30) (by decide) (fun c2 => ?_) (fun c2 => ?_)
  · rw [if_pos c2] at h
    exact z_subL [0] (wfX6_shownPage_b30 C E G r0 h) rfl
  · rw [if_neg c2] at h
    refine z_aload_n (pc := 7) C 0 dX6_shownPage_7 rfl rfl ?_
    obtain ⟨qv3, eqv3, h⟩ := ob1_eq h
    refine z_fr (pc := 8) C dX6_shownPage_8 fl_X6_55 eqv3 ?_
    refine z_aload_n (pc := 11) C 0 dX6_shownPage_11 rfl rfl ?_
    obtain ⟨qv4, eqv4, h⟩ := ob1_eq h
    refine z_fr (pc := 12) C dX6_shownPage_12 fl_X6_30 eqv4 ?_
    obtain ⟨u5, eu5, h⟩ := ob1_eq h
    obtain ⟨w6, ew6⟩ := isO_eq eu5
    obtain ⟨qv8, G7, eqv8, h⟩ := ob2_eq h
    refine z_callVr (h := qv4) (As := []) (rest := [.ref qv3]) (pc := 15) C dX6_shownPage_15 ml_X6_84 (kX1_current _ _ _ _ G qv4  (qv8, G7) eqv8) ew6 rfl rfl rfl (Nat.le_of_ble_eq_true rfl) (by decide) ?_
    refine z_aload_n (pc := 18) C 0 dX6_shownPage_18 rfl rfl ?_
    obtain ⟨qv9, eqv9, h⟩ := ob1_eq h
    refine z_fr (pc := 19) C dX6_shownPage_19 fl_X6_23 eqv9 ?_
    obtain ⟨u10, eu10, h⟩ := ob1_eq h
    obtain ⟨w11, ew11⟩ := isO_eq eu10
    obtain ⟨G12, eG12, h⟩ := ob1_eq h
    refine z_callVv (h := qv3) (As := [.ref qv8, .ref qv9]) (rest := []) (pc := 22) C dX6_shownPage_22 ml_X6_328 (kX3_lay _ _ _ _ G7 qv3 qv8 qv9 G12 eG12) ew11 rfl rfl rfl (Nat.le_of_ble_eq_true rfl) (by decide) ?_
    refine z_aload_n (pc := 25) C 0 dX6_shownPage_25 rfl rfl ?_
    refine z_iconst (pc := 26) C dX6_shownPage_26 (v := (0 : Int32)) (by decide) ?_
    obtain ⟨b13, eb13, h⟩ := ob1_eq h
    obtain ⟨G14, eG14, h⟩ := ob1_eq h
    refine z_sz (pc := 27) C dX6_shownPage_27 fl_X6_152w eb13 eG14 ?_
    exact z_subL [0] (wfX6_shownPage_b30 C E G14 r0 h) rfl
theorem kX6_shownPage (l : Launch) (D : va_G) (cA : Nat → ClassId) (b : Nat) (G : zH) (r0 : Nat) (out : Nat × zH) (h : fX6_shownPage G r0 = some out) : zM l D cA b yX6_shownPage cX6_shownPage 1 (some (.object "PieceBook$Page")) 4 85 [.ref r0] G (poR out.1 out.2) := z_entry rfl (Nat.le_of_ble_eq_true rfl) (fun X C E _ _ _ => wfX6_shownPage C E G r0 h)
def fX6_takes (G : zH) (r0 : Nat) (x1 : Int32) (x2 : Int32) : Option (Int32 × zH) :=
    if x2 < (1 : Int32) then (some ((-1 : Int32), G)) else
    if 0 ≤ x1 then (ob1 (isO G r0 6) fun u3 =>
    ob2 (fX6_hasSigns G r0 x1 x2) fun v6 G5 =>
    if v6 = 0 then (some ((-2 : Int32), G5)) else
    ob1 (isO G5 r0 6) fun u8 =>
    ob2 (fX6_shownPage G5 r0 ) fun qv11 G10 =>
    ob1 (isO G10 qv11 3) fun u12 =>
    ob1 (fX3_breaksIn G10 qv11 x1 (x1 + x2)) fun v14 =>
    ob1 (isO G10 r0 6) fun u15 =>
    ob2 (fX6_beginEdit G10 r0 ) fun qv18 G17 =>
    ob1 (isO G17 qv18 2) fun u19 =>
    ob1 (fX2_take G17 qv18 x1 x2) fun G21 =>
    some (v14, G21)) else
    some ((-1 : Int32), G)
set_option maxRecDepth 100000 in
set_option maxHeartbeats 4000000 in
theorem wfX6_takes {X : zX} {out : Int32 × zH} (C : zOK X cX6_takes yX6_takes.cls 4 (some .int) 6 137) (E : zPost X (poI out.1 out.2)) (G : zH) (r0 : Nat) (x1 : Int32) (x2 : Int32) (h : fX6_takes G r0 x1 x2 = some out) : zZ X 0 [(0, .ref r0), (1, .int x1), (2, .int x2)] [] G := by
  rw [fX6_takes] at h
  refine z_iload_n (pc := 0) C 2 dX6_takes_0 rfl rfl ?_
  refine z_iconst (pc := 1) C dX6_takes_1 (v := (1 : Int32)) (by decide) ?_
  refine z_ic_lt (pc := 2) C dX6_takes_2 (tgt := 9) (by decide) (fun c1 => ?_) (fun c1 => ?_)
  · rw [if_pos c1] at h
    refine z_iconst (pc := 9) C dX6_takes_9 (v := (-1 : Int32)) (by decide) ?_
    obtain rfl := Option.some.inj h
    exact z_iret (pc := 10) C E dX6_takes_10 ⟨rfl, rfl⟩
  · rw [if_neg c1] at h
    refine z_iload_n (pc := 5) C 1 dX6_takes_5 rfl rfl ?_
    refine z_if_ge (pc := 6) C dX6_takes_6 (tgt := 11) (by decide) (fun c2 => ?_) (fun c2 => ?_)
    · rw [if_pos c2] at h
      refine z_aload_n (pc := 11) C 0 dX6_takes_11 rfl rfl ?_
      refine z_iload_n (pc := 12) C 1 dX6_takes_12 rfl rfl ?_
      refine z_iload_n (pc := 13) C 2 dX6_takes_13 rfl rfl ?_
      obtain ⟨u3, eu3, h⟩ := ob1_eq h
      obtain ⟨w4, ew4⟩ := isO_eq eu3
      obtain ⟨v6, G5, ev6, h⟩ := ob2_eq h
      refine z_callVi (h := r0) (As := [.int x1, .int x2]) (rest := []) (pc := 14) C dX6_takes_14 ml_X6_156 (kX6_hasSigns _ _ _ _ G r0 x1 x2 (v6, G5) ev6) ew4 rfl rfl rfl (Nat.le_of_ble_eq_true rfl) (by decide) ?_
      refine z_if_ne (pc := 17) C dX6_takes_17 (tgt := 23) (by decide) (fun c7 => ?_) (fun c7 => ?_)
      · rw [if_neg c7] at h
        refine z_aload_n (pc := 23) C 0 dX6_takes_23 rfl rfl ?_
        obtain ⟨u8, eu8, h⟩ := ob1_eq h
        obtain ⟨w9, ew9⟩ := isO_eq eu8
        obtain ⟨qv11, G10, eqv11, h⟩ := ob2_eq h
        refine z_callVr (h := r0) (As := []) (rest := []) (pc := 24) C dX6_takes_24 ml_X6_160 (kX6_shownPage _ _ _ _ G5 r0  (qv11, G10) eqv11) ew9 rfl rfl rfl (Nat.le_of_ble_eq_true rfl) (by decide) ?_
        refine z_iload_n (pc := 27) C 1 dX6_takes_27 rfl rfl ?_
        refine z_iload_n (pc := 28) C 1 dX6_takes_28 rfl rfl ?_
        refine z_iload_n (pc := 29) C 2 dX6_takes_29 rfl rfl ?_
        refine z_iadd (pc := 30) C dX6_takes_30 ?_
        obtain ⟨u12, eu12, h⟩ := ob1_eq h
        obtain ⟨w13, ew13⟩ := isO_eq eu12
        obtain ⟨v14, ev14, h⟩ := ob1_eq h
        refine z_callVi (h := qv11) (As := [.int x1, .int (x1 + x2)]) (rest := []) (pc := 31) C dX6_takes_31 ml_X6_164 (kX3_breaksIn _ _ _ _ G10 qv11 x1 (x1 + x2) v14 ev14) ew13 rfl rfl rfl (Nat.le_of_ble_eq_true rfl) (by decide) ?_
        refine z_istore_n (pc := 34) C dX6_takes_34 rfl (by decide) (show zput _ _ _ = [(3, .int v14), (0, .ref r0), (1, .int x1), (2, .int x2)] from rfl) ?_
        refine z_aload_n (pc := 35) C 1 dX6_takes_35 rfl rfl ?_
        obtain ⟨u15, eu15, h⟩ := ob1_eq h
        obtain ⟨w16, ew16⟩ := isO_eq eu15
        obtain ⟨qv18, G17, eqv18, h⟩ := ob2_eq h
        refine z_callVr (h := r0) (As := []) (rest := []) (pc := 36) C dX6_takes_36 ml_X6_138 (kX6_beginEdit _ _ _ _ G10 r0  (qv18, G17) eqv18) ew16 rfl rfl rfl (Nat.le_of_ble_eq_true rfl) (by decide) ?_
        refine z_iload_n (pc := 39) C 2 dX6_takes_39 rfl rfl ?_
        refine z_iload_n (pc := 40) C 3 dX6_takes_40 rfl rfl ?_
        obtain ⟨u19, eu19, h⟩ := ob1_eq h
        obtain ⟨w20, ew20⟩ := isO_eq eu19
        obtain ⟨G21, eG21, h⟩ := ob1_eq h
        refine z_callVv (h := qv18) (As := [.int x1, .int x2]) (rest := []) (pc := 41) C dX6_takes_41 ml_X6_165 (kX2_take _ _ _ _ G17 qv18 x1 x2 G21 eG21) ew20 rfl rfl rfl (Nat.le_of_ble_eq_true rfl) (by decide) ?_
        refine z_iload_n (pc := 44) C 0 dX6_takes_44 rfl rfl ?_
        obtain rfl := Option.some.inj h
        exact z_iret (pc := 45) C E dX6_takes_45 ⟨rfl, rfl⟩
      · rw [if_pos c7] at h
        refine z_bipush (pc := 20) C dX6_takes_20 (v := (-2 : Int32)) (by decide) ?_
        obtain rfl := Option.some.inj h
        exact z_iret (pc := 22) C E dX6_takes_22 ⟨rfl, rfl⟩
    · rw [if_neg c2] at h
      refine z_iconst (pc := 9) C dX6_takes_9 (v := (-1 : Int32)) (by decide) ?_
      obtain rfl := Option.some.inj h
      exact z_iret (pc := 10) C E dX6_takes_10 ⟨rfl, rfl⟩
theorem kX6_takes (l : Launch) (D : va_G) (cA : Nat → ClassId) (b : Nat) (G : zH) (r0 : Nat) (x1 : Int32) (x2 : Int32) (out : Int32 × zH) (h : fX6_takes G r0 x1 x2 = some out) : zM l D cA b yX6_takes cX6_takes 4 (some .int) 6 137 [.ref r0, .int x1, .int x2] G (poI out.1 out.2) := z_entry rfl (Nat.le_of_ble_eq_true rfl) (fun X C E _ _ _ => wfX6_takes C E G r0 x1 x2 h)
def fX6_puts (G : zH) (r0 : Nat) (x1 : Int32) (x2 : Int32) : Option (Int32 × zH) :=
    ob1 (isO G r0 6) fun u1 =>
    ob2 (fX6_readText G r0 ) fun v4 G3 =>
    ob1 (isO G3 r0 6) fun u5 =>
    ob1 (fX6_firstThatIsNone G3 r0 v4) fun v7 =>
    if v7 = (-1 : Int32) then (ob1 (isO G3 r0 6) fun u9 =>
    ob2 (fX6_putInPlace G3 r0 x1 x2 v4) fun v12 G11 =>
    some (v12, G11)) else
    some (((-1 : Int32) - v7), G3)
set_option maxRecDepth 100000 in
set_option maxHeartbeats 4000000 in
theorem wfX6_puts {X : zX} {out : Int32 × zH} (C : zOK X cX6_puts yX6_puts.cls 5 (some .int) 7 162) (E : zPost X (poI out.1 out.2)) (G : zH) (r0 : Nat) (x1 : Int32) (x2 : Int32) (h : fX6_puts G r0 x1 x2 = some out) : zZ X 0 [(0, .ref r0), (1, .int x1), (2, .int x2)] [] G := by
  rw [fX6_puts] at h
  refine z_aload_n (pc := 0) C 0 dX6_puts_0 rfl rfl ?_
  obtain ⟨u1, eu1, h⟩ := ob1_eq h
  obtain ⟨w2, ew2⟩ := isO_eq eu1
  obtain ⟨v4, G3, ev4, h⟩ := ob2_eq h
  refine z_callVi (h := r0) (As := []) (rest := []) (pc := 1) C dX6_puts_1 ml_X6_72 (kX6_readText _ _ _ _ G r0  (v4, G3) ev4) ew2 rfl rfl rfl (Nat.le_of_ble_eq_true rfl) (by decide) ?_
  refine z_istore_n (pc := 4) C dX6_puts_4 rfl (by decide) (show zput _ _ _ = [(3, .int v4), (0, .ref r0), (1, .int x1), (2, .int x2)] from rfl) ?_
  refine z_aload_n (pc := 5) C 1 dX6_puts_5 rfl rfl ?_
  refine z_iload_n (pc := 6) C 0 dX6_puts_6 rfl rfl ?_
  obtain ⟨u5, eu5, h⟩ := ob1_eq h
  obtain ⟨w6, ew6⟩ := isO_eq eu5
  obtain ⟨v7, ev7, h⟩ := ob1_eq h
  refine z_callVi (h := r0) (As := [.int v4]) (rest := []) (pc := 7) C dX6_puts_7 ml_X6_76 (kX6_firstThatIsNone _ _ _ _ G3 r0 v4 v7 ev7) ew6 rfl rfl rfl (Nat.le_of_ble_eq_true rfl) (by decide) ?_
  refine z_istore (pc := 10) C dX6_puts_10 (by decide) (show zput _ _ _ = [(4, .int v7), (3, .int v4), (0, .ref r0), (1, .int x1), (2, .int x2)] from rfl) ?_
  refine z_iload (pc := 12) C 0 dX6_puts_12 rfl ?_
  refine z_iconst (pc := 14) C dX6_puts_14 (v := (-1 : Int32)) (by decide) ?_
  refine z_ic_eq (pc := 15) C dX6_puts_15 (tgt := 23) (by decide) (fun c8 => ?_) (fun c8 => ?_)
  · rw [if_pos c8] at h
    refine z_aload_n (pc := 23) C 2 dX6_puts_23 rfl rfl ?_
    refine z_iload_n (pc := 24) C 3 dX6_puts_24 rfl rfl ?_
    refine z_iload_n (pc := 25) C 4 dX6_puts_25 rfl rfl ?_
    refine z_iload_n (pc := 26) C 1 dX6_puts_26 rfl rfl ?_
    obtain ⟨u9, eu9, h⟩ := ob1_eq h
    obtain ⟨w10, ew10⟩ := isO_eq eu9
    obtain ⟨v12, G11, ev12, h⟩ := ob2_eq h
    refine z_callVi (h := r0) (As := [.int x1, .int x2, .int v4]) (rest := []) (pc := 27) C dX6_puts_27 ml_X6_127 (kX6_putInPlace _ _ _ _ G3 r0 x1 x2 v4 (v12, G11) ev12) ew10 rfl rfl rfl (Nat.le_of_ble_eq_true rfl) (by decide) ?_
    obtain rfl := Option.some.inj h
    exact z_iret (pc := 30) C E dX6_puts_30 ⟨rfl, rfl⟩
  · rw [if_neg c8] at h
    refine z_iconst (pc := 18) C dX6_puts_18 (v := (-1 : Int32)) (by decide) ?_
    refine z_iload (pc := 19) C 0 dX6_puts_19 rfl ?_
    refine z_isub (pc := 21) C dX6_puts_21 ?_
    obtain rfl := Option.some.inj h
    exact z_iret (pc := 22) C E dX6_puts_22 ⟨rfl, rfl⟩
theorem kX6_puts (l : Launch) (D : va_G) (cA : Nat → ClassId) (b : Nat) (G : zH) (r0 : Nat) (x1 : Int32) (x2 : Int32) (out : Int32 × zH) (h : fX6_puts G r0 x1 x2 = some out) : zM l D cA b yX6_puts cX6_puts 5 (some .int) 7 162 [.ref r0, .int x1, .int x2] G (poI out.1 out.2) := z_entry rfl (Nat.le_of_ble_eq_true rfl) (fun X C E _ _ _ => wfX6_puts C E G r0 x1 x2 h)
def fX6_isPlace (G : zH) (r0 : Nat) (x1 : Int32) : Option (Int32 × zH) :=
    if x1 < 0 then (some ((0 : Int32), G)) else
    ob1 (frf G r0 6 4) fun qv2 =>
    ob1 (isO G qv2 1) fun u3 =>
    ob2 (fX1_current G qv2 ) fun qv6 G5 =>
    ob1 (fi G5 qv6 2 3) fun v7 =>
    if v7 < x1 then (some ((0 : Int32), G5)) else
    some ((1 : Int32), G5)
set_option maxRecDepth 100000 in
set_option maxHeartbeats 4000000 in
theorem wfX6_isPlace {X : zX} {out : Int32 × zH} (C : zOK X cX6_isPlace yX6_isPlace.cls 2 (some .boolean) 4 85) (E : zPost X (poI out.1 out.2)) (G : zH) (r0 : Nat) (x1 : Int32) (h : fX6_isPlace G r0 x1 = some out) : zZ X 0 [(0, .ref r0), (1, .int x1)] [] G := by
  rw [fX6_isPlace] at h
  refine z_iload_n (pc := 0) C 1 dX6_isPlace_0 rfl rfl ?_
  refine z_if_lt (pc := 1) C dX6_isPlace_1 (tgt := 22) (by decide) (fun c1 => ?_) (fun c1 => ?_)
  · rw [if_pos c1] at h
    refine z_iconst (pc := 22) C dX6_isPlace_22 (v := (0 : Int32)) (by decide) ?_
    obtain rfl := Option.some.inj h
    exact z_zret (pc := 23) C E dX6_isPlace_23 rfl ⟨rfl, rfl⟩
  · rw [if_neg c1] at h
    refine z_iload_n (pc := 4) C 1 dX6_isPlace_4 rfl rfl ?_
    refine z_aload_n (pc := 5) C 0 dX6_isPlace_5 rfl rfl ?_
    obtain ⟨qv2, eqv2, h⟩ := ob1_eq h
    refine z_fr (pc := 6) C dX6_isPlace_6 fl_X6_30 eqv2 ?_
    obtain ⟨u3, eu3, h⟩ := ob1_eq h
    obtain ⟨w4, ew4⟩ := isO_eq eu3
    obtain ⟨qv6, G5, eqv6, h⟩ := ob2_eq h
    refine z_callVr (h := qv2) (As := []) (rest := [.int x1]) (pc := 9) C dX6_isPlace_9 ml_X6_84 (kX1_current _ _ _ _ G qv2  (qv6, G5) eqv6) ew4 rfl rfl rfl (Nat.le_of_ble_eq_true rfl) (by decide) ?_
    obtain ⟨v7, ev7, h⟩ := ob1_eq h
    refine z_fi (pc := 12) C dX6_isPlace_12 fl_X6_104 ev7 ?_
    refine z_ic_gt (pc := 15) C dX6_isPlace_15 (tgt := 22) (by decide) (fun c8 => ?_) (fun c8 => ?_)
    · rw [if_pos c8] at h
      refine z_iconst (pc := 22) C dX6_isPlace_22 (v := (0 : Int32)) (by decide) ?_
      obtain rfl := Option.some.inj h
      exact z_zret (pc := 23) C E dX6_isPlace_23 rfl ⟨rfl, rfl⟩
    · rw [if_neg c8] at h
      refine z_iconst (pc := 18) C dX6_isPlace_18 (v := (1 : Int32)) (by decide) ?_
      refine z_goto (pc := 19) C dX6_isPlace_19 (tgt := 23) (by decide) ?_
      obtain rfl := Option.some.inj h
      exact z_zret (pc := 23) C E dX6_isPlace_23 rfl ⟨rfl, rfl⟩
theorem kX6_isPlace (l : Launch) (D : va_G) (cA : Nat → ClassId) (b : Nat) (G : zH) (r0 : Nat) (x1 : Int32) (out : Int32 × zH) (h : fX6_isPlace G r0 x1 = some out) : zM l D cA b yX6_isPlace cX6_isPlace 2 (some .boolean) 4 85 [.ref r0, .int x1] G (poI out.1 out.2) := z_entry rfl (Nat.le_of_ble_eq_true rfl) (fun X C E _ _ _ => wfX6_isPlace C E G r0 x1 h)
def fX6_lays (G : zH) (r0 : Nat) (x1 : Int32) (x2 : Int32) (x3 : Int32) : Option (Int32 × zH) :=
    if x2 < (1 : Int32) then (some ((-1 : Int32), G)) else
    if x1 < 0 then (some ((-1 : Int32), G)) else
    if 0 ≤ x3 then (ob1 (isO G r0 6) fun u4 =>
    ob2 (fX6_hasSigns G r0 x1 x2) fun v7 G6 =>
    if v7 = 0 then (some ((-2 : Int32), G6)) else
    ob1 (isO G6 r0 6) fun u9 =>
    ob2 (fX6_isPlace G6 r0 x3) fun v12 G11 =>
    if v12 = 0 then (some ((-2 : Int32), G11)) else
    ob1 (frf G11 r0 6 4) fun qv14 =>
    ob1 (isO G11 qv14 1) fun u15 =>
    ob2 (fX1_current G11 qv14 ) fun qv18 G17 =>
    ob1 (fi G17 qv18 2 3) fun v19 =>
    if (v19 + x2) ≤ (3000 : Int32) then (ob1 (isO G17 r0 6) fun u21 =>
    ob2 (fX6_beginEdit G17 r0 ) fun qv24 G23 =>
    ob1 (frf G23 r0 6 7) fun qv25 =>
    ob1 (isO G23 qv24 2) fun u26 =>
    ob1 (fX2_lay G23 qv24 x1 x2 x3 qv25) fun G28 =>
    ob1 (fi G28 qv24 2 3) fun v29 =>
    some (v29, G28)) else
    some ((-3 : Int32), G17)) else
    some ((-1 : Int32), G)
set_option maxRecDepth 100000 in
set_option maxHeartbeats 4000000 in
theorem wfX6_lays {X : zX} {out : Int32 × zH} (C : zOK X cX6_lays yX6_lays.cls 5 (some .int) 6 140) (E : zPost X (poI out.1 out.2)) (G : zH) (r0 : Nat) (x1 : Int32) (x2 : Int32) (x3 : Int32) (h : fX6_lays G r0 x1 x2 x3 = some out) : zZ X 0 [(0, .ref r0), (1, .int x1), (2, .int x2), (3, .int x3)] [] G := by
  rw [fX6_lays] at h
  refine z_iload_n (pc := 0) C 2 dX6_lays_0 rfl rfl ?_
  refine z_iconst (pc := 1) C dX6_lays_1 (v := (1 : Int32)) (by decide) ?_
  refine z_ic_lt (pc := 2) C dX6_lays_2 (tgt := 13) (by decide) (fun c1 => ?_) (fun c1 => ?_)
  · rw [if_pos c1] at h
    refine z_iconst (pc := 13) C dX6_lays_13 (v := (-1 : Int32)) (by decide) ?_
    obtain rfl := Option.some.inj h
    exact z_iret (pc := 14) C E dX6_lays_14 ⟨rfl, rfl⟩
  · rw [if_neg c1] at h
    refine z_iload_n (pc := 5) C 1 dX6_lays_5 rfl rfl ?_
    refine z_if_lt (pc := 6) C dX6_lays_6 (tgt := 13) (by decide) (fun c2 => ?_) (fun c2 => ?_)
    · rw [if_pos c2] at h
      refine z_iconst (pc := 13) C dX6_lays_13 (v := (-1 : Int32)) (by decide) ?_
      obtain rfl := Option.some.inj h
      exact z_iret (pc := 14) C E dX6_lays_14 ⟨rfl, rfl⟩
    · rw [if_neg c2] at h
      refine z_iload_n (pc := 9) C 3 dX6_lays_9 rfl rfl ?_
      refine z_if_ge (pc := 10) C dX6_lays_10 (tgt := 15) (by decide) (fun c3 => ?_) (fun c3 => ?_)
      · rw [if_pos c3] at h
        refine z_aload_n (pc := 15) C 0 dX6_lays_15 rfl rfl ?_
        refine z_iload_n (pc := 16) C 1 dX6_lays_16 rfl rfl ?_
        refine z_iload_n (pc := 17) C 2 dX6_lays_17 rfl rfl ?_
        obtain ⟨u4, eu4, h⟩ := ob1_eq h
        obtain ⟨w5, ew5⟩ := isO_eq eu4
        obtain ⟨v7, G6, ev7, h⟩ := ob2_eq h
        refine z_callVi (h := r0) (As := [.int x1, .int x2]) (rest := []) (pc := 18) C dX6_lays_18 ml_X6_156 (kX6_hasSigns _ _ _ _ G r0 x1 x2 (v7, G6) ev7) ew5 rfl rfl rfl (Nat.le_of_ble_eq_true rfl) (by decide) ?_
        refine z_if_eq (pc := 21) C dX6_lays_21 (tgt := 32) (by decide) (fun c8 => ?_) (fun c8 => ?_)
        · rw [if_pos c8] at h
          refine z_bipush (pc := 32) C dX6_lays_32 (v := (-2 : Int32)) (by decide) ?_
          obtain rfl := Option.some.inj h
          exact z_iret (pc := 34) C E dX6_lays_34 ⟨rfl, rfl⟩
        · rw [if_neg c8] at h
          refine z_aload_n (pc := 24) C 0 dX6_lays_24 rfl rfl ?_
          refine z_iload_n (pc := 25) C 3 dX6_lays_25 rfl rfl ?_
          obtain ⟨u9, eu9, h⟩ := ob1_eq h
          obtain ⟨w10, ew10⟩ := isO_eq eu9
          obtain ⟨v12, G11, ev12, h⟩ := ob2_eq h
          refine z_callVi (h := r0) (As := [.int x3]) (rest := []) (pc := 26) C dX6_lays_26 ml_X6_168 (kX6_isPlace _ _ _ _ G6 r0 x3 (v12, G11) ev12) ew10 rfl rfl rfl (Nat.le_of_ble_eq_true rfl) (by decide) ?_
          refine z_if_ne (pc := 29) C dX6_lays_29 (tgt := 35) (by decide) (fun c13 => ?_) (fun c13 => ?_)
          · rw [if_neg c13] at h
            refine z_aload_n (pc := 35) C 0 dX6_lays_35 rfl rfl ?_
            obtain ⟨qv14, eqv14, h⟩ := ob1_eq h
            refine z_fr (pc := 36) C dX6_lays_36 fl_X6_30 eqv14 ?_
            obtain ⟨u15, eu15, h⟩ := ob1_eq h
            obtain ⟨w16, ew16⟩ := isO_eq eu15
            obtain ⟨qv18, G17, eqv18, h⟩ := ob2_eq h
            refine z_callVr (h := qv14) (As := []) (rest := []) (pc := 39) C dX6_lays_39 ml_X6_84 (kX1_current _ _ _ _ G11 qv14  (qv18, G17) eqv18) ew16 rfl rfl rfl (Nat.le_of_ble_eq_true rfl) (by decide) ?_
            obtain ⟨v19, ev19, h⟩ := ob1_eq h
            refine z_fi (pc := 42) C dX6_lays_42 fl_X6_104 ev19 ?_
            refine z_iload_n (pc := 45) C 2 dX6_lays_45 rfl rfl ?_
            refine z_iadd (pc := 46) C dX6_lays_46 ?_
            refine z_sipush (pc := 47) C dX6_lays_47 (v := (3000 : Int32)) (by decide) ?_
            refine z_ic_le (pc := 50) C dX6_lays_50 (tgt := 56) (by decide) (fun c20 => ?_) (fun c20 => ?_)
            · rw [if_pos c20] at h
              refine z_aload_n (pc := 56) C 0 dX6_lays_56 rfl rfl ?_
              obtain ⟨u21, eu21, h⟩ := ob1_eq h
              obtain ⟨w22, ew22⟩ := isO_eq eu21
              obtain ⟨qv24, G23, eqv24, h⟩ := ob2_eq h
              refine z_callVr (h := r0) (As := []) (rest := []) (pc := 57) C dX6_lays_57 ml_X6_138 (kX6_beginEdit _ _ _ _ G17 r0  (qv24, G23) eqv24) ew22 rfl rfl rfl (Nat.le_of_ble_eq_true rfl) (by decide) ?_
              refine z_astore (pc := 60) C dX6_lays_60 (by decide) (show zput _ _ _ = [(4, .ref qv24), (0, .ref r0), (1, .int x1), (2, .int x2), (3, .int x3)] from rfl) ?_
              refine z_aload (pc := 62) C 0 dX6_lays_62 rfl ?_
              refine z_iload_n (pc := 64) C 2 dX6_lays_64 rfl rfl ?_
              refine z_iload_n (pc := 65) C 3 dX6_lays_65 rfl rfl ?_
              refine z_iload_n (pc := 66) C 4 dX6_lays_66 rfl rfl ?_
              refine z_aload_n (pc := 67) C 1 dX6_lays_67 rfl rfl ?_
              obtain ⟨qv25, eqv25, h⟩ := ob1_eq h
              refine z_fr (pc := 68) C dX6_lays_68 fl_X6_45 eqv25 ?_
              obtain ⟨u26, eu26, h⟩ := ob1_eq h
              obtain ⟨w27, ew27⟩ := isO_eq eu26
              obtain ⟨G28, eG28, h⟩ := ob1_eq h
              refine z_callVv (h := qv24) (As := [.int x1, .int x2, .int x3, .ref qv25]) (rest := []) (pc := 71) C dX6_lays_71 ml_X6_171 (kX2_lay _ _ _ _ G23 qv24 x1 x2 x3 qv25 G28 eG28) ew27 rfl rfl rfl (Nat.le_of_ble_eq_true rfl) (by decide) ?_
              refine z_aload (pc := 74) C 0 dX6_lays_74 rfl ?_
              obtain ⟨v29, ev29, h⟩ := ob1_eq h
              refine z_fi (pc := 76) C dX6_lays_76 fl_X6_104 ev29 ?_
              obtain rfl := Option.some.inj h
              exact z_iret (pc := 79) C E dX6_lays_79 ⟨rfl, rfl⟩
            · rw [if_neg c20] at h
              refine z_bipush (pc := 53) C dX6_lays_53 (v := (-3 : Int32)) (by decide) ?_
              obtain rfl := Option.some.inj h
              exact z_iret (pc := 55) C E dX6_lays_55 ⟨rfl, rfl⟩
          · rw [if_pos c13] at h
            refine z_bipush (pc := 32) C dX6_lays_32 (v := (-2 : Int32)) (by decide) ?_
            obtain rfl := Option.some.inj h
            exact z_iret (pc := 34) C E dX6_lays_34 ⟨rfl, rfl⟩
      · rw [if_neg c3] at h
        refine z_iconst (pc := 13) C dX6_lays_13 (v := (-1 : Int32)) (by decide) ?_
        obtain rfl := Option.some.inj h
        exact z_iret (pc := 14) C E dX6_lays_14 ⟨rfl, rfl⟩
theorem kX6_lays (l : Launch) (D : va_G) (cA : Nat → ClassId) (b : Nat) (G : zH) (r0 : Nat) (x1 : Int32) (x2 : Int32) (x3 : Int32) (out : Int32 × zH) (h : fX6_lays G r0 x1 x2 x3 = some out) : zM l D cA b yX6_lays cX6_lays 5 (some .int) 6 140 [.ref r0, .int x1, .int x2, .int x3] G (poI out.1 out.2) := z_entry rfl (Nat.le_of_ble_eq_true rfl) (fun X C E _ _ _ => wfX6_lays C E G r0 x1 x2 x3 h)
def fX6_moves_b59 (G : zH) (r0 : Nat) (x1 : Int32) (x2 : Int32) (s0 : Int32) : Option (Int32 × zH) :=
    ob1 (isO G r0 6) fun u1 =>
    ob2 (fX6_beginEdit G r0 ) fun qv4 G3 =>
    ob1 (frf G3 r0 6 7) fun qv5 =>
    ob1 (isO G3 qv4 2) fun u6 =>
    ob1 (fX2_move G3 qv4 x1 x2 s0 qv5) fun G8 =>
    some (s0, G8)
set_option maxRecDepth 100000 in
set_option maxHeartbeats 4000000 in
theorem wfX6_moves_b59 {X : zX} {out : Int32 × zH} (C : zOK X cX6_moves yX6_moves.cls 5 (some .int) 6 140) (E : zPost X (poI out.1 out.2)) (G : zH) (r0 : Nat) (x1 : Int32) (x2 : Int32) (s0 : Int32) (h : fX6_moves_b59 G r0 x1 x2 s0 = some out) : zZ X 59 [(0, .ref r0), (1, .int x1), (2, .int x2)] [.int s0] G := by
  rw [fX6_moves_b59] at h
  refine z_istore (pc := 59) C dX6_moves_59 (by decide) (show zput _ _ _ = [(4, .int s0), (0, .ref r0), (1, .int x1), (2, .int x2)] from rfl) ?_
  refine z_aload_n (pc := 61) C 1 dX6_moves_61 rfl rfl ?_
  obtain ⟨u1, eu1, h⟩ := ob1_eq h
  obtain ⟨w2, ew2⟩ := isO_eq eu1
  obtain ⟨qv4, G3, eqv4, h⟩ := ob2_eq h
  refine z_callVr (h := r0) (As := []) (rest := []) (pc := 62) C dX6_moves_62 ml_X6_138 (kX6_beginEdit _ _ _ _ G r0  (qv4, G3) eqv4) ew2 rfl rfl rfl (Nat.le_of_ble_eq_true rfl) (by decide) ?_
  refine z_iload_n (pc := 65) C 2 dX6_moves_65 rfl rfl ?_
  refine z_iload_n (pc := 66) C 3 dX6_moves_66 rfl rfl ?_
  refine z_iload (pc := 67) C 0 dX6_moves_67 rfl ?_
  refine z_aload_n (pc := 69) C 1 dX6_moves_69 rfl rfl ?_
  obtain ⟨qv5, eqv5, h⟩ := ob1_eq h
  refine z_fr (pc := 70) C dX6_moves_70 fl_X6_45 eqv5 ?_
  obtain ⟨u6, eu6, h⟩ := ob1_eq h
  obtain ⟨w7, ew7⟩ := isO_eq eu6
  obtain ⟨G8, eG8, h⟩ := ob1_eq h
  refine z_callVv (h := qv4) (As := [.int x1, .int x2, .int s0, .ref qv5]) (rest := []) (pc := 73) C dX6_moves_73 ml_X6_175 (kX2_move _ _ _ _ G3 qv4 x1 x2 s0 qv5 G8 eG8) ew7 rfl rfl rfl (Nat.le_of_ble_eq_true rfl) (by decide) ?_
  refine z_iload (pc := 76) C 0 dX6_moves_76 rfl ?_
  obtain rfl := Option.some.inj h
  exact z_iret (pc := 78) C E dX6_moves_78 ⟨rfl, rfl⟩
def fX6_moves_b47 (G : zH) (r0 : Nat) (x1 : Int32) (x2 : Int32) (x3 : Int32) : Option (Int32 × zH) :=
    if x1 < x3 then (fX6_moves_b59 G r0 x1 x2 (x3 - x2)) else
    fX6_moves_b59 G r0 x1 x2 x3
set_option maxRecDepth 100000 in
set_option maxHeartbeats 4000000 in
theorem wfX6_moves_b47 {X : zX} {out : Int32 × zH} (C : zOK X cX6_moves yX6_moves.cls 5 (some .int) 6 140) (E : zPost X (poI out.1 out.2)) (G : zH) (r0 : Nat) (x1 : Int32) (x2 : Int32) (x3 : Int32) (h : fX6_moves_b47 G r0 x1 x2 x3 = some out) : zZ X 47 [(0, .ref r0), (1, .int x1), (2, .int x2), (3, .int x3)] [] G := by
  rw [fX6_moves_b47] at h
  refine z_iload_n (pc := 47) C 3 dX6_moves_47 rfl rfl ?_
  refine z_iload_n (pc := 48) C 1 dX6_moves_48 rfl rfl ?_
  refine z_ic_gt (pc := 49) C dX6_moves_49 (tgt := 56) (by decide) (fun c1 => ?_) (fun c1 => ?_)
  · rw [if_pos c1] at h
    refine z_iload_n (pc := 56) C 3 dX6_moves_56 rfl rfl ?_
    refine z_iload_n (pc := 57) C 2 dX6_moves_57 rfl rfl ?_
    refine z_isub (pc := 58) C dX6_moves_58 ?_
    exact z_subL [0, 1, 2] (wfX6_moves_b59 C E G r0 x1 x2 (x3 - x2) h) rfl
  · rw [if_neg c1] at h
    refine z_iload_n (pc := 52) C 3 dX6_moves_52 rfl rfl ?_
    refine z_goto (pc := 53) C dX6_moves_53 (tgt := 59) (by decide) ?_
    exact z_subL [0, 1, 2] (wfX6_moves_b59 C E G r0 x1 x2 x3 h) rfl
def fX6_moves (G : zH) (r0 : Nat) (x1 : Int32) (x2 : Int32) (x3 : Int32) : Option (Int32 × zH) :=
    if x2 < (1 : Int32) then (some ((-1 : Int32), G)) else
    if x1 < 0 then (some ((-1 : Int32), G)) else
    if 0 ≤ x3 then (ob1 (isO G r0 6) fun u4 =>
    ob2 (fX6_hasSigns G r0 x1 x2) fun v7 G6 =>
    if v7 = 0 then (some ((-2 : Int32), G6)) else
    ob1 (isO G6 r0 6) fun u9 =>
    ob2 (fX6_isPlace G6 r0 x3) fun v12 G11 =>
    if v12 = 0 then (some ((-2 : Int32), G11)) else
    if x3 ≤ x1 then (fX6_moves_b47 G11 r0 x1 x2 x3) else
    if (x1 + x2) ≤ x3 then (fX6_moves_b47 G11 r0 x1 x2 x3) else
    some ((-2 : Int32), G11)) else
    some ((-1 : Int32), G)
set_option maxRecDepth 100000 in
set_option maxHeartbeats 4000000 in
theorem wfX6_moves {X : zX} {out : Int32 × zH} (C : zOK X cX6_moves yX6_moves.cls 5 (some .int) 6 140) (E : zPost X (poI out.1 out.2)) (G : zH) (r0 : Nat) (x1 : Int32) (x2 : Int32) (x3 : Int32) (h : fX6_moves G r0 x1 x2 x3 = some out) : zZ X 0 [(0, .ref r0), (1, .int x1), (2, .int x2), (3, .int x3)] [] G := by
  rw [fX6_moves] at h
  refine z_iload_n (pc := 0) C 2 dX6_moves_0 rfl rfl ?_
  refine z_iconst (pc := 1) C dX6_moves_1 (v := (1 : Int32)) (by decide) ?_
  refine z_ic_lt (pc := 2) C dX6_moves_2 (tgt := 13) (by decide) (fun c1 => ?_) (fun c1 => ?_)
  · rw [if_pos c1] at h
    refine z_iconst (pc := 13) C dX6_moves_13 (v := (-1 : Int32)) (by decide) ?_
    obtain rfl := Option.some.inj h
    exact z_iret (pc := 14) C E dX6_moves_14 ⟨rfl, rfl⟩
  · rw [if_neg c1] at h
    refine z_iload_n (pc := 5) C 1 dX6_moves_5 rfl rfl ?_
    refine z_if_lt (pc := 6) C dX6_moves_6 (tgt := 13) (by decide) (fun c2 => ?_) (fun c2 => ?_)
    · rw [if_pos c2] at h
      refine z_iconst (pc := 13) C dX6_moves_13 (v := (-1 : Int32)) (by decide) ?_
      obtain rfl := Option.some.inj h
      exact z_iret (pc := 14) C E dX6_moves_14 ⟨rfl, rfl⟩
    · rw [if_neg c2] at h
      refine z_iload_n (pc := 9) C 3 dX6_moves_9 rfl rfl ?_
      refine z_if_ge (pc := 10) C dX6_moves_10 (tgt := 15) (by decide) (fun c3 => ?_) (fun c3 => ?_)
      · rw [if_pos c3] at h
        refine z_aload_n (pc := 15) C 0 dX6_moves_15 rfl rfl ?_
        refine z_iload_n (pc := 16) C 1 dX6_moves_16 rfl rfl ?_
        refine z_iload_n (pc := 17) C 2 dX6_moves_17 rfl rfl ?_
        obtain ⟨u4, eu4, h⟩ := ob1_eq h
        obtain ⟨w5, ew5⟩ := isO_eq eu4
        obtain ⟨v7, G6, ev7, h⟩ := ob2_eq h
        refine z_callVi (h := r0) (As := [.int x1, .int x2]) (rest := []) (pc := 18) C dX6_moves_18 ml_X6_156 (kX6_hasSigns _ _ _ _ G r0 x1 x2 (v7, G6) ev7) ew5 rfl rfl rfl (Nat.le_of_ble_eq_true rfl) (by decide) ?_
        refine z_if_eq (pc := 21) C dX6_moves_21 (tgt := 44) (by decide) (fun c8 => ?_) (fun c8 => ?_)
        · rw [if_pos c8] at h
          refine z_bipush (pc := 44) C dX6_moves_44 (v := (-2 : Int32)) (by decide) ?_
          obtain rfl := Option.some.inj h
          exact z_iret (pc := 46) C E dX6_moves_46 ⟨rfl, rfl⟩
        · rw [if_neg c8] at h
          refine z_aload_n (pc := 24) C 0 dX6_moves_24 rfl rfl ?_
          refine z_iload_n (pc := 25) C 3 dX6_moves_25 rfl rfl ?_
          obtain ⟨u9, eu9, h⟩ := ob1_eq h
          obtain ⟨w10, ew10⟩ := isO_eq eu9
          obtain ⟨v12, G11, ev12, h⟩ := ob2_eq h
          refine z_callVi (h := r0) (As := [.int x3]) (rest := []) (pc := 26) C dX6_moves_26 ml_X6_168 (kX6_isPlace _ _ _ _ G6 r0 x3 (v12, G11) ev12) ew10 rfl rfl rfl (Nat.le_of_ble_eq_true rfl) (by decide) ?_
          refine z_if_eq (pc := 29) C dX6_moves_29 (tgt := 44) (by decide) (fun c13 => ?_) (fun c13 => ?_)
          · rw [if_pos c13] at h
            refine z_bipush (pc := 44) C dX6_moves_44 (v := (-2 : Int32)) (by decide) ?_
            obtain rfl := Option.some.inj h
            exact z_iret (pc := 46) C E dX6_moves_46 ⟨rfl, rfl⟩
          · rw [if_neg c13] at h
            refine z_iload_n (pc := 32) C 3 dX6_moves_32 rfl rfl ?_
            refine z_iload_n (pc := 33) C 1 dX6_moves_33 rfl rfl ?_
            refine z_ic_le (pc := 34) C dX6_moves_34 (tgt := 47) (by decide) (fun c14 => ?_) (fun c14 => ?_)
            · rw [if_pos c14] at h
              exact z_subL [0, 1, 2, 3] (wfX6_moves_b47 C E G11 r0 x1 x2 x3 h) rfl
            · rw [if_neg c14] at h
              refine z_iload_n (pc := 37) C 3 dX6_moves_37 rfl rfl ?_
              refine z_iload_n (pc := 38) C 1 dX6_moves_38 rfl rfl ?_
              refine z_iload_n (pc := 39) C 2 dX6_moves_39 rfl rfl ?_
              refine z_iadd (pc := 40) C dX6_moves_40 ?_
              refine z_ic_ge (pc := 41) C dX6_moves_41 (tgt := 47) (by decide) (fun c15 => ?_) (fun c15 => ?_)
              · rw [if_pos c15] at h
                exact z_subL [0, 1, 2, 3] (wfX6_moves_b47 C E G11 r0 x1 x2 x3 h) rfl
              · rw [if_neg c15] at h
                refine z_bipush (pc := 44) C dX6_moves_44 (v := (-2 : Int32)) (by decide) ?_
                obtain rfl := Option.some.inj h
                exact z_iret (pc := 46) C E dX6_moves_46 ⟨rfl, rfl⟩
      · rw [if_neg c3] at h
        refine z_iconst (pc := 13) C dX6_moves_13 (v := (-1 : Int32)) (by decide) ?_
        obtain rfl := Option.some.inj h
        exact z_iret (pc := 14) C E dX6_moves_14 ⟨rfl, rfl⟩
theorem kX6_moves (l : Launch) (D : va_G) (cA : Nat → ClassId) (b : Nat) (G : zH) (r0 : Nat) (x1 : Int32) (x2 : Int32) (x3 : Int32) (out : Int32 × zH) (h : fX6_moves G r0 x1 x2 x3 = some out) : zM l D cA b yX6_moves cX6_moves 5 (some .int) 6 140 [.ref r0, .int x1, .int x2, .int x3] G (poI out.1 out.2) := z_entry rfl (Nat.le_of_ble_eq_true rfl) (fun X C E _ _ _ => wfX6_moves C E G r0 x1 x2 x3 h)
def fX6_cuts_b57 (G : zH) (r0 : Nat) (x3 : Int32) (x4 : Int32) : Option (Int32 × zH) :=
    ob1 (isO G r0 6) fun u1 =>
    ob2 (fX6_beginEdit G r0 ) fun qv4 G3 =>
    ob1 (isO G3 qv4 2) fun u5 =>
    ob1 (fX2_take G3 qv4 x3 (x4 - x3)) fun G7 =>
    some ((x4 - x3), G7)
set_option maxRecDepth 100000 in
set_option maxHeartbeats 4000000 in
theorem wfX6_cuts_b57 {X : zX} {out : Int32 × zH} (C : zOK X cX6_cuts yX6_cuts.cls 5 (some .int) 6 137) (E : zPost X (poI out.1 out.2)) (G : zH) (r0 : Nat) (x3 : Int32) (x4 : Int32) (h : fX6_cuts_b57 G r0 x3 x4 = some out) : zZ X 57 [(0, .ref r0), (3, .int x3), (4, .int x4)] [] G := by
  rw [fX6_cuts_b57] at h
  refine z_aload_n (pc := 57) C 0 dX6_cuts_57 rfl rfl ?_
  obtain ⟨u1, eu1, h⟩ := ob1_eq h
  obtain ⟨w2, ew2⟩ := isO_eq eu1
  obtain ⟨qv4, G3, eqv4, h⟩ := ob2_eq h
  refine z_callVr (h := r0) (As := []) (rest := []) (pc := 58) C dX6_cuts_58 ml_X6_138 (kX6_beginEdit _ _ _ _ G r0  (qv4, G3) eqv4) ew2 rfl rfl rfl (Nat.le_of_ble_eq_true rfl) (by decide) ?_
  refine z_iload_n (pc := 61) C 1 dX6_cuts_61 rfl rfl ?_
  refine z_iload (pc := 62) C 2 dX6_cuts_62 rfl ?_
  refine z_iload_n (pc := 64) C 1 dX6_cuts_64 rfl rfl ?_
  refine z_isub (pc := 65) C dX6_cuts_65 ?_
  obtain ⟨u5, eu5, h⟩ := ob1_eq h
  obtain ⟨w6, ew6⟩ := isO_eq eu5
  obtain ⟨G7, eG7, h⟩ := ob1_eq h
  refine z_callVv (h := qv4) (As := [.int x3, .int (x4 - x3)]) (rest := []) (pc := 66) C dX6_cuts_66 ml_X6_165 (kX2_take _ _ _ _ G3 qv4 x3 (x4 - x3) G7 eG7) ew6 rfl rfl rfl (Nat.le_of_ble_eq_true rfl) (by decide) ?_
  refine z_iload (pc := 69) C 2 dX6_cuts_69 rfl ?_
  refine z_iload_n (pc := 71) C 1 dX6_cuts_71 rfl rfl ?_
  refine z_isub (pc := 72) C dX6_cuts_72 ?_
  obtain rfl := Option.some.inj h
  exact z_iret (pc := 73) C E dX6_cuts_73 ⟨rfl, rfl⟩
def fX6_cuts (G : zH) (r0 : Nat) (x1 : Int32) : Option (Int32 × zH) :=
    ob1 (isO G r0 6) fun u1 =>
    ob2 (fX6_shownPage G r0 ) fun qv4 G3 =>
    ob1 (isO G3 qv4 3) fun u5 =>
    ob1 (fX3_lineStart G3 qv4 x1) fun v7 =>
    if v7 = (-1 : Int32) then (some ((-1 : Int32), G3)) else
    ob1 (fi G3 qv4 3 2) fun v9 =>
    if v9 = 0 then (some ((-2 : Int32), G3)) else
    ob1 (isO G3 qv4 3) fun u11 =>
    ob1 (fX3_lineEnd G3 qv4 v7) fun v13 =>
    ob1 (fi G3 qv4 3 2) fun v14 =>
    if v14 ≤ v13 then (if v7 ≤ 0 then (fX6_cuts_b57 G3 r0 v7 v13) else
    zlet (v7 + (-1 : Int32)) fun y17 =>
    fX6_cuts_b57 G3 r0 y17 v13) else
    zlet (v13 + (1 : Int32)) fun y18 =>
    fX6_cuts_b57 G3 r0 v7 y18
set_option maxRecDepth 100000 in
set_option maxHeartbeats 4000000 in
theorem wfX6_cuts {X : zX} {out : Int32 × zH} (C : zOK X cX6_cuts yX6_cuts.cls 5 (some .int) 6 137) (E : zPost X (poI out.1 out.2)) (G : zH) (r0 : Nat) (x1 : Int32) (h : fX6_cuts G r0 x1 = some out) : zZ X 0 [(0, .ref r0), (1, .int x1)] [] G := by
  rw [fX6_cuts] at h
  refine z_aload_n (pc := 0) C 0 dX6_cuts_0 rfl rfl ?_
  obtain ⟨u1, eu1, h⟩ := ob1_eq h
  obtain ⟨w2, ew2⟩ := isO_eq eu1
  obtain ⟨qv4, G3, eqv4, h⟩ := ob2_eq h
  refine z_callVr (h := r0) (As := []) (rest := []) (pc := 1) C dX6_cuts_1 ml_X6_160 (kX6_shownPage _ _ _ _ G r0  (qv4, G3) eqv4) ew2 rfl rfl rfl (Nat.le_of_ble_eq_true rfl) (by decide) ?_
  refine z_astore_n (pc := 4) C dX6_cuts_4 rfl (by decide) (show zput _ _ _ = [(2, .ref qv4), (0, .ref r0), (1, .int x1)] from rfl) ?_
  refine z_aload_n (pc := 5) C 0 dX6_cuts_5 rfl rfl ?_
  refine z_iload_n (pc := 6) C 2 dX6_cuts_6 rfl rfl ?_
  obtain ⟨u5, eu5, h⟩ := ob1_eq h
  obtain ⟨w6, ew6⟩ := isO_eq eu5
  obtain ⟨v7, ev7, h⟩ := ob1_eq h
  refine z_callVi (h := qv4) (As := [.int x1]) (rest := []) (pc := 7) C dX6_cuts_7 ml_X6_178 (kX3_lineStart _ _ _ _ G3 qv4 x1 v7 ev7) ew6 rfl rfl rfl (Nat.le_of_ble_eq_true rfl) (by decide) ?_
  refine z_istore_n (pc := 10) C dX6_cuts_10 rfl (by decide) (show zput _ _ _ = [(3, .int v7), (2, .ref qv4), (0, .ref r0), (1, .int x1)] from rfl) ?_
  refine z_iload_n (pc := 11) C 0 dX6_cuts_11 rfl rfl ?_
  refine z_iconst (pc := 12) C dX6_cuts_12 (v := (-1 : Int32)) (by decide) ?_
  refine z_ic_ne (pc := 13) C dX6_cuts_13 (tgt := 18) (by decide) (fun c8 => ?_) (fun c8 => ?_)
  · rw [if_neg c8] at h
    refine z_aload_n (pc := 18) C 1 dX6_cuts_18 rfl rfl ?_
    obtain ⟨v9, ev9, h⟩ := ob1_eq h
    refine z_fi (pc := 19) C dX6_cuts_19 fl_X6_181 ev9 ?_
    refine z_if_ne (pc := 22) C dX6_cuts_22 (tgt := 28) (by decide) (fun c10 => ?_) (fun c10 => ?_)
    · rw [if_neg c10] at h
      refine z_aload_n (pc := 28) C 1 dX6_cuts_28 rfl rfl ?_
      refine z_iload_n (pc := 29) C 0 dX6_cuts_29 rfl rfl ?_
      obtain ⟨u11, eu11, h⟩ := ob1_eq h
      obtain ⟨w12, ew12⟩ := isO_eq eu11
      obtain ⟨v13, ev13, h⟩ := ob1_eq h
      refine z_callVi (h := qv4) (As := [.int v7]) (rest := []) (pc := 30) C dX6_cuts_30 ml_X6_184 (kX3_lineEnd _ _ _ _ G3 qv4 v7 v13 ev13) ew12 rfl rfl rfl (Nat.le_of_ble_eq_true rfl) (by decide) ?_
      refine z_istore (pc := 33) C dX6_cuts_33 (by decide) (show zput _ _ _ = [(4, .int v13), (3, .int v7), (2, .ref qv4), (0, .ref r0), (1, .int x1)] from rfl) ?_
      refine z_iload (pc := 35) C 0 dX6_cuts_35 rfl ?_
      refine z_aload_n (pc := 37) C 2 dX6_cuts_37 rfl rfl ?_
      obtain ⟨v14, ev14, h⟩ := ob1_eq h
      refine z_fi (pc := 38) C dX6_cuts_38 fl_X6_181 ev14 ?_
      refine z_ic_ge (pc := 41) C dX6_cuts_41 (tgt := 50) (by decide) (fun c15 => ?_) (fun c15 => ?_)
      · rw [if_pos c15] at h
        refine z_iload_n (pc := 50) C 1 dX6_cuts_50 rfl rfl ?_
        refine z_if_le (pc := 51) C dX6_cuts_51 (tgt := 57) (by decide) (fun c16 => ?_) (fun c16 => ?_)
        · rw [if_pos c16] at h
          exact z_subL [3, 1, 0] (wfX6_cuts_b57 C E G3 r0 v7 v13 h) rfl
        · rw [if_neg c16] at h
          obtain ⟨y17, ey17, h⟩ := zlet_eq h
          refine z_iinc (pc := 54) (v := y17) C 1 dX6_cuts_54 rfl (by rw [ey17]; rfl) (by decide) (show zput _ _ _ = [(3, .int y17), (4, .int v13), (2, .ref qv4), (0, .ref r0), (1, .int x1)] from rfl) ?_
          exact z_subL [3, 0, 1] (wfX6_cuts_b57 C E G3 r0 y17 v13 h) rfl
      · rw [if_neg c15] at h
        obtain ⟨y18, ey18, h⟩ := zlet_eq h
        refine z_iinc (pc := 44) (v := y18) C 0 dX6_cuts_44 rfl (by rw [ey18]; rfl) (by decide) (show zput _ _ _ = [(4, .int y18), (3, .int v7), (2, .ref qv4), (0, .ref r0), (1, .int x1)] from rfl) ?_
        refine z_goto (pc := 47) C dX6_cuts_47 (tgt := 57) (by decide) ?_
        exact z_subL [3, 1, 0] (wfX6_cuts_b57 C E G3 r0 v7 y18 h) rfl
    · rw [if_pos c10] at h
      refine z_bipush (pc := 25) C dX6_cuts_25 (v := (-2 : Int32)) (by decide) ?_
      obtain rfl := Option.some.inj h
      exact z_iret (pc := 27) C E dX6_cuts_27 ⟨rfl, rfl⟩
  · rw [if_pos c8] at h
    refine z_iconst (pc := 16) C dX6_cuts_16 (v := (-1 : Int32)) (by decide) ?_
    obtain rfl := Option.some.inj h
    exact z_iret (pc := 17) C E dX6_cuts_17 ⟨rfl, rfl⟩
theorem kX6_cuts (l : Launch) (D : va_G) (cA : Nat → ClassId) (b : Nat) (G : zH) (r0 : Nat) (x1 : Int32) (out : Int32 × zH) (h : fX6_cuts G r0 x1 = some out) : zM l D cA b yX6_cuts cX6_cuts 5 (some .int) 6 137 [.ref r0, .int x1] G (poI out.1 out.2) := z_entry rfl (Nat.le_of_ble_eq_true rfl) (fun X C E _ _ _ => wfX6_cuts C E G r0 x1 h)
def fX6_indents_b145 (G : zH) (r7 : Nat) : Option (Int32 × zH) :=
    ob1 (fi G r7 2 3) fun v1 =>
    some (v1, G)
set_option maxRecDepth 100000 in
set_option maxHeartbeats 4000000 in
theorem wfX6_indents_b145 {X : zX} {out : Int32 × zH} (C : zOK X cX6_indents yX6_indents.cls 9 (some .int) 6 131) (E : zPost X (poI out.1 out.2)) (G : zH) (r7 : Nat) (h : fX6_indents_b145 G r7 = some out) : zZ X 145 [(7, .ref r7)] [] G := by
  rw [fX6_indents_b145] at h
  refine z_aload (pc := 145) C 0 dX6_indents_145 rfl ?_
  obtain ⟨v1, ev1, h⟩ := ob1_eq h
  refine z_fi (pc := 147) C dX6_indents_147 fl_X6_104 ev1 ?_
  obtain rfl := Option.some.inj h
  exact z_iret (pc := 150) C E dX6_indents_150 ⟨rfl, rfl⟩
def fX6_indents_b99 : Nat → zH → Nat → Int32 → Int32 → Nat → Int32 → Nat → Int32 → Option (Int32 × zH)
  | 0, _, _, _, _, _, _, _, _ => none
  | n + 1, G, r0, x1, x3, r4, x5, r7, x8 =>
    if x8 < x1 then (fX6_indents_b145 G r7) else
    ob1 (frf G r0 6 3) fun qv2 =>
    ob1 (isO G qv2 4) fun u3 =>
    ob1 (fX4_addedEnd G qv2 ) fun v5 =>
    ob1 (isO G r7 2) fun u6 =>
    ob1 (fX2_insert G r7 x5 v5 x3) fun G8 =>
    ob1 (frf G8 r0 6 3) fun qv9 =>
    ob1 (isO G8 qv9 4) fun u10 =>
    ob1 (fX4_addBlanks G8 qv9 x3) fun G12 =>
    ob1 (isO G12 r4 3) fun u13 =>
    ob1 (fX3_lineBegin G12 r4 (x5 - (1 : Int32))) fun v15 =>
    zlet (x8 + (-1 : Int32)) fun y16 =>
    (fX6_indents_b99 n) G12 r0 x1 x3 r4 v15 r7 y16
set_option maxRecDepth 100000 in
set_option maxHeartbeats 4000000 in
theorem wfX6_indents_b99 {X : zX} {out : Int32 × zH} (C : zOK X cX6_indents yX6_indents.cls 9 (some .int) 6 131) (E : zPost X (poI out.1 out.2)) : ∀ (n : Nat) (G : zH) (r0 : Nat) (x1 : Int32) (x3 : Int32) (r4 : Nat) (x5 : Int32) (r7 : Nat) (x8 : Int32) (h : fX6_indents_b99 n G r0 x1 x3 r4 x5 r7 x8 = some out), zZ X 99 [(0, .ref r0), (1, .int x1), (3, .int x3), (4, .ref r4), (5, .int x5), (7, .ref r7), (8, .int x8)] [] G := by
  intro n
  induction n with
  | zero => intro G r0 x1 x3 r4 x5 r7 x8 h; cases h
  | succ n ih =>
    intro G r0 x1 x3 r4 x5 r7 x8 h
    rw [fX6_indents_b99] at h
    refine z_iload (pc := 99) C 6 dX6_indents_99 rfl ?_
    refine z_iload_n (pc := 101) C 1 dX6_indents_101 rfl rfl ?_
    refine z_ic_lt (pc := 102) C dX6_indents_102 (tgt := 145) (by decide) (fun c1 => ?_) (fun c1 => ?_)
    · rw [if_pos c1] at h
      exact z_subL [5] (wfX6_indents_b145 C E G r7 h) rfl
    · rw [if_neg c1] at h
      refine z_aload (pc := 105) C 5 dX6_indents_105 rfl ?_
      refine z_iload (pc := 107) C 4 dX6_indents_107 rfl ?_
      refine z_aload_n (pc := 109) C 0 dX6_indents_109 rfl rfl ?_
      obtain ⟨qv2, eqv2, h⟩ := ob1_eq h
      refine z_fr (pc := 110) C dX6_indents_110 fl_X6_23 eqv2 ?_
      obtain ⟨u3, eu3, h⟩ := ob1_eq h
      obtain ⟨w4, ew4⟩ := isO_eq eu3
      obtain ⟨v5, ev5, h⟩ := ob1_eq h
      refine z_callVi (h := qv2) (As := []) (rest := [.int x5, .ref r7]) (pc := 113) C dX6_indents_113 ml_X6_141 (kX4_addedEnd _ _ _ _ G qv2  v5 ev5) ew4 rfl rfl rfl (Nat.le_of_ble_eq_true rfl) (by decide) ?_
      refine z_iload_n (pc := 116) C 2 dX6_indents_116 rfl rfl ?_
      obtain ⟨u6, eu6, h⟩ := ob1_eq h
      obtain ⟨w7, ew7⟩ := isO_eq eu6
      obtain ⟨G8, eG8, h⟩ := ob1_eq h
      refine z_callVv (h := r7) (As := [.int x5, .int v5, .int x3]) (rest := []) (pc := 117) C dX6_indents_117 ml_X6_144 (kX2_insert _ _ _ _ G r7 x5 v5 x3 G8 eG8) ew7 rfl rfl rfl (Nat.le_of_ble_eq_true rfl) (by decide) ?_
      refine z_aload_n (pc := 120) C 0 dX6_indents_120 rfl rfl ?_
      obtain ⟨qv9, eqv9, h⟩ := ob1_eq h
      refine z_fr (pc := 121) C dX6_indents_121 fl_X6_23 eqv9 ?_
      refine z_iload_n (pc := 124) C 2 dX6_indents_124 rfl rfl ?_
      obtain ⟨u10, eu10, h⟩ := ob1_eq h
      obtain ⟨w11, ew11⟩ := isO_eq eu10
      obtain ⟨G12, eG12, h⟩ := ob1_eq h
      refine z_callVv (h := qv9) (As := [.int x3]) (rest := []) (pc := 125) C dX6_indents_125 ml_X6_187 (kX4_addBlanks _ _ _ _ G8 qv9 x3 G12 eG12) ew11 rfl rfl rfl (Nat.le_of_ble_eq_true rfl) (by decide) ?_
      refine z_aload (pc := 128) C 3 dX6_indents_128 rfl ?_
      refine z_iload (pc := 130) C 4 dX6_indents_130 rfl ?_
      refine z_iconst (pc := 132) C dX6_indents_132 (v := (1 : Int32)) (by decide) ?_
      refine z_isub (pc := 133) C dX6_indents_133 ?_
      obtain ⟨u13, eu13, h⟩ := ob1_eq h
      obtain ⟨w14, ew14⟩ := isO_eq eu13
      obtain ⟨v15, ev15, h⟩ := ob1_eq h
      refine z_callVi (h := r4) (As := [.int (x5 - (1 : Int32))]) (rest := []) (pc := 134) C dX6_indents_134 ml_X6_190 (kX3_lineBegin _ _ _ _ G12 r4 (x5 - (1 : Int32)) v15 ev15) ew14 rfl rfl rfl (Nat.le_of_ble_eq_true rfl) (by decide) ?_
      refine z_istore (pc := 137) C dX6_indents_137 (by decide) (show zput _ _ _ = [(5, .int v15), (0, .ref r0), (1, .int x1), (3, .int x3), (4, .ref r4), (7, .ref r7), (8, .int x8)] from rfl) ?_
      obtain ⟨y16, ey16, h⟩ := zlet_eq h
      refine z_iinc (pc := 139) (v := y16) C 6 dX6_indents_139 rfl (by rw [ey16]; rfl) (by decide) (show zput _ _ _ = [(8, .int y16), (5, .int v15), (0, .ref r0), (1, .int x1), (3, .int x3), (4, .ref r4), (7, .ref r7)] from rfl) ?_
      refine z_goto (pc := 142) C dX6_indents_142 (tgt := 99) (by decide) ?_
      exact z_subL [2, 3, 4, 5, 1, 6, 0] (ih G12 r0 x1 x3 r4 v15 r7 y16 h) rfl
def fX6_indents (G : zH) (r0 : Nat) (x1 : Int32) (x2 : Int32) (x3 : Int32) : Option (Int32 × zH) :=
    if x3 < (1 : Int32) then (some ((-1 : Int32), G)) else
    if x3 ≤ (8 : Int32) then (ob1 (isO G r0 6) fun u3 =>
    ob2 (fX6_shownPage G r0 ) fun qv6 G5 =>
    ob1 (isO G5 qv6 3) fun u7 =>
    ob1 (fX3_lineStart G5 qv6 x2) fun v9 =>
    if x1 < 0 then (some ((-2 : Int32), G5)) else
    if x2 < x1 then (some ((-2 : Int32), G5)) else
    if v9 = (-1 : Int32) then (some ((-2 : Int32), G5)) else
    zlet ((((x2 - x1) + (1 : Int32)) * x3)) fun y13 =>
    ob1 (fi G5 qv6 3 2) fun v14 =>
    if (v14 + y13) ≤ (3000 : Int32) then (ob1 (frf G5 r0 6 3) fun qv16 =>
    ob1 (fi G5 qv16 4 2) fun v17 =>
    if (v17 + y13) ≤ (6000 : Int32) then (ob1 (isO G5 r0 6) fun u19 =>
    ob2 (fX6_beginEdit G5 r0 ) fun qv22 G21 =>
    fX6_indents_b99 FU G21 r0 x1 x3 qv6 v9 qv22 x2) else
    some ((-4 : Int32), G5)) else
    some ((-3 : Int32), G5)) else
    some ((-1 : Int32), G)
set_option maxRecDepth 100000 in
set_option maxHeartbeats 4000000 in
theorem wfX6_indents {X : zX} {out : Int32 × zH} (C : zOK X cX6_indents yX6_indents.cls 9 (some .int) 6 131) (E : zPost X (poI out.1 out.2)) (G : zH) (r0 : Nat) (x1 : Int32) (x2 : Int32) (x3 : Int32) (h : fX6_indents G r0 x1 x2 x3 = some out) : zZ X 0 [(0, .ref r0), (1, .int x1), (2, .int x2), (3, .int x3)] [] G := by
  rw [fX6_indents] at h
  refine z_iload_n (pc := 0) C 3 dX6_indents_0 rfl rfl ?_
  refine z_iconst (pc := 1) C dX6_indents_1 (v := (1 : Int32)) (by decide) ?_
  refine z_ic_lt (pc := 2) C dX6_indents_2 (tgt := 11) (by decide) (fun c1 => ?_) (fun c1 => ?_)
  · rw [if_pos c1] at h
    refine z_iconst (pc := 11) C dX6_indents_11 (v := (-1 : Int32)) (by decide) ?_
    obtain rfl := Option.some.inj h
    exact z_iret (pc := 12) C E dX6_indents_12 ⟨rfl, rfl⟩
  · rw [if_neg c1] at h
    refine z_iload_n (pc := 5) C 3 dX6_indents_5 rfl rfl ?_
    refine z_bipush (pc := 6) C dX6_indents_6 (v := (8 : Int32)) (by decide) ?_
    refine z_ic_le (pc := 8) C dX6_indents_8 (tgt := 13) (by decide) (fun c2 => ?_) (fun c2 => ?_)
    · rw [if_pos c2] at h
      refine z_aload_n (pc := 13) C 0 dX6_indents_13 rfl rfl ?_
      obtain ⟨u3, eu3, h⟩ := ob1_eq h
      obtain ⟨w4, ew4⟩ := isO_eq eu3
      obtain ⟨qv6, G5, eqv6, h⟩ := ob2_eq h
      refine z_callVr (h := r0) (As := []) (rest := []) (pc := 14) C dX6_indents_14 ml_X6_160 (kX6_shownPage _ _ _ _ G r0  (qv6, G5) eqv6) ew4 rfl rfl rfl (Nat.le_of_ble_eq_true rfl) (by decide) ?_
      refine z_astore (pc := 17) C dX6_indents_17 (by decide) (show zput _ _ _ = [(4, .ref qv6), (0, .ref r0), (1, .int x1), (2, .int x2), (3, .int x3)] from rfl) ?_
      refine z_aload (pc := 19) C 0 dX6_indents_19 rfl ?_
      refine z_iload_n (pc := 21) C 3 dX6_indents_21 rfl rfl ?_
      obtain ⟨u7, eu7, h⟩ := ob1_eq h
      obtain ⟨w8, ew8⟩ := isO_eq eu7
      obtain ⟨v9, ev9, h⟩ := ob1_eq h
      refine z_callVi (h := qv6) (As := [.int x2]) (rest := []) (pc := 22) C dX6_indents_22 ml_X6_178 (kX3_lineStart _ _ _ _ G5 qv6 x2 v9 ev9) ew8 rfl rfl rfl (Nat.le_of_ble_eq_true rfl) (by decide) ?_
      refine z_istore (pc := 25) C dX6_indents_25 (by decide) (show zput _ _ _ = [(5, .int v9), (4, .ref qv6), (0, .ref r0), (1, .int x1), (2, .int x2), (3, .int x3)] from rfl) ?_
      refine z_iload_n (pc := 27) C 3 dX6_indents_27 rfl rfl ?_
      refine z_if_lt (pc := 28) C dX6_indents_28 (tgt := 42) (by decide) (fun c10 => ?_) (fun c10 => ?_)
      · rw [if_pos c10] at h
        refine z_bipush (pc := 42) C dX6_indents_42 (v := (-2 : Int32)) (by decide) ?_
        obtain rfl := Option.some.inj h
        exact z_iret (pc := 44) C E dX6_indents_44 ⟨rfl, rfl⟩
      · rw [if_neg c10] at h
        refine z_iload_n (pc := 31) C 4 dX6_indents_31 rfl rfl ?_
        refine z_iload_n (pc := 32) C 3 dX6_indents_32 rfl rfl ?_
        refine z_ic_lt (pc := 33) C dX6_indents_33 (tgt := 42) (by decide) (fun c11 => ?_) (fun c11 => ?_)
        · rw [if_pos c11] at h
          refine z_bipush (pc := 42) C dX6_indents_42 (v := (-2 : Int32)) (by decide) ?_
          obtain rfl := Option.some.inj h
          exact z_iret (pc := 44) C E dX6_indents_44 ⟨rfl, rfl⟩
        · rw [if_neg c11] at h
          refine z_iload (pc := 36) C 0 dX6_indents_36 rfl ?_
          refine z_iconst (pc := 38) C dX6_indents_38 (v := (-1 : Int32)) (by decide) ?_
          refine z_ic_ne (pc := 39) C dX6_indents_39 (tgt := 45) (by decide) (fun c12 => ?_) (fun c12 => ?_)
          · rw [if_neg c12] at h
            refine z_iload_n (pc := 45) C 4 dX6_indents_45 rfl rfl ?_
            refine z_iload_n (pc := 46) C 3 dX6_indents_46 rfl rfl ?_
            refine z_isub (pc := 47) C dX6_indents_47 ?_
            refine z_iconst (pc := 48) C dX6_indents_48 (v := (1 : Int32)) (by decide) ?_
            refine z_iadd (pc := 49) C dX6_indents_49 ?_
            refine z_iload_n (pc := 50) C 5 dX6_indents_50 rfl rfl ?_
            refine z_imul (pc := 51) C dX6_indents_51 ?_
            obtain ⟨y13, ey13, h⟩ := zlet_eq h
            refine z_topi ey13 ?_
            refine z_istore (pc := 52) C dX6_indents_52 (by decide) (show zput _ _ _ = [(6, .int y13), (5, .int v9), (4, .ref qv6), (0, .ref r0), (1, .int x1), (2, .int x2), (3, .int x3)] from rfl) ?_
            refine z_aload (pc := 54) C 2 dX6_indents_54 rfl ?_
            obtain ⟨v14, ev14, h⟩ := ob1_eq h
            refine z_fi (pc := 56) C dX6_indents_56 fl_X6_181 ev14 ?_
            refine z_iload (pc := 59) C 0 dX6_indents_59 rfl ?_
            refine z_iadd (pc := 61) C dX6_indents_61 ?_
            refine z_sipush (pc := 62) C dX6_indents_62 (v := (3000 : Int32)) (by decide) ?_
            refine z_ic_le (pc := 65) C dX6_indents_65 (tgt := 71) (by decide) (fun c15 => ?_) (fun c15 => ?_)
            · rw [if_pos c15] at h
              refine z_aload_n (pc := 71) C 3 dX6_indents_71 rfl rfl ?_
              obtain ⟨qv16, eqv16, h⟩ := ob1_eq h
              refine z_fr (pc := 72) C dX6_indents_72 fl_X6_23 eqv16 ?_
              obtain ⟨v17, ev17, h⟩ := ob1_eq h
              refine z_fi (pc := 75) C dX6_indents_75 fl_X6_135 ev17 ?_
              refine z_iload (pc := 78) C 0 dX6_indents_78 rfl ?_
              refine z_iadd (pc := 80) C dX6_indents_80 ?_
              refine z_sipush (pc := 81) C dX6_indents_81 (v := (6000 : Int32)) (by decide) ?_
              refine z_ic_le (pc := 84) C dX6_indents_84 (tgt := 90) (by decide) (fun c18 => ?_) (fun c18 => ?_)
              · rw [if_pos c18] at h
                refine z_aload_n (pc := 90) C 3 dX6_indents_90 rfl rfl ?_
                obtain ⟨u19, eu19, h⟩ := ob1_eq h
                obtain ⟨w20, ew20⟩ := isO_eq eu19
                obtain ⟨qv22, G21, eqv22, h⟩ := ob2_eq h
                refine z_callVr (h := r0) (As := []) (rest := []) (pc := 91) C dX6_indents_91 ml_X6_138 (kX6_beginEdit _ _ _ _ G5 r0  (qv22, G21) eqv22) ew20 rfl rfl rfl (Nat.le_of_ble_eq_true rfl) (by decide) ?_
                refine z_astore (pc := 94) C dX6_indents_94 (by decide) (show zput _ _ _ = [(7, .ref qv22), (6, .int y13), (5, .int v9), (4, .ref qv6), (0, .ref r0), (1, .int x1), (2, .int x2), (3, .int x3)] from rfl) ?_
                refine z_iload_n (pc := 96) C 6 dX6_indents_96 rfl rfl ?_
                refine z_istore (pc := 97) C dX6_indents_97 (by decide) (show zput _ _ _ = [(8, .int x2), (7, .ref qv22), (6, .int y13), (5, .int v9), (4, .ref qv6), (0, .ref r0), (1, .int x1), (2, .int x2), (3, .int x3)] from rfl) ?_
                exact z_subL [5, 6, 8, 4, 3, 1, 0] (wfX6_indents_b99 C E FU G21 r0 x1 x3 qv6 v9 qv22 x2 h) rfl
              · rw [if_neg c18] at h
                refine z_bipush (pc := 87) C dX6_indents_87 (v := (-4 : Int32)) (by decide) ?_
                obtain rfl := Option.some.inj h
                exact z_iret (pc := 89) C E dX6_indents_89 ⟨rfl, rfl⟩
            · rw [if_neg c15] at h
              refine z_bipush (pc := 68) C dX6_indents_68 (v := (-3 : Int32)) (by decide) ?_
              obtain rfl := Option.some.inj h
              exact z_iret (pc := 70) C E dX6_indents_70 ⟨rfl, rfl⟩
          · rw [if_pos c12] at h
            refine z_bipush (pc := 42) C dX6_indents_42 (v := (-2 : Int32)) (by decide) ?_
            obtain rfl := Option.some.inj h
            exact z_iret (pc := 44) C E dX6_indents_44 ⟨rfl, rfl⟩
    · rw [if_neg c2] at h
      refine z_iconst (pc := 11) C dX6_indents_11 (v := (-1 : Int32)) (by decide) ?_
      obtain rfl := Option.some.inj h
      exact z_iret (pc := 12) C E dX6_indents_12 ⟨rfl, rfl⟩
theorem kX6_indents (l : Launch) (D : va_G) (cA : Nat → ClassId) (b : Nat) (G : zH) (r0 : Nat) (x1 : Int32) (x2 : Int32) (x3 : Int32) (out : Int32 × zH) (h : fX6_indents G r0 x1 x2 x3 = some out) : zM l D cA b yX6_indents cX6_indents 9 (some .int) 6 131 [.ref r0, .int x1, .int x2, .int x3] G (poI out.1 out.2) := z_entry rfl (Nat.le_of_ble_eq_true rfl) (fun X C E _ _ _ => wfX6_indents C E G r0 x1 x2 x3 h)
def fX6_heals (G : zH) (r0 : Nat) : Option (Int32 × zH) :=
    ob1 (frf G r0 6 4) fun qv1 =>
    ob1 (isO G qv1 1) fun u2 =>
    ob2 (fX1_current G qv1 ) fun qv5 G4 =>
    ob1 (isO G4 qv5 2) fun u6 =>
    ob1 (fX2_bordersToHeal G4 qv5 ) fun v8 =>
    if v8 = 0 then (some ((0 : Int32), G4)) else
    ob1 (isO G4 r0 6) fun u10 =>
    ob2 (fX6_beginEdit G4 r0 ) fun qv13 G12 =>
    ob1 (isO G12 qv13 2) fun u14 =>
    ob2 (fX2_joinPieces G12 qv13 ) fun v17 G16 =>
    some (v17, G16)
set_option maxRecDepth 100000 in
set_option maxHeartbeats 4000000 in
theorem wfX6_heals {X : zX} {out : Int32 × zH} (C : zOK X cX6_heals yX6_heals.cls 1 (some .int) 6 131) (E : zPost X (poI out.1 out.2)) (G : zH) (r0 : Nat) (h : fX6_heals G r0 = some out) : zZ X 0 [(0, .ref r0)] [] G := by
  rw [fX6_heals] at h
  refine z_aload_n (pc := 0) C 0 dX6_heals_0 rfl rfl ?_
  obtain ⟨qv1, eqv1, h⟩ := ob1_eq h
  refine z_fr (pc := 1) C dX6_heals_1 fl_X6_30 eqv1 ?_
  obtain ⟨u2, eu2, h⟩ := ob1_eq h
  obtain ⟨w3, ew3⟩ := isO_eq eu2
  obtain ⟨qv5, G4, eqv5, h⟩ := ob2_eq h
  refine z_callVr (h := qv1) (As := []) (rest := []) (pc := 4) C dX6_heals_4 ml_X6_84 (kX1_current _ _ _ _ G qv1  (qv5, G4) eqv5) ew3 rfl rfl rfl (Nat.le_of_ble_eq_true rfl) (by decide) ?_
  obtain ⟨u6, eu6, h⟩ := ob1_eq h
  obtain ⟨w7, ew7⟩ := isO_eq eu6
  obtain ⟨v8, ev8, h⟩ := ob1_eq h
  refine z_callVi (h := qv5) (As := []) (rest := []) (pc := 7) C dX6_heals_7 ml_X6_193 (kX2_bordersToHeal _ _ _ _ G4 qv5  v8 ev8) ew7 rfl rfl rfl (Nat.le_of_ble_eq_true rfl) (by decide) ?_
  refine z_if_ne (pc := 10) C dX6_heals_10 (tgt := 15) (by decide) (fun c9 => ?_) (fun c9 => ?_)
  · rw [if_neg c9] at h
    refine z_aload_n (pc := 15) C 0 dX6_heals_15 rfl rfl ?_
    obtain ⟨u10, eu10, h⟩ := ob1_eq h
    obtain ⟨w11, ew11⟩ := isO_eq eu10
    obtain ⟨qv13, G12, eqv13, h⟩ := ob2_eq h
    refine z_callVr (h := r0) (As := []) (rest := []) (pc := 16) C dX6_heals_16 ml_X6_138 (kX6_beginEdit _ _ _ _ G4 r0  (qv13, G12) eqv13) ew11 rfl rfl rfl (Nat.le_of_ble_eq_true rfl) (by decide) ?_
    obtain ⟨u14, eu14, h⟩ := ob1_eq h
    obtain ⟨w15, ew15⟩ := isO_eq eu14
    obtain ⟨v17, G16, ev17, h⟩ := ob2_eq h
    refine z_callVi (h := qv13) (As := []) (rest := []) (pc := 19) C dX6_heals_19 ml_X6_196 (kX2_joinPieces _ _ _ _ G12 qv13  (v17, G16) ev17) ew15 rfl rfl rfl (Nat.le_of_ble_eq_true rfl) (by decide) ?_
    obtain rfl := Option.some.inj h
    exact z_iret (pc := 22) C E dX6_heals_22 ⟨rfl, rfl⟩
  · rw [if_pos c9] at h
    refine z_iconst (pc := 13) C dX6_heals_13 (v := (0 : Int32)) (by decide) ?_
    obtain rfl := Option.some.inj h
    exact z_iret (pc := 14) C E dX6_heals_14 ⟨rfl, rfl⟩
theorem kX6_heals (l : Launch) (D : va_G) (cA : Nat → ClassId) (b : Nat) (G : zH) (r0 : Nat) (out : Int32 × zH) (h : fX6_heals G r0 = some out) : zM l D cA b yX6_heals cX6_heals 1 (some .int) 6 131 [.ref r0] G (poI out.1 out.2) := z_entry rfl (Nat.le_of_ble_eq_true rfl) (fun X C E _ _ _ => wfX6_heals C E G r0 h)
def fX6_marks_b57 (G : zH) (r0 : Nat) (x2 : Int32) (s0 : Int32) (s1 : Int32) (s2 : Int32) (s3 : Nat) : Option (Int32 × zH) :=
    ob1 (isO G s3 2) fun u1 =>
    ob1 (fX2_setMark G s3 s2 s1 s0) fun G3 =>
    ob1 (fset G3 r0 6 13 (.int (-1 : Int32))) fun G4 =>
    some (x2, G4)
set_option maxRecDepth 100000 in
set_option maxHeartbeats 4000000 in
theorem wfX6_marks_b57 {X : zX} {out : Int32 × zH} (C : zOK X cX6_marks yX6_marks.cls 4 (some .int) 5 106) (E : zPost X (poI out.1 out.2)) (G : zH) (r0 : Nat) (x2 : Int32) (s0 : Int32) (s1 : Int32) (s2 : Int32) (s3 : Nat) (h : fX6_marks_b57 G r0 x2 s0 s1 s2 s3 = some out) : zZ X 57 [(0, .ref r0), (2, .int x2)] [.int s0, .int s1, .int s2, .ref s3] G := by
  rw [fX6_marks_b57] at h
  obtain ⟨u1, eu1, h⟩ := ob1_eq h
  obtain ⟨w2, ew2⟩ := isO_eq eu1
  obtain ⟨G3, eG3, h⟩ := ob1_eq h
  refine z_callVv (h := s3) (As := [.int s2, .int s1, .int s0]) (rest := []) (pc := 57) C dX6_marks_57 ml_X6_199 (kX2_setMark _ _ _ _ G s3 s2 s1 s0 G3 eG3) ew2 rfl rfl rfl (Nat.le_of_ble_eq_true rfl) (by decide) ?_
  refine z_aload_n (pc := 60) C 0 dX6_marks_60 rfl rfl ?_
  refine z_iconst (pc := 61) C dX6_marks_61 (v := (-1 : Int32)) (by decide) ?_
  obtain ⟨G4, eG4, h⟩ := ob1_eq h
  refine z_si (pc := 62) C dX6_marks_62 fl_X6_65w eG4 ?_
  refine z_iload_n (pc := 65) C 1 dX6_marks_65 rfl rfl ?_
  obtain rfl := Option.some.inj h
  exact z_iret (pc := 66) C E dX6_marks_66 ⟨rfl, rfl⟩
def fX6_marks_b38 (G : zH) (r0 : Nat) (x1 : Int32) (x2 : Int32) (x3 : Int32) : Option (Int32 × zH) :=
    ob1 (frf G r0 6 4) fun qv1 =>
    ob1 (isO G qv1 1) fun u2 =>
    ob2 (fX1_current G qv1 ) fun qv5 G4 =>
    if x3 = (1 : Int32) then (fX6_marks_b57 G4 r0 x2 (1 : Int32) x2 x1 qv5) else
    fX6_marks_b57 G4 r0 x2 (0 : Int32) x2 x1 qv5
set_option maxRecDepth 100000 in
set_option maxHeartbeats 4000000 in
theorem wfX6_marks_b38 {X : zX} {out : Int32 × zH} (C : zOK X cX6_marks yX6_marks.cls 4 (some .int) 5 106) (E : zPost X (poI out.1 out.2)) (G : zH) (r0 : Nat) (x1 : Int32) (x2 : Int32) (x3 : Int32) (h : fX6_marks_b38 G r0 x1 x2 x3 = some out) : zZ X 38 [(0, .ref r0), (1, .int x1), (2, .int x2), (3, .int x3)] [] G := by
  rw [fX6_marks_b38] at h
  refine z_aload_n (pc := 38) C 0 dX6_marks_38 rfl rfl ?_
  obtain ⟨qv1, eqv1, h⟩ := ob1_eq h
  refine z_fr (pc := 39) C dX6_marks_39 fl_X6_30 eqv1 ?_
  obtain ⟨u2, eu2, h⟩ := ob1_eq h
  obtain ⟨w3, ew3⟩ := isO_eq eu2
  obtain ⟨qv5, G4, eqv5, h⟩ := ob2_eq h
  refine z_callVr (h := qv1) (As := []) (rest := []) (pc := 42) C dX6_marks_42 ml_X6_84 (kX1_current _ _ _ _ G qv1  (qv5, G4) eqv5) ew3 rfl rfl rfl (Nat.le_of_ble_eq_true rfl) (by decide) ?_
  refine z_iload_n (pc := 45) C 1 dX6_marks_45 rfl rfl ?_
  refine z_iload_n (pc := 46) C 2 dX6_marks_46 rfl rfl ?_
  refine z_iload_n (pc := 47) C 3 dX6_marks_47 rfl rfl ?_
  refine z_iconst (pc := 48) C dX6_marks_48 (v := (1 : Int32)) (by decide) ?_
  refine z_ic_ne (pc := 49) C dX6_marks_49 (tgt := 56) (by decide) (fun c6 => ?_) (fun c6 => ?_)
  · rw [if_neg c6] at h
    refine z_iconst (pc := 56) C dX6_marks_56 (v := (0 : Int32)) (by decide) ?_
    exact z_subL [0, 2] (wfX6_marks_b57 C E G4 r0 x2 (0 : Int32) x2 x1 qv5 h) rfl
  · rw [if_pos c6] at h
    refine z_iconst (pc := 52) C dX6_marks_52 (v := (1 : Int32)) (by decide) ?_
    refine z_goto (pc := 53) C dX6_marks_53 (tgt := 57) (by decide) ?_
    exact z_subL [0, 2] (wfX6_marks_b57 C E G4 r0 x2 (1 : Int32) x2 x1 qv5 h) rfl
def fX6_marks (G : zH) (r0 : Nat) (x1 : Int32) (x2 : Int32) (x3 : Int32) : Option (Int32 × zH) :=
    if x1 < 0 then (some ((-3 : Int32), G)) else
    if (8 : Int32) ≤ x1 then (some ((-3 : Int32), G)) else
    if x3 < 0 then (some ((-3 : Int32), G)) else
    if x3 ≤ (1 : Int32) then (if x2 = (-1 : Int32) then (fX6_marks_b38 G r0 x1 x2 x3) else
    ob1 (isO G r0 6) fun u6 =>
    ob2 (fX6_isPlace G r0 x2) fun v9 G8 =>
    if v9 = 0 then (some ((-2 : Int32), G8)) else
    fX6_marks_b38 G8 r0 x1 x2 x3) else
    some ((-3 : Int32), G)
set_option maxRecDepth 100000 in
set_option maxHeartbeats 4000000 in
theorem wfX6_marks {X : zX} {out : Int32 × zH} (C : zOK X cX6_marks yX6_marks.cls 4 (some .int) 5 106) (E : zPost X (poI out.1 out.2)) (G : zH) (r0 : Nat) (x1 : Int32) (x2 : Int32) (x3 : Int32) (h : fX6_marks G r0 x1 x2 x3 = some out) : zZ X 0 [(0, .ref r0), (1, .int x1), (2, .int x2), (3, .int x3)] [] G := by
  rw [fX6_marks] at h
  refine z_iload_n (pc := 0) C 1 dX6_marks_0 rfl rfl ?_
  refine z_if_lt (pc := 1) C dX6_marks_1 (tgt := 19) (by decide) (fun c1 => ?_) (fun c1 => ?_)
  · rw [if_pos c1] at h
    refine z_bipush (pc := 19) C dX6_marks_19 (v := (-3 : Int32)) (by decide) ?_
    obtain rfl := Option.some.inj h
    exact z_iret (pc := 21) C E dX6_marks_21 ⟨rfl, rfl⟩
  · rw [if_neg c1] at h
    refine z_iload_n (pc := 4) C 1 dX6_marks_4 rfl rfl ?_
    refine z_bipush (pc := 5) C dX6_marks_5 (v := (8 : Int32)) (by decide) ?_
    refine z_ic_ge (pc := 7) C dX6_marks_7 (tgt := 19) (by decide) (fun c2 => ?_) (fun c2 => ?_)
    · rw [if_pos c2] at h
      refine z_bipush (pc := 19) C dX6_marks_19 (v := (-3 : Int32)) (by decide) ?_
      obtain rfl := Option.some.inj h
      exact z_iret (pc := 21) C E dX6_marks_21 ⟨rfl, rfl⟩
    · rw [if_neg c2] at h
      refine z_iload_n (pc := 10) C 3 dX6_marks_10 rfl rfl ?_
      refine z_if_lt (pc := 11) C dX6_marks_11 (tgt := 19) (by decide) (fun c3 => ?_) (fun c3 => ?_)
      · rw [if_pos c3] at h
        refine z_bipush (pc := 19) C dX6_marks_19 (v := (-3 : Int32)) (by decide) ?_
        obtain rfl := Option.some.inj h
        exact z_iret (pc := 21) C E dX6_marks_21 ⟨rfl, rfl⟩
      · rw [if_neg c3] at h
        refine z_iload_n (pc := 14) C 3 dX6_marks_14 rfl rfl ?_
        refine z_iconst (pc := 15) C dX6_marks_15 (v := (1 : Int32)) (by decide) ?_
        refine z_ic_le (pc := 16) C dX6_marks_16 (tgt := 22) (by decide) (fun c4 => ?_) (fun c4 => ?_)
        · rw [if_pos c4] at h
          refine z_iload_n (pc := 22) C 2 dX6_marks_22 rfl rfl ?_
          refine z_iconst (pc := 23) C dX6_marks_23 (v := (-1 : Int32)) (by decide) ?_
          refine z_ic_eq (pc := 24) C dX6_marks_24 (tgt := 38) (by decide) (fun c5 => ?_) (fun c5 => ?_)
          · rw [if_pos c5] at h
            exact z_subL [0, 1, 2, 3] (wfX6_marks_b38 C E G r0 x1 x2 x3 h) rfl
          · rw [if_neg c5] at h
            refine z_aload_n (pc := 27) C 0 dX6_marks_27 rfl rfl ?_
            refine z_iload_n (pc := 28) C 2 dX6_marks_28 rfl rfl ?_
            obtain ⟨u6, eu6, h⟩ := ob1_eq h
            obtain ⟨w7, ew7⟩ := isO_eq eu6
            obtain ⟨v9, G8, ev9, h⟩ := ob2_eq h
            refine z_callVi (h := r0) (As := [.int x2]) (rest := []) (pc := 29) C dX6_marks_29 ml_X6_168 (kX6_isPlace _ _ _ _ G r0 x2 (v9, G8) ev9) ew7 rfl rfl rfl (Nat.le_of_ble_eq_true rfl) (by decide) ?_
            refine z_if_ne (pc := 32) C dX6_marks_32 (tgt := 38) (by decide) (fun c10 => ?_) (fun c10 => ?_)
            · rw [if_neg c10] at h
              exact z_subL [0, 1, 2, 3] (wfX6_marks_b38 C E G8 r0 x1 x2 x3 h) rfl
            · rw [if_pos c10] at h
              refine z_bipush (pc := 35) C dX6_marks_35 (v := (-2 : Int32)) (by decide) ?_
              obtain rfl := Option.some.inj h
              exact z_iret (pc := 37) C E dX6_marks_37 ⟨rfl, rfl⟩
        · rw [if_neg c4] at h
          refine z_bipush (pc := 19) C dX6_marks_19 (v := (-3 : Int32)) (by decide) ?_
          obtain rfl := Option.some.inj h
          exact z_iret (pc := 21) C E dX6_marks_21 ⟨rfl, rfl⟩
theorem kX6_marks (l : Launch) (D : va_G) (cA : Nat → ClassId) (b : Nat) (G : zH) (r0 : Nat) (x1 : Int32) (x2 : Int32) (x3 : Int32) (out : Int32 × zH) (h : fX6_marks G r0 x1 x2 x3 = some out) : zM l D cA b yX6_marks cX6_marks 4 (some .int) 5 106 [.ref r0, .int x1, .int x2, .int x3] G (poI out.1 out.2) := z_entry rfl (Nat.le_of_ble_eq_true rfl) (fun X C E _ _ _ => wfX6_marks C E G r0 x1 x2 x3 h)
def fX6_faultOfDay_b76 (G : zH) (k2 : Nat → Int32 → Int32 → Option Int32) (r0 : Nat) (x1 : Int32) (x2 : Int32) (x4 : Int32) : Option Int32 :=
    zlet ((x2 + x4)) fun y1 =>
    k2 r0 x1 y1
set_option maxRecDepth 100000 in
set_option maxHeartbeats 4000000 in
theorem wfX6_faultOfDay_b76 {X : zX} {G : zH} {out : Int32} (C : zOK X cX6_faultOfDay yX6_faultOfDay.cls 6 (some .int) 2 42) (E : zPost X (poI out G)) (k2 : Nat → Int32 → Int32 → Option Int32) (hk2 : ∀ (r0 : Nat) (x1 : Int32) (x2 : Int32), k2 r0 x1 x2 = some out → zZ X 2 [(0, .ref r0), (1, .int x1), (2, .int x2)] [] G) (r0 : Nat) (x1 : Int32) (x2 : Int32) (x4 : Int32) (h : fX6_faultOfDay_b76 G k2 r0 x1 x2 x4 = some out) : zZ X 76 [(0, .ref r0), (1, .int x1), (2, .int x2), (4, .int x4)] [] G := by
  rw [fX6_faultOfDay_b76] at h
  refine z_iload_n (pc := 76) C 2 dX6_faultOfDay_76 rfl rfl ?_
  refine z_iload (pc := 77) C 3 dX6_faultOfDay_77 rfl ?_
  refine z_iadd (pc := 79) C dX6_faultOfDay_79 ?_
  obtain ⟨y1, ey1, h⟩ := zlet_eq h
  refine z_topi ey1 ?_
  refine z_istore_n (pc := 80) C dX6_faultOfDay_80 rfl (by decide) (show zput _ _ _ = [(2, .int y1), (0, .ref r0), (1, .int x1), (4, .int x4)] from rfl) ?_
  refine z_goto (pc := 81) C dX6_faultOfDay_81 (tgt := 2) (by decide) ?_
  exact z_subL [1, 2, 0] (hk2 r0 x1 y1 h) rfl
def fX6_faultOfDay_b30 (G : zH) (k2 : Nat → Int32 → Int32 → Option Int32) : Nat → Nat → Int32 → Int32 → Int32 → Int32 → Int32 → Option Int32
  | 0, _, _, _, _, _, _ => none
  | n + 1, r0, x1, x2, x3, x4, x5 =>
    if x4 ≤ x5 then (fX6_faultOfDay_b76 G k2 r0 x1 x2 x4) else
    if (x2 + x5) < x1 then (ob1 (frf G r0 6 0) fun qv3 =>
    ob1 (aR G 0 qv3 (x2 + x5)) fun v4 =>
    ob1 (fX6_mayStand x3 x5 v4) fun v5 =>
    if v5 = 0 then (some (x2 + x5)) else
    zlet (x5 + (1 : Int32)) fun y7 =>
    (fX6_faultOfDay_b30 G k2 n) r0 x1 x2 x3 x4 y7) else
    some x1
set_option maxRecDepth 100000 in
set_option maxHeartbeats 4000000 in
theorem wfX6_faultOfDay_b30 {X : zX} {G : zH} {out : Int32} (C : zOK X cX6_faultOfDay yX6_faultOfDay.cls 6 (some .int) 2 42) (E : zPost X (poI out G)) (k2 : Nat → Int32 → Int32 → Option Int32) (hk2 : ∀ (r0 : Nat) (x1 : Int32) (x2 : Int32), k2 r0 x1 x2 = some out → zZ X 2 [(0, .ref r0), (1, .int x1), (2, .int x2)] [] G) : ∀ (n : Nat) (r0 : Nat) (x1 : Int32) (x2 : Int32) (x3 : Int32) (x4 : Int32) (x5 : Int32) (h : fX6_faultOfDay_b30 G k2 n r0 x1 x2 x3 x4 x5 = some out), zZ X 30 [(0, .ref r0), (1, .int x1), (2, .int x2), (3, .int x3), (4, .int x4), (5, .int x5)] [] G := by
  intro n
  induction n with
  | zero => intro r0 x1 x2 x3 x4 x5 h; cases h
  | succ n ih =>
    intro r0 x1 x2 x3 x4 x5 h
    rw [fX6_faultOfDay_b30] at h
    refine z_iload (pc := 30) C 5 dX6_faultOfDay_30 rfl ?_
    refine z_iload (pc := 32) C 4 dX6_faultOfDay_32 rfl ?_
    refine z_ic_ge (pc := 34) C dX6_faultOfDay_34 (tgt := 76) (by decide) (fun c1 => ?_) (fun c1 => ?_)
    · rw [if_pos c1] at h
      exact z_subL [0, 1, 2, 4] (wfX6_faultOfDay_b76 C E k2 hk2 r0 x1 x2 x4 h) rfl
    · rw [if_neg c1] at h
      refine z_iload_n (pc := 37) C 2 dX6_faultOfDay_37 rfl rfl ?_
      refine z_iload (pc := 38) C 5 dX6_faultOfDay_38 rfl ?_
      refine z_iadd (pc := 40) C dX6_faultOfDay_40 ?_
      refine z_iload_n (pc := 41) C 1 dX6_faultOfDay_41 rfl rfl ?_
      refine z_ic_lt (pc := 42) C dX6_faultOfDay_42 (tgt := 47) (by decide) (fun c2 => ?_) (fun c2 => ?_)
      · rw [if_pos c2] at h
        refine z_iload_n (pc := 47) C 3 dX6_faultOfDay_47 rfl rfl ?_
        refine z_iload (pc := 48) C 5 dX6_faultOfDay_48 rfl ?_
        refine z_aload_n (pc := 50) C 0 dX6_faultOfDay_50 rfl rfl ?_
        obtain ⟨qv3, eqv3, h⟩ := ob1_eq h
        refine z_fr (pc := 51) C dX6_faultOfDay_51 fl_X6_9 eqv3 ?_
        refine z_iload_n (pc := 54) C 2 dX6_faultOfDay_54 rfl rfl ?_
        refine z_iload (pc := 55) C 5 dX6_faultOfDay_55 rfl ?_
        refine z_iadd (pc := 57) C dX6_faultOfDay_57 ?_
        obtain ⟨v4, ev4, h⟩ := ob1_eq h
        refine z_aR (pc := 58) C dX6_faultOfDay_58 ev4 ?_
        obtain ⟨v5, ev5, h⟩ := ob1_eq h
        refine z_callSi (As := [.int x3, .int x5, .int v4]) (rest := []) (pc := 59) C dX6_faultOfDay_59 ml_X6_355 (kX6_mayStand _ _ _ _ G x3 x5 v4 _ ev5) rfl rfl (Nat.le_of_ble_eq_true rfl) (by decide) ?_
        refine z_if_ne (pc := 62) C dX6_faultOfDay_62 (tgt := 70) (by decide) (fun c6 => ?_) (fun c6 => ?_)
        · rw [if_neg c6] at h
          obtain ⟨y7, ey7, h⟩ := zlet_eq h
          refine z_iinc (pc := 70) (v := y7) C 5 dX6_faultOfDay_70 rfl (by rw [ey7]; rfl) (by decide) (show zput _ _ _ = [(5, .int y7), (0, .ref r0), (1, .int x1), (2, .int x2), (3, .int x3), (4, .int x4)] from rfl) ?_
          refine z_goto (pc := 73) C dX6_faultOfDay_73 (tgt := 30) (by decide) ?_
          exact z_subL [1, 2, 3, 4, 5, 0] (ih r0 x1 x2 x3 x4 y7 h) rfl
        · rw [if_pos c6] at h
          refine z_iload_n (pc := 65) C 2 dX6_faultOfDay_65 rfl rfl ?_
          refine z_iload (pc := 66) C 5 dX6_faultOfDay_66 rfl ?_
          refine z_iadd (pc := 68) C dX6_faultOfDay_68 ?_
          obtain rfl := Option.some.inj h
          exact z_iret (pc := 69) C E dX6_faultOfDay_69 ⟨rfl, rfl⟩
      · rw [if_neg c2] at h
        refine z_iload_n (pc := 45) C 1 dX6_faultOfDay_45 rfl rfl ?_
        obtain rfl := Option.some.inj h
        exact z_iret (pc := 46) C E dX6_faultOfDay_46 ⟨rfl, rfl⟩
def fX6_faultOfDay_b2 (G : zH) : Nat → Nat → Int32 → Int32 → Option Int32
  | 0, _, _, _ => none
  | n + 1, r0, x1, x2 =>
    if x1 ≤ x2 then (some (-1 : Int32)) else
    ob1 (frf G r0 6 0) fun qv2 =>
    ob1 (aR G 0 qv2 x2) fun v3 =>
    ob1 (fX6_lengthOfAct v3) fun v4 =>
    if v4 = 0 then (some x2) else
    fX6_faultOfDay_b30 G (fX6_faultOfDay_b2 G n) FU r0 x1 x2 v3 v4 (1 : Int32)
set_option maxRecDepth 100000 in
set_option maxHeartbeats 4000000 in
theorem wfX6_faultOfDay_b2 {X : zX} {G : zH} {out : Int32} (C : zOK X cX6_faultOfDay yX6_faultOfDay.cls 6 (some .int) 2 42) (E : zPost X (poI out G)) : ∀ (n : Nat) (r0 : Nat) (x1 : Int32) (x2 : Int32) (h : fX6_faultOfDay_b2 G n r0 x1 x2 = some out), zZ X 2 [(0, .ref r0), (1, .int x1), (2, .int x2)] [] G := by
  intro n
  induction n with
  | zero => intro r0 x1 x2 h; cases h
  | succ n ih =>
    intro r0 x1 x2 h
    rw [fX6_faultOfDay_b2] at h
    refine z_iload_n (pc := 2) C 2 dX6_faultOfDay_2 rfl rfl ?_
    refine z_iload_n (pc := 3) C 1 dX6_faultOfDay_3 rfl rfl ?_
    refine z_ic_ge (pc := 4) C dX6_faultOfDay_4 (tgt := 84) (by decide) (fun c1 => ?_) (fun c1 => ?_)
    · rw [if_pos c1] at h
      refine z_iconst (pc := 84) C dX6_faultOfDay_84 (v := (-1 : Int32)) (by decide) ?_
      obtain rfl := Option.some.inj h
      exact z_iret (pc := 85) C E dX6_faultOfDay_85 ⟨rfl, rfl⟩
    · rw [if_neg c1] at h
      refine z_aload_n (pc := 7) C 0 dX6_faultOfDay_7 rfl rfl ?_
      obtain ⟨qv2, eqv2, h⟩ := ob1_eq h
      refine z_fr (pc := 8) C dX6_faultOfDay_8 fl_X6_9 eqv2 ?_
      refine z_iload_n (pc := 11) C 2 dX6_faultOfDay_11 rfl rfl ?_
      obtain ⟨v3, ev3, h⟩ := ob1_eq h
      refine z_aR (pc := 12) C dX6_faultOfDay_12 ev3 ?_
      refine z_istore_n (pc := 13) C dX6_faultOfDay_13 rfl (by decide) (show zput _ _ _ = [(3, .int v3), (0, .ref r0), (1, .int x1), (2, .int x2)] from rfl) ?_
      refine z_iload_n (pc := 14) C 0 dX6_faultOfDay_14 rfl rfl ?_
      obtain ⟨v4, ev4, h⟩ := ob1_eq h
      refine z_callSi (As := [.int v3]) (rest := []) (pc := 15) C dX6_faultOfDay_15 ml_X6_209 (kX6_lengthOfAct _ _ _ _ G v3 _ ev4) rfl rfl (Nat.le_of_ble_eq_true rfl) (by decide) ?_
      refine z_istore (pc := 18) C dX6_faultOfDay_18 (by decide) (show zput _ _ _ = [(4, .int v4), (3, .int v3), (0, .ref r0), (1, .int x1), (2, .int x2)] from rfl) ?_
      refine z_iload (pc := 20) C 0 dX6_faultOfDay_20 rfl ?_
      refine z_if_ne (pc := 22) C dX6_faultOfDay_22 (tgt := 27) (by decide) (fun c5 => ?_) (fun c5 => ?_)
      · rw [if_neg c5] at h
        refine z_iconst (pc := 27) C dX6_faultOfDay_27 (v := (1 : Int32)) (by decide) ?_
        refine z_istore (pc := 28) C dX6_faultOfDay_28 (by decide) (show zput _ _ _ = [(5, .int (1 : Int32)), (4, .int v4), (3, .int v3), (0, .ref r0), (1, .int x1), (2, .int x2)] from rfl) ?_
        exact z_subL [3, 4, 5, 2, 1, 0] (wfX6_faultOfDay_b30 C E (fX6_faultOfDay_b2 G n) ih FU r0 x1 x2 v3 v4 (1 : Int32) h) rfl
      · rw [if_pos c5] at h
        refine z_iload_n (pc := 25) C 4 dX6_faultOfDay_25 rfl rfl ?_
        obtain rfl := Option.some.inj h
        exact z_iret (pc := 26) C E dX6_faultOfDay_26 ⟨rfl, rfl⟩
def fX6_faultOfDay (G : zH) (r0 : Nat) (x1 : Int32) : Option Int32 :=
    fX6_faultOfDay_b2 G FU r0 x1 (0 : Int32)
set_option maxRecDepth 100000 in
set_option maxHeartbeats 4000000 in
theorem wfX6_faultOfDay {X : zX} {G : zH} {out : Int32} (C : zOK X cX6_faultOfDay yX6_faultOfDay.cls 6 (some .int) 2 42) (E : zPost X (poI out G)) (r0 : Nat) (x1 : Int32) (h : fX6_faultOfDay G r0 x1 = some out) : zZ X 0 [(0, .ref r0), (1, .int x1)] [] G := by
  rw [fX6_faultOfDay] at h
  refine z_iconst (pc := 0) C dX6_faultOfDay_0 (v := (0 : Int32)) (by decide) ?_
  refine z_istore_n (pc := 1) C dX6_faultOfDay_1 rfl (by decide) (show zput _ _ _ = [(2, .int (0 : Int32)), (0, .ref r0), (1, .int x1)] from rfl) ?_
  exact z_subL [1, 2, 0] (wfX6_faultOfDay_b2 C E FU r0 x1 (0 : Int32) h) rfl
theorem kX6_faultOfDay (l : Launch) (D : va_G) (cA : Nat → ClassId) (b : Nat) (G : zH) (r0 : Nat) (x1 : Int32) (out : Int32) (h : fX6_faultOfDay G r0 x1 = some out) : zM l D cA b yX6_faultOfDay cX6_faultOfDay 6 (some .int) 2 42 [.ref r0, .int x1] G (poI out G) := z_entry rfl (Nat.le_of_ble_eq_true rfl) (fun X C E _ _ _ => wfX6_faultOfDay C E r0 x1 h)
def fX6_numberAt_b5 (G : zH) : Nat → Nat → Int32 → Int32 → Int32 → Int32 → Option Int32
  | 0, _, _, _, _, _ => none
  | n + 1, r0, x1, x2, x3, x4 =>
    if (x1 + x2) ≤ x4 then (some x3) else
    ob1 (frf G r0 6 0) fun qv2 =>
    ob1 (aL G 0 qv2) fun v3 =>
    if v3 ≤ x4 then (some x3) else
    ob1 (frf G r0 6 0) fun qv5 =>
    ob1 (aR G 0 qv5 x4) fun v6 =>
    zlet ((((x3 * (10 : Int32)) + v6) - (48 : Int32))) fun y7 =>
    zlet (x4 + (1 : Int32)) fun y8 =>
    (fX6_numberAt_b5 G n) r0 x1 x2 y7 y8
set_option maxRecDepth 100000 in
set_option maxHeartbeats 4000000 in
theorem wfX6_numberAt_b5 {X : zX} {G : zH} {out : Int32} (C : zOK X cX6_numberAt yX6_numberAt.cls 5 (some .int) 0 0) (E : zPost X (poI out G)) : ∀ (n : Nat) (r0 : Nat) (x1 : Int32) (x2 : Int32) (x3 : Int32) (x4 : Int32) (h : fX6_numberAt_b5 G n r0 x1 x2 x3 x4 = some out), zZ X 5 [(0, .ref r0), (1, .int x1), (2, .int x2), (3, .int x3), (4, .int x4)] [] G := by
  intro n
  induction n with
  | zero => intro r0 x1 x2 x3 x4 h; cases h
  | succ n ih =>
    intro r0 x1 x2 x3 x4 h
    rw [fX6_numberAt_b5] at h
    refine z_iload (pc := 5) C 4 dX6_numberAt_5 rfl ?_
    refine z_iload_n (pc := 7) C 1 dX6_numberAt_7 rfl rfl ?_
    refine z_iload_n (pc := 8) C 2 dX6_numberAt_8 rfl rfl ?_
    refine z_iadd (pc := 9) C dX6_numberAt_9 ?_
    refine z_ic_ge (pc := 10) C dX6_numberAt_10 (tgt := 45) (by decide) (fun c1 => ?_) (fun c1 => ?_)
    · rw [if_pos c1] at h
      refine z_iload_n (pc := 45) C 3 dX6_numberAt_45 rfl rfl ?_
      obtain rfl := Option.some.inj h
      exact z_iret (pc := 46) C E dX6_numberAt_46 ⟨rfl, rfl⟩
    · rw [if_neg c1] at h
      refine z_iload (pc := 13) C 4 dX6_numberAt_13 rfl ?_
      refine z_aload_n (pc := 15) C 0 dX6_numberAt_15 rfl rfl ?_
      obtain ⟨qv2, eqv2, h⟩ := ob1_eq h
      refine z_fr (pc := 16) C dX6_numberAt_16 fl_X6_9 eqv2 ?_
      obtain ⟨v3, ev3, h⟩ := ob1_eq h
      refine z_aL (pc := 19) C dX6_numberAt_19 (by decide) ev3 ?_
      refine z_ic_ge (pc := 20) C dX6_numberAt_20 (tgt := 45) (by decide) (fun c4 => ?_) (fun c4 => ?_)
      · rw [if_pos c4] at h
        refine z_iload_n (pc := 45) C 3 dX6_numberAt_45 rfl rfl ?_
        obtain rfl := Option.some.inj h
        exact z_iret (pc := 46) C E dX6_numberAt_46 ⟨rfl, rfl⟩
      · rw [if_neg c4] at h
        refine z_iload_n (pc := 23) C 3 dX6_numberAt_23 rfl rfl ?_
        refine z_bipush (pc := 24) C dX6_numberAt_24 (v := (10 : Int32)) (by decide) ?_
        refine z_imul (pc := 26) C dX6_numberAt_26 ?_
        refine z_aload_n (pc := 27) C 0 dX6_numberAt_27 rfl rfl ?_
        obtain ⟨qv5, eqv5, h⟩ := ob1_eq h
        refine z_fr (pc := 28) C dX6_numberAt_28 fl_X6_9 eqv5 ?_
        refine z_iload (pc := 31) C 4 dX6_numberAt_31 rfl ?_
        obtain ⟨v6, ev6, h⟩ := ob1_eq h
        refine z_aR (pc := 33) C dX6_numberAt_33 ev6 ?_
        refine z_iadd (pc := 34) C dX6_numberAt_34 ?_
        refine z_bipush (pc := 35) C dX6_numberAt_35 (v := (48 : Int32)) (by decide) ?_
        refine z_isub (pc := 37) C dX6_numberAt_37 ?_
        obtain ⟨y7, ey7, h⟩ := zlet_eq h
        refine z_topi ey7 ?_
        refine z_istore_n (pc := 38) C dX6_numberAt_38 rfl (by decide) (show zput _ _ _ = [(3, .int y7), (0, .ref r0), (1, .int x1), (2, .int x2), (4, .int x4)] from rfl) ?_
        obtain ⟨y8, ey8, h⟩ := zlet_eq h
        refine z_iinc (pc := 39) (v := y8) C 4 dX6_numberAt_39 rfl (by rw [ey8]; rfl) (by decide) (show zput _ _ _ = [(4, .int y8), (3, .int y7), (0, .ref r0), (1, .int x1), (2, .int x2)] from rfl) ?_
        refine z_goto (pc := 42) C dX6_numberAt_42 (tgt := 5) (by decide) ?_
        exact z_subL [2, 3, 4, 1, 0] (ih r0 x1 x2 y7 y8 h) rfl
def fX6_numberAt (G : zH) (r0 : Nat) (x1 : Int32) (x2 : Int32) : Option Int32 :=
    fX6_numberAt_b5 G FU r0 x1 x2 (0 : Int32) x1
set_option maxRecDepth 100000 in
set_option maxHeartbeats 4000000 in
theorem wfX6_numberAt {X : zX} {G : zH} {out : Int32} (C : zOK X cX6_numberAt yX6_numberAt.cls 5 (some .int) 0 0) (E : zPost X (poI out G)) (r0 : Nat) (x1 : Int32) (x2 : Int32) (h : fX6_numberAt G r0 x1 x2 = some out) : zZ X 0 [(0, .ref r0), (1, .int x1), (2, .int x2)] [] G := by
  rw [fX6_numberAt] at h
  refine z_iconst (pc := 0) C dX6_numberAt_0 (v := (0 : Int32)) (by decide) ?_
  refine z_istore_n (pc := 1) C dX6_numberAt_1 rfl (by decide) (show zput _ _ _ = [(3, .int (0 : Int32)), (0, .ref r0), (1, .int x1), (2, .int x2)] from rfl) ?_
  refine z_iload_n (pc := 2) C 2 dX6_numberAt_2 rfl rfl ?_
  refine z_istore (pc := 3) C dX6_numberAt_3 (by decide) (show zput _ _ _ = [(4, .int x1), (3, .int (0 : Int32)), (0, .ref r0), (1, .int x1), (2, .int x2)] from rfl) ?_
  exact z_subL [2, 3, 4, 1, 0] (wfX6_numberAt_b5 C E FU r0 x1 x2 (0 : Int32) x1 h) rfl
theorem kX6_numberAt (l : Launch) (D : va_G) (cA : Nat → ClassId) (b : Nat) (G : zH) (r0 : Nat) (x1 : Int32) (x2 : Int32) (out : Int32) (h : fX6_numberAt G r0 x1 x2 = some out) : zM l D cA b yX6_numberAt cX6_numberAt 5 (some .int) 0 0 [.ref r0, .int x1, .int x2] G (poI out G) := z_entry rfl (Nat.le_of_ble_eq_true rfl) (fun X C E _ _ _ => wfX6_numberAt C E r0 x1 x2 h)
def fX6_undo (G : zH) (r0 : Nat) : Option (Int32 × zH) :=
    ob1 (frf G r0 6 4) fun qv1 =>
    ob1 (fi G qv1 1 2) fun v2 =>
    if (1 : Int32) ≤ v2 then (ob1 (frf G r0 6 4) fun qv4 =>
    ob1 (isO G qv4 1) fun u5 =>
    ob1 (fX1_goBack G qv4 ) fun G7 =>
    ob1 (isO G7 r0 6) fun u8 =>
    ob1 (fX6_bookIsOther G7 r0 ) fun G10 =>
    ob1 (frf G10 r0 6 4) fun qv11 =>
    ob1 (fi G10 qv11 1 2) fun v12 =>
    some (v12, G10)) else
    some ((-1 : Int32), G)
set_option maxRecDepth 100000 in
set_option maxHeartbeats 4000000 in
theorem wfX6_undo {X : zX} {out : Int32 × zH} (C : zOK X cX6_undo yX6_undo.cls 1 (some .int) 2 42) (E : zPost X (poI out.1 out.2)) (G : zH) (r0 : Nat) (h : fX6_undo G r0 = some out) : zZ X 0 [(0, .ref r0)] [] G := by
  rw [fX6_undo] at h
  refine z_aload_n (pc := 0) C 0 dX6_undo_0 rfl rfl ?_
  obtain ⟨qv1, eqv1, h⟩ := ob1_eq h
  refine z_fr (pc := 1) C dX6_undo_1 fl_X6_30 eqv1 ?_
  obtain ⟨v2, ev2, h⟩ := ob1_eq h
  refine z_fi (pc := 4) C dX6_undo_4 fl_X6_221 ev2 ?_
  refine z_iconst (pc := 7) C dX6_undo_7 (v := (1 : Int32)) (by decide) ?_
  refine z_ic_ge (pc := 8) C dX6_undo_8 (tgt := 13) (by decide) (fun c3 => ?_) (fun c3 => ?_)
  · rw [if_pos c3] at h
    refine z_aload_n (pc := 13) C 0 dX6_undo_13 rfl rfl ?_
    obtain ⟨qv4, eqv4, h⟩ := ob1_eq h
    refine z_fr (pc := 14) C dX6_undo_14 fl_X6_30 eqv4 ?_
    obtain ⟨u5, eu5, h⟩ := ob1_eq h
    obtain ⟨w6, ew6⟩ := isO_eq eu5
    obtain ⟨G7, eG7, h⟩ := ob1_eq h
    refine z_callVv (h := qv4) (As := []) (rest := []) (pc := 17) C dX6_undo_17 ml_X6_224 (kX1_goBack _ _ _ _ G qv4  G7 eG7) ew6 rfl rfl rfl (Nat.le_of_ble_eq_true rfl) (by decide) ?_
    refine z_aload_n (pc := 20) C 0 dX6_undo_20 rfl rfl ?_
    obtain ⟨u8, eu8, h⟩ := ob1_eq h
    obtain ⟨w9, ew9⟩ := isO_eq eu8
    obtain ⟨G10, eG10, h⟩ := ob1_eq h
    refine z_callVv (h := r0) (As := []) (rest := []) (pc := 21) C dX6_undo_21 ml_X6_101 (kX6_bookIsOther _ _ _ _ G7 r0  G10 eG10) ew9 rfl rfl rfl (Nat.le_of_ble_eq_true rfl) (by decide) ?_
    refine z_aload_n (pc := 24) C 0 dX6_undo_24 rfl rfl ?_
    obtain ⟨qv11, eqv11, h⟩ := ob1_eq h
    refine z_fr (pc := 25) C dX6_undo_25 fl_X6_30 eqv11 ?_
    obtain ⟨v12, ev12, h⟩ := ob1_eq h
    refine z_fi (pc := 28) C dX6_undo_28 fl_X6_221 ev12 ?_
    obtain rfl := Option.some.inj h
    exact z_iret (pc := 31) C E dX6_undo_31 ⟨rfl, rfl⟩
  · rw [if_neg c3] at h
    refine z_iconst (pc := 11) C dX6_undo_11 (v := (-1 : Int32)) (by decide) ?_
    obtain rfl := Option.some.inj h
    exact z_iret (pc := 12) C E dX6_undo_12 ⟨rfl, rfl⟩
theorem kX6_undo (l : Launch) (D : va_G) (cA : Nat → ClassId) (b : Nat) (G : zH) (r0 : Nat) (out : Int32 × zH) (h : fX6_undo G r0 = some out) : zM l D cA b yX6_undo cX6_undo 1 (some .int) 2 42 [.ref r0] G (poI out.1 out.2) := z_entry rfl (Nat.le_of_ble_eq_true rfl) (fun X C E _ _ _ => wfX6_undo C E G r0 h)
def fX6_redo (G : zH) (r0 : Nat) : Option (Int32 × zH) :=
    ob1 (frf G r0 6 4) fun qv1 =>
    ob1 (fi G qv1 1 3) fun v2 =>
    if (1 : Int32) ≤ v2 then (ob1 (frf G r0 6 4) fun qv4 =>
    ob1 (isO G qv4 1) fun u5 =>
    ob1 (fX1_goOn G qv4 ) fun G7 =>
    ob1 (isO G7 r0 6) fun u8 =>
    ob1 (fX6_bookIsOther G7 r0 ) fun G10 =>
    ob1 (frf G10 r0 6 4) fun qv11 =>
    ob1 (fi G10 qv11 1 3) fun v12 =>
    some (v12, G10)) else
    some ((-1 : Int32), G)
set_option maxRecDepth 100000 in
set_option maxHeartbeats 4000000 in
theorem wfX6_redo {X : zX} {out : Int32 × zH} (C : zOK X cX6_redo yX6_redo.cls 1 (some .int) 1 20) (E : zPost X (poI out.1 out.2)) (G : zH) (r0 : Nat) (h : fX6_redo G r0 = some out) : zZ X 0 [(0, .ref r0)] [] G := by
  rw [fX6_redo] at h
  refine z_aload_n (pc := 0) C 0 dX6_redo_0 rfl rfl ?_
  obtain ⟨qv1, eqv1, h⟩ := ob1_eq h
  refine z_fr (pc := 1) C dX6_redo_1 fl_X6_30 eqv1 ?_
  obtain ⟨v2, ev2, h⟩ := ob1_eq h
  refine z_fi (pc := 4) C dX6_redo_4 fl_X6_227 ev2 ?_
  refine z_iconst (pc := 7) C dX6_redo_7 (v := (1 : Int32)) (by decide) ?_
  refine z_ic_ge (pc := 8) C dX6_redo_8 (tgt := 13) (by decide) (fun c3 => ?_) (fun c3 => ?_)
  · rw [if_pos c3] at h
    refine z_aload_n (pc := 13) C 0 dX6_redo_13 rfl rfl ?_
    obtain ⟨qv4, eqv4, h⟩ := ob1_eq h
    refine z_fr (pc := 14) C dX6_redo_14 fl_X6_30 eqv4 ?_
    obtain ⟨u5, eu5, h⟩ := ob1_eq h
    obtain ⟨w6, ew6⟩ := isO_eq eu5
    obtain ⟨G7, eG7, h⟩ := ob1_eq h
    refine z_callVv (h := qv4) (As := []) (rest := []) (pc := 17) C dX6_redo_17 ml_X6_230 (kX1_goOn _ _ _ _ G qv4  G7 eG7) ew6 rfl rfl rfl (Nat.le_of_ble_eq_true rfl) (by decide) ?_
    refine z_aload_n (pc := 20) C 0 dX6_redo_20 rfl rfl ?_
    obtain ⟨u8, eu8, h⟩ := ob1_eq h
    obtain ⟨w9, ew9⟩ := isO_eq eu8
    obtain ⟨G10, eG10, h⟩ := ob1_eq h
    refine z_callVv (h := r0) (As := []) (rest := []) (pc := 21) C dX6_redo_21 ml_X6_101 (kX6_bookIsOther _ _ _ _ G7 r0  G10 eG10) ew9 rfl rfl rfl (Nat.le_of_ble_eq_true rfl) (by decide) ?_
    refine z_aload_n (pc := 24) C 0 dX6_redo_24 rfl rfl ?_
    obtain ⟨qv11, eqv11, h⟩ := ob1_eq h
    refine z_fr (pc := 25) C dX6_redo_25 fl_X6_30 eqv11 ?_
    obtain ⟨v12, ev12, h⟩ := ob1_eq h
    refine z_fi (pc := 28) C dX6_redo_28 fl_X6_227 ev12 ?_
    obtain rfl := Option.some.inj h
    exact z_iret (pc := 31) C E dX6_redo_31 ⟨rfl, rfl⟩
  · rw [if_neg c3] at h
    refine z_iconst (pc := 11) C dX6_redo_11 (v := (-1 : Int32)) (by decide) ?_
    obtain rfl := Option.some.inj h
    exact z_iret (pc := 12) C E dX6_redo_12 ⟨rfl, rfl⟩
theorem kX6_redo (l : Launch) (D : va_G) (cA : Nat → ClassId) (b : Nat) (G : zH) (r0 : Nat) (out : Int32 × zH) (h : fX6_redo G r0 = some out) : zM l D cA b yX6_redo cX6_redo 1 (some .int) 1 20 [.ref r0] G (poI out.1 out.2) := z_entry rfl (Nat.le_of_ble_eq_true rfl) (fun X C E _ _ _ => wfX6_redo C E G r0 h)
def fX6_doAct_b137 (G : zH) (s0 : Int32) (s1 : Int32) (s2 : Nat) : Option (Int32 × zH) :=
    ob1 (isO G s2 6) fun u1 =>
    ob2 (fX6_type G s2 s1 s0) fun v4 G3 =>
    some (v4, G3)
set_option maxRecDepth 100000 in
set_option maxHeartbeats 4000000 in
theorem wfX6_doAct_b137 {X : zX} {out : Int32 × zH} (C : zOK X cX6_doAct yX6_doAct.cls 3 (some .int) 7 164) (E : zPost X (poI out.1 out.2)) (G : zH) (s0 : Int32) (s1 : Int32) (s2 : Nat) (h : fX6_doAct_b137 G s0 s1 s2 = some out) : zZ X 137 [] [.int s0, .int s1, .ref s2] G := by
  rw [fX6_doAct_b137] at h
  obtain ⟨u1, eu1, h⟩ := ob1_eq h
  obtain ⟨w2, ew2⟩ := isO_eq eu1
  obtain ⟨v4, G3, ev4, h⟩ := ob2_eq h
  refine z_callVi (h := s2) (As := [.int s1, .int s0]) (rest := []) (pc := 137) C dX6_doAct_137 ml_X6_361 (kX6_type _ _ _ _ G s2 s1 s0 (v4, G3) ev4) ew2 rfl rfl rfl (Nat.le_of_ble_eq_true rfl) (by decide) ?_
  obtain rfl := Option.some.inj h
  exact z_iret (pc := 140) C E dX6_doAct_140 ⟨rfl, rfl⟩
def fX6_doAct_b115 (G : zH) (r0 : Nat) (x1 : Int32) (s0 : Int32) : Option (Int32 × zH) :=
    ob1 (isO G r0 6) fun u1 =>
    ob1 (fX6_numberAt G r0 (x1 + (1 : Int32)) (4 : Int32)) fun v3 =>
    if s0 = (47 : Int32) then (fX6_doAct_b137 G (10 : Int32) v3 r0) else
    fX6_doAct_b137 G s0 v3 r0
set_option maxRecDepth 100000 in
set_option maxHeartbeats 4000000 in
theorem wfX6_doAct_b115 {X : zX} {out : Int32 × zH} (C : zOK X cX6_doAct yX6_doAct.cls 3 (some .int) 7 164) (E : zPost X (poI out.1 out.2)) (G : zH) (r0 : Nat) (x1 : Int32) (s0 : Int32) (h : fX6_doAct_b115 G r0 x1 s0 = some out) : zZ X 115 [(0, .ref r0), (1, .int x1)] [.int s0] G := by
  rw [fX6_doAct_b115] at h
  refine z_istore_n (pc := 115) C dX6_doAct_115 rfl (by decide) (show zput _ _ _ = [(2, .int s0), (0, .ref r0), (1, .int x1)] from rfl) ?_
  refine z_aload_n (pc := 116) C 1 dX6_doAct_116 rfl rfl ?_
  refine z_aload_n (pc := 117) C 1 dX6_doAct_117 rfl rfl ?_
  refine z_iload_n (pc := 118) C 2 dX6_doAct_118 rfl rfl ?_
  refine z_iconst (pc := 119) C dX6_doAct_119 (v := (1 : Int32)) (by decide) ?_
  refine z_iadd (pc := 120) C dX6_doAct_120 ?_
  refine z_iconst (pc := 121) C dX6_doAct_121 (v := (4 : Int32)) (by decide) ?_
  obtain ⟨u1, eu1, h⟩ := ob1_eq h
  obtain ⟨w2, ew2⟩ := isO_eq eu1
  obtain ⟨v3, ev3, h⟩ := ob1_eq h
  refine z_callVi (h := r0) (As := [.int (x1 + (1 : Int32)), .int (4 : Int32)]) (rest := [.ref r0]) (pc := 122) C dX6_doAct_122 ml_X6_358 (kX6_numberAt _ _ _ _ G r0 (x1 + (1 : Int32)) (4 : Int32) v3 ev3) ew2 rfl rfl rfl (Nat.le_of_ble_eq_true rfl) (by decide) ?_
  refine z_iload_n (pc := 125) C 0 dX6_doAct_125 rfl rfl ?_
  refine z_bipush (pc := 126) C dX6_doAct_126 (v := (47 : Int32)) (by decide) ?_
  refine z_ic_ne (pc := 128) C dX6_doAct_128 (tgt := 136) (by decide) (fun c4 => ?_) (fun c4 => ?_)
  · rw [if_neg c4] at h
    refine z_iload_n (pc := 136) C 0 dX6_doAct_136 rfl rfl ?_
    exact z_subL [] (wfX6_doAct_b137 C E G s0 v3 r0 h) rfl
  · rw [if_pos c4] at h
    refine z_bipush (pc := 131) C dX6_doAct_131 (v := (10 : Int32)) (by decide) ?_
    refine z_goto (pc := 133) C dX6_doAct_133 (tgt := 137) (by decide) ?_
    exact z_subL [] (wfX6_doAct_b137 C E G (10 : Int32) v3 r0 h) rfl
def fX6_doAct (G : zH) (r0 : Nat) (x1 : Int32) : Option (Int32 × zH) :=
    ob1 (frf G r0 6 0) fun qv1 =>
    ob1 (aR G 0 qv1 x1) fun v2 =>
    if v2 = (100 : Int32) then (ob1 (isO G r0 6) fun u4 =>
    ob1 (fX6_numberAt G r0 (x1 + (1 : Int32)) (4 : Int32)) fun v6 =>
    ob1 (isO G r0 6) fun u7 =>
    ob1 (fX6_numberAt G r0 (x1 + (5 : Int32)) (2 : Int32)) fun v9 =>
    ob1 (isO G r0 6) fun u10 =>
    ob2 (fX6_takes G r0 v6 v9) fun v13 G12 =>
    some (v13, G12)) else
    if v2 = (101 : Int32) then (ob1 (isO G r0 6) fun u15 =>
    ob2 (fX6_redo G r0 ) fun v18 G17 =>
    some (v18, G17)) else
    if v2 = (102 : Int32) then (ob1 (isO G r0 6) fun u20 =>
    ob2 (fX6_redo G r0 ) fun v23 G22 =>
    some (v23, G22)) else
    if v2 = (103 : Int32) then (ob1 (isO G r0 6) fun u25 =>
    ob2 (fX6_redo G r0 ) fun v28 G27 =>
    some (v28, G27)) else
    if v2 = (104 : Int32) then (ob1 (isO G r0 6) fun u30 =>
    ob2 (fX6_heals G r0 ) fun v33 G32 =>
    some (v33, G32)) else
    if v2 = (105 : Int32) then (ob1 (frf G r0 6 0) fun qv35 =>
    ob1 (aL G 0 qv35) fun v36 =>
    if v36 ≤ (x1 + (5 : Int32)) then (fX6_doAct_b115 G r0 x1 (0 : Int32)) else
    ob1 (frf G r0 6 0) fun qv38 =>
    ob1 (aR G 0 qv38 (x1 + (5 : Int32))) fun v39 =>
    fX6_doAct_b115 G r0 x1 v39) else
    if v2 = (106 : Int32) then (ob1 (isO G r0 6) fun u41 =>
    ob2 (fX6_redo G r0 ) fun v44 G43 =>
    some (v44, G43)) else
    if v2 = (107 : Int32) then (ob1 (isO G r0 6) fun u46 =>
    ob2 (fX6_redo G r0 ) fun v49 G48 =>
    some (v49, G48)) else
    if v2 = (108 : Int32) then (ob1 (isO G r0 6) fun u51 =>
    ob1 (fX6_numberAt G r0 (x1 + (1 : Int32)) (4 : Int32)) fun v53 =>
    ob1 (isO G r0 6) fun u54 =>
    ob1 (fX6_numberAt G r0 (x1 + (5 : Int32)) (2 : Int32)) fun v56 =>
    ob1 (isO G r0 6) fun u57 =>
    ob1 (fX6_numberAt G r0 (x1 + (7 : Int32)) (4 : Int32)) fun v59 =>
    ob1 (isO G r0 6) fun u60 =>
    ob2 (fX6_lays G r0 v53 v56 v59) fun v63 G62 =>
    some (v63, G62)) else
    if v2 = (109 : Int32) then (ob1 (isO G r0 6) fun u65 =>
    ob1 (fX6_numberAt G r0 (x1 + (1 : Int32)) (4 : Int32)) fun v67 =>
    ob1 (isO G r0 6) fun u68 =>
    ob1 (fX6_numberAt G r0 (x1 + (5 : Int32)) (2 : Int32)) fun v70 =>
    ob1 (isO G r0 6) fun u71 =>
    ob1 (fX6_numberAt G r0 (x1 + (7 : Int32)) (4 : Int32)) fun v73 =>
    ob1 (isO G r0 6) fun u74 =>
    ob2 (fX6_moves G r0 v67 v70 v73) fun v77 G76 =>
    some (v77, G76)) else
    if v2 = (110 : Int32) then (ob1 (isO G r0 6) fun u79 =>
    ob2 (fX6_redo G r0 ) fun v82 G81 =>
    some (v82, G81)) else
    if v2 = (111 : Int32) then (ob1 (isO G r0 6) fun u84 =>
    ob2 (fX6_redo G r0 ) fun v87 G86 =>
    some (v87, G86)) else
    if v2 = (112 : Int32) then (ob1 (isO G r0 6) fun u89 =>
    ob2 (fX6_redo G r0 ) fun v92 G91 =>
    some (v92, G91)) else
    if v2 = (113 : Int32) then (ob1 (isO G r0 6) fun u94 =>
    ob2 (fX6_redo G r0 ) fun v97 G96 =>
    some (v97, G96)) else
    if v2 = (114 : Int32) then (ob1 (isO G r0 6) fun u99 =>
    ob2 (fX6_redo G r0 ) fun v102 G101 =>
    some (v102, G101)) else
    if v2 = (115 : Int32) then (ob1 (isO G r0 6) fun u104 =>
    ob2 (fX6_redo G r0 ) fun v107 G106 =>
    some (v107, G106)) else
    if v2 = (116 : Int32) then (ob1 (isO G r0 6) fun u109 =>
    ob2 (fX6_redo G r0 ) fun v112 G111 =>
    some (v112, G111)) else
    if v2 = (117 : Int32) then (ob1 (isO G r0 6) fun u114 =>
    ob2 (fX6_undo G r0 ) fun v117 G116 =>
    some (v117, G116)) else
    if v2.toInt < 100 ∨ 117 < v2.toInt then (ob1 (isO G r0 6) fun u119 =>
    ob2 (fX6_redo G r0 ) fun v122 G121 =>
    some (v122, G121)) else none
set_option maxRecDepth 100000 in
set_option maxHeartbeats 4000000 in
theorem wfX6_doAct {X : zX} {out : Int32 × zH} (C : zOK X cX6_doAct yX6_doAct.cls 3 (some .int) 7 164) (E : zPost X (poI out.1 out.2)) (G : zH) (r0 : Nat) (x1 : Int32) (h : fX6_doAct G r0 x1 = some out) : zZ X 0 [(0, .ref r0), (1, .int x1)] [] G := by
  rw [fX6_doAct] at h
  refine z_aload_n (pc := 0) C 0 dX6_doAct_0 rfl rfl ?_
  obtain ⟨qv1, eqv1, h⟩ := ob1_eq h
  refine z_fr (pc := 1) C dX6_doAct_1 fl_X6_9 eqv1 ?_
  refine z_iload_n (pc := 4) C 1 dX6_doAct_4 rfl rfl ?_
  obtain ⟨v2, ev2, h⟩ := ob1_eq h
  refine z_aR (pc := 5) C dX6_doAct_5 ev2 ?_
  by_cases c3 : v2 = (100 : Int32)
  · rw [if_pos c3] at h
    refine z_tableIn (pc := 6) (tgt := 141) (off := 135) C dX6_doAct_6 (by rw [c3]; decide) (by rw [c3]; decide) (by rw [c3]; decide) (by decide) ?_
    refine z_aload_n (pc := 141) C 0 dX6_doAct_141 rfl rfl ?_
    refine z_aload_n (pc := 142) C 0 dX6_doAct_142 rfl rfl ?_
    refine z_iload_n (pc := 143) C 1 dX6_doAct_143 rfl rfl ?_
    refine z_iconst (pc := 144) C dX6_doAct_144 (v := (1 : Int32)) (by decide) ?_
    refine z_iadd (pc := 145) C dX6_doAct_145 ?_
    refine z_iconst (pc := 146) C dX6_doAct_146 (v := (4 : Int32)) (by decide) ?_
    obtain ⟨u4, eu4, h⟩ := ob1_eq h
    obtain ⟨w5, ew5⟩ := isO_eq eu4
    obtain ⟨v6, ev6, h⟩ := ob1_eq h
    refine z_callVi (h := r0) (As := [.int (x1 + (1 : Int32)), .int (4 : Int32)]) (rest := [.ref r0]) (pc := 147) C dX6_doAct_147 ml_X6_358 (kX6_numberAt _ _ _ _ G r0 (x1 + (1 : Int32)) (4 : Int32) v6 ev6) ew5 rfl rfl rfl (Nat.le_of_ble_eq_true rfl) (by decide) ?_
    refine z_aload_n (pc := 150) C 0 dX6_doAct_150 rfl rfl ?_
    refine z_iload_n (pc := 151) C 1 dX6_doAct_151 rfl rfl ?_
    refine z_iconst (pc := 152) C dX6_doAct_152 (v := (5 : Int32)) (by decide) ?_
    refine z_iadd (pc := 153) C dX6_doAct_153 ?_
    refine z_iconst (pc := 154) C dX6_doAct_154 (v := (2 : Int32)) (by decide) ?_
    obtain ⟨u7, eu7, h⟩ := ob1_eq h
    obtain ⟨w8, ew8⟩ := isO_eq eu7
    obtain ⟨v9, ev9, h⟩ := ob1_eq h
    refine z_callVi (h := r0) (As := [.int (x1 + (5 : Int32)), .int (2 : Int32)]) (rest := [.int v6, .ref r0]) (pc := 155) C dX6_doAct_155 ml_X6_358 (kX6_numberAt _ _ _ _ G r0 (x1 + (5 : Int32)) (2 : Int32) v9 ev9) ew8 rfl rfl rfl (Nat.le_of_ble_eq_true rfl) (by decide) ?_
    obtain ⟨u10, eu10, h⟩ := ob1_eq h
    obtain ⟨w11, ew11⟩ := isO_eq eu10
    obtain ⟨v13, G12, ev13, h⟩ := ob2_eq h
    refine z_callVi (h := r0) (As := [.int v6, .int v9]) (rest := []) (pc := 158) C dX6_doAct_158 ml_X6_364 (kX6_takes _ _ _ _ G r0 v6 v9 (v13, G12) ev13) ew11 rfl rfl rfl (Nat.le_of_ble_eq_true rfl) (by decide) ?_
    obtain rfl := Option.some.inj h
    exact z_iret (pc := 161) C E dX6_doAct_161 ⟨rfl, rfl⟩
  rw [if_neg c3] at h
  by_cases c14 : v2 = (101 : Int32)
  · rw [if_pos c14] at h
    refine z_tableIn (pc := 6) (tgt := 232) (off := 226) C dX6_doAct_6 (by rw [c14]; decide) (by rw [c14]; decide) (by rw [c14]; decide) (by decide) ?_
    refine z_aload_n (pc := 232) C 0 dX6_doAct_232 rfl rfl ?_
    obtain ⟨u15, eu15, h⟩ := ob1_eq h
    obtain ⟨w16, ew16⟩ := isO_eq eu15
    obtain ⟨v18, G17, ev18, h⟩ := ob2_eq h
    refine z_callVi (h := r0) (As := []) (rest := []) (pc := 233) C dX6_doAct_233 ml_X6_379 (kX6_redo _ _ _ _ G r0  (v18, G17) ev18) ew16 rfl rfl rfl (Nat.le_of_ble_eq_true rfl) (by decide) ?_
    obtain rfl := Option.some.inj h
    exact z_iret (pc := 236) C E dX6_doAct_236 ⟨rfl, rfl⟩
  rw [if_neg c14] at h
  by_cases c19 : v2 = (102 : Int32)
  · rw [if_pos c19] at h
    refine z_tableIn (pc := 6) (tgt := 232) (off := 226) C dX6_doAct_6 (by rw [c19]; decide) (by rw [c19]; decide) (by rw [c19]; decide) (by decide) ?_
    refine z_aload_n (pc := 232) C 0 dX6_doAct_232 rfl rfl ?_
    obtain ⟨u20, eu20, h⟩ := ob1_eq h
    obtain ⟨w21, ew21⟩ := isO_eq eu20
    obtain ⟨v23, G22, ev23, h⟩ := ob2_eq h
    refine z_callVi (h := r0) (As := []) (rest := []) (pc := 233) C dX6_doAct_233 ml_X6_379 (kX6_redo _ _ _ _ G r0  (v23, G22) ev23) ew21 rfl rfl rfl (Nat.le_of_ble_eq_true rfl) (by decide) ?_
    obtain rfl := Option.some.inj h
    exact z_iret (pc := 236) C E dX6_doAct_236 ⟨rfl, rfl⟩
  rw [if_neg c19] at h
  by_cases c24 : v2 = (103 : Int32)
  · rw [if_pos c24] at h
    refine z_tableIn (pc := 6) (tgt := 232) (off := 226) C dX6_doAct_6 (by rw [c24]; decide) (by rw [c24]; decide) (by rw [c24]; decide) (by decide) ?_
    refine z_aload_n (pc := 232) C 0 dX6_doAct_232 rfl rfl ?_
    obtain ⟨u25, eu25, h⟩ := ob1_eq h
    obtain ⟨w26, ew26⟩ := isO_eq eu25
    obtain ⟨v28, G27, ev28, h⟩ := ob2_eq h
    refine z_callVi (h := r0) (As := []) (rest := []) (pc := 233) C dX6_doAct_233 ml_X6_379 (kX6_redo _ _ _ _ G r0  (v28, G27) ev28) ew26 rfl rfl rfl (Nat.le_of_ble_eq_true rfl) (by decide) ?_
    obtain rfl := Option.some.inj h
    exact z_iret (pc := 236) C E dX6_doAct_236 ⟨rfl, rfl⟩
  rw [if_neg c24] at h
  by_cases c29 : v2 = (104 : Int32)
  · rw [if_pos c29] at h
    refine z_tableIn (pc := 6) (tgt := 222) (off := 216) C dX6_doAct_6 (by rw [c29]; decide) (by rw [c29]; decide) (by rw [c29]; decide) (by decide) ?_
    refine z_aload_n (pc := 222) C 0 dX6_doAct_222 rfl rfl ?_
    obtain ⟨u30, eu30, h⟩ := ob1_eq h
    obtain ⟨w31, ew31⟩ := isO_eq eu30
    obtain ⟨v33, G32, ev33, h⟩ := ob2_eq h
    refine z_callVi (h := r0) (As := []) (rest := []) (pc := 223) C dX6_doAct_223 ml_X6_373 (kX6_heals _ _ _ _ G r0  (v33, G32) ev33) ew31 rfl rfl rfl (Nat.le_of_ble_eq_true rfl) (by decide) ?_
    obtain rfl := Option.some.inj h
    exact z_iret (pc := 226) C E dX6_doAct_226 ⟨rfl, rfl⟩
  rw [if_neg c29] at h
  by_cases c34 : v2 = (105 : Int32)
  · rw [if_pos c34] at h
    refine z_tableIn (pc := 6) (tgt := 92) (off := 86) C dX6_doAct_6 (by rw [c34]; decide) (by rw [c34]; decide) (by rw [c34]; decide) (by decide) ?_
    refine z_iload_n (pc := 92) C 1 dX6_doAct_92 rfl rfl ?_
    refine z_iconst (pc := 93) C dX6_doAct_93 (v := (5 : Int32)) (by decide) ?_
    refine z_iadd (pc := 94) C dX6_doAct_94 ?_
    refine z_aload_n (pc := 95) C 0 dX6_doAct_95 rfl rfl ?_
    obtain ⟨qv35, eqv35, h⟩ := ob1_eq h
    refine z_fr (pc := 96) C dX6_doAct_96 fl_X6_9 eqv35 ?_
    obtain ⟨v36, ev36, h⟩ := ob1_eq h
    refine z_aL (pc := 99) C dX6_doAct_99 (by decide) ev36 ?_
    refine z_ic_ge (pc := 100) C dX6_doAct_100 (tgt := 114) (by decide) (fun c37 => ?_) (fun c37 => ?_)
    · rw [if_pos c37] at h
      refine z_iconst (pc := 114) C dX6_doAct_114 (v := (0 : Int32)) (by decide) ?_
      exact z_subL [0, 1] (wfX6_doAct_b115 C E G r0 x1 (0 : Int32) h) rfl
    · rw [if_neg c37] at h
      refine z_aload_n (pc := 103) C 0 dX6_doAct_103 rfl rfl ?_
      obtain ⟨qv38, eqv38, h⟩ := ob1_eq h
      refine z_fr (pc := 104) C dX6_doAct_104 fl_X6_9 eqv38 ?_
      refine z_iload_n (pc := 107) C 1 dX6_doAct_107 rfl rfl ?_
      refine z_iconst (pc := 108) C dX6_doAct_108 (v := (5 : Int32)) (by decide) ?_
      refine z_iadd (pc := 109) C dX6_doAct_109 ?_
      obtain ⟨v39, ev39, h⟩ := ob1_eq h
      refine z_aR (pc := 110) C dX6_doAct_110 ev39 ?_
      refine z_goto (pc := 111) C dX6_doAct_111 (tgt := 115) (by decide) ?_
      exact z_subL [0, 1] (wfX6_doAct_b115 C E G r0 x1 v39 h) rfl
  rw [if_neg c34] at h
  by_cases c40 : v2 = (106 : Int32)
  · rw [if_pos c40] at h
    refine z_tableIn (pc := 6) (tgt := 232) (off := 226) C dX6_doAct_6 (by rw [c40]; decide) (by rw [c40]; decide) (by rw [c40]; decide) (by decide) ?_
    refine z_aload_n (pc := 232) C 0 dX6_doAct_232 rfl rfl ?_
    obtain ⟨u41, eu41, h⟩ := ob1_eq h
    obtain ⟨w42, ew42⟩ := isO_eq eu41
    obtain ⟨v44, G43, ev44, h⟩ := ob2_eq h
    refine z_callVi (h := r0) (As := []) (rest := []) (pc := 233) C dX6_doAct_233 ml_X6_379 (kX6_redo _ _ _ _ G r0  (v44, G43) ev44) ew42 rfl rfl rfl (Nat.le_of_ble_eq_true rfl) (by decide) ?_
    obtain rfl := Option.some.inj h
    exact z_iret (pc := 236) C E dX6_doAct_236 ⟨rfl, rfl⟩
  rw [if_neg c40] at h
  by_cases c45 : v2 = (107 : Int32)
  · rw [if_pos c45] at h
    refine z_tableIn (pc := 6) (tgt := 232) (off := 226) C dX6_doAct_6 (by rw [c45]; decide) (by rw [c45]; decide) (by rw [c45]; decide) (by decide) ?_
    refine z_aload_n (pc := 232) C 0 dX6_doAct_232 rfl rfl ?_
    obtain ⟨u46, eu46, h⟩ := ob1_eq h
    obtain ⟨w47, ew47⟩ := isO_eq eu46
    obtain ⟨v49, G48, ev49, h⟩ := ob2_eq h
    refine z_callVi (h := r0) (As := []) (rest := []) (pc := 233) C dX6_doAct_233 ml_X6_379 (kX6_redo _ _ _ _ G r0  (v49, G48) ev49) ew47 rfl rfl rfl (Nat.le_of_ble_eq_true rfl) (by decide) ?_
    obtain rfl := Option.some.inj h
    exact z_iret (pc := 236) C E dX6_doAct_236 ⟨rfl, rfl⟩
  rw [if_neg c45] at h
  by_cases c50 : v2 = (108 : Int32)
  · rw [if_pos c50] at h
    refine z_tableIn (pc := 6) (tgt := 162) (off := 156) C dX6_doAct_6 (by rw [c50]; decide) (by rw [c50]; decide) (by rw [c50]; decide) (by decide) ?_
    refine z_aload_n (pc := 162) C 0 dX6_doAct_162 rfl rfl ?_
    refine z_aload_n (pc := 163) C 0 dX6_doAct_163 rfl rfl ?_
    refine z_iload_n (pc := 164) C 1 dX6_doAct_164 rfl rfl ?_
    refine z_iconst (pc := 165) C dX6_doAct_165 (v := (1 : Int32)) (by decide) ?_
    refine z_iadd (pc := 166) C dX6_doAct_166 ?_
    refine z_iconst (pc := 167) C dX6_doAct_167 (v := (4 : Int32)) (by decide) ?_
    obtain ⟨u51, eu51, h⟩ := ob1_eq h
    obtain ⟨w52, ew52⟩ := isO_eq eu51
    obtain ⟨v53, ev53, h⟩ := ob1_eq h
    refine z_callVi (h := r0) (As := [.int (x1 + (1 : Int32)), .int (4 : Int32)]) (rest := [.ref r0]) (pc := 168) C dX6_doAct_168 ml_X6_358 (kX6_numberAt _ _ _ _ G r0 (x1 + (1 : Int32)) (4 : Int32) v53 ev53) ew52 rfl rfl rfl (Nat.le_of_ble_eq_true rfl) (by decide) ?_
    refine z_aload_n (pc := 171) C 0 dX6_doAct_171 rfl rfl ?_
    refine z_iload_n (pc := 172) C 1 dX6_doAct_172 rfl rfl ?_
    refine z_iconst (pc := 173) C dX6_doAct_173 (v := (5 : Int32)) (by decide) ?_
    refine z_iadd (pc := 174) C dX6_doAct_174 ?_
    refine z_iconst (pc := 175) C dX6_doAct_175 (v := (2 : Int32)) (by decide) ?_
    obtain ⟨u54, eu54, h⟩ := ob1_eq h
    obtain ⟨w55, ew55⟩ := isO_eq eu54
    obtain ⟨v56, ev56, h⟩ := ob1_eq h
    refine z_callVi (h := r0) (As := [.int (x1 + (5 : Int32)), .int (2 : Int32)]) (rest := [.int v53, .ref r0]) (pc := 176) C dX6_doAct_176 ml_X6_358 (kX6_numberAt _ _ _ _ G r0 (x1 + (5 : Int32)) (2 : Int32) v56 ev56) ew55 rfl rfl rfl (Nat.le_of_ble_eq_true rfl) (by decide) ?_
    refine z_aload_n (pc := 179) C 0 dX6_doAct_179 rfl rfl ?_
    refine z_iload_n (pc := 180) C 1 dX6_doAct_180 rfl rfl ?_
    refine z_bipush (pc := 181) C dX6_doAct_181 (v := (7 : Int32)) (by decide) ?_
    refine z_iadd (pc := 183) C dX6_doAct_183 ?_
    refine z_iconst (pc := 184) C dX6_doAct_184 (v := (4 : Int32)) (by decide) ?_
    obtain ⟨u57, eu57, h⟩ := ob1_eq h
    obtain ⟨w58, ew58⟩ := isO_eq eu57
    obtain ⟨v59, ev59, h⟩ := ob1_eq h
    refine z_callVi (h := r0) (As := [.int (x1 + (7 : Int32)), .int (4 : Int32)]) (rest := [.int v56, .int v53, .ref r0]) (pc := 185) C dX6_doAct_185 ml_X6_358 (kX6_numberAt _ _ _ _ G r0 (x1 + (7 : Int32)) (4 : Int32) v59 ev59) ew58 rfl rfl rfl (Nat.le_of_ble_eq_true rfl) (by decide) ?_
    obtain ⟨u60, eu60, h⟩ := ob1_eq h
    obtain ⟨w61, ew61⟩ := isO_eq eu60
    obtain ⟨v63, G62, ev63, h⟩ := ob2_eq h
    refine z_callVi (h := r0) (As := [.int v53, .int v56, .int v59]) (rest := []) (pc := 188) C dX6_doAct_188 ml_X6_367 (kX6_lays _ _ _ _ G r0 v53 v56 v59 (v63, G62) ev63) ew61 rfl rfl rfl (Nat.le_of_ble_eq_true rfl) (by decide) ?_
    obtain rfl := Option.some.inj h
    exact z_iret (pc := 191) C E dX6_doAct_191 ⟨rfl, rfl⟩
  rw [if_neg c50] at h
  by_cases c64 : v2 = (109 : Int32)
  · rw [if_pos c64] at h
    refine z_tableIn (pc := 6) (tgt := 192) (off := 186) C dX6_doAct_6 (by rw [c64]; decide) (by rw [c64]; decide) (by rw [c64]; decide) (by decide) ?_
    refine z_aload_n (pc := 192) C 0 dX6_doAct_192 rfl rfl ?_
    refine z_aload_n (pc := 193) C 0 dX6_doAct_193 rfl rfl ?_
    refine z_iload_n (pc := 194) C 1 dX6_doAct_194 rfl rfl ?_
    refine z_iconst (pc := 195) C dX6_doAct_195 (v := (1 : Int32)) (by decide) ?_
    refine z_iadd (pc := 196) C dX6_doAct_196 ?_
    refine z_iconst (pc := 197) C dX6_doAct_197 (v := (4 : Int32)) (by decide) ?_
    obtain ⟨u65, eu65, h⟩ := ob1_eq h
    obtain ⟨w66, ew66⟩ := isO_eq eu65
    obtain ⟨v67, ev67, h⟩ := ob1_eq h
    refine z_callVi (h := r0) (As := [.int (x1 + (1 : Int32)), .int (4 : Int32)]) (rest := [.ref r0]) (pc := 198) C dX6_doAct_198 ml_X6_358 (kX6_numberAt _ _ _ _ G r0 (x1 + (1 : Int32)) (4 : Int32) v67 ev67) ew66 rfl rfl rfl (Nat.le_of_ble_eq_true rfl) (by decide) ?_
    refine z_aload_n (pc := 201) C 0 dX6_doAct_201 rfl rfl ?_
    refine z_iload_n (pc := 202) C 1 dX6_doAct_202 rfl rfl ?_
    refine z_iconst (pc := 203) C dX6_doAct_203 (v := (5 : Int32)) (by decide) ?_
    refine z_iadd (pc := 204) C dX6_doAct_204 ?_
    refine z_iconst (pc := 205) C dX6_doAct_205 (v := (2 : Int32)) (by decide) ?_
    obtain ⟨u68, eu68, h⟩ := ob1_eq h
    obtain ⟨w69, ew69⟩ := isO_eq eu68
    obtain ⟨v70, ev70, h⟩ := ob1_eq h
    refine z_callVi (h := r0) (As := [.int (x1 + (5 : Int32)), .int (2 : Int32)]) (rest := [.int v67, .ref r0]) (pc := 206) C dX6_doAct_206 ml_X6_358 (kX6_numberAt _ _ _ _ G r0 (x1 + (5 : Int32)) (2 : Int32) v70 ev70) ew69 rfl rfl rfl (Nat.le_of_ble_eq_true rfl) (by decide) ?_
    refine z_aload_n (pc := 209) C 0 dX6_doAct_209 rfl rfl ?_
    refine z_iload_n (pc := 210) C 1 dX6_doAct_210 rfl rfl ?_
    refine z_bipush (pc := 211) C dX6_doAct_211 (v := (7 : Int32)) (by decide) ?_
    refine z_iadd (pc := 213) C dX6_doAct_213 ?_
    refine z_iconst (pc := 214) C dX6_doAct_214 (v := (4 : Int32)) (by decide) ?_
    obtain ⟨u71, eu71, h⟩ := ob1_eq h
    obtain ⟨w72, ew72⟩ := isO_eq eu71
    obtain ⟨v73, ev73, h⟩ := ob1_eq h
    refine z_callVi (h := r0) (As := [.int (x1 + (7 : Int32)), .int (4 : Int32)]) (rest := [.int v70, .int v67, .ref r0]) (pc := 215) C dX6_doAct_215 ml_X6_358 (kX6_numberAt _ _ _ _ G r0 (x1 + (7 : Int32)) (4 : Int32) v73 ev73) ew72 rfl rfl rfl (Nat.le_of_ble_eq_true rfl) (by decide) ?_
    obtain ⟨u74, eu74, h⟩ := ob1_eq h
    obtain ⟨w75, ew75⟩ := isO_eq eu74
    obtain ⟨v77, G76, ev77, h⟩ := ob2_eq h
    refine z_callVi (h := r0) (As := [.int v67, .int v70, .int v73]) (rest := []) (pc := 218) C dX6_doAct_218 ml_X6_370 (kX6_moves _ _ _ _ G r0 v67 v70 v73 (v77, G76) ev77) ew75 rfl rfl rfl (Nat.le_of_ble_eq_true rfl) (by decide) ?_
    obtain rfl := Option.some.inj h
    exact z_iret (pc := 221) C E dX6_doAct_221 ⟨rfl, rfl⟩
  rw [if_neg c64] at h
  by_cases c78 : v2 = (110 : Int32)
  · rw [if_pos c78] at h
    refine z_tableIn (pc := 6) (tgt := 232) (off := 226) C dX6_doAct_6 (by rw [c78]; decide) (by rw [c78]; decide) (by rw [c78]; decide) (by decide) ?_
    refine z_aload_n (pc := 232) C 0 dX6_doAct_232 rfl rfl ?_
    obtain ⟨u79, eu79, h⟩ := ob1_eq h
    obtain ⟨w80, ew80⟩ := isO_eq eu79
    obtain ⟨v82, G81, ev82, h⟩ := ob2_eq h
    refine z_callVi (h := r0) (As := []) (rest := []) (pc := 233) C dX6_doAct_233 ml_X6_379 (kX6_redo _ _ _ _ G r0  (v82, G81) ev82) ew80 rfl rfl rfl (Nat.le_of_ble_eq_true rfl) (by decide) ?_
    obtain rfl := Option.some.inj h
    exact z_iret (pc := 236) C E dX6_doAct_236 ⟨rfl, rfl⟩
  rw [if_neg c78] at h
  by_cases c83 : v2 = (111 : Int32)
  · rw [if_pos c83] at h
    refine z_tableIn (pc := 6) (tgt := 232) (off := 226) C dX6_doAct_6 (by rw [c83]; decide) (by rw [c83]; decide) (by rw [c83]; decide) (by decide) ?_
    refine z_aload_n (pc := 232) C 0 dX6_doAct_232 rfl rfl ?_
    obtain ⟨u84, eu84, h⟩ := ob1_eq h
    obtain ⟨w85, ew85⟩ := isO_eq eu84
    obtain ⟨v87, G86, ev87, h⟩ := ob2_eq h
    refine z_callVi (h := r0) (As := []) (rest := []) (pc := 233) C dX6_doAct_233 ml_X6_379 (kX6_redo _ _ _ _ G r0  (v87, G86) ev87) ew85 rfl rfl rfl (Nat.le_of_ble_eq_true rfl) (by decide) ?_
    obtain rfl := Option.some.inj h
    exact z_iret (pc := 236) C E dX6_doAct_236 ⟨rfl, rfl⟩
  rw [if_neg c83] at h
  by_cases c88 : v2 = (112 : Int32)
  · rw [if_pos c88] at h
    refine z_tableIn (pc := 6) (tgt := 232) (off := 226) C dX6_doAct_6 (by rw [c88]; decide) (by rw [c88]; decide) (by rw [c88]; decide) (by decide) ?_
    refine z_aload_n (pc := 232) C 0 dX6_doAct_232 rfl rfl ?_
    obtain ⟨u89, eu89, h⟩ := ob1_eq h
    obtain ⟨w90, ew90⟩ := isO_eq eu89
    obtain ⟨v92, G91, ev92, h⟩ := ob2_eq h
    refine z_callVi (h := r0) (As := []) (rest := []) (pc := 233) C dX6_doAct_233 ml_X6_379 (kX6_redo _ _ _ _ G r0  (v92, G91) ev92) ew90 rfl rfl rfl (Nat.le_of_ble_eq_true rfl) (by decide) ?_
    obtain rfl := Option.some.inj h
    exact z_iret (pc := 236) C E dX6_doAct_236 ⟨rfl, rfl⟩
  rw [if_neg c88] at h
  by_cases c93 : v2 = (113 : Int32)
  · rw [if_pos c93] at h
    refine z_tableIn (pc := 6) (tgt := 232) (off := 226) C dX6_doAct_6 (by rw [c93]; decide) (by rw [c93]; decide) (by rw [c93]; decide) (by decide) ?_
    refine z_aload_n (pc := 232) C 0 dX6_doAct_232 rfl rfl ?_
    obtain ⟨u94, eu94, h⟩ := ob1_eq h
    obtain ⟨w95, ew95⟩ := isO_eq eu94
    obtain ⟨v97, G96, ev97, h⟩ := ob2_eq h
    refine z_callVi (h := r0) (As := []) (rest := []) (pc := 233) C dX6_doAct_233 ml_X6_379 (kX6_redo _ _ _ _ G r0  (v97, G96) ev97) ew95 rfl rfl rfl (Nat.le_of_ble_eq_true rfl) (by decide) ?_
    obtain rfl := Option.some.inj h
    exact z_iret (pc := 236) C E dX6_doAct_236 ⟨rfl, rfl⟩
  rw [if_neg c93] at h
  by_cases c98 : v2 = (114 : Int32)
  · rw [if_pos c98] at h
    refine z_tableIn (pc := 6) (tgt := 232) (off := 226) C dX6_doAct_6 (by rw [c98]; decide) (by rw [c98]; decide) (by rw [c98]; decide) (by decide) ?_
    refine z_aload_n (pc := 232) C 0 dX6_doAct_232 rfl rfl ?_
    obtain ⟨u99, eu99, h⟩ := ob1_eq h
    obtain ⟨w100, ew100⟩ := isO_eq eu99
    obtain ⟨v102, G101, ev102, h⟩ := ob2_eq h
    refine z_callVi (h := r0) (As := []) (rest := []) (pc := 233) C dX6_doAct_233 ml_X6_379 (kX6_redo _ _ _ _ G r0  (v102, G101) ev102) ew100 rfl rfl rfl (Nat.le_of_ble_eq_true rfl) (by decide) ?_
    obtain rfl := Option.some.inj h
    exact z_iret (pc := 236) C E dX6_doAct_236 ⟨rfl, rfl⟩
  rw [if_neg c98] at h
  by_cases c103 : v2 = (115 : Int32)
  · rw [if_pos c103] at h
    refine z_tableIn (pc := 6) (tgt := 232) (off := 226) C dX6_doAct_6 (by rw [c103]; decide) (by rw [c103]; decide) (by rw [c103]; decide) (by decide) ?_
    refine z_aload_n (pc := 232) C 0 dX6_doAct_232 rfl rfl ?_
    obtain ⟨u104, eu104, h⟩ := ob1_eq h
    obtain ⟨w105, ew105⟩ := isO_eq eu104
    obtain ⟨v107, G106, ev107, h⟩ := ob2_eq h
    refine z_callVi (h := r0) (As := []) (rest := []) (pc := 233) C dX6_doAct_233 ml_X6_379 (kX6_redo _ _ _ _ G r0  (v107, G106) ev107) ew105 rfl rfl rfl (Nat.le_of_ble_eq_true rfl) (by decide) ?_
    obtain rfl := Option.some.inj h
    exact z_iret (pc := 236) C E dX6_doAct_236 ⟨rfl, rfl⟩
  rw [if_neg c103] at h
  by_cases c108 : v2 = (116 : Int32)
  · rw [if_pos c108] at h
    refine z_tableIn (pc := 6) (tgt := 232) (off := 226) C dX6_doAct_6 (by rw [c108]; decide) (by rw [c108]; decide) (by rw [c108]; decide) (by decide) ?_
    refine z_aload_n (pc := 232) C 0 dX6_doAct_232 rfl rfl ?_
    obtain ⟨u109, eu109, h⟩ := ob1_eq h
    obtain ⟨w110, ew110⟩ := isO_eq eu109
    obtain ⟨v112, G111, ev112, h⟩ := ob2_eq h
    refine z_callVi (h := r0) (As := []) (rest := []) (pc := 233) C dX6_doAct_233 ml_X6_379 (kX6_redo _ _ _ _ G r0  (v112, G111) ev112) ew110 rfl rfl rfl (Nat.le_of_ble_eq_true rfl) (by decide) ?_
    obtain rfl := Option.some.inj h
    exact z_iret (pc := 236) C E dX6_doAct_236 ⟨rfl, rfl⟩
  rw [if_neg c108] at h
  by_cases c113 : v2 = (117 : Int32)
  · rw [if_pos c113] at h
    refine z_tableIn (pc := 6) (tgt := 227) (off := 221) C dX6_doAct_6 (by rw [c113]; decide) (by rw [c113]; decide) (by rw [c113]; decide) (by decide) ?_
    refine z_aload_n (pc := 227) C 0 dX6_doAct_227 rfl rfl ?_
    obtain ⟨u114, eu114, h⟩ := ob1_eq h
    obtain ⟨w115, ew115⟩ := isO_eq eu114
    obtain ⟨v117, G116, ev117, h⟩ := ob2_eq h
    refine z_callVi (h := r0) (As := []) (rest := []) (pc := 228) C dX6_doAct_228 ml_X6_376 (kX6_undo _ _ _ _ G r0  (v117, G116) ev117) ew115 rfl rfl rfl (Nat.le_of_ble_eq_true rfl) (by decide) ?_
    obtain rfl := Option.some.inj h
    exact z_iret (pc := 231) C E dX6_doAct_231 ⟨rfl, rfl⟩
  rw [if_neg c113] at h
  by_cases c118 : v2.toInt < 100 ∨ 117 < v2.toInt
  · rw [if_pos c118] at h
    refine z_tableOut (pc := 6) (tgt := 232) C dX6_doAct_6 c118 (by decide) ?_
    refine z_aload_n (pc := 232) C 0 dX6_doAct_232 rfl rfl ?_
    obtain ⟨u119, eu119, h⟩ := ob1_eq h
    obtain ⟨w120, ew120⟩ := isO_eq eu119
    obtain ⟨v122, G121, ev122, h⟩ := ob2_eq h
    refine z_callVi (h := r0) (As := []) (rest := []) (pc := 233) C dX6_doAct_233 ml_X6_379 (kX6_redo _ _ _ _ G r0  (v122, G121) ev122) ew120 rfl rfl rfl (Nat.le_of_ble_eq_true rfl) (by decide) ?_
    obtain rfl := Option.some.inj h
    exact z_iret (pc := 236) C E dX6_doAct_236 ⟨rfl, rfl⟩
  · rw [if_neg c118] at h
    cases h
theorem kX6_doAct (l : Launch) (D : va_G) (cA : Nat → ClassId) (b : Nat) (G : zH) (r0 : Nat) (x1 : Int32) (out : Int32 × zH) (h : fX6_doAct G r0 x1 = some out) : zM l D cA b yX6_doAct cX6_doAct 3 (some .int) 7 164 [.ref r0, .int x1] G (poI out.1 out.2) := z_entry rfl (Nat.le_of_ble_eq_true rfl) (fun X C E _ _ _ => wfX6_doAct C E G r0 x1 h)
def fX6_day_b79 (G : zH) (r0 : Nat) (x3 : Int32) (x4 : Int32) : Option (Int32 × zH) :=
    ob1 (frf G r0 6 2) fun qv1 =>
    ob1 (frf G r0 6 4) fun qv2 =>
    ob1 (isO G qv2 1) fun u3 =>
    ob2 (fX1_current G qv2 ) fun qv6 G5 =>
    ob1 (fi G5 qv6 2 3) fun v7 =>
    ob1 (isO G5 qv1 5) fun u8 =>
    ob1 (fX5_tell_ G5 qv1 x4.toInt64 v7.toInt64) fun G10 =>
    some (x3, G10)
set_option maxRecDepth 100000 in
set_option maxHeartbeats 4000000 in
theorem wfX6_day_b79 {X : zX} {out : Int32 × zH} (C : zOK X cX6_day yX6_day.cls 6 (some .int) 8 186) (E : zPost X (poI out.1 out.2)) (G : zH) (r0 : Nat) (x3 : Int32) (x4 : Int32) (h : fX6_day_b79 G r0 x3 x4 = some out) : zZ X 79 [(0, .ref r0), (3, .int x3), (4, .int x4)] [] G := by
  rw [fX6_day_b79] at h
  refine z_aload_n (pc := 79) C 0 dX6_day_79 rfl rfl ?_
  obtain ⟨qv1, eqv1, h⟩ := ob1_eq h
  refine z_fr (pc := 80) C dX6_day_80 fl_X6_16 eqv1 ?_
  refine z_iload (pc := 83) C 2 dX6_day_83 rfl ?_
  refine z_i2l (pc := 85) C dX6_day_85 ?_
  refine z_aload_n (pc := 86) C 0 dX6_day_86 rfl rfl ?_
  obtain ⟨qv2, eqv2, h⟩ := ob1_eq h
  refine z_fr (pc := 87) C dX6_day_87 fl_X6_30 eqv2 ?_
  obtain ⟨u3, eu3, h⟩ := ob1_eq h
  obtain ⟨w4, ew4⟩ := isO_eq eu3
  obtain ⟨qv6, G5, eqv6, h⟩ := ob2_eq h
  refine z_callVr (h := qv2) (As := []) (rest := [.long x4.toInt64, .ref qv1]) (pc := 90) C dX6_day_90 ml_X6_84 (kX1_current _ _ _ _ G qv2  (qv6, G5) eqv6) ew4 rfl rfl rfl (Nat.le_of_ble_eq_true rfl) (by decide) ?_
  obtain ⟨v7, ev7, h⟩ := ob1_eq h
  refine z_fi (pc := 93) C dX6_day_93 fl_X6_104 ev7 ?_
  refine z_i2l (pc := 96) C dX6_day_96 ?_
  obtain ⟨u8, eu8, h⟩ := ob1_eq h
  obtain ⟨w9, ew9⟩ := isO_eq eu8
  obtain ⟨G10, eG10, h⟩ := ob1_eq h
  refine z_callVv (h := qv1) (As := [.long x4.toInt64, .long v7.toInt64]) (rest := []) (pc := 97) C dX6_day_97 ml_X6_217 (kX5_tell_ _ _ _ _ G5 qv1 x4.toInt64 v7.toInt64 G10 eG10) ew9 rfl rfl rfl (Nat.le_of_ble_eq_true rfl) (by decide) ?_
  refine z_iload_n (pc := 100) C 1 dX6_day_100 rfl rfl ?_
  obtain rfl := Option.some.inj h
  exact z_iret (pc := 101) C E dX6_day_101 ⟨rfl, rfl⟩
def fX6_day_b57 (k28 : zH → Nat → Int32 → Int32 → Int32 → Int32 → Option (Int32 × zH)) (G : zH) (r0 : Nat) (x1 : Int32) (x3 : Int32) (x4 : Int32) (x5 : Int32) : Option (Int32 × zH) :=
    ob1 (frf G r0 6 0) fun qv1 =>
    ob1 (aR G 0 qv1 x5) fun v2 =>
    ob1 (fX6_lengthOfAct v2) fun v3 =>
    zlet ((x5 + (if (1 : Int32) < v3 then v3 else (1 : Int32)))) fun y4 =>
    k28 G r0 x1 x3 x4 y4
set_option maxRecDepth 100000 in
set_option maxHeartbeats 4000000 in
theorem wfX6_day_b57 {X : zX} {out : Int32 × zH} (C : zOK X cX6_day yX6_day.cls 6 (some .int) 8 186) (E : zPost X (poI out.1 out.2)) (k28 : zH → Nat → Int32 → Int32 → Int32 → Int32 → Option (Int32 × zH)) (hk28 : ∀ (G : zH) (r0 : Nat) (x1 : Int32) (x3 : Int32) (x4 : Int32) (x5 : Int32), k28 G r0 x1 x3 x4 x5 = some out → zZ X 28 [(0, .ref r0), (1, .int x1), (3, .int x3), (4, .int x4), (5, .int x5)] [] G) (G : zH) (r0 : Nat) (x1 : Int32) (x3 : Int32) (x4 : Int32) (x5 : Int32) (h : fX6_day_b57 k28 G r0 x1 x3 x4 x5 = some out) : zZ X 57 [(0, .ref r0), (1, .int x1), (3, .int x3), (4, .int x4), (5, .int x5)] [] G := by
  rw [fX6_day_b57] at h
  refine z_iload (pc := 57) C 4 dX6_day_57 rfl ?_
  refine z_iconst (pc := 59) C dX6_day_59 (v := (1 : Int32)) (by decide) ?_
  refine z_aload_n (pc := 60) C 0 dX6_day_60 rfl rfl ?_
  obtain ⟨qv1, eqv1, h⟩ := ob1_eq h
  refine z_fr (pc := 61) C dX6_day_61 fl_X6_9 eqv1 ?_
  refine z_iload (pc := 64) C 4 dX6_day_64 rfl ?_
  obtain ⟨v2, ev2, h⟩ := ob1_eq h
  refine z_aR (pc := 66) C dX6_day_66 ev2 ?_
  obtain ⟨v3, ev3, h⟩ := ob1_eq h
  refine z_callSi (As := [.int v2]) (rest := [.int (1 : Int32), .int x5]) (pc := 67) C dX6_day_67 ml_X6_209 (kX6_lengthOfAct _ _ _ _ G v2 _ ev3) rfl rfl (Nat.le_of_ble_eq_true rfl) (by decide) ?_
  refine z_mmax (pc := 70) C dX6_day_70 ml_X6_212 w_max1 w_math w_max2 (Nat.le_of_ble_eq_true rfl) (by decide) ?_
  refine z_iadd (pc := 73) C dX6_day_73 ?_
  obtain ⟨y4, ey4, h⟩ := zlet_eq h
  refine z_topi ey4 ?_
  refine z_istore (pc := 74) C dX6_day_74 (by decide) (show zput _ _ _ = [(5, .int y4), (0, .ref r0), (1, .int x1), (3, .int x3), (4, .int x4)] from rfl) ?_
  refine z_goto (pc := 76) C dX6_day_76 (tgt := 28) (by decide) ?_
  exact z_subL [1, 2, 3, 4, 0] (hk28 G r0 x1 x3 x4 y4 h) rfl
def fX6_day_b28 : Nat → zH → Nat → Int32 → Int32 → Int32 → Int32 → Option (Int32 × zH)
  | 0, _, _, _, _, _, _ => none
  | n + 1, G, r0, x1, x3, x4, x5 =>
    if x1 ≤ x5 then (fX6_day_b79 G r0 x3 x4) else
    if x4 = 0 then (ob1 (isO G r0 6) fun u3 =>
    ob2 (fX6_doAct G r0 x5) fun v6 G5 =>
    if 0 ≤ v6 then (zlet (x3 + (1 : Int32)) fun y8 =>
    fX6_day_b57 (fX6_day_b28 n) G5 r0 x1 y8 x4 x5) else
    fX6_day_b57 (fX6_day_b28 n) G5 r0 x1 x3 (1 : Int32) x5) else
    fX6_day_b79 G r0 x3 x4
set_option maxRecDepth 100000 in
set_option maxHeartbeats 4000000 in
theorem wfX6_day_b28 {X : zX} {out : Int32 × zH} (C : zOK X cX6_day yX6_day.cls 6 (some .int) 8 186) (E : zPost X (poI out.1 out.2)) : ∀ (n : Nat) (G : zH) (r0 : Nat) (x1 : Int32) (x3 : Int32) (x4 : Int32) (x5 : Int32) (h : fX6_day_b28 n G r0 x1 x3 x4 x5 = some out), zZ X 28 [(0, .ref r0), (1, .int x1), (3, .int x3), (4, .int x4), (5, .int x5)] [] G := by
  intro n
  induction n with
  | zero => intro G r0 x1 x3 x4 x5 h; cases h
  | succ n ih =>
    intro G r0 x1 x3 x4 x5 h
    rw [fX6_day_b28] at h
    refine z_iload (pc := 28) C 4 dX6_day_28 rfl ?_
    refine z_iload_n (pc := 30) C 1 dX6_day_30 rfl rfl ?_
    refine z_ic_ge (pc := 31) C dX6_day_31 (tgt := 79) (by decide) (fun c1 => ?_) (fun c1 => ?_)
    · rw [if_pos c1] at h
      exact z_subL [0, 2, 3] (wfX6_day_b79 C E G r0 x3 x4 h) rfl
    · rw [if_neg c1] at h
      refine z_iload (pc := 34) C 3 dX6_day_34 rfl ?_
      refine z_if_ne (pc := 36) C dX6_day_36 (tgt := 79) (by decide) (fun c2 => ?_) (fun c2 => ?_)
      · rw [if_neg c2] at h
        exact z_subL [0, 2, 3] (wfX6_day_b79 C E G r0 x3 x4 h) rfl
      · rw [if_pos c2] at h
        refine z_aload_n (pc := 39) C 0 dX6_day_39 rfl rfl ?_
        refine z_iload (pc := 40) C 4 dX6_day_40 rfl ?_
        obtain ⟨u3, eu3, h⟩ := ob1_eq h
        obtain ⟨w4, ew4⟩ := isO_eq eu3
        obtain ⟨v6, G5, ev6, h⟩ := ob2_eq h
        refine z_callVi (h := r0) (As := [.int x5]) (rest := []) (pc := 42) C dX6_day_42 ml_X6_206 (kX6_doAct _ _ _ _ G r0 x5 (v6, G5) ev6) ew4 rfl rfl rfl (Nat.le_of_ble_eq_true rfl) (by decide) ?_
        refine z_if_ge (pc := 45) C dX6_day_45 (tgt := 54) (by decide) (fun c7 => ?_) (fun c7 => ?_)
        · rw [if_pos c7] at h
          obtain ⟨y8, ey8, h⟩ := zlet_eq h
          refine z_iinc (pc := 54) (v := y8) C 2 dX6_day_54 rfl (by rw [ey8]; rfl) (by decide) (show zput _ _ _ = [(3, .int y8), (0, .ref r0), (1, .int x1), (4, .int x4), (5, .int x5)] from rfl) ?_
          exact z_subL [1, 2, 0, 3, 4] (wfX6_day_b57 C E (fX6_day_b28 n) ih G5 r0 x1 y8 x4 x5 h) rfl
        · rw [if_neg c7] at h
          refine z_iconst (pc := 48) C dX6_day_48 (v := (1 : Int32)) (by decide) ?_
          refine z_istore (pc := 49) C dX6_day_49 (by decide) (show zput _ _ _ = [(4, .int (1 : Int32)), (0, .ref r0), (1, .int x1), (3, .int x3), (5, .int x5)] from rfl) ?_
          refine z_goto (pc := 51) C dX6_day_51 (tgt := 57) (by decide) ?_
          exact z_subL [1, 2, 3, 0, 4] (wfX6_day_b57 C E (fX6_day_b28 n) ih G5 r0 x1 x3 (1 : Int32) x5 h) rfl
def fX6_day (G : zH) (r0 : Nat) : Option (Int32 × zH) :=
    ob1 (isO G r0 6) fun u1 =>
    ob2 (fX6_readText G r0 ) fun v4 G3 =>
    ob1 (isO G3 r0 6) fun u5 =>
    ob1 (fX6_faultOfDay G3 r0 v4) fun v7 =>
    if v7 = (-1 : Int32) then (fX6_day_b28 FU G3 r0 v4 (0 : Int32) (0 : Int32) (0 : Int32)) else
    some (((-1 : Int32) - v7), G3)
set_option maxRecDepth 100000 in
set_option maxHeartbeats 4000000 in
theorem wfX6_day {X : zX} {out : Int32 × zH} (C : zOK X cX6_day yX6_day.cls 6 (some .int) 8 186) (E : zPost X (poI out.1 out.2)) (G : zH) (r0 : Nat) (h : fX6_day G r0 = some out) : zZ X 0 [(0, .ref r0)] [] G := by
  rw [fX6_day] at h
  refine z_aload_n (pc := 0) C 0 dX6_day_0 rfl rfl ?_
  obtain ⟨u1, eu1, h⟩ := ob1_eq h
  obtain ⟨w2, ew2⟩ := isO_eq eu1
  obtain ⟨v4, G3, ev4, h⟩ := ob2_eq h
  refine z_callVi (h := r0) (As := []) (rest := []) (pc := 1) C dX6_day_1 ml_X6_72 (kX6_readText _ _ _ _ G r0  (v4, G3) ev4) ew2 rfl rfl rfl (Nat.le_of_ble_eq_true rfl) (by decide) ?_
  refine z_istore_n (pc := 4) C dX6_day_4 rfl (by decide) (show zput _ _ _ = [(1, .int v4), (0, .ref r0)] from rfl) ?_
  refine z_aload_n (pc := 5) C 1 dX6_day_5 rfl rfl ?_
  refine z_iload_n (pc := 6) C 0 dX6_day_6 rfl rfl ?_
  obtain ⟨u5, eu5, h⟩ := ob1_eq h
  obtain ⟨w6, ew6⟩ := isO_eq eu5
  obtain ⟨v7, ev7, h⟩ := ob1_eq h
  refine z_callVi (h := r0) (As := [.int v4]) (rest := []) (pc := 7) C dX6_day_7 ml_X6_203 (kX6_faultOfDay _ _ _ _ G3 r0 v4 v7 ev7) ew6 rfl rfl rfl (Nat.le_of_ble_eq_true rfl) (by decide) ?_
  refine z_istore_n (pc := 10) C dX6_day_10 rfl (by decide) (show zput _ _ _ = [(2, .int v7), (1, .int v4), (0, .ref r0)] from rfl) ?_
  refine z_iload_n (pc := 11) C 0 dX6_day_11 rfl rfl ?_
  refine z_iconst (pc := 12) C dX6_day_12 (v := (-1 : Int32)) (by decide) ?_
  refine z_ic_eq (pc := 13) C dX6_day_13 (tgt := 20) (by decide) (fun c8 => ?_) (fun c8 => ?_)
  · rw [if_pos c8] at h
    refine z_iconst (pc := 20) C dX6_day_20 (v := (0 : Int32)) (by decide) ?_
    refine z_istore_n (pc := 21) C dX6_day_21 rfl (by decide) (show zput _ _ _ = [(3, .int (0 : Int32)), (2, .int v7), (1, .int v4), (0, .ref r0)] from rfl) ?_
    refine z_iconst (pc := 22) C dX6_day_22 (v := (0 : Int32)) (by decide) ?_
    refine z_istore (pc := 23) C dX6_day_23 (by decide) (show zput _ _ _ = [(4, .int (0 : Int32)), (3, .int (0 : Int32)), (2, .int v7), (1, .int v4), (0, .ref r0)] from rfl) ?_
    refine z_iconst (pc := 25) C dX6_day_25 (v := (0 : Int32)) (by decide) ?_
    refine z_istore (pc := 26) C dX6_day_26 (by decide) (show zput _ _ _ = [(5, .int (0 : Int32)), (4, .int (0 : Int32)), (3, .int (0 : Int32)), (2, .int v7), (1, .int v4), (0, .ref r0)] from rfl) ?_
    exact z_subL [5, 4, 2, 1, 0] (wfX6_day_b28 C E FU G3 r0 v4 (0 : Int32) (0 : Int32) (0 : Int32) h) rfl
  · rw [if_neg c8] at h
    refine z_iconst (pc := 16) C dX6_day_16 (v := (-1 : Int32)) (by decide) ?_
    refine z_iload_n (pc := 17) C 0 dX6_day_17 rfl rfl ?_
    refine z_isub (pc := 18) C dX6_day_18 ?_
    obtain rfl := Option.some.inj h
    exact z_iret (pc := 19) C E dX6_day_19 ⟨rfl, rfl⟩
theorem kX6_day (l : Launch) (D : va_G) (cA : Nat → ClassId) (b : Nat) (G : zH) (r0 : Nat) (out : Int32 × zH) (h : fX6_day G r0 = some out) : zM l D cA b yX6_day cX6_day 6 (some .int) 8 186 [.ref r0] G (poI out.1 out.2) := z_entry rfl (Nat.le_of_ble_eq_true rfl) (fun X C E _ _ _ => wfX6_day C E G r0 h)
def fX6_at (G : zH) (r0 : Nat) (x1 : Int32) : Option (Int32 × zH) :=
    ob1 (isO G r0 6) fun u1 =>
    ob2 (fX6_shownPage G r0 ) fun qv4 G3 =>
    ob1 (isO G3 qv4 3) fun u5 =>
    ob1 (fX3_has G3 qv4 x1) fun v7 =>
    if v7 = 0 then (some ((-1 : Int32), G3)) else
    ob1 (isO G3 qv4 3) fun u9 =>
    ob1 (fX3_signAt G3 qv4 x1) fun v11 =>
    some (v11, G3)
set_option maxRecDepth 100000 in
set_option maxHeartbeats 4000000 in
theorem wfX6_at {X : zX} {out : Int32 × zH} (C : zOK X cX6_at yX6_at.cls 3 (some .int) 5 105) (E : zPost X (poI out.1 out.2)) (G : zH) (r0 : Nat) (x1 : Int32) (h : fX6_at G r0 x1 = some out) : zZ X 0 [(0, .ref r0), (1, .int x1)] [] G := by
  rw [fX6_at] at h
  refine z_aload_n (pc := 0) C 0 dX6_at_0 rfl rfl ?_
  obtain ⟨u1, eu1, h⟩ := ob1_eq h
  obtain ⟨w2, ew2⟩ := isO_eq eu1
  obtain ⟨qv4, G3, eqv4, h⟩ := ob2_eq h
  refine z_callVr (h := r0) (As := []) (rest := []) (pc := 1) C dX6_at_1 ml_X6_160 (kX6_shownPage _ _ _ _ G r0  (qv4, G3) eqv4) ew2 rfl rfl rfl (Nat.le_of_ble_eq_true rfl) (by decide) ?_
  refine z_astore_n (pc := 4) C dX6_at_4 rfl (by decide) (show zput _ _ _ = [(2, .ref qv4), (0, .ref r0), (1, .int x1)] from rfl) ?_
  refine z_aload_n (pc := 5) C 0 dX6_at_5 rfl rfl ?_
  refine z_iload_n (pc := 6) C 2 dX6_at_6 rfl rfl ?_
  obtain ⟨u5, eu5, h⟩ := ob1_eq h
  obtain ⟨w6, ew6⟩ := isO_eq eu5
  obtain ⟨v7, ev7, h⟩ := ob1_eq h
  refine z_callVi (h := qv4) (As := [.int x1]) (rest := []) (pc := 7) C dX6_at_7 ml_X6_233 (kX3_has _ _ _ _ G3 qv4 x1 v7 ev7) ew6 rfl rfl rfl (Nat.le_of_ble_eq_true rfl) (by decide) ?_
  refine z_if_eq (pc := 10) C dX6_at_10 (tgt := 21) (by decide) (fun c8 => ?_) (fun c8 => ?_)
  · rw [if_pos c8] at h
    refine z_iconst (pc := 21) C dX6_at_21 (v := (-1 : Int32)) (by decide) ?_
    obtain rfl := Option.some.inj h
    exact z_iret (pc := 22) C E dX6_at_22 ⟨rfl, rfl⟩
  · rw [if_neg c8] at h
    refine z_aload_n (pc := 13) C 0 dX6_at_13 rfl rfl ?_
    refine z_iload_n (pc := 14) C 2 dX6_at_14 rfl rfl ?_
    obtain ⟨u9, eu9, h⟩ := ob1_eq h
    obtain ⟨w10, ew10⟩ := isO_eq eu9
    obtain ⟨v11, ev11, h⟩ := ob1_eq h
    refine z_callVi (h := qv4) (As := [.int x1]) (rest := []) (pc := 15) C dX6_at_15 ml_X6_236 (kX3_signAt _ _ _ _ G3 qv4 x1 v11 ev11) ew10 rfl rfl rfl (Nat.le_of_ble_eq_true rfl) (by decide) ?_
    refine z_goto (pc := 18) C dX6_at_18 (tgt := 22) (by decide) ?_
    obtain rfl := Option.some.inj h
    exact z_iret (pc := 22) C E dX6_at_22 ⟨rfl, rfl⟩
theorem kX6_at (l : Launch) (D : va_G) (cA : Nat → ClassId) (b : Nat) (G : zH) (r0 : Nat) (x1 : Int32) (out : Int32 × zH) (h : fX6_at G r0 x1 = some out) : zM l D cA b yX6_at cX6_at 3 (some .int) 5 105 [.ref r0, .int x1] G (poI out.1 out.2) := z_entry rfl (Nat.le_of_ble_eq_true rfl) (fun X C E _ _ _ => wfX6_at C E G r0 x1 h)
def fX6_reads_b48 : Nat → zH → Nat → Int32 → Nat → Int32 → Int32 → Option (Int32 × zH)
  | 0, _, _, _, _, _, _ => none
  | n + 1, G, r0, x1, r3, x4, x5 =>
    if x4 ≤ x5 then (some (x4, G)) else
    ob1 (frf G r0 6 2) fun qv2 =>
    ob1 (isO G r3 3) fun u3 =>
    ob1 (fX3_signAt G r3 (x1 + x5)) fun v5 =>
    ob1 (isO G qv2 5) fun u6 =>
    ob1 (fX5_add G qv2 v5.toInt64) fun G8 =>
    zlet (x5 + (1 : Int32)) fun y9 =>
    (fX6_reads_b48 n) G8 r0 x1 r3 x4 y9
set_option maxRecDepth 100000 in
set_option maxHeartbeats 4000000 in
theorem wfX6_reads_b48 {X : zX} {out : Int32 × zH} (C : zOK X cX6_reads yX6_reads.cls 6 (some .int) 5 106) (E : zPost X (poI out.1 out.2)) : ∀ (n : Nat) (G : zH) (r0 : Nat) (x1 : Int32) (r3 : Nat) (x4 : Int32) (x5 : Int32) (h : fX6_reads_b48 n G r0 x1 r3 x4 x5 = some out), zZ X 48 [(0, .ref r0), (1, .int x1), (3, .ref r3), (4, .int x4), (5, .int x5)] [] G := by
  intro n
  induction n with
  | zero => intro G r0 x1 r3 x4 x5 h; cases h
  | succ n ih =>
    intro G r0 x1 r3 x4 x5 h
    rw [fX6_reads_b48] at h
    refine z_iload (pc := 48) C 4 dX6_reads_48 rfl ?_
    refine z_iload (pc := 50) C 3 dX6_reads_50 rfl ?_
    refine z_ic_ge (pc := 52) C dX6_reads_52 (tgt := 77) (by decide) (fun c1 => ?_) (fun c1 => ?_)
    · rw [if_pos c1] at h
      refine z_iload (pc := 77) C 3 dX6_reads_77 rfl ?_
      obtain rfl := Option.some.inj h
      exact z_iret (pc := 79) C E dX6_reads_79 ⟨rfl, rfl⟩
    · rw [if_neg c1] at h
      refine z_aload_n (pc := 55) C 0 dX6_reads_55 rfl rfl ?_
      obtain ⟨qv2, eqv2, h⟩ := ob1_eq h
      refine z_fr (pc := 56) C dX6_reads_56 fl_X6_16 eqv2 ?_
      refine z_aload_n (pc := 59) C 2 dX6_reads_59 rfl rfl ?_
      refine z_iload_n (pc := 60) C 1 dX6_reads_60 rfl rfl ?_
      refine z_iload (pc := 61) C 4 dX6_reads_61 rfl ?_
      refine z_iadd (pc := 63) C dX6_reads_63 ?_
      obtain ⟨u3, eu3, h⟩ := ob1_eq h
      obtain ⟨w4, ew4⟩ := isO_eq eu3
      obtain ⟨v5, ev5, h⟩ := ob1_eq h
      refine z_callVi (h := r3) (As := [.int (x1 + x5)]) (rest := [.ref qv2]) (pc := 64) C dX6_reads_64 ml_X6_236 (kX3_signAt _ _ _ _ G r3 (x1 + x5) v5 ev5) ew4 rfl rfl rfl (Nat.le_of_ble_eq_true rfl) (by decide) ?_
      refine z_i2l (pc := 67) C dX6_reads_67 ?_
      obtain ⟨u6, eu6, h⟩ := ob1_eq h
      obtain ⟨w7, ew7⟩ := isO_eq eu6
      obtain ⟨G8, eG8, h⟩ := ob1_eq h
      refine z_callVv (h := qv2) (As := [.long v5.toInt64]) (rest := []) (pc := 68) C dX6_reads_68 ml_X6_243 (kX5_add _ _ _ _ G qv2 v5.toInt64 G8 eG8) ew7 rfl rfl rfl (Nat.le_of_ble_eq_true rfl) (by decide) ?_
      obtain ⟨y9, ey9, h⟩ := zlet_eq h
      refine z_iinc (pc := 71) (v := y9) C 4 dX6_reads_71 rfl (by rw [ey9]; rfl) (by decide) (show zput _ _ _ = [(5, .int y9), (0, .ref r0), (1, .int x1), (3, .ref r3), (4, .int x4)] from rfl) ?_
      refine z_goto (pc := 74) C dX6_reads_74 (tgt := 48) (by decide) ?_
      exact z_subL [1, 2, 3, 4, 0] (ih G8 r0 x1 r3 x4 y9 h) rfl
def fX6_reads (G : zH) (r0 : Nat) (x1 : Int32) (x2 : Int32) : Option (Int32 × zH) :=
    ob1 (isO G r0 6) fun u1 =>
    ob2 (fX6_isPlace G r0 x1) fun v4 G3 =>
    if v4 = 0 then (some ((-1 : Int32), G3)) else
    if x2 < (1 : Int32) then (some ((-1 : Int32), G3)) else
    if x2 ≤ (16 : Int32) then (ob1 (isO G3 r0 6) fun u8 =>
    ob2 (fX6_shownPage G3 r0 ) fun qv11 G10 =>
    ob1 (fi G10 qv11 3 2) fun v12 =>
    zlet ((if (v12 - x1) < x2 then (v12 - x1) else x2)) fun y13 =>
    ob1 (frf G10 r0 6 2) fun qv14 =>
    ob1 (isO G10 qv14 5) fun u15 =>
    ob1 (fX5_clear G10 qv14 ) fun G17 =>
    fX6_reads_b48 FU G17 r0 x1 qv11 y13 (0 : Int32)) else
    some ((-1 : Int32), G3)
set_option maxRecDepth 100000 in
set_option maxHeartbeats 4000000 in
theorem wfX6_reads {X : zX} {out : Int32 × zH} (C : zOK X cX6_reads yX6_reads.cls 6 (some .int) 5 106) (E : zPost X (poI out.1 out.2)) (G : zH) (r0 : Nat) (x1 : Int32) (x2 : Int32) (h : fX6_reads G r0 x1 x2 = some out) : zZ X 0 [(0, .ref r0), (1, .int x1), (2, .int x2)] [] G := by
  rw [fX6_reads] at h
  refine z_aload_n (pc := 0) C 0 dX6_reads_0 rfl rfl ?_
  refine z_iload_n (pc := 1) C 1 dX6_reads_1 rfl rfl ?_
  obtain ⟨u1, eu1, h⟩ := ob1_eq h
  obtain ⟨w2, ew2⟩ := isO_eq eu1
  obtain ⟨v4, G3, ev4, h⟩ := ob2_eq h
  refine z_callVi (h := r0) (As := [.int x1]) (rest := []) (pc := 2) C dX6_reads_2 ml_X6_168 (kX6_isPlace _ _ _ _ G r0 x1 (v4, G3) ev4) ew2 rfl rfl rfl (Nat.le_of_ble_eq_true rfl) (by decide) ?_
  refine z_if_eq (pc := 5) C dX6_reads_5 (tgt := 19) (by decide) (fun c5 => ?_) (fun c5 => ?_)
  · rw [if_pos c5] at h
    refine z_iconst (pc := 19) C dX6_reads_19 (v := (-1 : Int32)) (by decide) ?_
    obtain rfl := Option.some.inj h
    exact z_iret (pc := 20) C E dX6_reads_20 ⟨rfl, rfl⟩
  · rw [if_neg c5] at h
    refine z_iload_n (pc := 8) C 2 dX6_reads_8 rfl rfl ?_
    refine z_iconst (pc := 9) C dX6_reads_9 (v := (1 : Int32)) (by decide) ?_
    refine z_ic_lt (pc := 10) C dX6_reads_10 (tgt := 19) (by decide) (fun c6 => ?_) (fun c6 => ?_)
    · rw [if_pos c6] at h
      refine z_iconst (pc := 19) C dX6_reads_19 (v := (-1 : Int32)) (by decide) ?_
      obtain rfl := Option.some.inj h
      exact z_iret (pc := 20) C E dX6_reads_20 ⟨rfl, rfl⟩
    · rw [if_neg c6] at h
      refine z_iload_n (pc := 13) C 2 dX6_reads_13 rfl rfl ?_
      refine z_bipush (pc := 14) C dX6_reads_14 (v := (16 : Int32)) (by decide) ?_
      refine z_ic_le (pc := 16) C dX6_reads_16 (tgt := 21) (by decide) (fun c7 => ?_) (fun c7 => ?_)
      · rw [if_pos c7] at h
        refine z_aload_n (pc := 21) C 0 dX6_reads_21 rfl rfl ?_
        obtain ⟨u8, eu8, h⟩ := ob1_eq h
        obtain ⟨w9, ew9⟩ := isO_eq eu8
        obtain ⟨qv11, G10, eqv11, h⟩ := ob2_eq h
        refine z_callVr (h := r0) (As := []) (rest := []) (pc := 22) C dX6_reads_22 ml_X6_160 (kX6_shownPage _ _ _ _ G3 r0  (qv11, G10) eqv11) ew9 rfl rfl rfl (Nat.le_of_ble_eq_true rfl) (by decide) ?_
        refine z_astore_n (pc := 25) C dX6_reads_25 rfl (by decide) (show zput _ _ _ = [(3, .ref qv11), (0, .ref r0), (1, .int x1), (2, .int x2)] from rfl) ?_
        refine z_iload_n (pc := 26) C 3 dX6_reads_26 rfl rfl ?_
        refine z_aload_n (pc := 27) C 0 dX6_reads_27 rfl rfl ?_
        obtain ⟨v12, ev12, h⟩ := ob1_eq h
        refine z_fi (pc := 28) C dX6_reads_28 fl_X6_181 ev12 ?_
        refine z_iload_n (pc := 31) C 2 dX6_reads_31 rfl rfl ?_
        refine z_isub (pc := 32) C dX6_reads_32 ?_
        refine z_mmin (pc := 33) C dX6_reads_33 ml_X6_239 w_min1 w_math w_min2 (Nat.le_of_ble_eq_true rfl) (by decide) ?_
        obtain ⟨y13, ey13, h⟩ := zlet_eq h
        refine z_topi ey13 ?_
        refine z_istore (pc := 36) C dX6_reads_36 (by decide) (show zput _ _ _ = [(4, .int y13), (3, .ref qv11), (0, .ref r0), (1, .int x1), (2, .int x2)] from rfl) ?_
        refine z_aload_n (pc := 38) C 2 dX6_reads_38 rfl rfl ?_
        obtain ⟨qv14, eqv14, h⟩ := ob1_eq h
        refine z_fr (pc := 39) C dX6_reads_39 fl_X6_16 eqv14 ?_
        obtain ⟨u15, eu15, h⟩ := ob1_eq h
        obtain ⟨w16, ew16⟩ := isO_eq eu15
        obtain ⟨G17, eG17, h⟩ := ob1_eq h
        refine z_callVv (h := qv14) (As := []) (rest := []) (pc := 42) C dX6_reads_42 ml_X6_242 (kX5_clear _ _ _ _ G10 qv14  G17 eG17) ew16 rfl rfl rfl (Nat.le_of_ble_eq_true rfl) (by decide) ?_
        refine z_iconst (pc := 45) C dX6_reads_45 (v := (0 : Int32)) (by decide) ?_
        refine z_istore (pc := 46) C dX6_reads_46 (by decide) (show zput _ _ _ = [(5, .int (0 : Int32)), (4, .int y13), (3, .ref qv11), (0, .ref r0), (1, .int x1), (2, .int x2)] from rfl) ?_
        exact z_subL [3, 4, 2, 1, 0] (wfX6_reads_b48 C E FU G17 r0 x1 qv11 y13 (0 : Int32) h) rfl
      · rw [if_neg c7] at h
        refine z_iconst (pc := 19) C dX6_reads_19 (v := (-1 : Int32)) (by decide) ?_
        obtain rfl := Option.some.inj h
        exact z_iret (pc := 20) C E dX6_reads_20 ⟨rfl, rfl⟩
theorem kX6_reads (l : Launch) (D : va_G) (cA : Nat → ClassId) (b : Nat) (G : zH) (r0 : Nat) (x1 : Int32) (x2 : Int32) (out : Int32 × zH) (h : fX6_reads G r0 x1 x2 = some out) : zM l D cA b yX6_reads cX6_reads 6 (some .int) 5 106 [.ref r0, .int x1, .int x2] G (poI out.1 out.2) := z_entry rfl (Nat.le_of_ble_eq_true rfl) (fun X C E _ _ _ => wfX6_reads C E G r0 x1 x2 h)
def fX6_line (G : zH) (r0 : Nat) (x1 : Int32) : Option (Int32 × zH) :=
    ob1 (isO G r0 6) fun u1 =>
    ob2 (fX6_isPlace G r0 x1) fun v4 G3 =>
    if v4 = 0 then (some ((-1 : Int32), G3)) else
    ob1 (isO G3 r0 6) fun u6 =>
    ob2 (fX6_shownPage G3 r0 ) fun qv9 G8 =>
    ob1 (frf G8 r0 6 2) fun qv10 =>
    ob1 (isO G8 qv9 3) fun u11 =>
    ob1 (fX3_lineBegin G8 qv9 x1) fun v13 =>
    ob1 (isO G8 qv10 5) fun u14 =>
    ob1 (fX5_tell G8 qv10 ((x1 - v13).toInt64)) fun G16 =>
    ob1 (isO G16 qv9 3) fun u17 =>
    ob1 (fX3_breaksIn G16 qv9 (0 : Int32) x1) fun v19 =>
    some (v19, G16)
set_option maxRecDepth 100000 in
set_option maxHeartbeats 4000000 in
theorem wfX6_line {X : zX} {out : Int32 × zH} (C : zOK X cX6_line yX6_line.cls 3 (some .int) 5 106) (E : zPost X (poI out.1 out.2)) (G : zH) (r0 : Nat) (x1 : Int32) (h : fX6_line G r0 x1 = some out) : zZ X 0 [(0, .ref r0), (1, .int x1)] [] G := by
  rw [fX6_line] at h
  refine z_aload_n (pc := 0) C 0 dX6_line_0 rfl rfl ?_
  refine z_iload_n (pc := 1) C 1 dX6_line_1 rfl rfl ?_
  obtain ⟨u1, eu1, h⟩ := ob1_eq h
  obtain ⟨w2, ew2⟩ := isO_eq eu1
  obtain ⟨v4, G3, ev4, h⟩ := ob2_eq h
  refine z_callVi (h := r0) (As := [.int x1]) (rest := []) (pc := 2) C dX6_line_2 ml_X6_168 (kX6_isPlace _ _ _ _ G r0 x1 (v4, G3) ev4) ew2 rfl rfl rfl (Nat.le_of_ble_eq_true rfl) (by decide) ?_
  refine z_if_ne (pc := 5) C dX6_line_5 (tgt := 10) (by decide) (fun c5 => ?_) (fun c5 => ?_)
  · rw [if_neg c5] at h
    refine z_aload_n (pc := 10) C 0 dX6_line_10 rfl rfl ?_
    obtain ⟨u6, eu6, h⟩ := ob1_eq h
    obtain ⟨w7, ew7⟩ := isO_eq eu6
    obtain ⟨qv9, G8, eqv9, h⟩ := ob2_eq h
    refine z_callVr (h := r0) (As := []) (rest := []) (pc := 11) C dX6_line_11 ml_X6_160 (kX6_shownPage _ _ _ _ G3 r0  (qv9, G8) eqv9) ew7 rfl rfl rfl (Nat.le_of_ble_eq_true rfl) (by decide) ?_
    refine z_astore_n (pc := 14) C dX6_line_14 rfl (by decide) (show zput _ _ _ = [(2, .ref qv9), (0, .ref r0), (1, .int x1)] from rfl) ?_
    refine z_aload_n (pc := 15) C 1 dX6_line_15 rfl rfl ?_
    obtain ⟨qv10, eqv10, h⟩ := ob1_eq h
    refine z_fr (pc := 16) C dX6_line_16 fl_X6_16 eqv10 ?_
    refine z_iload_n (pc := 19) C 2 dX6_line_19 rfl rfl ?_
    refine z_aload_n (pc := 20) C 0 dX6_line_20 rfl rfl ?_
    refine z_iload_n (pc := 21) C 2 dX6_line_21 rfl rfl ?_
    obtain ⟨u11, eu11, h⟩ := ob1_eq h
    obtain ⟨w12, ew12⟩ := isO_eq eu11
    obtain ⟨v13, ev13, h⟩ := ob1_eq h
    refine z_callVi (h := qv9) (As := [.int x1]) (rest := [.int x1, .ref qv10]) (pc := 22) C dX6_line_22 ml_X6_190 (kX3_lineBegin _ _ _ _ G8 qv9 x1 v13 ev13) ew12 rfl rfl rfl (Nat.le_of_ble_eq_true rfl) (by decide) ?_
    refine z_isub (pc := 25) C dX6_line_25 ?_
    refine z_i2l (pc := 26) C dX6_line_26 ?_
    obtain ⟨u14, eu14, h⟩ := ob1_eq h
    obtain ⟨w15, ew15⟩ := isO_eq eu14
    obtain ⟨G16, eG16, h⟩ := ob1_eq h
    refine z_callVv (h := qv10) (As := [.long ((x1 - v13).toInt64)]) (rest := []) (pc := 27) C dX6_line_27 ml_X6_246 (kX5_tell _ _ _ _ G8 qv10 ((x1 - v13).toInt64) G16 eG16) ew15 rfl rfl rfl (Nat.le_of_ble_eq_true rfl) (by decide) ?_
    refine z_aload_n (pc := 30) C 0 dX6_line_30 rfl rfl ?_
    refine z_iconst (pc := 31) C dX6_line_31 (v := (0 : Int32)) (by decide) ?_
    refine z_iload_n (pc := 32) C 2 dX6_line_32 rfl rfl ?_
    obtain ⟨u17, eu17, h⟩ := ob1_eq h
    obtain ⟨w18, ew18⟩ := isO_eq eu17
    obtain ⟨v19, ev19, h⟩ := ob1_eq h
    refine z_callVi (h := qv9) (As := [.int (0 : Int32), .int x1]) (rest := []) (pc := 33) C dX6_line_33 ml_X6_164 (kX3_breaksIn _ _ _ _ G16 qv9 (0 : Int32) x1 v19 ev19) ew18 rfl rfl rfl (Nat.le_of_ble_eq_true rfl) (by decide) ?_
    obtain rfl := Option.some.inj h
    exact z_iret (pc := 36) C E dX6_line_36 ⟨rfl, rfl⟩
  · rw [if_pos c5] at h
    refine z_iconst (pc := 8) C dX6_line_8 (v := (-1 : Int32)) (by decide) ?_
    obtain rfl := Option.some.inj h
    exact z_iret (pc := 9) C E dX6_line_9 ⟨rfl, rfl⟩
theorem kX6_line (l : Launch) (D : va_G) (cA : Nat → ClassId) (b : Nat) (G : zH) (r0 : Nat) (x1 : Int32) (out : Int32 × zH) (h : fX6_line G r0 x1 = some out) : zM l D cA b yX6_line cX6_line 3 (some .int) 5 106 [.ref r0, .int x1] G (poI out.1 out.2) := z_entry rfl (Nat.le_of_ble_eq_true rfl) (fun X C E _ _ _ => wfX6_line C E G r0 x1 h)
def fX6_starts (G : zH) (r0 : Nat) (x1 : Int32) : Option (Int32 × zH) :=
    ob1 (isO G r0 6) fun u1 =>
    ob2 (fX6_shownPage G r0 ) fun qv4 G3 =>
    ob1 (isO G3 qv4 3) fun u5 =>
    ob1 (fX3_lineStart G3 qv4 x1) fun v7 =>
    if v7 = (-1 : Int32) then (some ((-1 : Int32), G3)) else
    ob1 (frf G3 r0 6 2) fun qv9 =>
    ob1 (isO G3 qv4 3) fun u10 =>
    ob1 (fX3_lineEnd G3 qv4 v7) fun v12 =>
    ob1 (isO G3 qv9 5) fun u13 =>
    ob1 (fX5_tell G3 qv9 ((v12 - v7).toInt64)) fun G15 =>
    some (v7, G15)
set_option maxRecDepth 100000 in
set_option maxHeartbeats 4000000 in
theorem wfX6_starts {X : zX} {out : Int32 × zH} (C : zOK X cX6_starts yX6_starts.cls 4 (some .int) 5 105) (E : zPost X (poI out.1 out.2)) (G : zH) (r0 : Nat) (x1 : Int32) (h : fX6_starts G r0 x1 = some out) : zZ X 0 [(0, .ref r0), (1, .int x1)] [] G := by
  rw [fX6_starts] at h
  refine z_aload_n (pc := 0) C 0 dX6_starts_0 rfl rfl ?_
  obtain ⟨u1, eu1, h⟩ := ob1_eq h
  obtain ⟨w2, ew2⟩ := isO_eq eu1
  obtain ⟨qv4, G3, eqv4, h⟩ := ob2_eq h
  refine z_callVr (h := r0) (As := []) (rest := []) (pc := 1) C dX6_starts_1 ml_X6_160 (kX6_shownPage _ _ _ _ G r0  (qv4, G3) eqv4) ew2 rfl rfl rfl (Nat.le_of_ble_eq_true rfl) (by decide) ?_
  refine z_astore_n (pc := 4) C dX6_starts_4 rfl (by decide) (show zput _ _ _ = [(2, .ref qv4), (0, .ref r0), (1, .int x1)] from rfl) ?_
  refine z_aload_n (pc := 5) C 0 dX6_starts_5 rfl rfl ?_
  refine z_iload_n (pc := 6) C 2 dX6_starts_6 rfl rfl ?_
  obtain ⟨u5, eu5, h⟩ := ob1_eq h
  obtain ⟨w6, ew6⟩ := isO_eq eu5
  obtain ⟨v7, ev7, h⟩ := ob1_eq h
  refine z_callVi (h := qv4) (As := [.int x1]) (rest := []) (pc := 7) C dX6_starts_7 ml_X6_178 (kX3_lineStart _ _ _ _ G3 qv4 x1 v7 ev7) ew6 rfl rfl rfl (Nat.le_of_ble_eq_true rfl) (by decide) ?_
  refine z_istore_n (pc := 10) C dX6_starts_10 rfl (by decide) (show zput _ _ _ = [(3, .int v7), (2, .ref qv4), (0, .ref r0), (1, .int x1)] from rfl) ?_
  refine z_iload_n (pc := 11) C 0 dX6_starts_11 rfl rfl ?_
  refine z_iconst (pc := 12) C dX6_starts_12 (v := (-1 : Int32)) (by decide) ?_
  refine z_ic_ne (pc := 13) C dX6_starts_13 (tgt := 18) (by decide) (fun c8 => ?_) (fun c8 => ?_)
  · rw [if_neg c8] at h
    refine z_aload_n (pc := 18) C 2 dX6_starts_18 rfl rfl ?_
    obtain ⟨qv9, eqv9, h⟩ := ob1_eq h
    refine z_fr (pc := 19) C dX6_starts_19 fl_X6_16 eqv9 ?_
    refine z_aload_n (pc := 22) C 1 dX6_starts_22 rfl rfl ?_
    refine z_iload_n (pc := 23) C 0 dX6_starts_23 rfl rfl ?_
    obtain ⟨u10, eu10, h⟩ := ob1_eq h
    obtain ⟨w11, ew11⟩ := isO_eq eu10
    obtain ⟨v12, ev12, h⟩ := ob1_eq h
    refine z_callVi (h := qv4) (As := [.int v7]) (rest := [.ref qv9]) (pc := 24) C dX6_starts_24 ml_X6_184 (kX3_lineEnd _ _ _ _ G3 qv4 v7 v12 ev12) ew11 rfl rfl rfl (Nat.le_of_ble_eq_true rfl) (by decide) ?_
    refine z_iload_n (pc := 27) C 0 dX6_starts_27 rfl rfl ?_
    refine z_isub (pc := 28) C dX6_starts_28 ?_
    refine z_i2l (pc := 29) C dX6_starts_29 ?_
    obtain ⟨u13, eu13, h⟩ := ob1_eq h
    obtain ⟨w14, ew14⟩ := isO_eq eu13
    obtain ⟨G15, eG15, h⟩ := ob1_eq h
    refine z_callVv (h := qv9) (As := [.long ((v12 - v7).toInt64)]) (rest := []) (pc := 30) C dX6_starts_30 ml_X6_246 (kX5_tell _ _ _ _ G3 qv9 ((v12 - v7).toInt64) G15 eG15) ew14 rfl rfl rfl (Nat.le_of_ble_eq_true rfl) (by decide) ?_
    refine z_iload_n (pc := 33) C 0 dX6_starts_33 rfl rfl ?_
    obtain rfl := Option.some.inj h
    exact z_iret (pc := 34) C E dX6_starts_34 ⟨rfl, rfl⟩
  · rw [if_pos c8] at h
    refine z_iconst (pc := 16) C dX6_starts_16 (v := (-1 : Int32)) (by decide) ?_
    obtain rfl := Option.some.inj h
    exact z_iret (pc := 17) C E dX6_starts_17 ⟨rfl, rfl⟩
theorem kX6_starts (l : Launch) (D : va_G) (cA : Nat → ClassId) (b : Nat) (G : zH) (r0 : Nat) (x1 : Int32) (out : Int32 × zH) (h : fX6_starts G r0 x1 = some out) : zM l D cA b yX6_starts cX6_starts 4 (some .int) 5 105 [.ref r0, .int x1] G (poI out.1 out.2) := z_entry rfl (Nat.le_of_ble_eq_true rfl) (fun X C E _ _ _ => wfX6_starts C E G r0 x1 h)
def fX6_place (G : zH) (r0 : Nat) (x1 : Int32) (x2 : Int32) : Option (Int32 × zH) :=
    ob1 (isO G r0 6) fun u1 =>
    ob2 (fX6_shownPage G r0 ) fun qv4 G3 =>
    ob1 (isO G3 qv4 3) fun u5 =>
    ob1 (fX3_lineStart G3 qv4 x1) fun v7 =>
    if v7 = (-1 : Int32) then (some ((-1 : Int32), G3)) else
    if 0 ≤ x2 then (ob1 (isO G3 qv4 3) fun u10 =>
    ob1 (fX3_lineEnd G3 qv4 v7) fun v12 =>
    zlet ((if (v12 - v7) < x2 then (v12 - v7) else x2)) fun y13 =>
    ob1 (frf G3 r0 6 2) fun qv14 =>
    ob1 (isO G3 qv14 5) fun u15 =>
    ob1 (fX5_tell G3 qv14 y13.toInt64) fun G17 =>
    some ((v7 + y13), G17)) else
    some ((-1 : Int32), G3)
set_option maxRecDepth 100000 in
set_option maxHeartbeats 4000000 in
theorem wfX6_place {X : zX} {out : Int32 × zH} (C : zOK X cX6_place yX6_place.cls 6 (some .int) 5 105) (E : zPost X (poI out.1 out.2)) (G : zH) (r0 : Nat) (x1 : Int32) (x2 : Int32) (h : fX6_place G r0 x1 x2 = some out) : zZ X 0 [(0, .ref r0), (1, .int x1), (2, .int x2)] [] G := by
  rw [fX6_place] at h
  refine z_aload_n (pc := 0) C 0 dX6_place_0 rfl rfl ?_
  obtain ⟨u1, eu1, h⟩ := ob1_eq h
  obtain ⟨w2, ew2⟩ := isO_eq eu1
  obtain ⟨qv4, G3, eqv4, h⟩ := ob2_eq h
  refine z_callVr (h := r0) (As := []) (rest := []) (pc := 1) C dX6_place_1 ml_X6_160 (kX6_shownPage _ _ _ _ G r0  (qv4, G3) eqv4) ew2 rfl rfl rfl (Nat.le_of_ble_eq_true rfl) (by decide) ?_
  refine z_astore_n (pc := 4) C dX6_place_4 rfl (by decide) (show zput _ _ _ = [(3, .ref qv4), (0, .ref r0), (1, .int x1), (2, .int x2)] from rfl) ?_
  refine z_aload_n (pc := 5) C 0 dX6_place_5 rfl rfl ?_
  refine z_iload_n (pc := 6) C 2 dX6_place_6 rfl rfl ?_
  obtain ⟨u5, eu5, h⟩ := ob1_eq h
  obtain ⟨w6, ew6⟩ := isO_eq eu5
  obtain ⟨v7, ev7, h⟩ := ob1_eq h
  refine z_callVi (h := qv4) (As := [.int x1]) (rest := []) (pc := 7) C dX6_place_7 ml_X6_178 (kX3_lineStart _ _ _ _ G3 qv4 x1 v7 ev7) ew6 rfl rfl rfl (Nat.le_of_ble_eq_true rfl) (by decide) ?_
  refine z_istore (pc := 10) C dX6_place_10 (by decide) (show zput _ _ _ = [(4, .int v7), (3, .ref qv4), (0, .ref r0), (1, .int x1), (2, .int x2)] from rfl) ?_
  refine z_iload (pc := 12) C 0 dX6_place_12 rfl ?_
  refine z_iconst (pc := 14) C dX6_place_14 (v := (-1 : Int32)) (by decide) ?_
  refine z_ic_eq (pc := 15) C dX6_place_15 (tgt := 22) (by decide) (fun c8 => ?_) (fun c8 => ?_)
  · rw [if_pos c8] at h
    refine z_iconst (pc := 22) C dX6_place_22 (v := (-1 : Int32)) (by decide) ?_
    obtain rfl := Option.some.inj h
    exact z_iret (pc := 23) C E dX6_place_23 ⟨rfl, rfl⟩
  · rw [if_neg c8] at h
    refine z_iload_n (pc := 18) C 4 dX6_place_18 rfl rfl ?_
    refine z_if_ge (pc := 19) C dX6_place_19 (tgt := 24) (by decide) (fun c9 => ?_) (fun c9 => ?_)
    · rw [if_pos c9] at h
      refine z_iload_n (pc := 24) C 4 dX6_place_24 rfl rfl ?_
      refine z_aload_n (pc := 25) C 1 dX6_place_25 rfl rfl ?_
      refine z_iload (pc := 26) C 0 dX6_place_26 rfl ?_
      obtain ⟨u10, eu10, h⟩ := ob1_eq h
      obtain ⟨w11, ew11⟩ := isO_eq eu10
      obtain ⟨v12, ev12, h⟩ := ob1_eq h
      refine z_callVi (h := qv4) (As := [.int v7]) (rest := [.int x2]) (pc := 28) C dX6_place_28 ml_X6_184 (kX3_lineEnd _ _ _ _ G3 qv4 v7 v12 ev12) ew11 rfl rfl rfl (Nat.le_of_ble_eq_true rfl) (by decide) ?_
      refine z_iload (pc := 31) C 0 dX6_place_31 rfl ?_
      refine z_isub (pc := 33) C dX6_place_33 ?_
      refine z_mmin (pc := 34) C dX6_place_34 ml_X6_239 w_min1 w_math w_min2 (Nat.le_of_ble_eq_true rfl) (by decide) ?_
      obtain ⟨y13, ey13, h⟩ := zlet_eq h
      refine z_topi ey13 ?_
      refine z_istore (pc := 37) C dX6_place_37 (by decide) (show zput _ _ _ = [(5, .int y13), (4, .int v7), (3, .ref qv4), (0, .ref r0), (1, .int x1), (2, .int x2)] from rfl) ?_
      refine z_aload_n (pc := 39) C 3 dX6_place_39 rfl rfl ?_
      obtain ⟨qv14, eqv14, h⟩ := ob1_eq h
      refine z_fr (pc := 40) C dX6_place_40 fl_X6_16 eqv14 ?_
      refine z_iload (pc := 43) C 0 dX6_place_43 rfl ?_
      refine z_i2l (pc := 45) C dX6_place_45 ?_
      obtain ⟨u15, eu15, h⟩ := ob1_eq h
      obtain ⟨w16, ew16⟩ := isO_eq eu15
      obtain ⟨G17, eG17, h⟩ := ob1_eq h
      refine z_callVv (h := qv14) (As := [.long y13.toInt64]) (rest := []) (pc := 46) C dX6_place_46 ml_X6_246 (kX5_tell _ _ _ _ G3 qv14 y13.toInt64 G17 eG17) ew16 rfl rfl rfl (Nat.le_of_ble_eq_true rfl) (by decide) ?_
      refine z_iload (pc := 49) C 1 dX6_place_49 rfl ?_
      refine z_iload (pc := 51) C 0 dX6_place_51 rfl ?_
      refine z_iadd (pc := 53) C dX6_place_53 ?_
      obtain rfl := Option.some.inj h
      exact z_iret (pc := 54) C E dX6_place_54 ⟨rfl, rfl⟩
    · rw [if_neg c9] at h
      refine z_iconst (pc := 22) C dX6_place_22 (v := (-1 : Int32)) (by decide) ?_
      obtain rfl := Option.some.inj h
      exact z_iret (pc := 23) C E dX6_place_23 ⟨rfl, rfl⟩
theorem kX6_place (l : Launch) (D : va_G) (cA : Nat → ClassId) (b : Nat) (G : zH) (r0 : Nat) (x1 : Int32) (x2 : Int32) (out : Int32 × zH) (h : fX6_place G r0 x1 x2 = some out) : zM l D cA b yX6_place cX6_place 6 (some .int) 5 105 [.ref r0, .int x1, .int x2] G (poI out.1 out.2) := z_entry rfl (Nat.le_of_ble_eq_true rfl) (fun X C E _ _ _ => wfX6_place C E G r0 x1 x2 h)
def fX6_longest_b93 (G : zH) (r0 : Nat) (x2 : Int32) (x3 : Int32) (x4 : Int32) : Option (Int32 × zH) :=
    ob1 (frf G r0 6 2) fun qv1 =>
    ob1 (isO G qv1 5) fun u2 =>
    ob1 (fX5_tell_ G qv1 x3.toInt64 x4.toInt64) fun G4 =>
    some (x2, G4)
set_option maxRecDepth 100000 in
set_option maxHeartbeats 4000000 in
theorem wfX6_longest_b93 {X : zX} {out : Int32 × zH} (C : zOK X cX6_longest yX6_longest.cls 8 (some .int) 5 105) (E : zPost X (poI out.1 out.2)) (G : zH) (r0 : Nat) (x2 : Int32) (x3 : Int32) (x4 : Int32) (h : fX6_longest_b93 G r0 x2 x3 x4 = some out) : zZ X 93 [(0, .ref r0), (2, .int x2), (3, .int x3), (4, .int x4)] [] G := by
  rw [fX6_longest_b93] at h
  refine z_aload_n (pc := 93) C 0 dX6_longest_93 rfl rfl ?_
  obtain ⟨qv1, eqv1, h⟩ := ob1_eq h
  refine z_fr (pc := 94) C dX6_longest_94 fl_X6_16 eqv1 ?_
  refine z_iload_n (pc := 97) C 2 dX6_longest_97 rfl rfl ?_
  refine z_i2l (pc := 98) C dX6_longest_98 ?_
  refine z_iload (pc := 99) C 3 dX6_longest_99 rfl ?_
  refine z_i2l (pc := 101) C dX6_longest_101 ?_
  obtain ⟨u2, eu2, h⟩ := ob1_eq h
  obtain ⟨w3, ew3⟩ := isO_eq eu2
  obtain ⟨G4, eG4, h⟩ := ob1_eq h
  refine z_callVv (h := qv1) (As := [.long x3.toInt64, .long x4.toInt64]) (rest := []) (pc := 102) C dX6_longest_102 ml_X6_217 (kX5_tell_ _ _ _ _ G qv1 x3.toInt64 x4.toInt64 G4 eG4) ew3 rfl rfl rfl (Nat.le_of_ble_eq_true rfl) (by decide) ?_
  refine z_iload_n (pc := 105) C 1 dX6_longest_105 rfl rfl ?_
  obtain rfl := Option.some.inj h
  exact z_iret (pc := 106) C E dX6_longest_106 ⟨rfl, rfl⟩
def fX6_longest_b87 (k21 : zH → Nat → Nat → Int32 → Int32 → Int32 → Int32 → Int32 → Int32 → Option (Int32 × zH)) (G : zH) (r0 : Nat) (r1 : Nat) (x2 : Int32) (x3 : Int32) (x4 : Int32) (x5 : Int32) (x6 : Int32) (x7 : Int32) : Option (Int32 × zH) :=
    zlet (x7 + (1 : Int32)) fun y1 =>
    k21 G r0 r1 x2 x3 x4 x5 x6 y1
set_option maxRecDepth 100000 in
set_option maxHeartbeats 4000000 in
theorem wfX6_longest_b87 {X : zX} {out : Int32 × zH} (C : zOK X cX6_longest yX6_longest.cls 8 (some .int) 5 105) (E : zPost X (poI out.1 out.2)) (k21 : zH → Nat → Nat → Int32 → Int32 → Int32 → Int32 → Int32 → Int32 → Option (Int32 × zH)) (hk21 : ∀ (G : zH) (r0 : Nat) (r1 : Nat) (x2 : Int32) (x3 : Int32) (x4 : Int32) (x5 : Int32) (x6 : Int32) (x7 : Int32), k21 G r0 r1 x2 x3 x4 x5 x6 x7 = some out → zZ X 21 [(0, .ref r0), (1, .ref r1), (2, .int x2), (3, .int x3), (4, .int x4), (5, .int x5), (6, .int x6), (7, .int x7)] [] G) (G : zH) (r0 : Nat) (r1 : Nat) (x2 : Int32) (x3 : Int32) (x4 : Int32) (x5 : Int32) (x6 : Int32) (x7 : Int32) (h : fX6_longest_b87 k21 G r0 r1 x2 x3 x4 x5 x6 x7 = some out) : zZ X 87 [(0, .ref r0), (1, .ref r1), (2, .int x2), (3, .int x3), (4, .int x4), (5, .int x5), (6, .int x6), (7, .int x7)] [] G := by
  rw [fX6_longest_b87] at h
  obtain ⟨y1, ey1, h⟩ := zlet_eq h
  refine z_iinc (pc := 87) (v := y1) C 7 dX6_longest_87 rfl (by rw [ey1]; rfl) (by decide) (show zput _ _ _ = [(7, .int y1), (0, .ref r0), (1, .ref r1), (2, .int x2), (3, .int x3), (4, .int x4), (5, .int x5), (6, .int x6)] from rfl) ?_
  refine z_goto (pc := 90) C dX6_longest_90 (tgt := 21) (by decide) ?_
  exact z_subL [1, 2, 3, 4, 5, 6, 7, 0] (hk21 G r0 r1 x2 x3 x4 x5 x6 y1 h) rfl
def fX6_longest_b78 (k21 : zH → Nat → Nat → Int32 → Int32 → Int32 → Int32 → Int32 → Int32 → Option (Int32 × zH)) (G : zH) (r0 : Nat) (r1 : Nat) (x2 : Int32) (x3 : Int32) (x4 : Int32) (x5 : Int32) (x7 : Int32) : Option (Int32 × zH) :=
    zlet ((x7 + (1 : Int32))) fun y1 =>
    zlet (x5 + (1 : Int32)) fun y2 =>
    fX6_longest_b87 k21 G r0 r1 x2 x3 x4 y2 y1 x7
set_option maxRecDepth 100000 in
set_option maxHeartbeats 4000000 in
theorem wfX6_longest_b78 {X : zX} {out : Int32 × zH} (C : zOK X cX6_longest yX6_longest.cls 8 (some .int) 5 105) (E : zPost X (poI out.1 out.2)) (k21 : zH → Nat → Nat → Int32 → Int32 → Int32 → Int32 → Int32 → Int32 → Option (Int32 × zH)) (hk21 : ∀ (G : zH) (r0 : Nat) (r1 : Nat) (x2 : Int32) (x3 : Int32) (x4 : Int32) (x5 : Int32) (x6 : Int32) (x7 : Int32), k21 G r0 r1 x2 x3 x4 x5 x6 x7 = some out → zZ X 21 [(0, .ref r0), (1, .ref r1), (2, .int x2), (3, .int x3), (4, .int x4), (5, .int x5), (6, .int x6), (7, .int x7)] [] G) (G : zH) (r0 : Nat) (r1 : Nat) (x2 : Int32) (x3 : Int32) (x4 : Int32) (x5 : Int32) (x7 : Int32) (h : fX6_longest_b78 k21 G r0 r1 x2 x3 x4 x5 x7 = some out) : zZ X 78 [(0, .ref r0), (1, .ref r1), (2, .int x2), (3, .int x3), (4, .int x4), (5, .int x5), (7, .int x7)] [] G := by
  rw [fX6_longest_b78] at h
  refine z_iload (pc := 78) C 6 dX6_longest_78 rfl ?_
  refine z_iconst (pc := 80) C dX6_longest_80 (v := (1 : Int32)) (by decide) ?_
  refine z_iadd (pc := 81) C dX6_longest_81 ?_
  obtain ⟨y1, ey1, h⟩ := zlet_eq h
  refine z_topi ey1 ?_
  refine z_istore (pc := 82) C dX6_longest_82 (by decide) (show zput _ _ _ = [(6, .int y1), (0, .ref r0), (1, .ref r1), (2, .int x2), (3, .int x3), (4, .int x4), (5, .int x5), (7, .int x7)] from rfl) ?_
  obtain ⟨y2, ey2, h⟩ := zlet_eq h
  refine z_iinc (pc := 84) (v := y2) C 6 dX6_longest_84 rfl (by rw [ey2]; rfl) (by decide) (show zput _ _ _ = [(5, .int y2), (6, .int y1), (0, .ref r0), (1, .ref r1), (2, .int x2), (3, .int x3), (4, .int x4), (7, .int x7)] from rfl) ?_
  exact z_subL [2, 3, 4, 5, 6, 0, 1, 7] (wfX6_longest_b87 C E k21 hk21 G r0 r1 x2 x3 x4 y2 y1 x7 h) rfl
def fX6_longest_b68 (k21 : zH → Nat → Nat → Int32 → Int32 → Int32 → Int32 → Int32 → Int32 → Option (Int32 × zH)) (G : zH) (r0 : Nat) (r1 : Nat) (x2 : Int32) (x3 : Int32) (x4 : Int32) (x5 : Int32) (x6 : Int32) (x7 : Int32) : Option (Int32 × zH) :=
    if x7 = x6 then (zlet (x4 + (1 : Int32)) fun y2 =>
    fX6_longest_b78 k21 G r0 r1 x2 x3 y2 x5 x7) else
    fX6_longest_b78 k21 G r0 r1 x2 x3 x4 x5 x7
set_option maxRecDepth 100000 in
set_option maxHeartbeats 4000000 in
theorem wfX6_longest_b68 {X : zX} {out : Int32 × zH} (C : zOK X cX6_longest yX6_longest.cls 8 (some .int) 5 105) (E : zPost X (poI out.1 out.2)) (k21 : zH → Nat → Nat → Int32 → Int32 → Int32 → Int32 → Int32 → Int32 → Option (Int32 × zH)) (hk21 : ∀ (G : zH) (r0 : Nat) (r1 : Nat) (x2 : Int32) (x3 : Int32) (x4 : Int32) (x5 : Int32) (x6 : Int32) (x7 : Int32), k21 G r0 r1 x2 x3 x4 x5 x6 x7 = some out → zZ X 21 [(0, .ref r0), (1, .ref r1), (2, .int x2), (3, .int x3), (4, .int x4), (5, .int x5), (6, .int x6), (7, .int x7)] [] G) (G : zH) (r0 : Nat) (r1 : Nat) (x2 : Int32) (x3 : Int32) (x4 : Int32) (x5 : Int32) (x6 : Int32) (x7 : Int32) (h : fX6_longest_b68 k21 G r0 r1 x2 x3 x4 x5 x6 x7 = some out) : zZ X 68 [(0, .ref r0), (1, .ref r1), (2, .int x2), (3, .int x3), (4, .int x4), (5, .int x5), (6, .int x6), (7, .int x7)] [] G := by
  rw [fX6_longest_b68] at h
  refine z_iload (pc := 68) C 7 dX6_longest_68 rfl ?_
  refine z_iload (pc := 70) C 6 dX6_longest_70 rfl ?_
  refine z_ic_ne (pc := 72) C dX6_longest_72 (tgt := 78) (by decide) (fun c1 => ?_) (fun c1 => ?_)
  · rw [if_neg c1] at h
    exact z_subL [0, 1, 2, 3, 4, 5, 7] (wfX6_longest_b78 C E k21 hk21 G r0 r1 x2 x3 x4 x5 x7 h) rfl
  · rw [if_pos c1] at h
    obtain ⟨y2, ey2, h⟩ := zlet_eq h
    refine z_iinc (pc := 75) (v := y2) C 4 dX6_longest_75 rfl (by rw [ey2]; rfl) (by decide) (show zput _ _ _ = [(4, .int y2), (0, .ref r0), (1, .ref r1), (2, .int x2), (3, .int x3), (5, .int x5), (6, .int x6), (7, .int x7)] from rfl) ?_
    exact z_subL [1, 2, 3, 4, 0, 5, 7] (wfX6_longest_b78 C E k21 hk21 G r0 r1 x2 x3 y2 x5 x7 h) rfl
def fX6_longest_b50 (k21 : zH → Nat → Nat → Int32 → Int32 → Int32 → Int32 → Int32 → Int32 → Option (Int32 × zH)) (G : zH) (r0 : Nat) (r1 : Nat) (x2 : Int32) (x3 : Int32) (x4 : Int32) (x5 : Int32) (x6 : Int32) (x7 : Int32) : Option (Int32 × zH) :=
    if (x7 - x6) ≤ x3 then (fX6_longest_b68 k21 G r0 r1 x2 x3 x4 x5 x6 x7) else
    zlet ((x7 - x6)) fun y2 =>
    fX6_longest_b68 k21 G r0 r1 x5 y2 x4 x5 x6 x7
set_option maxRecDepth 100000 in
set_option maxHeartbeats 4000000 in
theorem wfX6_longest_b50 {X : zX} {out : Int32 × zH} (C : zOK X cX6_longest yX6_longest.cls 8 (some .int) 5 105) (E : zPost X (poI out.1 out.2)) (k21 : zH → Nat → Nat → Int32 → Int32 → Int32 → Int32 → Int32 → Int32 → Option (Int32 × zH)) (hk21 : ∀ (G : zH) (r0 : Nat) (r1 : Nat) (x2 : Int32) (x3 : Int32) (x4 : Int32) (x5 : Int32) (x6 : Int32) (x7 : Int32), k21 G r0 r1 x2 x3 x4 x5 x6 x7 = some out → zZ X 21 [(0, .ref r0), (1, .ref r1), (2, .int x2), (3, .int x3), (4, .int x4), (5, .int x5), (6, .int x6), (7, .int x7)] [] G) (G : zH) (r0 : Nat) (r1 : Nat) (x2 : Int32) (x3 : Int32) (x4 : Int32) (x5 : Int32) (x6 : Int32) (x7 : Int32) (h : fX6_longest_b50 k21 G r0 r1 x2 x3 x4 x5 x6 x7 = some out) : zZ X 50 [(0, .ref r0), (1, .ref r1), (2, .int x2), (3, .int x3), (4, .int x4), (5, .int x5), (6, .int x6), (7, .int x7)] [] G := by
  rw [fX6_longest_b50] at h
  refine z_iload (pc := 50) C 7 dX6_longest_50 rfl ?_
  refine z_iload (pc := 52) C 6 dX6_longest_52 rfl ?_
  refine z_isub (pc := 54) C dX6_longest_54 ?_
  refine z_iload_n (pc := 55) C 3 dX6_longest_55 rfl rfl ?_
  refine z_ic_le (pc := 56) C dX6_longest_56 (tgt := 68) (by decide) (fun c1 => ?_) (fun c1 => ?_)
  · rw [if_pos c1] at h
    exact z_subL [0, 1, 2, 3, 4, 5, 6, 7] (wfX6_longest_b68 C E k21 hk21 G r0 r1 x2 x3 x4 x5 x6 x7 h) rfl
  · rw [if_neg c1] at h
    refine z_iload (pc := 59) C 7 dX6_longest_59 rfl ?_
    refine z_iload (pc := 61) C 6 dX6_longest_61 rfl ?_
    refine z_isub (pc := 63) C dX6_longest_63 ?_
    obtain ⟨y2, ey2, h⟩ := zlet_eq h
    refine z_topi ey2 ?_
    refine z_istore_n (pc := 64) C dX6_longest_64 rfl (by decide) (show zput _ _ _ = [(3, .int y2), (0, .ref r0), (1, .ref r1), (2, .int x2), (4, .int x4), (5, .int x5), (6, .int x6), (7, .int x7)] from rfl) ?_
    refine z_iload (pc := 65) C 5 dX6_longest_65 rfl ?_
    refine z_istore_n (pc := 67) C dX6_longest_67 rfl (by decide) (show zput _ _ _ = [(2, .int x5), (3, .int y2), (0, .ref r0), (1, .ref r1), (4, .int x4), (5, .int x5), (6, .int x6), (7, .int x7)] from rfl) ?_
    exact z_subL [2, 3, 0, 1, 4, 5, 6, 7] (wfX6_longest_b68 C E k21 hk21 G r0 r1 x5 y2 x4 x5 x6 x7 h) rfl
def fX6_longest_b21 : Nat → zH → Nat → Nat → Int32 → Int32 → Int32 → Int32 → Int32 → Int32 → Option (Int32 × zH)
  | 0, _, _, _, _, _, _, _, _, _ => none
  | n + 1, G, r0, r1, x2, x3, x4, x5, x6, x7 =>
    ob1 (fi G r1 3 2) fun v1 =>
    if v1 < x7 then (fX6_longest_b93 G r0 x2 x3 x4) else
    ob1 (fi G r1 3 2) fun v3 =>
    if x7 = v3 then (fX6_longest_b50 (fX6_longest_b21 n) G r0 r1 x2 x3 x4 x5 x6 x7) else
    ob1 (isO G r1 3) fun u5 =>
    ob1 (fX3_signAt G r1 x7) fun v7 =>
    if v7 = (10 : Int32) then (fX6_longest_b50 (fX6_longest_b21 n) G r0 r1 x2 x3 x4 x5 x6 x7) else
    fX6_longest_b87 (fX6_longest_b21 n) G r0 r1 x2 x3 x4 x5 x6 x7
set_option maxRecDepth 100000 in
set_option maxHeartbeats 4000000 in
theorem wfX6_longest_b21 {X : zX} {out : Int32 × zH} (C : zOK X cX6_longest yX6_longest.cls 8 (some .int) 5 105) (E : zPost X (poI out.1 out.2)) : ∀ (n : Nat) (G : zH) (r0 : Nat) (r1 : Nat) (x2 : Int32) (x3 : Int32) (x4 : Int32) (x5 : Int32) (x6 : Int32) (x7 : Int32) (h : fX6_longest_b21 n G r0 r1 x2 x3 x4 x5 x6 x7 = some out), zZ X 21 [(0, .ref r0), (1, .ref r1), (2, .int x2), (3, .int x3), (4, .int x4), (5, .int x5), (6, .int x6), (7, .int x7)] [] G := by
  intro n
  induction n with
  | zero => intro G r0 r1 x2 x3 x4 x5 x6 x7 h; cases h
  | succ n ih =>
    intro G r0 r1 x2 x3 x4 x5 x6 x7 h
    rw [fX6_longest_b21] at h
    refine z_iload (pc := 21) C 7 dX6_longest_21 rfl ?_
    refine z_aload_n (pc := 23) C 1 dX6_longest_23 rfl rfl ?_
    obtain ⟨v1, ev1, h⟩ := ob1_eq h
    refine z_fi (pc := 24) C dX6_longest_24 fl_X6_181 ev1 ?_
    refine z_ic_gt (pc := 27) C dX6_longest_27 (tgt := 93) (by decide) (fun c2 => ?_) (fun c2 => ?_)
    · rw [if_pos c2] at h
      exact z_subL [0, 2, 3, 4] (wfX6_longest_b93 C E G r0 x2 x3 x4 h) rfl
    · rw [if_neg c2] at h
      refine z_iload (pc := 30) C 7 dX6_longest_30 rfl ?_
      refine z_aload_n (pc := 32) C 1 dX6_longest_32 rfl rfl ?_
      obtain ⟨v3, ev3, h⟩ := ob1_eq h
      refine z_fi (pc := 33) C dX6_longest_33 fl_X6_181 ev3 ?_
      refine z_ic_eq (pc := 36) C dX6_longest_36 (tgt := 50) (by decide) (fun c4 => ?_) (fun c4 => ?_)
      · rw [if_pos c4] at h
        exact z_subL [0, 1, 2, 3, 4, 5, 6, 7] (wfX6_longest_b50 C E (fX6_longest_b21 n) ih G r0 r1 x2 x3 x4 x5 x6 x7 h) rfl
      · rw [if_neg c4] at h
        refine z_aload_n (pc := 39) C 1 dX6_longest_39 rfl rfl ?_
        refine z_iload (pc := 40) C 7 dX6_longest_40 rfl ?_
        obtain ⟨u5, eu5, h⟩ := ob1_eq h
        obtain ⟨w6, ew6⟩ := isO_eq eu5
        obtain ⟨v7, ev7, h⟩ := ob1_eq h
        refine z_callVi (h := r1) (As := [.int x7]) (rest := []) (pc := 42) C dX6_longest_42 ml_X6_236 (kX3_signAt _ _ _ _ G r1 x7 v7 ev7) ew6 rfl rfl rfl (Nat.le_of_ble_eq_true rfl) (by decide) ?_
        refine z_bipush (pc := 45) C dX6_longest_45 (v := (10 : Int32)) (by decide) ?_
        refine z_ic_ne (pc := 47) C dX6_longest_47 (tgt := 87) (by decide) (fun c8 => ?_) (fun c8 => ?_)
        · rw [if_neg c8] at h
          exact z_subL [0, 1, 2, 3, 4, 5, 6, 7] (wfX6_longest_b87 C E (fX6_longest_b21 n) ih G r0 r1 x2 x3 x4 x5 x6 x7 h) rfl
        · rw [if_pos c8] at h
          exact z_subL [0, 1, 2, 3, 4, 5, 6, 7] (wfX6_longest_b50 C E (fX6_longest_b21 n) ih G r0 r1 x2 x3 x4 x5 x6 x7 h) rfl
def fX6_longest (G : zH) (r0 : Nat) : Option (Int32 × zH) :=
    ob1 (isO G r0 6) fun u1 =>
    ob2 (fX6_shownPage G r0 ) fun qv4 G3 =>
    fX6_longest_b21 FU G3 r0 qv4 (0 : Int32) (-1 : Int32) (0 : Int32) (0 : Int32) (0 : Int32) (0 : Int32)
set_option maxRecDepth 100000 in
set_option maxHeartbeats 4000000 in
theorem wfX6_longest {X : zX} {out : Int32 × zH} (C : zOK X cX6_longest yX6_longest.cls 8 (some .int) 5 105) (E : zPost X (poI out.1 out.2)) (G : zH) (r0 : Nat) (h : fX6_longest G r0 = some out) : zZ X 0 [(0, .ref r0)] [] G := by
  rw [fX6_longest] at h
  refine z_aload_n (pc := 0) C 0 dX6_longest_0 rfl rfl ?_
  obtain ⟨u1, eu1, h⟩ := ob1_eq h
  obtain ⟨w2, ew2⟩ := isO_eq eu1
  obtain ⟨qv4, G3, eqv4, h⟩ := ob2_eq h
  refine z_callVr (h := r0) (As := []) (rest := []) (pc := 1) C dX6_longest_1 ml_X6_160 (kX6_shownPage _ _ _ _ G r0  (qv4, G3) eqv4) ew2 rfl rfl rfl (Nat.le_of_ble_eq_true rfl) (by decide) ?_
  refine z_astore_n (pc := 4) C dX6_longest_4 rfl (by decide) (show zput _ _ _ = [(1, .ref qv4), (0, .ref r0)] from rfl) ?_
  refine z_iconst (pc := 5) C dX6_longest_5 (v := (0 : Int32)) (by decide) ?_
  refine z_istore_n (pc := 6) C dX6_longest_6 rfl (by decide) (show zput _ _ _ = [(2, .int (0 : Int32)), (1, .ref qv4), (0, .ref r0)] from rfl) ?_
  refine z_iconst (pc := 7) C dX6_longest_7 (v := (-1 : Int32)) (by decide) ?_
  refine z_istore_n (pc := 8) C dX6_longest_8 rfl (by decide) (show zput _ _ _ = [(3, .int (-1 : Int32)), (2, .int (0 : Int32)), (1, .ref qv4), (0, .ref r0)] from rfl) ?_
  refine z_iconst (pc := 9) C dX6_longest_9 (v := (0 : Int32)) (by decide) ?_
  refine z_istore (pc := 10) C dX6_longest_10 (by decide) (show zput _ _ _ = [(4, .int (0 : Int32)), (3, .int (-1 : Int32)), (2, .int (0 : Int32)), (1, .ref qv4), (0, .ref r0)] from rfl) ?_
  refine z_iconst (pc := 12) C dX6_longest_12 (v := (0 : Int32)) (by decide) ?_
  refine z_istore (pc := 13) C dX6_longest_13 (by decide) (show zput _ _ _ = [(5, .int (0 : Int32)), (4, .int (0 : Int32)), (3, .int (-1 : Int32)), (2, .int (0 : Int32)), (1, .ref qv4), (0, .ref r0)] from rfl) ?_
  refine z_iconst (pc := 15) C dX6_longest_15 (v := (0 : Int32)) (by decide) ?_
  refine z_istore (pc := 16) C dX6_longest_16 (by decide) (show zput _ _ _ = [(6, .int (0 : Int32)), (5, .int (0 : Int32)), (4, .int (0 : Int32)), (3, .int (-1 : Int32)), (2, .int (0 : Int32)), (1, .ref qv4), (0, .ref r0)] from rfl) ?_
  refine z_iconst (pc := 18) C dX6_longest_18 (v := (0 : Int32)) (by decide) ?_
  refine z_istore (pc := 19) C dX6_longest_19 (by decide) (show zput _ _ _ = [(7, .int (0 : Int32)), (6, .int (0 : Int32)), (5, .int (0 : Int32)), (4, .int (0 : Int32)), (3, .int (-1 : Int32)), (2, .int (0 : Int32)), (1, .ref qv4), (0, .ref r0)] from rfl) ?_
  exact z_subL [7, 6, 5, 4, 3, 2, 1, 0] (wfX6_longest_b21 C E FU G3 r0 qv4 (0 : Int32) (-1 : Int32) (0 : Int32) (0 : Int32) (0 : Int32) (0 : Int32) h) rfl
theorem kX6_longest (l : Launch) (D : va_G) (cA : Nat → ClassId) (b : Nat) (G : zH) (r0 : Nat) (out : Int32 × zH) (h : fX6_longest G r0 = some out) : zM l D cA b yX6_longest cX6_longest 8 (some .int) 5 105 [.ref r0] G (poI out.1 out.2) := z_entry rfl (Nat.le_of_ble_eq_true rfl) (fun X C E _ _ _ => wfX6_longest C E G r0 h)
def fX6_mark (G : zH) (r0 : Nat) (x1 : Int32) : Option (Int32 × zH) :=
    if x1 < 0 then (some ((-1 : Int32), G)) else
    if x1 < (8 : Int32) then (ob1 (frf G r0 6 4) fun qv3 =>
    ob1 (isO G qv3 1) fun u4 =>
    ob2 (fX1_current G qv3 ) fun qv7 G6 =>
    ob1 (frf G6 qv7 2 4) fun qv8 =>
    ob1 (aR G6 0 qv8 x1) fun v9 =>
    if v9 = (-1 : Int32) then (some ((-2 : Int32), G6)) else
    some (v9, G6)) else
    some ((-1 : Int32), G)
set_option maxRecDepth 100000 in
set_option maxHeartbeats 4000000 in
theorem wfX6_mark {X : zX} {out : Int32 × zH} (C : zOK X cX6_mark yX6_mark.cls 3 (some .int) 4 85) (E : zPost X (poI out.1 out.2)) (G : zH) (r0 : Nat) (x1 : Int32) (h : fX6_mark G r0 x1 = some out) : zZ X 0 [(0, .ref r0), (1, .int x1)] [] G := by
  rw [fX6_mark] at h
  refine z_iload_n (pc := 0) C 1 dX6_mark_0 rfl rfl ?_
  refine z_if_lt (pc := 1) C dX6_mark_1 (tgt := 10) (by decide) (fun c1 => ?_) (fun c1 => ?_)
  · rw [if_pos c1] at h
    refine z_iconst (pc := 10) C dX6_mark_10 (v := (-1 : Int32)) (by decide) ?_
    obtain rfl := Option.some.inj h
    exact z_iret (pc := 11) C E dX6_mark_11 ⟨rfl, rfl⟩
  · rw [if_neg c1] at h
    refine z_iload_n (pc := 4) C 1 dX6_mark_4 rfl rfl ?_
    refine z_bipush (pc := 5) C dX6_mark_5 (v := (8 : Int32)) (by decide) ?_
    refine z_ic_lt (pc := 7) C dX6_mark_7 (tgt := 12) (by decide) (fun c2 => ?_) (fun c2 => ?_)
    · rw [if_pos c2] at h
      refine z_aload_n (pc := 12) C 0 dX6_mark_12 rfl rfl ?_
      obtain ⟨qv3, eqv3, h⟩ := ob1_eq h
      refine z_fr (pc := 13) C dX6_mark_13 fl_X6_30 eqv3 ?_
      obtain ⟨u4, eu4, h⟩ := ob1_eq h
      obtain ⟨w5, ew5⟩ := isO_eq eu4
      obtain ⟨qv7, G6, eqv7, h⟩ := ob2_eq h
      refine z_callVr (h := qv3) (As := []) (rest := []) (pc := 16) C dX6_mark_16 ml_X6_84 (kX1_current _ _ _ _ G qv3  (qv7, G6) eqv7) ew5 rfl rfl rfl (Nat.le_of_ble_eq_true rfl) (by decide) ?_
      obtain ⟨qv8, eqv8, h⟩ := ob1_eq h
      refine z_fr (pc := 19) C dX6_mark_19 fl_X6_248 eqv8 ?_
      refine z_iload_n (pc := 22) C 1 dX6_mark_22 rfl rfl ?_
      obtain ⟨v9, ev9, h⟩ := ob1_eq h
      refine z_aR (pc := 23) C dX6_mark_23 ev9 ?_
      refine z_istore_n (pc := 24) C dX6_mark_24 rfl (by decide) (show zput _ _ _ = [(2, .int v9), (0, .ref r0), (1, .int x1)] from rfl) ?_
      refine z_iload_n (pc := 25) C 0 dX6_mark_25 rfl rfl ?_
      refine z_iconst (pc := 26) C dX6_mark_26 (v := (-1 : Int32)) (by decide) ?_
      refine z_ic_ne (pc := 27) C dX6_mark_27 (tgt := 35) (by decide) (fun c10 => ?_) (fun c10 => ?_)
      · rw [if_neg c10] at h
        refine z_iload_n (pc := 35) C 0 dX6_mark_35 rfl rfl ?_
        obtain rfl := Option.some.inj h
        exact z_iret (pc := 36) C E dX6_mark_36 ⟨rfl, rfl⟩
      · rw [if_pos c10] at h
        refine z_bipush (pc := 30) C dX6_mark_30 (v := (-2 : Int32)) (by decide) ?_
        refine z_goto (pc := 32) C dX6_mark_32 (tgt := 36) (by decide) ?_
        obtain rfl := Option.some.inj h
        exact z_iret (pc := 36) C E dX6_mark_36 ⟨rfl, rfl⟩
    · rw [if_neg c2] at h
      refine z_iconst (pc := 10) C dX6_mark_10 (v := (-1 : Int32)) (by decide) ?_
      obtain rfl := Option.some.inj h
      exact z_iret (pc := 11) C E dX6_mark_11 ⟨rfl, rfl⟩
theorem kX6_mark (l : Launch) (D : va_G) (cA : Nat → ClassId) (b : Nat) (G : zH) (r0 : Nat) (x1 : Int32) (out : Int32 × zH) (h : fX6_mark G r0 x1 = some out) : zM l D cA b yX6_mark cX6_mark 3 (some .int) 4 85 [.ref r0, .int x1] G (poI out.1 out.2) := z_entry rfl (Nat.le_of_ble_eq_true rfl) (fun X C E _ _ _ => wfX6_mark C E G r0 x1 h)
def fX6_between (G : zH) (r0 : Nat) (x1 : Int32) (x2 : Int32) : Option (Int32 × zH) :=
    if x1 ≤ x2 then (ob1 (frf G r0 6 4) fun qv2 =>
    ob1 (isO G qv2 1) fun u3 =>
    ob2 (fX1_current G qv2 ) fun qv6 G5 =>
    ob1 (isO G5 qv6 2) fun u7 =>
    ob1 (fX2_marksFrom G5 qv6 (if x1 < (0 : Int32) then (0 : Int32) else x1) x2) fun v9 =>
    ob1 (frf G5 r0 6 2) fun qv10 =>
    ob1 (fJ6_bitCount_0f7a4 v9) fun v11 =>
    ob1 (isO G5 qv10 5) fun u12 =>
    ob1 (fX5_tell G5 qv10 v11.toInt64) fun G14 =>
    some (v9, G14)) else
    some ((-1 : Int32), G)
set_option maxRecDepth 100000 in
set_option maxHeartbeats 4000000 in
theorem wfX6_between {X : zX} {out : Int32 × zH} (C : zOK X cX6_between yX6_between.cls 4 (some .int) 4 85) (E : zPost X (poI out.1 out.2)) (G : zH) (r0 : Nat) (x1 : Int32) (x2 : Int32) (h : fX6_between G r0 x1 x2 = some out) : zZ X 0 [(0, .ref r0), (1, .int x1), (2, .int x2)] [] G := by
  rw [fX6_between] at h
  refine z_iload_n (pc := 0) C 2 dX6_between_0 rfl rfl ?_
  refine z_iload_n (pc := 1) C 1 dX6_between_1 rfl rfl ?_
  refine z_ic_ge (pc := 2) C dX6_between_2 (tgt := 7) (by decide) (fun c1 => ?_) (fun c1 => ?_)
  · rw [if_pos c1] at h
    refine z_aload_n (pc := 7) C 0 dX6_between_7 rfl rfl ?_
    obtain ⟨qv2, eqv2, h⟩ := ob1_eq h
    refine z_fr (pc := 8) C dX6_between_8 fl_X6_30 eqv2 ?_
    obtain ⟨u3, eu3, h⟩ := ob1_eq h
    obtain ⟨w4, ew4⟩ := isO_eq eu3
    obtain ⟨qv6, G5, eqv6, h⟩ := ob2_eq h
    refine z_callVr (h := qv2) (As := []) (rest := []) (pc := 11) C dX6_between_11 ml_X6_84 (kX1_current _ _ _ _ G qv2  (qv6, G5) eqv6) ew4 rfl rfl rfl (Nat.le_of_ble_eq_true rfl) (by decide) ?_
    refine z_iload_n (pc := 14) C 1 dX6_between_14 rfl rfl ?_
    refine z_iconst (pc := 15) C dX6_between_15 (v := (0 : Int32)) (by decide) ?_
    refine z_mmax (pc := 16) C dX6_between_16 ml_X6_212 w_max1 w_math w_max2 (Nat.le_of_ble_eq_true rfl) (by decide) ?_
    refine z_iload_n (pc := 19) C 2 dX6_between_19 rfl rfl ?_
    obtain ⟨u7, eu7, h⟩ := ob1_eq h
    obtain ⟨w8, ew8⟩ := isO_eq eu7
    obtain ⟨v9, ev9, h⟩ := ob1_eq h
    refine z_callVi (h := qv6) (As := [.int (if x1 < (0 : Int32) then (0 : Int32) else x1), .int x2]) (rest := []) (pc := 20) C dX6_between_20 ml_X6_251 (kX2_marksFrom _ _ _ _ G5 qv6 (if x1 < (0 : Int32) then (0 : Int32) else x1) x2 v9 ev9) ew8 rfl rfl rfl (Nat.le_of_ble_eq_true rfl) (by decide) ?_
    refine z_istore_n (pc := 23) C dX6_between_23 rfl (by decide) (show zput _ _ _ = [(3, .int v9), (0, .ref r0), (1, .int x1), (2, .int x2)] from rfl) ?_
    refine z_aload_n (pc := 24) C 1 dX6_between_24 rfl rfl ?_
    obtain ⟨qv10, eqv10, h⟩ := ob1_eq h
    refine z_fr (pc := 25) C dX6_between_25 fl_X6_16 eqv10 ?_
    refine z_iload_n (pc := 28) C 0 dX6_between_28 rfl rfl ?_
    obtain ⟨v11, ev11, h⟩ := ob1_eq h
    refine z_callSi (As := [.int v9]) (rest := [.ref qv10]) (pc := 29) C dX6_between_29 ml_X6_254 (kJ6_bitCount_0f7a4 _ _ _ _ G5 v9 _ ev11) rfl rfl (Nat.le_of_ble_eq_true rfl) (by decide) ?_
    refine z_i2l (pc := 32) C dX6_between_32 ?_
    obtain ⟨u12, eu12, h⟩ := ob1_eq h
    obtain ⟨w13, ew13⟩ := isO_eq eu12
    obtain ⟨G14, eG14, h⟩ := ob1_eq h
    refine z_callVv (h := qv10) (As := [.long v11.toInt64]) (rest := []) (pc := 33) C dX6_between_33 ml_X6_246 (kX5_tell _ _ _ _ G5 qv10 v11.toInt64 G14 eG14) ew13 rfl rfl rfl (Nat.le_of_ble_eq_true rfl) (by decide) ?_
    refine z_iload_n (pc := 36) C 0 dX6_between_36 rfl rfl ?_
    obtain rfl := Option.some.inj h
    exact z_iret (pc := 37) C E dX6_between_37 ⟨rfl, rfl⟩
  · rw [if_neg c1] at h
    refine z_iconst (pc := 5) C dX6_between_5 (v := (-1 : Int32)) (by decide) ?_
    obtain rfl := Option.some.inj h
    exact z_iret (pc := 6) C E dX6_between_6 ⟨rfl, rfl⟩
theorem kX6_between (l : Launch) (D : va_G) (cA : Nat → ClassId) (b : Nat) (G : zH) (r0 : Nat) (x1 : Int32) (x2 : Int32) (out : Int32 × zH) (h : fX6_between G r0 x1 x2 = some out) : zM l D cA b yX6_between cX6_between 4 (some .int) 4 85 [.ref r0, .int x1, .int x2] G (poI out.1 out.2) := z_entry rfl (Nat.le_of_ble_eq_true rfl) (fun X C E _ _ _ => wfX6_between C E G r0 x1 x2 h)
def fX6_piece_b29 (G : zH) : Option (Int32 × zH) :=
    none
set_option maxRecDepth 100000 in
set_option maxHeartbeats 4000000 in
theorem wfX6_piece_b29 {X : zX} {out : Int32 × zH} (C : zOK X cX6_piece yX6_piece.cls 4 (some .int) 4 85) (E : zPost X (poI out.1 out.2)) (G : zH) (h : fX6_piece_b29 G = some out) : zZ X 29 [] [] G := by
  rw [fX6_piece_b29] at h
  cases h
def fX6_piece (G : zH) (r0 : Nat) (x1 : Int32) (x2 : Int32) : Option (Int32 × zH) :=
    ob1 (frf G r0 6 4) fun qv1 =>
    ob1 (isO G qv1 1) fun u2 =>
    ob2 (fX1_current G qv1 ) fun qv5 G4 =>
    if x1 < 0 then (fX6_piece_b29 G4) else
    ob1 (fi G4 qv5 2 2) fun v7 =>
    if v7 ≤ x1 then (fX6_piece_b29 G4) else
    if x2 < 0 then (fX6_piece_b29 G4) else
    if x2 ≤ (4 : Int32) then (if x2 = (0 : Int32) then (ob1 (frf G4 qv5 2 0) fun qv12 =>
    ob1 (aR G4 0 qv12 x1) fun v13 =>
    ob1 (fX6_storeOf v13) fun v14 =>
    some (v14, G4)) else
    if x2 = (1 : Int32) then (ob1 (frf G4 qv5 2 0) fun qv16 =>
    ob1 (aR G4 0 qv16 x1) fun v17 =>
    ob1 (fX6_placeInStore v17) fun v18 =>
    some (v18, G4)) else
    if x2 = (2 : Int32) then (ob1 (frf G4 qv5 2 1) fun qv20 =>
    ob1 (aR G4 0 qv20 x1) fun v21 =>
    some (v21, G4)) else
    if x2 = (3 : Int32) then (ob1 (frf G4 r0 6 3) fun qv23 =>
    ob1 (frf G4 qv5 2 0) fun qv24 =>
    ob1 (aR G4 0 qv24 x1) fun v25 =>
    ob1 (frf G4 qv5 2 1) fun qv26 =>
    ob1 (aR G4 0 qv26 x1) fun v27 =>
    ob1 (isO G4 qv23 4) fun u28 =>
    ob1 (fX4_breaksIn G4 qv23 v25 v27) fun v30 =>
    some (v30, G4)) else
    if x2.toInt < 0 ∨ 3 < x2.toInt then (ob1 (isO G4 qv5 2) fun u32 =>
    ob1 (fX2_beginOf G4 qv5 x1) fun v34 =>
    some (v34, G4)) else none) else
    fX6_piece_b29 G4
set_option maxRecDepth 100000 in
set_option maxHeartbeats 4000000 in
theorem wfX6_piece {X : zX} {out : Int32 × zH} (C : zOK X cX6_piece yX6_piece.cls 4 (some .int) 4 85) (E : zPost X (poI out.1 out.2)) (G : zH) (r0 : Nat) (x1 : Int32) (x2 : Int32) (h : fX6_piece G r0 x1 x2 = some out) : zZ X 0 [(0, .ref r0), (1, .int x1), (2, .int x2)] [] G := by
  rw [fX6_piece] at h
  refine z_aload_n (pc := 0) C 0 dX6_piece_0 rfl rfl ?_
  obtain ⟨qv1, eqv1, h⟩ := ob1_eq h
  refine z_fr (pc := 1) C dX6_piece_1 fl_X6_30 eqv1 ?_
  obtain ⟨u2, eu2, h⟩ := ob1_eq h
  obtain ⟨w3, ew3⟩ := isO_eq eu2
  obtain ⟨qv5, G4, eqv5, h⟩ := ob2_eq h
  refine z_callVr (h := qv1) (As := []) (rest := []) (pc := 4) C dX6_piece_4 ml_X6_84 (kX1_current _ _ _ _ G qv1  (qv5, G4) eqv5) ew3 rfl rfl rfl (Nat.le_of_ble_eq_true rfl) (by decide) ?_
  refine z_astore_n (pc := 7) C dX6_piece_7 rfl (by decide) (show zput _ _ _ = [(3, .ref qv5), (0, .ref r0), (1, .int x1), (2, .int x2)] from rfl) ?_
  refine z_iload_n (pc := 8) C 2 dX6_piece_8 rfl rfl ?_
  refine z_if_lt (pc := 9) C dX6_piece_9 (tgt := 29) (by decide) (fun c6 => ?_) (fun c6 => ?_)
  · rw [if_pos c6] at h
    exact z_subL [] (wfX6_piece_b29 C E G4 h) rfl
  · rw [if_neg c6] at h
    refine z_iload_n (pc := 12) C 2 dX6_piece_12 rfl rfl ?_
    refine z_aload_n (pc := 13) C 0 dX6_piece_13 rfl rfl ?_
    obtain ⟨v7, ev7, h⟩ := ob1_eq h
    refine z_fi (pc := 14) C dX6_piece_14 fl_X6_259 ev7 ?_
    refine z_ic_ge (pc := 17) C dX6_piece_17 (tgt := 29) (by decide) (fun c8 => ?_) (fun c8 => ?_)
    · rw [if_pos c8] at h
      exact z_subL [] (wfX6_piece_b29 C E G4 h) rfl
    · rw [if_neg c8] at h
      refine z_iload_n (pc := 20) C 3 dX6_piece_20 rfl rfl ?_
      refine z_if_lt (pc := 21) C dX6_piece_21 (tgt := 29) (by decide) (fun c9 => ?_) (fun c9 => ?_)
      · rw [if_pos c9] at h
        exact z_subL [] (wfX6_piece_b29 C E G4 h) rfl
      · rw [if_neg c9] at h
        refine z_iload_n (pc := 24) C 3 dX6_piece_24 rfl rfl ?_
        refine z_iconst (pc := 25) C dX6_piece_25 (v := (4 : Int32)) (by decide) ?_
        refine z_ic_le (pc := 26) C dX6_piece_26 (tgt := 40) (by decide) (fun c10 => ?_) (fun c10 => ?_)
        · rw [if_pos c10] at h
          refine z_iload_n (pc := 40) C 3 dX6_piece_40 rfl rfl ?_
          by_cases c11 : x2 = (0 : Int32)
          · rw [if_pos c11] at h
            refine z_tableIn (pc := 41) (tgt := 72) (off := 31) C dX6_piece_41 (by rw [c11]; decide) (by rw [c11]; decide) (by rw [c11]; decide) (by decide) ?_
            refine z_aload_n (pc := 72) C 0 dX6_piece_72 rfl rfl ?_
            obtain ⟨qv12, eqv12, h⟩ := ob1_eq h
            refine z_fr (pc := 73) C dX6_piece_73 fl_X6_264 eqv12 ?_
            refine z_iload_n (pc := 76) C 2 dX6_piece_76 rfl rfl ?_
            obtain ⟨v13, ev13, h⟩ := ob1_eq h
            refine z_aR (pc := 77) C dX6_piece_77 ev13 ?_
            obtain ⟨v14, ev14, h⟩ := ob1_eq h
            refine z_callSi (As := [.int v13]) (rest := []) (pc := 78) C dX6_piece_78 ml_X6_267 (kX6_storeOf _ _ _ _ G4 v13 _ ev14) rfl rfl (Nat.le_of_ble_eq_true rfl) (by decide) ?_
            obtain rfl := Option.some.inj h
            exact z_iret (pc := 81) C E dX6_piece_81 ⟨rfl, rfl⟩
          rw [if_neg c11] at h
          by_cases c15 : x2 = (1 : Int32)
          · rw [if_pos c15] at h
            refine z_tableIn (pc := 41) (tgt := 82) (off := 41) C dX6_piece_41 (by rw [c15]; decide) (by rw [c15]; decide) (by rw [c15]; decide) (by decide) ?_
            refine z_aload_n (pc := 82) C 0 dX6_piece_82 rfl rfl ?_
            obtain ⟨qv16, eqv16, h⟩ := ob1_eq h
            refine z_fr (pc := 83) C dX6_piece_83 fl_X6_264 eqv16 ?_
            refine z_iload_n (pc := 86) C 2 dX6_piece_86 rfl rfl ?_
            obtain ⟨v17, ev17, h⟩ := ob1_eq h
            refine z_aR (pc := 87) C dX6_piece_87 ev17 ?_
            obtain ⟨v18, ev18, h⟩ := ob1_eq h
            refine z_callSi (As := [.int v17]) (rest := []) (pc := 88) C dX6_piece_88 ml_X6_270 (kX6_placeInStore _ _ _ _ G4 v17 _ ev18) rfl rfl (Nat.le_of_ble_eq_true rfl) (by decide) ?_
            obtain rfl := Option.some.inj h
            exact z_iret (pc := 91) C E dX6_piece_91 ⟨rfl, rfl⟩
          rw [if_neg c15] at h
          by_cases c19 : x2 = (2 : Int32)
          · rw [if_pos c19] at h
            refine z_tableIn (pc := 41) (tgt := 92) (off := 51) C dX6_piece_41 (by rw [c19]; decide) (by rw [c19]; decide) (by rw [c19]; decide) (by decide) ?_
            refine z_aload_n (pc := 92) C 0 dX6_piece_92 rfl rfl ?_
            obtain ⟨qv20, eqv20, h⟩ := ob1_eq h
            refine z_fr (pc := 93) C dX6_piece_93 fl_X6_273 eqv20 ?_
            refine z_iload_n (pc := 96) C 2 dX6_piece_96 rfl rfl ?_
            obtain ⟨v21, ev21, h⟩ := ob1_eq h
            refine z_aR (pc := 97) C dX6_piece_97 ev21 ?_
            obtain rfl := Option.some.inj h
            exact z_iret (pc := 98) C E dX6_piece_98 ⟨rfl, rfl⟩
          rw [if_neg c19] at h
          by_cases c22 : x2 = (3 : Int32)
          · rw [if_pos c22] at h
            refine z_tableIn (pc := 41) (tgt := 99) (off := 58) C dX6_piece_41 (by rw [c22]; decide) (by rw [c22]; decide) (by rw [c22]; decide) (by decide) ?_
            refine z_aload_n (pc := 99) C 1 dX6_piece_99 rfl rfl ?_
            obtain ⟨qv23, eqv23, h⟩ := ob1_eq h
            refine z_fr (pc := 100) C dX6_piece_100 fl_X6_23 eqv23 ?_
            refine z_aload_n (pc := 103) C 0 dX6_piece_103 rfl rfl ?_
            obtain ⟨qv24, eqv24, h⟩ := ob1_eq h
            refine z_fr (pc := 104) C dX6_piece_104 fl_X6_264 eqv24 ?_
            refine z_iload_n (pc := 107) C 2 dX6_piece_107 rfl rfl ?_
            obtain ⟨v25, ev25, h⟩ := ob1_eq h
            refine z_aR (pc := 108) C dX6_piece_108 ev25 ?_
            refine z_aload_n (pc := 109) C 0 dX6_piece_109 rfl rfl ?_
            obtain ⟨qv26, eqv26, h⟩ := ob1_eq h
            refine z_fr (pc := 110) C dX6_piece_110 fl_X6_273 eqv26 ?_
            refine z_iload_n (pc := 113) C 2 dX6_piece_113 rfl rfl ?_
            obtain ⟨v27, ev27, h⟩ := ob1_eq h
            refine z_aR (pc := 114) C dX6_piece_114 ev27 ?_
            obtain ⟨u28, eu28, h⟩ := ob1_eq h
            obtain ⟨w29, ew29⟩ := isO_eq eu28
            obtain ⟨v30, ev30, h⟩ := ob1_eq h
            refine z_callVi (h := qv23) (As := [.int v25, .int v27]) (rest := []) (pc := 115) C dX6_piece_115 ml_X6_120 (kX4_breaksIn _ _ _ _ G4 qv23 v25 v27 v30 ev30) ew29 rfl rfl rfl (Nat.le_of_ble_eq_true rfl) (by decide) ?_
            obtain rfl := Option.some.inj h
            exact z_iret (pc := 118) C E dX6_piece_118 ⟨rfl, rfl⟩
          rw [if_neg c22] at h
          by_cases c31 : x2.toInt < 0 ∨ 3 < x2.toInt
          · rw [if_pos c31] at h
            refine z_tableOut (pc := 41) (tgt := 119) C dX6_piece_41 c31 (by decide) ?_
            refine z_aload_n (pc := 119) C 0 dX6_piece_119 rfl rfl ?_
            refine z_iload_n (pc := 120) C 2 dX6_piece_120 rfl rfl ?_
            obtain ⟨u32, eu32, h⟩ := ob1_eq h
            obtain ⟨w33, ew33⟩ := isO_eq eu32
            obtain ⟨v34, ev34, h⟩ := ob1_eq h
            refine z_callVi (h := qv5) (As := [.int x1]) (rest := []) (pc := 121) C dX6_piece_121 ml_X6_276 (kX2_beginOf _ _ _ _ G4 qv5 x1 v34 ev34) ew33 rfl rfl rfl (Nat.le_of_ble_eq_true rfl) (by decide) ?_
            obtain rfl := Option.some.inj h
            exact z_iret (pc := 124) C E dX6_piece_124 ⟨rfl, rfl⟩
          · rw [if_neg c31] at h
            cases h
        · rw [if_neg c10] at h
          exact z_subL [] (wfX6_piece_b29 C E G4 h) rfl
theorem kX6_piece (l : Launch) (D : va_G) (cA : Nat → ClassId) (b : Nat) (G : zH) (r0 : Nat) (x1 : Int32) (x2 : Int32) (out : Int32 × zH) (h : fX6_piece G r0 x1 x2 = some out) : zM l D cA b yX6_piece cX6_piece 4 (some .int) 4 85 [.ref r0, .int x1, .int x2] G (poI out.1 out.2) := z_entry rfl (Nat.le_of_ble_eq_true rfl) (fun X C E _ _ _ => wfX6_piece C E G r0 x1 x2 h)
def fX6_shows (G : zH) (r0 : Nat) (x1 : Int32) : Option (Int32 × zH) :=
    ob1 (isO G r0 6) fun u1 =>
    ob2 (fX6_shownPage G r0 ) fun qv4 G3 =>
    ob1 (isO G3 qv4 3) fun u5 =>
    ob1 (fX3_has G3 qv4 x1) fun v7 =>
    if v7 = 0 then (some ((-1 : Int32), G3)) else
    ob1 (frf G3 r0 6 4) fun qv9 =>
    ob1 (isO G3 qv9 1) fun u10 =>
    ob2 (fX1_current G3 qv9 ) fun qv13 G12 =>
    ob1 (isO G12 qv4 3) fun u14 =>
    ob1 (fX3_pieceAt G12 qv4 x1) fun v16 =>
    ob1 (isO G12 qv13 2) fun u17 =>
    ob1 (fX2_beginOf G12 qv13 v16) fun v19 =>
    zlet ((x1 - v19)) fun y20 =>
    ob1 (frf G12 qv13 2 0) fun qv21 =>
    ob1 (aR G12 0 qv21 v16) fun v22 =>
    ob1 (frf G12 r0 6 2) fun qv23 =>
    ob1 (fX6_storeOf v22) fun v24 =>
    ob1 (fX6_placeInStore v22) fun v25 =>
    ob1 (isO G12 qv23 5) fun u26 =>
    ob1 (fX5_tell__ G12 qv23 y20.toInt64 v24.toInt64 ((v25 + y20).toInt64)) fun G28 =>
    some (v16, G28)
set_option maxRecDepth 100000 in
set_option maxHeartbeats 4000000 in
theorem wfX6_shows {X : zX} {out : Int32 × zH} (C : zOK X cX6_shows yX6_shows.cls 7 (some .int) 5 105) (E : zPost X (poI out.1 out.2)) (G : zH) (r0 : Nat) (x1 : Int32) (h : fX6_shows G r0 x1 = some out) : zZ X 0 [(0, .ref r0), (1, .int x1)] [] G := by
  rw [fX6_shows] at h
  refine z_aload_n (pc := 0) C 0 dX6_shows_0 rfl rfl ?_
  obtain ⟨u1, eu1, h⟩ := ob1_eq h
  obtain ⟨w2, ew2⟩ := isO_eq eu1
  obtain ⟨qv4, G3, eqv4, h⟩ := ob2_eq h
  refine z_callVr (h := r0) (As := []) (rest := []) (pc := 1) C dX6_shows_1 ml_X6_160 (kX6_shownPage _ _ _ _ G r0  (qv4, G3) eqv4) ew2 rfl rfl rfl (Nat.le_of_ble_eq_true rfl) (by decide) ?_
  refine z_astore_n (pc := 4) C dX6_shows_4 rfl (by decide) (show zput _ _ _ = [(2, .ref qv4), (0, .ref r0), (1, .int x1)] from rfl) ?_
  refine z_aload_n (pc := 5) C 0 dX6_shows_5 rfl rfl ?_
  refine z_iload_n (pc := 6) C 2 dX6_shows_6 rfl rfl ?_
  obtain ⟨u5, eu5, h⟩ := ob1_eq h
  obtain ⟨w6, ew6⟩ := isO_eq eu5
  obtain ⟨v7, ev7, h⟩ := ob1_eq h
  refine z_callVi (h := qv4) (As := [.int x1]) (rest := []) (pc := 7) C dX6_shows_7 ml_X6_233 (kX3_has _ _ _ _ G3 qv4 x1 v7 ev7) ew6 rfl rfl rfl (Nat.le_of_ble_eq_true rfl) (by decide) ?_
  refine z_if_ne (pc := 10) C dX6_shows_10 (tgt := 15) (by decide) (fun c8 => ?_) (fun c8 => ?_)
  · rw [if_neg c8] at h
    refine z_aload_n (pc := 15) C 1 dX6_shows_15 rfl rfl ?_
    obtain ⟨qv9, eqv9, h⟩ := ob1_eq h
    refine z_fr (pc := 16) C dX6_shows_16 fl_X6_30 eqv9 ?_
    obtain ⟨u10, eu10, h⟩ := ob1_eq h
    obtain ⟨w11, ew11⟩ := isO_eq eu10
    obtain ⟨qv13, G12, eqv13, h⟩ := ob2_eq h
    refine z_callVr (h := qv9) (As := []) (rest := []) (pc := 19) C dX6_shows_19 ml_X6_84 (kX1_current _ _ _ _ G3 qv9  (qv13, G12) eqv13) ew11 rfl rfl rfl (Nat.le_of_ble_eq_true rfl) (by decide) ?_
    refine z_astore_n (pc := 22) C dX6_shows_22 rfl (by decide) (show zput _ _ _ = [(3, .ref qv13), (2, .ref qv4), (0, .ref r0), (1, .int x1)] from rfl) ?_
    refine z_aload_n (pc := 23) C 1 dX6_shows_23 rfl rfl ?_
    refine z_iload_n (pc := 24) C 3 dX6_shows_24 rfl rfl ?_
    obtain ⟨u14, eu14, h⟩ := ob1_eq h
    obtain ⟨w15, ew15⟩ := isO_eq eu14
    obtain ⟨v16, ev16, h⟩ := ob1_eq h
    refine z_callVi (h := qv4) (As := [.int x1]) (rest := []) (pc := 25) C dX6_shows_25 ml_X6_279 (kX3_pieceAt _ _ _ _ G12 qv4 x1 v16 ev16) ew15 rfl rfl rfl (Nat.le_of_ble_eq_true rfl) (by decide) ?_
    refine z_istore (pc := 28) C dX6_shows_28 (by decide) (show zput _ _ _ = [(4, .int v16), (3, .ref qv13), (2, .ref qv4), (0, .ref r0), (1, .int x1)] from rfl) ?_
    refine z_iload_n (pc := 30) C 4 dX6_shows_30 rfl rfl ?_
    refine z_aload_n (pc := 31) C 1 dX6_shows_31 rfl rfl ?_
    refine z_iload (pc := 32) C 0 dX6_shows_32 rfl ?_
    obtain ⟨u17, eu17, h⟩ := ob1_eq h
    obtain ⟨w18, ew18⟩ := isO_eq eu17
    obtain ⟨v19, ev19, h⟩ := ob1_eq h
    refine z_callVi (h := qv13) (As := [.int v16]) (rest := [.int x1]) (pc := 34) C dX6_shows_34 ml_X6_276 (kX2_beginOf _ _ _ _ G12 qv13 v16 v19 ev19) ew18 rfl rfl rfl (Nat.le_of_ble_eq_true rfl) (by decide) ?_
    refine z_isub (pc := 37) C dX6_shows_37 ?_
    obtain ⟨y20, ey20, h⟩ := zlet_eq h
    refine z_topi ey20 ?_
    refine z_istore (pc := 38) C dX6_shows_38 (by decide) (show zput _ _ _ = [(5, .int y20), (4, .int v16), (3, .ref qv13), (2, .ref qv4), (0, .ref r0), (1, .int x1)] from rfl) ?_
    refine z_aload_n (pc := 40) C 2 dX6_shows_40 rfl rfl ?_
    obtain ⟨qv21, eqv21, h⟩ := ob1_eq h
    refine z_fr (pc := 41) C dX6_shows_41 fl_X6_264 eqv21 ?_
    refine z_iload (pc := 44) C 1 dX6_shows_44 rfl ?_
    obtain ⟨v22, ev22, h⟩ := ob1_eq h
    refine z_aR (pc := 46) C dX6_shows_46 ev22 ?_
    refine z_istore (pc := 47) C dX6_shows_47 (by decide) (show zput _ _ _ = [(6, .int v22), (5, .int y20), (4, .int v16), (3, .ref qv13), (2, .ref qv4), (0, .ref r0), (1, .int x1)] from rfl) ?_
    refine z_aload_n (pc := 49) C 5 dX6_shows_49 rfl rfl ?_
    obtain ⟨qv23, eqv23, h⟩ := ob1_eq h
    refine z_fr (pc := 50) C dX6_shows_50 fl_X6_16 eqv23 ?_
    refine z_iload (pc := 53) C 1 dX6_shows_53 rfl ?_
    refine z_i2l (pc := 55) C dX6_shows_55 ?_
    refine z_iload (pc := 56) C 0 dX6_shows_56 rfl ?_
    obtain ⟨v24, ev24, h⟩ := ob1_eq h
    refine z_callSi (As := [.int v22]) (rest := [.long y20.toInt64, .ref qv23]) (pc := 58) C dX6_shows_58 ml_X6_267 (kX6_storeOf _ _ _ _ G12 v22 _ ev24) rfl rfl (Nat.le_of_ble_eq_true rfl) (by decide) ?_
    refine z_i2l (pc := 61) C dX6_shows_61 ?_
    refine z_iload (pc := 62) C 0 dX6_shows_62 rfl ?_
    obtain ⟨v25, ev25, h⟩ := ob1_eq h
    refine z_callSi (As := [.int v22]) (rest := [.long v24.toInt64, .long y20.toInt64, .ref qv23]) (pc := 64) C dX6_shows_64 ml_X6_270 (kX6_placeInStore _ _ _ _ G12 v22 _ ev25) rfl rfl (Nat.le_of_ble_eq_true rfl) (by decide) ?_
    refine z_iload (pc := 67) C 1 dX6_shows_67 rfl ?_
    refine z_iadd (pc := 69) C dX6_shows_69 ?_
    refine z_i2l (pc := 70) C dX6_shows_70 ?_
    obtain ⟨u26, eu26, h⟩ := ob1_eq h
    obtain ⟨w27, ew27⟩ := isO_eq eu26
    obtain ⟨G28, eG28, h⟩ := ob1_eq h
    refine z_callVv (h := qv23) (As := [.long y20.toInt64, .long v24.toInt64, .long ((v25 + y20).toInt64)]) (rest := []) (pc := 71) C dX6_shows_71 ml_X6_282 (kX5_tell__ _ _ _ _ G12 qv23 y20.toInt64 v24.toInt64 ((v25 + y20).toInt64) G28 eG28) ew27 rfl rfl rfl (Nat.le_of_ble_eq_true rfl) (by decide) ?_
    refine z_iload (pc := 74) C 2 dX6_shows_74 rfl ?_
    obtain rfl := Option.some.inj h
    exact z_iret (pc := 76) C E dX6_shows_76 ⟨rfl, rfl⟩
  · rw [if_pos c8] at h
    refine z_iconst (pc := 13) C dX6_shows_13 (v := (-1 : Int32)) (by decide) ?_
    obtain rfl := Option.some.inj h
    exact z_iret (pc := 14) C E dX6_shows_14 ⟨rfl, rfl⟩
theorem kX6_shows (l : Launch) (D : va_G) (cA : Nat → ClassId) (b : Nat) (G : zH) (r0 : Nat) (x1 : Int32) (out : Int32 × zH) (h : fX6_shows G r0 x1 = some out) : zM l D cA b yX6_shows cX6_shows 7 (some .int) 5 105 [.ref r0, .int x1] G (poI out.1 out.2) := z_entry rfl (Nat.le_of_ble_eq_true rfl) (fun X C E _ _ _ => wfX6_shows C E G r0 x1 h)
def fX6_from_b120 (k59 : zH → Nat → Nat → Int32 → Int32 → Int32 → Int32 → Option (Int32 × zH)) (G : zH) (r0 : Nat) (r3 : Nat) (x4 : Int32) (x5 : Int32) (x6 : Int32) (x7 : Int32) : Option (Int32 × zH) :=
    ob1 (frf G r3 2 1) fun qv1 =>
    ob1 (aR G 0 qv1 x7) fun v2 =>
    zlet ((x6 + v2)) fun y3 =>
    zlet (x7 + (1 : Int32)) fun y4 =>
    k59 G r0 r3 x4 x5 y3 y4
set_option maxRecDepth 100000 in
set_option maxHeartbeats 4000000 in
theorem wfX6_from_b120 {X : zX} {out : Int32 × zH} (C : zOK X cX6_from yX6_from.cls 9 (some .int) 4 85) (E : zPost X (poI out.1 out.2)) (k59 : zH → Nat → Nat → Int32 → Int32 → Int32 → Int32 → Option (Int32 × zH)) (hk59 : ∀ (G : zH) (r0 : Nat) (r3 : Nat) (x4 : Int32) (x5 : Int32) (x6 : Int32) (x7 : Int32), k59 G r0 r3 x4 x5 x6 x7 = some out → zZ X 59 [(0, .ref r0), (3, .ref r3), (4, .int x4), (5, .int x5), (6, .int x6), (7, .int x7)] [] G) (G : zH) (r0 : Nat) (r3 : Nat) (x4 : Int32) (x5 : Int32) (x6 : Int32) (x7 : Int32) (h : fX6_from_b120 k59 G r0 r3 x4 x5 x6 x7 = some out) : zZ X 120 [(0, .ref r0), (3, .ref r3), (4, .int x4), (5, .int x5), (6, .int x6), (7, .int x7)] [] G := by
  rw [fX6_from_b120] at h
  refine z_iload (pc := 120) C 4 dX6_from_120 rfl ?_
  refine z_aload_n (pc := 122) C 1 dX6_from_122 rfl rfl ?_
  obtain ⟨qv1, eqv1, h⟩ := ob1_eq h
  refine z_fr (pc := 123) C dX6_from_123 fl_X6_273 eqv1 ?_
  refine z_iload (pc := 126) C 5 dX6_from_126 rfl ?_
  obtain ⟨v2, ev2, h⟩ := ob1_eq h
  refine z_aR (pc := 128) C dX6_from_128 ev2 ?_
  refine z_iadd (pc := 129) C dX6_from_129 ?_
  obtain ⟨y3, ey3, h⟩ := zlet_eq h
  refine z_topi ey3 ?_
  refine z_istore (pc := 130) C dX6_from_130 (by decide) (show zput _ _ _ = [(6, .int y3), (0, .ref r0), (3, .ref r3), (4, .int x4), (5, .int x5), (7, .int x7)] from rfl) ?_
  obtain ⟨y4, ey4, h⟩ := zlet_eq h
  refine z_iinc (pc := 132) (v := y4) C 5 dX6_from_132 rfl (by rw [ey4]; rfl) (by decide) (show zput _ _ _ = [(7, .int y4), (6, .int y3), (0, .ref r0), (3, .ref r3), (4, .int x4), (5, .int x5)] from rfl) ?_
  refine z_goto (pc := 135) C dX6_from_135 (tgt := 59) (by decide) ?_
  exact z_subL [2, 3, 4, 5, 1, 0] (hk59 G r0 r3 x4 x5 y3 y4 h) rfl
def fX6_from_b117 (k59 : zH → Nat → Nat → Int32 → Int32 → Int32 → Int32 → Option (Int32 × zH)) (G : zH) (r0 : Nat) (r3 : Nat) (x4 : Int32) (x5 : Int32) (x6 : Int32) (x7 : Int32) : Option (Int32 × zH) :=
    zlet (x5 + (1 : Int32)) fun y1 =>
    fX6_from_b120 k59 G r0 r3 x4 y1 x6 x7
set_option maxRecDepth 100000 in
set_option maxHeartbeats 4000000 in
theorem wfX6_from_b117 {X : zX} {out : Int32 × zH} (C : zOK X cX6_from yX6_from.cls 9 (some .int) 4 85) (E : zPost X (poI out.1 out.2)) (k59 : zH → Nat → Nat → Int32 → Int32 → Int32 → Int32 → Option (Int32 × zH)) (hk59 : ∀ (G : zH) (r0 : Nat) (r3 : Nat) (x4 : Int32) (x5 : Int32) (x6 : Int32) (x7 : Int32), k59 G r0 r3 x4 x5 x6 x7 = some out → zZ X 59 [(0, .ref r0), (3, .ref r3), (4, .int x4), (5, .int x5), (6, .int x6), (7, .int x7)] [] G) (G : zH) (r0 : Nat) (r3 : Nat) (x4 : Int32) (x5 : Int32) (x6 : Int32) (x7 : Int32) (h : fX6_from_b117 k59 G r0 r3 x4 x5 x6 x7 = some out) : zZ X 117 [(0, .ref r0), (3, .ref r3), (4, .int x4), (5, .int x5), (6, .int x6), (7, .int x7)] [] G := by
  rw [fX6_from_b117] at h
  obtain ⟨y1, ey1, h⟩ := zlet_eq h
  refine z_iinc (pc := 117) (v := y1) C 3 dX6_from_117 rfl (by rw [ey1]; rfl) (by decide) (show zput _ _ _ = [(5, .int y1), (0, .ref r0), (3, .ref r3), (4, .int x4), (6, .int x6), (7, .int x7)] from rfl) ?_
  exact z_subL [1, 2, 3, 0, 4, 5] (wfX6_from_b120 C E k59 hk59 G r0 r3 x4 y1 x6 x7 h) rfl
def fX6_from_b59 : Nat → zH → Nat → Nat → Int32 → Int32 → Int32 → Int32 → Option (Int32 × zH)
  | 0, _, _, _, _, _, _, _ => none
  | n + 1, G, r0, r3, x4, x5, x6, x7 =>
    ob1 (fi G r3 2 2) fun v1 =>
    if v1 ≤ x7 then (some (x5, G)) else
    ob1 (frf G r3 2 0) fun qv3 =>
    ob1 (aR G 0 qv3 x7) fun v4 =>
    zlet ((x4 - v4)) fun y5 =>
    if y5 < 0 then (fX6_from_b120 (fX6_from_b59 n) G r0 r3 x4 x5 x6 x7) else
    ob1 (frf G r3 2 1) fun qv7 =>
    ob1 (aR G 0 qv7 x7) fun v8 =>
    if v8 ≤ y5 then (fX6_from_b120 (fX6_from_b59 n) G r0 r3 x4 x5 x6 x7) else
    if (12 : Int32) ≤ x5 then (fX6_from_b117 (fX6_from_b59 n) G r0 r3 x4 x5 x6 x7) else
    ob1 (frf G r0 6 2) fun qv11 =>
    ob1 (isO G qv11 5) fun u12 =>
    ob1 (fX5_add G qv11 ((x6 + y5).toInt64)) fun G14 =>
    fX6_from_b117 (fX6_from_b59 n) G14 r0 r3 x4 x5 x6 x7
set_option maxRecDepth 100000 in
set_option maxHeartbeats 4000000 in
theorem wfX6_from_b59 {X : zX} {out : Int32 × zH} (C : zOK X cX6_from yX6_from.cls 9 (some .int) 4 85) (E : zPost X (poI out.1 out.2)) : ∀ (n : Nat) (G : zH) (r0 : Nat) (r3 : Nat) (x4 : Int32) (x5 : Int32) (x6 : Int32) (x7 : Int32) (h : fX6_from_b59 n G r0 r3 x4 x5 x6 x7 = some out), zZ X 59 [(0, .ref r0), (3, .ref r3), (4, .int x4), (5, .int x5), (6, .int x6), (7, .int x7)] [] G := by
  intro n
  induction n with
  | zero => intro G r0 r3 x4 x5 x6 x7 h; cases h
  | succ n ih =>
    intro G r0 r3 x4 x5 x6 x7 h
    rw [fX6_from_b59] at h
    refine z_iload (pc := 59) C 5 dX6_from_59 rfl ?_
    refine z_aload_n (pc := 61) C 1 dX6_from_61 rfl rfl ?_
    obtain ⟨v1, ev1, h⟩ := ob1_eq h
    refine z_fi (pc := 62) C dX6_from_62 fl_X6_259 ev1 ?_
    refine z_ic_ge (pc := 65) C dX6_from_65 (tgt := 138) (by decide) (fun c2 => ?_) (fun c2 => ?_)
    · rw [if_pos c2] at h
      refine z_iload (pc := 138) C 3 dX6_from_138 rfl ?_
      obtain rfl := Option.some.inj h
      exact z_iret (pc := 140) C E dX6_from_140 ⟨rfl, rfl⟩
    · rw [if_neg c2] at h
      refine z_iload (pc := 68) C 2 dX6_from_68 rfl ?_
      refine z_aload_n (pc := 70) C 1 dX6_from_70 rfl rfl ?_
      obtain ⟨qv3, eqv3, h⟩ := ob1_eq h
      refine z_fr (pc := 71) C dX6_from_71 fl_X6_264 eqv3 ?_
      refine z_iload (pc := 74) C 5 dX6_from_74 rfl ?_
      obtain ⟨v4, ev4, h⟩ := ob1_eq h
      refine z_aR (pc := 76) C dX6_from_76 ev4 ?_
      refine z_isub (pc := 77) C dX6_from_77 ?_
      obtain ⟨y5, ey5, h⟩ := zlet_eq h
      refine z_topi ey5 ?_
      refine z_istore (pc := 78) C dX6_from_78 (by decide) (show zput _ _ _ = [(8, .int y5), (0, .ref r0), (3, .ref r3), (4, .int x4), (5, .int x5), (6, .int x6), (7, .int x7)] from rfl) ?_
      refine z_iload (pc := 80) C 0 dX6_from_80 rfl ?_
      refine z_if_lt (pc := 82) C dX6_from_82 (tgt := 120) (by decide) (fun c6 => ?_) (fun c6 => ?_)
      · rw [if_pos c6] at h
        exact z_subL [1, 2, 3, 4, 5, 6] (wfX6_from_b120 C E (fX6_from_b59 n) ih G r0 r3 x4 x5 x6 x7 h) rfl
      · rw [if_neg c6] at h
        refine z_iload (pc := 85) C 0 dX6_from_85 rfl ?_
        refine z_aload_n (pc := 87) C 2 dX6_from_87 rfl rfl ?_
        obtain ⟨qv7, eqv7, h⟩ := ob1_eq h
        refine z_fr (pc := 88) C dX6_from_88 fl_X6_273 eqv7 ?_
        refine z_iload (pc := 91) C 6 dX6_from_91 rfl ?_
        obtain ⟨v8, ev8, h⟩ := ob1_eq h
        refine z_aR (pc := 93) C dX6_from_93 ev8 ?_
        refine z_ic_ge (pc := 94) C dX6_from_94 (tgt := 120) (by decide) (fun c9 => ?_) (fun c9 => ?_)
        · rw [if_pos c9] at h
          exact z_subL [1, 2, 3, 4, 5, 6] (wfX6_from_b120 C E (fX6_from_b59 n) ih G r0 r3 x4 x5 x6 x7 h) rfl
        · rw [if_neg c9] at h
          refine z_iload (pc := 97) C 4 dX6_from_97 rfl ?_
          refine z_bipush (pc := 99) C dX6_from_99 (v := (12 : Int32)) (by decide) ?_
          refine z_ic_ge (pc := 101) C dX6_from_101 (tgt := 117) (by decide) (fun c10 => ?_) (fun c10 => ?_)
          · rw [if_pos c10] at h
            exact z_subL [1, 2, 3, 4, 5, 6] (wfX6_from_b117 C E (fX6_from_b59 n) ih G r0 r3 x4 x5 x6 x7 h) rfl
          · rw [if_neg c10] at h
            refine z_aload_n (pc := 104) C 1 dX6_from_104 rfl rfl ?_
            obtain ⟨qv11, eqv11, h⟩ := ob1_eq h
            refine z_fr (pc := 105) C dX6_from_105 fl_X6_16 eqv11 ?_
            refine z_iload (pc := 108) C 5 dX6_from_108 rfl ?_
            refine z_iload (pc := 110) C 0 dX6_from_110 rfl ?_
            refine z_iadd (pc := 112) C dX6_from_112 ?_
            refine z_i2l (pc := 113) C dX6_from_113 ?_
            obtain ⟨u12, eu12, h⟩ := ob1_eq h
            obtain ⟨w13, ew13⟩ := isO_eq eu12
            obtain ⟨G14, eG14, h⟩ := ob1_eq h
            refine z_callVv (h := qv11) (As := [.long ((x6 + y5).toInt64)]) (rest := []) (pc := 114) C dX6_from_114 ml_X6_243 (kX5_add _ _ _ _ G qv11 ((x6 + y5).toInt64) G14 eG14) ew13 rfl rfl rfl (Nat.le_of_ble_eq_true rfl) (by decide) ?_
            exact z_subL [1, 2, 3, 4, 5, 6] (wfX6_from_b117 C E (fX6_from_b59 n) ih G14 r0 r3 x4 x5 x6 x7 h) rfl
def fX6_from (G : zH) (r0 : Nat) (x1 : Int32) (x2 : Int32) : Option (Int32 × zH) :=
    if x1 < 0 then (some ((-1 : Int32), G)) else
    if (1 : Int32) < x1 then (some ((-1 : Int32), G)) else
    if x2 < 0 then (some ((-1 : Int32), G)) else
    ob1 (frf G r0 6 3) fun qv4 =>
    ob1 (isO G qv4 4) fun u5 =>
    ob1 (fX4_sizeOf G qv4 x1) fun v7 =>
    if x2 < v7 then (ob1 (frf G r0 6 4) fun qv9 =>
    ob1 (isO G qv9 1) fun u10 =>
    ob2 (fX1_current G qv9 ) fun qv13 G12 =>
    ob1 (fX6_baseOf x1) fun v14 =>
    zlet ((v14 + x2)) fun y15 =>
    ob1 (frf G12 r0 6 2) fun qv16 =>
    ob1 (isO G12 qv16 5) fun u17 =>
    ob1 (fX5_clear G12 qv16 ) fun G19 =>
    fX6_from_b59 FU G19 r0 qv13 y15 (0 : Int32) (0 : Int32) (0 : Int32)) else
    some ((-1 : Int32), G)
set_option maxRecDepth 100000 in
set_option maxHeartbeats 4000000 in
theorem wfX6_from {X : zX} {out : Int32 × zH} (C : zOK X cX6_from yX6_from.cls 9 (some .int) 4 85) (E : zPost X (poI out.1 out.2)) (G : zH) (r0 : Nat) (x1 : Int32) (x2 : Int32) (h : fX6_from G r0 x1 x2 = some out) : zZ X 0 [(0, .ref r0), (1, .int x1), (2, .int x2)] [] G := by
  rw [fX6_from] at h
  refine z_iload_n (pc := 0) C 1 dX6_from_0 rfl rfl ?_
  refine z_if_lt (pc := 1) C dX6_from_1 (tgt := 25) (by decide) (fun c1 => ?_) (fun c1 => ?_)
  · rw [if_pos c1] at h
    refine z_iconst (pc := 25) C dX6_from_25 (v := (-1 : Int32)) (by decide) ?_
    obtain rfl := Option.some.inj h
    exact z_iret (pc := 26) C E dX6_from_26 ⟨rfl, rfl⟩
  · rw [if_neg c1] at h
    refine z_iload_n (pc := 4) C 1 dX6_from_4 rfl rfl ?_
    refine z_iconst (pc := 5) C dX6_from_5 (v := (1 : Int32)) (by decide) ?_
    refine z_ic_gt (pc := 6) C dX6_from_6 (tgt := 25) (by decide) (fun c2 => ?_) (fun c2 => ?_)
    · rw [if_pos c2] at h
      refine z_iconst (pc := 25) C dX6_from_25 (v := (-1 : Int32)) (by decide) ?_
      obtain rfl := Option.some.inj h
      exact z_iret (pc := 26) C E dX6_from_26 ⟨rfl, rfl⟩
    · rw [if_neg c2] at h
      refine z_iload_n (pc := 9) C 2 dX6_from_9 rfl rfl ?_
      refine z_if_lt (pc := 10) C dX6_from_10 (tgt := 25) (by decide) (fun c3 => ?_) (fun c3 => ?_)
      · rw [if_pos c3] at h
        refine z_iconst (pc := 25) C dX6_from_25 (v := (-1 : Int32)) (by decide) ?_
        obtain rfl := Option.some.inj h
        exact z_iret (pc := 26) C E dX6_from_26 ⟨rfl, rfl⟩
      · rw [if_neg c3] at h
        refine z_iload_n (pc := 13) C 2 dX6_from_13 rfl rfl ?_
        refine z_aload_n (pc := 14) C 0 dX6_from_14 rfl rfl ?_
        obtain ⟨qv4, eqv4, h⟩ := ob1_eq h
        refine z_fr (pc := 15) C dX6_from_15 fl_X6_23 eqv4 ?_
        refine z_iload_n (pc := 18) C 1 dX6_from_18 rfl rfl ?_
        obtain ⟨u5, eu5, h⟩ := ob1_eq h
        obtain ⟨w6, ew6⟩ := isO_eq eu5
        obtain ⟨v7, ev7, h⟩ := ob1_eq h
        refine z_callVi (h := qv4) (As := [.int x1]) (rest := [.int x2]) (pc := 19) C dX6_from_19 ml_X6_114 (kX4_sizeOf _ _ _ _ G qv4 x1 v7 ev7) ew6 rfl rfl rfl (Nat.le_of_ble_eq_true rfl) (by decide) ?_
        refine z_ic_lt (pc := 22) C dX6_from_22 (tgt := 27) (by decide) (fun c8 => ?_) (fun c8 => ?_)
        · rw [if_pos c8] at h
          refine z_aload_n (pc := 27) C 0 dX6_from_27 rfl rfl ?_
          obtain ⟨qv9, eqv9, h⟩ := ob1_eq h
          refine z_fr (pc := 28) C dX6_from_28 fl_X6_30 eqv9 ?_
          obtain ⟨u10, eu10, h⟩ := ob1_eq h
          obtain ⟨w11, ew11⟩ := isO_eq eu10
          obtain ⟨qv13, G12, eqv13, h⟩ := ob2_eq h
          refine z_callVr (h := qv9) (As := []) (rest := []) (pc := 31) C dX6_from_31 ml_X6_84 (kX1_current _ _ _ _ G qv9  (qv13, G12) eqv13) ew11 rfl rfl rfl (Nat.le_of_ble_eq_true rfl) (by decide) ?_
          refine z_astore_n (pc := 34) C dX6_from_34 rfl (by decide) (show zput _ _ _ = [(3, .ref qv13), (0, .ref r0), (1, .int x1), (2, .int x2)] from rfl) ?_
          refine z_iload_n (pc := 35) C 2 dX6_from_35 rfl rfl ?_
          obtain ⟨v14, ev14, h⟩ := ob1_eq h
          refine z_callSi (As := [.int x1]) (rest := []) (pc := 36) C dX6_from_36 ml_X6_117 (kX6_baseOf _ _ _ _ G12 x1 _ ev14) rfl rfl (Nat.le_of_ble_eq_true rfl) (by decide) ?_
          refine z_iload_n (pc := 39) C 3 dX6_from_39 rfl rfl ?_
          refine z_iadd (pc := 40) C dX6_from_40 ?_
          obtain ⟨y15, ey15, h⟩ := zlet_eq h
          refine z_topi ey15 ?_
          refine z_istore (pc := 41) C dX6_from_41 (by decide) (show zput _ _ _ = [(4, .int y15), (3, .ref qv13), (0, .ref r0), (1, .int x1), (2, .int x2)] from rfl) ?_
          refine z_iconst (pc := 43) C dX6_from_43 (v := (0 : Int32)) (by decide) ?_
          refine z_istore (pc := 44) C dX6_from_44 (by decide) (show zput _ _ _ = [(5, .int (0 : Int32)), (4, .int y15), (3, .ref qv13), (0, .ref r0), (1, .int x1), (2, .int x2)] from rfl) ?_
          refine z_iconst (pc := 46) C dX6_from_46 (v := (0 : Int32)) (by decide) ?_
          refine z_istore (pc := 47) C dX6_from_47 (by decide) (show zput _ _ _ = [(6, .int (0 : Int32)), (5, .int (0 : Int32)), (4, .int y15), (3, .ref qv13), (0, .ref r0), (1, .int x1), (2, .int x2)] from rfl) ?_
          refine z_aload_n (pc := 49) C 4 dX6_from_49 rfl rfl ?_
          obtain ⟨qv16, eqv16, h⟩ := ob1_eq h
          refine z_fr (pc := 50) C dX6_from_50 fl_X6_16 eqv16 ?_
          obtain ⟨u17, eu17, h⟩ := ob1_eq h
          obtain ⟨w18, ew18⟩ := isO_eq eu17
          obtain ⟨G19, eG19, h⟩ := ob1_eq h
          refine z_callVv (h := qv16) (As := []) (rest := []) (pc := 53) C dX6_from_53 ml_X6_242 (kX5_clear _ _ _ _ G12 qv16  G19 eG19) ew18 rfl rfl rfl (Nat.le_of_ble_eq_true rfl) (by decide) ?_
          refine z_iconst (pc := 56) C dX6_from_56 (v := (0 : Int32)) (by decide) ?_
          refine z_istore (pc := 57) C dX6_from_57 (by decide) (show zput _ _ _ = [(7, .int (0 : Int32)), (6, .int (0 : Int32)), (5, .int (0 : Int32)), (4, .int y15), (3, .ref qv13), (0, .ref r0), (1, .int x1), (2, .int x2)] from rfl) ?_
          exact z_subL [5, 4, 3, 2, 1, 0] (wfX6_from_b59 C E FU G19 r0 qv13 y15 (0 : Int32) (0 : Int32) (0 : Int32) h) rfl
        · rw [if_neg c8] at h
          refine z_iconst (pc := 25) C dX6_from_25 (v := (-1 : Int32)) (by decide) ?_
          obtain rfl := Option.some.inj h
          exact z_iret (pc := 26) C E dX6_from_26 ⟨rfl, rfl⟩
theorem kX6_from (l : Launch) (D : va_G) (cA : Nat → ClassId) (b : Nat) (G : zH) (r0 : Nat) (x1 : Int32) (x2 : Int32) (out : Int32 × zH) (h : fX6_from G r0 x1 x2 = some out) : zM l D cA b yX6_from cX6_from 9 (some .int) 4 85 [.ref r0, .int x1, .int x2] G (poI out.1 out.2) := z_entry rfl (Nat.le_of_ble_eq_true rfl) (fun X C E _ _ _ => wfX6_from C E G r0 x1 x2 h)
def fX6_countShown_b96 (k19 : zH → Nat → Int32 → Int32 → Nat → Int32 → Option zH) (G : zH) (r0 : Nat) (x1 : Int32) (x2 : Int32) (r3 : Nat) (x4 : Int32) : Option zH :=
    zlet (x4 + (1 : Int32)) fun y1 =>
    k19 G r0 x1 x2 r3 y1
set_option maxRecDepth 100000 in
set_option maxHeartbeats 4000000 in
theorem wfX6_countShown_b96 {X : zX} {out : zH} (C : zOK X cX6_countShown yX6_countShown.cls 7 none 4 85) (E : zPost X (poV out)) (k19 : zH → Nat → Int32 → Int32 → Nat → Int32 → Option zH) (hk19 : ∀ (G : zH) (r0 : Nat) (x1 : Int32) (x2 : Int32) (r3 : Nat) (x4 : Int32), k19 G r0 x1 x2 r3 x4 = some out → zZ X 19 [(0, .ref r0), (1, .int x1), (2, .int x2), (3, .ref r3), (4, .int x4)] [] G) (G : zH) (r0 : Nat) (x1 : Int32) (x2 : Int32) (r3 : Nat) (x4 : Int32) (h : fX6_countShown_b96 k19 G r0 x1 x2 r3 x4 = some out) : zZ X 96 [(0, .ref r0), (1, .int x1), (2, .int x2), (3, .ref r3), (4, .int x4)] [] G := by
  rw [fX6_countShown_b96] at h
  obtain ⟨y1, ey1, h⟩ := zlet_eq h
  refine z_iinc (pc := 96) (v := y1) C 4 dX6_countShown_96 rfl (by rw [ey1]; rfl) (by decide) (show zput _ _ _ = [(4, .int y1), (0, .ref r0), (1, .int x1), (2, .int x2), (3, .ref r3)] from rfl) ?_
  refine z_goto (pc := 99) C dX6_countShown_99 (tgt := 19) (by decide) ?_
  exact z_subL [1, 2, 3, 4, 0] (hk19 G r0 x1 x2 r3 y1 h) rfl
def fX6_countShown_b58 (k19 : zH → Nat → Int32 → Int32 → Nat → Int32 → Option zH) : Nat → zH → Nat → Int32 → Int32 → Nat → Int32 → Int32 → Int32 → Option zH
  | 0, _, _, _, _, _, _, _, _ => none
  | n + 1, G, r0, x1, x2, r3, x4, x5, x6 =>
    ob1 (frf G r3 2 1) fun qv1 =>
    ob1 (aR G 0 qv1 x4) fun v2 =>
    if (x5 + v2) ≤ x6 then (fX6_countShown_b96 k19 G r0 x1 x2 r3 x4) else
    if x2 ≤ x6 then (fX6_countShown_b96 k19 G r0 x1 x2 r3 x4) else
    ob1 (frf G r0 6 12) fun qv5 =>
    ob1 (aR G 0 qv5 x6) fun v6 =>
    ob1 (aW G 0 qv5 x6 (v6 + (1 : Int32))) fun G7 =>
    zlet (x6 + (1 : Int32)) fun y8 =>
    (fX6_countShown_b58 k19 n) G7 r0 x1 x2 r3 x4 x5 y8
set_option maxRecDepth 100000 in
set_option maxHeartbeats 4000000 in
theorem wfX6_countShown_b58 {X : zX} {out : zH} (C : zOK X cX6_countShown yX6_countShown.cls 7 none 4 85) (E : zPost X (poV out)) (k19 : zH → Nat → Int32 → Int32 → Nat → Int32 → Option zH) (hk19 : ∀ (G : zH) (r0 : Nat) (x1 : Int32) (x2 : Int32) (r3 : Nat) (x4 : Int32), k19 G r0 x1 x2 r3 x4 = some out → zZ X 19 [(0, .ref r0), (1, .int x1), (2, .int x2), (3, .ref r3), (4, .int x4)] [] G) : ∀ (n : Nat) (G : zH) (r0 : Nat) (x1 : Int32) (x2 : Int32) (r3 : Nat) (x4 : Int32) (x5 : Int32) (x6 : Int32) (h : fX6_countShown_b58 k19 n G r0 x1 x2 r3 x4 x5 x6 = some out), zZ X 58 [(0, .ref r0), (1, .int x1), (2, .int x2), (3, .ref r3), (4, .int x4), (5, .int x5), (6, .int x6)] [] G := by
  intro n
  induction n with
  | zero => intro G r0 x1 x2 r3 x4 x5 x6 h; cases h
  | succ n ih =>
    intro G r0 x1 x2 r3 x4 x5 x6 h
    rw [fX6_countShown_b58] at h
    refine z_iload (pc := 58) C 6 dX6_countShown_58 rfl ?_
    refine z_iload (pc := 60) C 5 dX6_countShown_60 rfl ?_
    refine z_aload_n (pc := 62) C 3 dX6_countShown_62 rfl rfl ?_
    obtain ⟨qv1, eqv1, h⟩ := ob1_eq h
    refine z_fr (pc := 63) C dX6_countShown_63 fl_X6_273 eqv1 ?_
    refine z_iload (pc := 66) C 4 dX6_countShown_66 rfl ?_
    obtain ⟨v2, ev2, h⟩ := ob1_eq h
    refine z_aR (pc := 68) C dX6_countShown_68 ev2 ?_
    refine z_iadd (pc := 69) C dX6_countShown_69 ?_
    refine z_ic_ge (pc := 70) C dX6_countShown_70 (tgt := 96) (by decide) (fun c3 => ?_) (fun c3 => ?_)
    · rw [if_pos c3] at h
      exact z_subL [0, 1, 2, 3, 4] (wfX6_countShown_b96 C E k19 hk19 G r0 x1 x2 r3 x4 h) rfl
    · rw [if_neg c3] at h
      refine z_iload (pc := 73) C 6 dX6_countShown_73 rfl ?_
      refine z_iload_n (pc := 75) C 2 dX6_countShown_75 rfl rfl ?_
      refine z_ic_ge (pc := 76) C dX6_countShown_76 (tgt := 96) (by decide) (fun c4 => ?_) (fun c4 => ?_)
      · rw [if_pos c4] at h
        exact z_subL [0, 1, 2, 3, 4] (wfX6_countShown_b96 C E k19 hk19 G r0 x1 x2 r3 x4 h) rfl
      · rw [if_neg c4] at h
        refine z_aload_n (pc := 79) C 0 dX6_countShown_79 rfl rfl ?_
        obtain ⟨qv5, eqv5, h⟩ := ob1_eq h
        refine z_fr (pc := 80) C dX6_countShown_80 fl_X6_62 eqv5 ?_
        refine z_iload (pc := 83) C 6 dX6_countShown_83 rfl ?_
        refine z_dup2 (pc := 85) C dX6_countShown_85 rfl rfl ?_
        obtain ⟨v6, ev6, h⟩ := ob1_eq h
        refine z_aR (pc := 86) C dX6_countShown_86 ev6 ?_
        refine z_iconst (pc := 87) C dX6_countShown_87 (v := (1 : Int32)) (by decide) ?_
        refine z_iadd (pc := 88) C dX6_countShown_88 ?_
        obtain ⟨G7, eG7, h⟩ := ob1_eq h
        refine z_aW (pc := 89) C dX6_countShown_89 eG7 ?_
        obtain ⟨y8, ey8, h⟩ := zlet_eq h
        refine z_iinc (pc := 90) (v := y8) C 6 dX6_countShown_90 rfl (by rw [ey8]; rfl) (by decide) (show zput _ _ _ = [(6, .int y8), (0, .ref r0), (1, .int x1), (2, .int x2), (3, .ref r3), (4, .int x4), (5, .int x5)] from rfl) ?_
        refine z_goto (pc := 93) C dX6_countShown_93 (tgt := 58) (by decide) ?_
        exact z_subL [1, 2, 3, 4, 5, 6, 0] (ih G7 r0 x1 x2 r3 x4 x5 y8 h) rfl
def fX6_countShown_b19 : Nat → zH → Nat → Int32 → Int32 → Nat → Int32 → Option zH
  | 0, _, _, _, _, _, _ => none
  | n + 1, G, r0, x1, x2, r3, x4 =>
    ob1 (fi G r3 2 2) fun v1 =>
    if v1 ≤ x4 then (some G) else
    ob1 (frf G r3 2 0) fun qv3 =>
    ob1 (aR G 0 qv3 x4) fun v4 =>
    ob1 (fX6_storeOf v4) fun v5 =>
    if v5 = x1 then (ob1 (frf G r3 2 0) fun qv7 =>
    ob1 (aR G 0 qv7 x4) fun v8 =>
    ob1 (fX6_placeInStore v8) fun v9 =>
    fX6_countShown_b58 (fX6_countShown_b19 n) FU G r0 x1 x2 r3 x4 v9 v9) else
    fX6_countShown_b96 (fX6_countShown_b19 n) G r0 x1 x2 r3 x4
set_option maxRecDepth 100000 in
set_option maxHeartbeats 4000000 in
theorem wfX6_countShown_b19 {X : zX} {out : zH} (C : zOK X cX6_countShown yX6_countShown.cls 7 none 4 85) (E : zPost X (poV out)) : ∀ (n : Nat) (G : zH) (r0 : Nat) (x1 : Int32) (x2 : Int32) (r3 : Nat) (x4 : Int32) (h : fX6_countShown_b19 n G r0 x1 x2 r3 x4 = some out), zZ X 19 [(0, .ref r0), (1, .int x1), (2, .int x2), (3, .ref r3), (4, .int x4)] [] G := by
  intro n
  induction n with
  | zero => intro G r0 x1 x2 r3 x4 h; cases h
  | succ n ih =>
    intro G r0 x1 x2 r3 x4 h
    rw [fX6_countShown_b19] at h
    refine z_iload (pc := 19) C 4 dX6_countShown_19 rfl ?_
    refine z_aload_n (pc := 21) C 3 dX6_countShown_21 rfl rfl ?_
    obtain ⟨v1, ev1, h⟩ := ob1_eq h
    refine z_fi (pc := 22) C dX6_countShown_22 fl_X6_259 ev1 ?_
    refine z_ic_ge (pc := 25) C dX6_countShown_25 (tgt := 102) (by decide) (fun c2 => ?_) (fun c2 => ?_)
    · rw [if_pos c2] at h
      obtain rfl := Option.some.inj h
      exact z_vret (pc := 102) C E dX6_countShown_102 ⟨rfl, rfl⟩
    · rw [if_neg c2] at h
      refine z_aload_n (pc := 28) C 3 dX6_countShown_28 rfl rfl ?_
      obtain ⟨qv3, eqv3, h⟩ := ob1_eq h
      refine z_fr (pc := 29) C dX6_countShown_29 fl_X6_264 eqv3 ?_
      refine z_iload (pc := 32) C 4 dX6_countShown_32 rfl ?_
      obtain ⟨v4, ev4, h⟩ := ob1_eq h
      refine z_aR (pc := 34) C dX6_countShown_34 ev4 ?_
      obtain ⟨v5, ev5, h⟩ := ob1_eq h
      refine z_callSi (As := [.int v4]) (rest := []) (pc := 35) C dX6_countShown_35 ml_X6_267 (kX6_storeOf _ _ _ _ G v4 _ ev5) rfl rfl (Nat.le_of_ble_eq_true rfl) (by decide) ?_
      refine z_iload_n (pc := 38) C 1 dX6_countShown_38 rfl rfl ?_
      refine z_ic_ne (pc := 39) C dX6_countShown_39 (tgt := 96) (by decide) (fun c6 => ?_) (fun c6 => ?_)
      · rw [if_neg c6] at h
        exact z_subL [0, 1, 2, 3, 4] (wfX6_countShown_b96 C E (fX6_countShown_b19 n) ih G r0 x1 x2 r3 x4 h) rfl
      · rw [if_pos c6] at h
        refine z_aload_n (pc := 42) C 3 dX6_countShown_42 rfl rfl ?_
        obtain ⟨qv7, eqv7, h⟩ := ob1_eq h
        refine z_fr (pc := 43) C dX6_countShown_43 fl_X6_264 eqv7 ?_
        refine z_iload (pc := 46) C 4 dX6_countShown_46 rfl ?_
        obtain ⟨v8, ev8, h⟩ := ob1_eq h
        refine z_aR (pc := 48) C dX6_countShown_48 ev8 ?_
        obtain ⟨v9, ev9, h⟩ := ob1_eq h
        refine z_callSi (As := [.int v8]) (rest := []) (pc := 49) C dX6_countShown_49 ml_X6_270 (kX6_placeInStore _ _ _ _ G v8 _ ev9) rfl rfl (Nat.le_of_ble_eq_true rfl) (by decide) ?_
        refine z_istore (pc := 52) C dX6_countShown_52 (by decide) (show zput _ _ _ = [(5, .int v9), (0, .ref r0), (1, .int x1), (2, .int x2), (3, .ref r3), (4, .int x4)] from rfl) ?_
        refine z_iload (pc := 54) C 0 dX6_countShown_54 rfl ?_
        refine z_istore (pc := 56) C dX6_countShown_56 (by decide) (show zput _ _ _ = [(6, .int v9), (5, .int v9), (0, .ref r0), (1, .int x1), (2, .int x2), (3, .ref r3), (4, .int x4)] from rfl) ?_
        exact z_subL [2, 3, 4, 5, 6, 1, 0] (wfX6_countShown_b58 C E (fX6_countShown_b19 n) ih FU G r0 x1 x2 r3 x4 v9 v9 h) rfl
def fX6_countShown (G : zH) (r0 : Nat) (x1 : Int32) (x2 : Int32) : Option zH :=
    ob1 (frf G r0 6 4) fun qv1 =>
    ob1 (isO G qv1 1) fun u2 =>
    ob2 (fX1_current G qv1 ) fun qv5 G4 =>
    ob1 (frf G4 r0 6 12) fun qv6 =>
    ob1 (fJ7_fill_53178 G4 qv6 (0 : Int32)) fun G7 =>
    fX6_countShown_b19 FU G7 r0 x1 x2 qv5 (0 : Int32)
set_option maxRecDepth 100000 in
set_option maxHeartbeats 4000000 in
theorem wfX6_countShown {X : zX} {out : zH} (C : zOK X cX6_countShown yX6_countShown.cls 7 none 4 85) (E : zPost X (poV out)) (G : zH) (r0 : Nat) (x1 : Int32) (x2 : Int32) (h : fX6_countShown G r0 x1 x2 = some out) : zZ X 0 [(0, .ref r0), (1, .int x1), (2, .int x2)] [] G := by
  rw [fX6_countShown] at h
  refine z_aload_n (pc := 0) C 0 dX6_countShown_0 rfl rfl ?_
  obtain ⟨qv1, eqv1, h⟩ := ob1_eq h
  refine z_fr (pc := 1) C dX6_countShown_1 fl_X6_30 eqv1 ?_
  obtain ⟨u2, eu2, h⟩ := ob1_eq h
  obtain ⟨w3, ew3⟩ := isO_eq eu2
  obtain ⟨qv5, G4, eqv5, h⟩ := ob2_eq h
  refine z_callVr (h := qv1) (As := []) (rest := []) (pc := 4) C dX6_countShown_4 ml_X6_84 (kX1_current _ _ _ _ G qv1  (qv5, G4) eqv5) ew3 rfl rfl rfl (Nat.le_of_ble_eq_true rfl) (by decide) ?_
  refine z_astore_n (pc := 7) C dX6_countShown_7 rfl (by decide) (show zput _ _ _ = [(3, .ref qv5), (0, .ref r0), (1, .int x1), (2, .int x2)] from rfl) ?_
  refine z_aload_n (pc := 8) C 1 dX6_countShown_8 rfl rfl ?_
  obtain ⟨qv6, eqv6, h⟩ := ob1_eq h
  refine z_fr (pc := 9) C dX6_countShown_9 fl_X6_62 eqv6 ?_
  refine z_iconst (pc := 12) C dX6_countShown_12 (v := (0 : Int32)) (by decide) ?_
  obtain ⟨G7, eG7, h⟩ := ob1_eq h
  refine z_callSv (As := [.ref qv6, .int (0 : Int32)]) (rest := []) (pc := 13) C dX6_countShown_13 ml_X6_382 (kJ7_fill_53178 _ _ _ _ G4 qv6 (0 : Int32) _ eG7) rfl rfl (Nat.le_of_ble_eq_true rfl) (by decide) ?_
  refine z_iconst (pc := 16) C dX6_countShown_16 (v := (0 : Int32)) (by decide) ?_
  refine z_istore (pc := 17) C dX6_countShown_17 (by decide) (show zput _ _ _ = [(4, .int (0 : Int32)), (3, .ref qv5), (0, .ref r0), (1, .int x1), (2, .int x2)] from rfl) ?_
  exact z_subL [2, 3, 4, 1, 0] (wfX6_countShown_b19 C E FU G7 r0 x1 x2 qv5 (0 : Int32) h) rfl
theorem kX6_countShown (l : Launch) (D : va_G) (cA : Nat → ClassId) (b : Nat) (G : zH) (r0 : Nat) (x1 : Int32) (x2 : Int32) (out : zH) (h : fX6_countShown G r0 x1 x2 = some out) : zM l D cA b yX6_countShown cX6_countShown 7 none 4 85 [.ref r0, .int x1, .int x2] G (poV out) := z_entry rfl (Nat.le_of_ble_eq_true rfl) (fun X C E _ _ _ => wfX6_countShown C E G r0 x1 x2 h)
def fX6_lost_b71 (k38 : zH → Nat → Int32 → Int32 → Int32 → Option (Int32 × zH)) (G : zH) (r0 : Nat) (x2 : Int32) (x3 : Int32) (x4 : Int32) : Option (Int32 × zH) :=
    zlet (x4 + (1 : Int32)) fun y1 =>
    k38 G r0 x2 x3 y1
set_option maxRecDepth 100000 in
set_option maxHeartbeats 4000000 in
theorem wfX6_lost_b71 {X : zX} {out : Int32 × zH} (C : zOK X cX6_lost yX6_lost.cls 5 (some .int) 5 111) (E : zPost X (poI out.1 out.2)) (k38 : zH → Nat → Int32 → Int32 → Int32 → Option (Int32 × zH)) (hk38 : ∀ (G : zH) (r0 : Nat) (x2 : Int32) (x3 : Int32) (x4 : Int32), k38 G r0 x2 x3 x4 = some out → zZ X 38 [(0, .ref r0), (2, .int x2), (3, .int x3), (4, .int x4)] [] G) (G : zH) (r0 : Nat) (x2 : Int32) (x3 : Int32) (x4 : Int32) (h : fX6_lost_b71 k38 G r0 x2 x3 x4 = some out) : zZ X 71 [(0, .ref r0), (2, .int x2), (3, .int x3), (4, .int x4)] [] G := by
  rw [fX6_lost_b71] at h
  obtain ⟨y1, ey1, h⟩ := zlet_eq h
  refine z_iinc (pc := 71) (v := y1) C 3 dX6_lost_71 rfl (by rw [ey1]; rfl) (by decide) (show zput _ _ _ = [(4, .int y1), (0, .ref r0), (2, .int x2), (3, .int x3)] from rfl) ?_
  refine z_goto (pc := 74) C dX6_lost_74 (tgt := 38) (by decide) ?_
  exact z_subL [1, 2, 3, 0] (hk38 G r0 x2 x3 y1 h) rfl
def fX6_lost_b68 (k38 : zH → Nat → Int32 → Int32 → Int32 → Option (Int32 × zH)) (G : zH) (r0 : Nat) (x2 : Int32) (x3 : Int32) (x4 : Int32) : Option (Int32 × zH) :=
    zlet (x3 + (1 : Int32)) fun y1 =>
    fX6_lost_b71 k38 G r0 x2 y1 x4
set_option maxRecDepth 100000 in
set_option maxHeartbeats 4000000 in
theorem wfX6_lost_b68 {X : zX} {out : Int32 × zH} (C : zOK X cX6_lost yX6_lost.cls 5 (some .int) 5 111) (E : zPost X (poI out.1 out.2)) (k38 : zH → Nat → Int32 → Int32 → Int32 → Option (Int32 × zH)) (hk38 : ∀ (G : zH) (r0 : Nat) (x2 : Int32) (x3 : Int32) (x4 : Int32), k38 G r0 x2 x3 x4 = some out → zZ X 38 [(0, .ref r0), (2, .int x2), (3, .int x3), (4, .int x4)] [] G) (G : zH) (r0 : Nat) (x2 : Int32) (x3 : Int32) (x4 : Int32) (h : fX6_lost_b68 k38 G r0 x2 x3 x4 = some out) : zZ X 68 [(0, .ref r0), (2, .int x2), (3, .int x3), (4, .int x4)] [] G := by
  rw [fX6_lost_b68] at h
  obtain ⟨y1, ey1, h⟩ := zlet_eq h
  refine z_iinc (pc := 68) (v := y1) C 2 dX6_lost_68 rfl (by rw [ey1]; rfl) (by decide) (show zput _ _ _ = [(3, .int y1), (0, .ref r0), (2, .int x2), (4, .int x4)] from rfl) ?_
  exact z_subL [1, 2, 0, 3] (wfX6_lost_b71 C E k38 hk38 G r0 x2 y1 x4 h) rfl
def fX6_lost_b38 : Nat → zH → Nat → Int32 → Int32 → Int32 → Option (Int32 × zH)
  | 0, _, _, _, _, _ => none
  | n + 1, G, r0, x2, x3, x4 =>
    if x2 ≤ x4 then (some (x3, G)) else
    ob1 (frf G r0 6 12) fun qv2 =>
    ob1 (aR G 0 qv2 x4) fun v3 =>
    if v3 = 0 then (if x3 = 0 then (ob1 (frf G r0 6 2) fun qv6 =>
    ob1 (isO G qv6 5) fun u7 =>
    ob1 (fX5_add G qv6 x4.toInt64) fun G9 =>
    fX6_lost_b68 (fX6_lost_b38 n) G9 r0 x2 x3 x4) else
    fX6_lost_b68 (fX6_lost_b38 n) G r0 x2 x3 x4) else
    fX6_lost_b71 (fX6_lost_b38 n) G r0 x2 x3 x4
set_option maxRecDepth 100000 in
set_option maxHeartbeats 4000000 in
theorem wfX6_lost_b38 {X : zX} {out : Int32 × zH} (C : zOK X cX6_lost yX6_lost.cls 5 (some .int) 5 111) (E : zPost X (poI out.1 out.2)) : ∀ (n : Nat) (G : zH) (r0 : Nat) (x2 : Int32) (x3 : Int32) (x4 : Int32) (h : fX6_lost_b38 n G r0 x2 x3 x4 = some out), zZ X 38 [(0, .ref r0), (2, .int x2), (3, .int x3), (4, .int x4)] [] G := by
  intro n
  induction n with
  | zero => intro G r0 x2 x3 x4 h; cases h
  | succ n ih =>
    intro G r0 x2 x3 x4 h
    rw [fX6_lost_b38] at h
    refine z_iload (pc := 38) C 3 dX6_lost_38 rfl ?_
    refine z_iload_n (pc := 40) C 1 dX6_lost_40 rfl rfl ?_
    refine z_ic_ge (pc := 41) C dX6_lost_41 (tgt := 77) (by decide) (fun c1 => ?_) (fun c1 => ?_)
    · rw [if_pos c1] at h
      refine z_iload_n (pc := 77) C 2 dX6_lost_77 rfl rfl ?_
      obtain rfl := Option.some.inj h
      exact z_iret (pc := 78) C E dX6_lost_78 ⟨rfl, rfl⟩
    · rw [if_neg c1] at h
      refine z_aload_n (pc := 44) C 0 dX6_lost_44 rfl rfl ?_
      obtain ⟨qv2, eqv2, h⟩ := ob1_eq h
      refine z_fr (pc := 45) C dX6_lost_45 fl_X6_62 eqv2 ?_
      refine z_iload (pc := 48) C 3 dX6_lost_48 rfl ?_
      obtain ⟨v3, ev3, h⟩ := ob1_eq h
      refine z_aR (pc := 50) C dX6_lost_50 ev3 ?_
      refine z_if_ne (pc := 51) C dX6_lost_51 (tgt := 71) (by decide) (fun c4 => ?_) (fun c4 => ?_)
      · rw [if_neg c4] at h
        exact z_subL [0, 1, 2, 3] (wfX6_lost_b71 C E (fX6_lost_b38 n) ih G r0 x2 x3 x4 h) rfl
      · rw [if_pos c4] at h
        refine z_iload_n (pc := 54) C 2 dX6_lost_54 rfl rfl ?_
        refine z_if_ne (pc := 55) C dX6_lost_55 (tgt := 68) (by decide) (fun c5 => ?_) (fun c5 => ?_)
        · rw [if_neg c5] at h
          exact z_subL [0, 1, 2, 3] (wfX6_lost_b68 C E (fX6_lost_b38 n) ih G r0 x2 x3 x4 h) rfl
        · rw [if_pos c5] at h
          refine z_aload_n (pc := 58) C 0 dX6_lost_58 rfl rfl ?_
          obtain ⟨qv6, eqv6, h⟩ := ob1_eq h
          refine z_fr (pc := 59) C dX6_lost_59 fl_X6_16 eqv6 ?_
          refine z_iload (pc := 62) C 3 dX6_lost_62 rfl ?_
          refine z_i2l (pc := 64) C dX6_lost_64 ?_
          obtain ⟨u7, eu7, h⟩ := ob1_eq h
          obtain ⟨w8, ew8⟩ := isO_eq eu7
          obtain ⟨G9, eG9, h⟩ := ob1_eq h
          refine z_callVv (h := qv6) (As := [.long x4.toInt64]) (rest := []) (pc := 65) C dX6_lost_65 ml_X6_243 (kX5_add _ _ _ _ G qv6 x4.toInt64 G9 eG9) ew8 rfl rfl rfl (Nat.le_of_ble_eq_true rfl) (by decide) ?_
          exact z_subL [0, 1, 2, 3] (wfX6_lost_b68 C E (fX6_lost_b38 n) ih G9 r0 x2 x3 x4 h) rfl
def fX6_lost (G : zH) (r0 : Nat) (x1 : Int32) : Option (Int32 × zH) :=
    if x1 < 0 then (some ((-1 : Int32), G)) else
    if x1 ≤ (1 : Int32) then (ob1 (frf G r0 6 3) fun qv3 =>
    ob1 (isO G qv3 4) fun u4 =>
    ob1 (fX4_sizeOf G qv3 x1) fun v6 =>
    ob1 (isO G r0 6) fun u7 =>
    ob1 (fX6_countShown G r0 x1 v6) fun G9 =>
    ob1 (frf G9 r0 6 2) fun qv10 =>
    ob1 (isO G9 qv10 5) fun u11 =>
    ob1 (fX5_clear G9 qv10 ) fun G13 =>
    fX6_lost_b38 FU G13 r0 v6 (0 : Int32) (0 : Int32)) else
    some ((-1 : Int32), G)
set_option maxRecDepth 100000 in
set_option maxHeartbeats 4000000 in
theorem wfX6_lost {X : zX} {out : Int32 × zH} (C : zOK X cX6_lost yX6_lost.cls 5 (some .int) 5 111) (E : zPost X (poI out.1 out.2)) (G : zH) (r0 : Nat) (x1 : Int32) (h : fX6_lost G r0 x1 = some out) : zZ X 0 [(0, .ref r0), (1, .int x1)] [] G := by
  rw [fX6_lost] at h
  refine z_iload_n (pc := 0) C 1 dX6_lost_0 rfl rfl ?_
  refine z_if_lt (pc := 1) C dX6_lost_1 (tgt := 9) (by decide) (fun c1 => ?_) (fun c1 => ?_)
  · rw [if_pos c1] at h
    refine z_iconst (pc := 9) C dX6_lost_9 (v := (-1 : Int32)) (by decide) ?_
    obtain rfl := Option.some.inj h
    exact z_iret (pc := 10) C E dX6_lost_10 ⟨rfl, rfl⟩
  · rw [if_neg c1] at h
    refine z_iload_n (pc := 4) C 1 dX6_lost_4 rfl rfl ?_
    refine z_iconst (pc := 5) C dX6_lost_5 (v := (1 : Int32)) (by decide) ?_
    refine z_ic_le (pc := 6) C dX6_lost_6 (tgt := 11) (by decide) (fun c2 => ?_) (fun c2 => ?_)
    · rw [if_pos c2] at h
      refine z_aload_n (pc := 11) C 0 dX6_lost_11 rfl rfl ?_
      obtain ⟨qv3, eqv3, h⟩ := ob1_eq h
      refine z_fr (pc := 12) C dX6_lost_12 fl_X6_23 eqv3 ?_
      refine z_iload_n (pc := 15) C 1 dX6_lost_15 rfl rfl ?_
      obtain ⟨u4, eu4, h⟩ := ob1_eq h
      obtain ⟨w5, ew5⟩ := isO_eq eu4
      obtain ⟨v6, ev6, h⟩ := ob1_eq h
      refine z_callVi (h := qv3) (As := [.int x1]) (rest := []) (pc := 16) C dX6_lost_16 ml_X6_114 (kX4_sizeOf _ _ _ _ G qv3 x1 v6 ev6) ew5 rfl rfl rfl (Nat.le_of_ble_eq_true rfl) (by decide) ?_
      refine z_istore_n (pc := 19) C dX6_lost_19 rfl (by decide) (show zput _ _ _ = [(2, .int v6), (0, .ref r0), (1, .int x1)] from rfl) ?_
      refine z_aload_n (pc := 20) C 1 dX6_lost_20 rfl rfl ?_
      refine z_iload_n (pc := 21) C 2 dX6_lost_21 rfl rfl ?_
      refine z_iload_n (pc := 22) C 0 dX6_lost_22 rfl rfl ?_
      obtain ⟨u7, eu7, h⟩ := ob1_eq h
      obtain ⟨w8, ew8⟩ := isO_eq eu7
      obtain ⟨G9, eG9, h⟩ := ob1_eq h
      refine z_callVv (h := r0) (As := [.int x1, .int v6]) (rest := []) (pc := 23) C dX6_lost_23 ml_X6_285 (kX6_countShown _ _ _ _ G r0 x1 v6 G9 eG9) ew8 rfl rfl rfl (Nat.le_of_ble_eq_true rfl) (by decide) ?_
      refine z_iconst (pc := 26) C dX6_lost_26 (v := (0 : Int32)) (by decide) ?_
      refine z_istore_n (pc := 27) C dX6_lost_27 rfl (by decide) (show zput _ _ _ = [(3, .int (0 : Int32)), (2, .int v6), (0, .ref r0), (1, .int x1)] from rfl) ?_
      refine z_aload_n (pc := 28) C 2 dX6_lost_28 rfl rfl ?_
      obtain ⟨qv10, eqv10, h⟩ := ob1_eq h
      refine z_fr (pc := 29) C dX6_lost_29 fl_X6_16 eqv10 ?_
      obtain ⟨u11, eu11, h⟩ := ob1_eq h
      obtain ⟨w12, ew12⟩ := isO_eq eu11
      obtain ⟨G13, eG13, h⟩ := ob1_eq h
      refine z_callVv (h := qv10) (As := []) (rest := []) (pc := 32) C dX6_lost_32 ml_X6_242 (kX5_clear _ _ _ _ G9 qv10  G13 eG13) ew12 rfl rfl rfl (Nat.le_of_ble_eq_true rfl) (by decide) ?_
      refine z_iconst (pc := 35) C dX6_lost_35 (v := (0 : Int32)) (by decide) ?_
      refine z_istore (pc := 36) C dX6_lost_36 (by decide) (show zput _ _ _ = [(4, .int (0 : Int32)), (3, .int (0 : Int32)), (2, .int v6), (0, .ref r0), (1, .int x1)] from rfl) ?_
      exact z_subL [3, 2, 1, 0] (wfX6_lost_b38 C E FU G13 r0 v6 (0 : Int32) (0 : Int32) h) rfl
    · rw [if_neg c2] at h
      refine z_iconst (pc := 9) C dX6_lost_9 (v := (-1 : Int32)) (by decide) ?_
      obtain rfl := Option.some.inj h
      exact z_iret (pc := 10) C E dX6_lost_10 ⟨rfl, rfl⟩
theorem kX6_lost (l : Launch) (D : va_G) (cA : Nat → ClassId) (b : Nat) (G : zH) (r0 : Nat) (x1 : Int32) (out : Int32 × zH) (h : fX6_lost G r0 x1 = some out) : zM l D cA b yX6_lost cX6_lost 5 (some .int) 5 111 [.ref r0, .int x1] G (poI out.1 out.2) := z_entry rfl (Nat.le_of_ble_eq_true rfl) (fun X C E _ _ _ => wfX6_lost C E G r0 x1 h)
def fX6_healable_b69 (G : zH) (r1 : Nat) : Option (Int32 × zH) :=
    ob1 (isO G r1 2) fun u1 =>
    ob1 (fX2_bordersToHeal G r1 ) fun v3 =>
    some (v3, G)
set_option maxRecDepth 100000 in
set_option maxHeartbeats 4000000 in
theorem wfX6_healable_b69 {X : zX} {out : Int32 × zH} (C : zOK X cX6_healable yX6_healable.cls 4 (some .int) 4 85) (E : zPost X (poI out.1 out.2)) (G : zH) (r1 : Nat) (h : fX6_healable_b69 G r1 = some out) : zZ X 69 [(1, .ref r1)] [] G := by
  rw [fX6_healable_b69] at h
  refine z_aload_n (pc := 69) C 0 dX6_healable_69 rfl rfl ?_
  obtain ⟨u1, eu1, h⟩ := ob1_eq h
  obtain ⟨w2, ew2⟩ := isO_eq eu1
  obtain ⟨v3, ev3, h⟩ := ob1_eq h
  refine z_callVi (h := r1) (As := []) (rest := []) (pc := 70) C dX6_healable_70 ml_X6_193 (kX2_bordersToHeal _ _ _ _ G r1  v3 ev3) ew2 rfl rfl rfl (Nat.le_of_ble_eq_true rfl) (by decide) ?_
  obtain rfl := Option.some.inj h
  exact z_iret (pc := 73) C E dX6_healable_73 ⟨rfl, rfl⟩
def fX6_healable_b48 (G : zH) (r0 : Nat) (r1 : Nat) (x2 : Int32) : Option (Int32 × zH) :=
    ob1 (frf G r0 6 2) fun qv1 =>
    ob1 (isO G qv1 5) fun u2 =>
    ob1 (fX5_clear G qv1 ) fun G4 =>
    if x2 = (-1 : Int32) then (fX6_healable_b69 G4 r1) else
    ob1 (frf G4 r0 6 2) fun qv6 =>
    ob1 (isO G4 qv6 5) fun u7 =>
    ob1 (fX5_add G4 qv6 x2.toInt64) fun G9 =>
    fX6_healable_b69 G9 r1
set_option maxRecDepth 100000 in
set_option maxHeartbeats 4000000 in
theorem wfX6_healable_b48 {X : zX} {out : Int32 × zH} (C : zOK X cX6_healable yX6_healable.cls 4 (some .int) 4 85) (E : zPost X (poI out.1 out.2)) (G : zH) (r0 : Nat) (r1 : Nat) (x2 : Int32) (h : fX6_healable_b48 G r0 r1 x2 = some out) : zZ X 48 [(0, .ref r0), (1, .ref r1), (2, .int x2)] [] G := by
  rw [fX6_healable_b48] at h
  refine z_aload_n (pc := 48) C 0 dX6_healable_48 rfl rfl ?_
  obtain ⟨qv1, eqv1, h⟩ := ob1_eq h
  refine z_fr (pc := 49) C dX6_healable_49 fl_X6_16 eqv1 ?_
  obtain ⟨u2, eu2, h⟩ := ob1_eq h
  obtain ⟨w3, ew3⟩ := isO_eq eu2
  obtain ⟨G4, eG4, h⟩ := ob1_eq h
  refine z_callVv (h := qv1) (As := []) (rest := []) (pc := 52) C dX6_healable_52 ml_X6_242 (kX5_clear _ _ _ _ G qv1  G4 eG4) ew3 rfl rfl rfl (Nat.le_of_ble_eq_true rfl) (by decide) ?_
  refine z_iload_n (pc := 55) C 2 dX6_healable_55 rfl rfl ?_
  refine z_iconst (pc := 56) C dX6_healable_56 (v := (-1 : Int32)) (by decide) ?_
  refine z_ic_eq (pc := 57) C dX6_healable_57 (tgt := 69) (by decide) (fun c5 => ?_) (fun c5 => ?_)
  · rw [if_pos c5] at h
    exact z_subL [1] (wfX6_healable_b69 C E G4 r1 h) rfl
  · rw [if_neg c5] at h
    refine z_aload_n (pc := 60) C 0 dX6_healable_60 rfl rfl ?_
    obtain ⟨qv6, eqv6, h⟩ := ob1_eq h
    refine z_fr (pc := 61) C dX6_healable_61 fl_X6_16 eqv6 ?_
    refine z_iload_n (pc := 64) C 2 dX6_healable_64 rfl rfl ?_
    refine z_i2l (pc := 65) C dX6_healable_65 ?_
    obtain ⟨u7, eu7, h⟩ := ob1_eq h
    obtain ⟨w8, ew8⟩ := isO_eq eu7
    obtain ⟨G9, eG9, h⟩ := ob1_eq h
    refine z_callVv (h := qv6) (As := [.long x2.toInt64]) (rest := []) (pc := 66) C dX6_healable_66 ml_X6_243 (kX5_add _ _ _ _ G4 qv6 x2.toInt64 G9 eG9) ew8 rfl rfl rfl (Nat.le_of_ble_eq_true rfl) (by decide) ?_
    exact z_subL [1] (wfX6_healable_b69 C E G9 r1 h) rfl
def fX6_healable_b42 (k12 : zH → Nat → Nat → Int32 → Int32 → Option (Int32 × zH)) (G : zH) (r0 : Nat) (r1 : Nat) (x2 : Int32) (x3 : Int32) : Option (Int32 × zH) :=
    zlet (x3 + (1 : Int32)) fun y1 =>
    k12 G r0 r1 x2 y1
set_option maxRecDepth 100000 in
set_option maxHeartbeats 4000000 in
theorem wfX6_healable_b42 {X : zX} {out : Int32 × zH} (C : zOK X cX6_healable yX6_healable.cls 4 (some .int) 4 85) (E : zPost X (poI out.1 out.2)) (k12 : zH → Nat → Nat → Int32 → Int32 → Option (Int32 × zH)) (hk12 : ∀ (G : zH) (r0 : Nat) (r1 : Nat) (x2 : Int32) (x3 : Int32), k12 G r0 r1 x2 x3 = some out → zZ X 12 [(0, .ref r0), (1, .ref r1), (2, .int x2), (3, .int x3)] [] G) (G : zH) (r0 : Nat) (r1 : Nat) (x2 : Int32) (x3 : Int32) (h : fX6_healable_b42 k12 G r0 r1 x2 x3 = some out) : zZ X 42 [(0, .ref r0), (1, .ref r1), (2, .int x2), (3, .int x3)] [] G := by
  rw [fX6_healable_b42] at h
  obtain ⟨y1, ey1, h⟩ := zlet_eq h
  refine z_iinc (pc := 42) (v := y1) C 3 dX6_healable_42 rfl (by rw [ey1]; rfl) (by decide) (show zput _ _ _ = [(3, .int y1), (0, .ref r0), (1, .ref r1), (2, .int x2)] from rfl) ?_
  refine z_goto (pc := 45) C dX6_healable_45 (tgt := 12) (by decide) ?_
  exact z_subL [1, 2, 3, 0] (hk12 G r0 r1 x2 y1 h) rfl
def fX6_healable_b40 (k12 : zH → Nat → Nat → Int32 → Int32 → Option (Int32 × zH)) (G : zH) (r0 : Nat) (r1 : Nat) (x3 : Int32) : Option (Int32 × zH) :=
    fX6_healable_b42 k12 G r0 r1 x3 x3
set_option maxRecDepth 100000 in
set_option maxHeartbeats 4000000 in
theorem wfX6_healable_b40 {X : zX} {out : Int32 × zH} (C : zOK X cX6_healable yX6_healable.cls 4 (some .int) 4 85) (E : zPost X (poI out.1 out.2)) (k12 : zH → Nat → Nat → Int32 → Int32 → Option (Int32 × zH)) (hk12 : ∀ (G : zH) (r0 : Nat) (r1 : Nat) (x2 : Int32) (x3 : Int32), k12 G r0 r1 x2 x3 = some out → zZ X 12 [(0, .ref r0), (1, .ref r1), (2, .int x2), (3, .int x3)] [] G) (G : zH) (r0 : Nat) (r1 : Nat) (x3 : Int32) (h : fX6_healable_b40 k12 G r0 r1 x3 = some out) : zZ X 40 [(0, .ref r0), (1, .ref r1), (3, .int x3)] [] G := by
  rw [fX6_healable_b40] at h
  refine z_iload_n (pc := 40) C 2 dX6_healable_40 rfl rfl ?_
  refine z_istore_n (pc := 41) C dX6_healable_41 rfl (by decide) (show zput _ _ _ = [(2, .int x3), (0, .ref r0), (1, .ref r1), (3, .int x3)] from rfl) ?_
  exact z_subL [1, 2, 0, 3] (wfX6_healable_b42 C E k12 hk12 G r0 r1 x3 x3 h) rfl
def fX6_healable_b12 : Nat → zH → Nat → Nat → Int32 → Int32 → Option (Int32 × zH)
  | 0, _, _, _, _, _ => none
  | n + 1, G, r0, r1, x2, x3 =>
    ob1 (fi G r1 2 2) fun v1 =>
    if v1 ≤ x3 then (fX6_healable_b48 G r0 r1 x2) else
    if x2 = (-1 : Int32) then (fX6_healable_b40 (fX6_healable_b12 n) G r0 r1 x3) else
    ob1 (frf G r1 2 1) fun qv4 =>
    ob1 (aR G 0 qv4 x3) fun v5 =>
    ob1 (frf G r1 2 1) fun qv6 =>
    ob1 (aR G 0 qv6 x2) fun v7 =>
    if v5 ≤ v7 then (fX6_healable_b42 (fX6_healable_b12 n) G r0 r1 x2 x3) else
    fX6_healable_b40 (fX6_healable_b12 n) G r0 r1 x3
set_option maxRecDepth 100000 in
set_option maxHeartbeats 4000000 in
theorem wfX6_healable_b12 {X : zX} {out : Int32 × zH} (C : zOK X cX6_healable yX6_healable.cls 4 (some .int) 4 85) (E : zPost X (poI out.1 out.2)) : ∀ (n : Nat) (G : zH) (r0 : Nat) (r1 : Nat) (x2 : Int32) (x3 : Int32) (h : fX6_healable_b12 n G r0 r1 x2 x3 = some out), zZ X 12 [(0, .ref r0), (1, .ref r1), (2, .int x2), (3, .int x3)] [] G := by
  intro n
  induction n with
  | zero => intro G r0 r1 x2 x3 h; cases h
  | succ n ih =>
    intro G r0 r1 x2 x3 h
    rw [fX6_healable_b12] at h
    refine z_iload_n (pc := 12) C 3 dX6_healable_12 rfl rfl ?_
    refine z_aload_n (pc := 13) C 1 dX6_healable_13 rfl rfl ?_
    obtain ⟨v1, ev1, h⟩ := ob1_eq h
    refine z_fi (pc := 14) C dX6_healable_14 fl_X6_259 ev1 ?_
    refine z_ic_ge (pc := 17) C dX6_healable_17 (tgt := 48) (by decide) (fun c2 => ?_) (fun c2 => ?_)
    · rw [if_pos c2] at h
      exact z_subL [0, 1, 2] (wfX6_healable_b48 C E G r0 r1 x2 h) rfl
    · rw [if_neg c2] at h
      refine z_iload_n (pc := 20) C 2 dX6_healable_20 rfl rfl ?_
      refine z_iconst (pc := 21) C dX6_healable_21 (v := (-1 : Int32)) (by decide) ?_
      refine z_ic_eq (pc := 22) C dX6_healable_22 (tgt := 40) (by decide) (fun c3 => ?_) (fun c3 => ?_)
      · rw [if_pos c3] at h
        exact z_subL [0, 1, 3] (wfX6_healable_b40 C E (fX6_healable_b12 n) ih G r0 r1 x3 h) rfl
      · rw [if_neg c3] at h
        refine z_aload_n (pc := 25) C 1 dX6_healable_25 rfl rfl ?_
        obtain ⟨qv4, eqv4, h⟩ := ob1_eq h
        refine z_fr (pc := 26) C dX6_healable_26 fl_X6_273 eqv4 ?_
        refine z_iload_n (pc := 29) C 3 dX6_healable_29 rfl rfl ?_
        obtain ⟨v5, ev5, h⟩ := ob1_eq h
        refine z_aR (pc := 30) C dX6_healable_30 ev5 ?_
        refine z_aload_n (pc := 31) C 1 dX6_healable_31 rfl rfl ?_
        obtain ⟨qv6, eqv6, h⟩ := ob1_eq h
        refine z_fr (pc := 32) C dX6_healable_32 fl_X6_273 eqv6 ?_
        refine z_iload_n (pc := 35) C 2 dX6_healable_35 rfl rfl ?_
        obtain ⟨v7, ev7, h⟩ := ob1_eq h
        refine z_aR (pc := 36) C dX6_healable_36 ev7 ?_
        refine z_ic_le (pc := 37) C dX6_healable_37 (tgt := 42) (by decide) (fun c8 => ?_) (fun c8 => ?_)
        · rw [if_pos c8] at h
          exact z_subL [0, 1, 2, 3] (wfX6_healable_b42 C E (fX6_healable_b12 n) ih G r0 r1 x2 x3 h) rfl
        · rw [if_neg c8] at h
          exact z_subL [0, 1, 3] (wfX6_healable_b40 C E (fX6_healable_b12 n) ih G r0 r1 x3 h) rfl
def fX6_healable (G : zH) (r0 : Nat) : Option (Int32 × zH) :=
    ob1 (frf G r0 6 4) fun qv1 =>
    ob1 (isO G qv1 1) fun u2 =>
    ob2 (fX1_current G qv1 ) fun qv5 G4 =>
    fX6_healable_b12 FU G4 r0 qv5 (-1 : Int32) (0 : Int32)
set_option maxRecDepth 100000 in
set_option maxHeartbeats 4000000 in
theorem wfX6_healable {X : zX} {out : Int32 × zH} (C : zOK X cX6_healable yX6_healable.cls 4 (some .int) 4 85) (E : zPost X (poI out.1 out.2)) (G : zH) (r0 : Nat) (h : fX6_healable G r0 = some out) : zZ X 0 [(0, .ref r0)] [] G := by
  rw [fX6_healable] at h
  refine z_aload_n (pc := 0) C 0 dX6_healable_0 rfl rfl ?_
  obtain ⟨qv1, eqv1, h⟩ := ob1_eq h
  refine z_fr (pc := 1) C dX6_healable_1 fl_X6_30 eqv1 ?_
  obtain ⟨u2, eu2, h⟩ := ob1_eq h
  obtain ⟨w3, ew3⟩ := isO_eq eu2
  obtain ⟨qv5, G4, eqv5, h⟩ := ob2_eq h
  refine z_callVr (h := qv1) (As := []) (rest := []) (pc := 4) C dX6_healable_4 ml_X6_84 (kX1_current _ _ _ _ G qv1  (qv5, G4) eqv5) ew3 rfl rfl rfl (Nat.le_of_ble_eq_true rfl) (by decide) ?_
  refine z_astore_n (pc := 7) C dX6_healable_7 rfl (by decide) (show zput _ _ _ = [(1, .ref qv5), (0, .ref r0)] from rfl) ?_
  refine z_iconst (pc := 8) C dX6_healable_8 (v := (-1 : Int32)) (by decide) ?_
  refine z_istore_n (pc := 9) C dX6_healable_9 rfl (by decide) (show zput _ _ _ = [(2, .int (-1 : Int32)), (1, .ref qv5), (0, .ref r0)] from rfl) ?_
  refine z_iconst (pc := 10) C dX6_healable_10 (v := (0 : Int32)) (by decide) ?_
  refine z_istore_n (pc := 11) C dX6_healable_11 rfl (by decide) (show zput _ _ _ = [(3, .int (0 : Int32)), (2, .int (-1 : Int32)), (1, .ref qv5), (0, .ref r0)] from rfl) ?_
  exact z_subL [3, 2, 1, 0] (wfX6_healable_b12 C E FU G4 r0 qv5 (-1 : Int32) (0 : Int32) h) rfl
theorem kX6_healable (l : Launch) (D : va_G) (cA : Nat → ClassId) (b : Nat) (G : zH) (r0 : Nat) (out : Int32 × zH) (h : fX6_healable G r0 = some out) : zM l D cA b yX6_healable cX6_healable 4 (some .int) 4 85 [.ref r0] G (poI out.1 out.2) := z_entry rfl (Nat.le_of_ble_eq_true rfl) (fun X C E _ _ _ => wfX6_healable C E G r0 h)
def fX6_standsAt_b3 (G : zH) : Nat → Nat → Int32 → Int32 → Int32 → Int32 → Option Int32
  | 0, _, _, _, _, _ => none
  | n + 1, r0, x1, x2, x3, x4 =>
    if x2 ≤ x4 then (some (1 : Int32)) else
    ob1 (frf G r0 6 0) fun qv2 =>
    ob1 (aL G 0 qv2) fun v3 =>
    if v3 ≤ x4 then (some (1 : Int32)) else
    ob1 (frf G r0 6 0) fun qv5 =>
    ob1 (aR G 0 qv5 x4) fun v6 =>
    ob1 (frf G r0 6 9) fun qv7 =>
    ob1 (isO G qv7 3) fun u8 =>
    ob1 (fX3_signAt G qv7 (x1 + x4)) fun v10 =>
    ob1 (fX6_isAlike v6 v10 x3) fun v11 =>
    if v11 = 0 then (some (0 : Int32)) else
    zlet (x4 + (1 : Int32)) fun y13 =>
    (fX6_standsAt_b3 G n) r0 x1 x2 x3 y13
set_option maxRecDepth 100000 in
set_option maxHeartbeats 4000000 in
theorem wfX6_standsAt_b3 {X : zX} {G : zH} {out : Int32} (C : zOK X cX6_standsAt yX6_standsAt.cls 5 (some .boolean) 3 62) (E : zPost X (poI out G)) : ∀ (n : Nat) (r0 : Nat) (x1 : Int32) (x2 : Int32) (x3 : Int32) (x4 : Int32) (h : fX6_standsAt_b3 G n r0 x1 x2 x3 x4 = some out), zZ X 3 [(0, .ref r0), (1, .int x1), (2, .int x2), (3, .int x3), (4, .int x4)] [] G := by
  intro n
  induction n with
  | zero => intro r0 x1 x2 x3 x4 h; cases h
  | succ n ih =>
    intro r0 x1 x2 x3 x4 h
    rw [fX6_standsAt_b3] at h
    refine z_iload (pc := 3) C 4 dX6_standsAt_3 rfl ?_
    refine z_iload_n (pc := 5) C 2 dX6_standsAt_5 rfl rfl ?_
    refine z_ic_ge (pc := 6) C dX6_standsAt_6 (tgt := 52) (by decide) (fun c1 => ?_) (fun c1 => ?_)
    · rw [if_pos c1] at h
      refine z_iconst (pc := 52) C dX6_standsAt_52 (v := (1 : Int32)) (by decide) ?_
      obtain rfl := Option.some.inj h
      exact z_zret (pc := 53) C E dX6_standsAt_53 rfl ⟨rfl, rfl⟩
    · rw [if_neg c1] at h
      refine z_iload (pc := 9) C 4 dX6_standsAt_9 rfl ?_
      refine z_aload_n (pc := 11) C 0 dX6_standsAt_11 rfl rfl ?_
      obtain ⟨qv2, eqv2, h⟩ := ob1_eq h
      refine z_fr (pc := 12) C dX6_standsAt_12 fl_X6_9 eqv2 ?_
      obtain ⟨v3, ev3, h⟩ := ob1_eq h
      refine z_aL (pc := 15) C dX6_standsAt_15 (by decide) ev3 ?_
      refine z_ic_ge (pc := 16) C dX6_standsAt_16 (tgt := 52) (by decide) (fun c4 => ?_) (fun c4 => ?_)
      · rw [if_pos c4] at h
        refine z_iconst (pc := 52) C dX6_standsAt_52 (v := (1 : Int32)) (by decide) ?_
        obtain rfl := Option.some.inj h
        exact z_zret (pc := 53) C E dX6_standsAt_53 rfl ⟨rfl, rfl⟩
      · rw [if_neg c4] at h
        refine z_aload_n (pc := 19) C 0 dX6_standsAt_19 rfl rfl ?_
        obtain ⟨qv5, eqv5, h⟩ := ob1_eq h
        refine z_fr (pc := 20) C dX6_standsAt_20 fl_X6_9 eqv5 ?_
        refine z_iload (pc := 23) C 4 dX6_standsAt_23 rfl ?_
        obtain ⟨v6, ev6, h⟩ := ob1_eq h
        refine z_aR (pc := 25) C dX6_standsAt_25 ev6 ?_
        refine z_aload_n (pc := 26) C 0 dX6_standsAt_26 rfl rfl ?_
        obtain ⟨qv7, eqv7, h⟩ := ob1_eq h
        refine z_fr (pc := 27) C dX6_standsAt_27 fl_X6_55 eqv7 ?_
        refine z_iload_n (pc := 30) C 1 dX6_standsAt_30 rfl rfl ?_
        refine z_iload (pc := 31) C 4 dX6_standsAt_31 rfl ?_
        refine z_iadd (pc := 33) C dX6_standsAt_33 ?_
        obtain ⟨u8, eu8, h⟩ := ob1_eq h
        obtain ⟨w9, ew9⟩ := isO_eq eu8
        obtain ⟨v10, ev10, h⟩ := ob1_eq h
        refine z_callVi (h := qv7) (As := [.int (x1 + x4)]) (rest := [.int v6]) (pc := 34) C dX6_standsAt_34 ml_X6_236 (kX3_signAt _ _ _ _ G qv7 (x1 + x4) v10 ev10) ew9 rfl rfl rfl (Nat.le_of_ble_eq_true rfl) (by decide) ?_
        refine z_iload_n (pc := 37) C 3 dX6_standsAt_37 rfl rfl ?_
        obtain ⟨v11, ev11, h⟩ := ob1_eq h
        refine z_callSi (As := [.int v6, .int v10, .int x3]) (rest := []) (pc := 38) C dX6_standsAt_38 ml_X6_387 (kX6_isAlike _ _ _ _ G v6 v10 x3 _ ev11) rfl rfl (Nat.le_of_ble_eq_true rfl) (by decide) ?_
        refine z_if_ne (pc := 41) C dX6_standsAt_41 (tgt := 46) (by decide) (fun c12 => ?_) (fun c12 => ?_)
        · rw [if_neg c12] at h
          obtain ⟨y13, ey13, h⟩ := zlet_eq h
          refine z_iinc (pc := 46) (v := y13) C 4 dX6_standsAt_46 rfl (by rw [ey13]; rfl) (by decide) (show zput _ _ _ = [(4, .int y13), (0, .ref r0), (1, .int x1), (2, .int x2), (3, .int x3)] from rfl) ?_
          refine z_goto (pc := 49) C dX6_standsAt_49 (tgt := 3) (by decide) ?_
          exact z_subL [1, 2, 3, 4, 0] (ih r0 x1 x2 x3 y13 h) rfl
        · rw [if_pos c12] at h
          refine z_iconst (pc := 44) C dX6_standsAt_44 (v := (0 : Int32)) (by decide) ?_
          obtain rfl := Option.some.inj h
          exact z_zret (pc := 45) C E dX6_standsAt_45 rfl ⟨rfl, rfl⟩
def fX6_standsAt (G : zH) (r0 : Nat) (x1 : Int32) (x2 : Int32) (x3 : Int32) : Option Int32 :=
    fX6_standsAt_b3 G FU r0 x1 x2 x3 (0 : Int32)
set_option maxRecDepth 100000 in
set_option maxHeartbeats 4000000 in
theorem wfX6_standsAt {X : zX} {G : zH} {out : Int32} (C : zOK X cX6_standsAt yX6_standsAt.cls 5 (some .boolean) 3 62) (E : zPost X (poI out G)) (r0 : Nat) (x1 : Int32) (x2 : Int32) (x3 : Int32) (h : fX6_standsAt G r0 x1 x2 x3 = some out) : zZ X 0 [(0, .ref r0), (1, .int x1), (2, .int x2), (3, .int x3)] [] G := by
  rw [fX6_standsAt] at h
  refine z_iconst (pc := 0) C dX6_standsAt_0 (v := (0 : Int32)) (by decide) ?_
  refine z_istore (pc := 1) C dX6_standsAt_1 (by decide) (show zput _ _ _ = [(4, .int (0 : Int32)), (0, .ref r0), (1, .int x1), (2, .int x2), (3, .int x3)] from rfl) ?_
  exact z_subL [1, 2, 3, 4, 0] (wfX6_standsAt_b3 C E FU r0 x1 x2 x3 (0 : Int32) h) rfl
theorem kX6_standsAt (l : Launch) (D : va_G) (cA : Nat → ClassId) (b : Nat) (G : zH) (r0 : Nat) (x1 : Int32) (x2 : Int32) (x3 : Int32) (out : Int32) (h : fX6_standsAt G r0 x1 x2 x3 = some out) : zM l D cA b yX6_standsAt cX6_standsAt 5 (some .boolean) 3 62 [.ref r0, .int x1, .int x2, .int x3] G (poI out G) := z_entry rfl (Nat.le_of_ble_eq_true rfl) (fun X C E _ _ _ => wfX6_standsAt C E r0 x1 x2 x3 h)
def fX6_firstFrom_b31 : Nat → zH → Nat → Int32 → Int32 → Nat → Int32 → Option (Int32 × zH)
  | 0, _, _, _, _, _, _ => none
  | n + 1, G, r0, x2, x3, r4, x5 =>
    ob1 (fi G r4 3 2) fun v1 =>
    if (v1 - x3) < x5 then (some ((-2 : Int32), G)) else
    ob1 (isO G r0 6) fun u3 =>
    ob1 (fX6_standsAt G r0 x5 x3 x2) fun v5 =>
    if v5 = 0 then (zlet (x5 + (1 : Int32)) fun y7 =>
    (fX6_firstFrom_b31 n) G r0 x2 x3 r4 y7) else
    ob1 (frf G r0 6 2) fun qv8 =>
    ob1 (isO G r4 3) fun u9 =>
    ob1 (fX3_piecesIn G r4 x5 x3) fun v11 =>
    ob1 (isO G qv8 5) fun u12 =>
    ob1 (fX5_tell G qv8 v11.toInt64) fun G14 =>
    some (x5, G14)
set_option maxRecDepth 100000 in
set_option maxHeartbeats 4000000 in
theorem wfX6_firstFrom_b31 {X : zX} {out : Int32 × zH} (C : zOK X cX6_firstFrom yX6_firstFrom.cls 6 (some .int) 5 106) (E : zPost X (poI out.1 out.2)) : ∀ (n : Nat) (G : zH) (r0 : Nat) (x2 : Int32) (x3 : Int32) (r4 : Nat) (x5 : Int32) (h : fX6_firstFrom_b31 n G r0 x2 x3 r4 x5 = some out), zZ X 31 [(0, .ref r0), (2, .int x2), (3, .int x3), (4, .ref r4), (5, .int x5)] [] G := by
  intro n
  induction n with
  | zero => intro G r0 x2 x3 r4 x5 h; cases h
  | succ n ih =>
    intro G r0 x2 x3 r4 x5 h
    rw [fX6_firstFrom_b31] at h
    refine z_iload (pc := 31) C 4 dX6_firstFrom_31 rfl ?_
    refine z_aload (pc := 33) C 3 dX6_firstFrom_33 rfl ?_
    obtain ⟨v1, ev1, h⟩ := ob1_eq h
    refine z_fi (pc := 35) C dX6_firstFrom_35 fl_X6_181 ev1 ?_
    refine z_iload_n (pc := 38) C 2 dX6_firstFrom_38 rfl rfl ?_
    refine z_isub (pc := 39) C dX6_firstFrom_39 ?_
    refine z_ic_gt (pc := 40) C dX6_firstFrom_40 (tgt := 79) (by decide) (fun c2 => ?_) (fun c2 => ?_)
    · rw [if_pos c2] at h
      refine z_bipush (pc := 79) C dX6_firstFrom_79 (v := (-2 : Int32)) (by decide) ?_
      obtain rfl := Option.some.inj h
      exact z_iret (pc := 81) C E dX6_firstFrom_81 ⟨rfl, rfl⟩
    · rw [if_neg c2] at h
      refine z_aload_n (pc := 43) C 0 dX6_firstFrom_43 rfl rfl ?_
      refine z_iload (pc := 44) C 4 dX6_firstFrom_44 rfl ?_
      refine z_iload_n (pc := 46) C 2 dX6_firstFrom_46 rfl rfl ?_
      refine z_iload_n (pc := 47) C 1 dX6_firstFrom_47 rfl rfl ?_
      obtain ⟨u3, eu3, h⟩ := ob1_eq h
      obtain ⟨w4, ew4⟩ := isO_eq eu3
      obtain ⟨v5, ev5, h⟩ := ob1_eq h
      refine z_callVi (h := r0) (As := [.int x5, .int x3, .int x2]) (rest := []) (pc := 48) C dX6_firstFrom_48 ml_X6_291 (kX6_standsAt _ _ _ _ G r0 x5 x3 x2 v5 ev5) ew4 rfl rfl rfl (Nat.le_of_ble_eq_true rfl) (by decide) ?_
      refine z_if_eq (pc := 51) C dX6_firstFrom_51 (tgt := 73) (by decide) (fun c6 => ?_) (fun c6 => ?_)
      · rw [if_pos c6] at h
        obtain ⟨y7, ey7, h⟩ := zlet_eq h
        refine z_iinc (pc := 73) (v := y7) C 4 dX6_firstFrom_73 rfl (by rw [ey7]; rfl) (by decide) (show zput _ _ _ = [(5, .int y7), (0, .ref r0), (2, .int x2), (3, .int x3), (4, .ref r4)] from rfl) ?_
        refine z_goto (pc := 76) C dX6_firstFrom_76 (tgt := 31) (by decide) ?_
        exact z_subL [1, 2, 3, 4, 0] (ih G r0 x2 x3 r4 y7 h) rfl
      · rw [if_neg c6] at h
        refine z_aload_n (pc := 54) C 0 dX6_firstFrom_54 rfl rfl ?_
        obtain ⟨qv8, eqv8, h⟩ := ob1_eq h
        refine z_fr (pc := 55) C dX6_firstFrom_55 fl_X6_16 eqv8 ?_
        refine z_aload (pc := 58) C 3 dX6_firstFrom_58 rfl ?_
        refine z_iload (pc := 60) C 4 dX6_firstFrom_60 rfl ?_
        refine z_iload_n (pc := 62) C 2 dX6_firstFrom_62 rfl rfl ?_
        obtain ⟨u9, eu9, h⟩ := ob1_eq h
        obtain ⟨w10, ew10⟩ := isO_eq eu9
        obtain ⟨v11, ev11, h⟩ := ob1_eq h
        refine z_callVi (h := r4) (As := [.int x5, .int x3]) (rest := [.ref qv8]) (pc := 63) C dX6_firstFrom_63 ml_X6_295 (kX3_piecesIn _ _ _ _ G r4 x5 x3 v11 ev11) ew10 rfl rfl rfl (Nat.le_of_ble_eq_true rfl) (by decide) ?_
        refine z_i2l (pc := 66) C dX6_firstFrom_66 ?_
        obtain ⟨u12, eu12, h⟩ := ob1_eq h
        obtain ⟨w13, ew13⟩ := isO_eq eu12
        obtain ⟨G14, eG14, h⟩ := ob1_eq h
        refine z_callVv (h := qv8) (As := [.long v11.toInt64]) (rest := []) (pc := 67) C dX6_firstFrom_67 ml_X6_246 (kX5_tell _ _ _ _ G qv8 v11.toInt64 G14 eG14) ew13 rfl rfl rfl (Nat.le_of_ble_eq_true rfl) (by decide) ?_
        refine z_iload (pc := 70) C 4 dX6_firstFrom_70 rfl ?_
        obtain rfl := Option.some.inj h
        exact z_iret (pc := 72) C E dX6_firstFrom_72 ⟨rfl, rfl⟩
def fX6_firstFrom (G : zH) (r0 : Nat) (x1 : Int32) (x2 : Int32) : Option (Int32 × zH) :=
    ob1 (isO G r0 6) fun u1 =>
    ob2 (fX6_readText G r0 ) fun v4 G3 =>
    if v4 = 0 then (some ((-100 : Int32), G3)) else
    ob1 (isO G3 r0 6) fun u6 =>
    ob2 (fX6_isPlace G3 r0 x1) fun v9 G8 =>
    if v9 = 0 then (some ((-1 : Int32), G8)) else
    ob1 (isO G8 r0 6) fun u11 =>
    ob2 (fX6_shownPage G8 r0 ) fun qv14 G13 =>
    fX6_firstFrom_b31 FU G13 r0 x2 v4 qv14 x1
set_option maxRecDepth 100000 in
set_option maxHeartbeats 4000000 in
theorem wfX6_firstFrom {X : zX} {out : Int32 × zH} (C : zOK X cX6_firstFrom yX6_firstFrom.cls 6 (some .int) 5 106) (E : zPost X (poI out.1 out.2)) (G : zH) (r0 : Nat) (x1 : Int32) (x2 : Int32) (h : fX6_firstFrom G r0 x1 x2 = some out) : zZ X 0 [(0, .ref r0), (1, .int x1), (2, .int x2)] [] G := by
  rw [fX6_firstFrom] at h
  refine z_aload_n (pc := 0) C 0 dX6_firstFrom_0 rfl rfl ?_
  obtain ⟨u1, eu1, h⟩ := ob1_eq h
  obtain ⟨w2, ew2⟩ := isO_eq eu1
  obtain ⟨v4, G3, ev4, h⟩ := ob2_eq h
  refine z_callVi (h := r0) (As := []) (rest := []) (pc := 1) C dX6_firstFrom_1 ml_X6_72 (kX6_readText _ _ _ _ G r0  (v4, G3) ev4) ew2 rfl rfl rfl (Nat.le_of_ble_eq_true rfl) (by decide) ?_
  refine z_istore_n (pc := 4) C dX6_firstFrom_4 rfl (by decide) (show zput _ _ _ = [(3, .int v4), (0, .ref r0), (1, .int x1), (2, .int x2)] from rfl) ?_
  refine z_iload_n (pc := 5) C 0 dX6_firstFrom_5 rfl rfl ?_
  refine z_if_ne (pc := 6) C dX6_firstFrom_6 (tgt := 12) (by decide) (fun c5 => ?_) (fun c5 => ?_)
  · rw [if_neg c5] at h
    refine z_aload_n (pc := 12) C 1 dX6_firstFrom_12 rfl rfl ?_
    refine z_iload_n (pc := 13) C 2 dX6_firstFrom_13 rfl rfl ?_
    obtain ⟨u6, eu6, h⟩ := ob1_eq h
    obtain ⟨w7, ew7⟩ := isO_eq eu6
    obtain ⟨v9, G8, ev9, h⟩ := ob2_eq h
    refine z_callVi (h := r0) (As := [.int x1]) (rest := []) (pc := 14) C dX6_firstFrom_14 ml_X6_168 (kX6_isPlace _ _ _ _ G3 r0 x1 (v9, G8) ev9) ew7 rfl rfl rfl (Nat.le_of_ble_eq_true rfl) (by decide) ?_
    refine z_if_ne (pc := 17) C dX6_firstFrom_17 (tgt := 22) (by decide) (fun c10 => ?_) (fun c10 => ?_)
    · rw [if_neg c10] at h
      refine z_aload_n (pc := 22) C 1 dX6_firstFrom_22 rfl rfl ?_
      obtain ⟨u11, eu11, h⟩ := ob1_eq h
      obtain ⟨w12, ew12⟩ := isO_eq eu11
      obtain ⟨qv14, G13, eqv14, h⟩ := ob2_eq h
      refine z_callVr (h := r0) (As := []) (rest := []) (pc := 23) C dX6_firstFrom_23 ml_X6_160 (kX6_shownPage _ _ _ _ G8 r0  (qv14, G13) eqv14) ew12 rfl rfl rfl (Nat.le_of_ble_eq_true rfl) (by decide) ?_
      refine z_astore (pc := 26) C dX6_firstFrom_26 (by decide) (show zput _ _ _ = [(4, .ref qv14), (3, .int v4), (0, .ref r0), (1, .int x1), (2, .int x2)] from rfl) ?_
      refine z_iload_n (pc := 28) C 3 dX6_firstFrom_28 rfl rfl ?_
      refine z_istore (pc := 29) C dX6_firstFrom_29 (by decide) (show zput _ _ _ = [(5, .int x1), (4, .ref qv14), (3, .int v4), (0, .ref r0), (1, .int x1), (2, .int x2)] from rfl) ?_
      exact z_subL [3, 5, 2, 1, 0] (wfX6_firstFrom_b31 C E FU G13 r0 x2 v4 qv14 x1 h) rfl
    · rw [if_pos c10] at h
      refine z_iconst (pc := 20) C dX6_firstFrom_20 (v := (-1 : Int32)) (by decide) ?_
      obtain rfl := Option.some.inj h
      exact z_iret (pc := 21) C E dX6_firstFrom_21 ⟨rfl, rfl⟩
  · rw [if_pos c5] at h
    refine z_bipush (pc := 9) C dX6_firstFrom_9 (v := (-100 : Int32)) (by decide) ?_
    obtain rfl := Option.some.inj h
    exact z_iret (pc := 11) C E dX6_firstFrom_11 ⟨rfl, rfl⟩
theorem kX6_firstFrom (l : Launch) (D : va_G) (cA : Nat → ClassId) (b : Nat) (G : zH) (r0 : Nat) (x1 : Int32) (x2 : Int32) (out : Int32 × zH) (h : fX6_firstFrom G r0 x1 x2 = some out) : zM l D cA b yX6_firstFrom cX6_firstFrom 6 (some .int) 5 106 [.ref r0, .int x1, .int x2] G (poI out.1 out.2) := z_entry rfl (Nat.le_of_ble_eq_true rfl) (fun X C E _ _ _ => wfX6_firstFrom C E G r0 x1 x2 h)
def fX6_finds (G : zH) (r0 : Nat) (x1 : Int32) : Option (Int32 × zH) :=
    ob1 (isO G r0 6) fun u1 =>
    ob2 (fX6_firstFrom G r0 x1 (0 : Int32)) fun v4 G3 =>
    some (v4, G3)
set_option maxRecDepth 100000 in
set_option maxHeartbeats 4000000 in
theorem wfX6_finds {X : zX} {out : Int32 × zH} (C : zOK X cX6_finds yX6_finds.cls 2 (some .int) 6 131) (E : zPost X (poI out.1 out.2)) (G : zH) (r0 : Nat) (x1 : Int32) (h : fX6_finds G r0 x1 = some out) : zZ X 0 [(0, .ref r0), (1, .int x1)] [] G := by
  rw [fX6_finds] at h
  refine z_aload_n (pc := 0) C 0 dX6_finds_0 rfl rfl ?_
  refine z_iload_n (pc := 1) C 1 dX6_finds_1 rfl rfl ?_
  refine z_iconst (pc := 2) C dX6_finds_2 (v := (0 : Int32)) (by decide) ?_
  obtain ⟨u1, eu1, h⟩ := ob1_eq h
  obtain ⟨w2, ew2⟩ := isO_eq eu1
  obtain ⟨v4, G3, ev4, h⟩ := ob2_eq h
  refine z_callVi (h := r0) (As := [.int x1, .int (0 : Int32)]) (rest := []) (pc := 3) C dX6_finds_3 ml_X6_288 (kX6_firstFrom _ _ _ _ G r0 x1 (0 : Int32) (v4, G3) ev4) ew2 rfl rfl rfl (Nat.le_of_ble_eq_true rfl) (by decide) ?_
  obtain rfl := Option.some.inj h
  exact z_iret (pc := 6) C E dX6_finds_6 ⟨rfl, rfl⟩
theorem kX6_finds (l : Launch) (D : va_G) (cA : Nat → ClassId) (b : Nat) (G : zH) (r0 : Nat) (x1 : Int32) (out : Int32 × zH) (h : fX6_finds G r0 x1 = some out) : zM l D cA b yX6_finds cX6_finds 2 (some .int) 6 131 [.ref r0, .int x1] G (poI out.1 out.2) := z_entry rfl (Nat.le_of_ble_eq_true rfl) (fun X C E _ _ _ => wfX6_finds C E G r0 x1 h)
def fX6_last_b36 : Nat → zH → Nat → Int32 → Int32 → Option (Int32 × zH)
  | 0, _, _, _, _ => none
  | n + 1, G, r0, x2, x3 =>
    if x3 < 0 then (some ((-2 : Int32), G)) else
    ob1 (isO G r0 6) fun u2 =>
    ob1 (fX6_standsAt G r0 x3 x2 (0 : Int32)) fun v4 =>
    if v4 = 0 then (zlet (x3 + (-1 : Int32)) fun y6 =>
    (fX6_last_b36 n) G r0 x2 y6) else
    ob1 (frf G r0 6 2) fun qv7 =>
    ob1 (frf G r0 6 9) fun qv8 =>
    ob1 (isO G qv8 3) fun u9 =>
    ob1 (fX3_piecesIn G qv8 x3 x2) fun v11 =>
    ob1 (isO G qv7 5) fun u12 =>
    ob1 (fX5_tell G qv7 v11.toInt64) fun G14 =>
    some (x3, G14)
set_option maxRecDepth 100000 in
set_option maxHeartbeats 4000000 in
theorem wfX6_last_b36 {X : zX} {out : Int32 × zH} (C : zOK X cX6_last yX6_last.cls 4 (some .int) 5 106) (E : zPost X (poI out.1 out.2)) : ∀ (n : Nat) (G : zH) (r0 : Nat) (x2 : Int32) (x3 : Int32) (h : fX6_last_b36 n G r0 x2 x3 = some out), zZ X 36 [(0, .ref r0), (2, .int x2), (3, .int x3)] [] G := by
  intro n
  induction n with
  | zero => intro G r0 x2 x3 h; cases h
  | succ n ih =>
    intro G r0 x2 x3 h
    rw [fX6_last_b36] at h
    refine z_iload_n (pc := 36) C 2 dX6_last_36 rfl rfl ?_
    refine z_if_lt (pc := 37) C dX6_last_37 (tgt := 75) (by decide) (fun c1 => ?_) (fun c1 => ?_)
    · rw [if_pos c1] at h
      refine z_bipush (pc := 75) C dX6_last_75 (v := (-2 : Int32)) (by decide) ?_
      obtain rfl := Option.some.inj h
      exact z_iret (pc := 77) C E dX6_last_77 ⟨rfl, rfl⟩
    · rw [if_neg c1] at h
      refine z_aload_n (pc := 40) C 0 dX6_last_40 rfl rfl ?_
      refine z_iload_n (pc := 41) C 2 dX6_last_41 rfl rfl ?_
      refine z_iload_n (pc := 42) C 1 dX6_last_42 rfl rfl ?_
      refine z_iconst (pc := 43) C dX6_last_43 (v := (0 : Int32)) (by decide) ?_
      obtain ⟨u2, eu2, h⟩ := ob1_eq h
      obtain ⟨w3, ew3⟩ := isO_eq eu2
      obtain ⟨v4, ev4, h⟩ := ob1_eq h
      refine z_callVi (h := r0) (As := [.int x3, .int x2, .int (0 : Int32)]) (rest := []) (pc := 44) C dX6_last_44 ml_X6_291 (kX6_standsAt _ _ _ _ G r0 x3 x2 (0 : Int32) v4 ev4) ew3 rfl rfl rfl (Nat.le_of_ble_eq_true rfl) (by decide) ?_
      refine z_if_eq (pc := 47) C dX6_last_47 (tgt := 69) (by decide) (fun c5 => ?_) (fun c5 => ?_)
      · rw [if_pos c5] at h
        obtain ⟨y6, ey6, h⟩ := zlet_eq h
        refine z_iinc (pc := 69) (v := y6) C 2 dX6_last_69 rfl (by rw [ey6]; rfl) (by decide) (show zput _ _ _ = [(3, .int y6), (0, .ref r0), (2, .int x2)] from rfl) ?_
        refine z_goto (pc := 72) C dX6_last_72 (tgt := 36) (by decide) ?_
        exact z_subL [1, 2, 0] (ih G r0 x2 y6 h) rfl
      · rw [if_neg c5] at h
        refine z_aload_n (pc := 50) C 0 dX6_last_50 rfl rfl ?_
        obtain ⟨qv7, eqv7, h⟩ := ob1_eq h
        refine z_fr (pc := 51) C dX6_last_51 fl_X6_16 eqv7 ?_
        refine z_aload_n (pc := 54) C 0 dX6_last_54 rfl rfl ?_
        obtain ⟨qv8, eqv8, h⟩ := ob1_eq h
        refine z_fr (pc := 55) C dX6_last_55 fl_X6_55 eqv8 ?_
        refine z_iload_n (pc := 58) C 2 dX6_last_58 rfl rfl ?_
        refine z_iload_n (pc := 59) C 1 dX6_last_59 rfl rfl ?_
        obtain ⟨u9, eu9, h⟩ := ob1_eq h
        obtain ⟨w10, ew10⟩ := isO_eq eu9
        obtain ⟨v11, ev11, h⟩ := ob1_eq h
        refine z_callVi (h := qv8) (As := [.int x3, .int x2]) (rest := [.ref qv7]) (pc := 60) C dX6_last_60 ml_X6_295 (kX3_piecesIn _ _ _ _ G qv8 x3 x2 v11 ev11) ew10 rfl rfl rfl (Nat.le_of_ble_eq_true rfl) (by decide) ?_
        refine z_i2l (pc := 63) C dX6_last_63 ?_
        obtain ⟨u12, eu12, h⟩ := ob1_eq h
        obtain ⟨w13, ew13⟩ := isO_eq eu12
        obtain ⟨G14, eG14, h⟩ := ob1_eq h
        refine z_callVv (h := qv7) (As := [.long v11.toInt64]) (rest := []) (pc := 64) C dX6_last_64 ml_X6_246 (kX5_tell _ _ _ _ G qv7 v11.toInt64 G14 eG14) ew13 rfl rfl rfl (Nat.le_of_ble_eq_true rfl) (by decide) ?_
        refine z_iload_n (pc := 67) C 2 dX6_last_67 rfl rfl ?_
        obtain rfl := Option.some.inj h
        exact z_iret (pc := 68) C E dX6_last_68 ⟨rfl, rfl⟩
def fX6_last (G : zH) (r0 : Nat) (x1 : Int32) : Option (Int32 × zH) :=
    ob1 (isO G r0 6) fun u1 =>
    ob2 (fX6_readText G r0 ) fun v4 G3 =>
    if v4 = 0 then (some ((-100 : Int32), G3)) else
    ob1 (isO G3 r0 6) fun u6 =>
    ob2 (fX6_isPlace G3 r0 x1) fun v9 G8 =>
    if v9 = 0 then (some ((-1 : Int32), G8)) else
    ob1 (isO G8 r0 6) fun u11 =>
    ob2 (fX6_shownPage G8 r0 ) fun qv14 G13 =>
    ob1 (fi G13 qv14 3 2) fun v15 =>
    zlet ((if (v15 - v4) < x1 then (v15 - v4) else x1)) fun y16 =>
    fX6_last_b36 FU G13 r0 v4 y16
set_option maxRecDepth 100000 in
set_option maxHeartbeats 4000000 in
theorem wfX6_last {X : zX} {out : Int32 × zH} (C : zOK X cX6_last yX6_last.cls 4 (some .int) 5 106) (E : zPost X (poI out.1 out.2)) (G : zH) (r0 : Nat) (x1 : Int32) (h : fX6_last G r0 x1 = some out) : zZ X 0 [(0, .ref r0), (1, .int x1)] [] G := by
  rw [fX6_last] at h
  refine z_aload_n (pc := 0) C 0 dX6_last_0 rfl rfl ?_
  obtain ⟨u1, eu1, h⟩ := ob1_eq h
  obtain ⟨w2, ew2⟩ := isO_eq eu1
  obtain ⟨v4, G3, ev4, h⟩ := ob2_eq h
  refine z_callVi (h := r0) (As := []) (rest := []) (pc := 1) C dX6_last_1 ml_X6_72 (kX6_readText _ _ _ _ G r0  (v4, G3) ev4) ew2 rfl rfl rfl (Nat.le_of_ble_eq_true rfl) (by decide) ?_
  refine z_istore_n (pc := 4) C dX6_last_4 rfl (by decide) (show zput _ _ _ = [(2, .int v4), (0, .ref r0), (1, .int x1)] from rfl) ?_
  refine z_iload_n (pc := 5) C 0 dX6_last_5 rfl rfl ?_
  refine z_if_ne (pc := 6) C dX6_last_6 (tgt := 12) (by decide) (fun c5 => ?_) (fun c5 => ?_)
  · rw [if_neg c5] at h
    refine z_aload_n (pc := 12) C 1 dX6_last_12 rfl rfl ?_
    refine z_iload_n (pc := 13) C 2 dX6_last_13 rfl rfl ?_
    obtain ⟨u6, eu6, h⟩ := ob1_eq h
    obtain ⟨w7, ew7⟩ := isO_eq eu6
    obtain ⟨v9, G8, ev9, h⟩ := ob2_eq h
    refine z_callVi (h := r0) (As := [.int x1]) (rest := []) (pc := 14) C dX6_last_14 ml_X6_168 (kX6_isPlace _ _ _ _ G3 r0 x1 (v9, G8) ev9) ew7 rfl rfl rfl (Nat.le_of_ble_eq_true rfl) (by decide) ?_
    refine z_if_ne (pc := 17) C dX6_last_17 (tgt := 22) (by decide) (fun c10 => ?_) (fun c10 => ?_)
    · rw [if_neg c10] at h
      refine z_iload_n (pc := 22) C 2 dX6_last_22 rfl rfl ?_
      refine z_aload_n (pc := 23) C 1 dX6_last_23 rfl rfl ?_
      obtain ⟨u11, eu11, h⟩ := ob1_eq h
      obtain ⟨w12, ew12⟩ := isO_eq eu11
      obtain ⟨qv14, G13, eqv14, h⟩ := ob2_eq h
      refine z_callVr (h := r0) (As := []) (rest := [.int x1]) (pc := 24) C dX6_last_24 ml_X6_160 (kX6_shownPage _ _ _ _ G8 r0  (qv14, G13) eqv14) ew12 rfl rfl rfl (Nat.le_of_ble_eq_true rfl) (by decide) ?_
      obtain ⟨v15, ev15, h⟩ := ob1_eq h
      refine z_fi (pc := 27) C dX6_last_27 fl_X6_181 ev15 ?_
      refine z_iload_n (pc := 30) C 0 dX6_last_30 rfl rfl ?_
      refine z_isub (pc := 31) C dX6_last_31 ?_
      refine z_mmin (pc := 32) C dX6_last_32 ml_X6_239 w_min1 w_math w_min2 (Nat.le_of_ble_eq_true rfl) (by decide) ?_
      obtain ⟨y16, ey16, h⟩ := zlet_eq h
      refine z_topi ey16 ?_
      refine z_istore_n (pc := 35) C dX6_last_35 rfl (by decide) (show zput _ _ _ = [(3, .int y16), (2, .int v4), (0, .ref r0), (1, .int x1)] from rfl) ?_
      exact z_subL [2, 1, 0] (wfX6_last_b36 C E FU G13 r0 v4 y16 h) rfl
    · rw [if_pos c10] at h
      refine z_iconst (pc := 20) C dX6_last_20 (v := (-1 : Int32)) (by decide) ?_
      obtain rfl := Option.some.inj h
      exact z_iret (pc := 21) C E dX6_last_21 ⟨rfl, rfl⟩
  · rw [if_pos c5] at h
    refine z_bipush (pc := 9) C dX6_last_9 (v := (-100 : Int32)) (by decide) ?_
    obtain rfl := Option.some.inj h
    exact z_iret (pc := 11) C E dX6_last_11 ⟨rfl, rfl⟩
theorem kX6_last (l : Launch) (D : va_G) (cA : Nat → ClassId) (b : Nat) (G : zH) (r0 : Nat) (x1 : Int32) (out : Int32 × zH) (h : fX6_last G r0 x1 = some out) : zM l D cA b yX6_last cX6_last 4 (some .int) 5 106 [.ref r0, .int x1] G (poI out.1 out.2) := z_entry rfl (Nat.le_of_ble_eq_true rfl) (fun X C E _ _ _ => wfX6_last C E G r0 x1 h)
def fX6_many_b92 (G : zH) (r0 : Nat) (x3 : Int32) (x4 : Int32) (x5 : Int32) : Option (Int32 × zH) :=
    ob1 (frf G r0 6 2) fun qv1 =>
    ob1 (isO G qv1 5) fun u2 =>
    ob1 (fX5_tell_ G qv1 x4.toInt64 x5.toInt64) fun G4 =>
    some (x3, G4)
set_option maxRecDepth 100000 in
set_option maxHeartbeats 4000000 in
theorem wfX6_many_b92 {X : zX} {out : Int32 × zH} (C : zOK X cX6_many yX6_many.cls 8 (some .int) 5 105) (E : zPost X (poI out.1 out.2)) (G : zH) (r0 : Nat) (x3 : Int32) (x4 : Int32) (x5 : Int32) (h : fX6_many_b92 G r0 x3 x4 x5 = some out) : zZ X 92 [(0, .ref r0), (3, .int x3), (4, .int x4), (5, .int x5)] [] G := by
  rw [fX6_many_b92] at h
  refine z_aload_n (pc := 92) C 0 dX6_many_92 rfl rfl ?_
  obtain ⟨qv1, eqv1, h⟩ := ob1_eq h
  refine z_fr (pc := 93) C dX6_many_93 fl_X6_16 eqv1 ?_
  refine z_iload (pc := 96) C 2 dX6_many_96 rfl ?_
  refine z_i2l (pc := 98) C dX6_many_98 ?_
  refine z_iload (pc := 99) C 3 dX6_many_99 rfl ?_
  refine z_i2l (pc := 101) C dX6_many_101 ?_
  obtain ⟨u2, eu2, h⟩ := ob1_eq h
  obtain ⟨w3, ew3⟩ := isO_eq eu2
  obtain ⟨G4, eG4, h⟩ := ob1_eq h
  refine z_callVv (h := qv1) (As := [.long x4.toInt64, .long x5.toInt64]) (rest := []) (pc := 102) C dX6_many_102 ml_X6_217 (kX5_tell_ _ _ _ _ G qv1 x4.toInt64 x5.toInt64 G4 eG4) ew3 rfl rfl rfl (Nat.le_of_ble_eq_true rfl) (by decide) ?_
  refine z_iload_n (pc := 105) C 1 dX6_many_105 rfl rfl ?_
  obtain rfl := Option.some.inj h
  exact z_iret (pc := 106) C E dX6_many_106 ⟨rfl, rfl⟩
def fX6_many_b86 (k31 : zH → Nat → Int32 → Nat → Int32 → Int32 → Int32 → Int32 → Int32 → Option (Int32 × zH)) (G : zH) (r0 : Nat) (x1 : Int32) (r2 : Nat) (x3 : Int32) (x4 : Int32) (x5 : Int32) (x6 : Int32) (x7 : Int32) : Option (Int32 × zH) :=
    zlet (x7 + (1 : Int32)) fun y1 =>
    k31 G r0 x1 r2 x3 x4 x5 x6 y1
set_option maxRecDepth 100000 in
set_option maxHeartbeats 4000000 in
theorem wfX6_many_b86 {X : zX} {out : Int32 × zH} (C : zOK X cX6_many yX6_many.cls 8 (some .int) 5 105) (E : zPost X (poI out.1 out.2)) (k31 : zH → Nat → Int32 → Nat → Int32 → Int32 → Int32 → Int32 → Int32 → Option (Int32 × zH)) (hk31 : ∀ (G : zH) (r0 : Nat) (x1 : Int32) (r2 : Nat) (x3 : Int32) (x4 : Int32) (x5 : Int32) (x6 : Int32) (x7 : Int32), k31 G r0 x1 r2 x3 x4 x5 x6 x7 = some out → zZ X 31 [(0, .ref r0), (1, .int x1), (2, .ref r2), (3, .int x3), (4, .int x4), (5, .int x5), (6, .int x6), (7, .int x7)] [] G) (G : zH) (r0 : Nat) (x1 : Int32) (r2 : Nat) (x3 : Int32) (x4 : Int32) (x5 : Int32) (x6 : Int32) (x7 : Int32) (h : fX6_many_b86 k31 G r0 x1 r2 x3 x4 x5 x6 x7 = some out) : zZ X 86 [(0, .ref r0), (1, .int x1), (2, .ref r2), (3, .int x3), (4, .int x4), (5, .int x5), (6, .int x6), (7, .int x7)] [] G := by
  rw [fX6_many_b86] at h
  obtain ⟨y1, ey1, h⟩ := zlet_eq h
  refine z_iinc (pc := 86) (v := y1) C 7 dX6_many_86 rfl (by rw [ey1]; rfl) (by decide) (show zput _ _ _ = [(7, .int y1), (0, .ref r0), (1, .int x1), (2, .ref r2), (3, .int x3), (4, .int x4), (5, .int x5), (6, .int x6)] from rfl) ?_
  refine z_goto (pc := 89) C dX6_many_89 (tgt := 31) (by decide) ?_
  exact z_subL [1, 2, 3, 4, 5, 6, 7, 0] (hk31 G r0 x1 r2 x3 x4 x5 x6 y1 h) rfl
def fX6_many_b70 (k31 : zH → Nat → Int32 → Nat → Int32 → Int32 → Int32 → Int32 → Int32 → Option (Int32 × zH)) (G : zH) (r0 : Nat) (x1 : Int32) (r2 : Nat) (x3 : Int32) (x4 : Int32) (x5 : Int32) (x6 : Int32) (x7 : Int32) : Option (Int32 × zH) :=
    if x7 < x6 then (fX6_many_b86 k31 G r0 x1 r2 x3 x4 x5 x6 x7) else
    zlet (x5 + (1 : Int32)) fun y2 =>
    zlet ((x7 + x1)) fun y3 =>
    fX6_many_b86 k31 G r0 x1 r2 x3 x4 y2 y3 x7
set_option maxRecDepth 100000 in
set_option maxHeartbeats 4000000 in
theorem wfX6_many_b70 {X : zX} {out : Int32 × zH} (C : zOK X cX6_many yX6_many.cls 8 (some .int) 5 105) (E : zPost X (poI out.1 out.2)) (k31 : zH → Nat → Int32 → Nat → Int32 → Int32 → Int32 → Int32 → Int32 → Option (Int32 × zH)) (hk31 : ∀ (G : zH) (r0 : Nat) (x1 : Int32) (r2 : Nat) (x3 : Int32) (x4 : Int32) (x5 : Int32) (x6 : Int32) (x7 : Int32), k31 G r0 x1 r2 x3 x4 x5 x6 x7 = some out → zZ X 31 [(0, .ref r0), (1, .int x1), (2, .ref r2), (3, .int x3), (4, .int x4), (5, .int x5), (6, .int x6), (7, .int x7)] [] G) (G : zH) (r0 : Nat) (x1 : Int32) (r2 : Nat) (x3 : Int32) (x4 : Int32) (x5 : Int32) (x6 : Int32) (x7 : Int32) (h : fX6_many_b70 k31 G r0 x1 r2 x3 x4 x5 x6 x7 = some out) : zZ X 70 [(0, .ref r0), (1, .int x1), (2, .ref r2), (3, .int x3), (4, .int x4), (5, .int x5), (6, .int x6), (7, .int x7)] [] G := by
  rw [fX6_many_b70] at h
  refine z_iload (pc := 70) C 7 dX6_many_70 rfl ?_
  refine z_iload (pc := 72) C 6 dX6_many_72 rfl ?_
  refine z_ic_lt (pc := 74) C dX6_many_74 (tgt := 86) (by decide) (fun c1 => ?_) (fun c1 => ?_)
  · rw [if_pos c1] at h
    exact z_subL [0, 1, 2, 3, 4, 5, 6, 7] (wfX6_many_b86 C E k31 hk31 G r0 x1 r2 x3 x4 x5 x6 x7 h) rfl
  · rw [if_neg c1] at h
    obtain ⟨y2, ey2, h⟩ := zlet_eq h
    refine z_iinc (pc := 77) (v := y2) C 5 dX6_many_77 rfl (by rw [ey2]; rfl) (by decide) (show zput _ _ _ = [(5, .int y2), (0, .ref r0), (1, .int x1), (2, .ref r2), (3, .int x3), (4, .int x4), (6, .int x6), (7, .int x7)] from rfl) ?_
    refine z_iload (pc := 80) C 7 dX6_many_80 rfl ?_
    refine z_iload_n (pc := 82) C 2 dX6_many_82 rfl rfl ?_
    refine z_iadd (pc := 83) C dX6_many_83 ?_
    obtain ⟨y3, ey3, h⟩ := zlet_eq h
    refine z_topi ey3 ?_
    refine z_istore (pc := 84) C dX6_many_84 (by decide) (show zput _ _ _ = [(6, .int y3), (5, .int y2), (0, .ref r0), (1, .int x1), (2, .ref r2), (3, .int x3), (4, .int x4), (7, .int x7)] from rfl) ?_
    exact z_subL [2, 3, 4, 5, 6, 1, 0, 7] (wfX6_many_b86 C E k31 hk31 G r0 x1 r2 x3 x4 y2 y3 x7 h) rfl
def fX6_many_b31 : Nat → zH → Nat → Int32 → Nat → Int32 → Int32 → Int32 → Int32 → Int32 → Option (Int32 × zH)
  | 0, _, _, _, _, _, _, _, _, _ => none
  | n + 1, G, r0, x1, r2, x3, x4, x5, x6, x7 =>
    ob1 (fi G r2 3 2) fun v1 =>
    if (v1 - x1) < x7 then (fX6_many_b92 G r0 x3 x4 x5) else
    ob1 (isO G r0 6) fun u3 =>
    ob1 (fX6_standsAt G r0 x7 x1 (0 : Int32)) fun v5 =>
    if v5 = 0 then (fX6_many_b86 (fX6_many_b31 n) G r0 x1 r2 x3 x4 x5 x6 x7) else
    zlet (x3 + (1 : Int32)) fun y7 =>
    ob1 (isO G r2 3) fun u8 =>
    ob1 (fX3_piecesIn G r2 x7 x1) fun v10 =>
    if v10 ≤ (1 : Int32) then (fX6_many_b70 (fX6_many_b31 n) G r0 x1 r2 y7 x4 x5 x6 x7) else
    zlet (x4 + (1 : Int32)) fun y12 =>
    fX6_many_b70 (fX6_many_b31 n) G r0 x1 r2 y7 y12 x5 x6 x7
set_option maxRecDepth 100000 in
set_option maxHeartbeats 4000000 in
theorem wfX6_many_b31 {X : zX} {out : Int32 × zH} (C : zOK X cX6_many yX6_many.cls 8 (some .int) 5 105) (E : zPost X (poI out.1 out.2)) : ∀ (n : Nat) (G : zH) (r0 : Nat) (x1 : Int32) (r2 : Nat) (x3 : Int32) (x4 : Int32) (x5 : Int32) (x6 : Int32) (x7 : Int32) (h : fX6_many_b31 n G r0 x1 r2 x3 x4 x5 x6 x7 = some out), zZ X 31 [(0, .ref r0), (1, .int x1), (2, .ref r2), (3, .int x3), (4, .int x4), (5, .int x5), (6, .int x6), (7, .int x7)] [] G := by
  intro n
  induction n with
  | zero => intro G r0 x1 r2 x3 x4 x5 x6 x7 h; cases h
  | succ n ih =>
    intro G r0 x1 r2 x3 x4 x5 x6 x7 h
    rw [fX6_many_b31] at h
    refine z_iload (pc := 31) C 7 dX6_many_31 rfl ?_
    refine z_aload_n (pc := 33) C 2 dX6_many_33 rfl rfl ?_
    obtain ⟨v1, ev1, h⟩ := ob1_eq h
    refine z_fi (pc := 34) C dX6_many_34 fl_X6_181 ev1 ?_
    refine z_iload_n (pc := 37) C 1 dX6_many_37 rfl rfl ?_
    refine z_isub (pc := 38) C dX6_many_38 ?_
    refine z_ic_gt (pc := 39) C dX6_many_39 (tgt := 92) (by decide) (fun c2 => ?_) (fun c2 => ?_)
    · rw [if_pos c2] at h
      exact z_subL [0, 3, 4, 5] (wfX6_many_b92 C E G r0 x3 x4 x5 h) rfl
    · rw [if_neg c2] at h
      refine z_aload_n (pc := 42) C 0 dX6_many_42 rfl rfl ?_
      refine z_iload (pc := 43) C 7 dX6_many_43 rfl ?_
      refine z_iload_n (pc := 45) C 1 dX6_many_45 rfl rfl ?_
      refine z_iconst (pc := 46) C dX6_many_46 (v := (0 : Int32)) (by decide) ?_
      obtain ⟨u3, eu3, h⟩ := ob1_eq h
      obtain ⟨w4, ew4⟩ := isO_eq eu3
      obtain ⟨v5, ev5, h⟩ := ob1_eq h
      refine z_callVi (h := r0) (As := [.int x7, .int x1, .int (0 : Int32)]) (rest := []) (pc := 47) C dX6_many_47 ml_X6_291 (kX6_standsAt _ _ _ _ G r0 x7 x1 (0 : Int32) v5 ev5) ew4 rfl rfl rfl (Nat.le_of_ble_eq_true rfl) (by decide) ?_
      refine z_if_eq (pc := 50) C dX6_many_50 (tgt := 86) (by decide) (fun c6 => ?_) (fun c6 => ?_)
      · rw [if_pos c6] at h
        exact z_subL [0, 1, 2, 3, 4, 5, 6, 7] (wfX6_many_b86 C E (fX6_many_b31 n) ih G r0 x1 r2 x3 x4 x5 x6 x7 h) rfl
      · rw [if_neg c6] at h
        obtain ⟨y7, ey7, h⟩ := zlet_eq h
        refine z_iinc (pc := 53) (v := y7) C 3 dX6_many_53 rfl (by rw [ey7]; rfl) (by decide) (show zput _ _ _ = [(3, .int y7), (0, .ref r0), (1, .int x1), (2, .ref r2), (4, .int x4), (5, .int x5), (6, .int x6), (7, .int x7)] from rfl) ?_
        refine z_aload_n (pc := 56) C 3 dX6_many_56 rfl rfl ?_
        refine z_iload (pc := 57) C 7 dX6_many_57 rfl ?_
        refine z_iload_n (pc := 59) C 2 dX6_many_59 rfl rfl ?_
        obtain ⟨u8, eu8, h⟩ := ob1_eq h
        obtain ⟨w9, ew9⟩ := isO_eq eu8
        obtain ⟨v10, ev10, h⟩ := ob1_eq h
        refine z_callVi (h := r2) (As := [.int x7, .int x1]) (rest := []) (pc := 60) C dX6_many_60 ml_X6_295 (kX3_piecesIn _ _ _ _ G r2 x7 x1 v10 ev10) ew9 rfl rfl rfl (Nat.le_of_ble_eq_true rfl) (by decide) ?_
        refine z_iconst (pc := 63) C dX6_many_63 (v := (1 : Int32)) (by decide) ?_
        refine z_ic_le (pc := 64) C dX6_many_64 (tgt := 70) (by decide) (fun c11 => ?_) (fun c11 => ?_)
        · rw [if_pos c11] at h
          exact z_subL [1, 2, 3, 0, 4, 5, 6, 7] (wfX6_many_b70 C E (fX6_many_b31 n) ih G r0 x1 r2 y7 x4 x5 x6 x7 h) rfl
        · rw [if_neg c11] at h
          obtain ⟨y12, ey12, h⟩ := zlet_eq h
          refine z_iinc (pc := 67) (v := y12) C 4 dX6_many_67 rfl (by rw [ey12]; rfl) (by decide) (show zput _ _ _ = [(4, .int y12), (3, .int y7), (0, .ref r0), (1, .int x1), (2, .ref r2), (5, .int x5), (6, .int x6), (7, .int x7)] from rfl) ?_
          exact z_subL [2, 3, 4, 1, 0, 5, 6, 7] (wfX6_many_b70 C E (fX6_many_b31 n) ih G r0 x1 r2 y7 y12 x5 x6 x7 h) rfl
def fX6_many (G : zH) (r0 : Nat) : Option (Int32 × zH) :=
    ob1 (isO G r0 6) fun u1 =>
    ob2 (fX6_readText G r0 ) fun v4 G3 =>
    if v4 = 0 then (some ((-100 : Int32), G3)) else
    ob1 (isO G3 r0 6) fun u6 =>
    ob2 (fX6_shownPage G3 r0 ) fun qv9 G8 =>
    fX6_many_b31 FU G8 r0 v4 qv9 (0 : Int32) (0 : Int32) (0 : Int32) (0 : Int32) (0 : Int32)
set_option maxRecDepth 100000 in
set_option maxHeartbeats 4000000 in
theorem wfX6_many {X : zX} {out : Int32 × zH} (C : zOK X cX6_many yX6_many.cls 8 (some .int) 5 105) (E : zPost X (poI out.1 out.2)) (G : zH) (r0 : Nat) (h : fX6_many G r0 = some out) : zZ X 0 [(0, .ref r0)] [] G := by
  rw [fX6_many] at h
  refine z_aload_n (pc := 0) C 0 dX6_many_0 rfl rfl ?_
  obtain ⟨u1, eu1, h⟩ := ob1_eq h
  obtain ⟨w2, ew2⟩ := isO_eq eu1
  obtain ⟨v4, G3, ev4, h⟩ := ob2_eq h
  refine z_callVi (h := r0) (As := []) (rest := []) (pc := 1) C dX6_many_1 ml_X6_72 (kX6_readText _ _ _ _ G r0  (v4, G3) ev4) ew2 rfl rfl rfl (Nat.le_of_ble_eq_true rfl) (by decide) ?_
  refine z_istore_n (pc := 4) C dX6_many_4 rfl (by decide) (show zput _ _ _ = [(1, .int v4), (0, .ref r0)] from rfl) ?_
  refine z_iload_n (pc := 5) C 0 dX6_many_5 rfl rfl ?_
  refine z_if_ne (pc := 6) C dX6_many_6 (tgt := 12) (by decide) (fun c5 => ?_) (fun c5 => ?_)
  · rw [if_neg c5] at h
    refine z_aload_n (pc := 12) C 1 dX6_many_12 rfl rfl ?_
    obtain ⟨u6, eu6, h⟩ := ob1_eq h
    obtain ⟨w7, ew7⟩ := isO_eq eu6
    obtain ⟨qv9, G8, eqv9, h⟩ := ob2_eq h
    refine z_callVr (h := r0) (As := []) (rest := []) (pc := 13) C dX6_many_13 ml_X6_160 (kX6_shownPage _ _ _ _ G3 r0  (qv9, G8) eqv9) ew7 rfl rfl rfl (Nat.le_of_ble_eq_true rfl) (by decide) ?_
    refine z_astore_n (pc := 16) C dX6_many_16 rfl (by decide) (show zput _ _ _ = [(2, .ref qv9), (1, .int v4), (0, .ref r0)] from rfl) ?_
    refine z_iconst (pc := 17) C dX6_many_17 (v := (0 : Int32)) (by decide) ?_
    refine z_istore_n (pc := 18) C dX6_many_18 rfl (by decide) (show zput _ _ _ = [(3, .int (0 : Int32)), (2, .ref qv9), (1, .int v4), (0, .ref r0)] from rfl) ?_
    refine z_iconst (pc := 19) C dX6_many_19 (v := (0 : Int32)) (by decide) ?_
    refine z_istore (pc := 20) C dX6_many_20 (by decide) (show zput _ _ _ = [(4, .int (0 : Int32)), (3, .int (0 : Int32)), (2, .ref qv9), (1, .int v4), (0, .ref r0)] from rfl) ?_
    refine z_iconst (pc := 22) C dX6_many_22 (v := (0 : Int32)) (by decide) ?_
    refine z_istore (pc := 23) C dX6_many_23 (by decide) (show zput _ _ _ = [(5, .int (0 : Int32)), (4, .int (0 : Int32)), (3, .int (0 : Int32)), (2, .ref qv9), (1, .int v4), (0, .ref r0)] from rfl) ?_
    refine z_iconst (pc := 25) C dX6_many_25 (v := (0 : Int32)) (by decide) ?_
    refine z_istore (pc := 26) C dX6_many_26 (by decide) (show zput _ _ _ = [(6, .int (0 : Int32)), (5, .int (0 : Int32)), (4, .int (0 : Int32)), (3, .int (0 : Int32)), (2, .ref qv9), (1, .int v4), (0, .ref r0)] from rfl) ?_
    refine z_iconst (pc := 28) C dX6_many_28 (v := (0 : Int32)) (by decide) ?_
    refine z_istore (pc := 29) C dX6_many_29 (by decide) (show zput _ _ _ = [(7, .int (0 : Int32)), (6, .int (0 : Int32)), (5, .int (0 : Int32)), (4, .int (0 : Int32)), (3, .int (0 : Int32)), (2, .ref qv9), (1, .int v4), (0, .ref r0)] from rfl) ?_
    exact z_subL [7, 6, 5, 4, 3, 2, 1, 0] (wfX6_many_b31 C E FU G8 r0 v4 qv9 (0 : Int32) (0 : Int32) (0 : Int32) (0 : Int32) (0 : Int32) h) rfl
  · rw [if_pos c5] at h
    refine z_bipush (pc := 9) C dX6_many_9 (v := (-100 : Int32)) (by decide) ?_
    obtain rfl := Option.some.inj h
    exact z_iret (pc := 11) C E dX6_many_11 ⟨rfl, rfl⟩
theorem kX6_many (l : Launch) (D : va_G) (cA : Nat → ClassId) (b : Nat) (G : zH) (r0 : Nat) (out : Int32 × zH) (h : fX6_many G r0 = some out) : zM l D cA b yX6_many cX6_many 8 (some .int) 5 105 [.ref r0] G (poI out.1 out.2) := z_entry rfl (Nat.le_of_ble_eq_true rfl) (fun X C E _ _ _ => wfX6_many C E G r0 h)
def fX6_fits (G : zH) (r0 : Nat) (x1 : Int32) : Option (Int32 × zH) :=
    ob1 (isO G r0 6) fun u1 =>
    ob2 (fX6_firstFrom G r0 x1 (1 : Int32)) fun v4 G3 =>
    some (v4, G3)
set_option maxRecDepth 100000 in
set_option maxHeartbeats 4000000 in
theorem wfX6_fits {X : zX} {out : Int32 × zH} (C : zOK X cX6_fits yX6_fits.cls 2 (some .int) 6 131) (E : zPost X (poI out.1 out.2)) (G : zH) (r0 : Nat) (x1 : Int32) (h : fX6_fits G r0 x1 = some out) : zZ X 0 [(0, .ref r0), (1, .int x1)] [] G := by
  rw [fX6_fits] at h
  refine z_aload_n (pc := 0) C 0 dX6_fits_0 rfl rfl ?_
  refine z_iload_n (pc := 1) C 1 dX6_fits_1 rfl rfl ?_
  refine z_iconst (pc := 2) C dX6_fits_2 (v := (1 : Int32)) (by decide) ?_
  obtain ⟨u1, eu1, h⟩ := ob1_eq h
  obtain ⟨w2, ew2⟩ := isO_eq eu1
  obtain ⟨v4, G3, ev4, h⟩ := ob2_eq h
  refine z_callVi (h := r0) (As := [.int x1, .int (1 : Int32)]) (rest := []) (pc := 3) C dX6_fits_3 ml_X6_288 (kX6_firstFrom _ _ _ _ G r0 x1 (1 : Int32) (v4, G3) ev4) ew2 rfl rfl rfl (Nat.le_of_ble_eq_true rfl) (by decide) ?_
  obtain rfl := Option.some.inj h
  exact z_iret (pc := 6) C E dX6_fits_6 ⟨rfl, rfl⟩
theorem kX6_fits (l : Launch) (D : va_G) (cA : Nat → ClassId) (b : Nat) (G : zH) (r0 : Nat) (x1 : Int32) (out : Int32 × zH) (h : fX6_fits G r0 x1 = some out) : zM l D cA b yX6_fits cX6_fits 2 (some .int) 6 131 [.ref r0, .int x1] G (poI out.1 out.2) := z_entry rfl (Nat.le_of_ble_eq_true rfl) (fun X C E _ _ _ => wfX6_fits C E G r0 x1 h)
def fX6_folds (G : zH) (r0 : Nat) (x1 : Int32) : Option (Int32 × zH) :=
    ob1 (isO G r0 6) fun u1 =>
    ob2 (fX6_firstFrom G r0 x1 (2 : Int32)) fun v4 G3 =>
    some (v4, G3)
set_option maxRecDepth 100000 in
set_option maxHeartbeats 4000000 in
theorem wfX6_folds {X : zX} {out : Int32 × zH} (C : zOK X cX6_folds yX6_folds.cls 2 (some .int) 6 131) (E : zPost X (poI out.1 out.2)) (G : zH) (r0 : Nat) (x1 : Int32) (h : fX6_folds G r0 x1 = some out) : zZ X 0 [(0, .ref r0), (1, .int x1)] [] G := by
  rw [fX6_folds] at h
  refine z_aload_n (pc := 0) C 0 dX6_folds_0 rfl rfl ?_
  refine z_iload_n (pc := 1) C 1 dX6_folds_1 rfl rfl ?_
  refine z_iconst (pc := 2) C dX6_folds_2 (v := (2 : Int32)) (by decide) ?_
  obtain ⟨u1, eu1, h⟩ := ob1_eq h
  obtain ⟨w2, ew2⟩ := isO_eq eu1
  obtain ⟨v4, G3, ev4, h⟩ := ob2_eq h
  refine z_callVi (h := r0) (As := [.int x1, .int (2 : Int32)]) (rest := []) (pc := 3) C dX6_folds_3 ml_X6_288 (kX6_firstFrom _ _ _ _ G r0 x1 (2 : Int32) (v4, G3) ev4) ew2 rfl rfl rfl (Nat.le_of_ble_eq_true rfl) (by decide) ?_
  obtain rfl := Option.some.inj h
  exact z_iret (pc := 6) C E dX6_folds_6 ⟨rfl, rfl⟩
theorem kX6_folds (l : Launch) (D : va_G) (cA : Nat → ClassId) (b : Nat) (G : zH) (r0 : Nat) (x1 : Int32) (out : Int32 × zH) (h : fX6_folds G r0 x1 = some out) : zM l D cA b yX6_folds cX6_folds 2 (some .int) 6 131 [.ref r0, .int x1] G (poI out.1 out.2) := z_entry rfl (Nat.le_of_ble_eq_true rfl) (fun X C E _ _ _ => wfX6_folds C E G r0 x1 h)
def fX6_pair_b131 (k58 : zH → Nat → Nat → Int32 → Int32 → Int32 → Int32 → Int32 → Int32 → Option (Int32 × zH)) (G : zH) (r0 : Nat) (r2 : Nat) (x3 : Int32) (x4 : Int32) (x5 : Int32) (x6 : Int32) (x7 : Int32) (x8 : Int32) : Option (Int32 × zH) :=
    zlet ((x8 + x5)) fun y1 =>
    k58 G r0 r2 x3 x4 x5 x6 x7 y1
set_option maxRecDepth 100000 in
set_option maxHeartbeats 4000000 in
theorem wfX6_pair_b131 {X : zX} {out : Int32 × zH} (C : zOK X cX6_pair yX6_pair.cls 10 (some .int) 5 105) (E : zPost X (poI out.1 out.2)) (k58 : zH → Nat → Nat → Int32 → Int32 → Int32 → Int32 → Int32 → Int32 → Option (Int32 × zH)) (hk58 : ∀ (G : zH) (r0 : Nat) (r2 : Nat) (x3 : Int32) (x4 : Int32) (x5 : Int32) (x6 : Int32) (x7 : Int32) (x8 : Int32), k58 G r0 r2 x3 x4 x5 x6 x7 x8 = some out → zZ X 58 [(0, .ref r0), (2, .ref r2), (3, .int x3), (4, .int x4), (5, .int x5), (6, .int x6), (7, .int x7), (8, .int x8)] [] G) (G : zH) (r0 : Nat) (r2 : Nat) (x3 : Int32) (x4 : Int32) (x5 : Int32) (x6 : Int32) (x7 : Int32) (x8 : Int32) (h : fX6_pair_b131 k58 G r0 r2 x3 x4 x5 x6 x7 x8 = some out) : zZ X 131 [(0, .ref r0), (2, .ref r2), (3, .int x3), (4, .int x4), (5, .int x5), (6, .int x6), (7, .int x7), (8, .int x8)] [] G := by
  rw [fX6_pair_b131] at h
  refine z_iload (pc := 131) C 7 dX6_pair_131 rfl ?_
  refine z_iload (pc := 133) C 4 dX6_pair_133 rfl ?_
  refine z_iadd (pc := 135) C dX6_pair_135 ?_
  obtain ⟨y1, ey1, h⟩ := zlet_eq h
  refine z_topi ey1 ?_
  refine z_istore (pc := 136) C dX6_pair_136 (by decide) (show zput _ _ _ = [(8, .int y1), (0, .ref r0), (2, .ref r2), (3, .int x3), (4, .int x4), (5, .int x5), (6, .int x6), (7, .int x7)] from rfl) ?_
  refine z_goto (pc := 138) C dX6_pair_138 (tgt := 58) (by decide) ?_
  exact z_subL [1, 2, 3, 4, 5, 6, 7, 0] (hk58 G r0 r2 x3 x4 x5 x6 x7 y1 h) rfl
def fX6_pair_b58 : Nat → zH → Nat → Nat → Int32 → Int32 → Int32 → Int32 → Int32 → Int32 → Option (Int32 × zH)
  | 0, _, _, _, _, _, _, _, _, _ => none
  | n + 1, G, r0, r2, x3, x4, x5, x6, x7, x8 =>
    if x8 < 0 then (some ((-2 : Int32), G)) else
    ob1 (fi G r2 3 2) fun v2 =>
    if v2 ≤ x8 then (some ((-2 : Int32), G)) else
    ob1 (isO G r2 3) fun u4 =>
    ob1 (fX3_signAt G r2 x8) fun v6 =>
    if v6 = x3 then (zlet (x6 + (1 : Int32)) fun y15 =>
    zlet ((if x7 < y15 then y15 else x7)) fun y16 =>
    fX6_pair_b131 (fX6_pair_b58 n) G r0 r2 x3 x4 x5 y15 y16 x8) else
    if v6 = x4 then (zlet (x6 + (-1 : Int32)) fun y9 =>
    if y9 = 0 then (ob1 (frf G r0 6 2) fun qv11 =>
    ob1 (isO G qv11 5) fun u12 =>
    ob1 (fX5_tell G qv11 ((x7 - (1 : Int32)).toInt64)) fun G14 =>
    some (x8, G14)) else
    fX6_pair_b131 (fX6_pair_b58 n) G r0 r2 x3 x4 x5 y9 x7 x8) else
    fX6_pair_b131 (fX6_pair_b58 n) G r0 r2 x3 x4 x5 x6 x7 x8
set_option maxRecDepth 100000 in
set_option maxHeartbeats 4000000 in
theorem wfX6_pair_b58 {X : zX} {out : Int32 × zH} (C : zOK X cX6_pair yX6_pair.cls 10 (some .int) 5 105) (E : zPost X (poI out.1 out.2)) : ∀ (n : Nat) (G : zH) (r0 : Nat) (r2 : Nat) (x3 : Int32) (x4 : Int32) (x5 : Int32) (x6 : Int32) (x7 : Int32) (x8 : Int32) (h : fX6_pair_b58 n G r0 r2 x3 x4 x5 x6 x7 x8 = some out), zZ X 58 [(0, .ref r0), (2, .ref r2), (3, .int x3), (4, .int x4), (5, .int x5), (6, .int x6), (7, .int x7), (8, .int x8)] [] G := by
  intro n
  induction n with
  | zero => intro G r0 r2 x3 x4 x5 x6 x7 x8 h; cases h
  | succ n ih =>
    intro G r0 r2 x3 x4 x5 x6 x7 x8 h
    rw [fX6_pair_b58] at h
    refine z_iload (pc := 58) C 7 dX6_pair_58 rfl ?_
    refine z_if_lt (pc := 60) C dX6_pair_60 (tgt := 141) (by decide) (fun c1 => ?_) (fun c1 => ?_)
    · rw [if_pos c1] at h
      refine z_bipush (pc := 141) C dX6_pair_141 (v := (-2 : Int32)) (by decide) ?_
      obtain rfl := Option.some.inj h
      exact z_iret (pc := 143) C E dX6_pair_143 ⟨rfl, rfl⟩
    · rw [if_neg c1] at h
      refine z_iload (pc := 63) C 7 dX6_pair_63 rfl ?_
      refine z_aload_n (pc := 65) C 1 dX6_pair_65 rfl rfl ?_
      obtain ⟨v2, ev2, h⟩ := ob1_eq h
      refine z_fi (pc := 66) C dX6_pair_66 fl_X6_181 ev2 ?_
      refine z_ic_ge (pc := 69) C dX6_pair_69 (tgt := 141) (by decide) (fun c3 => ?_) (fun c3 => ?_)
      · rw [if_pos c3] at h
        refine z_bipush (pc := 141) C dX6_pair_141 (v := (-2 : Int32)) (by decide) ?_
        obtain rfl := Option.some.inj h
        exact z_iret (pc := 143) C E dX6_pair_143 ⟨rfl, rfl⟩
      · rw [if_neg c3] at h
        refine z_aload_n (pc := 72) C 1 dX6_pair_72 rfl rfl ?_
        refine z_iload (pc := 73) C 7 dX6_pair_73 rfl ?_
        obtain ⟨u4, eu4, h⟩ := ob1_eq h
        obtain ⟨w5, ew5⟩ := isO_eq eu4
        obtain ⟨v6, ev6, h⟩ := ob1_eq h
        refine z_callVi (h := r2) (As := [.int x8]) (rest := []) (pc := 75) C dX6_pair_75 ml_X6_236 (kX3_signAt _ _ _ _ G r2 x8 v6 ev6) ew5 rfl rfl rfl (Nat.le_of_ble_eq_true rfl) (by decide) ?_
        refine z_istore (pc := 78) C dX6_pair_78 (by decide) (show zput _ _ _ = [(9, .int v6), (0, .ref r0), (2, .ref r2), (3, .int x3), (4, .int x4), (5, .int x5), (6, .int x6), (7, .int x7), (8, .int x8)] from rfl) ?_
        refine z_iload (pc := 80) C 0 dX6_pair_80 rfl ?_
        refine z_iload_n (pc := 82) C 3 dX6_pair_82 rfl rfl ?_
        refine z_ic_ne (pc := 83) C dX6_pair_83 (tgt := 101) (by decide) (fun c7 => ?_) (fun c7 => ?_)
        · rw [if_neg c7] at h
          refine z_iload (pc := 101) C 0 dX6_pair_101 rfl ?_
          refine z_iload (pc := 103) C 4 dX6_pair_103 rfl ?_
          refine z_ic_ne (pc := 105) C dX6_pair_105 (tgt := 131) (by decide) (fun c8 => ?_) (fun c8 => ?_)
          · rw [if_neg c8] at h
            exact z_subL [1, 2, 3, 4, 5, 6, 7, 8] (wfX6_pair_b131 C E (fX6_pair_b58 n) ih G r0 r2 x3 x4 x5 x6 x7 x8 h) rfl
          · rw [if_pos c8] at h
            obtain ⟨y9, ey9, h⟩ := zlet_eq h
            refine z_iinc (pc := 108) (v := y9) C 6 dX6_pair_108 rfl (by rw [ey9]; rfl) (by decide) (show zput _ _ _ = [(6, .int y9), (9, .int v6), (0, .ref r0), (2, .ref r2), (3, .int x3), (4, .int x4), (5, .int x5), (7, .int x7), (8, .int x8)] from rfl) ?_
            refine z_iload (pc := 111) C 0 dX6_pair_111 rfl ?_
            refine z_if_ne (pc := 113) C dX6_pair_113 (tgt := 131) (by decide) (fun c10 => ?_) (fun c10 => ?_)
            · rw [if_neg c10] at h
              exact z_subL [2, 3, 4, 5, 6, 0, 7, 8] (wfX6_pair_b131 C E (fX6_pair_b58 n) ih G r0 r2 x3 x4 x5 y9 x7 x8 h) rfl
            · rw [if_pos c10] at h
              refine z_aload_n (pc := 116) C 2 dX6_pair_116 rfl rfl ?_
              obtain ⟨qv11, eqv11, h⟩ := ob1_eq h
              refine z_fr (pc := 117) C dX6_pair_117 fl_X6_16 eqv11 ?_
              refine z_iload (pc := 120) C 7 dX6_pair_120 rfl ?_
              refine z_iconst (pc := 122) C dX6_pair_122 (v := (1 : Int32)) (by decide) ?_
              refine z_isub (pc := 123) C dX6_pair_123 ?_
              refine z_i2l (pc := 124) C dX6_pair_124 ?_
              obtain ⟨u12, eu12, h⟩ := ob1_eq h
              obtain ⟨w13, ew13⟩ := isO_eq eu12
              obtain ⟨G14, eG14, h⟩ := ob1_eq h
              refine z_callVv (h := qv11) (As := [.long ((x7 - (1 : Int32)).toInt64)]) (rest := []) (pc := 125) C dX6_pair_125 ml_X6_246 (kX5_tell _ _ _ _ G qv11 ((x7 - (1 : Int32)).toInt64) G14 eG14) ew13 rfl rfl rfl (Nat.le_of_ble_eq_true rfl) (by decide) ?_
              refine z_iload (pc := 128) C 8 dX6_pair_128 rfl ?_
              obtain rfl := Option.some.inj h
              exact z_iret (pc := 130) C E dX6_pair_130 ⟨rfl, rfl⟩
        · rw [if_pos c7] at h
          obtain ⟨y15, ey15, h⟩ := zlet_eq h
          refine z_iinc (pc := 86) (v := y15) C 6 dX6_pair_86 rfl (by rw [ey15]; rfl) (by decide) (show zput _ _ _ = [(6, .int y15), (9, .int v6), (0, .ref r0), (2, .ref r2), (3, .int x3), (4, .int x4), (5, .int x5), (7, .int x7), (8, .int x8)] from rfl) ?_
          refine z_iload (pc := 89) C 7 dX6_pair_89 rfl ?_
          refine z_iload (pc := 91) C 0 dX6_pair_91 rfl ?_
          refine z_mmax (pc := 93) C dX6_pair_93 ml_X6_212 w_max1 w_math w_max2 (Nat.le_of_ble_eq_true rfl) (by decide) ?_
          obtain ⟨y16, ey16, h⟩ := zlet_eq h
          refine z_topi ey16 ?_
          refine z_istore (pc := 96) C dX6_pair_96 (by decide) (show zput _ _ _ = [(7, .int y16), (6, .int y15), (9, .int v6), (0, .ref r0), (2, .ref r2), (3, .int x3), (4, .int x4), (5, .int x5), (8, .int x8)] from rfl) ?_
          refine z_goto (pc := 98) C dX6_pair_98 (tgt := 131) (by decide) ?_
          exact z_subL [3, 4, 5, 6, 7, 1, 0, 8] (wfX6_pair_b131 C E (fX6_pair_b58 n) ih G r0 r2 x3 x4 x5 y15 y16 x8 h) rfl
def fX6_pair_b47 (G : zH) (r0 : Nat) (x1 : Int32) (r2 : Nat) (x3 : Int32) (x4 : Int32) (s0 : Int32) : Option (Int32 × zH) :=
    fX6_pair_b58 FU G r0 r2 x3 x4 s0 (0 : Int32) (0 : Int32) x1
set_option maxRecDepth 100000 in
set_option maxHeartbeats 4000000 in
theorem wfX6_pair_b47 {X : zX} {out : Int32 × zH} (C : zOK X cX6_pair yX6_pair.cls 10 (some .int) 5 105) (E : zPost X (poI out.1 out.2)) (G : zH) (r0 : Nat) (x1 : Int32) (r2 : Nat) (x3 : Int32) (x4 : Int32) (s0 : Int32) (h : fX6_pair_b47 G r0 x1 r2 x3 x4 s0 = some out) : zZ X 47 [(0, .ref r0), (1, .int x1), (2, .ref r2), (3, .int x3), (4, .int x4)] [.int s0] G := by
  rw [fX6_pair_b47] at h
  refine z_istore (pc := 47) C dX6_pair_47 (by decide) (show zput _ _ _ = [(5, .int s0), (0, .ref r0), (1, .int x1), (2, .ref r2), (3, .int x3), (4, .int x4)] from rfl) ?_
  refine z_iconst (pc := 49) C dX6_pair_49 (v := (0 : Int32)) (by decide) ?_
  refine z_istore (pc := 50) C dX6_pair_50 (by decide) (show zput _ _ _ = [(6, .int (0 : Int32)), (5, .int s0), (0, .ref r0), (1, .int x1), (2, .ref r2), (3, .int x3), (4, .int x4)] from rfl) ?_
  refine z_iconst (pc := 52) C dX6_pair_52 (v := (0 : Int32)) (by decide) ?_
  refine z_istore (pc := 53) C dX6_pair_53 (by decide) (show zput _ _ _ = [(7, .int (0 : Int32)), (6, .int (0 : Int32)), (5, .int s0), (0, .ref r0), (1, .int x1), (2, .ref r2), (3, .int x3), (4, .int x4)] from rfl) ?_
  refine z_iload_n (pc := 55) C 4 dX6_pair_55 rfl rfl ?_
  refine z_istore (pc := 56) C dX6_pair_56 (by decide) (show zput _ _ _ = [(8, .int x1), (7, .int (0 : Int32)), (6, .int (0 : Int32)), (5, .int s0), (0, .ref r0), (1, .int x1), (2, .ref r2), (3, .int x3), (4, .int x4)] from rfl) ?_
  exact z_subL [4, 6, 7, 8, 3, 2, 1, 0] (wfX6_pair_b58 C E FU G r0 r2 x3 x4 s0 (0 : Int32) (0 : Int32) x1 h) rfl
def fX6_pair (G : zH) (r0 : Nat) (x1 : Int32) : Option (Int32 × zH) :=
    ob1 (isO G r0 6) fun u1 =>
    ob2 (fX6_shownPage G r0 ) fun qv4 G3 =>
    ob1 (isO G3 qv4 3) fun u5 =>
    ob1 (fX3_has G3 qv4 x1) fun v7 =>
    if v7 = 0 then (some ((-1 : Int32), G3)) else
    ob1 (isO G3 qv4 3) fun u9 =>
    ob1 (fX3_signAt G3 qv4 x1) fun v11 =>
    ob1 (fX6_partnerOf v11) fun v12 =>
    if v12 = 0 then (some ((-3 : Int32), G3)) else
    ob1 (fX6_opensPair v11) fun v14 =>
    if v14 = 0 then (fX6_pair_b47 G3 r0 x1 qv4 v11 v12 (-1 : Int32)) else
    fX6_pair_b47 G3 r0 x1 qv4 v11 v12 (1 : Int32)
set_option maxRecDepth 100000 in
set_option maxHeartbeats 4000000 in
theorem wfX6_pair {X : zX} {out : Int32 × zH} (C : zOK X cX6_pair yX6_pair.cls 10 (some .int) 5 105) (E : zPost X (poI out.1 out.2)) (G : zH) (r0 : Nat) (x1 : Int32) (h : fX6_pair G r0 x1 = some out) : zZ X 0 [(0, .ref r0), (1, .int x1)] [] G := by
  rw [fX6_pair] at h
  refine z_aload_n (pc := 0) C 0 dX6_pair_0 rfl rfl ?_
  obtain ⟨u1, eu1, h⟩ := ob1_eq h
  obtain ⟨w2, ew2⟩ := isO_eq eu1
  obtain ⟨qv4, G3, eqv4, h⟩ := ob2_eq h
  refine z_callVr (h := r0) (As := []) (rest := []) (pc := 1) C dX6_pair_1 ml_X6_160 (kX6_shownPage _ _ _ _ G r0  (qv4, G3) eqv4) ew2 rfl rfl rfl (Nat.le_of_ble_eq_true rfl) (by decide) ?_
  refine z_astore_n (pc := 4) C dX6_pair_4 rfl (by decide) (show zput _ _ _ = [(2, .ref qv4), (0, .ref r0), (1, .int x1)] from rfl) ?_
  refine z_aload_n (pc := 5) C 0 dX6_pair_5 rfl rfl ?_
  refine z_iload_n (pc := 6) C 2 dX6_pair_6 rfl rfl ?_
  obtain ⟨u5, eu5, h⟩ := ob1_eq h
  obtain ⟨w6, ew6⟩ := isO_eq eu5
  obtain ⟨v7, ev7, h⟩ := ob1_eq h
  refine z_callVi (h := qv4) (As := [.int x1]) (rest := []) (pc := 7) C dX6_pair_7 ml_X6_233 (kX3_has _ _ _ _ G3 qv4 x1 v7 ev7) ew6 rfl rfl rfl (Nat.le_of_ble_eq_true rfl) (by decide) ?_
  refine z_if_ne (pc := 10) C dX6_pair_10 (tgt := 15) (by decide) (fun c8 => ?_) (fun c8 => ?_)
  · rw [if_neg c8] at h
    refine z_aload_n (pc := 15) C 0 dX6_pair_15 rfl rfl ?_
    refine z_iload_n (pc := 16) C 2 dX6_pair_16 rfl rfl ?_
    obtain ⟨u9, eu9, h⟩ := ob1_eq h
    obtain ⟨w10, ew10⟩ := isO_eq eu9
    obtain ⟨v11, ev11, h⟩ := ob1_eq h
    refine z_callVi (h := qv4) (As := [.int x1]) (rest := []) (pc := 17) C dX6_pair_17 ml_X6_236 (kX3_signAt _ _ _ _ G3 qv4 x1 v11 ev11) ew10 rfl rfl rfl (Nat.le_of_ble_eq_true rfl) (by decide) ?_
    refine z_istore_n (pc := 20) C dX6_pair_20 rfl (by decide) (show zput _ _ _ = [(3, .int v11), (2, .ref qv4), (0, .ref r0), (1, .int x1)] from rfl) ?_
    refine z_iload_n (pc := 21) C 0 dX6_pair_21 rfl rfl ?_
    obtain ⟨v12, ev12, h⟩ := ob1_eq h
    refine z_callSi (As := [.int v11]) (rest := []) (pc := 22) C dX6_pair_22 ml_X6_298 (kX6_partnerOf _ _ _ _ G3 v11 _ ev12) rfl rfl (Nat.le_of_ble_eq_true rfl) (by decide) ?_
    refine z_istore (pc := 25) C dX6_pair_25 (by decide) (show zput _ _ _ = [(4, .int v12), (3, .int v11), (2, .ref qv4), (0, .ref r0), (1, .int x1)] from rfl) ?_
    refine z_iload (pc := 27) C 0 dX6_pair_27 rfl ?_
    refine z_if_ne (pc := 29) C dX6_pair_29 (tgt := 35) (by decide) (fun c13 => ?_) (fun c13 => ?_)
    · rw [if_neg c13] at h
      refine z_iload_n (pc := 35) C 1 dX6_pair_35 rfl rfl ?_
      obtain ⟨v14, ev14, h⟩ := ob1_eq h
      refine z_callSi (As := [.int v11]) (rest := []) (pc := 36) C dX6_pair_36 ml_X6_301 (kX6_opensPair _ _ _ _ G3 v11 _ ev14) rfl rfl (Nat.le_of_ble_eq_true rfl) (by decide) ?_
      refine z_if_eq (pc := 39) C dX6_pair_39 (tgt := 46) (by decide) (fun c15 => ?_) (fun c15 => ?_)
      · rw [if_pos c15] at h
        refine z_iconst (pc := 46) C dX6_pair_46 (v := (-1 : Int32)) (by decide) ?_
        exact z_subL [3, 4, 2, 1, 0] (wfX6_pair_b47 C E G3 r0 x1 qv4 v11 v12 (-1 : Int32) h) rfl
      · rw [if_neg c15] at h
        refine z_iconst (pc := 42) C dX6_pair_42 (v := (1 : Int32)) (by decide) ?_
        refine z_goto (pc := 43) C dX6_pair_43 (tgt := 47) (by decide) ?_
        exact z_subL [3, 4, 2, 1, 0] (wfX6_pair_b47 C E G3 r0 x1 qv4 v11 v12 (1 : Int32) h) rfl
    · rw [if_pos c13] at h
      refine z_bipush (pc := 32) C dX6_pair_32 (v := (-3 : Int32)) (by decide) ?_
      obtain rfl := Option.some.inj h
      exact z_iret (pc := 34) C E dX6_pair_34 ⟨rfl, rfl⟩
  · rw [if_pos c8] at h
    refine z_iconst (pc := 13) C dX6_pair_13 (v := (-1 : Int32)) (by decide) ?_
    obtain rfl := Option.some.inj h
    exact z_iret (pc := 14) C E dX6_pair_14 ⟨rfl, rfl⟩
theorem kX6_pair (l : Launch) (D : va_G) (cA : Nat → ClassId) (b : Nat) (G : zH) (r0 : Nat) (x1 : Int32) (out : Int32 × zH) (h : fX6_pair G r0 x1 = some out) : zM l D cA b yX6_pair cX6_pair 10 (some .int) 5 105 [.ref r0, .int x1] G (poI out.1 out.2) := z_entry rfl (Nat.le_of_ble_eq_true rfl) (fun X C E _ _ _ => wfX6_pair C E G r0 x1 h)
def fX6_nested_b117 (G : zH) (r0 : Nat) (x2 : Int32) (x3 : Int32) : Option (Int32 × zH) :=
    if x2 = 0 then (some ((-2 : Int32), G)) else
    ob1 (frf G r0 6 2) fun qv2 =>
    ob1 (isO G qv2 5) fun u3 =>
    ob1 (fX5_tell G qv2 x3.toInt64) fun G5 =>
    ob1 (frf G5 r0 6 12) fun qv6 =>
    ob1 (aR G5 0 qv6 (0 : Int32)) fun v7 =>
    some (v7, G5)
set_option maxRecDepth 100000 in
set_option maxHeartbeats 4000000 in
theorem wfX6_nested_b117 {X : zX} {out : Int32 × zH} (C : zOK X cX6_nested yX6_nested.cls 7 (some .int) 5 105) (E : zPost X (poI out.1 out.2)) (G : zH) (r0 : Nat) (x2 : Int32) (x3 : Int32) (h : fX6_nested_b117 G r0 x2 x3 = some out) : zZ X 117 [(0, .ref r0), (2, .int x2), (3, .int x3)] [] G := by
  rw [fX6_nested_b117] at h
  refine z_iload_n (pc := 117) C 1 dX6_nested_117 rfl rfl ?_
  refine z_if_ne (pc := 118) C dX6_nested_118 (tgt := 124) (by decide) (fun c1 => ?_) (fun c1 => ?_)
  · rw [if_neg c1] at h
    refine z_aload_n (pc := 124) C 0 dX6_nested_124 rfl rfl ?_
    obtain ⟨qv2, eqv2, h⟩ := ob1_eq h
    refine z_fr (pc := 125) C dX6_nested_125 fl_X6_16 eqv2 ?_
    refine z_iload_n (pc := 128) C 2 dX6_nested_128 rfl rfl ?_
    refine z_i2l (pc := 129) C dX6_nested_129 ?_
    obtain ⟨u3, eu3, h⟩ := ob1_eq h
    obtain ⟨w4, ew4⟩ := isO_eq eu3
    obtain ⟨G5, eG5, h⟩ := ob1_eq h
    refine z_callVv (h := qv2) (As := [.long x3.toInt64]) (rest := []) (pc := 130) C dX6_nested_130 ml_X6_246 (kX5_tell _ _ _ _ G qv2 x3.toInt64 G5 eG5) ew4 rfl rfl rfl (Nat.le_of_ble_eq_true rfl) (by decide) ?_
    refine z_aload_n (pc := 133) C 0 dX6_nested_133 rfl rfl ?_
    obtain ⟨qv6, eqv6, h⟩ := ob1_eq h
    refine z_fr (pc := 134) C dX6_nested_134 fl_X6_62 eqv6 ?_
    refine z_iconst (pc := 137) C dX6_nested_137 (v := (0 : Int32)) (by decide) ?_
    obtain ⟨v7, ev7, h⟩ := ob1_eq h
    refine z_aR (pc := 138) C dX6_nested_138 ev7 ?_
    obtain rfl := Option.some.inj h
    exact z_iret (pc := 139) C E dX6_nested_139 ⟨rfl, rfl⟩
  · rw [if_pos c1] at h
    refine z_bipush (pc := 121) C dX6_nested_121 (v := (-2 : Int32)) (by decide) ?_
    obtain rfl := Option.some.inj h
    exact z_iret (pc := 123) C E dX6_nested_123 ⟨rfl, rfl⟩
def fX6_nested_b111 (k12 : zH → Nat → Nat → Int32 → Int32 → Int32 → Option (Int32 × zH)) (G : zH) (r0 : Nat) (r1 : Nat) (x2 : Int32) (x3 : Int32) (x4 : Int32) : Option (Int32 × zH) :=
    zlet (x4 + (1 : Int32)) fun y1 =>
    k12 G r0 r1 x2 x3 y1
set_option maxRecDepth 100000 in
set_option maxHeartbeats 4000000 in
theorem wfX6_nested_b111 {X : zX} {out : Int32 × zH} (C : zOK X cX6_nested yX6_nested.cls 7 (some .int) 5 105) (E : zPost X (poI out.1 out.2)) (k12 : zH → Nat → Nat → Int32 → Int32 → Int32 → Option (Int32 × zH)) (hk12 : ∀ (G : zH) (r0 : Nat) (r1 : Nat) (x2 : Int32) (x3 : Int32) (x4 : Int32), k12 G r0 r1 x2 x3 x4 = some out → zZ X 12 [(0, .ref r0), (1, .ref r1), (2, .int x2), (3, .int x3), (4, .int x4)] [] G) (G : zH) (r0 : Nat) (r1 : Nat) (x2 : Int32) (x3 : Int32) (x4 : Int32) (h : fX6_nested_b111 k12 G r0 r1 x2 x3 x4 = some out) : zZ X 111 [(0, .ref r0), (1, .ref r1), (2, .int x2), (3, .int x3), (4, .int x4)] [] G := by
  rw [fX6_nested_b111] at h
  obtain ⟨y1, ey1, h⟩ := zlet_eq h
  refine z_iinc (pc := 111) (v := y1) C 4 dX6_nested_111 rfl (by rw [ey1]; rfl) (by decide) (show zput _ _ _ = [(4, .int y1), (0, .ref r0), (1, .ref r1), (2, .int x2), (3, .int x3)] from rfl) ?_
  refine z_goto (pc := 114) C dX6_nested_114 (tgt := 12) (by decide) ?_
  exact z_subL [1, 2, 3, 4, 0] (hk12 G r0 r1 x2 x3 y1 h) rfl
def fX6_nested_b99 (k12 : zH → Nat → Nat → Int32 → Int32 → Int32 → Option (Int32 × zH)) (G : zH) (r0 : Nat) (x3 : Int32) (x4 : Int32) : Option (Int32 × zH) :=
    ob1 (frf G r0 6 2) fun qv1 =>
    ob1 (isO G qv1 5) fun u2 =>
    ob1 (fX5_tell G qv1 x3.toInt64) fun G4 =>
    some (x4, G4)
set_option maxRecDepth 100000 in
set_option maxHeartbeats 4000000 in
theorem wfX6_nested_b99 {X : zX} {out : Int32 × zH} (C : zOK X cX6_nested yX6_nested.cls 7 (some .int) 5 105) (E : zPost X (poI out.1 out.2)) (k12 : zH → Nat → Nat → Int32 → Int32 → Int32 → Option (Int32 × zH)) (hk12 : ∀ (G : zH) (r0 : Nat) (r1 : Nat) (x2 : Int32) (x3 : Int32) (x4 : Int32), k12 G r0 r1 x2 x3 x4 = some out → zZ X 12 [(0, .ref r0), (1, .ref r1), (2, .int x2), (3, .int x3), (4, .int x4)] [] G) (G : zH) (r0 : Nat) (x3 : Int32) (x4 : Int32) (h : fX6_nested_b99 k12 G r0 x3 x4 = some out) : zZ X 99 [(0, .ref r0), (3, .int x3), (4, .int x4)] [] G := by
  rw [fX6_nested_b99] at h
  refine z_aload_n (pc := 99) C 0 dX6_nested_99 rfl rfl ?_
  obtain ⟨qv1, eqv1, h⟩ := ob1_eq h
  refine z_fr (pc := 100) C dX6_nested_100 fl_X6_16 eqv1 ?_
  refine z_iload_n (pc := 103) C 1 dX6_nested_103 rfl rfl ?_
  refine z_i2l (pc := 104) C dX6_nested_104 ?_
  obtain ⟨u2, eu2, h⟩ := ob1_eq h
  obtain ⟨w3, ew3⟩ := isO_eq eu2
  obtain ⟨G4, eG4, h⟩ := ob1_eq h
  refine z_callVv (h := qv1) (As := [.long x3.toInt64]) (rest := []) (pc := 105) C dX6_nested_105 ml_X6_246 (kX5_tell _ _ _ _ G qv1 x3.toInt64 G4 eG4) ew3 rfl rfl rfl (Nat.le_of_ble_eq_true rfl) (by decide) ?_
  refine z_iload (pc := 108) C 2 dX6_nested_108 rfl ?_
  obtain rfl := Option.some.inj h
  exact z_iret (pc := 110) C E dX6_nested_110 ⟨rfl, rfl⟩
def fX6_nested_b12 : Nat → zH → Nat → Nat → Int32 → Int32 → Int32 → Option (Int32 × zH)
  | 0, _, _, _, _, _, _ => none
  | n + 1, G, r0, r1, x2, x3, x4 =>
    ob1 (fi G r1 3 2) fun v1 =>
    if v1 ≤ x4 then (fX6_nested_b117 G r0 x2 x3) else
    ob1 (isO G r1 3) fun u3 =>
    ob1 (fX3_signAt G r1 x4) fun v5 =>
    ob1 (fX6_partnerOf v5) fun v6 =>
    if v6 = 0 then (fX6_nested_b111 (fX6_nested_b12 n) G r0 r1 x2 x3 x4) else
    ob1 (fX6_opensPair v5) fun v8 =>
    if v8 = 0 then (if x2 ≤ 0 then (fX6_nested_b99 (fX6_nested_b12 n) G r0 x3 x4) else
    ob1 (frf G r0 6 12) fun qv11 =>
    ob1 (aR G 0 qv11 (x2 - (1 : Int32))) fun v12 =>
    ob1 (isO G r1 3) fun u13 =>
    ob1 (fX3_signAt G r1 v12) fun v15 =>
    if v15 = v6 then (zlet (x2 + (-1 : Int32)) fun y17 =>
    fX6_nested_b111 (fX6_nested_b12 n) G r0 r1 y17 x3 x4) else
    fX6_nested_b99 (fX6_nested_b12 n) G r0 x3 x4) else
    ob1 (frf G r0 6 12) fun qv18 =>
    ob1 (aW G 0 qv18 x2 x4) fun G19 =>
    zlet (x2 + (1 : Int32)) fun y20 =>
    zlet ((if x3 < y20 then y20 else x3)) fun y21 =>
    fX6_nested_b111 (fX6_nested_b12 n) G19 r0 r1 y20 y21 x4
set_option maxRecDepth 100000 in
set_option maxHeartbeats 4000000 in
theorem wfX6_nested_b12 {X : zX} {out : Int32 × zH} (C : zOK X cX6_nested yX6_nested.cls 7 (some .int) 5 105) (E : zPost X (poI out.1 out.2)) : ∀ (n : Nat) (G : zH) (r0 : Nat) (r1 : Nat) (x2 : Int32) (x3 : Int32) (x4 : Int32) (h : fX6_nested_b12 n G r0 r1 x2 x3 x4 = some out), zZ X 12 [(0, .ref r0), (1, .ref r1), (2, .int x2), (3, .int x3), (4, .int x4)] [] G := by
  intro n
  induction n with
  | zero => intro G r0 r1 x2 x3 x4 h; cases h
  | succ n ih =>
    intro G r0 r1 x2 x3 x4 h
    rw [fX6_nested_b12] at h
    refine z_iload (pc := 12) C 4 dX6_nested_12 rfl ?_
    refine z_aload_n (pc := 14) C 1 dX6_nested_14 rfl rfl ?_
    obtain ⟨v1, ev1, h⟩ := ob1_eq h
    refine z_fi (pc := 15) C dX6_nested_15 fl_X6_181 ev1 ?_
    refine z_ic_ge (pc := 18) C dX6_nested_18 (tgt := 117) (by decide) (fun c2 => ?_) (fun c2 => ?_)
    · rw [if_pos c2] at h
      exact z_subL [0, 2, 3] (wfX6_nested_b117 C E G r0 x2 x3 h) rfl
    · rw [if_neg c2] at h
      refine z_aload_n (pc := 21) C 1 dX6_nested_21 rfl rfl ?_
      refine z_iload (pc := 22) C 4 dX6_nested_22 rfl ?_
      obtain ⟨u3, eu3, h⟩ := ob1_eq h
      obtain ⟨w4, ew4⟩ := isO_eq eu3
      obtain ⟨v5, ev5, h⟩ := ob1_eq h
      refine z_callVi (h := r1) (As := [.int x4]) (rest := []) (pc := 24) C dX6_nested_24 ml_X6_236 (kX3_signAt _ _ _ _ G r1 x4 v5 ev5) ew4 rfl rfl rfl (Nat.le_of_ble_eq_true rfl) (by decide) ?_
      refine z_istore (pc := 27) C dX6_nested_27 (by decide) (show zput _ _ _ = [(5, .int v5), (0, .ref r0), (1, .ref r1), (2, .int x2), (3, .int x3), (4, .int x4)] from rfl) ?_
      refine z_iload (pc := 29) C 0 dX6_nested_29 rfl ?_
      obtain ⟨v6, ev6, h⟩ := ob1_eq h
      refine z_callSi (As := [.int v5]) (rest := []) (pc := 31) C dX6_nested_31 ml_X6_298 (kX6_partnerOf _ _ _ _ G v5 _ ev6) rfl rfl (Nat.le_of_ble_eq_true rfl) (by decide) ?_
      refine z_istore (pc := 34) C dX6_nested_34 (by decide) (show zput _ _ _ = [(6, .int v6), (5, .int v5), (0, .ref r0), (1, .ref r1), (2, .int x2), (3, .int x3), (4, .int x4)] from rfl) ?_
      refine z_iload (pc := 36) C 0 dX6_nested_36 rfl ?_
      refine z_if_ne (pc := 38) C dX6_nested_38 (tgt := 44) (by decide) (fun c7 => ?_) (fun c7 => ?_)
      · rw [if_neg c7] at h
        refine z_iload (pc := 44) C 1 dX6_nested_44 rfl ?_
        obtain ⟨v8, ev8, h⟩ := ob1_eq h
        refine z_callSi (As := [.int v5]) (rest := []) (pc := 46) C dX6_nested_46 ml_X6_301 (kX6_opensPair _ _ _ _ G v5 _ ev8) rfl rfl (Nat.le_of_ble_eq_true rfl) (by decide) ?_
        refine z_if_eq (pc := 49) C dX6_nested_49 (tgt := 72) (by decide) (fun c9 => ?_) (fun c9 => ?_)
        · rw [if_pos c9] at h
          refine z_iload_n (pc := 72) C 4 dX6_nested_72 rfl rfl ?_
          refine z_if_le (pc := 73) C dX6_nested_73 (tgt := 99) (by decide) (fun c10 => ?_) (fun c10 => ?_)
          · rw [if_pos c10] at h
            exact z_subL [2, 5, 6] (wfX6_nested_b99 C E (fX6_nested_b12 n) ih G r0 x3 x4 h) rfl
          · rw [if_neg c10] at h
            refine z_aload_n (pc := 76) C 3 dX6_nested_76 rfl rfl ?_
            refine z_aload_n (pc := 77) C 2 dX6_nested_77 rfl rfl ?_
            obtain ⟨qv11, eqv11, h⟩ := ob1_eq h
            refine z_fr (pc := 78) C dX6_nested_78 fl_X6_62 eqv11 ?_
            refine z_iload_n (pc := 81) C 4 dX6_nested_81 rfl rfl ?_
            refine z_iconst (pc := 82) C dX6_nested_82 (v := (1 : Int32)) (by decide) ?_
            refine z_isub (pc := 83) C dX6_nested_83 ?_
            obtain ⟨v12, ev12, h⟩ := ob1_eq h
            refine z_aR (pc := 84) C dX6_nested_84 ev12 ?_
            obtain ⟨u13, eu13, h⟩ := ob1_eq h
            obtain ⟨w14, ew14⟩ := isO_eq eu13
            obtain ⟨v15, ev15, h⟩ := ob1_eq h
            refine z_callVi (h := r1) (As := [.int v12]) (rest := []) (pc := 85) C dX6_nested_85 ml_X6_236 (kX3_signAt _ _ _ _ G r1 v12 v15 ev15) ew14 rfl rfl rfl (Nat.le_of_ble_eq_true rfl) (by decide) ?_
            refine z_iload (pc := 88) C 0 dX6_nested_88 rfl ?_
            refine z_ic_ne (pc := 90) C dX6_nested_90 (tgt := 99) (by decide) (fun c16 => ?_) (fun c16 => ?_)
            · rw [if_neg c16] at h
              exact z_subL [2, 5, 6] (wfX6_nested_b99 C E (fX6_nested_b12 n) ih G r0 x3 x4 h) rfl
            · rw [if_pos c16] at h
              obtain ⟨y17, ey17, h⟩ := zlet_eq h
              refine z_iinc (pc := 93) (v := y17) C 4 dX6_nested_93 rfl (by rw [ey17]; rfl) (by decide) (show zput _ _ _ = [(2, .int y17), (6, .int v6), (5, .int v5), (0, .ref r0), (1, .ref r1), (3, .int x3), (4, .int x4)] from rfl) ?_
              refine z_goto (pc := 96) C dX6_nested_96 (tgt := 111) (by decide) ?_
              exact z_subL [3, 4, 0, 5, 6] (wfX6_nested_b111 C E (fX6_nested_b12 n) ih G r0 r1 y17 x3 x4 h) rfl
        · rw [if_neg c9] at h
          refine z_aload_n (pc := 52) C 2 dX6_nested_52 rfl rfl ?_
          obtain ⟨qv18, eqv18, h⟩ := ob1_eq h
          refine z_fr (pc := 53) C dX6_nested_53 fl_X6_62 eqv18 ?_
          refine z_iload_n (pc := 56) C 4 dX6_nested_56 rfl rfl ?_
          refine z_iload (pc := 57) C 6 dX6_nested_57 rfl ?_
          obtain ⟨G19, eG19, h⟩ := ob1_eq h
          refine z_aW (pc := 59) C dX6_nested_59 eG19 ?_
          obtain ⟨y20, ey20, h⟩ := zlet_eq h
          refine z_iinc (pc := 60) (v := y20) C 4 dX6_nested_60 rfl (by rw [ey20]; rfl) (by decide) (show zput _ _ _ = [(2, .int y20), (6, .int v6), (5, .int v5), (0, .ref r0), (1, .ref r1), (3, .int x3), (4, .int x4)] from rfl) ?_
          refine z_iload_n (pc := 63) C 5 dX6_nested_63 rfl rfl ?_
          refine z_iload_n (pc := 64) C 0 dX6_nested_64 rfl rfl ?_
          refine z_mmax (pc := 65) C dX6_nested_65 ml_X6_212 w_max1 w_math w_max2 (Nat.le_of_ble_eq_true rfl) (by decide) ?_
          obtain ⟨y21, ey21, h⟩ := zlet_eq h
          refine z_topi ey21 ?_
          refine z_istore_n (pc := 68) C dX6_nested_68 rfl (by decide) (show zput _ _ _ = [(3, .int y21), (2, .int y20), (6, .int v6), (5, .int v5), (0, .ref r0), (1, .ref r1), (4, .int x4)] from rfl) ?_
          refine z_goto (pc := 69) C dX6_nested_69 (tgt := 111) (by decide) ?_
          exact z_subL [4, 5, 1, 0, 6] (wfX6_nested_b111 C E (fX6_nested_b12 n) ih G19 r0 r1 y20 y21 x4 h) rfl
      · rw [if_pos c7] at h
        refine z_goto (pc := 41) C dX6_nested_41 (tgt := 111) (by decide) ?_
        exact z_subL [2, 3, 4, 5, 6] (wfX6_nested_b111 C E (fX6_nested_b12 n) ih G r0 r1 x2 x3 x4 h) rfl
def fX6_nested (G : zH) (r0 : Nat) : Option (Int32 × zH) :=
    ob1 (isO G r0 6) fun u1 =>
    ob2 (fX6_shownPage G r0 ) fun qv4 G3 =>
    fX6_nested_b12 FU G3 r0 qv4 (0 : Int32) (0 : Int32) (0 : Int32)
set_option maxRecDepth 100000 in
set_option maxHeartbeats 4000000 in
theorem wfX6_nested {X : zX} {out : Int32 × zH} (C : zOK X cX6_nested yX6_nested.cls 7 (some .int) 5 105) (E : zPost X (poI out.1 out.2)) (G : zH) (r0 : Nat) (h : fX6_nested G r0 = some out) : zZ X 0 [(0, .ref r0)] [] G := by
  rw [fX6_nested] at h
  refine z_aload_n (pc := 0) C 0 dX6_nested_0 rfl rfl ?_
  obtain ⟨u1, eu1, h⟩ := ob1_eq h
  obtain ⟨w2, ew2⟩ := isO_eq eu1
  obtain ⟨qv4, G3, eqv4, h⟩ := ob2_eq h
  refine z_callVr (h := r0) (As := []) (rest := []) (pc := 1) C dX6_nested_1 ml_X6_160 (kX6_shownPage _ _ _ _ G r0  (qv4, G3) eqv4) ew2 rfl rfl rfl (Nat.le_of_ble_eq_true rfl) (by decide) ?_
  refine z_astore_n (pc := 4) C dX6_nested_4 rfl (by decide) (show zput _ _ _ = [(1, .ref qv4), (0, .ref r0)] from rfl) ?_
  refine z_iconst (pc := 5) C dX6_nested_5 (v := (0 : Int32)) (by decide) ?_
  refine z_istore_n (pc := 6) C dX6_nested_6 rfl (by decide) (show zput _ _ _ = [(2, .int (0 : Int32)), (1, .ref qv4), (0, .ref r0)] from rfl) ?_
  refine z_iconst (pc := 7) C dX6_nested_7 (v := (0 : Int32)) (by decide) ?_
  refine z_istore_n (pc := 8) C dX6_nested_8 rfl (by decide) (show zput _ _ _ = [(3, .int (0 : Int32)), (2, .int (0 : Int32)), (1, .ref qv4), (0, .ref r0)] from rfl) ?_
  refine z_iconst (pc := 9) C dX6_nested_9 (v := (0 : Int32)) (by decide) ?_
  refine z_istore (pc := 10) C dX6_nested_10 (by decide) (show zput _ _ _ = [(4, .int (0 : Int32)), (3, .int (0 : Int32)), (2, .int (0 : Int32)), (1, .ref qv4), (0, .ref r0)] from rfl) ?_
  exact z_subL [4, 3, 2, 1, 0] (wfX6_nested_b12 C E FU G3 r0 qv4 (0 : Int32) (0 : Int32) (0 : Int32) h) rfl
theorem kX6_nested (l : Launch) (D : va_G) (cA : Nat → ClassId) (b : Nat) (G : zH) (r0 : Nat) (out : Int32 × zH) (h : fX6_nested G r0 = some out) : zM l D cA b yX6_nested cX6_nested 7 (some .int) 5 105 [.ref r0] G (poI out.1 out.2) := z_entry rfl (Nat.le_of_ble_eq_true rfl) (fun X C E _ _ _ => wfX6_nested C E G r0 h)
def fX6_before_b111 (G : zH) (r0 : Nat) (x3 : Int32) (x4 : Int32) : Option (Int32 × zH) :=
    ob1 (frf G r0 6 2) fun qv1 =>
    ob1 (isO G qv1 5) fun u2 =>
    ob1 (fX5_clear G qv1 ) fun G4 =>
    if x3 ≤ 0 then (some (x3, G4)) else
    ob1 (frf G4 r0 6 2) fun qv6 =>
    ob1 (isO G4 qv6 5) fun u7 =>
    ob1 (fX5_add G4 qv6 x4.toInt64) fun G9 =>
    some (x3, G9)
set_option maxRecDepth 100000 in
set_option maxHeartbeats 4000000 in
theorem wfX6_before_b111 {X : zX} {out : Int32 × zH} (C : zOK X cX6_before yX6_before.cls 8 (some .int) 5 105) (E : zPost X (poI out.1 out.2)) (G : zH) (r0 : Nat) (x3 : Int32) (x4 : Int32) (h : fX6_before_b111 G r0 x3 x4 = some out) : zZ X 111 [(0, .ref r0), (3, .int x3), (4, .int x4)] [] G := by
  rw [fX6_before_b111] at h
  refine z_aload_n (pc := 111) C 0 dX6_before_111 rfl rfl ?_
  obtain ⟨qv1, eqv1, h⟩ := ob1_eq h
  refine z_fr (pc := 112) C dX6_before_112 fl_X6_16 eqv1 ?_
  obtain ⟨u2, eu2, h⟩ := ob1_eq h
  obtain ⟨w3, ew3⟩ := isO_eq eu2
  obtain ⟨G4, eG4, h⟩ := ob1_eq h
  refine z_callVv (h := qv1) (As := []) (rest := []) (pc := 115) C dX6_before_115 ml_X6_242 (kX5_clear _ _ _ _ G qv1  G4 eG4) ew3 rfl rfl rfl (Nat.le_of_ble_eq_true rfl) (by decide) ?_
  refine z_iload_n (pc := 118) C 1 dX6_before_118 rfl rfl ?_
  refine z_if_le (pc := 119) C dX6_before_119 (tgt := 132) (by decide) (fun c5 => ?_) (fun c5 => ?_)
  · rw [if_pos c5] at h
    refine z_iload_n (pc := 132) C 1 dX6_before_132 rfl rfl ?_
    obtain rfl := Option.some.inj h
    exact z_iret (pc := 133) C E dX6_before_133 ⟨rfl, rfl⟩
  · rw [if_neg c5] at h
    refine z_aload_n (pc := 122) C 0 dX6_before_122 rfl rfl ?_
    obtain ⟨qv6, eqv6, h⟩ := ob1_eq h
    refine z_fr (pc := 123) C dX6_before_123 fl_X6_16 eqv6 ?_
    refine z_iload (pc := 126) C 2 dX6_before_126 rfl ?_
    refine z_i2l (pc := 128) C dX6_before_128 ?_
    obtain ⟨u7, eu7, h⟩ := ob1_eq h
    obtain ⟨w8, ew8⟩ := isO_eq eu7
    obtain ⟨G9, eG9, h⟩ := ob1_eq h
    refine z_callVv (h := qv6) (As := [.long x4.toInt64]) (rest := []) (pc := 129) C dX6_before_129 ml_X6_243 (kX5_add _ _ _ _ G4 qv6 x4.toInt64 G9 eG9) ew8 rfl rfl rfl (Nat.le_of_ble_eq_true rfl) (by decide) ?_
    refine z_iload_n (pc := 132) C 1 dX6_before_132 rfl rfl ?_
    obtain rfl := Option.some.inj h
    exact z_iret (pc := 133) C E dX6_before_133 ⟨rfl, rfl⟩
def fX6_before_b105 (k35 : zH → Nat → Int32 → Nat → Int32 → Int32 → Int32 → Int32 → Option (Int32 × zH)) (G : zH) (r0 : Nat) (x1 : Int32) (r2 : Nat) (x3 : Int32) (x4 : Int32) (x5 : Int32) (x6 : Int32) : Option (Int32 × zH) :=
    zlet (x6 + (1 : Int32)) fun y1 =>
    k35 G r0 x1 r2 x3 x4 x5 y1
set_option maxRecDepth 100000 in
set_option maxHeartbeats 4000000 in
theorem wfX6_before_b105 {X : zX} {out : Int32 × zH} (C : zOK X cX6_before yX6_before.cls 8 (some .int) 5 105) (E : zPost X (poI out.1 out.2)) (k35 : zH → Nat → Int32 → Nat → Int32 → Int32 → Int32 → Int32 → Option (Int32 × zH)) (hk35 : ∀ (G : zH) (r0 : Nat) (x1 : Int32) (r2 : Nat) (x3 : Int32) (x4 : Int32) (x5 : Int32) (x6 : Int32), k35 G r0 x1 r2 x3 x4 x5 x6 = some out → zZ X 35 [(0, .ref r0), (1, .int x1), (2, .ref r2), (3, .int x3), (4, .int x4), (5, .int x5), (6, .int x6)] [] G) (G : zH) (r0 : Nat) (x1 : Int32) (r2 : Nat) (x3 : Int32) (x4 : Int32) (x5 : Int32) (x6 : Int32) (h : fX6_before_b105 k35 G r0 x1 r2 x3 x4 x5 x6 = some out) : zZ X 105 [(0, .ref r0), (1, .int x1), (2, .ref r2), (3, .int x3), (4, .int x4), (5, .int x5), (6, .int x6)] [] G := by
  rw [fX6_before_b105] at h
  obtain ⟨y1, ey1, h⟩ := zlet_eq h
  refine z_iinc (pc := 105) (v := y1) C 6 dX6_before_105 rfl (by rw [ey1]; rfl) (by decide) (show zput _ _ _ = [(6, .int y1), (0, .ref r0), (1, .int x1), (2, .ref r2), (3, .int x3), (4, .int x4), (5, .int x5)] from rfl) ?_
  refine z_goto (pc := 108) C dX6_before_108 (tgt := 35) (by decide) ?_
  exact z_subL [1, 2, 3, 4, 5, 6, 0] (hk35 G r0 x1 r2 x3 x4 x5 y1 h) rfl
def fX6_before_b35 : Nat → zH → Nat → Int32 → Nat → Int32 → Int32 → Int32 → Int32 → Option (Int32 × zH)
  | 0, _, _, _, _, _, _, _, _ => none
  | n + 1, G, r0, x1, r2, x3, x4, x5, x6 =>
    ob1 (fi G r2 3 2) fun v1 =>
    if v1 ≤ x6 then (fX6_before_b111 G r0 x3 x4) else
    ob1 (fi G r2 3 2) fun v3 =>
    if v3 ≤ (x1 + x5) then (fX6_before_b111 G r0 x3 x4) else
    ob1 (isO G r2 3) fun u5 =>
    ob1 (fX3_signAt G r2 x6) fun v7 =>
    ob1 (frf G r0 6 12) fun qv8 =>
    ob1 (isO G r2 3) fun u9 =>
    ob1 (fX3_holdOn G r2 x1 x5 v7 qv8) fun v11 =>
    zlet (((x6 + (1 : Int32)) - v11)) fun y12 =>
    if y12 < x1 then (if v11 ≤ x3 then (fX6_before_b105 (fX6_before_b35 n) G r0 x1 r2 x3 x4 v11 x6) else
    fX6_before_b105 (fX6_before_b35 n) G r0 x1 r2 v11 y12 v11 x6) else
    fX6_before_b111 G r0 x3 x4
set_option maxRecDepth 100000 in
set_option maxHeartbeats 4000000 in
theorem wfX6_before_b35 {X : zX} {out : Int32 × zH} (C : zOK X cX6_before yX6_before.cls 8 (some .int) 5 105) (E : zPost X (poI out.1 out.2)) : ∀ (n : Nat) (G : zH) (r0 : Nat) (x1 : Int32) (r2 : Nat) (x3 : Int32) (x4 : Int32) (x5 : Int32) (x6 : Int32) (h : fX6_before_b35 n G r0 x1 r2 x3 x4 x5 x6 = some out), zZ X 35 [(0, .ref r0), (1, .int x1), (2, .ref r2), (3, .int x3), (4, .int x4), (5, .int x5), (6, .int x6)] [] G := by
  intro n
  induction n with
  | zero => intro G r0 x1 r2 x3 x4 x5 x6 h; cases h
  | succ n ih =>
    intro G r0 x1 r2 x3 x4 x5 x6 h
    rw [fX6_before_b35] at h
    refine z_iload (pc := 35) C 6 dX6_before_35 rfl ?_
    refine z_aload_n (pc := 37) C 2 dX6_before_37 rfl rfl ?_
    obtain ⟨v1, ev1, h⟩ := ob1_eq h
    refine z_fi (pc := 38) C dX6_before_38 fl_X6_181 ev1 ?_
    refine z_ic_ge (pc := 41) C dX6_before_41 (tgt := 111) (by decide) (fun c2 => ?_) (fun c2 => ?_)
    · rw [if_pos c2] at h
      exact z_subL [0, 3, 4] (wfX6_before_b111 C E G r0 x3 x4 h) rfl
    · rw [if_neg c2] at h
      refine z_iload_n (pc := 44) C 1 dX6_before_44 rfl rfl ?_
      refine z_iload (pc := 45) C 5 dX6_before_45 rfl ?_
      refine z_iadd (pc := 47) C dX6_before_47 ?_
      refine z_aload_n (pc := 48) C 2 dX6_before_48 rfl rfl ?_
      obtain ⟨v3, ev3, h⟩ := ob1_eq h
      refine z_fi (pc := 49) C dX6_before_49 fl_X6_181 ev3 ?_
      refine z_ic_ge (pc := 52) C dX6_before_52 (tgt := 111) (by decide) (fun c4 => ?_) (fun c4 => ?_)
      · rw [if_pos c4] at h
        exact z_subL [0, 3, 4] (wfX6_before_b111 C E G r0 x3 x4 h) rfl
      · rw [if_neg c4] at h
        refine z_aload_n (pc := 55) C 2 dX6_before_55 rfl rfl ?_
        refine z_iload_n (pc := 56) C 1 dX6_before_56 rfl rfl ?_
        refine z_iload (pc := 57) C 5 dX6_before_57 rfl ?_
        refine z_aload_n (pc := 59) C 2 dX6_before_59 rfl rfl ?_
        refine z_iload (pc := 60) C 6 dX6_before_60 rfl ?_
        obtain ⟨u5, eu5, h⟩ := ob1_eq h
        obtain ⟨w6, ew6⟩ := isO_eq eu5
        obtain ⟨v7, ev7, h⟩ := ob1_eq h
        refine z_callVi (h := r2) (As := [.int x6]) (rest := [.int x5, .int x1, .ref r2]) (pc := 62) C dX6_before_62 ml_X6_236 (kX3_signAt _ _ _ _ G r2 x6 v7 ev7) ew6 rfl rfl rfl (Nat.le_of_ble_eq_true rfl) (by decide) ?_
        refine z_aload_n (pc := 65) C 0 dX6_before_65 rfl rfl ?_
        obtain ⟨qv8, eqv8, h⟩ := ob1_eq h
        refine z_fr (pc := 66) C dX6_before_66 fl_X6_62 eqv8 ?_
        obtain ⟨u9, eu9, h⟩ := ob1_eq h
        obtain ⟨w10, ew10⟩ := isO_eq eu9
        obtain ⟨v11, ev11, h⟩ := ob1_eq h
        refine z_callVi (h := r2) (As := [.int x1, .int x5, .int v7, .ref qv8]) (rest := []) (pc := 69) C dX6_before_69 ml_X6_308 (kX3_holdOn _ _ _ _ G r2 x1 x5 v7 qv8 v11 ev11) ew10 rfl rfl rfl (Nat.le_of_ble_eq_true rfl) (by decide) ?_
        refine z_istore (pc := 72) C dX6_before_72 (by decide) (show zput _ _ _ = [(5, .int v11), (0, .ref r0), (1, .int x1), (2, .ref r2), (3, .int x3), (4, .int x4), (6, .int x6)] from rfl) ?_
        refine z_iload (pc := 74) C 6 dX6_before_74 rfl ?_
        refine z_iconst (pc := 76) C dX6_before_76 (v := (1 : Int32)) (by decide) ?_
        refine z_iadd (pc := 77) C dX6_before_77 ?_
        refine z_iload (pc := 78) C 0 dX6_before_78 rfl ?_
        refine z_isub (pc := 80) C dX6_before_80 ?_
        obtain ⟨y12, ey12, h⟩ := zlet_eq h
        refine z_topi ey12 ?_
        refine z_istore (pc := 81) C dX6_before_81 (by decide) (show zput _ _ _ = [(7, .int y12), (5, .int v11), (0, .ref r0), (1, .int x1), (2, .ref r2), (3, .int x3), (4, .int x4), (6, .int x6)] from rfl) ?_
        refine z_iload (pc := 83) C 0 dX6_before_83 rfl ?_
        refine z_iload_n (pc := 85) C 3 dX6_before_85 rfl rfl ?_
        refine z_ic_lt (pc := 86) C dX6_before_86 (tgt := 92) (by decide) (fun c13 => ?_) (fun c13 => ?_)
        · rw [if_pos c13] at h
          refine z_iload (pc := 92) C 1 dX6_before_92 rfl ?_
          refine z_iload_n (pc := 94) C 5 dX6_before_94 rfl rfl ?_
          refine z_ic_le (pc := 95) C dX6_before_95 (tgt := 105) (by decide) (fun c14 => ?_) (fun c14 => ?_)
          · rw [if_pos c14] at h
            exact z_subL [2, 3, 4, 5, 6, 1, 7] (wfX6_before_b105 C E (fX6_before_b35 n) ih G r0 x1 r2 x3 x4 v11 x6 h) rfl
          · rw [if_neg c14] at h
            refine z_iload (pc := 98) C 1 dX6_before_98 rfl ?_
            refine z_istore_n (pc := 100) C dX6_before_100 rfl (by decide) (show zput _ _ _ = [(3, .int v11), (7, .int y12), (5, .int v11), (0, .ref r0), (1, .int x1), (2, .ref r2), (4, .int x4), (6, .int x6)] from rfl) ?_
            refine z_iload (pc := 101) C 1 dX6_before_101 rfl ?_
            refine z_istore (pc := 103) C dX6_before_103 (by decide) (show zput _ _ _ = [(4, .int y12), (3, .int v11), (7, .int y12), (5, .int v11), (0, .ref r0), (1, .int x1), (2, .ref r2), (6, .int x6)] from rfl) ?_
            exact z_subL [4, 5, 6, 1, 0, 3, 7] (wfX6_before_b105 C E (fX6_before_b35 n) ih G r0 x1 r2 v11 y12 v11 x6 h) rfl
        · rw [if_neg c13] at h
          refine z_goto (pc := 89) C dX6_before_89 (tgt := 111) (by decide) ?_
          exact z_subL [2, 5, 6] (wfX6_before_b111 C E G r0 x3 x4 h) rfl
def fX6_before (G : zH) (r0 : Nat) (x1 : Int32) : Option (Int32 × zH) :=
    ob1 (isO G r0 6) fun u1 =>
    ob2 (fX6_shownPage G r0 ) fun qv4 G3 =>
    ob1 (isO G3 qv4 3) fun u5 =>
    ob1 (fX3_has G3 qv4 x1) fun v7 =>
    if v7 = 0 then (some ((-1 : Int32), G3)) else
    ob1 (frf G3 r0 6 12) fun qv9 =>
    ob1 (isO G3 qv4 3) fun u10 =>
    ob1 (fX3_fillFallbacks G3 qv4 x1 qv9) fun G12 =>
    fX6_before_b35 FU G12 r0 x1 qv4 (0 : Int32) (0 : Int32) (0 : Int32) (0 : Int32)
set_option maxRecDepth 100000 in
set_option maxHeartbeats 4000000 in
theorem wfX6_before {X : zX} {out : Int32 × zH} (C : zOK X cX6_before yX6_before.cls 8 (some .int) 5 105) (E : zPost X (poI out.1 out.2)) (G : zH) (r0 : Nat) (x1 : Int32) (h : fX6_before G r0 x1 = some out) : zZ X 0 [(0, .ref r0), (1, .int x1)] [] G := by
  rw [fX6_before] at h
  refine z_aload_n (pc := 0) C 0 dX6_before_0 rfl rfl ?_
  obtain ⟨u1, eu1, h⟩ := ob1_eq h
  obtain ⟨w2, ew2⟩ := isO_eq eu1
  obtain ⟨qv4, G3, eqv4, h⟩ := ob2_eq h
  refine z_callVr (h := r0) (As := []) (rest := []) (pc := 1) C dX6_before_1 ml_X6_160 (kX6_shownPage _ _ _ _ G r0  (qv4, G3) eqv4) ew2 rfl rfl rfl (Nat.le_of_ble_eq_true rfl) (by decide) ?_
  refine z_astore_n (pc := 4) C dX6_before_4 rfl (by decide) (show zput _ _ _ = [(2, .ref qv4), (0, .ref r0), (1, .int x1)] from rfl) ?_
  refine z_aload_n (pc := 5) C 0 dX6_before_5 rfl rfl ?_
  refine z_iload_n (pc := 6) C 2 dX6_before_6 rfl rfl ?_
  obtain ⟨u5, eu5, h⟩ := ob1_eq h
  obtain ⟨w6, ew6⟩ := isO_eq eu5
  obtain ⟨v7, ev7, h⟩ := ob1_eq h
  refine z_callVi (h := qv4) (As := [.int x1]) (rest := []) (pc := 7) C dX6_before_7 ml_X6_233 (kX3_has _ _ _ _ G3 qv4 x1 v7 ev7) ew6 rfl rfl rfl (Nat.le_of_ble_eq_true rfl) (by decide) ?_
  refine z_if_ne (pc := 10) C dX6_before_10 (tgt := 15) (by decide) (fun c8 => ?_) (fun c8 => ?_)
  · rw [if_neg c8] at h
    refine z_aload_n (pc := 15) C 0 dX6_before_15 rfl rfl ?_
    refine z_iload_n (pc := 16) C 2 dX6_before_16 rfl rfl ?_
    refine z_aload_n (pc := 17) C 1 dX6_before_17 rfl rfl ?_
    obtain ⟨qv9, eqv9, h⟩ := ob1_eq h
    refine z_fr (pc := 18) C dX6_before_18 fl_X6_62 eqv9 ?_
    obtain ⟨u10, eu10, h⟩ := ob1_eq h
    obtain ⟨w11, ew11⟩ := isO_eq eu10
    obtain ⟨G12, eG12, h⟩ := ob1_eq h
    refine z_callVv (h := qv4) (As := [.int x1, .ref qv9]) (rest := []) (pc := 21) C dX6_before_21 ml_X6_304 (kX3_fillFallbacks _ _ _ _ G3 qv4 x1 qv9 G12 eG12) ew11 rfl rfl rfl (Nat.le_of_ble_eq_true rfl) (by decide) ?_
    refine z_iconst (pc := 24) C dX6_before_24 (v := (0 : Int32)) (by decide) ?_
    refine z_istore_n (pc := 25) C dX6_before_25 rfl (by decide) (show zput _ _ _ = [(3, .int (0 : Int32)), (2, .ref qv4), (0, .ref r0), (1, .int x1)] from rfl) ?_
    refine z_iconst (pc := 26) C dX6_before_26 (v := (0 : Int32)) (by decide) ?_
    refine z_istore (pc := 27) C dX6_before_27 (by decide) (show zput _ _ _ = [(4, .int (0 : Int32)), (3, .int (0 : Int32)), (2, .ref qv4), (0, .ref r0), (1, .int x1)] from rfl) ?_
    refine z_iconst (pc := 29) C dX6_before_29 (v := (0 : Int32)) (by decide) ?_
    refine z_istore (pc := 30) C dX6_before_30 (by decide) (show zput _ _ _ = [(5, .int (0 : Int32)), (4, .int (0 : Int32)), (3, .int (0 : Int32)), (2, .ref qv4), (0, .ref r0), (1, .int x1)] from rfl) ?_
    refine z_iconst (pc := 32) C dX6_before_32 (v := (0 : Int32)) (by decide) ?_
    refine z_istore (pc := 33) C dX6_before_33 (by decide) (show zput _ _ _ = [(6, .int (0 : Int32)), (5, .int (0 : Int32)), (4, .int (0 : Int32)), (3, .int (0 : Int32)), (2, .ref qv4), (0, .ref r0), (1, .int x1)] from rfl) ?_
    exact z_subL [5, 6, 4, 3, 2, 1, 0] (wfX6_before_b35 C E FU G12 r0 x1 qv4 (0 : Int32) (0 : Int32) (0 : Int32) (0 : Int32) h) rfl
  · rw [if_pos c8] at h
    refine z_iconst (pc := 13) C dX6_before_13 (v := (-1 : Int32)) (by decide) ?_
    obtain rfl := Option.some.inj h
    exact z_iret (pc := 14) C E dX6_before_14 ⟨rfl, rfl⟩
theorem kX6_before (l : Launch) (D : va_G) (cA : Nat → ClassId) (b : Nat) (G : zH) (r0 : Nat) (x1 : Int32) (out : Int32 × zH) (h : fX6_before G r0 x1 = some out) : zM l D cA b yX6_before cX6_before 8 (some .int) 5 105 [.ref r0, .int x1] G (poI out.1 out.2) := z_entry rfl (Nat.le_of_ble_eq_true rfl) (fun X C E _ _ _ => wfX6_before C E G r0 x1 h)
def fX6_word_b76 (G : zH) (r0 : Nat) (r2 : Nat) (x3 : Int32) (x4 : Int32) : Option (Int32 × zH) :=
    ob1 (frf G r0 6 2) fun qv1 =>
    ob1 (isO G r2 3) fun u2 =>
    ob1 (fX3_wordEnd G r2 x3) fun v4 =>
    ob1 (isO G qv1 5) fun u5 =>
    ob1 (fX5_tell G qv1 v4.toInt64) fun G7 =>
    some (x4, G7)
set_option maxRecDepth 100000 in
set_option maxHeartbeats 4000000 in
theorem wfX6_word_b76 {X : zX} {out : Int32 × zH} (C : zOK X cX6_word yX6_word.cls 5 (some .int) 5 106) (E : zPost X (poI out.1 out.2)) (G : zH) (r0 : Nat) (r2 : Nat) (x3 : Int32) (x4 : Int32) (h : fX6_word_b76 G r0 r2 x3 x4 = some out) : zZ X 76 [(0, .ref r0), (2, .ref r2), (3, .int x3), (4, .int x4)] [] G := by
  rw [fX6_word_b76] at h
  refine z_aload_n (pc := 76) C 0 dX6_word_76 rfl rfl ?_
  obtain ⟨qv1, eqv1, h⟩ := ob1_eq h
  refine z_fr (pc := 77) C dX6_word_77 fl_X6_16 eqv1 ?_
  refine z_aload_n (pc := 80) C 1 dX6_word_80 rfl rfl ?_
  refine z_iload_n (pc := 81) C 2 dX6_word_81 rfl rfl ?_
  obtain ⟨u2, eu2, h⟩ := ob1_eq h
  obtain ⟨w3, ew3⟩ := isO_eq eu2
  obtain ⟨v4, ev4, h⟩ := ob1_eq h
  refine z_callVi (h := r2) (As := [.int x3]) (rest := [.ref qv1]) (pc := 82) C dX6_word_82 ml_X6_315 (kX3_wordEnd _ _ _ _ G r2 x3 v4 ev4) ew3 rfl rfl rfl (Nat.le_of_ble_eq_true rfl) (by decide) ?_
  refine z_i2l (pc := 85) C dX6_word_85 ?_
  obtain ⟨u5, eu5, h⟩ := ob1_eq h
  obtain ⟨w6, ew6⟩ := isO_eq eu5
  obtain ⟨G7, eG7, h⟩ := ob1_eq h
  refine z_callVv (h := qv1) (As := [.long v4.toInt64]) (rest := []) (pc := 86) C dX6_word_86 ml_X6_246 (kX5_tell _ _ _ _ G qv1 v4.toInt64 G7 eG7) ew6 rfl rfl rfl (Nat.le_of_ble_eq_true rfl) (by decide) ?_
  refine z_iload (pc := 89) C 3 dX6_word_89 rfl ?_
  obtain rfl := Option.some.inj h
  exact z_iret (pc := 91) C E dX6_word_91 ⟨rfl, rfl⟩
def fX6_word_b51 : Nat → zH → Nat → Nat → Int32 → Int32 → Option (Int32 × zH)
  | 0, _, _, _, _, _ => none
  | n + 1, G, r0, r2, x3, x4 =>
    if x4 ≤ 0 then (fX6_word_b76 G r0 r2 x3 x4) else
    ob1 (isO G r2 3) fun u2 =>
    ob1 (fX3_signAt G r2 (x4 - (1 : Int32))) fun v4 =>
    ob1 (fX6_isOfWord v4) fun v5 =>
    if v5 = 0 then (fX6_word_b76 G r0 r2 x3 x4) else
    zlet (x4 + (-1 : Int32)) fun y7 =>
    (fX6_word_b51 n) G r0 r2 x3 y7
set_option maxRecDepth 100000 in
set_option maxHeartbeats 4000000 in
theorem wfX6_word_b51 {X : zX} {out : Int32 × zH} (C : zOK X cX6_word yX6_word.cls 5 (some .int) 5 106) (E : zPost X (poI out.1 out.2)) : ∀ (n : Nat) (G : zH) (r0 : Nat) (r2 : Nat) (x3 : Int32) (x4 : Int32) (h : fX6_word_b51 n G r0 r2 x3 x4 = some out), zZ X 51 [(0, .ref r0), (2, .ref r2), (3, .int x3), (4, .int x4)] [] G := by
  intro n
  induction n with
  | zero => intro G r0 r2 x3 x4 h; cases h
  | succ n ih =>
    intro G r0 r2 x3 x4 h
    rw [fX6_word_b51] at h
    refine z_iload (pc := 51) C 3 dX6_word_51 rfl ?_
    refine z_if_le (pc := 53) C dX6_word_53 (tgt := 76) (by decide) (fun c1 => ?_) (fun c1 => ?_)
    · rw [if_pos c1] at h
      exact z_subL [0, 1, 2, 3] (wfX6_word_b76 C E G r0 r2 x3 x4 h) rfl
    · rw [if_neg c1] at h
      refine z_aload_n (pc := 56) C 1 dX6_word_56 rfl rfl ?_
      refine z_iload (pc := 57) C 3 dX6_word_57 rfl ?_
      refine z_iconst (pc := 59) C dX6_word_59 (v := (1 : Int32)) (by decide) ?_
      refine z_isub (pc := 60) C dX6_word_60 ?_
      obtain ⟨u2, eu2, h⟩ := ob1_eq h
      obtain ⟨w3, ew3⟩ := isO_eq eu2
      obtain ⟨v4, ev4, h⟩ := ob1_eq h
      refine z_callVi (h := r2) (As := [.int (x4 - (1 : Int32))]) (rest := []) (pc := 61) C dX6_word_61 ml_X6_236 (kX3_signAt _ _ _ _ G r2 (x4 - (1 : Int32)) v4 ev4) ew3 rfl rfl rfl (Nat.le_of_ble_eq_true rfl) (by decide) ?_
      obtain ⟨v5, ev5, h⟩ := ob1_eq h
      refine z_callSi (As := [.int v4]) (rest := []) (pc := 64) C dX6_word_64 ml_X6_312 (kX6_isOfWord _ _ _ _ G v4 _ ev5) rfl rfl (Nat.le_of_ble_eq_true rfl) (by decide) ?_
      refine z_if_eq (pc := 67) C dX6_word_67 (tgt := 76) (by decide) (fun c6 => ?_) (fun c6 => ?_)
      · rw [if_pos c6] at h
        exact z_subL [0, 1, 2, 3] (wfX6_word_b76 C E G r0 r2 x3 x4 h) rfl
      · rw [if_neg c6] at h
        obtain ⟨y7, ey7, h⟩ := zlet_eq h
        refine z_iinc (pc := 70) (v := y7) C 3 dX6_word_70 rfl (by rw [ey7]; rfl) (by decide) (show zput _ _ _ = [(4, .int y7), (0, .ref r0), (2, .ref r2), (3, .int x3)] from rfl) ?_
        refine z_goto (pc := 73) C dX6_word_73 (tgt := 51) (by decide) ?_
        exact z_subL [1, 2, 3, 0] (ih G r0 r2 x3 y7 h) rfl
def fX6_word_b33 (G : zH) (r0 : Nat) (r2 : Nat) (s0 : Int32) : Option (Int32 × zH) :=
    ob1 (isO G r2 3) fun u1 =>
    ob1 (fX3_signAt G r2 s0) fun v3 =>
    ob1 (fX6_isOfWord v3) fun v4 =>
    if v4 = 0 then (some ((-2 : Int32), G)) else
    fX6_word_b51 FU G r0 r2 s0 s0
set_option maxRecDepth 100000 in
set_option maxHeartbeats 4000000 in
theorem wfX6_word_b33 {X : zX} {out : Int32 × zH} (C : zOK X cX6_word yX6_word.cls 5 (some .int) 5 106) (E : zPost X (poI out.1 out.2)) (G : zH) (r0 : Nat) (r2 : Nat) (s0 : Int32) (h : fX6_word_b33 G r0 r2 s0 = some out) : zZ X 33 [(0, .ref r0), (2, .ref r2)] [.int s0] G := by
  rw [fX6_word_b33] at h
  refine z_istore_n (pc := 33) C dX6_word_33 rfl (by decide) (show zput _ _ _ = [(3, .int s0), (0, .ref r0), (2, .ref r2)] from rfl) ?_
  refine z_aload_n (pc := 34) C 2 dX6_word_34 rfl rfl ?_
  refine z_iload_n (pc := 35) C 0 dX6_word_35 rfl rfl ?_
  obtain ⟨u1, eu1, h⟩ := ob1_eq h
  obtain ⟨w2, ew2⟩ := isO_eq eu1
  obtain ⟨v3, ev3, h⟩ := ob1_eq h
  refine z_callVi (h := r2) (As := [.int s0]) (rest := []) (pc := 36) C dX6_word_36 ml_X6_236 (kX3_signAt _ _ _ _ G r2 s0 v3 ev3) ew2 rfl rfl rfl (Nat.le_of_ble_eq_true rfl) (by decide) ?_
  obtain ⟨v4, ev4, h⟩ := ob1_eq h
  refine z_callSi (As := [.int v3]) (rest := []) (pc := 39) C dX6_word_39 ml_X6_312 (kX6_isOfWord _ _ _ _ G v3 _ ev4) rfl rfl (Nat.le_of_ble_eq_true rfl) (by decide) ?_
  refine z_if_ne (pc := 42) C dX6_word_42 (tgt := 48) (by decide) (fun c5 => ?_) (fun c5 => ?_)
  · rw [if_neg c5] at h
    refine z_iload_n (pc := 48) C 0 dX6_word_48 rfl rfl ?_
    refine z_istore (pc := 49) C dX6_word_49 (by decide) (show zput _ _ _ = [(4, .int s0), (3, .int s0), (0, .ref r0), (2, .ref r2)] from rfl) ?_
    exact z_subL [2, 3, 1, 0] (wfX6_word_b51 C E FU G r0 r2 s0 s0 h) rfl
  · rw [if_pos c5] at h
    refine z_bipush (pc := 45) C dX6_word_45 (v := (-2 : Int32)) (by decide) ?_
    obtain rfl := Option.some.inj h
    exact z_iret (pc := 47) C E dX6_word_47 ⟨rfl, rfl⟩
def fX6_word (G : zH) (r0 : Nat) (x1 : Int32) : Option (Int32 × zH) :=
    ob1 (isO G r0 6) fun u1 =>
    ob2 (fX6_isPlace G r0 x1) fun v4 G3 =>
    if v4 = 0 then (some ((-1 : Int32), G3)) else
    ob1 (isO G3 r0 6) fun u6 =>
    ob2 (fX6_shownPage G3 r0 ) fun qv9 G8 =>
    ob1 (isO G8 qv9 3) fun u10 =>
    ob1 (fX3_signAt G8 qv9 x1) fun v12 =>
    ob1 (fX6_isOfWord v12) fun v13 =>
    if v13 = 0 then (fX6_word_b33 G8 r0 qv9 (x1 - (1 : Int32))) else
    fX6_word_b33 G8 r0 qv9 x1
set_option maxRecDepth 100000 in
set_option maxHeartbeats 4000000 in
theorem wfX6_word {X : zX} {out : Int32 × zH} (C : zOK X cX6_word yX6_word.cls 5 (some .int) 5 106) (E : zPost X (poI out.1 out.2)) (G : zH) (r0 : Nat) (x1 : Int32) (h : fX6_word G r0 x1 = some out) : zZ X 0 [(0, .ref r0), (1, .int x1)] [] G := by
  rw [fX6_word] at h
  refine z_aload_n (pc := 0) C 0 dX6_word_0 rfl rfl ?_
  refine z_iload_n (pc := 1) C 1 dX6_word_1 rfl rfl ?_
  obtain ⟨u1, eu1, h⟩ := ob1_eq h
  obtain ⟨w2, ew2⟩ := isO_eq eu1
  obtain ⟨v4, G3, ev4, h⟩ := ob2_eq h
  refine z_callVi (h := r0) (As := [.int x1]) (rest := []) (pc := 2) C dX6_word_2 ml_X6_168 (kX6_isPlace _ _ _ _ G r0 x1 (v4, G3) ev4) ew2 rfl rfl rfl (Nat.le_of_ble_eq_true rfl) (by decide) ?_
  refine z_if_ne (pc := 5) C dX6_word_5 (tgt := 10) (by decide) (fun c5 => ?_) (fun c5 => ?_)
  · rw [if_neg c5] at h
    refine z_aload_n (pc := 10) C 0 dX6_word_10 rfl rfl ?_
    obtain ⟨u6, eu6, h⟩ := ob1_eq h
    obtain ⟨w7, ew7⟩ := isO_eq eu6
    obtain ⟨qv9, G8, eqv9, h⟩ := ob2_eq h
    refine z_callVr (h := r0) (As := []) (rest := []) (pc := 11) C dX6_word_11 ml_X6_160 (kX6_shownPage _ _ _ _ G3 r0  (qv9, G8) eqv9) ew7 rfl rfl rfl (Nat.le_of_ble_eq_true rfl) (by decide) ?_
    refine z_astore_n (pc := 14) C dX6_word_14 rfl (by decide) (show zput _ _ _ = [(2, .ref qv9), (0, .ref r0), (1, .int x1)] from rfl) ?_
    refine z_aload_n (pc := 15) C 0 dX6_word_15 rfl rfl ?_
    refine z_iload_n (pc := 16) C 2 dX6_word_16 rfl rfl ?_
    obtain ⟨u10, eu10, h⟩ := ob1_eq h
    obtain ⟨w11, ew11⟩ := isO_eq eu10
    obtain ⟨v12, ev12, h⟩ := ob1_eq h
    refine z_callVi (h := qv9) (As := [.int x1]) (rest := []) (pc := 17) C dX6_word_17 ml_X6_236 (kX3_signAt _ _ _ _ G8 qv9 x1 v12 ev12) ew11 rfl rfl rfl (Nat.le_of_ble_eq_true rfl) (by decide) ?_
    obtain ⟨v13, ev13, h⟩ := ob1_eq h
    refine z_callSi (As := [.int v12]) (rest := []) (pc := 20) C dX6_word_20 ml_X6_312 (kX6_isOfWord _ _ _ _ G8 v12 _ ev13) rfl rfl (Nat.le_of_ble_eq_true rfl) (by decide) ?_
    refine z_if_eq (pc := 23) C dX6_word_23 (tgt := 30) (by decide) (fun c14 => ?_) (fun c14 => ?_)
    · rw [if_pos c14] at h
      refine z_iload_n (pc := 30) C 2 dX6_word_30 rfl rfl ?_
      refine z_iconst (pc := 31) C dX6_word_31 (v := (1 : Int32)) (by decide) ?_
      refine z_isub (pc := 32) C dX6_word_32 ?_
      exact z_subL [1, 0] (wfX6_word_b33 C E G8 r0 qv9 (x1 - (1 : Int32)) h) rfl
    · rw [if_neg c14] at h
      refine z_iload_n (pc := 26) C 2 dX6_word_26 rfl rfl ?_
      refine z_goto (pc := 27) C dX6_word_27 (tgt := 33) (by decide) ?_
      exact z_subL [1, 0] (wfX6_word_b33 C E G8 r0 qv9 x1 h) rfl
  · rw [if_pos c5] at h
    refine z_iconst (pc := 8) C dX6_word_8 (v := (-1 : Int32)) (by decide) ?_
    obtain rfl := Option.some.inj h
    exact z_iret (pc := 9) C E dX6_word_9 ⟨rfl, rfl⟩
theorem kX6_word (l : Launch) (D : va_G) (cA : Nat → ClassId) (b : Nat) (G : zH) (r0 : Nat) (x1 : Int32) (out : Int32 × zH) (h : fX6_word G r0 x1 = some out) : zM l D cA b yX6_word cX6_word 5 (some .int) 5 106 [.ref r0, .int x1] G (poI out.1 out.2) := z_entry rfl (Nat.le_of_ble_eq_true rfl) (fun X C E _ _ _ => wfX6_word C E G r0 x1 h)
def fX6_words_b71 (G : zH) (r0 : Nat) (x2 : Int32) (x3 : Int32) (x4 : Int32) : Option (Int32 × zH) :=
    ob1 (frf G r0 6 2) fun qv1 =>
    ob1 (isO G qv1 5) fun u2 =>
    ob1 (fX5_clear G qv1 ) fun G4 =>
    if x2 ≤ 0 then (some (x2, G4)) else
    ob1 (frf G4 r0 6 2) fun qv6 =>
    ob1 (isO G4 qv6 5) fun u7 =>
    ob1 (fX5_tell_ G4 qv6 x3.toInt64 x4.toInt64) fun G9 =>
    some (x2, G9)
set_option maxRecDepth 100000 in
set_option maxHeartbeats 4000000 in
theorem wfX6_words_b71 {X : zX} {out : Int32 × zH} (C : zOK X cX6_words yX6_words.cls 7 (some .int) 5 105) (E : zPost X (poI out.1 out.2)) (G : zH) (r0 : Nat) (x2 : Int32) (x3 : Int32) (x4 : Int32) (h : fX6_words_b71 G r0 x2 x3 x4 = some out) : zZ X 71 [(0, .ref r0), (2, .int x2), (3, .int x3), (4, .int x4)] [] G := by
  rw [fX6_words_b71] at h
  refine z_aload_n (pc := 71) C 0 dX6_words_71 rfl rfl ?_
  obtain ⟨qv1, eqv1, h⟩ := ob1_eq h
  refine z_fr (pc := 72) C dX6_words_72 fl_X6_16 eqv1 ?_
  obtain ⟨u2, eu2, h⟩ := ob1_eq h
  obtain ⟨w3, ew3⟩ := isO_eq eu2
  obtain ⟨G4, eG4, h⟩ := ob1_eq h
  refine z_callVv (h := qv1) (As := []) (rest := []) (pc := 75) C dX6_words_75 ml_X6_242 (kX5_clear _ _ _ _ G qv1  G4 eG4) ew3 rfl rfl rfl (Nat.le_of_ble_eq_true rfl) (by decide) ?_
  refine z_iload_n (pc := 78) C 1 dX6_words_78 rfl rfl ?_
  refine z_if_le (pc := 79) C dX6_words_79 (tgt := 94) (by decide) (fun c5 => ?_) (fun c5 => ?_)
  · rw [if_pos c5] at h
    refine z_iload_n (pc := 94) C 1 dX6_words_94 rfl rfl ?_
    obtain rfl := Option.some.inj h
    exact z_iret (pc := 95) C E dX6_words_95 ⟨rfl, rfl⟩
  · rw [if_neg c5] at h
    refine z_aload_n (pc := 82) C 0 dX6_words_82 rfl rfl ?_
    obtain ⟨qv6, eqv6, h⟩ := ob1_eq h
    refine z_fr (pc := 83) C dX6_words_83 fl_X6_16 eqv6 ?_
    refine z_iload_n (pc := 86) C 2 dX6_words_86 rfl rfl ?_
    refine z_i2l (pc := 87) C dX6_words_87 ?_
    refine z_iload (pc := 88) C 3 dX6_words_88 rfl ?_
    refine z_i2l (pc := 90) C dX6_words_90 ?_
    obtain ⟨u7, eu7, h⟩ := ob1_eq h
    obtain ⟨w8, ew8⟩ := isO_eq eu7
    obtain ⟨G9, eG9, h⟩ := ob1_eq h
    refine z_callVv (h := qv6) (As := [.long x3.toInt64, .long x4.toInt64]) (rest := []) (pc := 91) C dX6_words_91 ml_X6_217 (kX5_tell_ _ _ _ _ G4 qv6 x3.toInt64 x4.toInt64 G9 eG9) ew8 rfl rfl rfl (Nat.le_of_ble_eq_true rfl) (by decide) ?_
    refine z_iload_n (pc := 94) C 1 dX6_words_94 rfl rfl ?_
    obtain rfl := Option.some.inj h
    exact z_iret (pc := 95) C E dX6_words_95 ⟨rfl, rfl⟩
def fX6_words_b65 (k15 : zH → Nat → Nat → Int32 → Int32 → Int32 → Int32 → Option (Int32 × zH)) (G : zH) (r0 : Nat) (r1 : Nat) (x2 : Int32) (x3 : Int32) (x4 : Int32) (x5 : Int32) : Option (Int32 × zH) :=
    zlet (x5 + (1 : Int32)) fun y1 =>
    k15 G r0 r1 x2 x3 x4 y1
set_option maxRecDepth 100000 in
set_option maxHeartbeats 4000000 in
theorem wfX6_words_b65 {X : zX} {out : Int32 × zH} (C : zOK X cX6_words yX6_words.cls 7 (some .int) 5 105) (E : zPost X (poI out.1 out.2)) (k15 : zH → Nat → Nat → Int32 → Int32 → Int32 → Int32 → Option (Int32 × zH)) (hk15 : ∀ (G : zH) (r0 : Nat) (r1 : Nat) (x2 : Int32) (x3 : Int32) (x4 : Int32) (x5 : Int32), k15 G r0 r1 x2 x3 x4 x5 = some out → zZ X 15 [(0, .ref r0), (1, .ref r1), (2, .int x2), (3, .int x3), (4, .int x4), (5, .int x5)] [] G) (G : zH) (r0 : Nat) (r1 : Nat) (x2 : Int32) (x3 : Int32) (x4 : Int32) (x5 : Int32) (h : fX6_words_b65 k15 G r0 r1 x2 x3 x4 x5 = some out) : zZ X 65 [(0, .ref r0), (1, .ref r1), (2, .int x2), (3, .int x3), (4, .int x4), (5, .int x5)] [] G := by
  rw [fX6_words_b65] at h
  obtain ⟨y1, ey1, h⟩ := zlet_eq h
  refine z_iinc (pc := 65) (v := y1) C 5 dX6_words_65 rfl (by rw [ey1]; rfl) (by decide) (show zput _ _ _ = [(5, .int y1), (0, .ref r0), (1, .ref r1), (2, .int x2), (3, .int x3), (4, .int x4)] from rfl) ?_
  refine z_goto (pc := 68) C dX6_words_68 (tgt := 15) (by decide) ?_
  exact z_subL [1, 2, 3, 4, 5, 0] (hk15 G r0 r1 x2 x3 x4 y1 h) rfl
def fX6_words_b61 (k15 : zH → Nat → Nat → Int32 → Int32 → Int32 → Int32 → Option (Int32 × zH)) (G : zH) (r0 : Nat) (r1 : Nat) (x2 : Int32) (x3 : Int32) (x4 : Int32) (x6 : Int32) : Option (Int32 × zH) :=
    fX6_words_b65 k15 G r0 r1 x2 x3 x4 x6
set_option maxRecDepth 100000 in
set_option maxHeartbeats 4000000 in
theorem wfX6_words_b61 {X : zX} {out : Int32 × zH} (C : zOK X cX6_words yX6_words.cls 7 (some .int) 5 105) (E : zPost X (poI out.1 out.2)) (k15 : zH → Nat → Nat → Int32 → Int32 → Int32 → Int32 → Option (Int32 × zH)) (hk15 : ∀ (G : zH) (r0 : Nat) (r1 : Nat) (x2 : Int32) (x3 : Int32) (x4 : Int32) (x5 : Int32), k15 G r0 r1 x2 x3 x4 x5 = some out → zZ X 15 [(0, .ref r0), (1, .ref r1), (2, .int x2), (3, .int x3), (4, .int x4), (5, .int x5)] [] G) (G : zH) (r0 : Nat) (r1 : Nat) (x2 : Int32) (x3 : Int32) (x4 : Int32) (x6 : Int32) (h : fX6_words_b61 k15 G r0 r1 x2 x3 x4 x6 = some out) : zZ X 61 [(0, .ref r0), (1, .ref r1), (2, .int x2), (3, .int x3), (4, .int x4), (6, .int x6)] [] G := by
  rw [fX6_words_b61] at h
  refine z_iload (pc := 61) C 5 dX6_words_61 rfl ?_
  refine z_istore (pc := 63) C dX6_words_63 (by decide) (show zput _ _ _ = [(5, .int x6), (0, .ref r0), (1, .ref r1), (2, .int x2), (3, .int x3), (4, .int x4), (6, .int x6)] from rfl) ?_
  exact z_subL [1, 2, 3, 4, 5, 0] (wfX6_words_b65 C E k15 hk15 G r0 r1 x2 x3 x4 x6 h) rfl
def fX6_words_b15 : Nat → zH → Nat → Nat → Int32 → Int32 → Int32 → Int32 → Option (Int32 × zH)
  | 0, _, _, _, _, _, _, _ => none
  | n + 1, G, r0, r1, x2, x3, x4, x5 =>
    ob1 (fi G r1 3 2) fun v1 =>
    if v1 ≤ x5 then (fX6_words_b71 G r0 x2 x3 x4) else
    ob1 (isO G r1 3) fun u3 =>
    ob1 (fX3_wordEnd G r1 x5) fun v5 =>
    if v5 ≤ x5 then (fX6_words_b65 (fX6_words_b15 n) G r0 r1 x2 x3 x4 x5) else
    zlet (x2 + (1 : Int32)) fun y7 =>
    if (v5 - x5) ≤ x3 then (fX6_words_b61 (fX6_words_b15 n) G r0 r1 y7 x3 x4 v5) else
    zlet ((v5 - x5)) fun y9 =>
    fX6_words_b61 (fX6_words_b15 n) G r0 r1 y7 y9 x5 v5
set_option maxRecDepth 100000 in
set_option maxHeartbeats 4000000 in
theorem wfX6_words_b15 {X : zX} {out : Int32 × zH} (C : zOK X cX6_words yX6_words.cls 7 (some .int) 5 105) (E : zPost X (poI out.1 out.2)) : ∀ (n : Nat) (G : zH) (r0 : Nat) (r1 : Nat) (x2 : Int32) (x3 : Int32) (x4 : Int32) (x5 : Int32) (h : fX6_words_b15 n G r0 r1 x2 x3 x4 x5 = some out), zZ X 15 [(0, .ref r0), (1, .ref r1), (2, .int x2), (3, .int x3), (4, .int x4), (5, .int x5)] [] G := by
  intro n
  induction n with
  | zero => intro G r0 r1 x2 x3 x4 x5 h; cases h
  | succ n ih =>
    intro G r0 r1 x2 x3 x4 x5 h
    rw [fX6_words_b15] at h
    refine z_iload (pc := 15) C 5 dX6_words_15 rfl ?_
    refine z_aload_n (pc := 17) C 1 dX6_words_17 rfl rfl ?_
    obtain ⟨v1, ev1, h⟩ := ob1_eq h
    refine z_fi (pc := 18) C dX6_words_18 fl_X6_181 ev1 ?_
    refine z_ic_ge (pc := 21) C dX6_words_21 (tgt := 71) (by decide) (fun c2 => ?_) (fun c2 => ?_)
    · rw [if_pos c2] at h
      exact z_subL [0, 2, 3, 4] (wfX6_words_b71 C E G r0 x2 x3 x4 h) rfl
    · rw [if_neg c2] at h
      refine z_aload_n (pc := 24) C 1 dX6_words_24 rfl rfl ?_
      refine z_iload (pc := 25) C 5 dX6_words_25 rfl ?_
      obtain ⟨u3, eu3, h⟩ := ob1_eq h
      obtain ⟨w4, ew4⟩ := isO_eq eu3
      obtain ⟨v5, ev5, h⟩ := ob1_eq h
      refine z_callVi (h := r1) (As := [.int x5]) (rest := []) (pc := 27) C dX6_words_27 ml_X6_315 (kX3_wordEnd _ _ _ _ G r1 x5 v5 ev5) ew4 rfl rfl rfl (Nat.le_of_ble_eq_true rfl) (by decide) ?_
      refine z_istore (pc := 30) C dX6_words_30 (by decide) (show zput _ _ _ = [(6, .int v5), (0, .ref r0), (1, .ref r1), (2, .int x2), (3, .int x3), (4, .int x4), (5, .int x5)] from rfl) ?_
      refine z_iload (pc := 32) C 0 dX6_words_32 rfl ?_
      refine z_iload (pc := 34) C 6 dX6_words_34 rfl ?_
      refine z_ic_le (pc := 36) C dX6_words_36 (tgt := 65) (by decide) (fun c6 => ?_) (fun c6 => ?_)
      · rw [if_pos c6] at h
        exact z_subL [1, 2, 3, 4, 5, 6] (wfX6_words_b65 C E (fX6_words_b15 n) ih G r0 r1 x2 x3 x4 x5 h) rfl
      · rw [if_neg c6] at h
        obtain ⟨y7, ey7, h⟩ := zlet_eq h
        refine z_iinc (pc := 39) (v := y7) C 3 dX6_words_39 rfl (by rw [ey7]; rfl) (by decide) (show zput _ _ _ = [(2, .int y7), (6, .int v5), (0, .ref r0), (1, .ref r1), (3, .int x3), (4, .int x4), (5, .int x5)] from rfl) ?_
        refine z_iload (pc := 42) C 1 dX6_words_42 rfl ?_
        refine z_iload (pc := 44) C 6 dX6_words_44 rfl ?_
        refine z_isub (pc := 46) C dX6_words_46 ?_
        refine z_iload_n (pc := 47) C 4 dX6_words_47 rfl rfl ?_
        refine z_ic_le (pc := 48) C dX6_words_48 (tgt := 61) (by decide) (fun c8 => ?_) (fun c8 => ?_)
        · rw [if_pos c8] at h
          exact z_subL [2, 3, 0, 4, 5, 1] (wfX6_words_b61 C E (fX6_words_b15 n) ih G r0 r1 y7 x3 x4 v5 h) rfl
        · rw [if_neg c8] at h
          refine z_iload (pc := 51) C 1 dX6_words_51 rfl ?_
          refine z_iload (pc := 53) C 6 dX6_words_53 rfl ?_
          refine z_isub (pc := 55) C dX6_words_55 ?_
          obtain ⟨y9, ey9, h⟩ := zlet_eq h
          refine z_topi ey9 ?_
          refine z_istore_n (pc := 56) C dX6_words_56 rfl (by decide) (show zput _ _ _ = [(3, .int y9), (2, .int y7), (6, .int v5), (0, .ref r0), (1, .ref r1), (4, .int x4), (5, .int x5)] from rfl) ?_
          refine z_iload (pc := 57) C 6 dX6_words_57 rfl ?_
          refine z_istore (pc := 59) C dX6_words_59 (by decide) (show zput _ _ _ = [(4, .int x5), (3, .int y9), (2, .int y7), (6, .int v5), (0, .ref r0), (1, .ref r1), (5, .int x5)] from rfl) ?_
          exact z_subL [4, 5, 2, 1, 0, 3] (wfX6_words_b61 C E (fX6_words_b15 n) ih G r0 r1 y7 y9 x5 v5 h) rfl
def fX6_words (G : zH) (r0 : Nat) : Option (Int32 × zH) :=
    ob1 (isO G r0 6) fun u1 =>
    ob2 (fX6_shownPage G r0 ) fun qv4 G3 =>
    fX6_words_b15 FU G3 r0 qv4 (0 : Int32) (0 : Int32) (0 : Int32) (0 : Int32)
set_option maxRecDepth 100000 in
set_option maxHeartbeats 4000000 in
theorem wfX6_words {X : zX} {out : Int32 × zH} (C : zOK X cX6_words yX6_words.cls 7 (some .int) 5 105) (E : zPost X (poI out.1 out.2)) (G : zH) (r0 : Nat) (h : fX6_words G r0 = some out) : zZ X 0 [(0, .ref r0)] [] G := by
  rw [fX6_words] at h
  refine z_aload_n (pc := 0) C 0 dX6_words_0 rfl rfl ?_
  obtain ⟨u1, eu1, h⟩ := ob1_eq h
  obtain ⟨w2, ew2⟩ := isO_eq eu1
  obtain ⟨qv4, G3, eqv4, h⟩ := ob2_eq h
  refine z_callVr (h := r0) (As := []) (rest := []) (pc := 1) C dX6_words_1 ml_X6_160 (kX6_shownPage _ _ _ _ G r0  (qv4, G3) eqv4) ew2 rfl rfl rfl (Nat.le_of_ble_eq_true rfl) (by decide) ?_
  refine z_astore_n (pc := 4) C dX6_words_4 rfl (by decide) (show zput _ _ _ = [(1, .ref qv4), (0, .ref r0)] from rfl) ?_
  refine z_iconst (pc := 5) C dX6_words_5 (v := (0 : Int32)) (by decide) ?_
  refine z_istore_n (pc := 6) C dX6_words_6 rfl (by decide) (show zput _ _ _ = [(2, .int (0 : Int32)), (1, .ref qv4), (0, .ref r0)] from rfl) ?_
  refine z_iconst (pc := 7) C dX6_words_7 (v := (0 : Int32)) (by decide) ?_
  refine z_istore_n (pc := 8) C dX6_words_8 rfl (by decide) (show zput _ _ _ = [(3, .int (0 : Int32)), (2, .int (0 : Int32)), (1, .ref qv4), (0, .ref r0)] from rfl) ?_
  refine z_iconst (pc := 9) C dX6_words_9 (v := (0 : Int32)) (by decide) ?_
  refine z_istore (pc := 10) C dX6_words_10 (by decide) (show zput _ _ _ = [(4, .int (0 : Int32)), (3, .int (0 : Int32)), (2, .int (0 : Int32)), (1, .ref qv4), (0, .ref r0)] from rfl) ?_
  refine z_iconst (pc := 12) C dX6_words_12 (v := (0 : Int32)) (by decide) ?_
  refine z_istore (pc := 13) C dX6_words_13 (by decide) (show zput _ _ _ = [(5, .int (0 : Int32)), (4, .int (0 : Int32)), (3, .int (0 : Int32)), (2, .int (0 : Int32)), (1, .ref qv4), (0, .ref r0)] from rfl) ?_
  exact z_subL [5, 4, 3, 2, 1, 0] (wfX6_words_b15 C E FU G3 r0 qv4 (0 : Int32) (0 : Int32) (0 : Int32) (0 : Int32) h) rfl
theorem kX6_words (l : Launch) (D : va_G) (cA : Nat → ClassId) (b : Nat) (G : zH) (r0 : Nat) (out : Int32 × zH) (h : fX6_words G r0 = some out) : zM l D cA b yX6_words cX6_words 7 (some .int) 5 105 [.ref r0] G (poI out.1 out.2) := z_entry rfl (Nat.le_of_ble_eq_true rfl) (fun X C E _ _ _ => wfX6_words C E G r0 h)
def fX6_rows_b112 (G : zH) (r0 : Nat) (x3 : Int32) (x4 : Int32) : Option (Int32 × zH) :=
    ob1 (frf G r0 6 2) fun qv1 =>
    ob1 (isO G qv1 5) fun u2 =>
    ob1 (fX5_tell G qv1 x4.toInt64) fun G4 =>
    some (x3, G4)
set_option maxRecDepth 100000 in
set_option maxHeartbeats 4000000 in
theorem wfX6_rows_b112 {X : zX} {out : Int32 × zH} (C : zOK X cX6_rows yX6_rows.cls 8 (some .int) 5 105) (E : zPost X (poI out.1 out.2)) (G : zH) (r0 : Nat) (x3 : Int32) (x4 : Int32) (h : fX6_rows_b112 G r0 x3 x4 = some out) : zZ X 112 [(0, .ref r0), (3, .int x3), (4, .int x4)] [] G := by
  rw [fX6_rows_b112] at h
  refine z_aload_n (pc := 112) C 0 dX6_rows_112 rfl rfl ?_
  obtain ⟨qv1, eqv1, h⟩ := ob1_eq h
  refine z_fr (pc := 113) C dX6_rows_113 fl_X6_16 eqv1 ?_
  refine z_iload (pc := 116) C 2 dX6_rows_116 rfl ?_
  refine z_i2l (pc := 118) C dX6_rows_118 ?_
  obtain ⟨u2, eu2, h⟩ := ob1_eq h
  obtain ⟨w3, ew3⟩ := isO_eq eu2
  obtain ⟨G4, eG4, h⟩ := ob1_eq h
  refine z_callVv (h := qv1) (As := [.long x4.toInt64]) (rest := []) (pc := 119) C dX6_rows_119 ml_X6_246 (kX5_tell _ _ _ _ G qv1 x4.toInt64 G4 eG4) ew3 rfl rfl rfl (Nat.le_of_ble_eq_true rfl) (by decide) ?_
  refine z_iload_n (pc := 122) C 1 dX6_rows_122 rfl rfl ?_
  obtain rfl := Option.some.inj h
  exact z_iret (pc := 123) C E dX6_rows_123 ⟨rfl, rfl⟩
def fX6_rows_b107 (k26 : zH → Nat → Int32 → Nat → Int32 → Int32 → Int32 → Option (Int32 × zH)) (G : zH) (r0 : Nat) (x1 : Int32) (r2 : Nat) (x3 : Int32) (x4 : Int32) (s0 : Int32) : Option (Int32 × zH) :=
    k26 G r0 x1 r2 x3 x4 s0
set_option maxRecDepth 100000 in
set_option maxHeartbeats 4000000 in
theorem wfX6_rows_b107 {X : zX} {out : Int32 × zH} (C : zOK X cX6_rows yX6_rows.cls 8 (some .int) 5 105) (E : zPost X (poI out.1 out.2)) (k26 : zH → Nat → Int32 → Nat → Int32 → Int32 → Int32 → Option (Int32 × zH)) (hk26 : ∀ (G : zH) (r0 : Nat) (x1 : Int32) (r2 : Nat) (x3 : Int32) (x4 : Int32) (x5 : Int32), k26 G r0 x1 r2 x3 x4 x5 = some out → zZ X 26 [(0, .ref r0), (1, .int x1), (2, .ref r2), (3, .int x3), (4, .int x4), (5, .int x5)] [] G) (G : zH) (r0 : Nat) (x1 : Int32) (r2 : Nat) (x3 : Int32) (x4 : Int32) (s0 : Int32) (h : fX6_rows_b107 k26 G r0 x1 r2 x3 x4 s0 = some out) : zZ X 107 [(0, .ref r0), (1, .int x1), (2, .ref r2), (3, .int x3), (4, .int x4)] [.int s0] G := by
  rw [fX6_rows_b107] at h
  refine z_istore (pc := 107) C dX6_rows_107 (by decide) (show zput _ _ _ = [(5, .int s0), (0, .ref r0), (1, .int x1), (2, .ref r2), (3, .int x3), (4, .int x4)] from rfl) ?_
  refine z_goto (pc := 109) C dX6_rows_109 (tgt := 26) (by decide) ?_
  exact z_subL [1, 2, 3, 4, 5, 0] (hk26 G r0 x1 r2 x3 x4 s0 h) rfl
def fX6_rows_b91 (k26 : zH → Nat → Int32 → Nat → Int32 → Int32 → Int32 → Option (Int32 × zH)) (G : zH) (r0 : Nat) (x1 : Int32) (r2 : Nat) (x3 : Int32) (x4 : Int32) (x6 : Int32) (s0 : Int32) : Option (Int32 × zH) :=
    if s0 = 0 then (fX6_rows_b107 k26 G r0 x1 r2 x3 x4 x6) else
    fX6_rows_b107 k26 G r0 x1 r2 x3 x4 (x6 + (1 : Int32))
set_option maxRecDepth 100000 in
set_option maxHeartbeats 4000000 in
theorem wfX6_rows_b91 {X : zX} {out : Int32 × zH} (C : zOK X cX6_rows yX6_rows.cls 8 (some .int) 5 105) (E : zPost X (poI out.1 out.2)) (k26 : zH → Nat → Int32 → Nat → Int32 → Int32 → Int32 → Option (Int32 × zH)) (hk26 : ∀ (G : zH) (r0 : Nat) (x1 : Int32) (r2 : Nat) (x3 : Int32) (x4 : Int32) (x5 : Int32), k26 G r0 x1 r2 x3 x4 x5 = some out → zZ X 26 [(0, .ref r0), (1, .int x1), (2, .ref r2), (3, .int x3), (4, .int x4), (5, .int x5)] [] G) (G : zH) (r0 : Nat) (x1 : Int32) (r2 : Nat) (x3 : Int32) (x4 : Int32) (x6 : Int32) (s0 : Int32) (h : fX6_rows_b91 k26 G r0 x1 r2 x3 x4 x6 s0 = some out) : zZ X 91 [(0, .ref r0), (1, .int x1), (2, .ref r2), (3, .int x3), (4, .int x4), (6, .int x6)] [.int s0] G := by
  rw [fX6_rows_b91] at h
  refine z_istore (pc := 91) C dX6_rows_91 (by decide) (show zput _ _ _ = [(7, .int s0), (0, .ref r0), (1, .int x1), (2, .ref r2), (3, .int x3), (4, .int x4), (6, .int x6)] from rfl) ?_
  refine z_iload (pc := 93) C 0 dX6_rows_93 rfl ?_
  refine z_if_eq (pc := 95) C dX6_rows_95 (tgt := 105) (by decide) (fun c1 => ?_) (fun c1 => ?_)
  · rw [if_pos c1] at h
    refine z_iload (pc := 105) C 6 dX6_rows_105 rfl ?_
    exact z_subL [1, 2, 3, 4, 5] (wfX6_rows_b107 C E k26 hk26 G r0 x1 r2 x3 x4 x6 h) rfl
  · rw [if_neg c1] at h
    refine z_iload (pc := 98) C 6 dX6_rows_98 rfl ?_
    refine z_iconst (pc := 100) C dX6_rows_100 (v := (1 : Int32)) (by decide) ?_
    refine z_iadd (pc := 101) C dX6_rows_101 ?_
    refine z_goto (pc := 102) C dX6_rows_102 (tgt := 107) (by decide) ?_
    exact z_subL [1, 2, 3, 4, 5] (wfX6_rows_b107 C E k26 hk26 G r0 x1 r2 x3 x4 (x6 + (1 : Int32)) h) rfl
def fX6_rows_b86 (k26 : zH → Nat → Int32 → Nat → Int32 → Int32 → Int32 → Option (Int32 × zH)) (G : zH) (r0 : Nat) (x1 : Int32) (r2 : Nat) (x3 : Int32) (x4 : Int32) (x6 : Int32) : Option (Int32 × zH) :=
    fX6_rows_b91 k26 G r0 x1 r2 x3 x4 x6 (1 : Int32)
set_option maxRecDepth 100000 in
set_option maxHeartbeats 4000000 in
theorem wfX6_rows_b86 {X : zX} {out : Int32 × zH} (C : zOK X cX6_rows yX6_rows.cls 8 (some .int) 5 105) (E : zPost X (poI out.1 out.2)) (k26 : zH → Nat → Int32 → Nat → Int32 → Int32 → Int32 → Option (Int32 × zH)) (hk26 : ∀ (G : zH) (r0 : Nat) (x1 : Int32) (r2 : Nat) (x3 : Int32) (x4 : Int32) (x5 : Int32), k26 G r0 x1 r2 x3 x4 x5 = some out → zZ X 26 [(0, .ref r0), (1, .int x1), (2, .ref r2), (3, .int x3), (4, .int x4), (5, .int x5)] [] G) (G : zH) (r0 : Nat) (x1 : Int32) (r2 : Nat) (x3 : Int32) (x4 : Int32) (x6 : Int32) (h : fX6_rows_b86 k26 G r0 x1 r2 x3 x4 x6 = some out) : zZ X 86 [(0, .ref r0), (1, .int x1), (2, .ref r2), (3, .int x3), (4, .int x4), (6, .int x6)] [] G := by
  rw [fX6_rows_b86] at h
  refine z_iconst (pc := 86) C dX6_rows_86 (v := (1 : Int32)) (by decide) ?_
  refine z_goto (pc := 87) C dX6_rows_87 (tgt := 91) (by decide) ?_
  exact z_subL [0, 1, 2, 3, 4, 5] (wfX6_rows_b91 C E k26 hk26 G r0 x1 r2 x3 x4 x6 (1 : Int32) h) rfl
def fX6_rows_b26 : Nat → zH → Nat → Int32 → Nat → Int32 → Int32 → Int32 → Option (Int32 × zH)
  | 0, _, _, _, _, _, _, _ => none
  | n + 1, G, r0, x1, r2, x3, x4, x5 =>
    ob1 (fi G r2 3 2) fun v1 =>
    if v1 < x5 then (fX6_rows_b112 G r0 x3 x4) else
    ob1 (isO G r2 3) fun u3 =>
    ob1 (fX3_rowEnd G r2 x5 x1) fun v5 =>
    zlet (x3 + (1 : Int32)) fun y6 =>
    zlet ((if x4 < (v5 - x5) then (v5 - x5) else x4)) fun y7 =>
    if v5 = x5 then (fX6_rows_b86 (fX6_rows_b26 n) G r0 x1 r2 y6 y7 v5) else
    ob1 (fi G r2 3 2) fun v9 =>
    if v5 = v9 then (fX6_rows_b86 (fX6_rows_b26 n) G r0 x1 r2 y6 y7 v5) else
    ob1 (isO G r2 3) fun u11 =>
    ob1 (fX3_signAt G r2 v5) fun v13 =>
    if v13 = (10 : Int32) then (fX6_rows_b86 (fX6_rows_b26 n) G r0 x1 r2 y6 y7 v5) else
    fX6_rows_b91 (fX6_rows_b26 n) G r0 x1 r2 y6 y7 v5 (0 : Int32)
set_option maxRecDepth 100000 in
set_option maxHeartbeats 4000000 in
theorem wfX6_rows_b26 {X : zX} {out : Int32 × zH} (C : zOK X cX6_rows yX6_rows.cls 8 (some .int) 5 105) (E : zPost X (poI out.1 out.2)) : ∀ (n : Nat) (G : zH) (r0 : Nat) (x1 : Int32) (r2 : Nat) (x3 : Int32) (x4 : Int32) (x5 : Int32) (h : fX6_rows_b26 n G r0 x1 r2 x3 x4 x5 = some out), zZ X 26 [(0, .ref r0), (1, .int x1), (2, .ref r2), (3, .int x3), (4, .int x4), (5, .int x5)] [] G := by
  intro n
  induction n with
  | zero => intro G r0 x1 r2 x3 x4 x5 h; cases h
  | succ n ih =>
    intro G r0 x1 r2 x3 x4 x5 h
    rw [fX6_rows_b26] at h
    refine z_iload (pc := 26) C 5 dX6_rows_26 rfl ?_
    refine z_aload_n (pc := 28) C 2 dX6_rows_28 rfl rfl ?_
    obtain ⟨v1, ev1, h⟩ := ob1_eq h
    refine z_fi (pc := 29) C dX6_rows_29 fl_X6_181 ev1 ?_
    refine z_ic_gt (pc := 32) C dX6_rows_32 (tgt := 112) (by decide) (fun c2 => ?_) (fun c2 => ?_)
    · rw [if_pos c2] at h
      exact z_subL [0, 3, 4] (wfX6_rows_b112 C E G r0 x3 x4 h) rfl
    · rw [if_neg c2] at h
      refine z_aload_n (pc := 35) C 2 dX6_rows_35 rfl rfl ?_
      refine z_iload (pc := 36) C 5 dX6_rows_36 rfl ?_
      refine z_iload_n (pc := 38) C 1 dX6_rows_38 rfl rfl ?_
      obtain ⟨u3, eu3, h⟩ := ob1_eq h
      obtain ⟨w4, ew4⟩ := isO_eq eu3
      obtain ⟨v5, ev5, h⟩ := ob1_eq h
      refine z_callVi (h := r2) (As := [.int x5, .int x1]) (rest := []) (pc := 39) C dX6_rows_39 ml_X6_318 (kX3_rowEnd _ _ _ _ G r2 x5 x1 v5 ev5) ew4 rfl rfl rfl (Nat.le_of_ble_eq_true rfl) (by decide) ?_
      refine z_istore (pc := 42) C dX6_rows_42 (by decide) (show zput _ _ _ = [(6, .int v5), (0, .ref r0), (1, .int x1), (2, .ref r2), (3, .int x3), (4, .int x4), (5, .int x5)] from rfl) ?_
      obtain ⟨y6, ey6, h⟩ := zlet_eq h
      refine z_iinc (pc := 44) (v := y6) C 4 dX6_rows_44 rfl (by rw [ey6]; rfl) (by decide) (show zput _ _ _ = [(3, .int y6), (6, .int v5), (0, .ref r0), (1, .int x1), (2, .ref r2), (4, .int x4), (5, .int x5)] from rfl) ?_
      refine z_iload (pc := 47) C 5 dX6_rows_47 rfl ?_
      refine z_iload (pc := 49) C 1 dX6_rows_49 rfl ?_
      refine z_iload (pc := 51) C 6 dX6_rows_51 rfl ?_
      refine z_isub (pc := 53) C dX6_rows_53 ?_
      refine z_mmax (pc := 54) C dX6_rows_54 ml_X6_212 w_max1 w_math w_max2 (Nat.le_of_ble_eq_true rfl) (by decide) ?_
      obtain ⟨y7, ey7, h⟩ := zlet_eq h
      refine z_topi ey7 ?_
      refine z_istore (pc := 57) C dX6_rows_57 (by decide) (show zput _ _ _ = [(4, .int y7), (3, .int y6), (6, .int v5), (0, .ref r0), (1, .int x1), (2, .ref r2), (5, .int x5)] from rfl) ?_
      refine z_iload (pc := 59) C 2 dX6_rows_59 rfl ?_
      refine z_iload (pc := 61) C 6 dX6_rows_61 rfl ?_
      refine z_ic_eq (pc := 63) C dX6_rows_63 (tgt := 86) (by decide) (fun c8 => ?_) (fun c8 => ?_)
      · rw [if_pos c8] at h
        exact z_subL [3, 4, 5, 1, 0, 2] (wfX6_rows_b86 C E (fX6_rows_b26 n) ih G r0 x1 r2 y6 y7 v5 h) rfl
      · rw [if_neg c8] at h
        refine z_iload (pc := 66) C 2 dX6_rows_66 rfl ?_
        refine z_aload_n (pc := 68) C 5 dX6_rows_68 rfl rfl ?_
        obtain ⟨v9, ev9, h⟩ := ob1_eq h
        refine z_fi (pc := 69) C dX6_rows_69 fl_X6_181 ev9 ?_
        refine z_ic_eq (pc := 72) C dX6_rows_72 (tgt := 86) (by decide) (fun c10 => ?_) (fun c10 => ?_)
        · rw [if_pos c10] at h
          exact z_subL [3, 4, 5, 1, 0, 2] (wfX6_rows_b86 C E (fX6_rows_b26 n) ih G r0 x1 r2 y6 y7 v5 h) rfl
        · rw [if_neg c10] at h
          refine z_aload_n (pc := 75) C 5 dX6_rows_75 rfl rfl ?_
          refine z_iload (pc := 76) C 2 dX6_rows_76 rfl ?_
          obtain ⟨u11, eu11, h⟩ := ob1_eq h
          obtain ⟨w12, ew12⟩ := isO_eq eu11
          obtain ⟨v13, ev13, h⟩ := ob1_eq h
          refine z_callVi (h := r2) (As := [.int v5]) (rest := []) (pc := 78) C dX6_rows_78 ml_X6_236 (kX3_signAt _ _ _ _ G r2 v5 v13 ev13) ew12 rfl rfl rfl (Nat.le_of_ble_eq_true rfl) (by decide) ?_
          refine z_bipush (pc := 81) C dX6_rows_81 (v := (10 : Int32)) (by decide) ?_
          refine z_ic_ne (pc := 83) C dX6_rows_83 (tgt := 90) (by decide) (fun c14 => ?_) (fun c14 => ?_)
          · rw [if_neg c14] at h
            refine z_iconst (pc := 90) C dX6_rows_90 (v := (0 : Int32)) (by decide) ?_
            exact z_subL [3, 4, 5, 1, 0, 2] (wfX6_rows_b91 C E (fX6_rows_b26 n) ih G r0 x1 r2 y6 y7 v5 (0 : Int32) h) rfl
          · rw [if_pos c14] at h
            exact z_subL [3, 4, 5, 1, 0, 2] (wfX6_rows_b86 C E (fX6_rows_b26 n) ih G r0 x1 r2 y6 y7 v5 h) rfl
def fX6_rows (G : zH) (r0 : Nat) (x1 : Int32) : Option (Int32 × zH) :=
    if x1 < (1 : Int32) then (some ((-1 : Int32), G)) else
    if x1 ≤ (80 : Int32) then (ob1 (isO G r0 6) fun u3 =>
    ob2 (fX6_shownPage G r0 ) fun qv6 G5 =>
    fX6_rows_b26 FU G5 r0 x1 qv6 (0 : Int32) (0 : Int32) (0 : Int32)) else
    some ((-1 : Int32), G)
set_option maxRecDepth 100000 in
set_option maxHeartbeats 4000000 in
theorem wfX6_rows {X : zX} {out : Int32 × zH} (C : zOK X cX6_rows yX6_rows.cls 8 (some .int) 5 105) (E : zPost X (poI out.1 out.2)) (G : zH) (r0 : Nat) (x1 : Int32) (h : fX6_rows G r0 x1 = some out) : zZ X 0 [(0, .ref r0), (1, .int x1)] [] G := by
  rw [fX6_rows] at h
  refine z_iload_n (pc := 0) C 1 dX6_rows_0 rfl rfl ?_
  refine z_iconst (pc := 1) C dX6_rows_1 (v := (1 : Int32)) (by decide) ?_
  refine z_ic_lt (pc := 2) C dX6_rows_2 (tgt := 11) (by decide) (fun c1 => ?_) (fun c1 => ?_)
  · rw [if_pos c1] at h
    refine z_iconst (pc := 11) C dX6_rows_11 (v := (-1 : Int32)) (by decide) ?_
    obtain rfl := Option.some.inj h
    exact z_iret (pc := 12) C E dX6_rows_12 ⟨rfl, rfl⟩
  · rw [if_neg c1] at h
    refine z_iload_n (pc := 5) C 1 dX6_rows_5 rfl rfl ?_
    refine z_bipush (pc := 6) C dX6_rows_6 (v := (80 : Int32)) (by decide) ?_
    refine z_ic_le (pc := 8) C dX6_rows_8 (tgt := 13) (by decide) (fun c2 => ?_) (fun c2 => ?_)
    · rw [if_pos c2] at h
      refine z_aload_n (pc := 13) C 0 dX6_rows_13 rfl rfl ?_
      obtain ⟨u3, eu3, h⟩ := ob1_eq h
      obtain ⟨w4, ew4⟩ := isO_eq eu3
      obtain ⟨qv6, G5, eqv6, h⟩ := ob2_eq h
      refine z_callVr (h := r0) (As := []) (rest := []) (pc := 14) C dX6_rows_14 ml_X6_160 (kX6_shownPage _ _ _ _ G r0  (qv6, G5) eqv6) ew4 rfl rfl rfl (Nat.le_of_ble_eq_true rfl) (by decide) ?_
      refine z_astore_n (pc := 17) C dX6_rows_17 rfl (by decide) (show zput _ _ _ = [(2, .ref qv6), (0, .ref r0), (1, .int x1)] from rfl) ?_
      refine z_iconst (pc := 18) C dX6_rows_18 (v := (0 : Int32)) (by decide) ?_
      refine z_istore_n (pc := 19) C dX6_rows_19 rfl (by decide) (show zput _ _ _ = [(3, .int (0 : Int32)), (2, .ref qv6), (0, .ref r0), (1, .int x1)] from rfl) ?_
      refine z_iconst (pc := 20) C dX6_rows_20 (v := (0 : Int32)) (by decide) ?_
      refine z_istore (pc := 21) C dX6_rows_21 (by decide) (show zput _ _ _ = [(4, .int (0 : Int32)), (3, .int (0 : Int32)), (2, .ref qv6), (0, .ref r0), (1, .int x1)] from rfl) ?_
      refine z_iconst (pc := 23) C dX6_rows_23 (v := (0 : Int32)) (by decide) ?_
      refine z_istore (pc := 24) C dX6_rows_24 (by decide) (show zput _ _ _ = [(5, .int (0 : Int32)), (4, .int (0 : Int32)), (3, .int (0 : Int32)), (2, .ref qv6), (0, .ref r0), (1, .int x1)] from rfl) ?_
      exact z_subL [4, 5, 3, 2, 1, 0] (wfX6_rows_b26 C E FU G5 r0 x1 qv6 (0 : Int32) (0 : Int32) (0 : Int32) h) rfl
    · rw [if_neg c2] at h
      refine z_iconst (pc := 11) C dX6_rows_11 (v := (-1 : Int32)) (by decide) ?_
      obtain rfl := Option.some.inj h
      exact z_iret (pc := 12) C E dX6_rows_12 ⟨rfl, rfl⟩
theorem kX6_rows (l : Launch) (D : va_G) (cA : Nat → ClassId) (b : Nat) (G : zH) (r0 : Nat) (x1 : Int32) (out : Int32 × zH) (h : fX6_rows G r0 x1 = some out) : zM l D cA b yX6_rows cX6_rows 8 (some .int) 5 105 [.ref r0, .int x1] G (poI out.1 out.2) := z_entry rfl (Nat.le_of_ble_eq_true rfl) (fun X C E _ _ _ => wfX6_rows C E G r0 x1 h)
def fX6_tally_b70 (G : zH) (r0 : Nat) (x3 : Int32) (x4 : Int32) (x5 : Int32) : Option (Int32 × zH) :=
    ob1 (frf G r0 6 2) fun qv1 =>
    ob1 (isO G qv1 5) fun u2 =>
    ob1 (fX5_clear G qv1 ) fun G4 =>
    if x3 ≤ 0 then (some (x3, G4)) else
    ob1 (frf G4 r0 6 2) fun qv6 =>
    ob1 (isO G4 qv6 5) fun u7 =>
    ob1 (fX5_tell_ G4 qv6 x4.toInt64 x5.toInt64) fun G9 =>
    some (x3, G9)
set_option maxRecDepth 100000 in
set_option maxHeartbeats 4000000 in
theorem wfX6_tally_b70 {X : zX} {out : Int32 × zH} (C : zOK X cX6_tally yX6_tally.cls 7 (some .int) 5 105) (E : zPost X (poI out.1 out.2)) (G : zH) (r0 : Nat) (x3 : Int32) (x4 : Int32) (x5 : Int32) (h : fX6_tally_b70 G r0 x3 x4 x5 = some out) : zZ X 70 [(0, .ref r0), (3, .int x3), (4, .int x4), (5, .int x5)] [] G := by
  rw [fX6_tally_b70] at h
  refine z_aload_n (pc := 70) C 0 dX6_tally_70 rfl rfl ?_
  obtain ⟨qv1, eqv1, h⟩ := ob1_eq h
  refine z_fr (pc := 71) C dX6_tally_71 fl_X6_16 eqv1 ?_
  obtain ⟨u2, eu2, h⟩ := ob1_eq h
  obtain ⟨w3, ew3⟩ := isO_eq eu2
  obtain ⟨G4, eG4, h⟩ := ob1_eq h
  refine z_callVv (h := qv1) (As := []) (rest := []) (pc := 74) C dX6_tally_74 ml_X6_242 (kX5_clear _ _ _ _ G qv1  G4 eG4) ew3 rfl rfl rfl (Nat.le_of_ble_eq_true rfl) (by decide) ?_
  refine z_iload_n (pc := 77) C 1 dX6_tally_77 rfl rfl ?_
  refine z_if_le (pc := 78) C dX6_tally_78 (tgt := 94) (by decide) (fun c5 => ?_) (fun c5 => ?_)
  · rw [if_pos c5] at h
    refine z_iload_n (pc := 94) C 1 dX6_tally_94 rfl rfl ?_
    obtain rfl := Option.some.inj h
    exact z_iret (pc := 95) C E dX6_tally_95 ⟨rfl, rfl⟩
  · rw [if_neg c5] at h
    refine z_aload_n (pc := 81) C 0 dX6_tally_81 rfl rfl ?_
    obtain ⟨qv6, eqv6, h⟩ := ob1_eq h
    refine z_fr (pc := 82) C dX6_tally_82 fl_X6_16 eqv6 ?_
    refine z_iload (pc := 85) C 2 dX6_tally_85 rfl ?_
    refine z_i2l (pc := 87) C dX6_tally_87 ?_
    refine z_iload (pc := 88) C 3 dX6_tally_88 rfl ?_
    refine z_i2l (pc := 90) C dX6_tally_90 ?_
    obtain ⟨u7, eu7, h⟩ := ob1_eq h
    obtain ⟨w8, ew8⟩ := isO_eq eu7
    obtain ⟨G9, eG9, h⟩ := ob1_eq h
    refine z_callVv (h := qv6) (As := [.long x4.toInt64, .long x5.toInt64]) (rest := []) (pc := 91) C dX6_tally_91 ml_X6_217 (kX5_tell_ _ _ _ _ G4 qv6 x4.toInt64 x5.toInt64 G9 eG9) ew8 rfl rfl rfl (Nat.le_of_ble_eq_true rfl) (by decide) ?_
    refine z_iload_n (pc := 94) C 1 dX6_tally_94 rfl rfl ?_
    obtain rfl := Option.some.inj h
    exact z_iret (pc := 95) C E dX6_tally_95 ⟨rfl, rfl⟩
def fX6_tally_b64 (k25 : zH → Nat → Int32 → Nat → Int32 → Int32 → Int32 → Int32 → Option (Int32 × zH)) (G : zH) (r0 : Nat) (x1 : Int32) (r2 : Nat) (x3 : Int32) (x4 : Int32) (x5 : Int32) (x6 : Int32) : Option (Int32 × zH) :=
    zlet (x6 + (1 : Int32)) fun y1 =>
    k25 G r0 x1 r2 x3 x4 x5 y1
set_option maxRecDepth 100000 in
set_option maxHeartbeats 4000000 in
theorem wfX6_tally_b64 {X : zX} {out : Int32 × zH} (C : zOK X cX6_tally yX6_tally.cls 7 (some .int) 5 105) (E : zPost X (poI out.1 out.2)) (k25 : zH → Nat → Int32 → Nat → Int32 → Int32 → Int32 → Int32 → Option (Int32 × zH)) (hk25 : ∀ (G : zH) (r0 : Nat) (x1 : Int32) (r2 : Nat) (x3 : Int32) (x4 : Int32) (x5 : Int32) (x6 : Int32), k25 G r0 x1 r2 x3 x4 x5 x6 = some out → zZ X 25 [(0, .ref r0), (1, .int x1), (2, .ref r2), (3, .int x3), (4, .int x4), (5, .int x5), (6, .int x6)] [] G) (G : zH) (r0 : Nat) (x1 : Int32) (r2 : Nat) (x3 : Int32) (x4 : Int32) (x5 : Int32) (x6 : Int32) (h : fX6_tally_b64 k25 G r0 x1 r2 x3 x4 x5 x6 = some out) : zZ X 64 [(0, .ref r0), (1, .int x1), (2, .ref r2), (3, .int x3), (4, .int x4), (5, .int x5), (6, .int x6)] [] G := by
  rw [fX6_tally_b64] at h
  obtain ⟨y1, ey1, h⟩ := zlet_eq h
  refine z_iinc (pc := 64) (v := y1) C 6 dX6_tally_64 rfl (by rw [ey1]; rfl) (by decide) (show zput _ _ _ = [(6, .int y1), (0, .ref r0), (1, .int x1), (2, .ref r2), (3, .int x3), (4, .int x4), (5, .int x5)] from rfl) ?_
  refine z_goto (pc := 67) C dX6_tally_67 (tgt := 25) (by decide) ?_
  exact z_subL [1, 2, 3, 4, 5, 6, 0] (hk25 G r0 x1 r2 x3 x4 x5 y1 h) rfl
def fX6_tally_b55 (k25 : zH → Nat → Int32 → Nat → Int32 → Int32 → Int32 → Int32 → Option (Int32 × zH)) (G : zH) (r0 : Nat) (x1 : Int32) (r2 : Nat) (x3 : Int32) (x6 : Int32) (s0 : Int32) : Option (Int32 × zH) :=
    zlet (x3 + (1 : Int32)) fun y1 =>
    fX6_tally_b64 k25 G r0 x1 r2 y1 s0 x6 x6
set_option maxRecDepth 100000 in
set_option maxHeartbeats 4000000 in
theorem wfX6_tally_b55 {X : zX} {out : Int32 × zH} (C : zOK X cX6_tally yX6_tally.cls 7 (some .int) 5 105) (E : zPost X (poI out.1 out.2)) (k25 : zH → Nat → Int32 → Nat → Int32 → Int32 → Int32 → Int32 → Option (Int32 × zH)) (hk25 : ∀ (G : zH) (r0 : Nat) (x1 : Int32) (r2 : Nat) (x3 : Int32) (x4 : Int32) (x5 : Int32) (x6 : Int32), k25 G r0 x1 r2 x3 x4 x5 x6 = some out → zZ X 25 [(0, .ref r0), (1, .int x1), (2, .ref r2), (3, .int x3), (4, .int x4), (5, .int x5), (6, .int x6)] [] G) (G : zH) (r0 : Nat) (x1 : Int32) (r2 : Nat) (x3 : Int32) (x6 : Int32) (s0 : Int32) (h : fX6_tally_b55 k25 G r0 x1 r2 x3 x6 s0 = some out) : zZ X 55 [(0, .ref r0), (1, .int x1), (2, .ref r2), (3, .int x3), (6, .int x6)] [.int s0] G := by
  rw [fX6_tally_b55] at h
  refine z_istore (pc := 55) C dX6_tally_55 (by decide) (show zput _ _ _ = [(4, .int s0), (0, .ref r0), (1, .int x1), (2, .ref r2), (3, .int x3), (6, .int x6)] from rfl) ?_
  refine z_iload (pc := 57) C 5 dX6_tally_57 rfl ?_
  refine z_istore (pc := 59) C dX6_tally_59 (by decide) (show zput _ _ _ = [(5, .int x6), (4, .int s0), (0, .ref r0), (1, .int x1), (2, .ref r2), (3, .int x3), (6, .int x6)] from rfl) ?_
  obtain ⟨y1, ey1, h⟩ := zlet_eq h
  refine z_iinc (pc := 61) (v := y1) C 5 dX6_tally_61 rfl (by rw [ey1]; rfl) (by decide) (show zput _ _ _ = [(3, .int y1), (5, .int x6), (4, .int s0), (0, .ref r0), (1, .int x1), (2, .ref r2), (6, .int x6)] from rfl) ?_
  exact z_subL [3, 4, 5, 0, 2, 1, 6] (wfX6_tally_b64 C E k25 hk25 G r0 x1 r2 y1 s0 x6 x6 h) rfl
def fX6_tally_b25 : Nat → zH → Nat → Int32 → Nat → Int32 → Int32 → Int32 → Int32 → Option (Int32 × zH)
  | 0, _, _, _, _, _, _, _, _ => none
  | n + 1, G, r0, x1, r2, x3, x4, x5, x6 =>
    ob1 (fi G r2 3 2) fun v1 =>
    if v1 ≤ x6 then (fX6_tally_b70 G r0 x3 x4 x5) else
    ob1 (isO G r2 3) fun u3 =>
    ob1 (fX3_signAt G r2 x6) fun v5 =>
    if v5 = x1 then (if x3 = 0 then (fX6_tally_b55 (fX6_tally_b25 n) G r0 x1 r2 x3 x6 x6) else
    fX6_tally_b55 (fX6_tally_b25 n) G r0 x1 r2 x3 x6 x4) else
    fX6_tally_b64 (fX6_tally_b25 n) G r0 x1 r2 x3 x4 x5 x6
set_option maxRecDepth 100000 in
set_option maxHeartbeats 4000000 in
theorem wfX6_tally_b25 {X : zX} {out : Int32 × zH} (C : zOK X cX6_tally yX6_tally.cls 7 (some .int) 5 105) (E : zPost X (poI out.1 out.2)) : ∀ (n : Nat) (G : zH) (r0 : Nat) (x1 : Int32) (r2 : Nat) (x3 : Int32) (x4 : Int32) (x5 : Int32) (x6 : Int32) (h : fX6_tally_b25 n G r0 x1 r2 x3 x4 x5 x6 = some out), zZ X 25 [(0, .ref r0), (1, .int x1), (2, .ref r2), (3, .int x3), (4, .int x4), (5, .int x5), (6, .int x6)] [] G := by
  intro n
  induction n with
  | zero => intro G r0 x1 r2 x3 x4 x5 x6 h; cases h
  | succ n ih =>
    intro G r0 x1 r2 x3 x4 x5 x6 h
    rw [fX6_tally_b25] at h
    refine z_iload (pc := 25) C 6 dX6_tally_25 rfl ?_
    refine z_aload_n (pc := 27) C 2 dX6_tally_27 rfl rfl ?_
    obtain ⟨v1, ev1, h⟩ := ob1_eq h
    refine z_fi (pc := 28) C dX6_tally_28 fl_X6_181 ev1 ?_
    refine z_ic_ge (pc := 31) C dX6_tally_31 (tgt := 70) (by decide) (fun c2 => ?_) (fun c2 => ?_)
    · rw [if_pos c2] at h
      exact z_subL [0, 3, 4, 5] (wfX6_tally_b70 C E G r0 x3 x4 x5 h) rfl
    · rw [if_neg c2] at h
      refine z_aload_n (pc := 34) C 2 dX6_tally_34 rfl rfl ?_
      refine z_iload (pc := 35) C 6 dX6_tally_35 rfl ?_
      obtain ⟨u3, eu3, h⟩ := ob1_eq h
      obtain ⟨w4, ew4⟩ := isO_eq eu3
      obtain ⟨v5, ev5, h⟩ := ob1_eq h
      refine z_callVi (h := r2) (As := [.int x6]) (rest := []) (pc := 37) C dX6_tally_37 ml_X6_236 (kX3_signAt _ _ _ _ G r2 x6 v5 ev5) ew4 rfl rfl rfl (Nat.le_of_ble_eq_true rfl) (by decide) ?_
      refine z_iload_n (pc := 40) C 1 dX6_tally_40 rfl rfl ?_
      refine z_ic_ne (pc := 41) C dX6_tally_41 (tgt := 64) (by decide) (fun c6 => ?_) (fun c6 => ?_)
      · rw [if_neg c6] at h
        exact z_subL [0, 1, 2, 3, 4, 5, 6] (wfX6_tally_b64 C E (fX6_tally_b25 n) ih G r0 x1 r2 x3 x4 x5 x6 h) rfl
      · rw [if_pos c6] at h
        refine z_iload_n (pc := 44) C 3 dX6_tally_44 rfl rfl ?_
        refine z_if_ne (pc := 45) C dX6_tally_45 (tgt := 53) (by decide) (fun c7 => ?_) (fun c7 => ?_)
        · rw [if_neg c7] at h
          refine z_iload (pc := 53) C 4 dX6_tally_53 rfl ?_
          exact z_subL [0, 1, 2, 3, 6] (wfX6_tally_b55 C E (fX6_tally_b25 n) ih G r0 x1 r2 x3 x6 x4 h) rfl
        · rw [if_pos c7] at h
          refine z_iload (pc := 48) C 6 dX6_tally_48 rfl ?_
          refine z_goto (pc := 50) C dX6_tally_50 (tgt := 55) (by decide) ?_
          exact z_subL [0, 1, 2, 3, 6] (wfX6_tally_b55 C E (fX6_tally_b25 n) ih G r0 x1 r2 x3 x6 x6 h) rfl
def fX6_tally (G : zH) (r0 : Nat) (x1 : Int32) : Option (Int32 × zH) :=
    ob1 (fX6_isSign x1) fun v1 =>
    if v1 = 0 then (some ((-1 : Int32), G)) else
    ob1 (isO G r0 6) fun u3 =>
    ob2 (fX6_shownPage G r0 ) fun qv6 G5 =>
    fX6_tally_b25 FU G5 r0 x1 qv6 (0 : Int32) (0 : Int32) (0 : Int32) (0 : Int32)
set_option maxRecDepth 100000 in
set_option maxHeartbeats 4000000 in
theorem wfX6_tally {X : zX} {out : Int32 × zH} (C : zOK X cX6_tally yX6_tally.cls 7 (some .int) 5 105) (E : zPost X (poI out.1 out.2)) (G : zH) (r0 : Nat) (x1 : Int32) (h : fX6_tally G r0 x1 = some out) : zZ X 0 [(0, .ref r0), (1, .int x1)] [] G := by
  rw [fX6_tally] at h
  refine z_iload_n (pc := 0) C 1 dX6_tally_0 rfl rfl ?_
  obtain ⟨v1, ev1, h⟩ := ob1_eq h
  refine z_callSi (As := [.int x1]) (rest := []) (pc := 1) C dX6_tally_1 ml_X6_131 (kX6_isSign _ _ _ _ G x1 _ ev1) rfl rfl (Nat.le_of_ble_eq_true rfl) (by decide) ?_
  refine z_if_ne (pc := 4) C dX6_tally_4 (tgt := 9) (by decide) (fun c2 => ?_) (fun c2 => ?_)
  · rw [if_neg c2] at h
    refine z_aload_n (pc := 9) C 0 dX6_tally_9 rfl rfl ?_
    obtain ⟨u3, eu3, h⟩ := ob1_eq h
    obtain ⟨w4, ew4⟩ := isO_eq eu3
    obtain ⟨qv6, G5, eqv6, h⟩ := ob2_eq h
    refine z_callVr (h := r0) (As := []) (rest := []) (pc := 10) C dX6_tally_10 ml_X6_160 (kX6_shownPage _ _ _ _ G r0  (qv6, G5) eqv6) ew4 rfl rfl rfl (Nat.le_of_ble_eq_true rfl) (by decide) ?_
    refine z_astore_n (pc := 13) C dX6_tally_13 rfl (by decide) (show zput _ _ _ = [(2, .ref qv6), (0, .ref r0), (1, .int x1)] from rfl) ?_
    refine z_iconst (pc := 14) C dX6_tally_14 (v := (0 : Int32)) (by decide) ?_
    refine z_istore_n (pc := 15) C dX6_tally_15 rfl (by decide) (show zput _ _ _ = [(3, .int (0 : Int32)), (2, .ref qv6), (0, .ref r0), (1, .int x1)] from rfl) ?_
    refine z_iconst (pc := 16) C dX6_tally_16 (v := (0 : Int32)) (by decide) ?_
    refine z_istore (pc := 17) C dX6_tally_17 (by decide) (show zput _ _ _ = [(4, .int (0 : Int32)), (3, .int (0 : Int32)), (2, .ref qv6), (0, .ref r0), (1, .int x1)] from rfl) ?_
    refine z_iconst (pc := 19) C dX6_tally_19 (v := (0 : Int32)) (by decide) ?_
    refine z_istore (pc := 20) C dX6_tally_20 (by decide) (show zput _ _ _ = [(5, .int (0 : Int32)), (4, .int (0 : Int32)), (3, .int (0 : Int32)), (2, .ref qv6), (0, .ref r0), (1, .int x1)] from rfl) ?_
    refine z_iconst (pc := 22) C dX6_tally_22 (v := (0 : Int32)) (by decide) ?_
    refine z_istore (pc := 23) C dX6_tally_23 (by decide) (show zput _ _ _ = [(6, .int (0 : Int32)), (5, .int (0 : Int32)), (4, .int (0 : Int32)), (3, .int (0 : Int32)), (2, .ref qv6), (0, .ref r0), (1, .int x1)] from rfl) ?_
    exact z_subL [5, 6, 4, 3, 2, 1, 0] (wfX6_tally_b25 C E FU G5 r0 x1 qv6 (0 : Int32) (0 : Int32) (0 : Int32) (0 : Int32) h) rfl
  · rw [if_pos c2] at h
    refine z_iconst (pc := 7) C dX6_tally_7 (v := (-1 : Int32)) (by decide) ?_
    obtain rfl := Option.some.inj h
    exact z_iret (pc := 8) C E dX6_tally_8 ⟨rfl, rfl⟩
theorem kX6_tally (l : Launch) (D : va_G) (cA : Nat → ClassId) (b : Nat) (G : zH) (r0 : Nat) (x1 : Int32) (out : Int32 × zH) (h : fX6_tally G r0 x1 = some out) : zM l D cA b yX6_tally cX6_tally 7 (some .int) 5 105 [.ref r0, .int x1] G (poI out.1 out.2) := z_entry rfl (Nat.le_of_ble_eq_true rfl) (fun X C E _ _ _ => wfX6_tally C E G r0 x1 h)
def fX6_alike_b73 (G : zH) (r0 : Nat) (x1 : Int32) (x2 : Int32) (r3 : Nat) (x4 : Int32) : Option (Int32 × zH) :=
    ob1 (frf G r0 6 2) fun qv1 =>
    ob1 (isO G r3 3) fun u2 =>
    ob1 (fX3_signAt G r3 (x1 + x4)) fun v4 =>
    ob1 (isO G r3 3) fun u5 =>
    ob1 (fX3_signAt G r3 (x2 + x4)) fun v7 =>
    ob1 (isO G qv1 5) fun u8 =>
    ob1 (fX5_tell_ G qv1 v4.toInt64 v7.toInt64) fun G10 =>
    some (x4, G10)
set_option maxRecDepth 100000 in
set_option maxHeartbeats 4000000 in
theorem wfX6_alike_b73 {X : zX} {out : Int32 × zH} (C : zOK X cX6_alike yX6_alike.cls 5 (some .int) 5 106) (E : zPost X (poI out.1 out.2)) (G : zH) (r0 : Nat) (x1 : Int32) (x2 : Int32) (r3 : Nat) (x4 : Int32) (h : fX6_alike_b73 G r0 x1 x2 r3 x4 = some out) : zZ X 73 [(0, .ref r0), (1, .int x1), (2, .int x2), (3, .ref r3), (4, .int x4)] [] G := by
  rw [fX6_alike_b73] at h
  refine z_aload_n (pc := 73) C 0 dX6_alike_73 rfl rfl ?_
  obtain ⟨qv1, eqv1, h⟩ := ob1_eq h
  refine z_fr (pc := 74) C dX6_alike_74 fl_X6_16 eqv1 ?_
  refine z_aload_n (pc := 77) C 3 dX6_alike_77 rfl rfl ?_
  refine z_iload_n (pc := 78) C 1 dX6_alike_78 rfl rfl ?_
  refine z_iload (pc := 79) C 4 dX6_alike_79 rfl ?_
  refine z_iadd (pc := 81) C dX6_alike_81 ?_
  obtain ⟨u2, eu2, h⟩ := ob1_eq h
  obtain ⟨w3, ew3⟩ := isO_eq eu2
  obtain ⟨v4, ev4, h⟩ := ob1_eq h
  refine z_callVi (h := r3) (As := [.int (x1 + x4)]) (rest := [.ref qv1]) (pc := 82) C dX6_alike_82 ml_X6_236 (kX3_signAt _ _ _ _ G r3 (x1 + x4) v4 ev4) ew3 rfl rfl rfl (Nat.le_of_ble_eq_true rfl) (by decide) ?_
  refine z_i2l (pc := 85) C dX6_alike_85 ?_
  refine z_aload_n (pc := 86) C 3 dX6_alike_86 rfl rfl ?_
  refine z_iload_n (pc := 87) C 2 dX6_alike_87 rfl rfl ?_
  refine z_iload (pc := 88) C 4 dX6_alike_88 rfl ?_
  refine z_iadd (pc := 90) C dX6_alike_90 ?_
  obtain ⟨u5, eu5, h⟩ := ob1_eq h
  obtain ⟨w6, ew6⟩ := isO_eq eu5
  obtain ⟨v7, ev7, h⟩ := ob1_eq h
  refine z_callVi (h := r3) (As := [.int (x2 + x4)]) (rest := [.long v4.toInt64, .ref qv1]) (pc := 91) C dX6_alike_91 ml_X6_236 (kX3_signAt _ _ _ _ G r3 (x2 + x4) v7 ev7) ew6 rfl rfl rfl (Nat.le_of_ble_eq_true rfl) (by decide) ?_
  refine z_i2l (pc := 94) C dX6_alike_94 ?_
  obtain ⟨u8, eu8, h⟩ := ob1_eq h
  obtain ⟨w9, ew9⟩ := isO_eq eu8
  obtain ⟨G10, eG10, h⟩ := ob1_eq h
  refine z_callVv (h := qv1) (As := [.long v4.toInt64, .long v7.toInt64]) (rest := []) (pc := 95) C dX6_alike_95 ml_X6_217 (kX5_tell_ _ _ _ _ G qv1 v4.toInt64 v7.toInt64 G10 eG10) ew9 rfl rfl rfl (Nat.le_of_ble_eq_true rfl) (by decide) ?_
  refine z_iload (pc := 98) C 4 dX6_alike_98 rfl ?_
  obtain rfl := Option.some.inj h
  exact z_iret (pc := 100) C E dX6_alike_100 ⟨rfl, rfl⟩
def fX6_alike_b26 : Nat → zH → Nat → Int32 → Int32 → Nat → Int32 → Option (Int32 × zH)
  | 0, _, _, _, _, _, _ => none
  | n + 1, G, r0, x1, x2, r3, x4 =>
    ob1 (isO G r3 3) fun u1 =>
    ob1 (fX3_has G r3 (x1 + x4)) fun v3 =>
    if v3 = 0 then (fX6_alike_b73 G r0 x1 x2 r3 x4) else
    ob1 (isO G r3 3) fun u5 =>
    ob1 (fX3_has G r3 (x2 + x4)) fun v7 =>
    if v7 = 0 then (fX6_alike_b73 G r0 x1 x2 r3 x4) else
    ob1 (isO G r3 3) fun u9 =>
    ob1 (fX3_signAt G r3 (x1 + x4)) fun v11 =>
    ob1 (isO G r3 3) fun u12 =>
    ob1 (fX3_signAt G r3 (x2 + x4)) fun v14 =>
    if v11 = v14 then (zlet (x4 + (1 : Int32)) fun y16 =>
    (fX6_alike_b26 n) G r0 x1 x2 r3 y16) else
    fX6_alike_b73 G r0 x1 x2 r3 x4
set_option maxRecDepth 100000 in
set_option maxHeartbeats 4000000 in
theorem wfX6_alike_b26 {X : zX} {out : Int32 × zH} (C : zOK X cX6_alike yX6_alike.cls 5 (some .int) 5 106) (E : zPost X (poI out.1 out.2)) : ∀ (n : Nat) (G : zH) (r0 : Nat) (x1 : Int32) (x2 : Int32) (r3 : Nat) (x4 : Int32) (h : fX6_alike_b26 n G r0 x1 x2 r3 x4 = some out), zZ X 26 [(0, .ref r0), (1, .int x1), (2, .int x2), (3, .ref r3), (4, .int x4)] [] G := by
  intro n
  induction n with
  | zero => intro G r0 x1 x2 r3 x4 h; cases h
  | succ n ih =>
    intro G r0 x1 x2 r3 x4 h
    rw [fX6_alike_b26] at h
    refine z_aload_n (pc := 26) C 3 dX6_alike_26 rfl rfl ?_
    refine z_iload_n (pc := 27) C 1 dX6_alike_27 rfl rfl ?_
    refine z_iload (pc := 28) C 4 dX6_alike_28 rfl ?_
    refine z_iadd (pc := 30) C dX6_alike_30 ?_
    obtain ⟨u1, eu1, h⟩ := ob1_eq h
    obtain ⟨w2, ew2⟩ := isO_eq eu1
    obtain ⟨v3, ev3, h⟩ := ob1_eq h
    refine z_callVi (h := r3) (As := [.int (x1 + x4)]) (rest := []) (pc := 31) C dX6_alike_31 ml_X6_233 (kX3_has _ _ _ _ G r3 (x1 + x4) v3 ev3) ew2 rfl rfl rfl (Nat.le_of_ble_eq_true rfl) (by decide) ?_
    refine z_if_eq (pc := 34) C dX6_alike_34 (tgt := 73) (by decide) (fun c4 => ?_) (fun c4 => ?_)
    · rw [if_pos c4] at h
      exact z_subL [0, 1, 2, 3, 4] (wfX6_alike_b73 C E G r0 x1 x2 r3 x4 h) rfl
    · rw [if_neg c4] at h
      refine z_aload_n (pc := 37) C 3 dX6_alike_37 rfl rfl ?_
      refine z_iload_n (pc := 38) C 2 dX6_alike_38 rfl rfl ?_
      refine z_iload (pc := 39) C 4 dX6_alike_39 rfl ?_
      refine z_iadd (pc := 41) C dX6_alike_41 ?_
      obtain ⟨u5, eu5, h⟩ := ob1_eq h
      obtain ⟨w6, ew6⟩ := isO_eq eu5
      obtain ⟨v7, ev7, h⟩ := ob1_eq h
      refine z_callVi (h := r3) (As := [.int (x2 + x4)]) (rest := []) (pc := 42) C dX6_alike_42 ml_X6_233 (kX3_has _ _ _ _ G r3 (x2 + x4) v7 ev7) ew6 rfl rfl rfl (Nat.le_of_ble_eq_true rfl) (by decide) ?_
      refine z_if_eq (pc := 45) C dX6_alike_45 (tgt := 73) (by decide) (fun c8 => ?_) (fun c8 => ?_)
      · rw [if_pos c8] at h
        exact z_subL [0, 1, 2, 3, 4] (wfX6_alike_b73 C E G r0 x1 x2 r3 x4 h) rfl
      · rw [if_neg c8] at h
        refine z_aload_n (pc := 48) C 3 dX6_alike_48 rfl rfl ?_
        refine z_iload_n (pc := 49) C 1 dX6_alike_49 rfl rfl ?_
        refine z_iload (pc := 50) C 4 dX6_alike_50 rfl ?_
        refine z_iadd (pc := 52) C dX6_alike_52 ?_
        obtain ⟨u9, eu9, h⟩ := ob1_eq h
        obtain ⟨w10, ew10⟩ := isO_eq eu9
        obtain ⟨v11, ev11, h⟩ := ob1_eq h
        refine z_callVi (h := r3) (As := [.int (x1 + x4)]) (rest := []) (pc := 53) C dX6_alike_53 ml_X6_236 (kX3_signAt _ _ _ _ G r3 (x1 + x4) v11 ev11) ew10 rfl rfl rfl (Nat.le_of_ble_eq_true rfl) (by decide) ?_
        refine z_aload_n (pc := 56) C 3 dX6_alike_56 rfl rfl ?_
        refine z_iload_n (pc := 57) C 2 dX6_alike_57 rfl rfl ?_
        refine z_iload (pc := 58) C 4 dX6_alike_58 rfl ?_
        refine z_iadd (pc := 60) C dX6_alike_60 ?_
        obtain ⟨u12, eu12, h⟩ := ob1_eq h
        obtain ⟨w13, ew13⟩ := isO_eq eu12
        obtain ⟨v14, ev14, h⟩ := ob1_eq h
        refine z_callVi (h := r3) (As := [.int (x2 + x4)]) (rest := [.int v11]) (pc := 61) C dX6_alike_61 ml_X6_236 (kX3_signAt _ _ _ _ G r3 (x2 + x4) v14 ev14) ew13 rfl rfl rfl (Nat.le_of_ble_eq_true rfl) (by decide) ?_
        refine z_ic_ne (pc := 64) C dX6_alike_64 (tgt := 73) (by decide) (fun c15 => ?_) (fun c15 => ?_)
        · rw [if_neg c15] at h
          exact z_subL [0, 1, 2, 3, 4] (wfX6_alike_b73 C E G r0 x1 x2 r3 x4 h) rfl
        · rw [if_pos c15] at h
          obtain ⟨y16, ey16, h⟩ := zlet_eq h
          refine z_iinc (pc := 67) (v := y16) C 4 dX6_alike_67 rfl (by rw [ey16]; rfl) (by decide) (show zput _ _ _ = [(4, .int y16), (0, .ref r0), (1, .int x1), (2, .int x2), (3, .ref r3)] from rfl) ?_
          refine z_goto (pc := 70) C dX6_alike_70 (tgt := 26) (by decide) ?_
          exact z_subL [1, 2, 3, 4, 0] (ih G r0 x1 x2 r3 y16 h) rfl
def fX6_alike (G : zH) (r0 : Nat) (x1 : Int32) (x2 : Int32) : Option (Int32 × zH) :=
    ob1 (isO G r0 6) fun u1 =>
    ob2 (fX6_isPlace G r0 x1) fun v4 G3 =>
    if v4 = 0 then (some ((-1 : Int32), G3)) else
    ob1 (isO G3 r0 6) fun u6 =>
    ob2 (fX6_isPlace G3 r0 x2) fun v9 G8 =>
    if v9 = 0 then (some ((-1 : Int32), G8)) else
    ob1 (isO G8 r0 6) fun u11 =>
    ob2 (fX6_shownPage G8 r0 ) fun qv14 G13 =>
    fX6_alike_b26 FU G13 r0 x1 x2 qv14 (0 : Int32)
set_option maxRecDepth 100000 in
set_option maxHeartbeats 4000000 in
theorem wfX6_alike {X : zX} {out : Int32 × zH} (C : zOK X cX6_alike yX6_alike.cls 5 (some .int) 5 106) (E : zPost X (poI out.1 out.2)) (G : zH) (r0 : Nat) (x1 : Int32) (x2 : Int32) (h : fX6_alike G r0 x1 x2 = some out) : zZ X 0 [(0, .ref r0), (1, .int x1), (2, .int x2)] [] G := by
  rw [fX6_alike] at h
  refine z_aload_n (pc := 0) C 0 dX6_alike_0 rfl rfl ?_
  refine z_iload_n (pc := 1) C 1 dX6_alike_1 rfl rfl ?_
  obtain ⟨u1, eu1, h⟩ := ob1_eq h
  obtain ⟨w2, ew2⟩ := isO_eq eu1
  obtain ⟨v4, G3, ev4, h⟩ := ob2_eq h
  refine z_callVi (h := r0) (As := [.int x1]) (rest := []) (pc := 2) C dX6_alike_2 ml_X6_168 (kX6_isPlace _ _ _ _ G r0 x1 (v4, G3) ev4) ew2 rfl rfl rfl (Nat.le_of_ble_eq_true rfl) (by decide) ?_
  refine z_if_eq (pc := 5) C dX6_alike_5 (tgt := 16) (by decide) (fun c5 => ?_) (fun c5 => ?_)
  · rw [if_pos c5] at h
    refine z_iconst (pc := 16) C dX6_alike_16 (v := (-1 : Int32)) (by decide) ?_
    obtain rfl := Option.some.inj h
    exact z_iret (pc := 17) C E dX6_alike_17 ⟨rfl, rfl⟩
  · rw [if_neg c5] at h
    refine z_aload_n (pc := 8) C 0 dX6_alike_8 rfl rfl ?_
    refine z_iload_n (pc := 9) C 2 dX6_alike_9 rfl rfl ?_
    obtain ⟨u6, eu6, h⟩ := ob1_eq h
    obtain ⟨w7, ew7⟩ := isO_eq eu6
    obtain ⟨v9, G8, ev9, h⟩ := ob2_eq h
    refine z_callVi (h := r0) (As := [.int x2]) (rest := []) (pc := 10) C dX6_alike_10 ml_X6_168 (kX6_isPlace _ _ _ _ G3 r0 x2 (v9, G8) ev9) ew7 rfl rfl rfl (Nat.le_of_ble_eq_true rfl) (by decide) ?_
    refine z_if_ne (pc := 13) C dX6_alike_13 (tgt := 18) (by decide) (fun c10 => ?_) (fun c10 => ?_)
    · rw [if_neg c10] at h
      refine z_aload_n (pc := 18) C 0 dX6_alike_18 rfl rfl ?_
      obtain ⟨u11, eu11, h⟩ := ob1_eq h
      obtain ⟨w12, ew12⟩ := isO_eq eu11
      obtain ⟨qv14, G13, eqv14, h⟩ := ob2_eq h
      refine z_callVr (h := r0) (As := []) (rest := []) (pc := 19) C dX6_alike_19 ml_X6_160 (kX6_shownPage _ _ _ _ G8 r0  (qv14, G13) eqv14) ew12 rfl rfl rfl (Nat.le_of_ble_eq_true rfl) (by decide) ?_
      refine z_astore_n (pc := 22) C dX6_alike_22 rfl (by decide) (show zput _ _ _ = [(3, .ref qv14), (0, .ref r0), (1, .int x1), (2, .int x2)] from rfl) ?_
      refine z_iconst (pc := 23) C dX6_alike_23 (v := (0 : Int32)) (by decide) ?_
      refine z_istore (pc := 24) C dX6_alike_24 (by decide) (show zput _ _ _ = [(4, .int (0 : Int32)), (3, .ref qv14), (0, .ref r0), (1, .int x1), (2, .int x2)] from rfl) ?_
      exact z_subL [2, 3, 4, 1, 0] (wfX6_alike_b26 C E FU G13 r0 x1 x2 qv14 (0 : Int32) h) rfl
    · rw [if_pos c10] at h
      refine z_iconst (pc := 16) C dX6_alike_16 (v := (-1 : Int32)) (by decide) ?_
      obtain rfl := Option.some.inj h
      exact z_iret (pc := 17) C E dX6_alike_17 ⟨rfl, rfl⟩
theorem kX6_alike (l : Launch) (D : va_G) (cA : Nat → ClassId) (b : Nat) (G : zH) (r0 : Nat) (x1 : Int32) (x2 : Int32) (out : Int32 × zH) (h : fX6_alike G r0 x1 x2 = some out) : zM l D cA b yX6_alike cX6_alike 5 (some .int) 5 106 [.ref r0, .int x1, .int x2] G (poI out.1 out.2) := z_entry rfl (Nat.le_of_ble_eq_true rfl) (fun X C E _ _ _ => wfX6_alike C E G r0 x1 x2 h)
def fX6_sum (G : zH) (r0 : Nat) (x1 : Int32) (x2 : Int32) : Option (Int32 × zH) :=
    if x2 < 0 then (some ((-1 : Int32), G)) else
    if 0 ≤ x1 then (ob1 (isO G r0 6) fun u3 =>
    ob2 (fX6_hasSigns G r0 x1 x2) fun v6 G5 =>
    if v6 = 0 then (some ((-2 : Int32), G5)) else
    ob1 (frf G5 r0 6 2) fun qv8 =>
    ob1 (isO G5 r0 6) fun u9 =>
    ob2 (fX6_shownPage G5 r0 ) fun qv12 G11 =>
    ob1 (isO G11 qv12 3) fun u13 =>
    ob1 (fX3_sumOf G11 qv12 x1 (x1 + x2)) fun v15 =>
    ob1 (isO G11 qv8 5) fun u16 =>
    ob1 (fX5_tell G11 qv8 v15.toInt64) fun G18 =>
    some ((0 : Int32), G18)) else
    some ((-1 : Int32), G)
set_option maxRecDepth 100000 in
set_option maxHeartbeats 4000000 in
theorem wfX6_sum {X : zX} {out : Int32 × zH} (C : zOK X cX6_sum yX6_sum.cls 3 (some .int) 5 107) (E : zPost X (poI out.1 out.2)) (G : zH) (r0 : Nat) (x1 : Int32) (x2 : Int32) (h : fX6_sum G r0 x1 x2 = some out) : zZ X 0 [(0, .ref r0), (1, .int x1), (2, .int x2)] [] G := by
  rw [fX6_sum] at h
  refine z_iload_n (pc := 0) C 2 dX6_sum_0 rfl rfl ?_
  refine z_if_lt (pc := 1) C dX6_sum_1 (tgt := 8) (by decide) (fun c1 => ?_) (fun c1 => ?_)
  · rw [if_pos c1] at h
    refine z_iconst (pc := 8) C dX6_sum_8 (v := (-1 : Int32)) (by decide) ?_
    obtain rfl := Option.some.inj h
    exact z_iret (pc := 9) C E dX6_sum_9 ⟨rfl, rfl⟩
  · rw [if_neg c1] at h
    refine z_iload_n (pc := 4) C 1 dX6_sum_4 rfl rfl ?_
    refine z_if_ge (pc := 5) C dX6_sum_5 (tgt := 10) (by decide) (fun c2 => ?_) (fun c2 => ?_)
    · rw [if_pos c2] at h
      refine z_aload_n (pc := 10) C 0 dX6_sum_10 rfl rfl ?_
      refine z_iload_n (pc := 11) C 1 dX6_sum_11 rfl rfl ?_
      refine z_iload_n (pc := 12) C 2 dX6_sum_12 rfl rfl ?_
      obtain ⟨u3, eu3, h⟩ := ob1_eq h
      obtain ⟨w4, ew4⟩ := isO_eq eu3
      obtain ⟨v6, G5, ev6, h⟩ := ob2_eq h
      refine z_callVi (h := r0) (As := [.int x1, .int x2]) (rest := []) (pc := 13) C dX6_sum_13 ml_X6_156 (kX6_hasSigns _ _ _ _ G r0 x1 x2 (v6, G5) ev6) ew4 rfl rfl rfl (Nat.le_of_ble_eq_true rfl) (by decide) ?_
      refine z_if_ne (pc := 16) C dX6_sum_16 (tgt := 22) (by decide) (fun c7 => ?_) (fun c7 => ?_)
      · rw [if_neg c7] at h
        refine z_aload_n (pc := 22) C 0 dX6_sum_22 rfl rfl ?_
        obtain ⟨qv8, eqv8, h⟩ := ob1_eq h
        refine z_fr (pc := 23) C dX6_sum_23 fl_X6_16 eqv8 ?_
        refine z_aload_n (pc := 26) C 0 dX6_sum_26 rfl rfl ?_
        obtain ⟨u9, eu9, h⟩ := ob1_eq h
        obtain ⟨w10, ew10⟩ := isO_eq eu9
        obtain ⟨qv12, G11, eqv12, h⟩ := ob2_eq h
        refine z_callVr (h := r0) (As := []) (rest := [.ref qv8]) (pc := 27) C dX6_sum_27 ml_X6_160 (kX6_shownPage _ _ _ _ G5 r0  (qv12, G11) eqv12) ew10 rfl rfl rfl (Nat.le_of_ble_eq_true rfl) (by decide) ?_
        refine z_iload_n (pc := 30) C 1 dX6_sum_30 rfl rfl ?_
        refine z_iload_n (pc := 31) C 1 dX6_sum_31 rfl rfl ?_
        refine z_iload_n (pc := 32) C 2 dX6_sum_32 rfl rfl ?_
        refine z_iadd (pc := 33) C dX6_sum_33 ?_
        obtain ⟨u13, eu13, h⟩ := ob1_eq h
        obtain ⟨w14, ew14⟩ := isO_eq eu13
        obtain ⟨v15, ev15, h⟩ := ob1_eq h
        refine z_callVi (h := qv12) (As := [.int x1, .int (x1 + x2)]) (rest := [.ref qv8]) (pc := 34) C dX6_sum_34 ml_X6_321 (kX3_sumOf _ _ _ _ G11 qv12 x1 (x1 + x2) v15 ev15) ew14 rfl rfl rfl (Nat.le_of_ble_eq_true rfl) (by decide) ?_
        refine z_i2l (pc := 37) C dX6_sum_37 ?_
        obtain ⟨u16, eu16, h⟩ := ob1_eq h
        obtain ⟨w17, ew17⟩ := isO_eq eu16
        obtain ⟨G18, eG18, h⟩ := ob1_eq h
        refine z_callVv (h := qv8) (As := [.long v15.toInt64]) (rest := []) (pc := 38) C dX6_sum_38 ml_X6_246 (kX5_tell _ _ _ _ G11 qv8 v15.toInt64 G18 eG18) ew17 rfl rfl rfl (Nat.le_of_ble_eq_true rfl) (by decide) ?_
        refine z_iconst (pc := 41) C dX6_sum_41 (v := (0 : Int32)) (by decide) ?_
        obtain rfl := Option.some.inj h
        exact z_iret (pc := 42) C E dX6_sum_42 ⟨rfl, rfl⟩
      · rw [if_pos c7] at h
        refine z_bipush (pc := 19) C dX6_sum_19 (v := (-2 : Int32)) (by decide) ?_
        obtain rfl := Option.some.inj h
        exact z_iret (pc := 21) C E dX6_sum_21 ⟨rfl, rfl⟩
    · rw [if_neg c2] at h
      refine z_iconst (pc := 8) C dX6_sum_8 (v := (-1 : Int32)) (by decide) ?_
      obtain rfl := Option.some.inj h
      exact z_iret (pc := 9) C E dX6_sum_9 ⟨rfl, rfl⟩
theorem kX6_sum (l : Launch) (D : va_G) (cA : Nat → ClassId) (b : Nat) (G : zH) (r0 : Nat) (x1 : Int32) (x2 : Int32) (out : Int32 × zH) (h : fX6_sum G r0 x1 x2 = some out) : zM l D cA b yX6_sum cX6_sum 3 (some .int) 5 107 [.ref r0, .int x1, .int x2] G (poI out.1 out.2) := z_entry rfl (Nat.le_of_ble_eq_true rfl) (fun X C E _ _ _ => wfX6_sum C E G r0 x1 x2 h)
def fX6_differs_b135 (G : zH) (r0 : Nat) (r2 : Nat) (r3 : Nat) (x5 : Int32) (x6 : Int32) : Option (Int32 × zH) :=
    ob1 (frf G r0 6 2) fun qv1 =>
    ob1 (fi G r2 3 2) fun v2 =>
    ob1 (fi G r3 3 2) fun v3 =>
    ob1 (isO G qv1 5) fun u4 =>
    ob1 (fX5_tell_ G qv1 (((v2 - x5) - x6).toInt64) (((v3 - x5) - x6).toInt64)) fun G6 =>
    some (x5, G6)
set_option maxRecDepth 100000 in
set_option maxHeartbeats 4000000 in
theorem wfX6_differs_b135 {X : zX} {out : Int32 × zH} (C : zOK X cX6_differs yX6_differs.cls 7 (some .int) 5 105) (E : zPost X (poI out.1 out.2)) (G : zH) (r0 : Nat) (r2 : Nat) (r3 : Nat) (x5 : Int32) (x6 : Int32) (h : fX6_differs_b135 G r0 r2 r3 x5 x6 = some out) : zZ X 135 [(0, .ref r0), (2, .ref r2), (3, .ref r3), (5, .int x5), (6, .int x6)] [] G := by
  rw [fX6_differs_b135] at h
  refine z_aload_n (pc := 135) C 0 dX6_differs_135 rfl rfl ?_
  obtain ⟨qv1, eqv1, h⟩ := ob1_eq h
  refine z_fr (pc := 136) C dX6_differs_136 fl_X6_16 eqv1 ?_
  refine z_aload_n (pc := 139) C 1 dX6_differs_139 rfl rfl ?_
  obtain ⟨v2, ev2, h⟩ := ob1_eq h
  refine z_fi (pc := 140) C dX6_differs_140 fl_X6_181 ev2 ?_
  refine z_iload (pc := 143) C 3 dX6_differs_143 rfl ?_
  refine z_isub (pc := 145) C dX6_differs_145 ?_
  refine z_iload (pc := 146) C 4 dX6_differs_146 rfl ?_
  refine z_isub (pc := 148) C dX6_differs_148 ?_
  refine z_i2l (pc := 149) C dX6_differs_149 ?_
  refine z_aload_n (pc := 150) C 2 dX6_differs_150 rfl rfl ?_
  obtain ⟨v3, ev3, h⟩ := ob1_eq h
  refine z_fi (pc := 151) C dX6_differs_151 fl_X6_181 ev3 ?_
  refine z_iload (pc := 154) C 3 dX6_differs_154 rfl ?_
  refine z_isub (pc := 156) C dX6_differs_156 ?_
  refine z_iload (pc := 157) C 4 dX6_differs_157 rfl ?_
  refine z_isub (pc := 159) C dX6_differs_159 ?_
  refine z_i2l (pc := 160) C dX6_differs_160 ?_
  obtain ⟨u4, eu4, h⟩ := ob1_eq h
  obtain ⟨w5, ew5⟩ := isO_eq eu4
  obtain ⟨G6, eG6, h⟩ := ob1_eq h
  refine z_callVv (h := qv1) (As := [.long (((v2 - x5) - x6).toInt64), .long (((v3 - x5) - x6).toInt64)]) (rest := []) (pc := 161) C dX6_differs_161 ml_X6_217 (kX5_tell_ _ _ _ _ G qv1 (((v2 - x5) - x6).toInt64) (((v3 - x5) - x6).toInt64) G6 eG6) ew5 rfl rfl rfl (Nat.le_of_ble_eq_true rfl) (by decide) ?_
  refine z_iload (pc := 164) C 3 dX6_differs_164 rfl ?_
  obtain rfl := Option.some.inj h
  exact z_iret (pc := 166) C E dX6_differs_166 ⟨rfl, rfl⟩
def fX6_differs_b90 : Nat → zH → Nat → Nat → Nat → Int32 → Int32 → Int32 → Option (Int32 × zH)
  | 0, _, _, _, _, _, _, _ => none
  | n + 1, G, r0, r2, r3, x4, x5, x6 =>
    if (x4 - x5) ≤ x6 then (fX6_differs_b135 G r0 r2 r3 x5 x6) else
    ob1 (fi G r2 3 2) fun v2 =>
    ob1 (isO G r2 3) fun u3 =>
    ob1 (fX3_signAt G r2 ((v2 - (1 : Int32)) - x6)) fun v5 =>
    ob1 (fi G r3 3 2) fun v6 =>
    ob1 (isO G r3 3) fun u7 =>
    ob1 (fX3_signAt G r3 ((v6 - (1 : Int32)) - x6)) fun v9 =>
    if v5 = v9 then (zlet (x6 + (1 : Int32)) fun y11 =>
    (fX6_differs_b90 n) G r0 r2 r3 x4 x5 y11) else
    fX6_differs_b135 G r0 r2 r3 x5 x6
set_option maxRecDepth 100000 in
set_option maxHeartbeats 4000000 in
theorem wfX6_differs_b90 {X : zX} {out : Int32 × zH} (C : zOK X cX6_differs yX6_differs.cls 7 (some .int) 5 105) (E : zPost X (poI out.1 out.2)) : ∀ (n : Nat) (G : zH) (r0 : Nat) (r2 : Nat) (r3 : Nat) (x4 : Int32) (x5 : Int32) (x6 : Int32) (h : fX6_differs_b90 n G r0 r2 r3 x4 x5 x6 = some out), zZ X 90 [(0, .ref r0), (2, .ref r2), (3, .ref r3), (4, .int x4), (5, .int x5), (6, .int x6)] [] G := by
  intro n
  induction n with
  | zero => intro G r0 r2 r3 x4 x5 x6 h; cases h
  | succ n ih =>
    intro G r0 r2 r3 x4 x5 x6 h
    rw [fX6_differs_b90] at h
    refine z_iload (pc := 90) C 5 dX6_differs_90 rfl ?_
    refine z_iload (pc := 92) C 3 dX6_differs_92 rfl ?_
    refine z_iload (pc := 94) C 4 dX6_differs_94 rfl ?_
    refine z_isub (pc := 96) C dX6_differs_96 ?_
    refine z_ic_ge (pc := 97) C dX6_differs_97 (tgt := 135) (by decide) (fun c1 => ?_) (fun c1 => ?_)
    · rw [if_pos c1] at h
      exact z_subL [0, 1, 2, 4, 5] (wfX6_differs_b135 C E G r0 r2 r3 x5 x6 h) rfl
    · rw [if_neg c1] at h
      refine z_aload_n (pc := 100) C 1 dX6_differs_100 rfl rfl ?_
      refine z_aload_n (pc := 101) C 1 dX6_differs_101 rfl rfl ?_
      obtain ⟨v2, ev2, h⟩ := ob1_eq h
      refine z_fi (pc := 102) C dX6_differs_102 fl_X6_181 ev2 ?_
      refine z_iconst (pc := 105) C dX6_differs_105 (v := (1 : Int32)) (by decide) ?_
      refine z_isub (pc := 106) C dX6_differs_106 ?_
      refine z_iload (pc := 107) C 5 dX6_differs_107 rfl ?_
      refine z_isub (pc := 109) C dX6_differs_109 ?_
      obtain ⟨u3, eu3, h⟩ := ob1_eq h
      obtain ⟨w4, ew4⟩ := isO_eq eu3
      obtain ⟨v5, ev5, h⟩ := ob1_eq h
      refine z_callVi (h := r2) (As := [.int ((v2 - (1 : Int32)) - x6)]) (rest := []) (pc := 110) C dX6_differs_110 ml_X6_236 (kX3_signAt _ _ _ _ G r2 ((v2 - (1 : Int32)) - x6) v5 ev5) ew4 rfl rfl rfl (Nat.le_of_ble_eq_true rfl) (by decide) ?_
      refine z_aload_n (pc := 113) C 2 dX6_differs_113 rfl rfl ?_
      refine z_aload_n (pc := 114) C 2 dX6_differs_114 rfl rfl ?_
      obtain ⟨v6, ev6, h⟩ := ob1_eq h
      refine z_fi (pc := 115) C dX6_differs_115 fl_X6_181 ev6 ?_
      refine z_iconst (pc := 118) C dX6_differs_118 (v := (1 : Int32)) (by decide) ?_
      refine z_isub (pc := 119) C dX6_differs_119 ?_
      refine z_iload (pc := 120) C 5 dX6_differs_120 rfl ?_
      refine z_isub (pc := 122) C dX6_differs_122 ?_
      obtain ⟨u7, eu7, h⟩ := ob1_eq h
      obtain ⟨w8, ew8⟩ := isO_eq eu7
      obtain ⟨v9, ev9, h⟩ := ob1_eq h
      refine z_callVi (h := r3) (As := [.int ((v6 - (1 : Int32)) - x6)]) (rest := [.int v5]) (pc := 123) C dX6_differs_123 ml_X6_236 (kX3_signAt _ _ _ _ G r3 ((v6 - (1 : Int32)) - x6) v9 ev9) ew8 rfl rfl rfl (Nat.le_of_ble_eq_true rfl) (by decide) ?_
      refine z_ic_ne (pc := 126) C dX6_differs_126 (tgt := 135) (by decide) (fun c10 => ?_) (fun c10 => ?_)
      · rw [if_neg c10] at h
        exact z_subL [0, 1, 2, 4, 5] (wfX6_differs_b135 C E G r0 r2 r3 x5 x6 h) rfl
      · rw [if_pos c10] at h
        obtain ⟨y11, ey11, h⟩ := zlet_eq h
        refine z_iinc (pc := 129) (v := y11) C 5 dX6_differs_129 rfl (by rw [ey11]; rfl) (by decide) (show zput _ _ _ = [(6, .int y11), (0, .ref r0), (2, .ref r2), (3, .ref r3), (4, .int x4), (5, .int x5)] from rfl) ?_
        refine z_goto (pc := 132) C dX6_differs_132 (tgt := 90) (by decide) ?_
        exact z_subL [1, 2, 3, 4, 5, 0] (ih G r0 r2 r3 x4 x5 y11 h) rfl
def fX6_differs_b87 (G : zH) (r0 : Nat) (r2 : Nat) (r3 : Nat) (x4 : Int32) (x5 : Int32) : Option (Int32 × zH) :=
    fX6_differs_b90 FU G r0 r2 r3 x4 x5 (0 : Int32)
set_option maxRecDepth 100000 in
set_option maxHeartbeats 4000000 in
theorem wfX6_differs_b87 {X : zX} {out : Int32 × zH} (C : zOK X cX6_differs yX6_differs.cls 7 (some .int) 5 105) (E : zPost X (poI out.1 out.2)) (G : zH) (r0 : Nat) (r2 : Nat) (r3 : Nat) (x4 : Int32) (x5 : Int32) (h : fX6_differs_b87 G r0 r2 r3 x4 x5 = some out) : zZ X 87 [(0, .ref r0), (2, .ref r2), (3, .ref r3), (4, .int x4), (5, .int x5)] [] G := by
  rw [fX6_differs_b87] at h
  refine z_iconst (pc := 87) C dX6_differs_87 (v := (0 : Int32)) (by decide) ?_
  refine z_istore (pc := 88) C dX6_differs_88 (by decide) (show zput _ _ _ = [(6, .int (0 : Int32)), (0, .ref r0), (2, .ref r2), (3, .ref r3), (4, .int x4), (5, .int x5)] from rfl) ?_
  exact z_subL [1, 2, 3, 4, 5, 0] (wfX6_differs_b90 C E FU G r0 r2 r3 x4 x5 (0 : Int32) h) rfl
def fX6_differs_b59 : Nat → zH → Nat → Nat → Nat → Int32 → Int32 → Option (Int32 × zH)
  | 0, _, _, _, _, _, _ => none
  | n + 1, G, r0, r2, r3, x4, x5 =>
    if x4 ≤ x5 then (fX6_differs_b87 G r0 r2 r3 x4 x5) else
    ob1 (isO G r2 3) fun u2 =>
    ob1 (fX3_signAt G r2 x5) fun v4 =>
    ob1 (isO G r3 3) fun u5 =>
    ob1 (fX3_signAt G r3 x5) fun v7 =>
    if v4 = v7 then (zlet (x5 + (1 : Int32)) fun y9 =>
    (fX6_differs_b59 n) G r0 r2 r3 x4 y9) else
    fX6_differs_b87 G r0 r2 r3 x4 x5
set_option maxRecDepth 100000 in
set_option maxHeartbeats 4000000 in
theorem wfX6_differs_b59 {X : zX} {out : Int32 × zH} (C : zOK X cX6_differs yX6_differs.cls 7 (some .int) 5 105) (E : zPost X (poI out.1 out.2)) : ∀ (n : Nat) (G : zH) (r0 : Nat) (r2 : Nat) (r3 : Nat) (x4 : Int32) (x5 : Int32) (h : fX6_differs_b59 n G r0 r2 r3 x4 x5 = some out), zZ X 59 [(0, .ref r0), (2, .ref r2), (3, .ref r3), (4, .int x4), (5, .int x5)] [] G := by
  intro n
  induction n with
  | zero => intro G r0 r2 r3 x4 x5 h; cases h
  | succ n ih =>
    intro G r0 r2 r3 x4 x5 h
    rw [fX6_differs_b59] at h
    refine z_iload (pc := 59) C 4 dX6_differs_59 rfl ?_
    refine z_iload (pc := 61) C 3 dX6_differs_61 rfl ?_
    refine z_ic_ge (pc := 63) C dX6_differs_63 (tgt := 87) (by decide) (fun c1 => ?_) (fun c1 => ?_)
    · rw [if_pos c1] at h
      exact z_subL [0, 1, 2, 3, 4] (wfX6_differs_b87 C E G r0 r2 r3 x4 x5 h) rfl
    · rw [if_neg c1] at h
      refine z_aload_n (pc := 66) C 1 dX6_differs_66 rfl rfl ?_
      refine z_iload (pc := 67) C 4 dX6_differs_67 rfl ?_
      obtain ⟨u2, eu2, h⟩ := ob1_eq h
      obtain ⟨w3, ew3⟩ := isO_eq eu2
      obtain ⟨v4, ev4, h⟩ := ob1_eq h
      refine z_callVi (h := r2) (As := [.int x5]) (rest := []) (pc := 69) C dX6_differs_69 ml_X6_236 (kX3_signAt _ _ _ _ G r2 x5 v4 ev4) ew3 rfl rfl rfl (Nat.le_of_ble_eq_true rfl) (by decide) ?_
      refine z_aload_n (pc := 72) C 2 dX6_differs_72 rfl rfl ?_
      refine z_iload (pc := 73) C 4 dX6_differs_73 rfl ?_
      obtain ⟨u5, eu5, h⟩ := ob1_eq h
      obtain ⟨w6, ew6⟩ := isO_eq eu5
      obtain ⟨v7, ev7, h⟩ := ob1_eq h
      refine z_callVi (h := r3) (As := [.int x5]) (rest := [.int v4]) (pc := 75) C dX6_differs_75 ml_X6_236 (kX3_signAt _ _ _ _ G r3 x5 v7 ev7) ew6 rfl rfl rfl (Nat.le_of_ble_eq_true rfl) (by decide) ?_
      refine z_ic_ne (pc := 78) C dX6_differs_78 (tgt := 87) (by decide) (fun c8 => ?_) (fun c8 => ?_)
      · rw [if_neg c8] at h
        exact z_subL [0, 1, 2, 3, 4] (wfX6_differs_b87 C E G r0 r2 r3 x4 x5 h) rfl
      · rw [if_pos c8] at h
        obtain ⟨y9, ey9, h⟩ := zlet_eq h
        refine z_iinc (pc := 81) (v := y9) C 4 dX6_differs_81 rfl (by rw [ey9]; rfl) (by decide) (show zput _ _ _ = [(5, .int y9), (0, .ref r0), (2, .ref r2), (3, .ref r3), (4, .int x4)] from rfl) ?_
        refine z_goto (pc := 84) C dX6_differs_84 (tgt := 59) (by decide) ?_
        exact z_subL [1, 2, 3, 4, 0] (ih G r0 r2 r3 x4 y9 h) rfl
def fX6_differs (G : zH) (r0 : Nat) (x1 : Int32) : Option (Int32 × zH) :=
    if x1 < 0 then (some ((-1 : Int32), G)) else
    ob1 (frf G r0 6 4) fun qv2 =>
    ob1 (fi G qv2 1 2) fun v3 =>
    if x1 ≤ v3 then (ob1 (isO G r0 6) fun u5 =>
    ob2 (fX6_shownPage G r0 ) fun qv8 G7 =>
    ob1 (frf G7 r0 6 11) fun qv9 =>
    ob1 (frf G7 r0 6 4) fun qv10 =>
    ob1 (isO G7 qv10 1) fun u11 =>
    ob2 (fX1_ago G7 qv10 x1) fun qv14 G13 =>
    ob1 (frf G13 r0 6 3) fun qv15 =>
    ob1 (isO G13 qv9 3) fun u16 =>
    ob1 (fX3_lay G13 qv9 qv14 qv15) fun G18 =>
    ob1 (fi G18 qv8 3 2) fun v19 =>
    ob1 (fi G18 qv9 3 2) fun v20 =>
    zlet ((if v20 < v19 then v20 else v19)) fun y21 =>
    fX6_differs_b59 FU G18 r0 qv8 qv9 y21 (0 : Int32)) else
    some ((-1 : Int32), G)
set_option maxRecDepth 100000 in
set_option maxHeartbeats 4000000 in
theorem wfX6_differs {X : zX} {out : Int32 × zH} (C : zOK X cX6_differs yX6_differs.cls 7 (some .int) 5 105) (E : zPost X (poI out.1 out.2)) (G : zH) (r0 : Nat) (x1 : Int32) (h : fX6_differs G r0 x1 = some out) : zZ X 0 [(0, .ref r0), (1, .int x1)] [] G := by
  rw [fX6_differs] at h
  refine z_iload_n (pc := 0) C 1 dX6_differs_0 rfl rfl ?_
  refine z_if_lt (pc := 1) C dX6_differs_1 (tgt := 15) (by decide) (fun c1 => ?_) (fun c1 => ?_)
  · rw [if_pos c1] at h
    refine z_iconst (pc := 15) C dX6_differs_15 (v := (-1 : Int32)) (by decide) ?_
    obtain rfl := Option.some.inj h
    exact z_iret (pc := 16) C E dX6_differs_16 ⟨rfl, rfl⟩
  · rw [if_neg c1] at h
    refine z_iload_n (pc := 4) C 1 dX6_differs_4 rfl rfl ?_
    refine z_aload_n (pc := 5) C 0 dX6_differs_5 rfl rfl ?_
    obtain ⟨qv2, eqv2, h⟩ := ob1_eq h
    refine z_fr (pc := 6) C dX6_differs_6 fl_X6_30 eqv2 ?_
    obtain ⟨v3, ev3, h⟩ := ob1_eq h
    refine z_fi (pc := 9) C dX6_differs_9 fl_X6_221 ev3 ?_
    refine z_ic_le (pc := 12) C dX6_differs_12 (tgt := 17) (by decide) (fun c4 => ?_) (fun c4 => ?_)
    · rw [if_pos c4] at h
      refine z_aload_n (pc := 17) C 0 dX6_differs_17 rfl rfl ?_
      obtain ⟨u5, eu5, h⟩ := ob1_eq h
      obtain ⟨w6, ew6⟩ := isO_eq eu5
      obtain ⟨qv8, G7, eqv8, h⟩ := ob2_eq h
      refine z_callVr (h := r0) (As := []) (rest := []) (pc := 18) C dX6_differs_18 ml_X6_160 (kX6_shownPage _ _ _ _ G r0  (qv8, G7) eqv8) ew6 rfl rfl rfl (Nat.le_of_ble_eq_true rfl) (by decide) ?_
      refine z_astore_n (pc := 21) C dX6_differs_21 rfl (by decide) (show zput _ _ _ = [(2, .ref qv8), (0, .ref r0), (1, .int x1)] from rfl) ?_
      refine z_aload_n (pc := 22) C 1 dX6_differs_22 rfl rfl ?_
      obtain ⟨qv9, eqv9, h⟩ := ob1_eq h
      refine z_fr (pc := 23) C dX6_differs_23 fl_X6_59 eqv9 ?_
      refine z_astore_n (pc := 26) C dX6_differs_26 rfl (by decide) (show zput _ _ _ = [(3, .ref qv9), (2, .ref qv8), (0, .ref r0), (1, .int x1)] from rfl) ?_
      refine z_aload_n (pc := 27) C 0 dX6_differs_27 rfl rfl ?_
      refine z_aload_n (pc := 28) C 2 dX6_differs_28 rfl rfl ?_
      obtain ⟨qv10, eqv10, h⟩ := ob1_eq h
      refine z_fr (pc := 29) C dX6_differs_29 fl_X6_30 eqv10 ?_
      refine z_iload_n (pc := 32) C 3 dX6_differs_32 rfl rfl ?_
      obtain ⟨u11, eu11, h⟩ := ob1_eq h
      obtain ⟨w12, ew12⟩ := isO_eq eu11
      obtain ⟨qv14, G13, eqv14, h⟩ := ob2_eq h
      refine z_callVr (h := qv10) (As := [.int x1]) (rest := [.ref qv9]) (pc := 33) C dX6_differs_33 ml_X6_324 (kX1_ago _ _ _ _ G7 qv10 x1 (qv14, G13) eqv14) ew12 rfl rfl rfl (Nat.le_of_ble_eq_true rfl) (by decide) ?_
      refine z_aload_n (pc := 36) C 2 dX6_differs_36 rfl rfl ?_
      obtain ⟨qv15, eqv15, h⟩ := ob1_eq h
      refine z_fr (pc := 37) C dX6_differs_37 fl_X6_23 eqv15 ?_
      obtain ⟨u16, eu16, h⟩ := ob1_eq h
      obtain ⟨w17, ew17⟩ := isO_eq eu16
      obtain ⟨G18, eG18, h⟩ := ob1_eq h
      refine z_callVv (h := qv9) (As := [.ref qv14, .ref qv15]) (rest := []) (pc := 40) C dX6_differs_40 ml_X6_328 (kX3_lay _ _ _ _ G13 qv9 qv14 qv15 G18 eG18) ew17 rfl rfl rfl (Nat.le_of_ble_eq_true rfl) (by decide) ?_
      refine z_aload_n (pc := 43) C 1 dX6_differs_43 rfl rfl ?_
      obtain ⟨v19, ev19, h⟩ := ob1_eq h
      refine z_fi (pc := 44) C dX6_differs_44 fl_X6_181 ev19 ?_
      refine z_aload_n (pc := 47) C 0 dX6_differs_47 rfl rfl ?_
      obtain ⟨v20, ev20, h⟩ := ob1_eq h
      refine z_fi (pc := 48) C dX6_differs_48 fl_X6_181 ev20 ?_
      refine z_mmin (pc := 51) C dX6_differs_51 ml_X6_239 w_min1 w_math w_min2 (Nat.le_of_ble_eq_true rfl) (by decide) ?_
      obtain ⟨y21, ey21, h⟩ := zlet_eq h
      refine z_topi ey21 ?_
      refine z_istore (pc := 54) C dX6_differs_54 (by decide) (show zput _ _ _ = [(4, .int y21), (3, .ref qv9), (2, .ref qv8), (0, .ref r0), (1, .int x1)] from rfl) ?_
      refine z_iconst (pc := 56) C dX6_differs_56 (v := (0 : Int32)) (by decide) ?_
      refine z_istore (pc := 57) C dX6_differs_57 (by decide) (show zput _ _ _ = [(5, .int (0 : Int32)), (4, .int y21), (3, .ref qv9), (2, .ref qv8), (0, .ref r0), (1, .int x1)] from rfl) ?_
      exact z_subL [4, 3, 2, 1, 0] (wfX6_differs_b59 C E FU G18 r0 qv8 qv9 y21 (0 : Int32) h) rfl
    · rw [if_neg c4] at h
      refine z_iconst (pc := 15) C dX6_differs_15 (v := (-1 : Int32)) (by decide) ?_
      obtain rfl := Option.some.inj h
      exact z_iret (pc := 16) C E dX6_differs_16 ⟨rfl, rfl⟩
theorem kX6_differs (l : Launch) (D : va_G) (cA : Nat → ClassId) (b : Nat) (G : zH) (r0 : Nat) (x1 : Int32) (out : Int32 × zH) (h : fX6_differs G r0 x1 = some out) : zM l D cA b yX6_differs cX6_differs 7 (some .int) 5 105 [.ref r0, .int x1] G (poI out.1 out.2) := z_entry rfl (Nat.le_of_ble_eq_true rfl) (fun X C E _ _ _ => wfX6_differs C E G r0 x1 h)
def fX6_doDrawnEdit_b87 (G : zH) : Option zH :=
    some G
set_option maxRecDepth 100000 in
set_option maxHeartbeats 4000000 in
theorem wfX6_doDrawnEdit_b87 {X : zX} {out : zH} (C : zOK X cX6_doDrawnEdit yX6_doDrawnEdit.cls 5 none 6 140) (E : zPost X (poV out)) (G : zH) (h : fX6_doDrawnEdit_b87 G = some out) : zZ X 87 [] [] G := by
  rw [fX6_doDrawnEdit_b87] at h
  refine z_goto (pc := 87) C dX6_doDrawnEdit_87 (tgt := 156) (by decide) ?_
  obtain rfl := Option.some.inj h
  exact z_vret (pc := 156) C E dX6_doDrawnEdit_156 ⟨rfl, rfl⟩
def fX6_doDrawnEdit (G : zH) (r0 : Nat) (r1 : Nat) : Option zH :=
    ob1 (isO G r1 0) fun u1 =>
    ob2 (fX0_draw G r1 (4 : Int32)) fun v4 G3 =>
    if (2 : Int32) ≤ v4 then (ob1 (frf G3 r0 6 8) fun qv6 =>
    ob1 (fi G3 qv6 2 3) fun v7 =>
    if v7 ≤ 0 then (some G3) else
    ob1 (frf G3 r0 6 8) fun qv9 =>
    ob1 (fi G3 qv9 2 3) fun v10 =>
    ob1 (isO G3 r1 0) fun u11 =>
    ob2 (fX0_draw G3 r1 v10) fun v14 G13 =>
    if v4 = (2 : Int32) then (ob1 (frf G13 r0 6 8) fun qv24 =>
    ob1 (isO G13 qv24 2) fun u25 =>
    ob1 (fX2_take G13 qv24 v14 (1 : Int32)) fun G27 =>
    some G27) else
    ob1 (frf G13 r0 6 8) fun qv16 =>
    ob1 (fi G13 qv16 2 3) fun v17 =>
    if (3000 : Int32) ≤ v17 then (some G13) else
    ob1 (frf G13 r0 6 8) fun qv19 =>
    ob1 (frf G13 r0 6 7) fun qv20 =>
    ob1 (isO G13 qv19 2) fun u21 =>
    ob1 (fX2_lay G13 qv19 v14 (1 : Int32) (0 : Int32) qv20) fun G23 =>
    some G23) else
    ob1 (isO G3 r1 0) fun u28 =>
    ob2 (fX0_draw G3 r1 (26 : Int32)) fun v31 G30 =>
    zlet ((v31 + (97 : Int32))) fun y32 =>
    ob1 (frf G30 r0 6 8) fun qv33 =>
    ob1 (fi G30 qv33 2 3) fun v34 =>
    ob1 (isO G30 r1 0) fun u35 =>
    ob2 (fX0_draw G30 r1 (v34 + (1 : Int32))) fun v38 G37 =>
    ob1 (frf G37 r0 6 8) fun qv39 =>
    ob1 (fi G37 qv39 2 3) fun v40 =>
    if (3000 : Int32) ≤ v40 then (fX6_doDrawnEdit_b87 G37) else
    ob1 (frf G37 r0 6 3) fun qv42 =>
    ob1 (fi G37 qv42 4 2) fun v43 =>
    if (6000 : Int32) ≤ v43 then (fX6_doDrawnEdit_b87 G37) else
    ob1 (frf G37 r0 6 8) fun qv45 =>
    ob1 (frf G37 r0 6 3) fun qv46 =>
    ob1 (isO G37 qv46 4) fun u47 =>
    ob1 (fX4_addedEnd G37 qv46 ) fun v49 =>
    ob1 (isO G37 qv45 2) fun u50 =>
    ob1 (fX2_insert G37 qv45 v38 v49 (1 : Int32)) fun G52 =>
    ob1 (frf G52 r0 6 3) fun qv53 =>
    ob1 (isO G52 qv53 4) fun u54 =>
    ob1 (fX4_add G52 qv53 y32) fun G56 =>
    fX6_doDrawnEdit_b87 G56
set_option maxRecDepth 100000 in
set_option maxHeartbeats 4000000 in
theorem wfX6_doDrawnEdit {X : zX} {out : zH} (C : zOK X cX6_doDrawnEdit yX6_doDrawnEdit.cls 5 none 6 140) (E : zPost X (poV out)) (G : zH) (r0 : Nat) (r1 : Nat) (h : fX6_doDrawnEdit G r0 r1 = some out) : zZ X 0 [(0, .ref r0), (1, .ref r1)] [] G := by
  rw [fX6_doDrawnEdit] at h
  refine z_aload_n (pc := 0) C 1 dX6_doDrawnEdit_0 rfl rfl ?_
  refine z_iconst (pc := 1) C dX6_doDrawnEdit_1 (v := (4 : Int32)) (by decide) ?_
  obtain ⟨u1, eu1, h⟩ := ob1_eq h
  obtain ⟨w2, ew2⟩ := isO_eq eu1
  obtain ⟨v4, G3, ev4, h⟩ := ob2_eq h
  refine z_callVi (h := r1) (As := [.int (4 : Int32)]) (rest := []) (pc := 2) C dX6_doDrawnEdit_2 ml_X6_390 (kX0_draw _ _ _ _ G r1 (4 : Int32) (v4, G3) ev4) ew2 rfl rfl rfl (Nat.le_of_ble_eq_true rfl) (by decide) ?_
  refine z_istore_n (pc := 5) C dX6_doDrawnEdit_5 rfl (by decide) (show zput _ _ _ = [(2, .int v4), (0, .ref r0), (1, .ref r1)] from rfl) ?_
  refine z_iload_n (pc := 6) C 0 dX6_doDrawnEdit_6 rfl rfl ?_
  refine z_iconst (pc := 7) C dX6_doDrawnEdit_7 (v := (2 : Int32)) (by decide) ?_
  refine z_ic_ge (pc := 8) C dX6_doDrawnEdit_8 (tgt := 90) (by decide) (fun c5 => ?_) (fun c5 => ?_)
  · rw [if_pos c5] at h
    refine z_aload_n (pc := 90) C 1 dX6_doDrawnEdit_90 rfl rfl ?_
    obtain ⟨qv6, eqv6, h⟩ := ob1_eq h
    refine z_fr (pc := 91) C dX6_doDrawnEdit_91 fl_X6_49 eqv6 ?_
    obtain ⟨v7, ev7, h⟩ := ob1_eq h
    refine z_fi (pc := 94) C dX6_doDrawnEdit_94 fl_X6_104 ev7 ?_
    refine z_if_le (pc := 97) C dX6_doDrawnEdit_97 (tgt := 156) (by decide) (fun c8 => ?_) (fun c8 => ?_)
    · rw [if_pos c8] at h
      obtain rfl := Option.some.inj h
      exact z_vret (pc := 156) C E dX6_doDrawnEdit_156 ⟨rfl, rfl⟩
    · rw [if_neg c8] at h
      refine z_aload_n (pc := 100) C 2 dX6_doDrawnEdit_100 rfl rfl ?_
      refine z_aload_n (pc := 101) C 1 dX6_doDrawnEdit_101 rfl rfl ?_
      obtain ⟨qv9, eqv9, h⟩ := ob1_eq h
      refine z_fr (pc := 102) C dX6_doDrawnEdit_102 fl_X6_49 eqv9 ?_
      obtain ⟨v10, ev10, h⟩ := ob1_eq h
      refine z_fi (pc := 105) C dX6_doDrawnEdit_105 fl_X6_104 ev10 ?_
      obtain ⟨u11, eu11, h⟩ := ob1_eq h
      obtain ⟨w12, ew12⟩ := isO_eq eu11
      obtain ⟨v14, G13, ev14, h⟩ := ob2_eq h
      refine z_callVi (h := r1) (As := [.int v10]) (rest := []) (pc := 108) C dX6_doDrawnEdit_108 ml_X6_390 (kX0_draw _ _ _ _ G3 r1 v10 (v14, G13) ev14) ew12 rfl rfl rfl (Nat.le_of_ble_eq_true rfl) (by decide) ?_
      refine z_istore_n (pc := 111) C dX6_doDrawnEdit_111 rfl (by decide) (show zput _ _ _ = [(3, .int v14), (2, .int v4), (0, .ref r0), (1, .ref r1)] from rfl) ?_
      refine z_iload_n (pc := 112) C 1 dX6_doDrawnEdit_112 rfl rfl ?_
      refine z_iconst (pc := 113) C dX6_doDrawnEdit_113 (v := (2 : Int32)) (by decide) ?_
      refine z_ic_ne (pc := 114) C dX6_doDrawnEdit_114 (tgt := 129) (by decide) (fun c15 => ?_) (fun c15 => ?_)
      · rw [if_neg c15] at h
        refine z_aload_n (pc := 129) C 2 dX6_doDrawnEdit_129 rfl rfl ?_
        obtain ⟨qv16, eqv16, h⟩ := ob1_eq h
        refine z_fr (pc := 130) C dX6_doDrawnEdit_130 fl_X6_49 eqv16 ?_
        obtain ⟨v17, ev17, h⟩ := ob1_eq h
        refine z_fi (pc := 133) C dX6_doDrawnEdit_133 fl_X6_104 ev17 ?_
        refine z_sipush (pc := 136) C dX6_doDrawnEdit_136 (v := (3000 : Int32)) (by decide) ?_
        refine z_ic_ge (pc := 139) C dX6_doDrawnEdit_139 (tgt := 156) (by decide) (fun c18 => ?_) (fun c18 => ?_)
        · rw [if_pos c18] at h
          obtain rfl := Option.some.inj h
          exact z_vret (pc := 156) C E dX6_doDrawnEdit_156 ⟨rfl, rfl⟩
        · rw [if_neg c18] at h
          refine z_aload_n (pc := 142) C 2 dX6_doDrawnEdit_142 rfl rfl ?_
          obtain ⟨qv19, eqv19, h⟩ := ob1_eq h
          refine z_fr (pc := 143) C dX6_doDrawnEdit_143 fl_X6_49 eqv19 ?_
          refine z_iload_n (pc := 146) C 0 dX6_doDrawnEdit_146 rfl rfl ?_
          refine z_iconst (pc := 147) C dX6_doDrawnEdit_147 (v := (1 : Int32)) (by decide) ?_
          refine z_iconst (pc := 148) C dX6_doDrawnEdit_148 (v := (0 : Int32)) (by decide) ?_
          refine z_aload_n (pc := 149) C 2 dX6_doDrawnEdit_149 rfl rfl ?_
          obtain ⟨qv20, eqv20, h⟩ := ob1_eq h
          refine z_fr (pc := 150) C dX6_doDrawnEdit_150 fl_X6_45 eqv20 ?_
          obtain ⟨u21, eu21, h⟩ := ob1_eq h
          obtain ⟨w22, ew22⟩ := isO_eq eu21
          obtain ⟨G23, eG23, h⟩ := ob1_eq h
          refine z_callVv (h := qv19) (As := [.int v14, .int (1 : Int32), .int (0 : Int32), .ref qv20]) (rest := []) (pc := 153) C dX6_doDrawnEdit_153 ml_X6_171 (kX2_lay _ _ _ _ G13 qv19 v14 (1 : Int32) (0 : Int32) qv20 G23 eG23) ew22 rfl rfl rfl (Nat.le_of_ble_eq_true rfl) (by decide) ?_
          obtain rfl := Option.some.inj h
          exact z_vret (pc := 156) C E dX6_doDrawnEdit_156 ⟨rfl, rfl⟩
      · rw [if_pos c15] at h
        refine z_aload_n (pc := 117) C 2 dX6_doDrawnEdit_117 rfl rfl ?_
        obtain ⟨qv24, eqv24, h⟩ := ob1_eq h
        refine z_fr (pc := 118) C dX6_doDrawnEdit_118 fl_X6_49 eqv24 ?_
        refine z_iload_n (pc := 121) C 0 dX6_doDrawnEdit_121 rfl rfl ?_
        refine z_iconst (pc := 122) C dX6_doDrawnEdit_122 (v := (1 : Int32)) (by decide) ?_
        obtain ⟨u25, eu25, h⟩ := ob1_eq h
        obtain ⟨w26, ew26⟩ := isO_eq eu25
        obtain ⟨G27, eG27, h⟩ := ob1_eq h
        refine z_callVv (h := qv24) (As := [.int v14, .int (1 : Int32)]) (rest := []) (pc := 123) C dX6_doDrawnEdit_123 ml_X6_165 (kX2_take _ _ _ _ G13 qv24 v14 (1 : Int32) G27 eG27) ew26 rfl rfl rfl (Nat.le_of_ble_eq_true rfl) (by decide) ?_
        refine z_goto (pc := 126) C dX6_doDrawnEdit_126 (tgt := 156) (by decide) ?_
        obtain rfl := Option.some.inj h
        exact z_vret (pc := 156) C E dX6_doDrawnEdit_156 ⟨rfl, rfl⟩
  · rw [if_neg c5] at h
    refine z_aload_n (pc := 11) C 2 dX6_doDrawnEdit_11 rfl rfl ?_
    refine z_bipush (pc := 12) C dX6_doDrawnEdit_12 (v := (26 : Int32)) (by decide) ?_
    obtain ⟨u28, eu28, h⟩ := ob1_eq h
    obtain ⟨w29, ew29⟩ := isO_eq eu28
    obtain ⟨v31, G30, ev31, h⟩ := ob2_eq h
    refine z_callVi (h := r1) (As := [.int (26 : Int32)]) (rest := []) (pc := 14) C dX6_doDrawnEdit_14 ml_X6_390 (kX0_draw _ _ _ _ G3 r1 (26 : Int32) (v31, G30) ev31) ew29 rfl rfl rfl (Nat.le_of_ble_eq_true rfl) (by decide) ?_
    refine z_bipush (pc := 17) C dX6_doDrawnEdit_17 (v := (97 : Int32)) (by decide) ?_
    refine z_iadd (pc := 19) C dX6_doDrawnEdit_19 ?_
    obtain ⟨y32, ey32, h⟩ := zlet_eq h
    refine z_topi ey32 ?_
    refine z_istore_n (pc := 20) C dX6_doDrawnEdit_20 rfl (by decide) (show zput _ _ _ = [(3, .int y32), (2, .int v4), (0, .ref r0), (1, .ref r1)] from rfl) ?_
    refine z_aload_n (pc := 21) C 3 dX6_doDrawnEdit_21 rfl rfl ?_
    refine z_aload_n (pc := 22) C 2 dX6_doDrawnEdit_22 rfl rfl ?_
    obtain ⟨qv33, eqv33, h⟩ := ob1_eq h
    refine z_fr (pc := 23) C dX6_doDrawnEdit_23 fl_X6_49 eqv33 ?_
    obtain ⟨v34, ev34, h⟩ := ob1_eq h
    refine z_fi (pc := 26) C dX6_doDrawnEdit_26 fl_X6_104 ev34 ?_
    refine z_iconst (pc := 29) C dX6_doDrawnEdit_29 (v := (1 : Int32)) (by decide) ?_
    refine z_iadd (pc := 30) C dX6_doDrawnEdit_30 ?_
    obtain ⟨u35, eu35, h⟩ := ob1_eq h
    obtain ⟨w36, ew36⟩ := isO_eq eu35
    obtain ⟨v38, G37, ev38, h⟩ := ob2_eq h
    refine z_callVi (h := r1) (As := [.int (v34 + (1 : Int32))]) (rest := []) (pc := 31) C dX6_doDrawnEdit_31 ml_X6_390 (kX0_draw _ _ _ _ G30 r1 (v34 + (1 : Int32)) (v38, G37) ev38) ew36 rfl rfl rfl (Nat.le_of_ble_eq_true rfl) (by decide) ?_
    refine z_istore (pc := 34) C dX6_doDrawnEdit_34 (by decide) (show zput _ _ _ = [(4, .int v38), (3, .int y32), (2, .int v4), (0, .ref r0), (1, .ref r1)] from rfl) ?_
    refine z_aload_n (pc := 36) C 3 dX6_doDrawnEdit_36 rfl rfl ?_
    obtain ⟨qv39, eqv39, h⟩ := ob1_eq h
    refine z_fr (pc := 37) C dX6_doDrawnEdit_37 fl_X6_49 eqv39 ?_
    obtain ⟨v40, ev40, h⟩ := ob1_eq h
    refine z_fi (pc := 40) C dX6_doDrawnEdit_40 fl_X6_104 ev40 ?_
    refine z_sipush (pc := 43) C dX6_doDrawnEdit_43 (v := (3000 : Int32)) (by decide) ?_
    refine z_ic_ge (pc := 46) C dX6_doDrawnEdit_46 (tgt := 87) (by decide) (fun c41 => ?_) (fun c41 => ?_)
    · rw [if_pos c41] at h
      exact z_subL [] (wfX6_doDrawnEdit_b87 C E G37 h) rfl
    · rw [if_neg c41] at h
      refine z_aload_n (pc := 49) C 3 dX6_doDrawnEdit_49 rfl rfl ?_
      obtain ⟨qv42, eqv42, h⟩ := ob1_eq h
      refine z_fr (pc := 50) C dX6_doDrawnEdit_50 fl_X6_23 eqv42 ?_
      obtain ⟨v43, ev43, h⟩ := ob1_eq h
      refine z_fi (pc := 53) C dX6_doDrawnEdit_53 fl_X6_135 ev43 ?_
      refine z_sipush (pc := 56) C dX6_doDrawnEdit_56 (v := (6000 : Int32)) (by decide) ?_
      refine z_ic_ge (pc := 59) C dX6_doDrawnEdit_59 (tgt := 87) (by decide) (fun c44 => ?_) (fun c44 => ?_)
      · rw [if_pos c44] at h
        exact z_subL [] (wfX6_doDrawnEdit_b87 C E G37 h) rfl
      · rw [if_neg c44] at h
        refine z_aload_n (pc := 62) C 3 dX6_doDrawnEdit_62 rfl rfl ?_
        obtain ⟨qv45, eqv45, h⟩ := ob1_eq h
        refine z_fr (pc := 63) C dX6_doDrawnEdit_63 fl_X6_49 eqv45 ?_
        refine z_iload (pc := 66) C 0 dX6_doDrawnEdit_66 rfl ?_
        refine z_aload_n (pc := 68) C 3 dX6_doDrawnEdit_68 rfl rfl ?_
        obtain ⟨qv46, eqv46, h⟩ := ob1_eq h
        refine z_fr (pc := 69) C dX6_doDrawnEdit_69 fl_X6_23 eqv46 ?_
        obtain ⟨u47, eu47, h⟩ := ob1_eq h
        obtain ⟨w48, ew48⟩ := isO_eq eu47
        obtain ⟨v49, ev49, h⟩ := ob1_eq h
        refine z_callVi (h := qv46) (As := []) (rest := [.int v38, .ref qv45]) (pc := 72) C dX6_doDrawnEdit_72 ml_X6_141 (kX4_addedEnd _ _ _ _ G37 qv46  v49 ev49) ew48 rfl rfl rfl (Nat.le_of_ble_eq_true rfl) (by decide) ?_
        refine z_iconst (pc := 75) C dX6_doDrawnEdit_75 (v := (1 : Int32)) (by decide) ?_
        obtain ⟨u50, eu50, h⟩ := ob1_eq h
        obtain ⟨w51, ew51⟩ := isO_eq eu50
        obtain ⟨G52, eG52, h⟩ := ob1_eq h
        refine z_callVv (h := qv45) (As := [.int v38, .int v49, .int (1 : Int32)]) (rest := []) (pc := 76) C dX6_doDrawnEdit_76 ml_X6_144 (kX2_insert _ _ _ _ G37 qv45 v38 v49 (1 : Int32) G52 eG52) ew51 rfl rfl rfl (Nat.le_of_ble_eq_true rfl) (by decide) ?_
        refine z_aload_n (pc := 79) C 3 dX6_doDrawnEdit_79 rfl rfl ?_
        obtain ⟨qv53, eqv53, h⟩ := ob1_eq h
        refine z_fr (pc := 80) C dX6_doDrawnEdit_80 fl_X6_23 eqv53 ?_
        refine z_iload_n (pc := 83) C 1 dX6_doDrawnEdit_83 rfl rfl ?_
        obtain ⟨u54, eu54, h⟩ := ob1_eq h
        obtain ⟨w55, ew55⟩ := isO_eq eu54
        obtain ⟨G56, eG56, h⟩ := ob1_eq h
        refine z_callVv (h := qv53) (As := [.int y32]) (rest := []) (pc := 84) C dX6_doDrawnEdit_84 ml_X6_148 (kX4_add _ _ _ _ G52 qv53 y32 G56 eG56) ew55 rfl rfl rfl (Nat.le_of_ble_eq_true rfl) (by decide) ?_
        exact z_subL [] (wfX6_doDrawnEdit_b87 C E G56 h) rfl
theorem kX6_doDrawnEdit (l : Launch) (D : va_G) (cA : Nat → ClassId) (b : Nat) (G : zH) (r0 : Nat) (r1 : Nat) (out : zH) (h : fX6_doDrawnEdit G r0 r1 = some out) : zM l D cA b yX6_doDrawnEdit cX6_doDrawnEdit 5 none 6 140 [.ref r0, .ref r1] G (poV out) := z_entry rfl (Nat.le_of_ble_eq_true rfl) (fun X C E _ _ _ => wfX6_doDrawnEdit C E G r0 r1 h)
def fX6_years_b66 (G : zH) (r0 : Nat) (x3 : Int32) : Option (Int32 × zH) :=
    ob1 (frf G r0 6 11) fun qv1 =>
    ob1 (frf G r0 6 8) fun qv2 =>
    ob1 (frf G r0 6 3) fun qv3 =>
    ob1 (isO G qv1 3) fun u4 =>
    ob1 (fX3_lay G qv1 qv2 qv3) fun G6 =>
    ob1 (frf G6 r0 6 2) fun qv7 =>
    ob1 (frf G6 r0 6 11) fun qv8 =>
    ob1 (frf G6 r0 6 11) fun qv9 =>
    ob1 (fi G6 qv9 3 2) fun v10 =>
    ob1 (isO G6 qv8 3) fun u11 =>
    ob1 (fX3_sumOf G6 qv8 (0 : Int32) v10) fun v13 =>
    ob1 (frf G6 r0 6 8) fun qv14 =>
    ob1 (fi G6 qv14 2 2) fun v15 =>
    ob1 (frf G6 r0 6 3) fun qv16 =>
    ob1 (fi G6 qv16 4 2) fun v17 =>
    ob1 (isO G6 qv7 5) fun u18 =>
    ob1 (fX5_tell__ G6 qv7 v13.toInt64 v15.toInt64 v17.toInt64) fun G20 =>
    ob1 (frf G20 r0 6 3) fun qv21 =>
    ob1 (fset G20 qv21 4 2 (.int x3)) fun G22 =>
    ob1 (frf G22 r0 6 8) fun qv23 =>
    ob1 (fi G22 qv23 2 3) fun v24 =>
    some (v24, G22)
set_option maxRecDepth 100000 in
set_option maxHeartbeats 4000000 in
theorem wfX6_years_b66 {X : zX} {out : Int32 × zH} (C : zOK X cX6_years yX6_years.cls 6 (some .int) 7 164) (E : zPost X (poI out.1 out.2)) (G : zH) (r0 : Nat) (x3 : Int32) (h : fX6_years_b66 G r0 x3 = some out) : zZ X 66 [(0, .ref r0), (3, .int x3)] [] G := by
  rw [fX6_years_b66] at h
  refine z_aload_n (pc := 66) C 0 dX6_years_66 rfl rfl ?_
  obtain ⟨qv1, eqv1, h⟩ := ob1_eq h
  refine z_fr (pc := 67) C dX6_years_67 fl_X6_59 eqv1 ?_
  refine z_aload_n (pc := 70) C 0 dX6_years_70 rfl rfl ?_
  obtain ⟨qv2, eqv2, h⟩ := ob1_eq h
  refine z_fr (pc := 71) C dX6_years_71 fl_X6_49 eqv2 ?_
  refine z_aload_n (pc := 74) C 0 dX6_years_74 rfl rfl ?_
  obtain ⟨qv3, eqv3, h⟩ := ob1_eq h
  refine z_fr (pc := 75) C dX6_years_75 fl_X6_23 eqv3 ?_
  obtain ⟨u4, eu4, h⟩ := ob1_eq h
  obtain ⟨w5, ew5⟩ := isO_eq eu4
  obtain ⟨G6, eG6, h⟩ := ob1_eq h
  refine z_callVv (h := qv1) (As := [.ref qv2, .ref qv3]) (rest := []) (pc := 78) C dX6_years_78 ml_X6_328 (kX3_lay _ _ _ _ G qv1 qv2 qv3 G6 eG6) ew5 rfl rfl rfl (Nat.le_of_ble_eq_true rfl) (by decide) ?_
  refine z_aload_n (pc := 81) C 0 dX6_years_81 rfl rfl ?_
  obtain ⟨qv7, eqv7, h⟩ := ob1_eq h
  refine z_fr (pc := 82) C dX6_years_82 fl_X6_16 eqv7 ?_
  refine z_aload_n (pc := 85) C 0 dX6_years_85 rfl rfl ?_
  obtain ⟨qv8, eqv8, h⟩ := ob1_eq h
  refine z_fr (pc := 86) C dX6_years_86 fl_X6_59 eqv8 ?_
  refine z_iconst (pc := 89) C dX6_years_89 (v := (0 : Int32)) (by decide) ?_
  refine z_aload_n (pc := 90) C 0 dX6_years_90 rfl rfl ?_
  obtain ⟨qv9, eqv9, h⟩ := ob1_eq h
  refine z_fr (pc := 91) C dX6_years_91 fl_X6_59 eqv9 ?_
  obtain ⟨v10, ev10, h⟩ := ob1_eq h
  refine z_fi (pc := 94) C dX6_years_94 fl_X6_181 ev10 ?_
  obtain ⟨u11, eu11, h⟩ := ob1_eq h
  obtain ⟨w12, ew12⟩ := isO_eq eu11
  obtain ⟨v13, ev13, h⟩ := ob1_eq h
  refine z_callVi (h := qv8) (As := [.int (0 : Int32), .int v10]) (rest := [.ref qv7]) (pc := 97) C dX6_years_97 ml_X6_321 (kX3_sumOf _ _ _ _ G6 qv8 (0 : Int32) v10 v13 ev13) ew12 rfl rfl rfl (Nat.le_of_ble_eq_true rfl) (by decide) ?_
  refine z_i2l (pc := 100) C dX6_years_100 ?_
  refine z_aload_n (pc := 101) C 0 dX6_years_101 rfl rfl ?_
  obtain ⟨qv14, eqv14, h⟩ := ob1_eq h
  refine z_fr (pc := 102) C dX6_years_102 fl_X6_49 eqv14 ?_
  obtain ⟨v15, ev15, h⟩ := ob1_eq h
  refine z_fi (pc := 105) C dX6_years_105 fl_X6_259 ev15 ?_
  refine z_i2l (pc := 108) C dX6_years_108 ?_
  refine z_aload_n (pc := 109) C 0 dX6_years_109 rfl rfl ?_
  obtain ⟨qv16, eqv16, h⟩ := ob1_eq h
  refine z_fr (pc := 110) C dX6_years_110 fl_X6_23 eqv16 ?_
  obtain ⟨v17, ev17, h⟩ := ob1_eq h
  refine z_fi (pc := 113) C dX6_years_113 fl_X6_135 ev17 ?_
  refine z_i2l (pc := 116) C dX6_years_116 ?_
  obtain ⟨u18, eu18, h⟩ := ob1_eq h
  obtain ⟨w19, ew19⟩ := isO_eq eu18
  obtain ⟨G20, eG20, h⟩ := ob1_eq h
  refine z_callVv (h := qv7) (As := [.long v13.toInt64, .long v15.toInt64, .long v17.toInt64]) (rest := []) (pc := 117) C dX6_years_117 ml_X6_282 (kX5_tell__ _ _ _ _ G6 qv7 v13.toInt64 v15.toInt64 v17.toInt64 G20 eG20) ew19 rfl rfl rfl (Nat.le_of_ble_eq_true rfl) (by decide) ?_
  refine z_aload_n (pc := 120) C 0 dX6_years_120 rfl rfl ?_
  obtain ⟨qv21, eqv21, h⟩ := ob1_eq h
  refine z_fr (pc := 121) C dX6_years_121 fl_X6_23 eqv21 ?_
  refine z_iload_n (pc := 124) C 1 dX6_years_124 rfl rfl ?_
  obtain ⟨G22, eG22, h⟩ := ob1_eq h
  refine z_si (pc := 125) C dX6_years_125 fl_X6_135w eG22 ?_
  refine z_aload_n (pc := 128) C 0 dX6_years_128 rfl rfl ?_
  obtain ⟨qv23, eqv23, h⟩ := ob1_eq h
  refine z_fr (pc := 129) C dX6_years_129 fl_X6_49 eqv23 ?_
  obtain ⟨v24, ev24, h⟩ := ob1_eq h
  refine z_fi (pc := 132) C dX6_years_132 fl_X6_104 ev24 ?_
  obtain rfl := Option.some.inj h
  exact z_iret (pc := 135) C E dX6_years_135 ⟨rfl, rfl⟩
def fX6_years_b48 : Nat → zH → Nat → Int32 → Int32 → Nat → Int32 → Option (Int32 × zH)
  | 0, _, _, _, _, _, _ => none
  | n + 1, G, r0, x2, x3, r4, x5 =>
    if x2 ≤ x5 then (fX6_years_b66 G r0 x3) else
    ob1 (isO G r0 6) fun u2 =>
    ob1 (fX6_doDrawnEdit G r0 r4) fun G4 =>
    zlet (x5 + (1 : Int32)) fun y5 =>
    (fX6_years_b48 n) G4 r0 x2 x3 r4 y5
set_option maxRecDepth 100000 in
set_option maxHeartbeats 4000000 in
theorem wfX6_years_b48 {X : zX} {out : Int32 × zH} (C : zOK X cX6_years yX6_years.cls 6 (some .int) 7 164) (E : zPost X (poI out.1 out.2)) : ∀ (n : Nat) (G : zH) (r0 : Nat) (x2 : Int32) (x3 : Int32) (r4 : Nat) (x5 : Int32) (h : fX6_years_b48 n G r0 x2 x3 r4 x5 = some out), zZ X 48 [(0, .ref r0), (2, .int x2), (3, .int x3), (4, .ref r4), (5, .int x5)] [] G := by
  intro n
  induction n with
  | zero => intro G r0 x2 x3 r4 x5 h; cases h
  | succ n ih =>
    intro G r0 x2 x3 r4 x5 h
    rw [fX6_years_b48] at h
    refine z_iload (pc := 48) C 4 dX6_years_48 rfl ?_
    refine z_iload_n (pc := 50) C 1 dX6_years_50 rfl rfl ?_
    refine z_ic_ge (pc := 51) C dX6_years_51 (tgt := 66) (by decide) (fun c1 => ?_) (fun c1 => ?_)
    · rw [if_pos c1] at h
      exact z_subL [0, 2] (wfX6_years_b66 C E G r0 x3 h) rfl
    · rw [if_neg c1] at h
      refine z_aload_n (pc := 54) C 0 dX6_years_54 rfl rfl ?_
      refine z_aload (pc := 55) C 3 dX6_years_55 rfl ?_
      obtain ⟨u2, eu2, h⟩ := ob1_eq h
      obtain ⟨w3, ew3⟩ := isO_eq eu2
      obtain ⟨G4, eG4, h⟩ := ob1_eq h
      refine z_callVv (h := r0) (As := [.ref r4]) (rest := []) (pc := 57) C dX6_years_57 ml_X6_339 (kX6_doDrawnEdit _ _ _ _ G r0 r4 G4 eG4) ew3 rfl rfl rfl (Nat.le_of_ble_eq_true rfl) (by decide) ?_
      obtain ⟨y5, ey5, h⟩ := zlet_eq h
      refine z_iinc (pc := 60) (v := y5) C 4 dX6_years_60 rfl (by rw [ey5]; rfl) (by decide) (show zput _ _ _ = [(5, .int y5), (0, .ref r0), (2, .int x2), (3, .int x3), (4, .ref r4)] from rfl) ?_
      refine z_goto (pc := 63) C dX6_years_63 (tgt := 48) (by decide) ?_
      exact z_subL [1, 2, 3, 4, 0] (ih G4 r0 x2 x3 r4 y5 h) rfl
def fX6_years (G : zH) (r0 : Nat) (x1 : Int32) (x2 : Int32) : Option (Int32 × zH) :=
    if x2 < (1 : Int32) then (some ((-1 : Int32), G)) else
    if x2 ≤ (40 : Int32) then (ob1 (frf G r0 6 3) fun qv3 =>
    ob1 (fi G qv3 4 2) fun v4 =>
    ob1 (frf G r0 6 8) fun qv5 =>
    ob1 (frf G r0 6 4) fun qv6 =>
    ob1 (isO G qv6 1) fun u7 =>
    ob2 (fX1_current G qv6 ) fun qv10 G9 =>
    ob1 (isO G9 qv5 2) fun u11 =>
    ob1 (fX2_become G9 qv5 qv10) fun G13 =>
    ob1 (gP G13 1) fun u14 =>
    zlet (List.length G13) fun qv15 =>
    zlet (G13 ++ [.inr (0, [.int 0])]) fun G16 =>
    ob1 (fX0_init G16 qv15 x1) fun G17 =>
    fX6_years_b48 FU G17 r0 x2 v4 qv15 (0 : Int32)) else
    some ((-1 : Int32), G)
set_option maxRecDepth 100000 in
set_option maxHeartbeats 4000000 in
theorem wfX6_years {X : zX} {out : Int32 × zH} (C : zOK X cX6_years yX6_years.cls 6 (some .int) 7 164) (E : zPost X (poI out.1 out.2)) (G : zH) (r0 : Nat) (x1 : Int32) (x2 : Int32) (h : fX6_years G r0 x1 x2 = some out) : zZ X 0 [(0, .ref r0), (1, .int x1), (2, .int x2)] [] G := by
  rw [fX6_years] at h
  refine z_iload_n (pc := 0) C 2 dX6_years_0 rfl rfl ?_
  refine z_iconst (pc := 1) C dX6_years_1 (v := (1 : Int32)) (by decide) ?_
  refine z_ic_lt (pc := 2) C dX6_years_2 (tgt := 11) (by decide) (fun c1 => ?_) (fun c1 => ?_)
  · rw [if_pos c1] at h
    refine z_iconst (pc := 11) C dX6_years_11 (v := (-1 : Int32)) (by decide) ?_
    obtain rfl := Option.some.inj h
    exact z_iret (pc := 12) C E dX6_years_12 ⟨rfl, rfl⟩
  · rw [if_neg c1] at h
    refine z_iload_n (pc := 5) C 2 dX6_years_5 rfl rfl ?_
    refine z_bipush (pc := 6) C dX6_years_6 (v := (40 : Int32)) (by decide) ?_
    refine z_ic_le (pc := 8) C dX6_years_8 (tgt := 13) (by decide) (fun c2 => ?_) (fun c2 => ?_)
    · rw [if_pos c2] at h
      refine z_aload_n (pc := 13) C 0 dX6_years_13 rfl rfl ?_
      obtain ⟨qv3, eqv3, h⟩ := ob1_eq h
      refine z_fr (pc := 14) C dX6_years_14 fl_X6_23 eqv3 ?_
      obtain ⟨v4, ev4, h⟩ := ob1_eq h
      refine z_fi (pc := 17) C dX6_years_17 fl_X6_135 ev4 ?_
      refine z_istore_n (pc := 20) C dX6_years_20 rfl (by decide) (show zput _ _ _ = [(3, .int v4), (0, .ref r0), (1, .int x1), (2, .int x2)] from rfl) ?_
      refine z_aload_n (pc := 21) C 1 dX6_years_21 rfl rfl ?_
      obtain ⟨qv5, eqv5, h⟩ := ob1_eq h
      refine z_fr (pc := 22) C dX6_years_22 fl_X6_49 eqv5 ?_
      refine z_aload_n (pc := 25) C 1 dX6_years_25 rfl rfl ?_
      obtain ⟨qv6, eqv6, h⟩ := ob1_eq h
      refine z_fr (pc := 26) C dX6_years_26 fl_X6_30 eqv6 ?_
      obtain ⟨u7, eu7, h⟩ := ob1_eq h
      obtain ⟨w8, ew8⟩ := isO_eq eu7
      obtain ⟨qv10, G9, eqv10, h⟩ := ob2_eq h
      refine z_callVr (h := qv6) (As := []) (rest := [.ref qv5]) (pc := 29) C dX6_years_29 ml_X6_84 (kX1_current _ _ _ _ G qv6  (qv10, G9) eqv10) ew8 rfl rfl rfl (Nat.le_of_ble_eq_true rfl) (by decide) ?_
      obtain ⟨u11, eu11, h⟩ := ob1_eq h
      obtain ⟨w12, ew12⟩ := isO_eq eu11
      obtain ⟨G13, eG13, h⟩ := ob1_eq h
      refine z_callVv (h := qv5) (As := [.ref qv10]) (rest := []) (pc := 32) C dX6_years_32 ml_X6_331 (kX2_become _ _ _ _ G9 qv5 qv10 G13 eG13) ew12 rfl rfl rfl (Nat.le_of_ble_eq_true rfl) (by decide) ?_
      obtain ⟨u14, eu14, h⟩ := ob1_eq h
      obtain ⟨qv15, eqv15, h⟩ := zlet_eq h
      obtain ⟨G16, eG16, h⟩ := zlet_eq h
      refine z_gO (ci := 0) (pc := 35) C tyX0 dX6_years_35 rfl uwX0 tyX0_ok ck_X6_335 insX0 iniX0 dfX0 rfl (fun _ => rfl) eu14 eqv15 eG16 ?_
      refine z_dup (pc := 38) C dX6_years_38 rfl ?_
      refine z_iload_n (pc := 39) C 2 dX6_years_39 rfl rfl ?_
      obtain ⟨G17, eG17, h⟩ := ob1_eq h
      refine z_callIv (h := qv15) (As := [.int x1]) (rest := [.ref qv15]) (pc := 40) C dX6_years_40 ml_X6_337 rfl (kX0_init _ _ _ _ G16 qv15 x1 _ eG17) rfl rfl (Nat.le_of_ble_eq_true rfl) (by decide) ?_
      refine z_astore (pc := 43) C dX6_years_43 (by decide) (show zput _ _ _ = [(4, .ref qv15), (3, .int v4), (0, .ref r0), (1, .int x1), (2, .int x2)] from rfl) ?_
      refine z_iconst (pc := 45) C dX6_years_45 (v := (0 : Int32)) (by decide) ?_
      refine z_istore (pc := 46) C dX6_years_46 (by decide) (show zput _ _ _ = [(5, .int (0 : Int32)), (4, .ref qv15), (3, .int v4), (0, .ref r0), (1, .int x1), (2, .int x2)] from rfl) ?_
      exact z_subL [3, 5, 2, 1, 0] (wfX6_years_b48 C E FU G17 r0 x2 v4 qv15 (0 : Int32) h) rfl
    · rw [if_neg c2] at h
      refine z_iconst (pc := 11) C dX6_years_11 (v := (-1 : Int32)) (by decide) ?_
      obtain rfl := Option.some.inj h
      exact z_iret (pc := 12) C E dX6_years_12 ⟨rfl, rfl⟩
theorem kX6_years (l : Launch) (D : va_G) (cA : Nat → ClassId) (b : Nat) (G : zH) (r0 : Nat) (x1 : Int32) (x2 : Int32) (out : Int32 × zH) (h : fX6_years G r0 x1 x2 = some out) : zM l D cA b yX6_years cX6_years 6 (some .int) 7 164 [.ref r0, .int x1, .int x2] G (poI out.1 out.2) := z_entry rfl (Nat.le_of_ble_eq_true rfl) (fun X C E _ _ _ => wfX6_years C E G r0 x1 x2 h)
def fX6_keep_b37 (G : zH) (r0 : Nat) (x1 : Int32) (r2 : Nat) : Option (Int32 × zH) :=
    ob1 (frf G r0 6 4) fun qv1 =>
    ob1 (isO G qv1 1) fun u2 =>
    ob2 (fX1_current G qv1 ) fun qv5 G4 =>
    ob1 (isO G4 r2 2) fun u6 =>
    ob1 (fX2_become G4 r2 qv5) fun G8 =>
    ob1 (frf G8 r0 6 6) fun qv9 =>
    ob1 (aW G8 3 qv9 x1 (vp_nar .boolean (1 : Int32))) fun G10 =>
    some ((1 : Int32), G10)
set_option maxRecDepth 100000 in
set_option maxHeartbeats 4000000 in
theorem wfX6_keep_b37 {X : zX} {out : Int32 × zH} (C : zOK X cX6_keep yX6_keep.cls 3 (some .boolean) 4 89) (E : zPost X (poI out.1 out.2)) (G : zH) (r0 : Nat) (x1 : Int32) (r2 : Nat) (h : fX6_keep_b37 G r0 x1 r2 = some out) : zZ X 37 [(0, .ref r0), (1, .int x1), (2, .ref r2)] [] G := by
  rw [fX6_keep_b37] at h
  refine z_aload_n (pc := 37) C 2 dX6_keep_37 rfl rfl ?_
  refine z_aload_n (pc := 38) C 0 dX6_keep_38 rfl rfl ?_
  obtain ⟨qv1, eqv1, h⟩ := ob1_eq h
  refine z_fr (pc := 39) C dX6_keep_39 fl_X6_30 eqv1 ?_
  obtain ⟨u2, eu2, h⟩ := ob1_eq h
  obtain ⟨w3, ew3⟩ := isO_eq eu2
  obtain ⟨qv5, G4, eqv5, h⟩ := ob2_eq h
  refine z_callVr (h := qv1) (As := []) (rest := [.ref r2]) (pc := 42) C dX6_keep_42 ml_X6_84 (kX1_current _ _ _ _ G qv1  (qv5, G4) eqv5) ew3 rfl rfl rfl (Nat.le_of_ble_eq_true rfl) (by decide) ?_
  obtain ⟨u6, eu6, h⟩ := ob1_eq h
  obtain ⟨w7, ew7⟩ := isO_eq eu6
  obtain ⟨G8, eG8, h⟩ := ob1_eq h
  refine z_callVv (h := r2) (As := [.ref qv5]) (rest := []) (pc := 45) C dX6_keep_45 ml_X6_331 (kX2_become _ _ _ _ G4 r2 qv5 G8 eG8) ew7 rfl rfl rfl (Nat.le_of_ble_eq_true rfl) (by decide) ?_
  refine z_aload_n (pc := 48) C 0 dX6_keep_48 rfl rfl ?_
  obtain ⟨qv9, eqv9, h⟩ := ob1_eq h
  refine z_fr (pc := 49) C dX6_keep_49 fl_X6_40 eqv9 ?_
  refine z_iload_n (pc := 52) C 1 dX6_keep_52 rfl rfl ?_
  refine z_iconst (pc := 53) C dX6_keep_53 (v := (1 : Int32)) (by decide) ?_
  obtain ⟨G10, eG10, h⟩ := ob1_eq h
  refine z_zW (pc := 54) C dX6_keep_54 eG10 ?_
  refine z_iconst (pc := 55) C dX6_keep_55 (v := (1 : Int32)) (by decide) ?_
  obtain rfl := Option.some.inj h
  exact z_zret (pc := 56) C E dX6_keep_56 rfl ⟨rfl, rfl⟩
def fX6_keep (G : zH) (r0 : Nat) (x1 : Int32) : Option (Int32 × zH) :=
    if x1 < 0 then (some ((0 : Int32), G)) else
    if x1 < (3 : Int32) then (ob1 (frf G r0 6 5) fun qv3 =>
    ob1 (qR G 4 qv3 x1) fun oq4 =>
    oq oq4 (ob1 (gP G 6) fun u6 =>
    zlet (List.length G) fun qv7 =>
    zlet (G ++ [.inr (2, [.null, .null, .int 0, .int 0, .null, .null])]) fun G8 =>
    ob1 (fX2_init G8 qv7 ) fun G9 =>
    ob1 (frf G9 r0 6 5) fun qv10 =>
    ob1 (qW G9 qv10 x1 qv7) fun G11 =>
    fX6_keep_b37 G11 r0 x1 qv7) fun qv5 =>
    fX6_keep_b37 G r0 x1 qv5) else
    some ((0 : Int32), G)
set_option maxRecDepth 100000 in
set_option maxHeartbeats 4000000 in
theorem wfX6_keep {X : zX} {out : Int32 × zH} (C : zOK X cX6_keep yX6_keep.cls 3 (some .boolean) 4 89) (E : zPost X (poI out.1 out.2)) (G : zH) (r0 : Nat) (x1 : Int32) (h : fX6_keep G r0 x1 = some out) : zZ X 0 [(0, .ref r0), (1, .int x1)] [] G := by
  rw [fX6_keep] at h
  refine z_iload_n (pc := 0) C 1 dX6_keep_0 rfl rfl ?_
  refine z_if_lt (pc := 1) C dX6_keep_1 (tgt := 9) (by decide) (fun c1 => ?_) (fun c1 => ?_)
  · rw [if_pos c1] at h
    refine z_iconst (pc := 9) C dX6_keep_9 (v := (0 : Int32)) (by decide) ?_
    obtain rfl := Option.some.inj h
    exact z_zret (pc := 10) C E dX6_keep_10 rfl ⟨rfl, rfl⟩
  · rw [if_neg c1] at h
    refine z_iload_n (pc := 4) C 1 dX6_keep_4 rfl rfl ?_
    refine z_iconst (pc := 5) C dX6_keep_5 (v := (3 : Int32)) (by decide) ?_
    refine z_ic_lt (pc := 6) C dX6_keep_6 (tgt := 11) (by decide) (fun c2 => ?_) (fun c2 => ?_)
    · rw [if_pos c2] at h
      refine z_aload_n (pc := 11) C 0 dX6_keep_11 rfl rfl ?_
      obtain ⟨qv3, eqv3, h⟩ := ob1_eq h
      refine z_fr (pc := 12) C dX6_keep_12 fl_X6_36 eqv3 ?_
      refine z_iload_n (pc := 15) C 1 dX6_keep_15 rfl rfl ?_
      obtain ⟨oq4, eoq4, h⟩ := ob1_eq h
      refine z_qR (pc := 16) C dX6_keep_16 eoq4 ?_
      rcases oq_eq h with ⟨rfl, h⟩ | ⟨qv5, rfl, h⟩
      · show zZ X 17 [(0, .ref r0), (1, .int x1)] (.null :: []) G
        refine z_nullS (pc := 17) C dX6_keep_17 rfl (by decide) (show zput _ _ _ = [(2, .null), (0, .ref r0), (1, .int x1)] from rfl) ?_
        refine z_nullL (pc := 18) C 0 dX6_keep_18 rfl rfl ?_
        refine z_nonnullN (pc := 19) C dX6_keep_19 ?_
        obtain ⟨u6, eu6, h⟩ := ob1_eq h
        obtain ⟨qv7, eqv7, h⟩ := zlet_eq h
        obtain ⟨G8, eG8, h⟩ := zlet_eq h
        refine z_gO (ci := 2) (pc := 22) C tyX2 dX6_keep_22 rfl uwX2 tyX2_ok ck_X6_34 insX2 iniX2 dfX2 rfl (fun _ => rfl) eu6 eqv7 eG8 ?_
        refine z_dup (pc := 25) C dX6_keep_25 rfl ?_
        obtain ⟨G9, eG9, h⟩ := ob1_eq h
        refine z_callIv (h := qv7) (As := []) (rest := [.ref qv7]) (pc := 26) C dX6_keep_26 ml_X6_44 rfl (kX2_init _ _ _ _ G8 qv7  _ eG9) rfl rfl (Nat.le_of_ble_eq_true rfl) (by decide) ?_
        refine z_astore_n (pc := 29) C dX6_keep_29 rfl (by decide) (show zput _ _ _ = [(2, .ref qv7), (0, .ref r0), (1, .int x1)] from rfl) ?_
        refine z_aload_n (pc := 30) C 1 dX6_keep_30 rfl rfl ?_
        obtain ⟨qv10, eqv10, h⟩ := ob1_eq h
        refine z_fr (pc := 31) C dX6_keep_31 fl_X6_36 eqv10 ?_
        refine z_iload_n (pc := 34) C 2 dX6_keep_34 rfl rfl ?_
        refine z_aload_n (pc := 35) C 0 dX6_keep_35 rfl rfl ?_
        obtain ⟨G11, eG11, h⟩ := ob1_eq h
        refine z_qW (pc := 36) C dX6_keep_36 eG11 ?_
        exact z_subL [1, 2, 0] (wfX6_keep_b37 C E G11 r0 x1 qv7 h) rfl
      · show zZ X 17 [(0, .ref r0), (1, .int x1)] (.ref qv5 :: []) G
        refine z_astore_n (pc := 17) C dX6_keep_17 rfl (by decide) (show zput _ _ _ = [(2, .ref qv5), (0, .ref r0), (1, .int x1)] from rfl) ?_
        refine z_aload_n (pc := 18) C 0 dX6_keep_18 rfl rfl ?_
        refine z_nonnull (pc := 19) C dX6_keep_19 (tgt := 37) (by decide) ?_
        exact z_subL [1, 2, 0] (wfX6_keep_b37 C E G r0 x1 qv5 h) rfl
    · rw [if_neg c2] at h
      refine z_iconst (pc := 9) C dX6_keep_9 (v := (0 : Int32)) (by decide) ?_
      obtain rfl := Option.some.inj h
      exact z_zret (pc := 10) C E dX6_keep_10 rfl ⟨rfl, rfl⟩
theorem kX6_keep (l : Launch) (D : va_G) (cA : Nat → ClassId) (b : Nat) (G : zH) (r0 : Nat) (x1 : Int32) (out : Int32 × zH) (h : fX6_keep G r0 x1 = some out) : zM l D cA b yX6_keep cX6_keep 3 (some .boolean) 4 89 [.ref r0, .int x1] G (poI out.1 out.2) := z_entry rfl (Nat.le_of_ble_eq_true rfl) (fun X C E _ _ _ => wfX6_keep C E G r0 x1 h)
def fX6_again (G : zH) (r0 : Nat) (x1 : Int32) : Option (Int32 × zH) :=
    if x1 < 0 then (some ((0 : Int32), G)) else
    if (3 : Int32) ≤ x1 then (some ((0 : Int32), G)) else
    ob1 (frf G r0 6 6) fun qv3 =>
    ob1 (aR G 3 qv3 x1) fun v4 =>
    if v4 = 0 then (some ((0 : Int32), G)) else
    ob1 (frf G r0 6 5) fun qv6 =>
    ob1 (qR G 4 qv6 x1) fun oq7 =>
    oq oq7 (some ((0 : Int32), G)) fun qv8 =>
    ob1 (frf G r0 6 4) fun qv9 =>
    ob1 (isO G qv9 1) fun u10 =>
    ob2 (fX1_current G qv9 ) fun qv13 G12 =>
    ob1 (isO G12 qv13 2) fun u14 =>
    ob1 (fX2_become G12 qv13 qv8) fun G16 =>
    ob1 (frf G16 r0 6 4) fun qv17 =>
    ob1 (isO G16 qv17 1) fun u18 =>
    ob1 (fX1_forget G16 qv17 ) fun G20 =>
    ob1 (isO G20 r0 6) fun u21 =>
    ob1 (fX6_bookIsOther G20 r0 ) fun G23 =>
    some ((1 : Int32), G23)
set_option maxRecDepth 100000 in
set_option maxHeartbeats 4000000 in
theorem wfX6_again {X : zX} {out : Int32 × zH} (C : zOK X cX6_again yX6_again.cls 3 (some .boolean) 4 89) (E : zPost X (poI out.1 out.2)) (G : zH) (r0 : Nat) (x1 : Int32) (h : fX6_again G r0 x1 = some out) : zZ X 0 [(0, .ref r0), (1, .int x1)] [] G := by
  rw [fX6_again] at h
  refine z_iload_n (pc := 0) C 1 dX6_again_0 rfl rfl ?_
  refine z_if_lt (pc := 1) C dX6_again_1 (tgt := 18) (by decide) (fun c1 => ?_) (fun c1 => ?_)
  · rw [if_pos c1] at h
    refine z_iconst (pc := 18) C dX6_again_18 (v := (0 : Int32)) (by decide) ?_
    obtain rfl := Option.some.inj h
    exact z_zret (pc := 19) C E dX6_again_19 rfl ⟨rfl, rfl⟩
  · rw [if_neg c1] at h
    refine z_iload_n (pc := 4) C 1 dX6_again_4 rfl rfl ?_
    refine z_iconst (pc := 5) C dX6_again_5 (v := (3 : Int32)) (by decide) ?_
    refine z_ic_ge (pc := 6) C dX6_again_6 (tgt := 18) (by decide) (fun c2 => ?_) (fun c2 => ?_)
    · rw [if_pos c2] at h
      refine z_iconst (pc := 18) C dX6_again_18 (v := (0 : Int32)) (by decide) ?_
      obtain rfl := Option.some.inj h
      exact z_zret (pc := 19) C E dX6_again_19 rfl ⟨rfl, rfl⟩
    · rw [if_neg c2] at h
      refine z_aload_n (pc := 9) C 0 dX6_again_9 rfl rfl ?_
      obtain ⟨qv3, eqv3, h⟩ := ob1_eq h
      refine z_fr (pc := 10) C dX6_again_10 fl_X6_40 eqv3 ?_
      refine z_iload_n (pc := 13) C 1 dX6_again_13 rfl rfl ?_
      obtain ⟨v4, ev4, h⟩ := ob1_eq h
      refine z_zR (pc := 14) C dX6_again_14 ev4 ?_
      refine z_if_ne (pc := 15) C dX6_again_15 (tgt := 20) (by decide) (fun c5 => ?_) (fun c5 => ?_)
      · rw [if_neg c5] at h
        refine z_aload_n (pc := 20) C 0 dX6_again_20 rfl rfl ?_
        obtain ⟨qv6, eqv6, h⟩ := ob1_eq h
        refine z_fr (pc := 21) C dX6_again_21 fl_X6_36 eqv6 ?_
        refine z_iload_n (pc := 24) C 1 dX6_again_24 rfl rfl ?_
        obtain ⟨oq7, eoq7, h⟩ := ob1_eq h
        refine z_qR (pc := 25) C dX6_again_25 eoq7 ?_
        rcases oq_eq h with ⟨rfl, h⟩ | ⟨qv8, rfl, h⟩
        · show zZ X 26 [(0, .ref r0), (1, .int x1)] (.null :: []) G
          refine z_nullS (pc := 26) C dX6_again_26 rfl (by decide) (show zput _ _ _ = [(2, .null), (0, .ref r0), (1, .int x1)] from rfl) ?_
          refine z_nullL (pc := 27) C 0 dX6_again_27 rfl rfl ?_
          refine z_nonnullN (pc := 28) C dX6_again_28 ?_
          refine z_iconst (pc := 31) C dX6_again_31 (v := (0 : Int32)) (by decide) ?_
          obtain rfl := Option.some.inj h
          exact z_zret (pc := 32) C E dX6_again_32 rfl ⟨rfl, rfl⟩
        · show zZ X 26 [(0, .ref r0), (1, .int x1)] (.ref qv8 :: []) G
          refine z_astore_n (pc := 26) C dX6_again_26 rfl (by decide) (show zput _ _ _ = [(2, .ref qv8), (0, .ref r0), (1, .int x1)] from rfl) ?_
          refine z_aload_n (pc := 27) C 0 dX6_again_27 rfl rfl ?_
          refine z_nonnull (pc := 28) C dX6_again_28 (tgt := 33) (by decide) ?_
          refine z_aload_n (pc := 33) C 1 dX6_again_33 rfl rfl ?_
          obtain ⟨qv9, eqv9, h⟩ := ob1_eq h
          refine z_fr (pc := 34) C dX6_again_34 fl_X6_30 eqv9 ?_
          obtain ⟨u10, eu10, h⟩ := ob1_eq h
          obtain ⟨w11, ew11⟩ := isO_eq eu10
          obtain ⟨qv13, G12, eqv13, h⟩ := ob2_eq h
          refine z_callVr (h := qv9) (As := []) (rest := []) (pc := 37) C dX6_again_37 ml_X6_84 (kX1_current _ _ _ _ G qv9  (qv13, G12) eqv13) ew11 rfl rfl rfl (Nat.le_of_ble_eq_true rfl) (by decide) ?_
          refine z_aload_n (pc := 40) C 0 dX6_again_40 rfl rfl ?_
          obtain ⟨u14, eu14, h⟩ := ob1_eq h
          obtain ⟨w15, ew15⟩ := isO_eq eu14
          obtain ⟨G16, eG16, h⟩ := ob1_eq h
          refine z_callVv (h := qv13) (As := [.ref qv8]) (rest := []) (pc := 41) C dX6_again_41 ml_X6_331 (kX2_become _ _ _ _ G12 qv13 qv8 G16 eG16) ew15 rfl rfl rfl (Nat.le_of_ble_eq_true rfl) (by decide) ?_
          refine z_aload_n (pc := 44) C 1 dX6_again_44 rfl rfl ?_
          obtain ⟨qv17, eqv17, h⟩ := ob1_eq h
          refine z_fr (pc := 45) C dX6_again_45 fl_X6_30 eqv17 ?_
          obtain ⟨u18, eu18, h⟩ := ob1_eq h
          obtain ⟨w19, ew19⟩ := isO_eq eu18
          obtain ⟨G20, eG20, h⟩ := ob1_eq h
          refine z_callVv (h := qv17) (As := []) (rest := []) (pc := 48) C dX6_again_48 ml_X6_98 (kX1_forget _ _ _ _ G16 qv17  G20 eG20) ew19 rfl rfl rfl (Nat.le_of_ble_eq_true rfl) (by decide) ?_
          refine z_aload_n (pc := 51) C 1 dX6_again_51 rfl rfl ?_
          obtain ⟨u21, eu21, h⟩ := ob1_eq h
          obtain ⟨w22, ew22⟩ := isO_eq eu21
          obtain ⟨G23, eG23, h⟩ := ob1_eq h
          refine z_callVv (h := r0) (As := []) (rest := []) (pc := 52) C dX6_again_52 ml_X6_101 (kX6_bookIsOther _ _ _ _ G20 r0  G23 eG23) ew22 rfl rfl rfl (Nat.le_of_ble_eq_true rfl) (by decide) ?_
          refine z_iconst (pc := 55) C dX6_again_55 (v := (1 : Int32)) (by decide) ?_
          obtain rfl := Option.some.inj h
          exact z_zret (pc := 56) C E dX6_again_56 rfl ⟨rfl, rfl⟩
      · rw [if_pos c5] at h
        refine z_iconst (pc := 18) C dX6_again_18 (v := (0 : Int32)) (by decide) ?_
        obtain rfl := Option.some.inj h
        exact z_zret (pc := 19) C E dX6_again_19 rfl ⟨rfl, rfl⟩
theorem kX6_again (l : Launch) (D : va_G) (cA : Nat → ClassId) (b : Nat) (G : zH) (r0 : Nat) (x1 : Int32) (out : Int32 × zH) (h : fX6_again G r0 x1 = some out) : zM l D cA b yX6_again cX6_again 3 (some .boolean) 4 89 [.ref r0, .int x1] G (poI out.1 out.2) := z_entry rfl (Nat.le_of_ble_eq_true rfl) (fun X C E _ _ _ => wfX6_again C E G r0 x1 h)
def fX6_count (G : zH) (r0 : Nat) (x1 : Int32) : Option (Int32 × zH) :=
    ob1 (frf G r0 6 4) fun qv1 =>
    ob1 (isO G qv1 1) fun u2 =>
    ob2 (fX1_current G qv1 ) fun qv5 G4 =>
    if x1 = (0 : Int32) then (ob1 (fi G4 qv5 2 3) fun v7 =>
    some (v7, G4)) else
    if x1 = (1 : Int32) then (ob1 (isO G4 r0 6) fun u9 =>
    ob2 (fX6_shownPage G4 r0 ) fun qv12 G11 =>
    ob1 (fi G11 qv5 2 3) fun v13 =>
    ob1 (isO G11 qv12 3) fun u14 =>
    ob1 (fX3_breaksIn G11 qv12 (0 : Int32) v13) fun v16 =>
    some ((v16 + (1 : Int32)), G11)) else
    if x1 = (2 : Int32) then (ob1 (fi G4 qv5 2 2) fun v18 =>
    some (v18, G4)) else
    if x1 = (3 : Int32) then (ob1 (frf G4 r0 6 3) fun qv20 =>
    ob1 (fi G4 qv20 4 2) fun v21 =>
    some (v21, G4)) else
    if x1 = (4 : Int32) then (ob1 (frf G4 r0 6 4) fun qv23 =>
    ob1 (fi G4 qv23 1 2) fun v24 =>
    some (v24, G4)) else
    if x1 = (5 : Int32) then (ob1 (frf G4 r0 6 4) fun qv26 =>
    ob1 (fi G4 qv26 1 3) fun v27 =>
    some (v27, G4)) else
    if x1 = (6 : Int32) then (ob1 (fi G4 qv5 2 3) fun v29 =>
    ob1 (isO G4 qv5 2) fun u30 =>
    ob1 (fX2_marksFrom G4 qv5 (0 : Int32) v29) fun v32 =>
    some (v32, G4)) else
    if x1 = (7 : Int32) then (ob1 (frf G4 r0 6 2) fun qv34 =>
    ob1 (fi G4 qv34 5 1) fun v35 =>
    some (v35, G4)) else
    if x1 = (8 : Int32) then (ob1 (fi G4 r0 6 1) fun v37 =>
    some (v37, G4)) else
    if x1.toInt < 0 ∨ 8 < x1.toInt then (some ((-100 : Int32), G4)) else none
set_option maxRecDepth 100000 in
set_option maxHeartbeats 4000000 in
theorem wfX6_count {X : zX} {out : Int32 × zH} (C : zOK X cX6_count yX6_count.cls 3 (some .int) 5 105) (E : zPost X (poI out.1 out.2)) (G : zH) (r0 : Nat) (x1 : Int32) (h : fX6_count G r0 x1 = some out) : zZ X 0 [(0, .ref r0), (1, .int x1)] [] G := by
  rw [fX6_count] at h
  refine z_aload_n (pc := 0) C 0 dX6_count_0 rfl rfl ?_
  obtain ⟨qv1, eqv1, h⟩ := ob1_eq h
  refine z_fr (pc := 1) C dX6_count_1 fl_X6_30 eqv1 ?_
  obtain ⟨u2, eu2, h⟩ := ob1_eq h
  obtain ⟨w3, ew3⟩ := isO_eq eu2
  obtain ⟨qv5, G4, eqv5, h⟩ := ob2_eq h
  refine z_callVr (h := qv1) (As := []) (rest := []) (pc := 4) C dX6_count_4 ml_X6_84 (kX1_current _ _ _ _ G qv1  (qv5, G4) eqv5) ew3 rfl rfl rfl (Nat.le_of_ble_eq_true rfl) (by decide) ?_
  refine z_astore_n (pc := 7) C dX6_count_7 rfl (by decide) (show zput _ _ _ = [(2, .ref qv5), (0, .ref r0), (1, .int x1)] from rfl) ?_
  refine z_iload_n (pc := 8) C 2 dX6_count_8 rfl rfl ?_
  by_cases c6 : x1 = (0 : Int32)
  · rw [if_pos c6] at h
    refine z_tableIn (pc := 9) (tgt := 60) (off := 51) C dX6_count_9 (by rw [c6]; decide) (by rw [c6]; decide) (by rw [c6]; decide) (by decide) ?_
    refine z_aload_n (pc := 60) C 0 dX6_count_60 rfl rfl ?_
    obtain ⟨v7, ev7, h⟩ := ob1_eq h
    refine z_fi (pc := 61) C dX6_count_61 fl_X6_104 ev7 ?_
    obtain rfl := Option.some.inj h
    exact z_iret (pc := 64) C E dX6_count_64 ⟨rfl, rfl⟩
  rw [if_neg c6] at h
  by_cases c8 : x1 = (1 : Int32)
  · rw [if_pos c8] at h
    refine z_tableIn (pc := 9) (tgt := 65) (off := 56) C dX6_count_9 (by rw [c8]; decide) (by rw [c8]; decide) (by rw [c8]; decide) (by decide) ?_
    refine z_aload_n (pc := 65) C 1 dX6_count_65 rfl rfl ?_
    obtain ⟨u9, eu9, h⟩ := ob1_eq h
    obtain ⟨w10, ew10⟩ := isO_eq eu9
    obtain ⟨qv12, G11, eqv12, h⟩ := ob2_eq h
    refine z_callVr (h := r0) (As := []) (rest := []) (pc := 66) C dX6_count_66 ml_X6_160 (kX6_shownPage _ _ _ _ G4 r0  (qv12, G11) eqv12) ew10 rfl rfl rfl (Nat.le_of_ble_eq_true rfl) (by decide) ?_
    refine z_iconst (pc := 69) C dX6_count_69 (v := (0 : Int32)) (by decide) ?_
    refine z_aload_n (pc := 70) C 0 dX6_count_70 rfl rfl ?_
    obtain ⟨v13, ev13, h⟩ := ob1_eq h
    refine z_fi (pc := 71) C dX6_count_71 fl_X6_104 ev13 ?_
    obtain ⟨u14, eu14, h⟩ := ob1_eq h
    obtain ⟨w15, ew15⟩ := isO_eq eu14
    obtain ⟨v16, ev16, h⟩ := ob1_eq h
    refine z_callVi (h := qv12) (As := [.int (0 : Int32), .int v13]) (rest := []) (pc := 74) C dX6_count_74 ml_X6_164 (kX3_breaksIn _ _ _ _ G11 qv12 (0 : Int32) v13 v16 ev16) ew15 rfl rfl rfl (Nat.le_of_ble_eq_true rfl) (by decide) ?_
    refine z_iconst (pc := 77) C dX6_count_77 (v := (1 : Int32)) (by decide) ?_
    refine z_iadd (pc := 78) C dX6_count_78 ?_
    obtain rfl := Option.some.inj h
    exact z_iret (pc := 79) C E dX6_count_79 ⟨rfl, rfl⟩
  rw [if_neg c8] at h
  by_cases c17 : x1 = (2 : Int32)
  · rw [if_pos c17] at h
    refine z_tableIn (pc := 9) (tgt := 80) (off := 71) C dX6_count_9 (by rw [c17]; decide) (by rw [c17]; decide) (by rw [c17]; decide) (by decide) ?_
    refine z_aload_n (pc := 80) C 0 dX6_count_80 rfl rfl ?_
    obtain ⟨v18, ev18, h⟩ := ob1_eq h
    refine z_fi (pc := 81) C dX6_count_81 fl_X6_259 ev18 ?_
    obtain rfl := Option.some.inj h
    exact z_iret (pc := 84) C E dX6_count_84 ⟨rfl, rfl⟩
  rw [if_neg c17] at h
  by_cases c19 : x1 = (3 : Int32)
  · rw [if_pos c19] at h
    refine z_tableIn (pc := 9) (tgt := 85) (off := 76) C dX6_count_9 (by rw [c19]; decide) (by rw [c19]; decide) (by rw [c19]; decide) (by decide) ?_
    refine z_aload_n (pc := 85) C 1 dX6_count_85 rfl rfl ?_
    obtain ⟨qv20, eqv20, h⟩ := ob1_eq h
    refine z_fr (pc := 86) C dX6_count_86 fl_X6_23 eqv20 ?_
    obtain ⟨v21, ev21, h⟩ := ob1_eq h
    refine z_fi (pc := 89) C dX6_count_89 fl_X6_135 ev21 ?_
    obtain rfl := Option.some.inj h
    exact z_iret (pc := 92) C E dX6_count_92 ⟨rfl, rfl⟩
  rw [if_neg c19] at h
  by_cases c22 : x1 = (4 : Int32)
  · rw [if_pos c22] at h
    refine z_tableIn (pc := 9) (tgt := 93) (off := 84) C dX6_count_9 (by rw [c22]; decide) (by rw [c22]; decide) (by rw [c22]; decide) (by decide) ?_
    refine z_aload_n (pc := 93) C 1 dX6_count_93 rfl rfl ?_
    obtain ⟨qv23, eqv23, h⟩ := ob1_eq h
    refine z_fr (pc := 94) C dX6_count_94 fl_X6_30 eqv23 ?_
    obtain ⟨v24, ev24, h⟩ := ob1_eq h
    refine z_fi (pc := 97) C dX6_count_97 fl_X6_221 ev24 ?_
    obtain rfl := Option.some.inj h
    exact z_iret (pc := 100) C E dX6_count_100 ⟨rfl, rfl⟩
  rw [if_neg c22] at h
  by_cases c25 : x1 = (5 : Int32)
  · rw [if_pos c25] at h
    refine z_tableIn (pc := 9) (tgt := 101) (off := 92) C dX6_count_9 (by rw [c25]; decide) (by rw [c25]; decide) (by rw [c25]; decide) (by decide) ?_
    refine z_aload_n (pc := 101) C 1 dX6_count_101 rfl rfl ?_
    obtain ⟨qv26, eqv26, h⟩ := ob1_eq h
    refine z_fr (pc := 102) C dX6_count_102 fl_X6_30 eqv26 ?_
    obtain ⟨v27, ev27, h⟩ := ob1_eq h
    refine z_fi (pc := 105) C dX6_count_105 fl_X6_227 ev27 ?_
    obtain rfl := Option.some.inj h
    exact z_iret (pc := 108) C E dX6_count_108 ⟨rfl, rfl⟩
  rw [if_neg c25] at h
  by_cases c28 : x1 = (6 : Int32)
  · rw [if_pos c28] at h
    refine z_tableIn (pc := 9) (tgt := 109) (off := 100) C dX6_count_9 (by rw [c28]; decide) (by rw [c28]; decide) (by rw [c28]; decide) (by decide) ?_
    refine z_aload_n (pc := 109) C 0 dX6_count_109 rfl rfl ?_
    refine z_iconst (pc := 110) C dX6_count_110 (v := (0 : Int32)) (by decide) ?_
    refine z_aload_n (pc := 111) C 0 dX6_count_111 rfl rfl ?_
    obtain ⟨v29, ev29, h⟩ := ob1_eq h
    refine z_fi (pc := 112) C dX6_count_112 fl_X6_104 ev29 ?_
    obtain ⟨u30, eu30, h⟩ := ob1_eq h
    obtain ⟨w31, ew31⟩ := isO_eq eu30
    obtain ⟨v32, ev32, h⟩ := ob1_eq h
    refine z_callVi (h := qv5) (As := [.int (0 : Int32), .int v29]) (rest := []) (pc := 115) C dX6_count_115 ml_X6_251 (kX2_marksFrom _ _ _ _ G4 qv5 (0 : Int32) v29 v32 ev32) ew31 rfl rfl rfl (Nat.le_of_ble_eq_true rfl) (by decide) ?_
    obtain rfl := Option.some.inj h
    exact z_iret (pc := 118) C E dX6_count_118 ⟨rfl, rfl⟩
  rw [if_neg c28] at h
  by_cases c33 : x1 = (7 : Int32)
  · rw [if_pos c33] at h
    refine z_tableIn (pc := 9) (tgt := 119) (off := 110) C dX6_count_9 (by rw [c33]; decide) (by rw [c33]; decide) (by rw [c33]; decide) (by decide) ?_
    refine z_aload_n (pc := 119) C 1 dX6_count_119 rfl rfl ?_
    obtain ⟨qv34, eqv34, h⟩ := ob1_eq h
    refine z_fr (pc := 120) C dX6_count_120 fl_X6_16 eqv34 ?_
    obtain ⟨v35, ev35, h⟩ := ob1_eq h
    refine z_fi (pc := 123) C dX6_count_123 fl_X6_343 ev35 ?_
    obtain rfl := Option.some.inj h
    exact z_iret (pc := 126) C E dX6_count_126 ⟨rfl, rfl⟩
  rw [if_neg c33] at h
  by_cases c36 : x1 = (8 : Int32)
  · rw [if_pos c36] at h
    refine z_tableIn (pc := 9) (tgt := 127) (off := 118) C dX6_count_9 (by rw [c36]; decide) (by rw [c36]; decide) (by rw [c36]; decide) (by decide) ?_
    refine z_aload_n (pc := 127) C 1 dX6_count_127 rfl rfl ?_
    obtain ⟨v37, ev37, h⟩ := ob1_eq h
    refine z_fi (pc := 128) C dX6_count_128 fl_X6_69 ev37 ?_
    obtain rfl := Option.some.inj h
    exact z_iret (pc := 131) C E dX6_count_131 ⟨rfl, rfl⟩
  rw [if_neg c36] at h
  by_cases c38 : x1.toInt < 0 ∨ 8 < x1.toInt
  · rw [if_pos c38] at h
    refine z_tableOut (pc := 9) (tgt := 132) C dX6_count_9 c38 (by decide) ?_
    refine z_bipush (pc := 132) C dX6_count_132 (v := (-100 : Int32)) (by decide) ?_
    obtain rfl := Option.some.inj h
    exact z_iret (pc := 134) C E dX6_count_134 ⟨rfl, rfl⟩
  · rw [if_neg c38] at h
    cases h
theorem kX6_count (l : Launch) (D : va_G) (cA : Nat → ClassId) (b : Nat) (G : zH) (r0 : Nat) (x1 : Int32) (out : Int32 × zH) (h : fX6_count G r0 x1 = some out) : zM l D cA b yX6_count cX6_count 3 (some .int) 5 105 [.ref r0, .int x1] G (poI out.1 out.2) := z_entry rfl (Nat.le_of_ble_eq_true rfl) (fun X C E _ _ _ => wfX6_count C E G r0 x1 h)
def fX6_row_b15 (G : zH) : Option Int64 :=
    none
set_option maxRecDepth 100000 in
set_option maxHeartbeats 4000000 in
theorem wfX6_row_b15 {X : zX} {G : zH} {out : Int64} (C : zOK X cX6_row yX6_row.cls 2 (some .long) 0 0) (E : zPost X (poL out G)) (h : fX6_row_b15 G = some out) : zZ X 15 [] [] G := by
  rw [fX6_row_b15] at h
  cases h
def fX6_row (G : zH) (r0 : Nat) (x1 : Int32) : Option Int64 :=
    if x1 < 0 then (fX6_row_b15 G) else
    ob1 (frf G r0 6 2) fun qv2 =>
    ob1 (fi G qv2 5 1) fun v3 =>
    if x1 < v3 then (ob1 (frf G r0 6 2) fun qv5 =>
    ob1 (frf G qv5 5 0) fun qv6 =>
    ob1 (jR G qv6 x1) fun v7 =>
    some v7) else
    fX6_row_b15 G
set_option maxRecDepth 100000 in
set_option maxHeartbeats 4000000 in
theorem wfX6_row {X : zX} {G : zH} {out : Int64} (C : zOK X cX6_row yX6_row.cls 2 (some .long) 0 0) (E : zPost X (poL out G)) (r0 : Nat) (x1 : Int32) (h : fX6_row G r0 x1 = some out) : zZ X 0 [(0, .ref r0), (1, .int x1)] [] G := by
  rw [fX6_row] at h
  refine z_iload_n (pc := 0) C 1 dX6_row_0 rfl rfl ?_
  refine z_if_lt (pc := 1) C dX6_row_1 (tgt := 15) (by decide) (fun c1 => ?_) (fun c1 => ?_)
  · rw [if_pos c1] at h
    exact z_subL [] (wfX6_row_b15 C E h) rfl
  · rw [if_neg c1] at h
    refine z_iload_n (pc := 4) C 1 dX6_row_4 rfl rfl ?_
    refine z_aload_n (pc := 5) C 0 dX6_row_5 rfl rfl ?_
    obtain ⟨qv2, eqv2, h⟩ := ob1_eq h
    refine z_fr (pc := 6) C dX6_row_6 fl_X6_16 eqv2 ?_
    obtain ⟨v3, ev3, h⟩ := ob1_eq h
    refine z_fi (pc := 9) C dX6_row_9 fl_X6_343 ev3 ?_
    refine z_ic_lt (pc := 12) C dX6_row_12 (tgt := 26) (by decide) (fun c4 => ?_) (fun c4 => ?_)
    · rw [if_pos c4] at h
      refine z_aload_n (pc := 26) C 0 dX6_row_26 rfl rfl ?_
      obtain ⟨qv5, eqv5, h⟩ := ob1_eq h
      refine z_fr (pc := 27) C dX6_row_27 fl_X6_16 eqv5 ?_
      obtain ⟨qv6, eqv6, h⟩ := ob1_eq h
      refine z_fr (pc := 30) C dX6_row_30 fl_X6_346 eqv6 ?_
      refine z_iload_n (pc := 33) C 1 dX6_row_33 rfl rfl ?_
      obtain ⟨v7, ev7, h⟩ := ob1_eq h
      refine z_jR (pc := 34) C dX6_row_34 ev7 ?_
      obtain rfl := Option.some.inj h
      exact z_lret (pc := 35) C E dX6_row_35 ⟨rfl, rfl⟩
    · rw [if_neg c4] at h
      exact z_subL [] (wfX6_row_b15 C E h) rfl
theorem kX6_row (l : Launch) (D : va_G) (cA : Nat → ClassId) (b : Nat) (G : zH) (r0 : Nat) (x1 : Int32) (out : Int64) (h : fX6_row G r0 x1 = some out) : zM l D cA b yX6_row cX6_row 2 (some .long) 0 0 [.ref r0, .int x1] G (poL out G) := z_entry rfl (Nat.le_of_ble_eq_true rfl) (fun X C E _ _ _ => wfX6_row C E r0 x1 h)
