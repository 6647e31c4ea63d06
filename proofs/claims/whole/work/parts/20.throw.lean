def tX6_store_b18 (G : zH) : Option zH :=
    some G
set_option maxRecDepth 100000 in
set_option maxHeartbeats 4000000 in
theorem wtX6_store_b18 {X : zX} {out : zH} (C : zOK X cX6_store yX6_store.cls 3 (some .int) 8 186) (E : ∀ lv, zZ X 18 lv [] out) (G : zH) (h : tX6_store_b18 G = some out) : zZ X 18 [] [] G := by
  rw [tX6_store_b18] at h
  obtain rfl := Option.some.inj h
  exact E _
def tX6_store (G : zH) (r0 : Nat) (x1 : Int32) (x2 : Int32) : Option zH :=
    if x1 < 0 then (tX6_store_b18 G) else
    if (1 : Int32) < x1 then (tX6_store_b18 G) else
    if x2 < 0 then (tX6_store_b18 G) else
    if x2 ≤ (2 : Int32) then (if x2 = 0 then (ob1 (frf G r0 6 3) fun qv24 =>
    ob1 (isO G qv24 4) fun u25 =>
    ob1 (fX4_sizeOf G qv24 x1) fun v27 =>
    none) else
    if x2 = (1 : Int32) then (ob1 (frf G r0 6 3) fun qv15 =>
    ob1 (fX6_baseOf x1) fun v16 =>
    ob1 (frf G r0 6 3) fun qv17 =>
    ob1 (isO G qv17 4) fun u18 =>
    ob1 (fX4_sizeOf G qv17 x1) fun v20 =>
    ob1 (isO G qv15 4) fun u21 =>
    ob1 (fX4_breaksIn G qv15 v16 v20) fun v23 =>
    none) else
    ob1 (frf G r0 6 4) fun qv7 =>
    ob1 (isO G qv7 1) fun u8 =>
    ob2 (fX1_current G qv7 ) fun qv11 G10 =>
    ob1 (isO G10 qv11 2) fun u12 =>
    ob1 (fX2_piecesOf G10 qv11 x1) fun v14 =>
    none) else
    tX6_store_b18 G
set_option maxRecDepth 100000 in
set_option maxHeartbeats 4000000 in
theorem wtX6_store {X : zX} {out : zH} (C : zOK X cX6_store yX6_store.cls 3 (some .int) 8 186) (E : ∀ lv, zZ X 18 lv [] out) (G : zH) (r0 : Nat) (x1 : Int32) (x2 : Int32) (h : tX6_store G r0 x1 x2 = some out) : zZ X 0 [(0, .ref r0), (1, .int x1), (2, .int x2)] [] G := by
  rw [tX6_store] at h
  refine z_iload_n (pc := 0) C 1 dX6_store_0 rfl rfl ?_
  refine z_if_lt (pc := 1) C dX6_store_1 (tgt := 18) (by decide) (fun c1 => ?_) (fun c1 => ?_)
  · rw [if_pos c1] at h
    exact z_subL [] (wtX6_store_b18 C E G h) rfl
  · rw [if_neg c1] at h
    refine z_iload_n (pc := 4) C 1 dX6_store_4 rfl rfl ?_
    refine z_iconst (pc := 5) C dX6_store_5 (v := (1 : Int32)) (by decide) ?_
    refine z_ic_gt (pc := 6) C dX6_store_6 (tgt := 18) (by decide) (fun c2 => ?_) (fun c2 => ?_)
    · rw [if_pos c2] at h
      exact z_subL [] (wtX6_store_b18 C E G h) rfl
    · rw [if_neg c2] at h
      refine z_iload_n (pc := 9) C 2 dX6_store_9 rfl rfl ?_
      refine z_if_lt (pc := 10) C dX6_store_10 (tgt := 18) (by decide) (fun c3 => ?_) (fun c3 => ?_)
      · rw [if_pos c3] at h
        exact z_subL [] (wtX6_store_b18 C E G h) rfl
      · rw [if_neg c3] at h
        refine z_iload_n (pc := 13) C 2 dX6_store_13 rfl rfl ?_
        refine z_iconst (pc := 14) C dX6_store_14 (v := (2 : Int32)) (by decide) ?_
        refine z_ic_le (pc := 15) C dX6_store_15 (tgt := 28) (by decide) (fun c4 => ?_) (fun c4 => ?_)
        · rw [if_pos c4] at h
          refine z_iload_n (pc := 28) C 2 dX6_store_28 rfl rfl ?_
          refine z_if_ne (pc := 29) C dX6_store_29 (tgt := 41) (by decide) (fun c5 => ?_) (fun c5 => ?_)
          · rw [if_neg c5] at h
            refine z_iload_n (pc := 41) C 2 dX6_store_41 rfl rfl ?_
            refine z_iconst (pc := 42) C dX6_store_42 (v := (1 : Int32)) (by decide) ?_
            refine z_ic_ne (pc := 43) C dX6_store_43 (tgt := 66) (by decide) (fun c6 => ?_) (fun c6 => ?_)
            · rw [if_neg c6] at h
              refine z_aload_n (pc := 66) C 0 dX6_store_66 rfl rfl ?_
              obtain ⟨qv7, eqv7, h⟩ := ob1_eq h
              refine z_fr (pc := 67) C dX6_store_67 fl_X6_30 eqv7 ?_
              obtain ⟨u8, eu8, h⟩ := ob1_eq h
              obtain ⟨w9, ew9⟩ := isO_eq eu8
              obtain ⟨qv11, G10, eqv11, h⟩ := ob2_eq h
              refine z_callVr (h := qv7) (As := []) (rest := []) (pc := 70) C dX6_store_70 ml_X6_84 (kX1_current _ _ _ _ G qv7  (qv11, G10) eqv11) ew9 rfl rfl rfl (Nat.le_of_ble_eq_true rfl) (by decide) ?_
              refine z_iload_n (pc := 73) C 1 dX6_store_73 rfl rfl ?_
              obtain ⟨u12, eu12, h⟩ := ob1_eq h
              obtain ⟨w13, ew13⟩ := isO_eq eu12
              obtain ⟨v14, ev14, h⟩ := ob1_eq h
              refine z_callVi (h := qv11) (As := [.int x1]) (rest := []) (pc := 74) C dX6_store_74 ml_X6_124 (kX2_piecesOf _ _ _ _ G10 qv11 x1 v14 ev14) ew13 rfl rfl rfl (Nat.le_of_ble_eq_true rfl) (by decide) ?_
              cases h
            · rw [if_pos c6] at h
              refine z_aload_n (pc := 46) C 0 dX6_store_46 rfl rfl ?_
              obtain ⟨qv15, eqv15, h⟩ := ob1_eq h
              refine z_fr (pc := 47) C dX6_store_47 fl_X6_23 eqv15 ?_
              refine z_iload_n (pc := 50) C 1 dX6_store_50 rfl rfl ?_
              obtain ⟨v16, ev16, h⟩ := ob1_eq h
              refine z_callSi (As := [.int x1]) (rest := [.ref qv15]) (pc := 51) C dX6_store_51 ml_X6_117 (kX6_baseOf _ _ _ _ G x1 _ ev16) rfl rfl (Nat.le_of_ble_eq_true rfl) (by decide) ?_
              refine z_aload_n (pc := 54) C 0 dX6_store_54 rfl rfl ?_
              obtain ⟨qv17, eqv17, h⟩ := ob1_eq h
              refine z_fr (pc := 55) C dX6_store_55 fl_X6_23 eqv17 ?_
              refine z_iload_n (pc := 58) C 1 dX6_store_58 rfl rfl ?_
              obtain ⟨u18, eu18, h⟩ := ob1_eq h
              obtain ⟨w19, ew19⟩ := isO_eq eu18
              obtain ⟨v20, ev20, h⟩ := ob1_eq h
              refine z_callVi (h := qv17) (As := [.int x1]) (rest := [.int v16, .ref qv15]) (pc := 59) C dX6_store_59 ml_X6_114 (kX4_sizeOf _ _ _ _ G qv17 x1 v20 ev20) ew19 rfl rfl rfl (Nat.le_of_ble_eq_true rfl) (by decide) ?_
              obtain ⟨u21, eu21, h⟩ := ob1_eq h
              obtain ⟨w22, ew22⟩ := isO_eq eu21
              obtain ⟨v23, ev23, h⟩ := ob1_eq h
              refine z_callVi (h := qv15) (As := [.int v16, .int v20]) (rest := []) (pc := 62) C dX6_store_62 ml_X6_120 (kX4_breaksIn _ _ _ _ G qv15 v16 v20 v23 ev23) ew22 rfl rfl rfl (Nat.le_of_ble_eq_true rfl) (by decide) ?_
              cases h
          · rw [if_pos c5] at h
            refine z_aload_n (pc := 32) C 0 dX6_store_32 rfl rfl ?_
            obtain ⟨qv24, eqv24, h⟩ := ob1_eq h
            refine z_fr (pc := 33) C dX6_store_33 fl_X6_23 eqv24 ?_
            refine z_iload_n (pc := 36) C 1 dX6_store_36 rfl rfl ?_
            obtain ⟨u25, eu25, h⟩ := ob1_eq h
            obtain ⟨w26, ew26⟩ := isO_eq eu25
            obtain ⟨v27, ev27, h⟩ := ob1_eq h
            refine z_callVi (h := qv24) (As := [.int x1]) (rest := []) (pc := 37) C dX6_store_37 ml_X6_114 (kX4_sizeOf _ _ _ _ G qv24 x1 v27 ev27) ew26 rfl rfl rfl (Nat.le_of_ble_eq_true rfl) (by decide) ?_
            cases h
        · rw [if_neg c4] at h
          exact z_subL [] (wtX6_store_b18 C E G h) rfl
def tX6_piece_b29 (G : zH) : Option zH :=
    some G
set_option maxRecDepth 100000 in
set_option maxHeartbeats 4000000 in
theorem wtX6_piece_b29 {X : zX} {out : zH} (C : zOK X cX6_piece yX6_piece.cls 4 (some .int) 8 186) (E : ∀ lv, zZ X 29 lv [] out) (G : zH) (h : tX6_piece_b29 G = some out) : zZ X 29 [] [] G := by
  rw [tX6_piece_b29] at h
  obtain rfl := Option.some.inj h
  exact E _
def tX6_piece (G : zH) (r0 : Nat) (x1 : Int32) (x2 : Int32) : Option zH :=
    ob1 (frf G r0 6 4) fun qv1 =>
    ob1 (isO G qv1 1) fun u2 =>
    ob2 (fX1_current G qv1 ) fun qv5 G4 =>
    if x1 < 0 then (tX6_piece_b29 G4) else
    ob1 (fi G4 qv5 2 2) fun v7 =>
    if v7 ≤ x1 then (tX6_piece_b29 G4) else
    if x2 < 0 then (tX6_piece_b29 G4) else
    if x2 ≤ (4 : Int32) then (if x2 = (0 : Int32) then (ob1 (frf G4 qv5 2 0) fun qv12 =>
    ob1 (aR G4 0 qv12 x1) fun v13 =>
    ob1 (fX6_storeOf v13) fun v14 =>
    none) else
    if x2 = (1 : Int32) then (ob1 (frf G4 qv5 2 0) fun qv16 =>
    ob1 (aR G4 0 qv16 x1) fun v17 =>
    ob1 (fX6_placeInStore v17) fun v18 =>
    none) else
    if x2 = (2 : Int32) then (ob1 (frf G4 qv5 2 1) fun qv20 =>
    ob1 (aR G4 0 qv20 x1) fun v21 =>
    none) else
    if x2 = (3 : Int32) then (ob1 (frf G4 r0 6 3) fun qv23 =>
    ob1 (frf G4 qv5 2 0) fun qv24 =>
    ob1 (aR G4 0 qv24 x1) fun v25 =>
    ob1 (frf G4 qv5 2 1) fun qv26 =>
    ob1 (aR G4 0 qv26 x1) fun v27 =>
    ob1 (isO G4 qv23 4) fun u28 =>
    ob1 (fX4_breaksIn G4 qv23 v25 v27) fun v30 =>
    none) else
    if x2.toInt < 0 ∨ 3 < x2.toInt then (ob1 (isO G4 qv5 2) fun u32 =>
    ob1 (fX2_beginOf G4 qv5 x1) fun v34 =>
    none) else none) else
    tX6_piece_b29 G4
set_option maxRecDepth 100000 in
set_option maxHeartbeats 4000000 in
theorem wtX6_piece {X : zX} {out : zH} (C : zOK X cX6_piece yX6_piece.cls 4 (some .int) 8 186) (E : ∀ lv, zZ X 29 lv [] out) (G : zH) (r0 : Nat) (x1 : Int32) (x2 : Int32) (h : tX6_piece G r0 x1 x2 = some out) : zZ X 0 [(0, .ref r0), (1, .int x1), (2, .int x2)] [] G := by
  rw [tX6_piece] at h
  refine z_aload_n (pc := 0) C 0 dX6_piece_0 rfl rfl ?_
  obtain ⟨qv1, eqv1, h⟩ := ob1_eq h
  refine z_fr (pc := 1) C dX6_piece_1 fl_X6_30 eqv1 ?_
  obtain ⟨u2, eu2, h⟩ := ob1_eq h
  obtain ⟨w3, ew3⟩ := isO_eq eu2
  obtain ⟨qv5, G4, eqv5, h⟩ := ob2_eq h
  refine z_callVr (h := qv1) (As := []) (rest := []) (pc := 4) C dX6_piece_4 ml_X6_84 (kX1_current _ _ _ _ G qv1  (qv5, G4) eqv5) ew3 rfl rfl rfl (Nat.le_of_ble_eq_true rfl) (by decide) ?_
  refine z_astore_n (pc := 7) C dX6_piece_7 rfl (by decide) (show zput _ _ _ = [(3, .ref qv5), (0, .ref r0), (1, .int x1), (2, .int x2)] from rfl) ?_
  refine z_iload_n (pc := 8) C 2 dX6_piece_8 rfl rfl ?_
  refine z_if_lt (pc := 9) C dX6_piece_9 (tgt := 29) (by decide) (fun c6 => ?_) (fun c6 => ?_)
  · rw [if_pos c6] at h
    exact z_subL [] (wtX6_piece_b29 C E G4 h) rfl
  · rw [if_neg c6] at h
    refine z_iload_n (pc := 12) C 2 dX6_piece_12 rfl rfl ?_
    refine z_aload_n (pc := 13) C 0 dX6_piece_13 rfl rfl ?_
    obtain ⟨v7, ev7, h⟩ := ob1_eq h
    refine z_fi (pc := 14) C dX6_piece_14 fl_X6_259 ev7 ?_
    refine z_ic_ge (pc := 17) C dX6_piece_17 (tgt := 29) (by decide) (fun c8 => ?_) (fun c8 => ?_)
    · rw [if_pos c8] at h
      exact z_subL [] (wtX6_piece_b29 C E G4 h) rfl
    · rw [if_neg c8] at h
      refine z_iload_n (pc := 20) C 3 dX6_piece_20 rfl rfl ?_
      refine z_if_lt (pc := 21) C dX6_piece_21 (tgt := 29) (by decide) (fun c9 => ?_) (fun c9 => ?_)
      · rw [if_pos c9] at h
        exact z_subL [] (wtX6_piece_b29 C E G4 h) rfl
      · rw [if_neg c9] at h
        refine z_iload_n (pc := 24) C 3 dX6_piece_24 rfl rfl ?_
        refine z_iconst (pc := 25) C dX6_piece_25 (v := (4 : Int32)) (by decide) ?_
        refine z_ic_le (pc := 26) C dX6_piece_26 (tgt := 40) (by decide) (fun c10 => ?_) (fun c10 => ?_)
        · rw [if_pos c10] at h
          refine z_iload_n (pc := 40) C 3 dX6_piece_40 rfl rfl ?_
          by_cases c11 : x2 = (0 : Int32)
          · rw [if_pos c11] at h
            refine z_tableIn (pc := 41) (tgt := 72) (off := 31) C dX6_piece_41 (by rw [c11]; decide) (by rw [c11]; decide) (by rw [c11]; decide) (by decide) ?_
            refine z_aload_n (pc := 72) C 0 dX6_piece_72 rfl rfl ?_
            obtain ⟨qv12, eqv12, h⟩ := ob1_eq h
            refine z_fr (pc := 73) C dX6_piece_73 fl_X6_264 eqv12 ?_
            refine z_iload_n (pc := 76) C 2 dX6_piece_76 rfl rfl ?_
            obtain ⟨v13, ev13, h⟩ := ob1_eq h
            refine z_aR (pc := 77) C dX6_piece_77 ev13 ?_
            obtain ⟨v14, ev14, h⟩ := ob1_eq h
            refine z_callSi (As := [.int v13]) (rest := []) (pc := 78) C dX6_piece_78 ml_X6_267 (kX6_storeOf _ _ _ _ G4 v13 _ ev14) rfl rfl (Nat.le_of_ble_eq_true rfl) (by decide) ?_
            cases h
          rw [if_neg c11] at h
          by_cases c15 : x2 = (1 : Int32)
          · rw [if_pos c15] at h
            refine z_tableIn (pc := 41) (tgt := 82) (off := 41) C dX6_piece_41 (by rw [c15]; decide) (by rw [c15]; decide) (by rw [c15]; decide) (by decide) ?_
            refine z_aload_n (pc := 82) C 0 dX6_piece_82 rfl rfl ?_
            obtain ⟨qv16, eqv16, h⟩ := ob1_eq h
            refine z_fr (pc := 83) C dX6_piece_83 fl_X6_264 eqv16 ?_
            refine z_iload_n (pc := 86) C 2 dX6_piece_86 rfl rfl ?_
            obtain ⟨v17, ev17, h⟩ := ob1_eq h
            refine z_aR (pc := 87) C dX6_piece_87 ev17 ?_
            obtain ⟨v18, ev18, h⟩ := ob1_eq h
            refine z_callSi (As := [.int v17]) (rest := []) (pc := 88) C dX6_piece_88 ml_X6_270 (kX6_placeInStore _ _ _ _ G4 v17 _ ev18) rfl rfl (Nat.le_of_ble_eq_true rfl) (by decide) ?_
            cases h
          rw [if_neg c15] at h
          by_cases c19 : x2 = (2 : Int32)
          · rw [if_pos c19] at h
            refine z_tableIn (pc := 41) (tgt := 92) (off := 51) C dX6_piece_41 (by rw [c19]; decide) (by rw [c19]; decide) (by rw [c19]; decide) (by decide) ?_
            refine z_aload_n (pc := 92) C 0 dX6_piece_92 rfl rfl ?_
            obtain ⟨qv20, eqv20, h⟩ := ob1_eq h
            refine z_fr (pc := 93) C dX6_piece_93 fl_X6_273 eqv20 ?_
            refine z_iload_n (pc := 96) C 2 dX6_piece_96 rfl rfl ?_
            obtain ⟨v21, ev21, h⟩ := ob1_eq h
            refine z_aR (pc := 97) C dX6_piece_97 ev21 ?_
            cases h
          rw [if_neg c19] at h
          by_cases c22 : x2 = (3 : Int32)
          · rw [if_pos c22] at h
            refine z_tableIn (pc := 41) (tgt := 99) (off := 58) C dX6_piece_41 (by rw [c22]; decide) (by rw [c22]; decide) (by rw [c22]; decide) (by decide) ?_
            refine z_aload_n (pc := 99) C 1 dX6_piece_99 rfl rfl ?_
            obtain ⟨qv23, eqv23, h⟩ := ob1_eq h
            refine z_fr (pc := 100) C dX6_piece_100 fl_X6_23 eqv23 ?_
            refine z_aload_n (pc := 103) C 0 dX6_piece_103 rfl rfl ?_
            obtain ⟨qv24, eqv24, h⟩ := ob1_eq h
            refine z_fr (pc := 104) C dX6_piece_104 fl_X6_264 eqv24 ?_
            refine z_iload_n (pc := 107) C 2 dX6_piece_107 rfl rfl ?_
            obtain ⟨v25, ev25, h⟩ := ob1_eq h
            refine z_aR (pc := 108) C dX6_piece_108 ev25 ?_
            refine z_aload_n (pc := 109) C 0 dX6_piece_109 rfl rfl ?_
            obtain ⟨qv26, eqv26, h⟩ := ob1_eq h
            refine z_fr (pc := 110) C dX6_piece_110 fl_X6_273 eqv26 ?_
            refine z_iload_n (pc := 113) C 2 dX6_piece_113 rfl rfl ?_
            obtain ⟨v27, ev27, h⟩ := ob1_eq h
            refine z_aR (pc := 114) C dX6_piece_114 ev27 ?_
            obtain ⟨u28, eu28, h⟩ := ob1_eq h
            obtain ⟨w29, ew29⟩ := isO_eq eu28
            obtain ⟨v30, ev30, h⟩ := ob1_eq h
            refine z_callVi (h := qv23) (As := [.int v25, .int v27]) (rest := []) (pc := 115) C dX6_piece_115 ml_X6_120 (kX4_breaksIn _ _ _ _ G4 qv23 v25 v27 v30 ev30) ew29 rfl rfl rfl (Nat.le_of_ble_eq_true rfl) (by decide) ?_
            cases h
          rw [if_neg c22] at h
          by_cases c31 : x2.toInt < 0 ∨ 3 < x2.toInt
          · rw [if_pos c31] at h
            refine z_tableOut (pc := 41) (tgt := 119) C dX6_piece_41 c31 (by decide) ?_
            refine z_aload_n (pc := 119) C 0 dX6_piece_119 rfl rfl ?_
            refine z_iload_n (pc := 120) C 2 dX6_piece_120 rfl rfl ?_
            obtain ⟨u32, eu32, h⟩ := ob1_eq h
            obtain ⟨w33, ew33⟩ := isO_eq eu32
            obtain ⟨v34, ev34, h⟩ := ob1_eq h
            refine z_callVi (h := qv5) (As := [.int x1]) (rest := []) (pc := 121) C dX6_piece_121 ml_X6_276 (kX2_beginOf _ _ _ _ G4 qv5 x1 v34 ev34) ew33 rfl rfl rfl (Nat.le_of_ble_eq_true rfl) (by decide) ?_
            cases h
          · rw [if_neg c31] at h
            cases h
        · rw [if_neg c10] at h
          exact z_subL [] (wtX6_piece_b29 C E G4 h) rfl
def tX6_row_b15 (G : zH) : Option zH :=
    some G
set_option maxRecDepth 100000 in
set_option maxHeartbeats 4000000 in
theorem wtX6_row_b15 {X : zX} {out : zH} (C : zOK X cX6_row yX6_row.cls 2 (some .long) 8 186) (E : ∀ lv, zZ X 15 lv [] out) (G : zH) (h : tX6_row_b15 G = some out) : zZ X 15 [] [] G := by
  rw [tX6_row_b15] at h
  obtain rfl := Option.some.inj h
  exact E _
def tX6_row (G : zH) (r0 : Nat) (x1 : Int32) : Option zH :=
    if x1 < 0 then (tX6_row_b15 G) else
    ob1 (frf G r0 6 2) fun qv2 =>
    ob1 (fi G qv2 5 1) fun v3 =>
    if x1 < v3 then (ob1 (frf G r0 6 2) fun qv5 =>
    ob1 (frf G qv5 5 0) fun qv6 =>
    ob1 (jR G qv6 x1) fun v7 =>
    none) else
    tX6_row_b15 G
set_option maxRecDepth 100000 in
set_option maxHeartbeats 4000000 in
theorem wtX6_row {X : zX} {out : zH} (C : zOK X cX6_row yX6_row.cls 2 (some .long) 8 186) (E : ∀ lv, zZ X 15 lv [] out) (G : zH) (r0 : Nat) (x1 : Int32) (h : tX6_row G r0 x1 = some out) : zZ X 0 [(0, .ref r0), (1, .int x1)] [] G := by
  rw [tX6_row] at h
  refine z_iload_n (pc := 0) C 1 dX6_row_0 rfl rfl ?_
  refine z_if_lt (pc := 1) C dX6_row_1 (tgt := 15) (by decide) (fun c1 => ?_) (fun c1 => ?_)
  · rw [if_pos c1] at h
    exact z_subL [] (wtX6_row_b15 C E G h) rfl
  · rw [if_neg c1] at h
    refine z_iload_n (pc := 4) C 1 dX6_row_4 rfl rfl ?_
    refine z_aload_n (pc := 5) C 0 dX6_row_5 rfl rfl ?_
    obtain ⟨qv2, eqv2, h⟩ := ob1_eq h
    refine z_fr (pc := 6) C dX6_row_6 fl_X6_16 eqv2 ?_
    obtain ⟨v3, ev3, h⟩ := ob1_eq h
    refine z_fi (pc := 9) C dX6_row_9 fl_X6_343 ev3 ?_
    refine z_ic_lt (pc := 12) C dX6_row_12 (tgt := 26) (by decide) (fun c4 => ?_) (fun c4 => ?_)
    · rw [if_pos c4] at h
      refine z_aload_n (pc := 26) C 0 dX6_row_26 rfl rfl ?_
      obtain ⟨qv5, eqv5, h⟩ := ob1_eq h
      refine z_fr (pc := 27) C dX6_row_27 fl_X6_16 eqv5 ?_
      obtain ⟨qv6, eqv6, h⟩ := ob1_eq h
      refine z_fr (pc := 30) C dX6_row_30 fl_X6_346 eqv6 ?_
      refine z_iload_n (pc := 33) C 1 dX6_row_33 rfl rfl ?_
      obtain ⟨v7, ev7, h⟩ := ob1_eq h
      refine z_jR (pc := 34) C dX6_row_34 ev7 ?_
      cases h
    · rw [if_neg c4] at h
      exact z_subL [] (wtX6_row_b15 C E G h) rfl
