def fX7_thrown (M : MS) : Option Int32 :=
    some (M.1 0)
set_option maxRecDepth 100000 in
set_option maxHeartbeats 4000000 in
theorem wfX7_thrown {X : zX} {A B : zH} {M : MS} {out : Int32} (C : zOK X cX7_thrown yX7_thrown.cls 1 (some .int) 0 0) (E : zPost X (poI out (hG A M B))) (h : fX7_thrown M = some out) : zZ X 0 [(0, .ref A.length)] [] (hG A M B) := by
  rw [fX7_thrown] at h
  refine z_aload_n (pc := 0) C 0 dX7_thrown_0 rfl rfl ?_
  refine z_get (pc := 1) C dX7_thrown_1 fl_X7_1 (hM_o A M B) rfl ?_
  obtain rfl := Option.some.inj h
  exact z_iret (pc := 4) C E dX7_thrown_4 ⟨rfl, rfl⟩
theorem kX7_thrown (l : Launch) (D : va_G) (cA : Nat → ClassId) (b : Nat) (A : zH) (M : MS) (B : zH)  (out : Int32) (h : fX7_thrown M = some out) : zM l D cA b yX7_thrown cX7_thrown 1 (some .int) 0 0 [.ref A.length] (hG A M B) (poI out (hG A M B)) := z_entry rfl (Nat.le_of_ble_eq_true rfl) (fun X C E _ _ _ => wfX7_thrown C E h)
def fX7_refuse (M : MS) : Option (Int32 × MS) :=
    zlet (mI M 0 (1 : Int32)) fun M1 =>
    some ((0 : Int32), M1)
set_option maxRecDepth 100000 in
set_option maxHeartbeats 4000000 in
theorem wfX7_refuse {X : zX} {A B : zH} {out : Int32 × MS} (C : zOK X cX7_refuse yX7_refuse.cls 1 (some .int) 0 0) (E : zPost X (poI out.1 (hG A out.2 B))) (M : MS) (h : fX7_refuse M = some out) : zZ X 0 [(0, .ref A.length)] [] (hG A M B) := by
  rw [fX7_refuse] at h
  refine z_aload_n (pc := 0) C 0 dX7_refuse_0 rfl rfl ?_
  refine z_iconst (pc := 1) C dX7_refuse_1 (v := (1 : Int32)) (by decide) ?_
  obtain ⟨M1, eM1, h⟩ := zlet_eq h
  refine z_put (pc := 2) C dX7_refuse_2 fl_X7_1w (hM_o A M B) (fun _ => rfl) (fun _ => rfl) (Nat.le_of_ble_eq_true rfl) (hMi_0 A B eM1) ?_
  refine z_iconst (pc := 5) C dX7_refuse_5 (v := (0 : Int32)) (by decide) ?_
  obtain rfl := Option.some.inj h
  exact z_iret (pc := 6) C E dX7_refuse_6 ⟨rfl, rfl⟩
theorem kX7_refuse (l : Launch) (D : va_G) (cA : Nat → ClassId) (b : Nat) (A : zH) (M : MS) (B : zH)  (out : Int32 × MS) (h : fX7_refuse M = some out) : zM l D cA b yX7_refuse cX7_refuse 1 (some .int) 0 0 [.ref A.length] (hG A M B) (poI out.1 (hG A out.2 B)) := z_entry rfl (Nat.le_of_ble_eq_true rfl) (fun X C E _ _ _ => wfX7_refuse C E M h)
def fX7_in (x0 : Int64) (x2 : Int64) (x4 : Int64) : Option Int32 :=
    if (lg_cmp x0 x2) < 0 then (some (0 : Int32)) else
    if 0 < (lg_cmp x0 x4) then (some (0 : Int32)) else
    some (1 : Int32)
set_option maxRecDepth 100000 in
set_option maxHeartbeats 4000000 in
theorem wfX7_in {X : zX} {G : zH} {out : Int32} (C : zOK X cX7_in yX7_in.cls 6 (some .boolean) 0 0) (E : zPost X (poI out G)) (x0 : Int64) (x2 : Int64) (x4 : Int64) (h : fX7_in x0 x2 x4 = some out) : zZ X 0 [(0, .long x0), (2, .long x2), (4, .long x4)] [] G := by
  rw [fX7_in] at h
  refine z_lload_n (pc := 0) C 0 dX7_in_0 rfl rfl ?_
  refine z_lload_n (pc := 1) C 1 dX7_in_1 rfl rfl ?_
  refine z_lcmp (pc := 2) C dX7_in_2 ?_
  refine z_if_lt (pc := 3) C dX7_in_3 (tgt := 17) (by decide) (fun c1 => ?_) (fun c1 => ?_)
  · rw [if_pos c1] at h
    refine z_iconst (pc := 17) C dX7_in_17 (v := (0 : Int32)) (by decide) ?_
    obtain rfl := Option.some.inj h
    exact z_zret (pc := 18) C E dX7_in_18 rfl ⟨rfl, rfl⟩
  · rw [if_neg c1] at h
    refine z_lload_n (pc := 6) C 0 dX7_in_6 rfl rfl ?_
    refine z_lload (pc := 7) C 2 dX7_in_7 rfl ?_
    refine z_lcmp (pc := 9) C dX7_in_9 ?_
    refine z_if_gt (pc := 10) C dX7_in_10 (tgt := 17) (by decide) (fun c2 => ?_) (fun c2 => ?_)
    · rw [if_pos c2] at h
      refine z_iconst (pc := 17) C dX7_in_17 (v := (0 : Int32)) (by decide) ?_
      obtain rfl := Option.some.inj h
      exact z_zret (pc := 18) C E dX7_in_18 rfl ⟨rfl, rfl⟩
    · rw [if_neg c2] at h
      refine z_iconst (pc := 13) C dX7_in_13 (v := (1 : Int32)) (by decide) ?_
      refine z_goto (pc := 14) C dX7_in_14 (tgt := 18) (by decide) ?_
      obtain rfl := Option.some.inj h
      exact z_zret (pc := 18) C E dX7_in_18 rfl ⟨rfl, rfl⟩
theorem kX7_in (l : Launch) (D : va_G) (cA : Nat → ClassId) (b : Nat) (G : zH) (x0 : Int64) (x2 : Int64) (x4 : Int64) (out : Int32) (h : fX7_in x0 x2 x4 = some out) : zM l D cA b yX7_in cX7_in 6 (some .boolean) 0 0 [.long x0, .long x2, .long x4] G (poI out G) := z_entry rfl (Nat.le_of_ble_eq_true rfl) (fun X C E _ _ _ => wfX7_in C E x0 x2 x4 h)
def fX7_flag (x0 : Int32) : Option Int32 :=
    if x0 = 0 then (some (0 : Int32)) else
    some (1 : Int32)
set_option maxRecDepth 100000 in
set_option maxHeartbeats 4000000 in
theorem wfX7_flag {X : zX} {G : zH} {out : Int32} (C : zOK X cX7_flag yX7_flag.cls 1 (some .int) 0 0) (E : zPost X (poI out G)) (x0 : Int32) (h : fX7_flag x0 = some out) : zZ X 0 [(0, .int x0)] [] G := by
  rw [fX7_flag] at h
  refine z_iload_n (pc := 0) C 0 dX7_flag_0 rfl rfl ?_
  refine z_if_eq (pc := 1) C dX7_flag_1 (tgt := 8) (by decide) (fun c1 => ?_) (fun c1 => ?_)
  · rw [if_pos c1] at h
    refine z_iconst (pc := 8) C dX7_flag_8 (v := (0 : Int32)) (by decide) ?_
    obtain rfl := Option.some.inj h
    exact z_iret (pc := 9) C E dX7_flag_9 ⟨rfl, rfl⟩
  · rw [if_neg c1] at h
    refine z_iconst (pc := 4) C dX7_flag_4 (v := (1 : Int32)) (by decide) ?_
    refine z_goto (pc := 5) C dX7_flag_5 (tgt := 9) (by decide) ?_
    obtain rfl := Option.some.inj h
    exact z_iret (pc := 9) C E dX7_flag_9 ⟨rfl, rfl⟩
theorem kX7_flag (l : Launch) (D : va_G) (cA : Nat → ClassId) (b : Nat) (G : zH) (x0 : Int32) (out : Int32) (h : fX7_flag x0 = some out) : zM l D cA b yX7_flag cX7_flag 1 (some .int) 0 0 [.int x0] G (poI out G) := z_entry rfl (Nat.le_of_ble_eq_true rfl) (fun X C E _ _ _ => wfX7_flag C E x0 h)
def fX7_enters (M : MS) (x1 : Int64) : Option MS :=
    ob1 (wr 24 (M.1 1) (mL M (vp_updL M.2.2.1 (M.1 1).toNatClampNeg x1))) fun M1 =>
    zlet (mI M1 1 ((M1.1 1) + (1 : Int32))) fun M2 =>
    some M2
set_option maxRecDepth 100000 in
set_option maxHeartbeats 4000000 in
theorem wfX7_enters {X : zX} {A B : zH} {out : MS} (C : zOK X cX7_enters yX7_enters.cls 3 none 0 0) (E : zPost X (poV (hG A out B))) (M : MS) (x1 : Int64) (h : fX7_enters M x1 = some out) : zZ X 0 [(0, .ref A.length), (1, .long x1)] [] (hG A M B) := by
  rw [fX7_enters] at h
  refine z_aload_n (pc := 0) C 0 dX7_enters_0 rfl rfl ?_
  refine z_get (pc := 1) C dX7_enters_1 fl_X7_7 (hM_o A M B) rfl ?_
  refine z_aload_n (pc := 4) C 0 dX7_enters_4 rfl rfl ?_
  refine z_get (pc := 5) C dX7_enters_5 fl_X7_11 (hM_o A M B) rfl ?_
  refine z_lload_n (pc := 8) C 1 dX7_enters_8 rfl rfl ?_
  obtain ⟨M1, eM1, h⟩ := ob1_eq h
  refine z_last (pc := 9) C dX7_enters_9 (hMa_2 A M B) (wr_eq eM1).1 (hMs_2 A B (wr_eq eM1).2) ?_
  refine z_aload_n (pc := 10) C 0 dX7_enters_10 rfl rfl ?_
  refine z_dup (pc := 11) C dX7_enters_11 rfl ?_
  refine z_get (pc := 12) C dX7_enters_12 fl_X7_11 (hM_o A M1 B) rfl ?_
  refine z_iconst (pc := 15) C dX7_enters_15 (v := (1 : Int32)) (by decide) ?_
  refine z_iadd (pc := 16) C dX7_enters_16 ?_
  obtain ⟨M2, eM2, h⟩ := zlet_eq h
  refine z_put (pc := 17) C dX7_enters_17 fl_X7_11w (hM_o A M1 B) (fun _ => rfl) (fun _ => rfl) (Nat.le_of_ble_eq_true rfl) (hMi_1 A B eM2) ?_
  obtain rfl := Option.some.inj h
  exact z_vret (pc := 20) C E dX7_enters_20 ⟨rfl, rfl⟩
theorem kX7_enters (l : Launch) (D : va_G) (cA : Nat → ClassId) (b : Nat) (A : zH) (M : MS) (B : zH) (x1 : Int64) (out : MS) (h : fX7_enters M x1 = some out) : zM l D cA b yX7_enters cX7_enters 3 none 0 0 [.ref A.length, .long x1] (hG A M B) (poV (hG A out B)) := z_entry rfl (Nat.le_of_ble_eq_true rfl) (fun X C E _ _ _ => wfX7_enters C E M x1 h)
def fX7_sign_b53 (M : MS) : Option (Int32 × MS) :=
    zlet (mI M 4 ((M.1 4) + (4 : Int32))) fun M1 =>
    some ((M1.1 4), M1)
set_option maxRecDepth 100000 in
set_option maxHeartbeats 4000000 in
theorem wfX7_sign_b53 {X : zX} {A B : zH} {out : Int32 × MS} (C : zOK X cX7_sign yX7_sign.cls 3 (some .int) 0 0) (E : zPost X (poI out.1 (hG A out.2 B))) (M : MS) (h : fX7_sign_b53 M = some out) : zZ X 53 [(0, .ref A.length)] [] (hG A M B) := by
  rw [fX7_sign_b53] at h
  refine z_aload_n (pc := 53) C 0 dX7_sign_53 rfl rfl ?_
  refine z_dup (pc := 54) C dX7_sign_54 rfl ?_
  refine z_get (pc := 55) C dX7_sign_55 fl_X7_14 (hM_o A M B) rfl ?_
  refine z_iconst (pc := 58) C dX7_sign_58 (v := (4 : Int32)) (by decide) ?_
  refine z_iadd (pc := 59) C dX7_sign_59 ?_
  obtain ⟨M1, eM1, h⟩ := zlet_eq h
  refine z_put (pc := 60) C dX7_sign_60 fl_X7_14w (hM_o A M B) (fun _ => rfl) (fun _ => rfl) (Nat.le_of_ble_eq_true rfl) (hMi_4 A B eM1) ?_
  refine z_aload_n (pc := 63) C 0 dX7_sign_63 rfl rfl ?_
  refine z_get (pc := 64) C dX7_sign_64 fl_X7_14 (hM_o A M1 B) rfl ?_
  obtain rfl := Option.some.inj h
  exact z_iret (pc := 67) C E dX7_sign_67 ⟨rfl, rfl⟩
def fX7_sign_b18 : Nat → MS → Int32 → Int32 → Option (Int32 × MS)
  | 0, _, _, _ => none
  | n + 1, M, x1, x2 =>
    if (4 : Int32) ≤ x2 then (fX7_sign_b53 M) else
    ob1 (wr 80 ((M.1 4) + x2) (mA M 3 (upd (M.2.1 3) ((M.1 4) + x2).toNatClampNeg ((x1 >>> (((24 : Int32) - ((8 : Int32) * x2)) &&& 31)) &&& (255 : Int32))))) fun M2 =>
    zlet (x2 + (1 : Int32)) fun y3 =>
    (fX7_sign_b18 n) M2 x1 y3
set_option maxRecDepth 100000 in
set_option maxHeartbeats 4000000 in
theorem wfX7_sign_b18 {X : zX} {A B : zH} {out : Int32 × MS} (C : zOK X cX7_sign yX7_sign.cls 3 (some .int) 0 0) (E : zPost X (poI out.1 (hG A out.2 B))) : ∀ (n : Nat) (M : MS) (x1 : Int32) (x2 : Int32) (h : fX7_sign_b18 n M x1 x2 = some out), zZ X 18 [(0, .ref A.length), (1, .int x1), (2, .int x2)] [] (hG A M B) := by
  intro n
  induction n with
  | zero => intro M x1 x2 h; cases h
  | succ n ih =>
    intro M x1 x2 h
    rw [fX7_sign_b18] at h
    refine z_iload_n (pc := 18) C 2 dX7_sign_18 rfl rfl ?_
    refine z_iconst (pc := 19) C dX7_sign_19 (v := (4 : Int32)) (by decide) ?_
    refine z_ic_ge (pc := 20) C dX7_sign_20 (tgt := 53) (by decide) (fun c1 => ?_) (fun c1 => ?_)
    · rw [if_pos c1] at h
      exact z_subL [0] (wfX7_sign_b53 C E M h) rfl
    · rw [if_neg c1] at h
      refine z_aload_n (pc := 23) C 0 dX7_sign_23 rfl rfl ?_
      refine z_get (pc := 24) C dX7_sign_24 fl_X7_17 (hM_o A M B) rfl ?_
      refine z_aload_n (pc := 27) C 0 dX7_sign_27 rfl rfl ?_
      refine z_get (pc := 28) C dX7_sign_28 fl_X7_14 (hM_o A M B) rfl ?_
      refine z_iload_n (pc := 31) C 2 dX7_sign_31 rfl rfl ?_
      refine z_iadd (pc := 32) C dX7_sign_32 ?_
      refine z_iload_n (pc := 33) C 1 dX7_sign_33 rfl rfl ?_
      refine z_bipush (pc := 34) C dX7_sign_34 (v := (24 : Int32)) (by decide) ?_
      refine z_bipush (pc := 36) C dX7_sign_36 (v := (8 : Int32)) (by decide) ?_
      refine z_iload_n (pc := 38) C 2 dX7_sign_38 rfl rfl ?_
      refine z_imul (pc := 39) C dX7_sign_39 ?_
      refine z_isub (pc := 40) C dX7_sign_40 ?_
      refine z_ishr (pc := 41) C dX7_sign_41 ?_
      refine z_sipush (pc := 42) C dX7_sign_42 (v := (255 : Int32)) (by decide) ?_
      refine z_iand (pc := 45) C dX7_sign_45 ?_
      obtain ⟨M2, eM2, h⟩ := ob1_eq h
      refine z_iast (pc := 46) C dX7_sign_46 (hMa_3 A M B) (wr_eq eM2).1 (hMs_3 A B (wr_eq eM2).2) ?_
      obtain ⟨y3, ey3, h⟩ := zlet_eq h
      refine z_iinc (pc := 47) (v := y3) C 2 dX7_sign_47 rfl (by rw [ey3]; rfl) (by decide) (show zput _ _ _ = [(2, .int y3), (0, .ref A.length), (1, .int x1)] from rfl) ?_
      refine z_goto (pc := 50) C dX7_sign_50 (tgt := 18) (by decide) ?_
      exact z_subL [1, 2, 0] (ih M2 x1 y3 h) rfl
def fX7_sign (M : MS) (x1 : Int32) : Option (Int32 × MS) :=
    zlet (mI M 0 (0 : Int32)) fun M1 =>
    if (M1.1 4) ≤ (76 : Int32) then (fX7_sign_b18 FU M1 x1 (0 : Int32)) else
    some ((-1 : Int32), M1)
set_option maxRecDepth 100000 in
set_option maxHeartbeats 4000000 in
theorem wfX7_sign {X : zX} {A B : zH} {out : Int32 × MS} (C : zOK X cX7_sign yX7_sign.cls 3 (some .int) 0 0) (E : zPost X (poI out.1 (hG A out.2 B))) (M : MS) (x1 : Int32) (h : fX7_sign M x1 = some out) : zZ X 0 [(0, .ref A.length), (1, .int x1)] [] (hG A M B) := by
  rw [fX7_sign] at h
  refine z_aload_n (pc := 0) C 0 dX7_sign_0 rfl rfl ?_
  refine z_iconst (pc := 1) C dX7_sign_1 (v := (0 : Int32)) (by decide) ?_
  obtain ⟨M1, eM1, h⟩ := zlet_eq h
  refine z_put (pc := 2) C dX7_sign_2 fl_X7_1w (hM_o A M B) (fun _ => rfl) (fun _ => rfl) (Nat.le_of_ble_eq_true rfl) (hMi_0 A B eM1) ?_
  refine z_aload_n (pc := 5) C 0 dX7_sign_5 rfl rfl ?_
  refine z_get (pc := 6) C dX7_sign_6 fl_X7_14 (hM_o A M1 B) rfl ?_
  refine z_bipush (pc := 9) C dX7_sign_9 (v := (76 : Int32)) (by decide) ?_
  refine z_ic_le (pc := 11) C dX7_sign_11 (tgt := 16) (by decide) (fun c2 => ?_) (fun c2 => ?_)
  · rw [if_pos c2] at h
    refine z_iconst (pc := 16) C dX7_sign_16 (v := (0 : Int32)) (by decide) ?_
    refine z_istore_n (pc := 17) C dX7_sign_17 rfl (by decide) (show zput _ _ _ = [(2, .int (0 : Int32)), (0, .ref A.length), (1, .int x1)] from rfl) ?_
    exact z_subL [1, 2, 0] (wfX7_sign_b18 C E FU M1 x1 (0 : Int32) h) rfl
  · rw [if_neg c2] at h
    refine z_iconst (pc := 14) C dX7_sign_14 (v := (-1 : Int32)) (by decide) ?_
    obtain rfl := Option.some.inj h
    exact z_iret (pc := 15) C E dX7_sign_15 ⟨rfl, rfl⟩
theorem kX7_sign (l : Launch) (D : va_G) (cA : Nat → ClassId) (b : Nat) (A : zH) (M : MS) (B : zH) (x1 : Int32) (out : Int32 × MS) (h : fX7_sign M x1 = some out) : zM l D cA b yX7_sign cX7_sign 3 (some .int) 0 0 [.ref A.length, .int x1] (hG A M B) (poI out.1 (hG A out.2 B)) := z_entry rfl (Nat.le_of_ble_eq_true rfl) (fun X C E _ _ _ => wfX7_sign C E M x1 h)
def fX7_end (M : MS) (x1 : Int32) : Option (Int32 × MS) :=
    zlet (mI M 0 (0 : Int32)) fun M1 =>
    ob1 (fX7_in x1.toInt64 (0 : Int64) ((M1.1 4).toInt64)) fun v2 =>
    if v2 = 0 then (some ((0 : Int32), M1)) else
    zlet (mI M1 4 x1) fun M4 =>
    some ((1 : Int32), M4)
set_option maxRecDepth 100000 in
set_option maxHeartbeats 4000000 in
theorem wfX7_end {X : zX} {A B : zH} {out : Int32 × MS} (C : zOK X cX7_end yX7_end.cls 2 (some .boolean) 1 25) (E : zPost X (poI out.1 (hG A out.2 B))) (M : MS) (x1 : Int32) (h : fX7_end M x1 = some out) : zZ X 0 [(0, .ref A.length), (1, .int x1)] [] (hG A M B) := by
  rw [fX7_end] at h
  refine z_aload_n (pc := 0) C 0 dX7_end_0 rfl rfl ?_
  refine z_iconst (pc := 1) C dX7_end_1 (v := (0 : Int32)) (by decide) ?_
  obtain ⟨M1, eM1, h⟩ := zlet_eq h
  refine z_put (pc := 2) C dX7_end_2 fl_X7_1w (hM_o A M B) (fun _ => rfl) (fun _ => rfl) (Nat.le_of_ble_eq_true rfl) (hMi_0 A B eM1) ?_
  refine z_iload_n (pc := 5) C 1 dX7_end_5 rfl rfl ?_
  refine z_i2l (pc := 6) C dX7_end_6 ?_
  refine z_lconst (pc := 7) C dX7_end_7 (v := (0 : Int64)) (by decide) ?_
  refine z_aload_n (pc := 8) C 0 dX7_end_8 rfl rfl ?_
  refine z_get (pc := 9) C dX7_end_9 fl_X7_14 (hM_o A M1 B) rfl ?_
  refine z_i2l (pc := 12) C dX7_end_12 ?_
  obtain ⟨v2, ev2, h⟩ := ob1_eq h
  refine z_callSi (As := [.long x1.toInt64, .long (0 : Int64), .long ((M1.1 4).toInt64)]) (rest := []) (pc := 13) C dX7_end_13 ml_X7_21 (kX7_in _ _ _ _ (hG A M1 B) x1.toInt64 (0 : Int64) ((M1.1 4).toInt64) v2 ev2) rfl rfl (Nat.le_of_ble_eq_true rfl) (by decide) ?_
  refine z_if_ne (pc := 16) C dX7_end_16 (tgt := 21) (by decide) (fun c3 => ?_) (fun c3 => ?_)
  · rw [if_neg c3] at h
    refine z_aload_n (pc := 21) C 0 dX7_end_21 rfl rfl ?_
    refine z_iload_n (pc := 22) C 1 dX7_end_22 rfl rfl ?_
    obtain ⟨M4, eM4, h⟩ := zlet_eq h
    refine z_put (pc := 23) C dX7_end_23 fl_X7_14w (hM_o A M1 B) (fun _ => rfl) (fun _ => rfl) (Nat.le_of_ble_eq_true rfl) (hMi_4 A B eM4) ?_
    refine z_iconst (pc := 26) C dX7_end_26 (v := (1 : Int32)) (by decide) ?_
    obtain rfl := Option.some.inj h
    exact z_zret (pc := 27) C E dX7_end_27 rfl ⟨rfl, rfl⟩
  · rw [if_pos c3] at h
    refine z_iconst (pc := 19) C dX7_end_19 (v := (0 : Int32)) (by decide) ?_
    obtain rfl := Option.some.inj h
    exact z_zret (pc := 20) C E dX7_end_20 rfl ⟨rfl, rfl⟩
theorem kX7_end (l : Launch) (D : va_G) (cA : Nat → ClassId) (b : Nat) (A : zH) (M : MS) (B : zH) (x1 : Int32) (out : Int32 × MS) (h : fX7_end M x1 = some out) : zM l D cA b yX7_end cX7_end 2 (some .boolean) 1 25 [.ref A.length, .int x1] (hG A M B) (poI out.1 (hG A out.2 B)) := z_entry rfl (Nat.le_of_ble_eq_true rfl) (fun X C E _ _ _ => wfX7_end C E M x1 h)
def fX7_empties (M : MS) : Option (Int32 × MS) :=
    zlet (mI M 5 (M.1 4)) fun M1 =>
    zlet (mI M1 4 (0 : Int32)) fun M2 =>
    some ((M2.1 5), M2)
set_option maxRecDepth 100000 in
set_option maxHeartbeats 4000000 in
theorem wfX7_empties {X : zX} {A B : zH} {out : Int32 × MS} (C : zOK X cX7_empties yX7_empties.cls 1 (some .int) 0 0) (E : zPost X (poI out.1 (hG A out.2 B))) (M : MS) (h : fX7_empties M = some out) : zZ X 0 [(0, .ref A.length)] [] (hG A M B) := by
  rw [fX7_empties] at h
  refine z_aload_n (pc := 0) C 0 dX7_empties_0 rfl rfl ?_
  refine z_aload_n (pc := 1) C 0 dX7_empties_1 rfl rfl ?_
  refine z_get (pc := 2) C dX7_empties_2 fl_X7_14 (hM_o A M B) rfl ?_
  obtain ⟨M1, eM1, h⟩ := zlet_eq h
  refine z_put (pc := 5) C dX7_empties_5 fl_X7_25w (hM_o A M B) (fun _ => rfl) (fun _ => rfl) (Nat.le_of_ble_eq_true rfl) (hMi_5 A B eM1) ?_
  refine z_aload_n (pc := 8) C 0 dX7_empties_8 rfl rfl ?_
  refine z_iconst (pc := 9) C dX7_empties_9 (v := (0 : Int32)) (by decide) ?_
  obtain ⟨M2, eM2, h⟩ := zlet_eq h
  refine z_put (pc := 10) C dX7_empties_10 fl_X7_14w (hM_o A M1 B) (fun _ => rfl) (fun _ => rfl) (Nat.le_of_ble_eq_true rfl) (hMi_4 A B eM2) ?_
  refine z_aload_n (pc := 13) C 0 dX7_empties_13 rfl rfl ?_
  refine z_get (pc := 14) C dX7_empties_14 fl_X7_25 (hM_o A M2 B) rfl ?_
  obtain rfl := Option.some.inj h
  exact z_iret (pc := 17) C E dX7_empties_17 ⟨rfl, rfl⟩
theorem kX7_empties (l : Launch) (D : va_G) (cA : Nat → ClassId) (b : Nat) (A : zH) (M : MS) (B : zH)  (out : Int32 × MS) (h : fX7_empties M = some out) : zM l D cA b yX7_empties cX7_empties 1 (some .int) 0 0 [.ref A.length] (hG A M B) (poI out.1 (hG A out.2 B)) := z_entry rfl (Nat.le_of_ble_eq_true rfl) (fun X C E _ _ _ => wfX7_empties C E M h)
def fX7_faultOfText_b2 (M : MS) : Nat → Int32 → Option Int32
  | 0, _ => none
  | n + 1, x1 =>
    if (M.1 5) ≤ x1 then (some (0 : Int32)) else
    ob1 (rd 80 (M.2.1 3) x1) fun v2 =>
    ob1 (fX7_in v2.toInt64 (1 : Int64) (127 : Int64)) fun v3 =>
    if v3 = 0 then (some ((-1 : Int32) - x1)) else
    zlet (x1 + (1 : Int32)) fun y5 =>
    (fX7_faultOfText_b2 M n) y5
set_option maxRecDepth 100000 in
set_option maxHeartbeats 4000000 in
theorem wfX7_faultOfText_b2 {X : zX} {A B : zH} {M : MS} {out : Int32} (C : zOK X cX7_faultOfText yX7_faultOfText.cls 2 (some .int) 1 25) (E : zPost X (poI out (hG A M B))) : ∀ (n : Nat) (x1 : Int32) (h : fX7_faultOfText_b2 M n x1 = some out), zZ X 2 [(0, .ref A.length), (1, .int x1)] [] (hG A M B) := by
  intro n
  induction n with
  | zero => intro x1 h; cases h
  | succ n ih =>
    intro x1 h
    rw [fX7_faultOfText_b2] at h
    refine z_iload_n (pc := 2) C 1 dX7_faultOfText_2 rfl rfl ?_
    refine z_aload_n (pc := 3) C 0 dX7_faultOfText_3 rfl rfl ?_
    refine z_get (pc := 4) C dX7_faultOfText_4 fl_X7_25 (hM_o A M B) rfl ?_
    refine z_ic_ge (pc := 7) C dX7_faultOfText_7 (tgt := 37) (by decide) (fun c1 => ?_) (fun c1 => ?_)
    · rw [if_pos c1] at h
      refine z_iconst (pc := 37) C dX7_faultOfText_37 (v := (0 : Int32)) (by decide) ?_
      obtain rfl := Option.some.inj h
      exact z_iret (pc := 38) C E dX7_faultOfText_38 ⟨rfl, rfl⟩
    · rw [if_neg c1] at h
      refine z_aload_n (pc := 10) C 0 dX7_faultOfText_10 rfl rfl ?_
      refine z_get (pc := 11) C dX7_faultOfText_11 fl_X7_17 (hM_o A M B) rfl ?_
      refine z_iload_n (pc := 14) C 1 dX7_faultOfText_14 rfl rfl ?_
      obtain ⟨v2, ev2, h⟩ := ob1_eq h
      refine z_iald (pc := 15) C dX7_faultOfText_15 (hMa_3 A M B) (rd_eq ev2).1 (z_topi (rd_eq ev2).2 ?_)
      refine z_i2l (pc := 16) C dX7_faultOfText_16 ?_
      refine z_lconst (pc := 17) C dX7_faultOfText_17 (v := (1 : Int64)) (by decide) ?_
      refine z_ldc2 (pc := 18) C dX7_faultOfText_18 cn_X7_28 ?_
      obtain ⟨v3, ev3, h⟩ := ob1_eq h
      refine z_callSi (As := [.long v2.toInt64, .long (1 : Int64), .long (127 : Int64)]) (rest := []) (pc := 21) C dX7_faultOfText_21 ml_X7_21 (kX7_in _ _ _ _ (hG A M B) v2.toInt64 (1 : Int64) (127 : Int64) v3 ev3) rfl rfl (Nat.le_of_ble_eq_true rfl) (by decide) ?_
      refine z_if_ne (pc := 24) C dX7_faultOfText_24 (tgt := 31) (by decide) (fun c4 => ?_) (fun c4 => ?_)
      · rw [if_neg c4] at h
        obtain ⟨y5, ey5, h⟩ := zlet_eq h
        refine z_iinc (pc := 31) (v := y5) C 1 dX7_faultOfText_31 rfl (by rw [ey5]; rfl) (by decide) (show zput _ _ _ = [(1, .int y5), (0, .ref A.length)] from rfl) ?_
        refine z_goto (pc := 34) C dX7_faultOfText_34 (tgt := 2) (by decide) ?_
        exact z_subL [1, 0] (ih y5 h) rfl
      · rw [if_pos c4] at h
        refine z_iconst (pc := 27) C dX7_faultOfText_27 (v := (-1 : Int32)) (by decide) ?_
        refine z_iload_n (pc := 28) C 1 dX7_faultOfText_28 rfl rfl ?_
        refine z_isub (pc := 29) C dX7_faultOfText_29 ?_
        obtain rfl := Option.some.inj h
        exact z_iret (pc := 30) C E dX7_faultOfText_30 ⟨rfl, rfl⟩
def fX7_faultOfText (M : MS) : Option Int32 :=
    fX7_faultOfText_b2 M FU (0 : Int32)
set_option maxRecDepth 100000 in
set_option maxHeartbeats 4000000 in
theorem wfX7_faultOfText {X : zX} {A B : zH} {M : MS} {out : Int32} (C : zOK X cX7_faultOfText yX7_faultOfText.cls 2 (some .int) 1 25) (E : zPost X (poI out (hG A M B))) (h : fX7_faultOfText M = some out) : zZ X 0 [(0, .ref A.length)] [] (hG A M B) := by
  rw [fX7_faultOfText] at h
  refine z_iconst (pc := 0) C dX7_faultOfText_0 (v := (0 : Int32)) (by decide) ?_
  refine z_istore_n (pc := 1) C dX7_faultOfText_1 rfl (by decide) (show zput _ _ _ = [(1, .int (0 : Int32)), (0, .ref A.length)] from rfl) ?_
  exact z_subL [1, 0] (wfX7_faultOfText_b2 C E FU (0 : Int32) h) rfl
theorem kX7_faultOfText (l : Launch) (D : va_G) (cA : Nat → ClassId) (b : Nat) (A : zH) (M : MS) (B : zH)  (out : Int32) (h : fX7_faultOfText M = some out) : zM l D cA b yX7_faultOfText cX7_faultOfText 2 (some .int) 1 25 [.ref A.length] (hG A M B) (poI out (hG A M B)) := z_entry rfl (Nat.le_of_ble_eq_true rfl) (fun X C E _ _ _ => wfX7_faultOfText C E h)
def fX7_storeMany (M : MS) (x1 : Int32) : Option Int32 :=
    if x1 = 0 then (some (M.1 8)) else
    some (M.1 9)
set_option maxRecDepth 100000 in
set_option maxHeartbeats 4000000 in
theorem wfX7_storeMany {X : zX} {A B : zH} {M : MS} {out : Int32} (C : zOK X cX7_storeMany yX7_storeMany.cls 2 (some .int) 0 0) (E : zPost X (poI out (hG A M B))) (x1 : Int32) (h : fX7_storeMany M x1 = some out) : zZ X 0 [(0, .ref A.length), (1, .int x1)] [] (hG A M B) := by
  rw [fX7_storeMany] at h
  refine z_iload_n (pc := 0) C 1 dX7_storeMany_0 rfl rfl ?_
  refine z_if_ne (pc := 1) C dX7_storeMany_1 (tgt := 11) (by decide) (fun c1 => ?_) (fun c1 => ?_)
  · rw [if_neg c1] at h
    refine z_aload_n (pc := 11) C 0 dX7_storeMany_11 rfl rfl ?_
    refine z_get (pc := 12) C dX7_storeMany_12 fl_X7_33 (hM_o A M B) rfl ?_
    obtain rfl := Option.some.inj h
    exact z_iret (pc := 15) C E dX7_storeMany_15 ⟨rfl, rfl⟩
  · rw [if_pos c1] at h
    refine z_aload_n (pc := 4) C 0 dX7_storeMany_4 rfl rfl ?_
    refine z_get (pc := 5) C dX7_storeMany_5 fl_X7_30 (hM_o A M B) rfl ?_
    refine z_goto (pc := 8) C dX7_storeMany_8 (tgt := 15) (by decide) ?_
    obtain rfl := Option.some.inj h
    exact z_iret (pc := 15) C E dX7_storeMany_15 ⟨rfl, rfl⟩
theorem kX7_storeMany (l : Launch) (D : va_G) (cA : Nat → ClassId) (b : Nat) (A : zH) (M : MS) (B : zH) (x1 : Int32) (out : Int32) (h : fX7_storeMany M x1 = some out) : zM l D cA b yX7_storeMany cX7_storeMany 2 (some .int) 0 0 [.ref A.length, .int x1] (hG A M B) (poI out (hG A M B)) := z_entry rfl (Nat.le_of_ble_eq_true rfl) (fun X C E _ _ _ => wfX7_storeMany C E x1 h)
def fX7_ofStore (M : MS) (x1 : Int32) (x2 : Int32) : Option Int32 :=
    if x1 = 0 then (ob1 (rd 1600 (M.2.1 6) x2) fun v3 =>
    some v3) else
    ob1 (rd 6000 (M.2.1 7) x2) fun v2 =>
    some v2
set_option maxRecDepth 100000 in
set_option maxHeartbeats 4000000 in
theorem wfX7_ofStore {X : zX} {A B : zH} {M : MS} {out : Int32} (C : zOK X cX7_ofStore yX7_ofStore.cls 3 (some .int) 0 0) (E : zPost X (poI out (hG A M B))) (x1 : Int32) (x2 : Int32) (h : fX7_ofStore M x1 x2 = some out) : zZ X 0 [(0, .ref A.length), (1, .int x1), (2, .int x2)] [] (hG A M B) := by
  rw [fX7_ofStore] at h
  refine z_iload_n (pc := 0) C 1 dX7_ofStore_0 rfl rfl ?_
  refine z_if_ne (pc := 1) C dX7_ofStore_1 (tgt := 13) (by decide) (fun c1 => ?_) (fun c1 => ?_)
  · rw [if_neg c1] at h
    refine z_aload_n (pc := 13) C 0 dX7_ofStore_13 rfl rfl ?_
    refine z_get (pc := 14) C dX7_ofStore_14 fl_X7_39 (hM_o A M B) rfl ?_
    refine z_iload_n (pc := 17) C 2 dX7_ofStore_17 rfl rfl ?_
    obtain ⟨v2, ev2, h⟩ := ob1_eq h
    refine z_iald (pc := 18) C dX7_ofStore_18 (hMa_7 A M B) (rd_eq ev2).1 (z_topi (rd_eq ev2).2 ?_)
    obtain rfl := Option.some.inj h
    exact z_iret (pc := 19) C E dX7_ofStore_19 ⟨rfl, rfl⟩
  · rw [if_pos c1] at h
    refine z_aload_n (pc := 4) C 0 dX7_ofStore_4 rfl rfl ?_
    refine z_get (pc := 5) C dX7_ofStore_5 fl_X7_36 (hM_o A M B) rfl ?_
    refine z_iload_n (pc := 8) C 2 dX7_ofStore_8 rfl rfl ?_
    obtain ⟨v3, ev3, h⟩ := ob1_eq h
    refine z_iald (pc := 9) C dX7_ofStore_9 (hMa_6 A M B) (rd_eq ev3).1 (z_topi (rd_eq ev3).2 ?_)
    refine z_goto (pc := 10) C dX7_ofStore_10 (tgt := 19) (by decide) ?_
    obtain rfl := Option.some.inj h
    exact z_iret (pc := 19) C E dX7_ofStore_19 ⟨rfl, rfl⟩
theorem kX7_ofStore (l : Launch) (D : va_G) (cA : Nat → ClassId) (b : Nat) (A : zH) (M : MS) (B : zH) (x1 : Int32) (x2 : Int32) (out : Int32) (h : fX7_ofStore M x1 x2 = some out) : zM l D cA b yX7_ofStore cX7_ofStore 3 (some .int) 0 0 [.ref A.length, .int x1, .int x2] (hG A M B) (poI out (hG A M B)) := z_entry rfl (Nat.le_of_ble_eq_true rfl) (fun X C E _ _ _ => wfX7_ofStore C E x1 x2 h)
def fX7_unsets_b2 : Nat → MS → Int32 → Option MS
  | 0, _, _ => none
  | n + 1, M, x1 =>
    if (8 : Int32) ≤ x1 then (some M) else
    ob1 (wr 8 x1 (mA M 12 (upd (M.2.1 12) x1.toNatClampNeg (-1 : Int32)))) fun M2 =>
    ob1 (wr 8 x1 (mA M2 13 (upd (M2.2.1 13) x1.toNatClampNeg (0 : Int32)))) fun M3 =>
    zlet (x1 + (1 : Int32)) fun y4 =>
    (fX7_unsets_b2 n) M3 y4
set_option maxRecDepth 100000 in
set_option maxHeartbeats 4000000 in
theorem wfX7_unsets_b2 {X : zX} {A B : zH} {out : MS} (C : zOK X cX7_unsets yX7_unsets.cls 2 none 0 0) (E : zPost X (poV (hG A out B))) : ∀ (n : Nat) (M : MS) (x1 : Int32) (h : fX7_unsets_b2 n M x1 = some out), zZ X 2 [(0, .ref A.length), (1, .int x1)] [] (hG A M B) := by
  intro n
  induction n with
  | zero => intro M x1 h; cases h
  | succ n ih =>
    intro M x1 h
    rw [fX7_unsets_b2] at h
    refine z_iload_n (pc := 2) C 1 dX7_unsets_2 rfl rfl ?_
    refine z_bipush (pc := 3) C dX7_unsets_3 (v := (8 : Int32)) (by decide) ?_
    refine z_ic_ge (pc := 5) C dX7_unsets_5 (tgt := 28) (by decide) (fun c1 => ?_) (fun c1 => ?_)
    · rw [if_pos c1] at h
      obtain rfl := Option.some.inj h
      exact z_vret (pc := 28) C E dX7_unsets_28 ⟨rfl, rfl⟩
    · rw [if_neg c1] at h
      refine z_aload_n (pc := 8) C 0 dX7_unsets_8 rfl rfl ?_
      refine z_get (pc := 9) C dX7_unsets_9 fl_X7_51 (hM_o A M B) rfl ?_
      refine z_iload_n (pc := 12) C 1 dX7_unsets_12 rfl rfl ?_
      refine z_iconst (pc := 13) C dX7_unsets_13 (v := (-1 : Int32)) (by decide) ?_
      obtain ⟨M2, eM2, h⟩ := ob1_eq h
      refine z_iast (pc := 14) C dX7_unsets_14 (hMa_12 A M B) (wr_eq eM2).1 (hMs_12 A B (wr_eq eM2).2) ?_
      refine z_aload_n (pc := 15) C 0 dX7_unsets_15 rfl rfl ?_
      refine z_get (pc := 16) C dX7_unsets_16 fl_X7_54 (hM_o A M2 B) rfl ?_
      refine z_iload_n (pc := 19) C 1 dX7_unsets_19 rfl rfl ?_
      refine z_iconst (pc := 20) C dX7_unsets_20 (v := (0 : Int32)) (by decide) ?_
      obtain ⟨M3, eM3, h⟩ := ob1_eq h
      refine z_iast (pc := 21) C dX7_unsets_21 (hMa_13 A M2 B) (wr_eq eM3).1 (hMs_13 A B (wr_eq eM3).2) ?_
      obtain ⟨y4, ey4, h⟩ := zlet_eq h
      refine z_iinc (pc := 22) (v := y4) C 1 dX7_unsets_22 rfl (by rw [ey4]; rfl) (by decide) (show zput _ _ _ = [(1, .int y4), (0, .ref A.length)] from rfl) ?_
      refine z_goto (pc := 25) C dX7_unsets_25 (tgt := 2) (by decide) ?_
      exact z_subL [1, 0] (ih M3 y4 h) rfl
def fX7_unsets (M : MS) : Option MS :=
    fX7_unsets_b2 FU M (0 : Int32)
set_option maxRecDepth 100000 in
set_option maxHeartbeats 4000000 in
theorem wfX7_unsets {X : zX} {A B : zH} {out : MS} (C : zOK X cX7_unsets yX7_unsets.cls 2 none 0 0) (E : zPost X (poV (hG A out B))) (M : MS) (h : fX7_unsets M = some out) : zZ X 0 [(0, .ref A.length)] [] (hG A M B) := by
  rw [fX7_unsets] at h
  refine z_iconst (pc := 0) C dX7_unsets_0 (v := (0 : Int32)) (by decide) ?_
  refine z_istore_n (pc := 1) C dX7_unsets_1 rfl (by decide) (show zput _ _ _ = [(1, .int (0 : Int32)), (0, .ref A.length)] from rfl) ?_
  exact z_subL [1, 0] (wfX7_unsets_b2 C E FU M (0 : Int32) h) rfl
theorem kX7_unsets (l : Launch) (D : va_G) (cA : Nat → ClassId) (b : Nat) (A : zH) (M : MS) (B : zH)  (out : MS) (h : fX7_unsets M = some out) : zM l D cA b yX7_unsets cX7_unsets 2 none 0 0 [.ref A.length] (hG A M B) (poV (hG A out B)) := z_entry rfl (Nat.le_of_ble_eq_true rfl) (fun X C E _ _ _ => wfX7_unsets C E M h)
def fX7_storeAt (M : MS) (x1 : Int32) : Option Int32 :=
    ob1 (rd 3000 (M.2.1 10) x1) fun v1 =>
    some ((v1 / (2 : Int32)) / (8192 : Int32))
set_option maxRecDepth 100000 in
set_option maxHeartbeats 4000000 in
theorem wfX7_storeAt {X : zX} {A B : zH} {M : MS} {out : Int32} (C : zOK X cX7_storeAt yX7_storeAt.cls 2 (some .int) 0 0) (E : zPost X (poI out (hG A M B))) (x1 : Int32) (h : fX7_storeAt M x1 = some out) : zZ X 0 [(0, .ref A.length), (1, .int x1)] [] (hG A M B) := by
  rw [fX7_storeAt] at h
  refine z_aload_n (pc := 0) C 0 dX7_storeAt_0 rfl rfl ?_
  refine z_get (pc := 1) C dX7_storeAt_1 fl_X7_48 (hM_o A M B) rfl ?_
  refine z_iload_n (pc := 4) C 1 dX7_storeAt_4 rfl rfl ?_
  obtain ⟨v1, ev1, h⟩ := ob1_eq h
  refine z_iald (pc := 5) C dX7_storeAt_5 (hMa_10 A M B) (rd_eq ev1).1 (z_topi (rd_eq ev1).2 ?_)
  refine z_iconst (pc := 6) C dX7_storeAt_6 (v := (2 : Int32)) (by decide) ?_
  refine z_idiv (pc := 7) C dX7_storeAt_7 (by decide) ?_
  refine z_sipush (pc := 8) C dX7_storeAt_8 (v := (8192 : Int32)) (by decide) ?_
  refine z_idiv (pc := 11) C dX7_storeAt_11 (by decide) ?_
  obtain rfl := Option.some.inj h
  exact z_iret (pc := 12) C E dX7_storeAt_12 ⟨rfl, rfl⟩
theorem kX7_storeAt (l : Launch) (D : va_G) (cA : Nat → ClassId) (b : Nat) (A : zH) (M : MS) (B : zH) (x1 : Int32) (out : Int32) (h : fX7_storeAt M x1 = some out) : zM l D cA b yX7_storeAt cX7_storeAt 2 (some .int) 0 0 [.ref A.length, .int x1] (hG A M B) (poI out (hG A M B)) := z_entry rfl (Nat.le_of_ble_eq_true rfl) (fun X C E _ _ _ => wfX7_storeAt C E x1 h)
def fX7_placeAt (M : MS) (x1 : Int32) : Option Int32 :=
    ob1 (rd 3000 (M.2.1 10) x1) fun v1 =>
    some ((v1 / (2 : Int32)) - (v1 / (2 : Int32)) / (8192 : Int32) * (8192 : Int32))
set_option maxRecDepth 100000 in
set_option maxHeartbeats 4000000 in
theorem wfX7_placeAt {X : zX} {A B : zH} {M : MS} {out : Int32} (C : zOK X cX7_placeAt yX7_placeAt.cls 2 (some .int) 0 0) (E : zPost X (poI out (hG A M B))) (x1 : Int32) (h : fX7_placeAt M x1 = some out) : zZ X 0 [(0, .ref A.length), (1, .int x1)] [] (hG A M B) := by
  rw [fX7_placeAt] at h
  refine z_aload_n (pc := 0) C 0 dX7_placeAt_0 rfl rfl ?_
  refine z_get (pc := 1) C dX7_placeAt_1 fl_X7_48 (hM_o A M B) rfl ?_
  refine z_iload_n (pc := 4) C 1 dX7_placeAt_4 rfl rfl ?_
  obtain ⟨v1, ev1, h⟩ := ob1_eq h
  refine z_iald (pc := 5) C dX7_placeAt_5 (hMa_10 A M B) (rd_eq ev1).1 (z_topi (rd_eq ev1).2 ?_)
  refine z_iconst (pc := 6) C dX7_placeAt_6 (v := (2 : Int32)) (by decide) ?_
  refine z_idiv (pc := 7) C dX7_placeAt_7 (by decide) ?_
  refine z_sipush (pc := 8) C dX7_placeAt_8 (v := (8192 : Int32)) (by decide) ?_
  refine z_irem (pc := 11) C dX7_placeAt_11 (by decide) ?_
  obtain rfl := Option.some.inj h
  exact z_iret (pc := 12) C E dX7_placeAt_12 ⟨rfl, rfl⟩
theorem kX7_placeAt (l : Launch) (D : va_G) (cA : Nat → ClassId) (b : Nat) (A : zH) (M : MS) (B : zH) (x1 : Int32) (out : Int32) (h : fX7_placeAt M x1 = some out) : zM l D cA b yX7_placeAt cX7_placeAt 2 (some .int) 0 0 [.ref A.length, .int x1] (hG A M B) (poI out (hG A M B)) := z_entry rfl (Nat.le_of_ble_eq_true rfl) (fun X C E _ _ _ => wfX7_placeAt C E x1 h)
def fX7_signAt (M : MS) (x1 : Int32) : Option Int32 :=
    ob1 (fX7_storeAt M x1) fun v1 =>
    ob1 (fX7_placeAt M x1) fun v2 =>
    ob1 (fX7_ofStore M v1 v2) fun v3 =>
    some v3
set_option maxRecDepth 100000 in
set_option maxHeartbeats 4000000 in
theorem wfX7_signAt {X : zX} {A B : zH} {M : MS} {out : Int32} (C : zOK X cX7_signAt yX7_signAt.cls 2 (some .int) 1 22) (E : zPost X (poI out (hG A M B))) (x1 : Int32) (h : fX7_signAt M x1 = some out) : zZ X 0 [(0, .ref A.length), (1, .int x1)] [] (hG A M B) := by
  rw [fX7_signAt] at h
  refine z_aload_n (pc := 0) C 0 dX7_signAt_0 rfl rfl ?_
  refine z_aload_n (pc := 1) C 0 dX7_signAt_1 rfl rfl ?_
  refine z_iload_n (pc := 2) C 1 dX7_signAt_2 rfl rfl ?_
  obtain ⟨v1, ev1, h⟩ := ob1_eq h
  refine z_callVi (h := A.length) (As := [.int x1]) (rest := [.ref A.length]) (pc := 3) C dX7_signAt_3 ml_X7_108 (kX7_storeAt _ _ _ _ A M B x1 v1 ev1) (hM_o A M B) rfl rfl rfl (Nat.le_of_ble_eq_true rfl) (by decide) ?_
  refine z_aload_n (pc := 6) C 0 dX7_signAt_6 rfl rfl ?_
  refine z_iload_n (pc := 7) C 1 dX7_signAt_7 rfl rfl ?_
  obtain ⟨v2, ev2, h⟩ := ob1_eq h
  refine z_callVi (h := A.length) (As := [.int x1]) (rest := [.int v1, .ref A.length]) (pc := 8) C dX7_signAt_8 ml_X7_112 (kX7_placeAt _ _ _ _ A M B x1 v2 ev2) (hM_o A M B) rfl rfl rfl (Nat.le_of_ble_eq_true rfl) (by decide) ?_
  obtain ⟨v3, ev3, h⟩ := ob1_eq h
  refine z_callVi (h := A.length) (As := [.int v1, .int v2]) (rest := []) (pc := 11) C dX7_signAt_11 ml_X7_115 (kX7_ofStore _ _ _ _ A M B v1 v2 v3 ev3) (hM_o A M B) rfl rfl rfl (Nat.le_of_ble_eq_true rfl) (by decide) ?_
  obtain rfl := Option.some.inj h
  exact z_iret (pc := 14) C E dX7_signAt_14 ⟨rfl, rfl⟩
theorem kX7_signAt (l : Launch) (D : va_G) (cA : Nat → ClassId) (b : Nat) (A : zH) (M : MS) (B : zH) (x1 : Int32) (out : Int32) (h : fX7_signAt M x1 = some out) : zM l D cA b yX7_signAt cX7_signAt 2 (some .int) 1 22 [.ref A.length, .int x1] (hG A M B) (poI out (hG A M B)) := z_entry rfl (Nat.le_of_ble_eq_true rfl) (fun X C E _ _ _ => wfX7_signAt C E x1 h)
def fX7_begins (M : MS) (x1 : Int32) : Option Int32 :=
    ob1 (rd 3000 (M.2.1 10) x1) fun v1 =>
    if (v1 - v1 / (2 : Int32) * (2 : Int32)) = (1 : Int32) then (some (1 : Int32)) else
    some (0 : Int32)
set_option maxRecDepth 100000 in
set_option maxHeartbeats 4000000 in
theorem wfX7_begins {X : zX} {A B : zH} {M : MS} {out : Int32} (C : zOK X cX7_begins yX7_begins.cls 2 (some .boolean) 0 0) (E : zPost X (poI out (hG A M B))) (x1 : Int32) (h : fX7_begins M x1 = some out) : zZ X 0 [(0, .ref A.length), (1, .int x1)] [] (hG A M B) := by
  rw [fX7_begins] at h
  refine z_aload_n (pc := 0) C 0 dX7_begins_0 rfl rfl ?_
  refine z_get (pc := 1) C dX7_begins_1 fl_X7_48 (hM_o A M B) rfl ?_
  refine z_iload_n (pc := 4) C 1 dX7_begins_4 rfl rfl ?_
  obtain ⟨v1, ev1, h⟩ := ob1_eq h
  refine z_iald (pc := 5) C dX7_begins_5 (hMa_10 A M B) (rd_eq ev1).1 (z_topi (rd_eq ev1).2 ?_)
  refine z_iconst (pc := 6) C dX7_begins_6 (v := (2 : Int32)) (by decide) ?_
  refine z_irem (pc := 7) C dX7_begins_7 (by decide) ?_
  refine z_iconst (pc := 8) C dX7_begins_8 (v := (1 : Int32)) (by decide) ?_
  refine z_ic_ne (pc := 9) C dX7_begins_9 (tgt := 16) (by decide) (fun c2 => ?_) (fun c2 => ?_)
  · rw [if_neg c2] at h
    refine z_iconst (pc := 16) C dX7_begins_16 (v := (0 : Int32)) (by decide) ?_
    obtain rfl := Option.some.inj h
    exact z_zret (pc := 17) C E dX7_begins_17 rfl ⟨rfl, rfl⟩
  · rw [if_pos c2] at h
    refine z_iconst (pc := 12) C dX7_begins_12 (v := (1 : Int32)) (by decide) ?_
    refine z_goto (pc := 13) C dX7_begins_13 (tgt := 17) (by decide) ?_
    obtain rfl := Option.some.inj h
    exact z_zret (pc := 17) C E dX7_begins_17 rfl ⟨rfl, rfl⟩
theorem kX7_begins (l : Launch) (D : va_G) (cA : Nat → ClassId) (b : Nat) (A : zH) (M : MS) (B : zH) (x1 : Int32) (out : Int32) (h : fX7_begins M x1 = some out) : zM l D cA b yX7_begins cX7_begins 2 (some .boolean) 0 0 [.ref A.length, .int x1] (hG A M B) (poI out (hG A M B)) := z_entry rfl (Nat.le_of_ble_eq_true rfl) (fun X C E _ _ _ => wfX7_begins C E x1 h)
def fX7_coded (x0 : Int32) (x1 : Int32) (x2 : Int32) : Option Int32 :=
    ob1 (fX7_flag x2) fun v1 =>
    some (((2 : Int32) * (((8192 : Int32) * x0) + x1)) + v1)
set_option maxRecDepth 100000 in
set_option maxHeartbeats 4000000 in
theorem wfX7_coded {X : zX} {G : zH} {out : Int32} (C : zOK X cX7_coded yX7_coded.cls 3 (some .int) 1 20) (E : zPost X (poI out G)) (x0 : Int32) (x1 : Int32) (x2 : Int32) (h : fX7_coded x0 x1 x2 = some out) : zZ X 0 [(0, .int x0), (1, .int x1), (2, .int x2)] [] G := by
  rw [fX7_coded] at h
  refine z_iconst (pc := 0) C dX7_coded_0 (v := (2 : Int32)) (by decide) ?_
  refine z_sipush (pc := 1) C dX7_coded_1 (v := (8192 : Int32)) (by decide) ?_
  refine z_iload_n (pc := 4) C 0 dX7_coded_4 rfl rfl ?_
  refine z_imul (pc := 5) C dX7_coded_5 ?_
  refine z_iload_n (pc := 6) C 1 dX7_coded_6 rfl rfl ?_
  refine z_iadd (pc := 7) C dX7_coded_7 ?_
  refine z_imul (pc := 8) C dX7_coded_8 ?_
  refine z_iload_n (pc := 9) C 2 dX7_coded_9 rfl rfl ?_
  obtain ⟨v1, ev1, h⟩ := ob1_eq h
  refine z_callSi (As := [.int x2]) (rest := [.int ((2 : Int32) * (((8192 : Int32) * x0) + x1))]) (pc := 10) C dX7_coded_10 ml_X7_119 (kX7_flag _ _ _ _ G x2 v1 ev1) rfl rfl (Nat.le_of_ble_eq_true rfl) (by decide) ?_
  refine z_iadd (pc := 13) C dX7_coded_13 ?_
  obtain rfl := Option.some.inj h
  exact z_iret (pc := 14) C E dX7_coded_14 ⟨rfl, rfl⟩
theorem kX7_coded (l : Launch) (D : va_G) (cA : Nat → ClassId) (b : Nat) (G : zH) (x0 : Int32) (x1 : Int32) (x2 : Int32) (out : Int32) (h : fX7_coded x0 x1 x2 = some out) : zM l D cA b yX7_coded cX7_coded 3 (some .int) 1 20 [.int x0, .int x1, .int x2] G (poI out G) := z_entry rfl (Nat.le_of_ble_eq_true rfl) (fun X C E _ _ _ => wfX7_coded C E x0 x1 x2 h)
def fX7_partsAt (M : MS) (x1 : Int32) : Option MS :=
    if (M.1 11) ≤ x1 then (some M) else
    ob1 (fX7_storeAt M x1) fun v2 =>
    ob1 (fX7_placeAt M x1) fun v3 =>
    ob1 (fX7_coded v2 v3 (1 : Int32)) fun v4 =>
    ob1 (wr 3000 x1 (mA M 10 (upd (M.2.1 10) x1.toNatClampNeg v4))) fun M5 =>
    some M5
set_option maxRecDepth 100000 in
set_option maxHeartbeats 4000000 in
theorem wfX7_partsAt {X : zX} {A B : zH} {out : MS} (C : zOK X cX7_partsAt yX7_partsAt.cls 2 none 2 42) (E : zPost X (poV (hG A out B))) (M : MS) (x1 : Int32) (h : fX7_partsAt M x1 = some out) : zZ X 0 [(0, .ref A.length), (1, .int x1)] [] (hG A M B) := by
  rw [fX7_partsAt] at h
  refine z_iload_n (pc := 0) C 1 dX7_partsAt_0 rfl rfl ?_
  refine z_aload_n (pc := 1) C 0 dX7_partsAt_1 rfl rfl ?_
  refine z_get (pc := 2) C dX7_partsAt_2 fl_X7_123 (hM_o A M B) rfl ?_
  refine z_ic_ge (pc := 5) C dX7_partsAt_5 (tgt := 28) (by decide) (fun c1 => ?_) (fun c1 => ?_)
  · rw [if_pos c1] at h
    obtain rfl := Option.some.inj h
    exact z_vret (pc := 28) C E dX7_partsAt_28 ⟨rfl, rfl⟩
  · rw [if_neg c1] at h
    refine z_aload_n (pc := 8) C 0 dX7_partsAt_8 rfl rfl ?_
    refine z_get (pc := 9) C dX7_partsAt_9 fl_X7_48 (hM_o A M B) rfl ?_
    refine z_iload_n (pc := 12) C 1 dX7_partsAt_12 rfl rfl ?_
    refine z_aload_n (pc := 13) C 0 dX7_partsAt_13 rfl rfl ?_
    refine z_iload_n (pc := 14) C 1 dX7_partsAt_14 rfl rfl ?_
    obtain ⟨v2, ev2, h⟩ := ob1_eq h
    refine z_callVi (h := A.length) (As := [.int x1]) (rest := [.int x1, .ref (A.length + 5)]) (pc := 15) C dX7_partsAt_15 ml_X7_108 (kX7_storeAt _ _ _ _ A M B x1 v2 ev2) (hM_o A M B) rfl rfl rfl (Nat.le_of_ble_eq_true rfl) (by decide) ?_
    refine z_aload_n (pc := 18) C 0 dX7_partsAt_18 rfl rfl ?_
    refine z_iload_n (pc := 19) C 1 dX7_partsAt_19 rfl rfl ?_
    obtain ⟨v3, ev3, h⟩ := ob1_eq h
    refine z_callVi (h := A.length) (As := [.int x1]) (rest := [.int v2, .int x1, .ref (A.length + 5)]) (pc := 20) C dX7_partsAt_20 ml_X7_112 (kX7_placeAt _ _ _ _ A M B x1 v3 ev3) (hM_o A M B) rfl rfl rfl (Nat.le_of_ble_eq_true rfl) (by decide) ?_
    refine z_iconst (pc := 23) C dX7_partsAt_23 (v := (1 : Int32)) (by decide) ?_
    obtain ⟨v4, ev4, h⟩ := ob1_eq h
    refine z_callSi (As := [.int v2, .int v3, .int (1 : Int32)]) (rest := [.int x1, .ref (A.length + 5)]) (pc := 24) C dX7_partsAt_24 ml_X7_126 (kX7_coded _ _ _ _ (hG A M B) v2 v3 (1 : Int32) v4 ev4) rfl rfl (Nat.le_of_ble_eq_true rfl) (by decide) ?_
    obtain ⟨M5, eM5, h⟩ := ob1_eq h
    refine z_iast (pc := 27) C dX7_partsAt_27 (hMa_10 A M B) (wr_eq eM5).1 (hMs_10 A B (wr_eq eM5).2) ?_
    obtain rfl := Option.some.inj h
    exact z_vret (pc := 28) C E dX7_partsAt_28 ⟨rfl, rfl⟩
theorem kX7_partsAt (l : Launch) (D : va_G) (cA : Nat → ClassId) (b : Nat) (A : zH) (M : MS) (B : zH) (x1 : Int32) (out : MS) (h : fX7_partsAt M x1 = some out) : zM l D cA b yX7_partsAt cX7_partsAt 2 none 2 42 [.ref A.length, .int x1] (hG A M B) (poV (hG A out B)) := z_entry rfl (Nat.le_of_ble_eq_true rfl) (fun X C E _ _ _ => wfX7_partsAt C E M x1 h)
def fX7_isPlace (M : MS) (x1 : Int32) : Option Int32 :=
    ob1 (fX7_in x1.toInt64 (0 : Int64) ((M.1 11).toInt64)) fun v1 =>
    ob1 (bz v1) fun r2 => some r2
set_option maxRecDepth 100000 in
set_option maxHeartbeats 4000000 in
theorem wfX7_isPlace {X : zX} {A B : zH} {M : MS} {out : Int32} (C : zOK X cX7_isPlace yX7_isPlace.cls 2 (some .boolean) 1 25) (E : zPost X (poI out (hG A M B))) (x1 : Int32) (h : fX7_isPlace M x1 = some out) : zZ X 0 [(0, .ref A.length), (1, .int x1)] [] (hG A M B) := by
  rw [fX7_isPlace] at h
  refine z_iload_n (pc := 0) C 1 dX7_isPlace_0 rfl rfl ?_
  refine z_i2l (pc := 1) C dX7_isPlace_1 ?_
  refine z_lconst (pc := 2) C dX7_isPlace_2 (v := (0 : Int64)) (by decide) ?_
  refine z_aload_n (pc := 3) C 0 dX7_isPlace_3 rfl rfl ?_
  refine z_get (pc := 4) C dX7_isPlace_4 fl_X7_123 (hM_o A M B) rfl ?_
  refine z_i2l (pc := 7) C dX7_isPlace_7 ?_
  obtain ⟨v1, ev1, h⟩ := ob1_eq h
  refine z_callSi (As := [.long x1.toInt64, .long (0 : Int64), .long ((M.1 11).toInt64)]) (rest := []) (pc := 8) C dX7_isPlace_8 ml_X7_21 (kX7_in _ _ _ _ (hG A M B) x1.toInt64 (0 : Int64) ((M.1 11).toInt64) v1 ev1) rfl rfl (Nat.le_of_ble_eq_true rfl) (by decide) ?_
  obtain ⟨r2, er2, h⟩ := ob1_eq h
  have hb := bz_eq er2
  obtain rfl := Option.some.inj h
  exact z_zret (pc := 11) C E dX7_isPlace_11 hb.2 ⟨congrArg (fun z => some (Value.int z)) hb.1.symm, rfl⟩
theorem kX7_isPlace (l : Launch) (D : va_G) (cA : Nat → ClassId) (b : Nat) (A : zH) (M : MS) (B : zH) (x1 : Int32) (out : Int32) (h : fX7_isPlace M x1 = some out) : zM l D cA b yX7_isPlace cX7_isPlace 2 (some .boolean) 1 25 [.ref A.length, .int x1] (hG A M B) (poI out (hG A M B)) := z_entry rfl (Nat.le_of_ble_eq_true rfl) (fun X C E _ _ _ => wfX7_isPlace C E x1 h)
def fX7_isSign (M : MS) (x1 : Int32) : Option Int32 :=
    ob1 (fX7_in x1.toInt64 (0 : Int64) (((M.1 11) - (1 : Int32)).toInt64)) fun v1 =>
    ob1 (bz v1) fun r2 => some r2
set_option maxRecDepth 100000 in
set_option maxHeartbeats 4000000 in
theorem wfX7_isSign {X : zX} {A B : zH} {M : MS} {out : Int32} (C : zOK X cX7_isSign yX7_isSign.cls 2 (some .boolean) 1 25) (E : zPost X (poI out (hG A M B))) (x1 : Int32) (h : fX7_isSign M x1 = some out) : zZ X 0 [(0, .ref A.length), (1, .int x1)] [] (hG A M B) := by
  rw [fX7_isSign] at h
  refine z_iload_n (pc := 0) C 1 dX7_isSign_0 rfl rfl ?_
  refine z_i2l (pc := 1) C dX7_isSign_1 ?_
  refine z_lconst (pc := 2) C dX7_isSign_2 (v := (0 : Int64)) (by decide) ?_
  refine z_aload_n (pc := 3) C 0 dX7_isSign_3 rfl rfl ?_
  refine z_get (pc := 4) C dX7_isSign_4 fl_X7_123 (hM_o A M B) rfl ?_
  refine z_iconst (pc := 7) C dX7_isSign_7 (v := (1 : Int32)) (by decide) ?_
  refine z_isub (pc := 8) C dX7_isSign_8 ?_
  refine z_i2l (pc := 9) C dX7_isSign_9 ?_
  obtain ⟨v1, ev1, h⟩ := ob1_eq h
  refine z_callSi (As := [.long x1.toInt64, .long (0 : Int64), .long (((M.1 11) - (1 : Int32)).toInt64)]) (rest := []) (pc := 10) C dX7_isSign_10 ml_X7_21 (kX7_in _ _ _ _ (hG A M B) x1.toInt64 (0 : Int64) (((M.1 11) - (1 : Int32)).toInt64) v1 ev1) rfl rfl (Nat.le_of_ble_eq_true rfl) (by decide) ?_
  obtain ⟨r2, er2, h⟩ := ob1_eq h
  have hb := bz_eq er2
  obtain rfl := Option.some.inj h
  exact z_zret (pc := 13) C E dX7_isSign_13 hb.2 ⟨congrArg (fun z => some (Value.int z)) hb.1.symm, rfl⟩
theorem kX7_isSign (l : Launch) (D : va_G) (cA : Nat → ClassId) (b : Nat) (A : zH) (M : MS) (B : zH) (x1 : Int32) (out : Int32) (h : fX7_isSign M x1 = some out) : zM l D cA b yX7_isSign cX7_isSign 2 (some .boolean) 1 25 [.ref A.length, .int x1] (hG A M B) (poI out (hG A M B)) := z_entry rfl (Nat.le_of_ble_eq_true rfl) (fun X C E _ _ _ => wfX7_isSign C E x1 h)
def fX7_pieces_b4 (M : MS) : Nat → Int32 → Int32 → Option Int32
  | 0, _, _ => none
  | n + 1, x1, x2 =>
    if (M.1 11) ≤ x2 then (some x1) else
    ob1 (fX7_begins M x2) fun v2 =>
    ob1 (fX7_flag v2) fun v3 =>
    zlet ((x1 + v3)) fun y4 =>
    zlet (x2 + (1 : Int32)) fun y5 =>
    (fX7_pieces_b4 M n) y4 y5
set_option maxRecDepth 100000 in
set_option maxHeartbeats 4000000 in
theorem wfX7_pieces_b4 {X : zX} {A B : zH} {M : MS} {out : Int32} (C : zOK X cX7_pieces yX7_pieces.cls 3 (some .int) 1 21) (E : zPost X (poI out (hG A M B))) : ∀ (n : Nat) (x1 : Int32) (x2 : Int32) (h : fX7_pieces_b4 M n x1 x2 = some out), zZ X 4 [(0, .ref A.length), (1, .int x1), (2, .int x2)] [] (hG A M B) := by
  intro n
  induction n with
  | zero => intro x1 x2 h; cases h
  | succ n ih =>
    intro x1 x2 h
    rw [fX7_pieces_b4] at h
    refine z_iload_n (pc := 4) C 2 dX7_pieces_4 rfl rfl ?_
    refine z_aload_n (pc := 5) C 0 dX7_pieces_5 rfl rfl ?_
    refine z_get (pc := 6) C dX7_pieces_6 fl_X7_123 (hM_o A M B) rfl ?_
    refine z_ic_ge (pc := 9) C dX7_pieces_9 (tgt := 29) (by decide) (fun c1 => ?_) (fun c1 => ?_)
    · rw [if_pos c1] at h
      refine z_iload_n (pc := 29) C 1 dX7_pieces_29 rfl rfl ?_
      obtain rfl := Option.some.inj h
      exact z_iret (pc := 30) C E dX7_pieces_30 ⟨rfl, rfl⟩
    · rw [if_neg c1] at h
      refine z_iload_n (pc := 12) C 1 dX7_pieces_12 rfl rfl ?_
      refine z_aload_n (pc := 13) C 0 dX7_pieces_13 rfl rfl ?_
      refine z_iload_n (pc := 14) C 2 dX7_pieces_14 rfl rfl ?_
      obtain ⟨v2, ev2, h⟩ := ob1_eq h
      refine z_callVi (h := A.length) (As := [.int x2]) (rest := [.int x1]) (pc := 15) C dX7_pieces_15 ml_X7_130 (kX7_begins _ _ _ _ A M B x2 v2 ev2) (hM_o A M B) rfl rfl rfl (Nat.le_of_ble_eq_true rfl) (by decide) ?_
      obtain ⟨v3, ev3, h⟩ := ob1_eq h
      refine z_callSi (As := [.int v2]) (rest := [.int x1]) (pc := 18) C dX7_pieces_18 ml_X7_119 (kX7_flag _ _ _ _ (hG A M B) v2 v3 ev3) rfl rfl (Nat.le_of_ble_eq_true rfl) (by decide) ?_
      refine z_iadd (pc := 21) C dX7_pieces_21 ?_
      obtain ⟨y4, ey4, h⟩ := zlet_eq h
      refine z_topi ey4 ?_
      refine z_istore_n (pc := 22) C dX7_pieces_22 rfl (by decide) (show zput _ _ _ = [(1, .int y4), (0, .ref A.length), (2, .int x2)] from rfl) ?_
      obtain ⟨y5, ey5, h⟩ := zlet_eq h
      refine z_iinc (pc := 23) (v := y5) C 2 dX7_pieces_23 rfl (by rw [ey5]; rfl) (by decide) (show zput _ _ _ = [(2, .int y5), (1, .int y4), (0, .ref A.length)] from rfl) ?_
      refine z_goto (pc := 26) C dX7_pieces_26 (tgt := 4) (by decide) ?_
      exact z_subL [2, 1, 0] (ih y4 y5 h) rfl
def fX7_pieces (M : MS) : Option Int32 :=
    fX7_pieces_b4 M FU (0 : Int32) (0 : Int32)
set_option maxRecDepth 100000 in
set_option maxHeartbeats 4000000 in
theorem wfX7_pieces {X : zX} {A B : zH} {M : MS} {out : Int32} (C : zOK X cX7_pieces yX7_pieces.cls 3 (some .int) 1 21) (E : zPost X (poI out (hG A M B))) (h : fX7_pieces M = some out) : zZ X 0 [(0, .ref A.length)] [] (hG A M B) := by
  rw [fX7_pieces] at h
  refine z_iconst (pc := 0) C dX7_pieces_0 (v := (0 : Int32)) (by decide) ?_
  refine z_istore_n (pc := 1) C dX7_pieces_1 rfl (by decide) (show zput _ _ _ = [(1, .int (0 : Int32)), (0, .ref A.length)] from rfl) ?_
  refine z_iconst (pc := 2) C dX7_pieces_2 (v := (0 : Int32)) (by decide) ?_
  refine z_istore_n (pc := 3) C dX7_pieces_3 rfl (by decide) (show zput _ _ _ = [(2, .int (0 : Int32)), (1, .int (0 : Int32)), (0, .ref A.length)] from rfl) ?_
  exact z_subL [2, 1, 0] (wfX7_pieces_b4 C E FU (0 : Int32) (0 : Int32) h) rfl
theorem kX7_pieces (l : Launch) (D : va_G) (cA : Nat → ClassId) (b : Nat) (A : zH) (M : MS) (B : zH)  (out : Int32) (h : fX7_pieces M = some out) : zM l D cA b yX7_pieces cX7_pieces 3 (some .int) 1 21 [.ref A.length] (hG A M B) (poI out (hG A M B)) := z_entry rfl (Nat.le_of_ble_eq_true rfl) (fun X C E _ _ _ => wfX7_pieces C E h)
def fX7_opensGap_b32 (M : MS) (x2 : Int32) : Option MS :=
    zlet (mI M 11 ((M.1 11) + x2)) fun M1 =>
    some M1
set_option maxRecDepth 100000 in
set_option maxHeartbeats 4000000 in
theorem wfX7_opensGap_b32 {X : zX} {A B : zH} {out : MS} (C : zOK X cX7_opensGap yX7_opensGap.cls 4 none 0 0) (E : zPost X (poV (hG A out B))) (M : MS) (x2 : Int32) (h : fX7_opensGap_b32 M x2 = some out) : zZ X 32 [(0, .ref A.length), (2, .int x2)] [] (hG A M B) := by
  rw [fX7_opensGap_b32] at h
  refine z_aload_n (pc := 32) C 0 dX7_opensGap_32 rfl rfl ?_
  refine z_dup (pc := 33) C dX7_opensGap_33 rfl ?_
  refine z_get (pc := 34) C dX7_opensGap_34 fl_X7_123 (hM_o A M B) rfl ?_
  refine z_iload_n (pc := 37) C 1 dX7_opensGap_37 rfl rfl ?_
  refine z_iadd (pc := 38) C dX7_opensGap_38 ?_
  obtain ⟨M1, eM1, h⟩ := zlet_eq h
  refine z_put (pc := 39) C dX7_opensGap_39 fl_X7_123w (hM_o A M B) (fun _ => rfl) (fun _ => rfl) (Nat.le_of_ble_eq_true rfl) (hMi_11 A B eM1) ?_
  obtain rfl := Option.some.inj h
  exact z_vret (pc := 42) C E dX7_opensGap_42 ⟨rfl, rfl⟩
def fX7_opensGap_b7 : Nat → MS → Int32 → Int32 → Int32 → Option MS
  | 0, _, _, _, _ => none
  | n + 1, M, x1, x2, x3 =>
    if x3 < x1 then (fX7_opensGap_b32 M x2) else
    ob1 (rd 3000 (M.2.1 10) x3) fun v2 =>
    ob1 (wr 3000 (x3 + x2) (mA M 10 (upd (M.2.1 10) (x3 + x2).toNatClampNeg v2))) fun M3 =>
    zlet (x3 + (-1 : Int32)) fun y4 =>
    (fX7_opensGap_b7 n) M3 x1 x2 y4
set_option maxRecDepth 100000 in
set_option maxHeartbeats 4000000 in
theorem wfX7_opensGap_b7 {X : zX} {A B : zH} {out : MS} (C : zOK X cX7_opensGap yX7_opensGap.cls 4 none 0 0) (E : zPost X (poV (hG A out B))) : ∀ (n : Nat) (M : MS) (x1 : Int32) (x2 : Int32) (x3 : Int32) (h : fX7_opensGap_b7 n M x1 x2 x3 = some out), zZ X 7 [(0, .ref A.length), (1, .int x1), (2, .int x2), (3, .int x3)] [] (hG A M B) := by
  intro n
  induction n with
  | zero => intro M x1 x2 x3 h; cases h
  | succ n ih =>
    intro M x1 x2 x3 h
    rw [fX7_opensGap_b7] at h
    refine z_iload_n (pc := 7) C 3 dX7_opensGap_7 rfl rfl ?_
    refine z_iload_n (pc := 8) C 1 dX7_opensGap_8 rfl rfl ?_
    refine z_ic_lt (pc := 9) C dX7_opensGap_9 (tgt := 32) (by decide) (fun c1 => ?_) (fun c1 => ?_)
    · rw [if_pos c1] at h
      exact z_subL [0, 2] (wfX7_opensGap_b32 C E M x2 h) rfl
    · rw [if_neg c1] at h
      refine z_aload_n (pc := 12) C 0 dX7_opensGap_12 rfl rfl ?_
      refine z_get (pc := 13) C dX7_opensGap_13 fl_X7_48 (hM_o A M B) rfl ?_
      refine z_iload_n (pc := 16) C 3 dX7_opensGap_16 rfl rfl ?_
      refine z_iload_n (pc := 17) C 2 dX7_opensGap_17 rfl rfl ?_
      refine z_iadd (pc := 18) C dX7_opensGap_18 ?_
      refine z_aload_n (pc := 19) C 0 dX7_opensGap_19 rfl rfl ?_
      refine z_get (pc := 20) C dX7_opensGap_20 fl_X7_48 (hM_o A M B) rfl ?_
      refine z_iload_n (pc := 23) C 3 dX7_opensGap_23 rfl rfl ?_
      obtain ⟨v2, ev2, h⟩ := ob1_eq h
      refine z_iald (pc := 24) C dX7_opensGap_24 (hMa_10 A M B) (rd_eq ev2).1 (z_topi (rd_eq ev2).2 ?_)
      obtain ⟨M3, eM3, h⟩ := ob1_eq h
      refine z_iast (pc := 25) C dX7_opensGap_25 (hMa_10 A M B) (wr_eq eM3).1 (hMs_10 A B (wr_eq eM3).2) ?_
      obtain ⟨y4, ey4, h⟩ := zlet_eq h
      refine z_iinc (pc := 26) (v := y4) C 3 dX7_opensGap_26 rfl (by rw [ey4]; rfl) (by decide) (show zput _ _ _ = [(3, .int y4), (0, .ref A.length), (1, .int x1), (2, .int x2)] from rfl) ?_
      refine z_goto (pc := 29) C dX7_opensGap_29 (tgt := 7) (by decide) ?_
      exact z_subL [1, 2, 3, 0] (ih M3 x1 x2 y4 h) rfl
def fX7_opensGap (M : MS) (x1 : Int32) (x2 : Int32) : Option MS :=
    zlet (((M.1 11) - (1 : Int32))) fun y1 =>
    fX7_opensGap_b7 FU M x1 x2 y1
set_option maxRecDepth 100000 in
set_option maxHeartbeats 4000000 in
theorem wfX7_opensGap {X : zX} {A B : zH} {out : MS} (C : zOK X cX7_opensGap yX7_opensGap.cls 4 none 0 0) (E : zPost X (poV (hG A out B))) (M : MS) (x1 : Int32) (x2 : Int32) (h : fX7_opensGap M x1 x2 = some out) : zZ X 0 [(0, .ref A.length), (1, .int x1), (2, .int x2)] [] (hG A M B) := by
  rw [fX7_opensGap] at h
  refine z_aload_n (pc := 0) C 0 dX7_opensGap_0 rfl rfl ?_
  refine z_get (pc := 1) C dX7_opensGap_1 fl_X7_123 (hM_o A M B) rfl ?_
  refine z_iconst (pc := 4) C dX7_opensGap_4 (v := (1 : Int32)) (by decide) ?_
  refine z_isub (pc := 5) C dX7_opensGap_5 ?_
  obtain ⟨y1, ey1, h⟩ := zlet_eq h
  refine z_topi ey1 ?_
  refine z_istore_n (pc := 6) C dX7_opensGap_6 rfl (by decide) (show zput _ _ _ = [(3, .int y1), (0, .ref A.length), (1, .int x1), (2, .int x2)] from rfl) ?_
  exact z_subL [1, 2, 3, 0] (wfX7_opensGap_b7 C E FU M x1 x2 y1 h) rfl
theorem kX7_opensGap (l : Launch) (D : va_G) (cA : Nat → ClassId) (b : Nat) (A : zH) (M : MS) (B : zH) (x1 : Int32) (x2 : Int32) (out : MS) (h : fX7_opensGap M x1 x2 = some out) : zM l D cA b yX7_opensGap cX7_opensGap 4 none 0 0 [.ref A.length, .int x1, .int x2] (hG A M B) (poV (hG A out B)) := z_entry rfl (Nat.le_of_ble_eq_true rfl) (fun X C E _ _ _ => wfX7_opensGap C E M x1 x2 h)
def fX7_closesGap_b32 (M : MS) (x2 : Int32) : Option MS :=
    zlet (mI M 11 ((M.1 11) - x2)) fun M1 =>
    some M1
set_option maxRecDepth 100000 in
set_option maxHeartbeats 4000000 in
theorem wfX7_closesGap_b32 {X : zX} {A B : zH} {out : MS} (C : zOK X cX7_closesGap yX7_closesGap.cls 4 none 0 0) (E : zPost X (poV (hG A out B))) (M : MS) (x2 : Int32) (h : fX7_closesGap_b32 M x2 = some out) : zZ X 32 [(0, .ref A.length), (2, .int x2)] [] (hG A M B) := by
  rw [fX7_closesGap_b32] at h
  refine z_aload_n (pc := 32) C 0 dX7_closesGap_32 rfl rfl ?_
  refine z_dup (pc := 33) C dX7_closesGap_33 rfl ?_
  refine z_get (pc := 34) C dX7_closesGap_34 fl_X7_123 (hM_o A M B) rfl ?_
  refine z_iload_n (pc := 37) C 1 dX7_closesGap_37 rfl rfl ?_
  refine z_isub (pc := 38) C dX7_closesGap_38 ?_
  obtain ⟨M1, eM1, h⟩ := zlet_eq h
  refine z_put (pc := 39) C dX7_closesGap_39 fl_X7_123w (hM_o A M B) (fun _ => rfl) (fun _ => rfl) (Nat.le_of_ble_eq_true rfl) (hMi_11 A B eM1) ?_
  obtain rfl := Option.some.inj h
  exact z_vret (pc := 42) C E dX7_closesGap_42 ⟨rfl, rfl⟩
def fX7_closesGap_b4 : Nat → MS → Int32 → Int32 → Option MS
  | 0, _, _, _ => none
  | n + 1, M, x2, x3 =>
    if (M.1 11) ≤ x3 then (fX7_closesGap_b32 M x2) else
    ob1 (rd 3000 (M.2.1 10) x3) fun v2 =>
    ob1 (wr 3000 (x3 - x2) (mA M 10 (upd (M.2.1 10) (x3 - x2).toNatClampNeg v2))) fun M3 =>
    zlet (x3 + (1 : Int32)) fun y4 =>
    (fX7_closesGap_b4 n) M3 x2 y4
set_option maxRecDepth 100000 in
set_option maxHeartbeats 4000000 in
theorem wfX7_closesGap_b4 {X : zX} {A B : zH} {out : MS} (C : zOK X cX7_closesGap yX7_closesGap.cls 4 none 0 0) (E : zPost X (poV (hG A out B))) : ∀ (n : Nat) (M : MS) (x2 : Int32) (x3 : Int32) (h : fX7_closesGap_b4 n M x2 x3 = some out), zZ X 4 [(0, .ref A.length), (2, .int x2), (3, .int x3)] [] (hG A M B) := by
  intro n
  induction n with
  | zero => intro M x2 x3 h; cases h
  | succ n ih =>
    intro M x2 x3 h
    rw [fX7_closesGap_b4] at h
    refine z_iload_n (pc := 4) C 2 dX7_closesGap_4 rfl rfl ?_
    refine z_aload_n (pc := 5) C 0 dX7_closesGap_5 rfl rfl ?_
    refine z_get (pc := 6) C dX7_closesGap_6 fl_X7_123 (hM_o A M B) rfl ?_
    refine z_ic_ge (pc := 9) C dX7_closesGap_9 (tgt := 32) (by decide) (fun c1 => ?_) (fun c1 => ?_)
    · rw [if_pos c1] at h
      exact z_subL [0, 1] (wfX7_closesGap_b32 C E M x2 h) rfl
    · rw [if_neg c1] at h
      refine z_aload_n (pc := 12) C 0 dX7_closesGap_12 rfl rfl ?_
      refine z_get (pc := 13) C dX7_closesGap_13 fl_X7_48 (hM_o A M B) rfl ?_
      refine z_iload_n (pc := 16) C 2 dX7_closesGap_16 rfl rfl ?_
      refine z_iload_n (pc := 17) C 1 dX7_closesGap_17 rfl rfl ?_
      refine z_isub (pc := 18) C dX7_closesGap_18 ?_
      refine z_aload_n (pc := 19) C 0 dX7_closesGap_19 rfl rfl ?_
      refine z_get (pc := 20) C dX7_closesGap_20 fl_X7_48 (hM_o A M B) rfl ?_
      refine z_iload_n (pc := 23) C 2 dX7_closesGap_23 rfl rfl ?_
      obtain ⟨v2, ev2, h⟩ := ob1_eq h
      refine z_iald (pc := 24) C dX7_closesGap_24 (hMa_10 A M B) (rd_eq ev2).1 (z_topi (rd_eq ev2).2 ?_)
      obtain ⟨M3, eM3, h⟩ := ob1_eq h
      refine z_iast (pc := 25) C dX7_closesGap_25 (hMa_10 A M B) (wr_eq eM3).1 (hMs_10 A B (wr_eq eM3).2) ?_
      obtain ⟨y4, ey4, h⟩ := zlet_eq h
      refine z_iinc (pc := 26) (v := y4) C 2 dX7_closesGap_26 rfl (by rw [ey4]; rfl) (by decide) (show zput _ _ _ = [(3, .int y4), (0, .ref A.length), (2, .int x2)] from rfl) ?_
      refine z_goto (pc := 29) C dX7_closesGap_29 (tgt := 4) (by decide) ?_
      exact z_subL [1, 2, 0] (ih M3 x2 y4 h) rfl
def fX7_closesGap (M : MS) (x1 : Int32) (x2 : Int32) : Option MS :=
    zlet ((x1 + x2)) fun y1 =>
    fX7_closesGap_b4 FU M x2 y1
set_option maxRecDepth 100000 in
set_option maxHeartbeats 4000000 in
theorem wfX7_closesGap {X : zX} {A B : zH} {out : MS} (C : zOK X cX7_closesGap yX7_closesGap.cls 4 none 0 0) (E : zPost X (poV (hG A out B))) (M : MS) (x1 : Int32) (x2 : Int32) (h : fX7_closesGap M x1 x2 = some out) : zZ X 0 [(0, .ref A.length), (1, .int x1), (2, .int x2)] [] (hG A M B) := by
  rw [fX7_closesGap] at h
  refine z_iload_n (pc := 0) C 1 dX7_closesGap_0 rfl rfl ?_
  refine z_iload_n (pc := 1) C 2 dX7_closesGap_1 rfl rfl ?_
  refine z_iadd (pc := 2) C dX7_closesGap_2 ?_
  obtain ⟨y1, ey1, h⟩ := zlet_eq h
  refine z_topi ey1 ?_
  refine z_istore_n (pc := 3) C dX7_closesGap_3 rfl (by decide) (show zput _ _ _ = [(3, .int y1), (0, .ref A.length), (1, .int x1), (2, .int x2)] from rfl) ?_
  exact z_subL [1, 3, 0] (wfX7_closesGap_b4 C E FU M x2 y1 h) rfl
theorem kX7_closesGap (l : Launch) (D : va_G) (cA : Nat → ClassId) (b : Nat) (A : zH) (M : MS) (B : zH) (x1 : Int32) (x2 : Int32) (out : MS) (h : fX7_closesGap M x1 x2 = some out) : zM l D cA b yX7_closesGap cX7_closesGap 4 none 0 0 [.ref A.length, .int x1, .int x2] (hG A M B) (poV (hG A out B)) := z_entry rfl (Nat.le_of_ble_eq_true rfl) (fun X C E _ _ _ => wfX7_closesGap C E M x1 x2 h)
def fX7_marksCome_b50 (k2 : MS → Int32 → Int32 → Int32 → Option MS) (M : MS) (x1 : Int32) (x2 : Int32) (x3 : Int32) (s0 : Int32) (s1 : Int32) (s2 : Int32) : Option MS :=
    ob1 (wr 8 s2 (mA M 12 (upd (M.2.1 12) s2.toNatClampNeg (s1 + s0)))) fun M1 =>
    zlet (x3 + (1 : Int32)) fun y2 =>
    k2 M1 x1 x2 y2
set_option maxRecDepth 100000 in
set_option maxHeartbeats 4000000 in
theorem wfX7_marksCome_b50 {X : zX} {A B : zH} {out : MS} (C : zOK X cX7_marksCome yX7_marksCome.cls 4 none 0 0) (E : zPost X (poV (hG A out B))) (k2 : MS → Int32 → Int32 → Int32 → Option MS) (hk2 : ∀ (M : MS) (x1 : Int32) (x2 : Int32) (x3 : Int32), k2 M x1 x2 x3 = some out → zZ X 2 [(0, .ref A.length), (1, .int x1), (2, .int x2), (3, .int x3)] [] (hG A M B)) (M : MS) (x1 : Int32) (x2 : Int32) (x3 : Int32) (s0 : Int32) (s1 : Int32) (s2 : Int32) (h : fX7_marksCome_b50 k2 M x1 x2 x3 s0 s1 s2 = some out) : zZ X 50 [(0, .ref A.length), (1, .int x1), (2, .int x2), (3, .int x3)] [.int s0, .int s1, .int s2, .ref (A.length + 6)] (hG A M B) := by
  rw [fX7_marksCome_b50] at h
  refine z_iadd (pc := 50) C dX7_marksCome_50 ?_
  obtain ⟨M1, eM1, h⟩ := ob1_eq h
  refine z_iast (pc := 51) C dX7_marksCome_51 (hMa_12 A M B) (wr_eq eM1).1 (hMs_12 A B (wr_eq eM1).2) ?_
  obtain ⟨y2, ey2, h⟩ := zlet_eq h
  refine z_iinc (pc := 52) (v := y2) C 3 dX7_marksCome_52 rfl (by rw [ey2]; rfl) (by decide) (show zput _ _ _ = [(3, .int y2), (0, .ref A.length), (1, .int x1), (2, .int x2)] from rfl) ?_
  refine z_goto (pc := 55) C dX7_marksCome_55 (tgt := 2) (by decide) ?_
  exact z_subL [1, 2, 3, 0] (hk2 M1 x1 x2 y2 h) rfl
def fX7_marksCome_b49 (k2 : MS → Int32 → Int32 → Int32 → Option MS) (M : MS) (x1 : Int32) (x2 : Int32) (x3 : Int32) (s0 : Int32) (s1 : Int32) : Option MS :=
    fX7_marksCome_b50 k2 M x1 x2 x3 (0 : Int32) s0 s1
set_option maxRecDepth 100000 in
set_option maxHeartbeats 4000000 in
theorem wfX7_marksCome_b49 {X : zX} {A B : zH} {out : MS} (C : zOK X cX7_marksCome yX7_marksCome.cls 4 none 0 0) (E : zPost X (poV (hG A out B))) (k2 : MS → Int32 → Int32 → Int32 → Option MS) (hk2 : ∀ (M : MS) (x1 : Int32) (x2 : Int32) (x3 : Int32), k2 M x1 x2 x3 = some out → zZ X 2 [(0, .ref A.length), (1, .int x1), (2, .int x2), (3, .int x3)] [] (hG A M B)) (M : MS) (x1 : Int32) (x2 : Int32) (x3 : Int32) (s0 : Int32) (s1 : Int32) (h : fX7_marksCome_b49 k2 M x1 x2 x3 s0 s1 = some out) : zZ X 49 [(0, .ref A.length), (1, .int x1), (2, .int x2), (3, .int x3)] [.int s0, .int s1, .ref (A.length + 6)] (hG A M B) := by
  rw [fX7_marksCome_b49] at h
  refine z_iconst (pc := 49) C dX7_marksCome_49 (v := (0 : Int32)) (by decide) ?_
  exact z_subL [0, 1, 2, 3] (wfX7_marksCome_b50 C E k2 hk2 M x1 x2 x3 (0 : Int32) s0 s1 h) rfl
def fX7_marksCome_b45 (k2 : MS → Int32 → Int32 → Int32 → Option MS) (M : MS) (x1 : Int32) (x2 : Int32) (x3 : Int32) (s0 : Int32) (s1 : Int32) : Option MS :=
    fX7_marksCome_b50 k2 M x1 x2 x3 x2 s0 s1
set_option maxRecDepth 100000 in
set_option maxHeartbeats 4000000 in
theorem wfX7_marksCome_b45 {X : zX} {A B : zH} {out : MS} (C : zOK X cX7_marksCome yX7_marksCome.cls 4 none 0 0) (E : zPost X (poV (hG A out B))) (k2 : MS → Int32 → Int32 → Int32 → Option MS) (hk2 : ∀ (M : MS) (x1 : Int32) (x2 : Int32) (x3 : Int32), k2 M x1 x2 x3 = some out → zZ X 2 [(0, .ref A.length), (1, .int x1), (2, .int x2), (3, .int x3)] [] (hG A M B)) (M : MS) (x1 : Int32) (x2 : Int32) (x3 : Int32) (s0 : Int32) (s1 : Int32) (h : fX7_marksCome_b45 k2 M x1 x2 x3 s0 s1 = some out) : zZ X 45 [(0, .ref A.length), (1, .int x1), (2, .int x2), (3, .int x3)] [.int s0, .int s1, .ref (A.length + 6)] (hG A M B) := by
  rw [fX7_marksCome_b45] at h
  refine z_iload_n (pc := 45) C 2 dX7_marksCome_45 rfl rfl ?_
  refine z_goto (pc := 46) C dX7_marksCome_46 (tgt := 50) (by decide) ?_
  exact z_subL [0, 1, 2, 3] (wfX7_marksCome_b50 C E k2 hk2 M x1 x2 x3 x2 s0 s1 h) rfl
def fX7_marksCome_b2 : Nat → MS → Int32 → Int32 → Int32 → Option MS
  | 0, _, _, _, _ => none
  | n + 1, M, x1, x2, x3 =>
    if (8 : Int32) ≤ x3 then (some M) else
    ob1 (rd 8 (M.2.1 12) x3) fun v2 =>
    ob1 (rd 8 (M.2.1 12) x3) fun v3 =>
    if x1 < v3 then (fX7_marksCome_b45 (fX7_marksCome_b2 n) M x1 x2 x3 v2 x3) else
    ob1 (rd 8 (M.2.1 12) x3) fun v5 =>
    if v5 = x1 then (ob1 (rd 8 (M.2.1 13) x3) fun v7 =>
    if v7 = (1 : Int32) then (fX7_marksCome_b45 (fX7_marksCome_b2 n) M x1 x2 x3 v2 x3) else
    fX7_marksCome_b49 (fX7_marksCome_b2 n) M x1 x2 x3 v2 x3) else
    fX7_marksCome_b49 (fX7_marksCome_b2 n) M x1 x2 x3 v2 x3
set_option maxRecDepth 100000 in
set_option maxHeartbeats 4000000 in
theorem wfX7_marksCome_b2 {X : zX} {A B : zH} {out : MS} (C : zOK X cX7_marksCome yX7_marksCome.cls 4 none 0 0) (E : zPost X (poV (hG A out B))) : ∀ (n : Nat) (M : MS) (x1 : Int32) (x2 : Int32) (x3 : Int32) (h : fX7_marksCome_b2 n M x1 x2 x3 = some out), zZ X 2 [(0, .ref A.length), (1, .int x1), (2, .int x2), (3, .int x3)] [] (hG A M B) := by
  intro n
  induction n with
  | zero => intro M x1 x2 x3 h; cases h
  | succ n ih =>
    intro M x1 x2 x3 h
    rw [fX7_marksCome_b2] at h
    refine z_iload_n (pc := 2) C 3 dX7_marksCome_2 rfl rfl ?_
    refine z_bipush (pc := 3) C dX7_marksCome_3 (v := (8 : Int32)) (by decide) ?_
    refine z_ic_ge (pc := 5) C dX7_marksCome_5 (tgt := 58) (by decide) (fun c1 => ?_) (fun c1 => ?_)
    · rw [if_pos c1] at h
      obtain rfl := Option.some.inj h
      exact z_vret (pc := 58) C E dX7_marksCome_58 ⟨rfl, rfl⟩
    · rw [if_neg c1] at h
      refine z_aload_n (pc := 8) C 0 dX7_marksCome_8 rfl rfl ?_
      refine z_get (pc := 9) C dX7_marksCome_9 fl_X7_51 (hM_o A M B) rfl ?_
      refine z_iload_n (pc := 12) C 3 dX7_marksCome_12 rfl rfl ?_
      refine z_dup2 (pc := 13) C dX7_marksCome_13 rfl rfl ?_
      obtain ⟨v2, ev2, h⟩ := ob1_eq h
      refine z_iald (pc := 14) C dX7_marksCome_14 (hMa_12 A M B) (rd_eq ev2).1 (z_topi (rd_eq ev2).2 ?_)
      refine z_aload_n (pc := 15) C 0 dX7_marksCome_15 rfl rfl ?_
      refine z_get (pc := 16) C dX7_marksCome_16 fl_X7_51 (hM_o A M B) rfl ?_
      refine z_iload_n (pc := 19) C 3 dX7_marksCome_19 rfl rfl ?_
      obtain ⟨v3, ev3, h⟩ := ob1_eq h
      refine z_iald (pc := 20) C dX7_marksCome_20 (hMa_12 A M B) (rd_eq ev3).1 (z_topi (rd_eq ev3).2 ?_)
      refine z_iload_n (pc := 21) C 1 dX7_marksCome_21 rfl rfl ?_
      refine z_ic_gt (pc := 22) C dX7_marksCome_22 (tgt := 45) (by decide) (fun c4 => ?_) (fun c4 => ?_)
      · rw [if_pos c4] at h
        exact z_subL [0, 1, 2, 3] (wfX7_marksCome_b45 C E (fX7_marksCome_b2 n) ih M x1 x2 x3 v2 x3 h) rfl
      · rw [if_neg c4] at h
        refine z_aload_n (pc := 25) C 0 dX7_marksCome_25 rfl rfl ?_
        refine z_get (pc := 26) C dX7_marksCome_26 fl_X7_51 (hM_o A M B) rfl ?_
        refine z_iload_n (pc := 29) C 3 dX7_marksCome_29 rfl rfl ?_
        obtain ⟨v5, ev5, h⟩ := ob1_eq h
        refine z_iald (pc := 30) C dX7_marksCome_30 (hMa_12 A M B) (rd_eq ev5).1 (z_topi (rd_eq ev5).2 ?_)
        refine z_iload_n (pc := 31) C 1 dX7_marksCome_31 rfl rfl ?_
        refine z_ic_ne (pc := 32) C dX7_marksCome_32 (tgt := 49) (by decide) (fun c6 => ?_) (fun c6 => ?_)
        · rw [if_neg c6] at h
          exact z_subL [0, 1, 2, 3] (wfX7_marksCome_b49 C E (fX7_marksCome_b2 n) ih M x1 x2 x3 v2 x3 h) rfl
        · rw [if_pos c6] at h
          refine z_aload_n (pc := 35) C 0 dX7_marksCome_35 rfl rfl ?_
          refine z_get (pc := 36) C dX7_marksCome_36 fl_X7_54 (hM_o A M B) rfl ?_
          refine z_iload_n (pc := 39) C 3 dX7_marksCome_39 rfl rfl ?_
          obtain ⟨v7, ev7, h⟩ := ob1_eq h
          refine z_iald (pc := 40) C dX7_marksCome_40 (hMa_13 A M B) (rd_eq ev7).1 (z_topi (rd_eq ev7).2 ?_)
          refine z_iconst (pc := 41) C dX7_marksCome_41 (v := (1 : Int32)) (by decide) ?_
          refine z_ic_ne (pc := 42) C dX7_marksCome_42 (tgt := 49) (by decide) (fun c8 => ?_) (fun c8 => ?_)
          · rw [if_neg c8] at h
            exact z_subL [0, 1, 2, 3] (wfX7_marksCome_b49 C E (fX7_marksCome_b2 n) ih M x1 x2 x3 v2 x3 h) rfl
          · rw [if_pos c8] at h
            exact z_subL [0, 1, 2, 3] (wfX7_marksCome_b45 C E (fX7_marksCome_b2 n) ih M x1 x2 x3 v2 x3 h) rfl
def fX7_marksCome (M : MS) (x1 : Int32) (x2 : Int32) : Option MS :=
    fX7_marksCome_b2 FU M x1 x2 (0 : Int32)
set_option maxRecDepth 100000 in
set_option maxHeartbeats 4000000 in
theorem wfX7_marksCome {X : zX} {A B : zH} {out : MS} (C : zOK X cX7_marksCome yX7_marksCome.cls 4 none 0 0) (E : zPost X (poV (hG A out B))) (M : MS) (x1 : Int32) (x2 : Int32) (h : fX7_marksCome M x1 x2 = some out) : zZ X 0 [(0, .ref A.length), (1, .int x1), (2, .int x2)] [] (hG A M B) := by
  rw [fX7_marksCome] at h
  refine z_iconst (pc := 0) C dX7_marksCome_0 (v := (0 : Int32)) (by decide) ?_
  refine z_istore_n (pc := 1) C dX7_marksCome_1 rfl (by decide) (show zput _ _ _ = [(3, .int (0 : Int32)), (0, .ref A.length), (1, .int x1), (2, .int x2)] from rfl) ?_
  exact z_subL [1, 2, 3, 0] (wfX7_marksCome_b2 C E FU M x1 x2 (0 : Int32) h) rfl
theorem kX7_marksCome (l : Launch) (D : va_G) (cA : Nat → ClassId) (b : Nat) (A : zH) (M : MS) (B : zH) (x1 : Int32) (x2 : Int32) (out : MS) (h : fX7_marksCome M x1 x2 = some out) : zM l D cA b yX7_marksCome cX7_marksCome 4 none 0 0 [.ref A.length, .int x1, .int x2] (hG A M B) (poV (hG A out B)) := z_entry rfl (Nat.le_of_ble_eq_true rfl) (fun X C E _ _ _ => wfX7_marksCome C E M x1 x2 h)
def fX7_marksGo_b46 (k2 : MS → Int32 → Int32 → Int32 → Option MS) (M : MS) (x1 : Int32) (x2 : Int32) (x3 : Int32) (s0 : Int32) (s1 : Int32) : Option MS :=
    ob1 (wr 8 s1 (mA M 12 (upd (M.2.1 12) s1.toNatClampNeg s0))) fun M1 =>
    zlet (x3 + (1 : Int32)) fun y2 =>
    k2 M1 x1 x2 y2
set_option maxRecDepth 100000 in
set_option maxHeartbeats 4000000 in
theorem wfX7_marksGo_b46 {X : zX} {A B : zH} {out : MS} (C : zOK X cX7_marksGo yX7_marksGo.cls 4 none 1 21) (E : zPost X (poV (hG A out B))) (k2 : MS → Int32 → Int32 → Int32 → Option MS) (hk2 : ∀ (M : MS) (x1 : Int32) (x2 : Int32) (x3 : Int32), k2 M x1 x2 x3 = some out → zZ X 2 [(0, .ref A.length), (1, .int x1), (2, .int x2), (3, .int x3)] [] (hG A M B)) (M : MS) (x1 : Int32) (x2 : Int32) (x3 : Int32) (s0 : Int32) (s1 : Int32) (h : fX7_marksGo_b46 k2 M x1 x2 x3 s0 s1 = some out) : zZ X 46 [(0, .ref A.length), (1, .int x1), (2, .int x2), (3, .int x3)] [.int s0, .int s1, .ref (A.length + 6)] (hG A M B) := by
  rw [fX7_marksGo_b46] at h
  obtain ⟨M1, eM1, h⟩ := ob1_eq h
  refine z_iast (pc := 46) C dX7_marksGo_46 (hMa_12 A M B) (wr_eq eM1).1 (hMs_12 A B (wr_eq eM1).2) ?_
  obtain ⟨y2, ey2, h⟩ := zlet_eq h
  refine z_iinc (pc := 47) (v := y2) C 3 dX7_marksGo_47 rfl (by rw [ey2]; rfl) (by decide) (show zput _ _ _ = [(3, .int y2), (0, .ref A.length), (1, .int x1), (2, .int x2)] from rfl) ?_
  refine z_goto (pc := 50) C dX7_marksGo_50 (tgt := 2) (by decide) ?_
  exact z_subL [1, 2, 3, 0] (hk2 M1 x1 x2 y2 h) rfl
def fX7_marksGo_b2 : Nat → MS → Int32 → Int32 → Int32 → Option MS
  | 0, _, _, _, _ => none
  | n + 1, M, x1, x2, x3 =>
    if (8 : Int32) ≤ x3 then (some M) else
    ob1 (rd 8 (M.2.1 12) x3) fun v2 =>
    if v2 < (x1 + x2) then (ob1 (rd 8 (M.2.1 12) x3) fun v4 =>
    fX7_marksGo_b46 (fX7_marksGo_b2 n) M x1 x2 x3 (if x1 < v4 then x1 else v4) x3) else
    ob1 (rd 8 (M.2.1 12) x3) fun v5 =>
    fX7_marksGo_b46 (fX7_marksGo_b2 n) M x1 x2 x3 (v5 - x2) x3
set_option maxRecDepth 100000 in
set_option maxHeartbeats 4000000 in
theorem wfX7_marksGo_b2 {X : zX} {A B : zH} {out : MS} (C : zOK X cX7_marksGo yX7_marksGo.cls 4 none 1 21) (E : zPost X (poV (hG A out B))) : ∀ (n : Nat) (M : MS) (x1 : Int32) (x2 : Int32) (x3 : Int32) (h : fX7_marksGo_b2 n M x1 x2 x3 = some out), zZ X 2 [(0, .ref A.length), (1, .int x1), (2, .int x2), (3, .int x3)] [] (hG A M B) := by
  intro n
  induction n with
  | zero => intro M x1 x2 x3 h; cases h
  | succ n ih =>
    intro M x1 x2 x3 h
    rw [fX7_marksGo_b2] at h
    refine z_iload_n (pc := 2) C 3 dX7_marksGo_2 rfl rfl ?_
    refine z_bipush (pc := 3) C dX7_marksGo_3 (v := (8 : Int32)) (by decide) ?_
    refine z_ic_ge (pc := 5) C dX7_marksGo_5 (tgt := 53) (by decide) (fun c1 => ?_) (fun c1 => ?_)
    · rw [if_pos c1] at h
      obtain rfl := Option.some.inj h
      exact z_vret (pc := 53) C E dX7_marksGo_53 ⟨rfl, rfl⟩
    · rw [if_neg c1] at h
      refine z_aload_n (pc := 8) C 0 dX7_marksGo_8 rfl rfl ?_
      refine z_get (pc := 9) C dX7_marksGo_9 fl_X7_51 (hM_o A M B) rfl ?_
      refine z_iload_n (pc := 12) C 3 dX7_marksGo_12 rfl rfl ?_
      refine z_aload_n (pc := 13) C 0 dX7_marksGo_13 rfl rfl ?_
      refine z_get (pc := 14) C dX7_marksGo_14 fl_X7_51 (hM_o A M B) rfl ?_
      refine z_iload_n (pc := 17) C 3 dX7_marksGo_17 rfl rfl ?_
      obtain ⟨v2, ev2, h⟩ := ob1_eq h
      refine z_iald (pc := 18) C dX7_marksGo_18 (hMa_12 A M B) (rd_eq ev2).1 (z_topi (rd_eq ev2).2 ?_)
      refine z_iload_n (pc := 19) C 1 dX7_marksGo_19 rfl rfl ?_
      refine z_iload_n (pc := 20) C 2 dX7_marksGo_20 rfl rfl ?_
      refine z_iadd (pc := 21) C dX7_marksGo_21 ?_
      refine z_ic_lt (pc := 22) C dX7_marksGo_22 (tgt := 36) (by decide) (fun c3 => ?_) (fun c3 => ?_)
      · rw [if_pos c3] at h
        refine z_aload_n (pc := 36) C 0 dX7_marksGo_36 rfl rfl ?_
        refine z_get (pc := 37) C dX7_marksGo_37 fl_X7_51 (hM_o A M B) rfl ?_
        refine z_iload_n (pc := 40) C 3 dX7_marksGo_40 rfl rfl ?_
        obtain ⟨v4, ev4, h⟩ := ob1_eq h
        refine z_iald (pc := 41) C dX7_marksGo_41 (hMa_12 A M B) (rd_eq ev4).1 (z_topi (rd_eq ev4).2 ?_)
        refine z_iload_n (pc := 42) C 1 dX7_marksGo_42 rfl rfl ?_
        refine z_mmin (pc := 43) C dX7_marksGo_43 ml_X7_134 w_min1 w_math w_min2 (Nat.le_of_ble_eq_true rfl) (by decide) ?_
        exact z_subL [0, 1, 2, 3] (wfX7_marksGo_b46 C E (fX7_marksGo_b2 n) ih M x1 x2 x3 (if x1 < v4 then x1 else v4) x3 h) rfl
      · rw [if_neg c3] at h
        refine z_aload_n (pc := 25) C 0 dX7_marksGo_25 rfl rfl ?_
        refine z_get (pc := 26) C dX7_marksGo_26 fl_X7_51 (hM_o A M B) rfl ?_
        refine z_iload_n (pc := 29) C 3 dX7_marksGo_29 rfl rfl ?_
        obtain ⟨v5, ev5, h⟩ := ob1_eq h
        refine z_iald (pc := 30) C dX7_marksGo_30 (hMa_12 A M B) (rd_eq ev5).1 (z_topi (rd_eq ev5).2 ?_)
        refine z_iload_n (pc := 31) C 2 dX7_marksGo_31 rfl rfl ?_
        refine z_isub (pc := 32) C dX7_marksGo_32 ?_
        refine z_goto (pc := 33) C dX7_marksGo_33 (tgt := 46) (by decide) ?_
        exact z_subL [0, 1, 2, 3] (wfX7_marksGo_b46 C E (fX7_marksGo_b2 n) ih M x1 x2 x3 (v5 - x2) x3 h) rfl
def fX7_marksGo (M : MS) (x1 : Int32) (x2 : Int32) : Option MS :=
    fX7_marksGo_b2 FU M x1 x2 (0 : Int32)
set_option maxRecDepth 100000 in
set_option maxHeartbeats 4000000 in
theorem wfX7_marksGo {X : zX} {A B : zH} {out : MS} (C : zOK X cX7_marksGo yX7_marksGo.cls 4 none 1 21) (E : zPost X (poV (hG A out B))) (M : MS) (x1 : Int32) (x2 : Int32) (h : fX7_marksGo M x1 x2 = some out) : zZ X 0 [(0, .ref A.length), (1, .int x1), (2, .int x2)] [] (hG A M B) := by
  rw [fX7_marksGo] at h
  refine z_iconst (pc := 0) C dX7_marksGo_0 (v := (0 : Int32)) (by decide) ?_
  refine z_istore_n (pc := 1) C dX7_marksGo_1 rfl (by decide) (show zput _ _ _ = [(3, .int (0 : Int32)), (0, .ref A.length), (1, .int x1), (2, .int x2)] from rfl) ?_
  exact z_subL [1, 2, 3, 0] (wfX7_marksGo_b2 C E FU M x1 x2 (0 : Int32) h) rfl
theorem kX7_marksGo (l : Launch) (D : va_G) (cA : Nat → ClassId) (b : Nat) (A : zH) (M : MS) (B : zH) (x1 : Int32) (x2 : Int32) (out : MS) (h : fX7_marksGo M x1 x2 = some out) : zM l D cA b yX7_marksGo cX7_marksGo 4 none 1 21 [.ref A.length, .int x1, .int x2] (hG A M B) (poV (hG A out B)) := z_entry rfl (Nat.le_of_ble_eq_true rfl) (fun X C E _ _ _ => wfX7_marksGo C E M x1 x2 h)
def fX7_goesOn_b20 (M : MS) (x1 : Int32) : Option Int32 :=
    ob1 (fX7_storeAt M (x1 - (1 : Int32))) fun v1 =>
    if v1 = (1 : Int32) then (ob1 (fX7_placeAt M (x1 - (1 : Int32))) fun v3 =>
    if v3 = ((M.1 9) - (1 : Int32)) then (some (1 : Int32)) else
    some (0 : Int32)) else
    some (0 : Int32)
set_option maxRecDepth 100000 in
set_option maxHeartbeats 4000000 in
theorem wfX7_goesOn_b20 {X : zX} {A B : zH} {M : MS} {out : Int32} (C : zOK X cX7_goesOn yX7_goesOn.cls 2 (some .boolean) 1 21) (E : zPost X (poI out (hG A M B))) (x1 : Int32) (h : fX7_goesOn_b20 M x1 = some out) : zZ X 20 [(0, .ref A.length), (1, .int x1)] [] (hG A M B) := by
  rw [fX7_goesOn_b20] at h
  refine z_aload_n (pc := 20) C 0 dX7_goesOn_20 rfl rfl ?_
  refine z_iload_n (pc := 21) C 1 dX7_goesOn_21 rfl rfl ?_
  refine z_iconst (pc := 22) C dX7_goesOn_22 (v := (1 : Int32)) (by decide) ?_
  refine z_isub (pc := 23) C dX7_goesOn_23 ?_
  obtain ⟨v1, ev1, h⟩ := ob1_eq h
  refine z_callVi (h := A.length) (As := [.int (x1 - (1 : Int32))]) (rest := []) (pc := 24) C dX7_goesOn_24 ml_X7_108 (kX7_storeAt _ _ _ _ A M B (x1 - (1 : Int32)) v1 ev1) (hM_o A M B) rfl rfl rfl (Nat.le_of_ble_eq_true rfl) (by decide) ?_
  refine z_iconst (pc := 27) C dX7_goesOn_27 (v := (1 : Int32)) (by decide) ?_
  refine z_ic_ne (pc := 28) C dX7_goesOn_28 (tgt := 51) (by decide) (fun c2 => ?_) (fun c2 => ?_)
  · rw [if_neg c2] at h
    refine z_iconst (pc := 51) C dX7_goesOn_51 (v := (0 : Int32)) (by decide) ?_
    obtain rfl := Option.some.inj h
    exact z_zret (pc := 52) C E dX7_goesOn_52 rfl ⟨rfl, rfl⟩
  · rw [if_pos c2] at h
    refine z_aload_n (pc := 31) C 0 dX7_goesOn_31 rfl rfl ?_
    refine z_iload_n (pc := 32) C 1 dX7_goesOn_32 rfl rfl ?_
    refine z_iconst (pc := 33) C dX7_goesOn_33 (v := (1 : Int32)) (by decide) ?_
    refine z_isub (pc := 34) C dX7_goesOn_34 ?_
    obtain ⟨v3, ev3, h⟩ := ob1_eq h
    refine z_callVi (h := A.length) (As := [.int (x1 - (1 : Int32))]) (rest := []) (pc := 35) C dX7_goesOn_35 ml_X7_112 (kX7_placeAt _ _ _ _ A M B (x1 - (1 : Int32)) v3 ev3) (hM_o A M B) rfl rfl rfl (Nat.le_of_ble_eq_true rfl) (by decide) ?_
    refine z_aload_n (pc := 38) C 0 dX7_goesOn_38 rfl rfl ?_
    refine z_get (pc := 39) C dX7_goesOn_39 fl_X7_33 (hM_o A M B) rfl ?_
    refine z_iconst (pc := 42) C dX7_goesOn_42 (v := (1 : Int32)) (by decide) ?_
    refine z_isub (pc := 43) C dX7_goesOn_43 ?_
    refine z_ic_ne (pc := 44) C dX7_goesOn_44 (tgt := 51) (by decide) (fun c4 => ?_) (fun c4 => ?_)
    · rw [if_neg c4] at h
      refine z_iconst (pc := 51) C dX7_goesOn_51 (v := (0 : Int32)) (by decide) ?_
      obtain rfl := Option.some.inj h
      exact z_zret (pc := 52) C E dX7_goesOn_52 rfl ⟨rfl, rfl⟩
    · rw [if_pos c4] at h
      refine z_iconst (pc := 47) C dX7_goesOn_47 (v := (1 : Int32)) (by decide) ?_
      refine z_goto (pc := 48) C dX7_goesOn_48 (tgt := 52) (by decide) ?_
      obtain rfl := Option.some.inj h
      exact z_zret (pc := 52) C E dX7_goesOn_52 rfl ⟨rfl, rfl⟩
def fX7_goesOn (M : MS) (x1 : Int32) : Option Int32 :=
    if x1 ≤ 0 then (some (0 : Int32)) else
    if x1 = (M.1 11) then (fX7_goesOn_b20 M x1) else
    ob1 (fX7_begins M x1) fun v3 =>
    if v3 = 0 then (some (0 : Int32)) else
    fX7_goesOn_b20 M x1
set_option maxRecDepth 100000 in
set_option maxHeartbeats 4000000 in
theorem wfX7_goesOn {X : zX} {A B : zH} {M : MS} {out : Int32} (C : zOK X cX7_goesOn yX7_goesOn.cls 2 (some .boolean) 1 21) (E : zPost X (poI out (hG A M B))) (x1 : Int32) (h : fX7_goesOn M x1 = some out) : zZ X 0 [(0, .ref A.length), (1, .int x1)] [] (hG A M B) := by
  rw [fX7_goesOn] at h
  refine z_iload_n (pc := 0) C 1 dX7_goesOn_0 rfl rfl ?_
  refine z_if_le (pc := 1) C dX7_goesOn_1 (tgt := 51) (by decide) (fun c1 => ?_) (fun c1 => ?_)
  · rw [if_pos c1] at h
    refine z_iconst (pc := 51) C dX7_goesOn_51 (v := (0 : Int32)) (by decide) ?_
    obtain rfl := Option.some.inj h
    exact z_zret (pc := 52) C E dX7_goesOn_52 rfl ⟨rfl, rfl⟩
  · rw [if_neg c1] at h
    refine z_iload_n (pc := 4) C 1 dX7_goesOn_4 rfl rfl ?_
    refine z_aload_n (pc := 5) C 0 dX7_goesOn_5 rfl rfl ?_
    refine z_get (pc := 6) C dX7_goesOn_6 fl_X7_123 (hM_o A M B) rfl ?_
    refine z_ic_eq (pc := 9) C dX7_goesOn_9 (tgt := 20) (by decide) (fun c2 => ?_) (fun c2 => ?_)
    · rw [if_pos c2] at h
      exact z_subL [0, 1] (wfX7_goesOn_b20 C E x1 h) rfl
    · rw [if_neg c2] at h
      refine z_aload_n (pc := 12) C 0 dX7_goesOn_12 rfl rfl ?_
      refine z_iload_n (pc := 13) C 1 dX7_goesOn_13 rfl rfl ?_
      obtain ⟨v3, ev3, h⟩ := ob1_eq h
      refine z_callVi (h := A.length) (As := [.int x1]) (rest := []) (pc := 14) C dX7_goesOn_14 ml_X7_130 (kX7_begins _ _ _ _ A M B x1 v3 ev3) (hM_o A M B) rfl rfl rfl (Nat.le_of_ble_eq_true rfl) (by decide) ?_
      refine z_if_eq (pc := 17) C dX7_goesOn_17 (tgt := 51) (by decide) (fun c4 => ?_) (fun c4 => ?_)
      · rw [if_pos c4] at h
        refine z_iconst (pc := 51) C dX7_goesOn_51 (v := (0 : Int32)) (by decide) ?_
        obtain rfl := Option.some.inj h
        exact z_zret (pc := 52) C E dX7_goesOn_52 rfl ⟨rfl, rfl⟩
      · rw [if_neg c4] at h
        exact z_subL [0, 1] (wfX7_goesOn_b20 C E x1 h) rfl
theorem kX7_goesOn (l : Launch) (D : va_G) (cA : Nat → ClassId) (b : Nat) (A : zH) (M : MS) (B : zH) (x1 : Int32) (out : Int32) (h : fX7_goesOn M x1 = some out) : zM l D cA b yX7_goesOn cX7_goesOn 2 (some .boolean) 1 21 [.ref A.length, .int x1] (hG A M B) (poI out (hG A M B)) := z_entry rfl (Nat.le_of_ble_eq_true rfl) (fun X C E _ _ _ => wfX7_goesOn C E x1 h)
def fX7_comesIn_b53 (M : MS) (x1 : Int32) (x3 : Int32) : Option MS :=
    ob1 (fX7_partsAt M (x1 + x3)) fun M1 =>
    ob1 (fX7_marksCome M1 x1 x3) fun M2 =>
    some M2
set_option maxRecDepth 100000 in
set_option maxHeartbeats 4000000 in
theorem wfX7_comesIn_b53 {X : zX} {A B : zH} {out : MS} (C : zOK X cX7_comesIn yX7_comesIn.cls 6 none 3 63) (E : zPost X (poV (hG A out B))) (M : MS) (x1 : Int32) (x3 : Int32) (h : fX7_comesIn_b53 M x1 x3 = some out) : zZ X 53 [(0, .ref A.length), (1, .int x1), (3, .int x3)] [] (hG A M B) := by
  rw [fX7_comesIn_b53] at h
  refine z_aload_n (pc := 53) C 0 dX7_comesIn_53 rfl rfl ?_
  refine z_iload_n (pc := 54) C 1 dX7_comesIn_54 rfl rfl ?_
  refine z_iload_n (pc := 55) C 2 dX7_comesIn_55 rfl rfl ?_
  refine z_iadd (pc := 56) C dX7_comesIn_56 ?_
  obtain ⟨M1, eM1, h⟩ := ob1_eq h
  refine z_callVv (h := A.length) (As := [.int (x1 + x3)]) (rest := []) (pc := 57) C dX7_comesIn_57 ml_X7_143 (kX7_partsAt _ _ _ _ A M B (x1 + x3) M1 eM1) (hM_o A M B) rfl rfl rfl (Nat.le_of_ble_eq_true rfl) (by decide) ?_
  refine z_aload_n (pc := 60) C 0 dX7_comesIn_60 rfl rfl ?_
  refine z_iload_n (pc := 61) C 1 dX7_comesIn_61 rfl rfl ?_
  refine z_iload_n (pc := 62) C 2 dX7_comesIn_62 rfl rfl ?_
  obtain ⟨M2, eM2, h⟩ := ob1_eq h
  refine z_callVv (h := A.length) (As := [.int x1, .int x3]) (rest := []) (pc := 63) C dX7_comesIn_63 ml_X7_147 (kX7_marksCome _ _ _ _ A M1 B x1 x3 M2 eM2) (hM_o A M1 B) rfl rfl rfl (Nat.le_of_ble_eq_true rfl) (by decide) ?_
  obtain rfl := Option.some.inj h
  exact z_vret (pc := 66) C E dX7_comesIn_66 ⟨rfl, rfl⟩
def fX7_comesIn_b43 (k9 : MS → Int32 → Int32 → Int32 → Int32 → Int32 → Option MS) (M : MS) (x1 : Int32) (x2 : Int32) (x3 : Int32) (x4 : Int32) (x5 : Int32) (s0 : Int32) (s1 : Int32) (s2 : Int32) (s3 : Int32) : Option MS :=
    ob1 (fX7_coded s2 s1 s0) fun v1 =>
    ob1 (wr 3000 s3 (mA M 10 (upd (M.2.1 10) s3.toNatClampNeg v1))) fun M2 =>
    zlet (x5 + (1 : Int32)) fun y3 =>
    k9 M2 x1 x2 x3 x4 y3
set_option maxRecDepth 100000 in
set_option maxHeartbeats 4000000 in
theorem wfX7_comesIn_b43 {X : zX} {A B : zH} {out : MS} (C : zOK X cX7_comesIn yX7_comesIn.cls 6 none 3 63) (E : zPost X (poV (hG A out B))) (k9 : MS → Int32 → Int32 → Int32 → Int32 → Int32 → Option MS) (hk9 : ∀ (M : MS) (x1 : Int32) (x2 : Int32) (x3 : Int32) (x4 : Int32) (x5 : Int32), k9 M x1 x2 x3 x4 x5 = some out → zZ X 9 [(0, .ref A.length), (1, .int x1), (2, .int x2), (3, .int x3), (4, .int x4), (5, .int x5)] [] (hG A M B)) (M : MS) (x1 : Int32) (x2 : Int32) (x3 : Int32) (x4 : Int32) (x5 : Int32) (s0 : Int32) (s1 : Int32) (s2 : Int32) (s3 : Int32) (h : fX7_comesIn_b43 k9 M x1 x2 x3 x4 x5 s0 s1 s2 s3 = some out) : zZ X 43 [(0, .ref A.length), (1, .int x1), (2, .int x2), (3, .int x3), (4, .int x4), (5, .int x5)] [.int s0, .int s1, .int s2, .int s3, .ref (A.length + 5)] (hG A M B) := by
  rw [fX7_comesIn_b43] at h
  obtain ⟨v1, ev1, h⟩ := ob1_eq h
  refine z_callSi (As := [.int s2, .int s1, .int s0]) (rest := [.int s3, .ref (A.length + 5)]) (pc := 43) C dX7_comesIn_43 ml_X7_126 (kX7_coded _ _ _ _ (hG A M B) s2 s1 s0 v1 ev1) rfl rfl (Nat.le_of_ble_eq_true rfl) (by decide) ?_
  obtain ⟨M2, eM2, h⟩ := ob1_eq h
  refine z_iast (pc := 46) C dX7_comesIn_46 (hMa_10 A M B) (wr_eq eM2).1 (hMs_10 A B (wr_eq eM2).2) ?_
  obtain ⟨y3, ey3, h⟩ := zlet_eq h
  refine z_iinc (pc := 47) (v := y3) C 5 dX7_comesIn_47 rfl (by rw [ey3]; rfl) (by decide) (show zput _ _ _ = [(5, .int y3), (0, .ref A.length), (1, .int x1), (2, .int x2), (3, .int x3), (4, .int x4)] from rfl) ?_
  refine z_goto (pc := 50) C dX7_comesIn_50 (tgt := 9) (by decide) ?_
  exact z_subL [1, 2, 3, 4, 5, 0] (hk9 M2 x1 x2 x3 x4 y3 h) rfl
def fX7_comesIn_b42 (k9 : MS → Int32 → Int32 → Int32 → Int32 → Int32 → Option MS) (M : MS) (x1 : Int32) (x2 : Int32) (x3 : Int32) (x4 : Int32) (x5 : Int32) (s0 : Int32) (s1 : Int32) (s2 : Int32) : Option MS :=
    fX7_comesIn_b43 k9 M x1 x2 x3 x4 x5 (0 : Int32) s0 s1 s2
set_option maxRecDepth 100000 in
set_option maxHeartbeats 4000000 in
theorem wfX7_comesIn_b42 {X : zX} {A B : zH} {out : MS} (C : zOK X cX7_comesIn yX7_comesIn.cls 6 none 3 63) (E : zPost X (poV (hG A out B))) (k9 : MS → Int32 → Int32 → Int32 → Int32 → Int32 → Option MS) (hk9 : ∀ (M : MS) (x1 : Int32) (x2 : Int32) (x3 : Int32) (x4 : Int32) (x5 : Int32), k9 M x1 x2 x3 x4 x5 = some out → zZ X 9 [(0, .ref A.length), (1, .int x1), (2, .int x2), (3, .int x3), (4, .int x4), (5, .int x5)] [] (hG A M B)) (M : MS) (x1 : Int32) (x2 : Int32) (x3 : Int32) (x4 : Int32) (x5 : Int32) (s0 : Int32) (s1 : Int32) (s2 : Int32) (h : fX7_comesIn_b42 k9 M x1 x2 x3 x4 x5 s0 s1 s2 = some out) : zZ X 42 [(0, .ref A.length), (1, .int x1), (2, .int x2), (3, .int x3), (4, .int x4), (5, .int x5)] [.int s0, .int s1, .int s2, .ref (A.length + 5)] (hG A M B) := by
  rw [fX7_comesIn_b42] at h
  refine z_iconst (pc := 42) C dX7_comesIn_42 (v := (0 : Int32)) (by decide) ?_
  exact z_subL [0, 1, 2, 3, 4, 5] (wfX7_comesIn_b43 C E k9 hk9 M x1 x2 x3 x4 x5 (0 : Int32) s0 s1 s2 h) rfl
def fX7_comesIn_b9 : Nat → MS → Int32 → Int32 → Int32 → Int32 → Int32 → Option MS
  | 0, _, _, _, _, _, _ => none
  | n + 1, M, x1, x2, x3, x4, x5 =>
    if x3 ≤ x5 then (fX7_comesIn_b53 M x1 x3) else
    if x5 = 0 then (if x4 = 0 then (fX7_comesIn_b43 (fX7_comesIn_b9 n) M x1 x2 x3 x4 x5 (1 : Int32) (x2 + x5) (1 : Int32) (x1 + x5)) else
    fX7_comesIn_b42 (fX7_comesIn_b9 n) M x1 x2 x3 x4 x5 (x2 + x5) (1 : Int32) (x1 + x5)) else
    fX7_comesIn_b42 (fX7_comesIn_b9 n) M x1 x2 x3 x4 x5 (x2 + x5) (1 : Int32) (x1 + x5)
set_option maxRecDepth 100000 in
set_option maxHeartbeats 4000000 in
theorem wfX7_comesIn_b9 {X : zX} {A B : zH} {out : MS} (C : zOK X cX7_comesIn yX7_comesIn.cls 6 none 3 63) (E : zPost X (poV (hG A out B))) : ∀ (n : Nat) (M : MS) (x1 : Int32) (x2 : Int32) (x3 : Int32) (x4 : Int32) (x5 : Int32) (h : fX7_comesIn_b9 n M x1 x2 x3 x4 x5 = some out), zZ X 9 [(0, .ref A.length), (1, .int x1), (2, .int x2), (3, .int x3), (4, .int x4), (5, .int x5)] [] (hG A M B) := by
  intro n
  induction n with
  | zero => intro M x1 x2 x3 x4 x5 h; cases h
  | succ n ih =>
    intro M x1 x2 x3 x4 x5 h
    rw [fX7_comesIn_b9] at h
    refine z_iload (pc := 9) C 5 dX7_comesIn_9 rfl ?_
    refine z_iload_n (pc := 11) C 3 dX7_comesIn_11 rfl rfl ?_
    refine z_ic_ge (pc := 12) C dX7_comesIn_12 (tgt := 53) (by decide) (fun c1 => ?_) (fun c1 => ?_)
    · rw [if_pos c1] at h
      exact z_subL [0, 1, 3] (wfX7_comesIn_b53 C E M x1 x3 h) rfl
    · rw [if_neg c1] at h
      refine z_aload_n (pc := 15) C 0 dX7_comesIn_15 rfl rfl ?_
      refine z_get (pc := 16) C dX7_comesIn_16 fl_X7_48 (hM_o A M B) rfl ?_
      refine z_iload_n (pc := 19) C 1 dX7_comesIn_19 rfl rfl ?_
      refine z_iload (pc := 20) C 5 dX7_comesIn_20 rfl ?_
      refine z_iadd (pc := 22) C dX7_comesIn_22 ?_
      refine z_iconst (pc := 23) C dX7_comesIn_23 (v := (1 : Int32)) (by decide) ?_
      refine z_iload_n (pc := 24) C 2 dX7_comesIn_24 rfl rfl ?_
      refine z_iload (pc := 25) C 5 dX7_comesIn_25 rfl ?_
      refine z_iadd (pc := 27) C dX7_comesIn_27 ?_
      refine z_iload (pc := 28) C 5 dX7_comesIn_28 rfl ?_
      refine z_if_ne (pc := 30) C dX7_comesIn_30 (tgt := 42) (by decide) (fun c2 => ?_) (fun c2 => ?_)
      · rw [if_neg c2] at h
        exact z_subL [0, 1, 2, 3, 4, 5] (wfX7_comesIn_b42 C E (fX7_comesIn_b9 n) ih M x1 x2 x3 x4 x5 (x2 + x5) (1 : Int32) (x1 + x5) h) rfl
      · rw [if_pos c2] at h
        refine z_iload (pc := 33) C 4 dX7_comesIn_33 rfl ?_
        refine z_if_ne (pc := 35) C dX7_comesIn_35 (tgt := 42) (by decide) (fun c3 => ?_) (fun c3 => ?_)
        · rw [if_neg c3] at h
          exact z_subL [0, 1, 2, 3, 4, 5] (wfX7_comesIn_b42 C E (fX7_comesIn_b9 n) ih M x1 x2 x3 x4 x5 (x2 + x5) (1 : Int32) (x1 + x5) h) rfl
        · rw [if_pos c3] at h
          refine z_iconst (pc := 38) C dX7_comesIn_38 (v := (1 : Int32)) (by decide) ?_
          refine z_goto (pc := 39) C dX7_comesIn_39 (tgt := 43) (by decide) ?_
          exact z_subL [0, 1, 2, 3, 4, 5] (wfX7_comesIn_b43 C E (fX7_comesIn_b9 n) ih M x1 x2 x3 x4 x5 (1 : Int32) (x2 + x5) (1 : Int32) (x1 + x5) h) rfl
def fX7_comesIn (M : MS) (x1 : Int32) (x2 : Int32) (x3 : Int32) (x4 : Int32) : Option MS :=
    ob1 (fX7_opensGap M x1 x3) fun M1 =>
    fX7_comesIn_b9 FU M1 x1 x2 x3 x4 (0 : Int32)
set_option maxRecDepth 100000 in
set_option maxHeartbeats 4000000 in
theorem wfX7_comesIn {X : zX} {A B : zH} {out : MS} (C : zOK X cX7_comesIn yX7_comesIn.cls 6 none 3 63) (E : zPost X (poV (hG A out B))) (M : MS) (x1 : Int32) (x2 : Int32) (x3 : Int32) (x4 : Int32) (h : fX7_comesIn M x1 x2 x3 x4 = some out) : zZ X 0 [(0, .ref A.length), (1, .int x1), (2, .int x2), (3, .int x3), (4, .int x4)] [] (hG A M B) := by
  rw [fX7_comesIn] at h
  refine z_aload_n (pc := 0) C 0 dX7_comesIn_0 rfl rfl ?_
  refine z_iload_n (pc := 1) C 1 dX7_comesIn_1 rfl rfl ?_
  refine z_iload_n (pc := 2) C 3 dX7_comesIn_2 rfl rfl ?_
  obtain ⟨M1, eM1, h⟩ := ob1_eq h
  refine z_callVv (h := A.length) (As := [.int x1, .int x3]) (rest := []) (pc := 3) C dX7_comesIn_3 ml_X7_139 (kX7_opensGap _ _ _ _ A M B x1 x3 M1 eM1) (hM_o A M B) rfl rfl rfl (Nat.le_of_ble_eq_true rfl) (by decide) ?_
  refine z_iconst (pc := 6) C dX7_comesIn_6 (v := (0 : Int32)) (by decide) ?_
  refine z_istore (pc := 7) C dX7_comesIn_7 (by decide) (show zput _ _ _ = [(5, .int (0 : Int32)), (0, .ref A.length), (1, .int x1), (2, .int x2), (3, .int x3), (4, .int x4)] from rfl) ?_
  exact z_subL [1, 2, 3, 4, 5, 0] (wfX7_comesIn_b9 C E FU M1 x1 x2 x3 x4 (0 : Int32) h) rfl
theorem kX7_comesIn (l : Launch) (D : va_G) (cA : Nat → ClassId) (b : Nat) (A : zH) (M : MS) (B : zH) (x1 : Int32) (x2 : Int32) (x3 : Int32) (x4 : Int32) (out : MS) (h : fX7_comesIn M x1 x2 x3 x4 = some out) : zM l D cA b yX7_comesIn cX7_comesIn 6 none 3 63 [.ref A.length, .int x1, .int x2, .int x3, .int x4] (hG A M B) (poV (hG A out B)) := z_entry rfl (Nat.le_of_ble_eq_true rfl) (fun X C E _ _ _ => wfX7_comesIn C E M x1 x2 x3 x4 h)
def fX7_insertsText_b55 (M : MS) (x1 : Int32) (x2 : Int32) (x3 : Int32) : Option MS :=
    ob1 (fX7_comesIn M x1 x3 (M.1 5) x2) fun M1 =>
    some M1
set_option maxRecDepth 100000 in
set_option maxHeartbeats 4000000 in
theorem wfX7_insertsText_b55 {X : zX} {A B : zH} {out : MS} (C : zOK X cX7_insertsText yX7_insertsText.cls 5 none 4 88) (E : zPost X (poV (hG A out B))) (M : MS) (x1 : Int32) (x2 : Int32) (x3 : Int32) (h : fX7_insertsText_b55 M x1 x2 x3 = some out) : zZ X 55 [(0, .ref A.length), (1, .int x1), (2, .int x2), (3, .int x3)] [] (hG A M B) := by
  rw [fX7_insertsText_b55] at h
  refine z_aload_n (pc := 55) C 0 dX7_insertsText_55 rfl rfl ?_
  refine z_iload_n (pc := 56) C 1 dX7_insertsText_56 rfl rfl ?_
  refine z_iload_n (pc := 57) C 3 dX7_insertsText_57 rfl rfl ?_
  refine z_aload_n (pc := 58) C 0 dX7_insertsText_58 rfl rfl ?_
  refine z_get (pc := 59) C dX7_insertsText_59 fl_X7_25 (hM_o A M B) rfl ?_
  refine z_iload_n (pc := 62) C 2 dX7_insertsText_62 rfl rfl ?_
  obtain ⟨M1, eM1, h⟩ := ob1_eq h
  refine z_callVv (h := A.length) (As := [.int x1, .int x3, .int (M.1 5), .int x2]) (rest := []) (pc := 63) C dX7_insertsText_63 ml_X7_153 (kX7_comesIn _ _ _ _ A M B x1 x3 (M.1 5) x2 M1 eM1) (hM_o A M B) rfl rfl rfl (Nat.le_of_ble_eq_true rfl) (by decide) ?_
  obtain rfl := Option.some.inj h
  exact z_vret (pc := 66) C E dX7_insertsText_66 ⟨rfl, rfl⟩
def fX7_insertsText_b14 : Nat → MS → Int32 → Int32 → Int32 → Int32 → Option MS
  | 0, _, _, _, _, _ => none
  | n + 1, M, x1, x2, x3, x4 =>
    if (M.1 5) ≤ x4 then (fX7_insertsText_b55 M x1 x2 x3) else
    ob1 (rd 80 (M.2.1 3) x4) fun v2 =>
    ob1 (wr 6000 (M.1 9) (mA M 7 (upd (M.2.1 7) (M.1 9).toNatClampNeg v2))) fun M3 =>
    zlet (mI M3 9 ((M3.1 9) + (1 : Int32))) fun M4 =>
    zlet (x4 + (1 : Int32)) fun y5 =>
    (fX7_insertsText_b14 n) M4 x1 x2 x3 y5
set_option maxRecDepth 100000 in
set_option maxHeartbeats 4000000 in
theorem wfX7_insertsText_b14 {X : zX} {A B : zH} {out : MS} (C : zOK X cX7_insertsText yX7_insertsText.cls 5 none 4 88) (E : zPost X (poV (hG A out B))) : ∀ (n : Nat) (M : MS) (x1 : Int32) (x2 : Int32) (x3 : Int32) (x4 : Int32) (h : fX7_insertsText_b14 n M x1 x2 x3 x4 = some out), zZ X 14 [(0, .ref A.length), (1, .int x1), (2, .int x2), (3, .int x3), (4, .int x4)] [] (hG A M B) := by
  intro n
  induction n with
  | zero => intro M x1 x2 x3 x4 h; cases h
  | succ n ih =>
    intro M x1 x2 x3 x4 h
    rw [fX7_insertsText_b14] at h
    refine z_iload (pc := 14) C 4 dX7_insertsText_14 rfl ?_
    refine z_aload_n (pc := 16) C 0 dX7_insertsText_16 rfl rfl ?_
    refine z_get (pc := 17) C dX7_insertsText_17 fl_X7_25 (hM_o A M B) rfl ?_
    refine z_ic_ge (pc := 20) C dX7_insertsText_20 (tgt := 55) (by decide) (fun c1 => ?_) (fun c1 => ?_)
    · rw [if_pos c1] at h
      exact z_subL [0, 1, 2, 3] (wfX7_insertsText_b55 C E M x1 x2 x3 h) rfl
    · rw [if_neg c1] at h
      refine z_aload_n (pc := 23) C 0 dX7_insertsText_23 rfl rfl ?_
      refine z_get (pc := 24) C dX7_insertsText_24 fl_X7_39 (hM_o A M B) rfl ?_
      refine z_aload_n (pc := 27) C 0 dX7_insertsText_27 rfl rfl ?_
      refine z_get (pc := 28) C dX7_insertsText_28 fl_X7_33 (hM_o A M B) rfl ?_
      refine z_aload_n (pc := 31) C 0 dX7_insertsText_31 rfl rfl ?_
      refine z_get (pc := 32) C dX7_insertsText_32 fl_X7_17 (hM_o A M B) rfl ?_
      refine z_iload (pc := 35) C 4 dX7_insertsText_35 rfl ?_
      obtain ⟨v2, ev2, h⟩ := ob1_eq h
      refine z_iald (pc := 37) C dX7_insertsText_37 (hMa_3 A M B) (rd_eq ev2).1 (z_topi (rd_eq ev2).2 ?_)
      obtain ⟨M3, eM3, h⟩ := ob1_eq h
      refine z_iast (pc := 38) C dX7_insertsText_38 (hMa_7 A M B) (wr_eq eM3).1 (hMs_7 A B (wr_eq eM3).2) ?_
      refine z_aload_n (pc := 39) C 0 dX7_insertsText_39 rfl rfl ?_
      refine z_dup (pc := 40) C dX7_insertsText_40 rfl ?_
      refine z_get (pc := 41) C dX7_insertsText_41 fl_X7_33 (hM_o A M3 B) rfl ?_
      refine z_iconst (pc := 44) C dX7_insertsText_44 (v := (1 : Int32)) (by decide) ?_
      refine z_iadd (pc := 45) C dX7_insertsText_45 ?_
      obtain ⟨M4, eM4, h⟩ := zlet_eq h
      refine z_put (pc := 46) C dX7_insertsText_46 fl_X7_33w (hM_o A M3 B) (fun _ => rfl) (fun _ => rfl) (Nat.le_of_ble_eq_true rfl) (hMi_9 A B eM4) ?_
      obtain ⟨y5, ey5, h⟩ := zlet_eq h
      refine z_iinc (pc := 49) (v := y5) C 4 dX7_insertsText_49 rfl (by rw [ey5]; rfl) (by decide) (show zput _ _ _ = [(4, .int y5), (0, .ref A.length), (1, .int x1), (2, .int x2), (3, .int x3)] from rfl) ?_
      refine z_goto (pc := 52) C dX7_insertsText_52 (tgt := 14) (by decide) ?_
      exact z_subL [1, 2, 3, 4, 0] (ih M4 x1 x2 x3 y5 h) rfl
def fX7_insertsText (M : MS) (x1 : Int32) : Option MS :=
    ob1 (fX7_goesOn M x1) fun v1 =>
    zlet ((M.1 9)) fun y2 =>
    fX7_insertsText_b14 FU M x1 v1 y2 (0 : Int32)
set_option maxRecDepth 100000 in
set_option maxHeartbeats 4000000 in
theorem wfX7_insertsText {X : zX} {A B : zH} {out : MS} (C : zOK X cX7_insertsText yX7_insertsText.cls 5 none 4 88) (E : zPost X (poV (hG A out B))) (M : MS) (x1 : Int32) (h : fX7_insertsText M x1 = some out) : zZ X 0 [(0, .ref A.length), (1, .int x1)] [] (hG A M B) := by
  rw [fX7_insertsText] at h
  refine z_aload_n (pc := 0) C 0 dX7_insertsText_0 rfl rfl ?_
  refine z_iload_n (pc := 1) C 1 dX7_insertsText_1 rfl rfl ?_
  obtain ⟨v1, ev1, h⟩ := ob1_eq h
  refine z_callVi (h := A.length) (As := [.int x1]) (rest := []) (pc := 2) C dX7_insertsText_2 ml_X7_150 (kX7_goesOn _ _ _ _ A M B x1 v1 ev1) (hM_o A M B) rfl rfl rfl (Nat.le_of_ble_eq_true rfl) (by decide) ?_
  refine z_istore_n (pc := 5) C dX7_insertsText_5 rfl (by decide) (show zput _ _ _ = [(2, .int v1), (0, .ref A.length), (1, .int x1)] from rfl) ?_
  refine z_aload_n (pc := 6) C 1 dX7_insertsText_6 rfl rfl ?_
  refine z_get (pc := 7) C dX7_insertsText_7 fl_X7_33 (hM_o A M B) rfl ?_
  obtain ⟨y2, ey2, h⟩ := zlet_eq h
  refine z_topi ey2 ?_
  refine z_istore_n (pc := 10) C dX7_insertsText_10 rfl (by decide) (show zput _ _ _ = [(3, .int y2), (2, .int v1), (0, .ref A.length), (1, .int x1)] from rfl) ?_
  refine z_iconst (pc := 11) C dX7_insertsText_11 (v := (0 : Int32)) (by decide) ?_
  refine z_istore (pc := 12) C dX7_insertsText_12 (by decide) (show zput _ _ _ = [(4, .int (0 : Int32)), (3, .int y2), (2, .int v1), (0, .ref A.length), (1, .int x1)] from rfl) ?_
  exact z_subL [3, 4, 2, 1, 0] (wfX7_insertsText_b14 C E FU M x1 v1 y2 (0 : Int32) h) rfl
theorem kX7_insertsText (l : Launch) (D : va_G) (cA : Nat → ClassId) (b : Nat) (A : zH) (M : MS) (B : zH) (x1 : Int32) (out : MS) (h : fX7_insertsText M x1 = some out) : zM l D cA b yX7_insertsText cX7_insertsText 5 none 4 88 [.ref A.length, .int x1] (hG A M B) (poV (hG A out B)) := z_entry rfl (Nat.le_of_ble_eq_true rfl) (fun X C E _ _ _ => wfX7_insertsText C E M x1 h)
def fX7_takesOut_b41 (M : MS) (x1 : Int32) (x2 : Int32) (x3 : Int32) : Option (Int32 × MS) :=
    ob1 (fX7_closesGap M x1 x2) fun M1 =>
    ob1 (fX7_partsAt M1 x1) fun M2 =>
    ob1 (fX7_marksGo M2 x1 x2) fun M3 =>
    some (x3, M3)
set_option maxRecDepth 100000 in
set_option maxHeartbeats 4000000 in
theorem wfX7_takesOut_b41 {X : zX} {A B : zH} {out : Int32 × MS} (C : zOK X cX7_takesOut yX7_takesOut.cls 5 (some .int) 3 63) (E : zPost X (poI out.1 (hG A out.2 B))) (M : MS) (x1 : Int32) (x2 : Int32) (x3 : Int32) (h : fX7_takesOut_b41 M x1 x2 x3 = some out) : zZ X 41 [(0, .ref A.length), (1, .int x1), (2, .int x2), (3, .int x3)] [] (hG A M B) := by
  rw [fX7_takesOut_b41] at h
  refine z_aload_n (pc := 41) C 0 dX7_takesOut_41 rfl rfl ?_
  refine z_iload_n (pc := 42) C 1 dX7_takesOut_42 rfl rfl ?_
  refine z_iload_n (pc := 43) C 2 dX7_takesOut_43 rfl rfl ?_
  obtain ⟨M1, eM1, h⟩ := ob1_eq h
  refine z_callVv (h := A.length) (As := [.int x1, .int x2]) (rest := []) (pc := 44) C dX7_takesOut_44 ml_X7_160 (kX7_closesGap _ _ _ _ A M B x1 x2 M1 eM1) (hM_o A M B) rfl rfl rfl (Nat.le_of_ble_eq_true rfl) (by decide) ?_
  refine z_aload_n (pc := 47) C 0 dX7_takesOut_47 rfl rfl ?_
  refine z_iload_n (pc := 48) C 1 dX7_takesOut_48 rfl rfl ?_
  obtain ⟨M2, eM2, h⟩ := ob1_eq h
  refine z_callVv (h := A.length) (As := [.int x1]) (rest := []) (pc := 49) C dX7_takesOut_49 ml_X7_143 (kX7_partsAt _ _ _ _ A M1 B x1 M2 eM2) (hM_o A M1 B) rfl rfl rfl (Nat.le_of_ble_eq_true rfl) (by decide) ?_
  refine z_aload_n (pc := 52) C 0 dX7_takesOut_52 rfl rfl ?_
  refine z_iload_n (pc := 53) C 1 dX7_takesOut_53 rfl rfl ?_
  refine z_iload_n (pc := 54) C 2 dX7_takesOut_54 rfl rfl ?_
  obtain ⟨M3, eM3, h⟩ := ob1_eq h
  refine z_callVv (h := A.length) (As := [.int x1, .int x2]) (rest := []) (pc := 55) C dX7_takesOut_55 ml_X7_163 (kX7_marksGo _ _ _ _ A M2 B x1 x2 M3 eM3) (hM_o A M2 B) rfl rfl rfl (Nat.le_of_ble_eq_true rfl) (by decide) ?_
  refine z_iload_n (pc := 58) C 3 dX7_takesOut_58 rfl rfl ?_
  obtain rfl := Option.some.inj h
  exact z_iret (pc := 59) C E dX7_takesOut_59 ⟨rfl, rfl⟩
def fX7_takesOut_b30 (k5 : MS → Int32 → Int32 → Int32 → Int32 → Option (Int32 × MS)) (M : MS) (x1 : Int32) (x2 : Int32) (x4 : Int32) (s0 : Int32) (s1 : Int32) : Option (Int32 × MS) :=
    ob1 (fX7_flag s0) fun v1 =>
    zlet ((s1 + v1)) fun y2 =>
    zlet (x4 + (1 : Int32)) fun y3 =>
    k5 M x1 x2 y2 y3
set_option maxRecDepth 100000 in
set_option maxHeartbeats 4000000 in
theorem wfX7_takesOut_b30 {X : zX} {A B : zH} {out : Int32 × MS} (C : zOK X cX7_takesOut yX7_takesOut.cls 5 (some .int) 3 63) (E : zPost X (poI out.1 (hG A out.2 B))) (k5 : MS → Int32 → Int32 → Int32 → Int32 → Option (Int32 × MS)) (hk5 : ∀ (M : MS) (x1 : Int32) (x2 : Int32) (x3 : Int32) (x4 : Int32), k5 M x1 x2 x3 x4 = some out → zZ X 5 [(0, .ref A.length), (1, .int x1), (2, .int x2), (3, .int x3), (4, .int x4)] [] (hG A M B)) (M : MS) (x1 : Int32) (x2 : Int32) (x4 : Int32) (s0 : Int32) (s1 : Int32) (h : fX7_takesOut_b30 k5 M x1 x2 x4 s0 s1 = some out) : zZ X 30 [(0, .ref A.length), (1, .int x1), (2, .int x2), (4, .int x4)] [.int s0, .int s1] (hG A M B) := by
  rw [fX7_takesOut_b30] at h
  obtain ⟨v1, ev1, h⟩ := ob1_eq h
  refine z_callSi (As := [.int s0]) (rest := [.int s1]) (pc := 30) C dX7_takesOut_30 ml_X7_119 (kX7_flag _ _ _ _ (hG A M B) s0 v1 ev1) rfl rfl (Nat.le_of_ble_eq_true rfl) (by decide) ?_
  refine z_iadd (pc := 33) C dX7_takesOut_33 ?_
  obtain ⟨y2, ey2, h⟩ := zlet_eq h
  refine z_topi ey2 ?_
  refine z_istore_n (pc := 34) C dX7_takesOut_34 rfl (by decide) (show zput _ _ _ = [(3, .int y2), (0, .ref A.length), (1, .int x1), (2, .int x2), (4, .int x4)] from rfl) ?_
  obtain ⟨y3, ey3, h⟩ := zlet_eq h
  refine z_iinc (pc := 35) (v := y3) C 4 dX7_takesOut_35 rfl (by rw [ey3]; rfl) (by decide) (show zput _ _ _ = [(4, .int y3), (3, .int y2), (0, .ref A.length), (1, .int x1), (2, .int x2)] from rfl) ?_
  refine z_goto (pc := 38) C dX7_takesOut_38 (tgt := 5) (by decide) ?_
  exact z_subL [2, 3, 4, 1, 0] (hk5 M x1 x2 y2 y3 h) rfl
def fX7_takesOut_b5 : Nat → MS → Int32 → Int32 → Int32 → Int32 → Option (Int32 × MS)
  | 0, _, _, _, _, _ => none
  | n + 1, M, x1, x2, x3, x4 =>
    if (x1 + x2) ≤ x4 then (fX7_takesOut_b41 M x1 x2 x3) else
    ob1 (fX7_signAt M x4) fun v2 =>
    if v2 = (10 : Int32) then (fX7_takesOut_b30 (fX7_takesOut_b5 n) M x1 x2 x4 (1 : Int32) x3) else
    fX7_takesOut_b30 (fX7_takesOut_b5 n) M x1 x2 x4 (0 : Int32) x3
set_option maxRecDepth 100000 in
set_option maxHeartbeats 4000000 in
theorem wfX7_takesOut_b5 {X : zX} {A B : zH} {out : Int32 × MS} (C : zOK X cX7_takesOut yX7_takesOut.cls 5 (some .int) 3 63) (E : zPost X (poI out.1 (hG A out.2 B))) : ∀ (n : Nat) (M : MS) (x1 : Int32) (x2 : Int32) (x3 : Int32) (x4 : Int32) (h : fX7_takesOut_b5 n M x1 x2 x3 x4 = some out), zZ X 5 [(0, .ref A.length), (1, .int x1), (2, .int x2), (3, .int x3), (4, .int x4)] [] (hG A M B) := by
  intro n
  induction n with
  | zero => intro M x1 x2 x3 x4 h; cases h
  | succ n ih =>
    intro M x1 x2 x3 x4 h
    rw [fX7_takesOut_b5] at h
    refine z_iload (pc := 5) C 4 dX7_takesOut_5 rfl ?_
    refine z_iload_n (pc := 7) C 1 dX7_takesOut_7 rfl rfl ?_
    refine z_iload_n (pc := 8) C 2 dX7_takesOut_8 rfl rfl ?_
    refine z_iadd (pc := 9) C dX7_takesOut_9 ?_
    refine z_ic_ge (pc := 10) C dX7_takesOut_10 (tgt := 41) (by decide) (fun c1 => ?_) (fun c1 => ?_)
    · rw [if_pos c1] at h
      exact z_subL [0, 1, 2, 3] (wfX7_takesOut_b41 C E M x1 x2 x3 h) rfl
    · rw [if_neg c1] at h
      refine z_iload_n (pc := 13) C 3 dX7_takesOut_13 rfl rfl ?_
      refine z_aload_n (pc := 14) C 0 dX7_takesOut_14 rfl rfl ?_
      refine z_iload (pc := 15) C 4 dX7_takesOut_15 rfl ?_
      obtain ⟨v2, ev2, h⟩ := ob1_eq h
      refine z_callVi (h := A.length) (As := [.int x4]) (rest := [.int x3]) (pc := 17) C dX7_takesOut_17 ml_X7_157 (kX7_signAt _ _ _ _ A M B x4 v2 ev2) (hM_o A M B) rfl rfl rfl (Nat.le_of_ble_eq_true rfl) (by decide) ?_
      refine z_bipush (pc := 20) C dX7_takesOut_20 (v := (10 : Int32)) (by decide) ?_
      refine z_ic_ne (pc := 22) C dX7_takesOut_22 (tgt := 29) (by decide) (fun c3 => ?_) (fun c3 => ?_)
      · rw [if_neg c3] at h
        refine z_iconst (pc := 29) C dX7_takesOut_29 (v := (0 : Int32)) (by decide) ?_
        exact z_subL [0, 1, 2, 4] (wfX7_takesOut_b30 C E (fX7_takesOut_b5 n) ih M x1 x2 x4 (0 : Int32) x3 h) rfl
      · rw [if_pos c3] at h
        refine z_iconst (pc := 25) C dX7_takesOut_25 (v := (1 : Int32)) (by decide) ?_
        refine z_goto (pc := 26) C dX7_takesOut_26 (tgt := 30) (by decide) ?_
        exact z_subL [0, 1, 2, 4] (wfX7_takesOut_b30 C E (fX7_takesOut_b5 n) ih M x1 x2 x4 (1 : Int32) x3 h) rfl
def fX7_takesOut (M : MS) (x1 : Int32) (x2 : Int32) : Option (Int32 × MS) :=
    fX7_takesOut_b5 FU M x1 x2 (0 : Int32) x1
set_option maxRecDepth 100000 in
set_option maxHeartbeats 4000000 in
theorem wfX7_takesOut {X : zX} {A B : zH} {out : Int32 × MS} (C : zOK X cX7_takesOut yX7_takesOut.cls 5 (some .int) 3 63) (E : zPost X (poI out.1 (hG A out.2 B))) (M : MS) (x1 : Int32) (x2 : Int32) (h : fX7_takesOut M x1 x2 = some out) : zZ X 0 [(0, .ref A.length), (1, .int x1), (2, .int x2)] [] (hG A M B) := by
  rw [fX7_takesOut] at h
  refine z_iconst (pc := 0) C dX7_takesOut_0 (v := (0 : Int32)) (by decide) ?_
  refine z_istore_n (pc := 1) C dX7_takesOut_1 rfl (by decide) (show zput _ _ _ = [(3, .int (0 : Int32)), (0, .ref A.length), (1, .int x1), (2, .int x2)] from rfl) ?_
  refine z_iload_n (pc := 2) C 2 dX7_takesOut_2 rfl rfl ?_
  refine z_istore (pc := 3) C dX7_takesOut_3 (by decide) (show zput _ _ _ = [(4, .int x1), (3, .int (0 : Int32)), (0, .ref A.length), (1, .int x1), (2, .int x2)] from rfl) ?_
  exact z_subL [2, 3, 4, 1, 0] (wfX7_takesOut_b5 C E FU M x1 x2 (0 : Int32) x1 h) rfl
theorem kX7_takesOut (l : Launch) (D : va_G) (cA : Nat → ClassId) (b : Nat) (A : zH) (M : MS) (B : zH) (x1 : Int32) (x2 : Int32) (out : Int32 × MS) (h : fX7_takesOut M x1 x2 = some out) : zM l D cA b yX7_takesOut cX7_takesOut 5 (some .int) 3 63 [.ref A.length, .int x1, .int x2] (hG A M B) (poI out.1 (hG A out.2 B)) := z_entry rfl (Nat.le_of_ble_eq_true rfl) (fun X C E _ _ _ => wfX7_takesOut C E M x1 x2 h)
def fX7_laysOut_b2 : Nat → MS → Int32 → Int32 → Int32 → Option MS
  | 0, _, _, _, _ => none
  | n + 1, M, x1, x2, x3 =>
    if x2 ≤ x3 then (some M) else
    ob1 (rd 3000 (M.2.1 10) (x1 + x3)) fun v2 =>
    ob1 (wr 3000 x3 (mA M 14 (upd (M.2.1 14) x3.toNatClampNeg v2))) fun M3 =>
    zlet (x3 + (1 : Int32)) fun y4 =>
    (fX7_laysOut_b2 n) M3 x1 x2 y4
set_option maxRecDepth 100000 in
set_option maxHeartbeats 4000000 in
theorem wfX7_laysOut_b2 {X : zX} {A B : zH} {out : MS} (C : zOK X cX7_laysOut yX7_laysOut.cls 4 none 0 0) (E : zPost X (poV (hG A out B))) : ∀ (n : Nat) (M : MS) (x1 : Int32) (x2 : Int32) (x3 : Int32) (h : fX7_laysOut_b2 n M x1 x2 x3 = some out), zZ X 2 [(0, .ref A.length), (1, .int x1), (2, .int x2), (3, .int x3)] [] (hG A M B) := by
  intro n
  induction n with
  | zero => intro M x1 x2 x3 h; cases h
  | succ n ih =>
    intro M x1 x2 x3 h
    rw [fX7_laysOut_b2] at h
    refine z_iload_n (pc := 2) C 3 dX7_laysOut_2 rfl rfl ?_
    refine z_iload_n (pc := 3) C 2 dX7_laysOut_3 rfl rfl ?_
    refine z_ic_ge (pc := 4) C dX7_laysOut_4 (tgt := 27) (by decide) (fun c1 => ?_) (fun c1 => ?_)
    · rw [if_pos c1] at h
      obtain rfl := Option.some.inj h
      exact z_vret (pc := 27) C E dX7_laysOut_27 ⟨rfl, rfl⟩
    · rw [if_neg c1] at h
      refine z_aload_n (pc := 7) C 0 dX7_laysOut_7 rfl rfl ?_
      refine z_get (pc := 8) C dX7_laysOut_8 fl_X7_57 (hM_o A M B) rfl ?_
      refine z_iload_n (pc := 11) C 3 dX7_laysOut_11 rfl rfl ?_
      refine z_aload_n (pc := 12) C 0 dX7_laysOut_12 rfl rfl ?_
      refine z_get (pc := 13) C dX7_laysOut_13 fl_X7_48 (hM_o A M B) rfl ?_
      refine z_iload_n (pc := 16) C 1 dX7_laysOut_16 rfl rfl ?_
      refine z_iload_n (pc := 17) C 3 dX7_laysOut_17 rfl rfl ?_
      refine z_iadd (pc := 18) C dX7_laysOut_18 ?_
      obtain ⟨v2, ev2, h⟩ := ob1_eq h
      refine z_iald (pc := 19) C dX7_laysOut_19 (hMa_10 A M B) (rd_eq ev2).1 (z_topi (rd_eq ev2).2 ?_)
      obtain ⟨M3, eM3, h⟩ := ob1_eq h
      refine z_iast (pc := 20) C dX7_laysOut_20 (hMa_14 A M B) (wr_eq eM3).1 (hMs_14 A B (wr_eq eM3).2) ?_
      obtain ⟨y4, ey4, h⟩ := zlet_eq h
      refine z_iinc (pc := 21) (v := y4) C 3 dX7_laysOut_21 rfl (by rw [ey4]; rfl) (by decide) (show zput _ _ _ = [(3, .int y4), (0, .ref A.length), (1, .int x1), (2, .int x2)] from rfl) ?_
      refine z_goto (pc := 24) C dX7_laysOut_24 (tgt := 2) (by decide) ?_
      exact z_subL [1, 2, 3, 0] (ih M3 x1 x2 y4 h) rfl
def fX7_laysOut (M : MS) (x1 : Int32) (x2 : Int32) : Option MS :=
    fX7_laysOut_b2 FU M x1 x2 (0 : Int32)
set_option maxRecDepth 100000 in
set_option maxHeartbeats 4000000 in
theorem wfX7_laysOut {X : zX} {A B : zH} {out : MS} (C : zOK X cX7_laysOut yX7_laysOut.cls 4 none 0 0) (E : zPost X (poV (hG A out B))) (M : MS) (x1 : Int32) (x2 : Int32) (h : fX7_laysOut M x1 x2 = some out) : zZ X 0 [(0, .ref A.length), (1, .int x1), (2, .int x2)] [] (hG A M B) := by
  rw [fX7_laysOut] at h
  refine z_iconst (pc := 0) C dX7_laysOut_0 (v := (0 : Int32)) (by decide) ?_
  refine z_istore_n (pc := 1) C dX7_laysOut_1 rfl (by decide) (show zput _ _ _ = [(3, .int (0 : Int32)), (0, .ref A.length), (1, .int x1), (2, .int x2)] from rfl) ?_
  exact z_subL [1, 2, 3, 0] (wfX7_laysOut_b2 C E FU M x1 x2 (0 : Int32) h) rfl
theorem kX7_laysOut (l : Launch) (D : va_G) (cA : Nat → ClassId) (b : Nat) (A : zH) (M : MS) (B : zH) (x1 : Int32) (x2 : Int32) (out : MS) (h : fX7_laysOut M x1 x2 = some out) : zM l D cA b yX7_laysOut cX7_laysOut 4 none 0 0 [.ref A.length, .int x1, .int x2] (hG A M B) (poV (hG A out B)) := z_entry rfl (Nat.le_of_ble_eq_true rfl) (fun X C E _ _ _ => wfX7_laysOut C E M x1 x2 h)
def fX7_laysIn_b33 (M : MS) (x1 : Int32) (x2 : Int32) : Option MS :=
    ob1 (fX7_partsAt M x2) fun M1 =>
    ob1 (fX7_partsAt M1 (x2 + x1)) fun M2 =>
    some M2
set_option maxRecDepth 100000 in
set_option maxHeartbeats 4000000 in
theorem wfX7_laysIn_b33 {X : zX} {A B : zH} {out : MS} (C : zOK X cX7_laysIn yX7_laysIn.cls 4 none 3 63) (E : zPost X (poV (hG A out B))) (M : MS) (x1 : Int32) (x2 : Int32) (h : fX7_laysIn_b33 M x1 x2 = some out) : zZ X 33 [(0, .ref A.length), (1, .int x1), (2, .int x2)] [] (hG A M B) := by
  rw [fX7_laysIn_b33] at h
  refine z_aload_n (pc := 33) C 0 dX7_laysIn_33 rfl rfl ?_
  refine z_iload_n (pc := 34) C 2 dX7_laysIn_34 rfl rfl ?_
  obtain ⟨M1, eM1, h⟩ := ob1_eq h
  refine z_callVv (h := A.length) (As := [.int x2]) (rest := []) (pc := 35) C dX7_laysIn_35 ml_X7_143 (kX7_partsAt _ _ _ _ A M B x2 M1 eM1) (hM_o A M B) rfl rfl rfl (Nat.le_of_ble_eq_true rfl) (by decide) ?_
  refine z_aload_n (pc := 38) C 0 dX7_laysIn_38 rfl rfl ?_
  refine z_iload_n (pc := 39) C 2 dX7_laysIn_39 rfl rfl ?_
  refine z_iload_n (pc := 40) C 1 dX7_laysIn_40 rfl rfl ?_
  refine z_iadd (pc := 41) C dX7_laysIn_41 ?_
  obtain ⟨M2, eM2, h⟩ := ob1_eq h
  refine z_callVv (h := A.length) (As := [.int (x2 + x1)]) (rest := []) (pc := 42) C dX7_laysIn_42 ml_X7_143 (kX7_partsAt _ _ _ _ A M1 B (x2 + x1) M2 eM2) (hM_o A M1 B) rfl rfl rfl (Nat.le_of_ble_eq_true rfl) (by decide) ?_
  obtain rfl := Option.some.inj h
  exact z_vret (pc := 45) C E dX7_laysIn_45 ⟨rfl, rfl⟩
def fX7_laysIn_b8 : Nat → MS → Int32 → Int32 → Int32 → Option MS
  | 0, _, _, _, _ => none
  | n + 1, M, x1, x2, x3 =>
    if x1 ≤ x3 then (fX7_laysIn_b33 M x1 x2) else
    ob1 (rd 3000 (M.2.1 14) x3) fun v2 =>
    ob1 (wr 3000 (x2 + x3) (mA M 10 (upd (M.2.1 10) (x2 + x3).toNatClampNeg v2))) fun M3 =>
    zlet (x3 + (1 : Int32)) fun y4 =>
    (fX7_laysIn_b8 n) M3 x1 x2 y4
set_option maxRecDepth 100000 in
set_option maxHeartbeats 4000000 in
theorem wfX7_laysIn_b8 {X : zX} {A B : zH} {out : MS} (C : zOK X cX7_laysIn yX7_laysIn.cls 4 none 3 63) (E : zPost X (poV (hG A out B))) : ∀ (n : Nat) (M : MS) (x1 : Int32) (x2 : Int32) (x3 : Int32) (h : fX7_laysIn_b8 n M x1 x2 x3 = some out), zZ X 8 [(0, .ref A.length), (1, .int x1), (2, .int x2), (3, .int x3)] [] (hG A M B) := by
  intro n
  induction n with
  | zero => intro M x1 x2 x3 h; cases h
  | succ n ih =>
    intro M x1 x2 x3 h
    rw [fX7_laysIn_b8] at h
    refine z_iload_n (pc := 8) C 3 dX7_laysIn_8 rfl rfl ?_
    refine z_iload_n (pc := 9) C 1 dX7_laysIn_9 rfl rfl ?_
    refine z_ic_ge (pc := 10) C dX7_laysIn_10 (tgt := 33) (by decide) (fun c1 => ?_) (fun c1 => ?_)
    · rw [if_pos c1] at h
      exact z_subL [0, 1, 2] (wfX7_laysIn_b33 C E M x1 x2 h) rfl
    · rw [if_neg c1] at h
      refine z_aload_n (pc := 13) C 0 dX7_laysIn_13 rfl rfl ?_
      refine z_get (pc := 14) C dX7_laysIn_14 fl_X7_48 (hM_o A M B) rfl ?_
      refine z_iload_n (pc := 17) C 2 dX7_laysIn_17 rfl rfl ?_
      refine z_iload_n (pc := 18) C 3 dX7_laysIn_18 rfl rfl ?_
      refine z_iadd (pc := 19) C dX7_laysIn_19 ?_
      refine z_aload_n (pc := 20) C 0 dX7_laysIn_20 rfl rfl ?_
      refine z_get (pc := 21) C dX7_laysIn_21 fl_X7_57 (hM_o A M B) rfl ?_
      refine z_iload_n (pc := 24) C 3 dX7_laysIn_24 rfl rfl ?_
      obtain ⟨v2, ev2, h⟩ := ob1_eq h
      refine z_iald (pc := 25) C dX7_laysIn_25 (hMa_14 A M B) (rd_eq ev2).1 (z_topi (rd_eq ev2).2 ?_)
      obtain ⟨M3, eM3, h⟩ := ob1_eq h
      refine z_iast (pc := 26) C dX7_laysIn_26 (hMa_10 A M B) (wr_eq eM3).1 (hMs_10 A B (wr_eq eM3).2) ?_
      obtain ⟨y4, ey4, h⟩ := zlet_eq h
      refine z_iinc (pc := 27) (v := y4) C 3 dX7_laysIn_27 rfl (by rw [ey4]; rfl) (by decide) (show zput _ _ _ = [(3, .int y4), (0, .ref A.length), (1, .int x1), (2, .int x2)] from rfl) ?_
      refine z_goto (pc := 30) C dX7_laysIn_30 (tgt := 8) (by decide) ?_
      exact z_subL [1, 2, 3, 0] (ih M3 x1 x2 y4 h) rfl
def fX7_laysIn (M : MS) (x1 : Int32) (x2 : Int32) : Option MS :=
    ob1 (fX7_opensGap M x2 x1) fun M1 =>
    fX7_laysIn_b8 FU M1 x1 x2 (0 : Int32)
set_option maxRecDepth 100000 in
set_option maxHeartbeats 4000000 in
theorem wfX7_laysIn {X : zX} {A B : zH} {out : MS} (C : zOK X cX7_laysIn yX7_laysIn.cls 4 none 3 63) (E : zPost X (poV (hG A out B))) (M : MS) (x1 : Int32) (x2 : Int32) (h : fX7_laysIn M x1 x2 = some out) : zZ X 0 [(0, .ref A.length), (1, .int x1), (2, .int x2)] [] (hG A M B) := by
  rw [fX7_laysIn] at h
  refine z_aload_n (pc := 0) C 0 dX7_laysIn_0 rfl rfl ?_
  refine z_iload_n (pc := 1) C 2 dX7_laysIn_1 rfl rfl ?_
  refine z_iload_n (pc := 2) C 1 dX7_laysIn_2 rfl rfl ?_
  obtain ⟨M1, eM1, h⟩ := ob1_eq h
  refine z_callVv (h := A.length) (As := [.int x2, .int x1]) (rest := []) (pc := 3) C dX7_laysIn_3 ml_X7_139 (kX7_opensGap _ _ _ _ A M B x2 x1 M1 eM1) (hM_o A M B) rfl rfl rfl (Nat.le_of_ble_eq_true rfl) (by decide) ?_
  refine z_iconst (pc := 6) C dX7_laysIn_6 (v := (0 : Int32)) (by decide) ?_
  refine z_istore_n (pc := 7) C dX7_laysIn_7 rfl (by decide) (show zput _ _ _ = [(3, .int (0 : Int32)), (0, .ref A.length), (1, .int x1), (2, .int x2)] from rfl) ?_
  exact z_subL [1, 2, 3, 0] (wfX7_laysIn_b8 C E FU M1 x1 x2 (0 : Int32) h) rfl
theorem kX7_laysIn (l : Launch) (D : va_G) (cA : Nat → ClassId) (b : Nat) (A : zH) (M : MS) (B : zH) (x1 : Int32) (x2 : Int32) (out : MS) (h : fX7_laysIn M x1 x2 = some out) : zM l D cA b yX7_laysIn cX7_laysIn 4 none 3 63 [.ref A.length, .int x1, .int x2] (hG A M B) (poV (hG A out B)) := z_entry rfl (Nat.le_of_ble_eq_true rfl) (fun X C E _ _ _ => wfX7_laysIn C E M x1 x2 h)
def fX7_forgetsEdits (M : MS) : Option MS :=
    zlet (mI M 17 (0 : Int32)) fun M1 =>
    zlet (mI M1 20 (0 : Int32)) fun M2 =>
    zlet (mI M2 21 (-5 : Int32)) fun M3 =>
    some M3
set_option maxRecDepth 100000 in
set_option maxHeartbeats 4000000 in
theorem wfX7_forgetsEdits {X : zX} {A B : zH} {out : MS} (C : zOK X cX7_forgetsEdits yX7_forgetsEdits.cls 1 none 0 0) (E : zPost X (poV (hG A out B))) (M : MS) (h : fX7_forgetsEdits M = some out) : zZ X 0 [(0, .ref A.length)] [] (hG A M B) := by
  rw [fX7_forgetsEdits] at h
  refine z_aload_n (pc := 0) C 0 dX7_forgetsEdits_0 rfl rfl ?_
  refine z_iconst (pc := 1) C dX7_forgetsEdits_1 (v := (0 : Int32)) (by decide) ?_
  obtain ⟨M1, eM1, h⟩ := zlet_eq h
  refine z_put (pc := 2) C dX7_forgetsEdits_2 fl_X7_166w (hM_o A M B) (fun _ => rfl) (fun _ => rfl) (Nat.le_of_ble_eq_true rfl) (hMi_17 A B eM1) ?_
  refine z_aload_n (pc := 5) C 0 dX7_forgetsEdits_5 rfl rfl ?_
  refine z_iconst (pc := 6) C dX7_forgetsEdits_6 (v := (0 : Int32)) (by decide) ?_
  obtain ⟨M2, eM2, h⟩ := zlet_eq h
  refine z_put (pc := 7) C dX7_forgetsEdits_7 fl_X7_179w (hM_o A M1 B) (fun _ => rfl) (fun _ => rfl) (Nat.le_of_ble_eq_true rfl) (hMi_20 A B eM2) ?_
  refine z_aload_n (pc := 10) C 0 dX7_forgetsEdits_10 rfl rfl ?_
  refine z_bipush (pc := 11) C dX7_forgetsEdits_11 (v := (-5 : Int32)) (by decide) ?_
  obtain ⟨M3, eM3, h⟩ := zlet_eq h
  refine z_put (pc := 13) C dX7_forgetsEdits_13 fl_X7_74w (hM_o A M2 B) (fun _ => rfl) (fun _ => rfl) (Nat.le_of_ble_eq_true rfl) (hMi_21 A B eM3) ?_
  obtain rfl := Option.some.inj h
  exact z_vret (pc := 16) C E dX7_forgetsEdits_16 ⟨rfl, rfl⟩
theorem kX7_forgetsEdits (l : Launch) (D : va_G) (cA : Nat → ClassId) (b : Nat) (A : zH) (M : MS) (B : zH)  (out : MS) (h : fX7_forgetsEdits M = some out) : zM l D cA b yX7_forgetsEdits cX7_forgetsEdits 1 none 0 0 [.ref A.length] (hG A M B) (poV (hG A out B)) := z_entry rfl (Nat.le_of_ble_eq_true rfl) (fun X C E _ _ _ => wfX7_forgetsEdits C E M h)
def fX7_store_b129 (M : MS) (x1 : Int32) (x2 : Int32) (x3 : Int32) (x4 : Int32) : Option (Int32 × MS) :=
    if x2 = 0 then (ob1 (fX7_storeMany M x1) fun v3 =>
    some (v3, M)) else
    if x2 = (1 : Int32) then (some (x3, M)) else
    some (x4, M)
set_option maxRecDepth 100000 in
set_option maxHeartbeats 4000000 in
theorem wfX7_store_b129 {X : zX} {A B : zH} {out : Int32 × MS} (C : zOK X cX7_store yX7_store.cls 6 (some .int) 1 25) (E : zPost X (poI out.1 (hG A out.2 B))) (M : MS) (x1 : Int32) (x2 : Int32) (x3 : Int32) (x4 : Int32) (h : fX7_store_b129 M x1 x2 x3 x4 = some out) : zZ X 129 [(0, .ref A.length), (1, .int x1), (2, .int x2), (3, .int x3), (4, .int x4)] [] (hG A M B) := by
  rw [fX7_store_b129] at h
  refine z_iload_n (pc := 129) C 2 dX7_store_129 rfl rfl ?_
  refine z_if_ne (pc := 130) C dX7_store_130 (tgt := 141) (by decide) (fun c1 => ?_) (fun c1 => ?_)
  · rw [if_neg c1] at h
    refine z_iload_n (pc := 141) C 2 dX7_store_141 rfl rfl ?_
    refine z_iconst (pc := 142) C dX7_store_142 (v := (1 : Int32)) (by decide) ?_
    refine z_ic_ne (pc := 143) C dX7_store_143 (tgt := 150) (by decide) (fun c2 => ?_) (fun c2 => ?_)
    · rw [if_neg c2] at h
      refine z_iload (pc := 150) C 4 dX7_store_150 rfl ?_
      obtain rfl := Option.some.inj h
      exact z_iret (pc := 152) C E dX7_store_152 ⟨rfl, rfl⟩
    · rw [if_pos c2] at h
      refine z_iload_n (pc := 146) C 3 dX7_store_146 rfl rfl ?_
      refine z_goto (pc := 147) C dX7_store_147 (tgt := 152) (by decide) ?_
      obtain rfl := Option.some.inj h
      exact z_iret (pc := 152) C E dX7_store_152 ⟨rfl, rfl⟩
  · rw [if_pos c1] at h
    refine z_aload_n (pc := 133) C 0 dX7_store_133 rfl rfl ?_
    refine z_iload_n (pc := 134) C 1 dX7_store_134 rfl rfl ?_
    obtain ⟨v3, ev3, h⟩ := ob1_eq h
    refine z_callVi (h := A.length) (As := [.int x1]) (rest := []) (pc := 135) C dX7_store_135 ml_X7_199 (kX7_storeMany _ _ _ _ A M B x1 v3 ev3) (hM_o A M B) rfl rfl rfl (Nat.le_of_ble_eq_true rfl) (by decide) ?_
    refine z_goto (pc := 138) C dX7_store_138 (tgt := 152) (by decide) ?_
    obtain rfl := Option.some.inj h
    exact z_iret (pc := 152) C E dX7_store_152 ⟨rfl, rfl⟩
def fX7_store_b117 (k82 : MS → Int32 → Int32 → Int32 → Int32 → Int32 → Option (Int32 × MS)) (M : MS) (x1 : Int32) (x2 : Int32) (x3 : Int32) (x5 : Int32) (s0 : Int32) (s1 : Int32) : Option (Int32 × MS) :=
    ob1 (fX7_flag s0) fun v1 =>
    zlet ((s1 + v1)) fun y2 =>
    zlet (x5 + (1 : Int32)) fun y3 =>
    k82 M x1 x2 x3 y2 y3
set_option maxRecDepth 100000 in
set_option maxHeartbeats 4000000 in
theorem wfX7_store_b117 {X : zX} {A B : zH} {out : Int32 × MS} (C : zOK X cX7_store yX7_store.cls 6 (some .int) 1 25) (E : zPost X (poI out.1 (hG A out.2 B))) (k82 : MS → Int32 → Int32 → Int32 → Int32 → Int32 → Option (Int32 × MS)) (hk82 : ∀ (M : MS) (x1 : Int32) (x2 : Int32) (x3 : Int32) (x4 : Int32) (x5 : Int32), k82 M x1 x2 x3 x4 x5 = some out → zZ X 82 [(0, .ref A.length), (1, .int x1), (2, .int x2), (3, .int x3), (4, .int x4), (5, .int x5)] [] (hG A M B)) (M : MS) (x1 : Int32) (x2 : Int32) (x3 : Int32) (x5 : Int32) (s0 : Int32) (s1 : Int32) (h : fX7_store_b117 k82 M x1 x2 x3 x5 s0 s1 = some out) : zZ X 117 [(0, .ref A.length), (1, .int x1), (2, .int x2), (3, .int x3), (5, .int x5)] [.int s0, .int s1] (hG A M B) := by
  rw [fX7_store_b117] at h
  obtain ⟨v1, ev1, h⟩ := ob1_eq h
  refine z_callSi (As := [.int s0]) (rest := [.int s1]) (pc := 117) C dX7_store_117 ml_X7_119 (kX7_flag _ _ _ _ (hG A M B) s0 v1 ev1) rfl rfl (Nat.le_of_ble_eq_true rfl) (by decide) ?_
  refine z_iadd (pc := 120) C dX7_store_120 ?_
  obtain ⟨y2, ey2, h⟩ := zlet_eq h
  refine z_topi ey2 ?_
  refine z_istore (pc := 121) C dX7_store_121 (by decide) (show zput _ _ _ = [(4, .int y2), (0, .ref A.length), (1, .int x1), (2, .int x2), (3, .int x3), (5, .int x5)] from rfl) ?_
  obtain ⟨y3, ey3, h⟩ := zlet_eq h
  refine z_iinc (pc := 123) (v := y3) C 5 dX7_store_123 rfl (by rw [ey3]; rfl) (by decide) (show zput _ _ _ = [(5, .int y3), (4, .int y2), (0, .ref A.length), (1, .int x1), (2, .int x2), (3, .int x3)] from rfl) ?_
  refine z_goto (pc := 126) C dX7_store_126 (tgt := 82) (by decide) ?_
  exact z_subL [2, 3, 4, 5, 1, 0] (hk82 M x1 x2 x3 y2 y3 h) rfl
def fX7_store_b116 (k82 : MS → Int32 → Int32 → Int32 → Int32 → Int32 → Option (Int32 × MS)) (M : MS) (x1 : Int32) (x2 : Int32) (x3 : Int32) (x5 : Int32) (s0 : Int32) : Option (Int32 × MS) :=
    fX7_store_b117 k82 M x1 x2 x3 x5 (0 : Int32) s0
set_option maxRecDepth 100000 in
set_option maxHeartbeats 4000000 in
theorem wfX7_store_b116 {X : zX} {A B : zH} {out : Int32 × MS} (C : zOK X cX7_store yX7_store.cls 6 (some .int) 1 25) (E : zPost X (poI out.1 (hG A out.2 B))) (k82 : MS → Int32 → Int32 → Int32 → Int32 → Int32 → Option (Int32 × MS)) (hk82 : ∀ (M : MS) (x1 : Int32) (x2 : Int32) (x3 : Int32) (x4 : Int32) (x5 : Int32), k82 M x1 x2 x3 x4 x5 = some out → zZ X 82 [(0, .ref A.length), (1, .int x1), (2, .int x2), (3, .int x3), (4, .int x4), (5, .int x5)] [] (hG A M B)) (M : MS) (x1 : Int32) (x2 : Int32) (x3 : Int32) (x5 : Int32) (s0 : Int32) (h : fX7_store_b116 k82 M x1 x2 x3 x5 s0 = some out) : zZ X 116 [(0, .ref A.length), (1, .int x1), (2, .int x2), (3, .int x3), (5, .int x5)] [.int s0] (hG A M B) := by
  rw [fX7_store_b116] at h
  refine z_iconst (pc := 116) C dX7_store_116 (v := (0 : Int32)) (by decide) ?_
  exact z_subL [0, 1, 2, 3, 4] (wfX7_store_b117 C E k82 hk82 M x1 x2 x3 x5 (0 : Int32) s0 h) rfl
def fX7_store_b82 : Nat → MS → Int32 → Int32 → Int32 → Int32 → Int32 → Option (Int32 × MS)
  | 0, _, _, _, _, _, _ => none
  | n + 1, M, x1, x2, x3, x4, x5 =>
    if (M.1 11) ≤ x5 then (fX7_store_b129 M x1 x2 x3 x4) else
    ob1 (fX7_begins M x5) fun v2 =>
    if v2 = 0 then (fX7_store_b116 (fX7_store_b82 n) M x1 x2 x3 x5 x4) else
    ob1 (fX7_storeAt M x5) fun v4 =>
    if v4 = x1 then (fX7_store_b117 (fX7_store_b82 n) M x1 x2 x3 x5 (1 : Int32) x4) else
    fX7_store_b116 (fX7_store_b82 n) M x1 x2 x3 x5 x4
set_option maxRecDepth 100000 in
set_option maxHeartbeats 4000000 in
theorem wfX7_store_b82 {X : zX} {A B : zH} {out : Int32 × MS} (C : zOK X cX7_store yX7_store.cls 6 (some .int) 1 25) (E : zPost X (poI out.1 (hG A out.2 B))) : ∀ (n : Nat) (M : MS) (x1 : Int32) (x2 : Int32) (x3 : Int32) (x4 : Int32) (x5 : Int32) (h : fX7_store_b82 n M x1 x2 x3 x4 x5 = some out), zZ X 82 [(0, .ref A.length), (1, .int x1), (2, .int x2), (3, .int x3), (4, .int x4), (5, .int x5)] [] (hG A M B) := by
  intro n
  induction n with
  | zero => intro M x1 x2 x3 x4 x5 h; cases h
  | succ n ih =>
    intro M x1 x2 x3 x4 x5 h
    rw [fX7_store_b82] at h
    refine z_iload (pc := 82) C 5 dX7_store_82 rfl ?_
    refine z_aload_n (pc := 84) C 0 dX7_store_84 rfl rfl ?_
    refine z_get (pc := 85) C dX7_store_85 fl_X7_123 (hM_o A M B) rfl ?_
    refine z_ic_ge (pc := 88) C dX7_store_88 (tgt := 129) (by decide) (fun c1 => ?_) (fun c1 => ?_)
    · rw [if_pos c1] at h
      exact z_subL [0, 1, 2, 3, 4] (wfX7_store_b129 C E M x1 x2 x3 x4 h) rfl
    · rw [if_neg c1] at h
      refine z_iload (pc := 91) C 4 dX7_store_91 rfl ?_
      refine z_aload_n (pc := 93) C 0 dX7_store_93 rfl rfl ?_
      refine z_iload (pc := 94) C 5 dX7_store_94 rfl ?_
      obtain ⟨v2, ev2, h⟩ := ob1_eq h
      refine z_callVi (h := A.length) (As := [.int x5]) (rest := [.int x4]) (pc := 96) C dX7_store_96 ml_X7_130 (kX7_begins _ _ _ _ A M B x5 v2 ev2) (hM_o A M B) rfl rfl rfl (Nat.le_of_ble_eq_true rfl) (by decide) ?_
      refine z_if_eq (pc := 99) C dX7_store_99 (tgt := 116) (by decide) (fun c3 => ?_) (fun c3 => ?_)
      · rw [if_pos c3] at h
        exact z_subL [0, 1, 2, 3, 5] (wfX7_store_b116 C E (fX7_store_b82 n) ih M x1 x2 x3 x5 x4 h) rfl
      · rw [if_neg c3] at h
        refine z_aload_n (pc := 102) C 0 dX7_store_102 rfl rfl ?_
        refine z_iload (pc := 103) C 5 dX7_store_103 rfl ?_
        obtain ⟨v4, ev4, h⟩ := ob1_eq h
        refine z_callVi (h := A.length) (As := [.int x5]) (rest := [.int x4]) (pc := 105) C dX7_store_105 ml_X7_108 (kX7_storeAt _ _ _ _ A M B x5 v4 ev4) (hM_o A M B) rfl rfl rfl (Nat.le_of_ble_eq_true rfl) (by decide) ?_
        refine z_iload_n (pc := 108) C 1 dX7_store_108 rfl rfl ?_
        refine z_ic_ne (pc := 109) C dX7_store_109 (tgt := 116) (by decide) (fun c5 => ?_) (fun c5 => ?_)
        · rw [if_neg c5] at h
          exact z_subL [0, 1, 2, 3, 5] (wfX7_store_b116 C E (fX7_store_b82 n) ih M x1 x2 x3 x5 x4 h) rfl
        · rw [if_pos c5] at h
          refine z_iconst (pc := 112) C dX7_store_112 (v := (1 : Int32)) (by decide) ?_
          refine z_goto (pc := 113) C dX7_store_113 (tgt := 117) (by decide) ?_
          exact z_subL [0, 1, 2, 3, 5] (wfX7_store_b117 C E (fX7_store_b82 n) ih M x1 x2 x3 x5 (1 : Int32) x4 h) rfl
def fX7_store_b76 (M : MS) (x1 : Int32) (x2 : Int32) (x3 : Int32) : Option (Int32 × MS) :=
    fX7_store_b82 FU M x1 x2 x3 (0 : Int32) (0 : Int32)
set_option maxRecDepth 100000 in
set_option maxHeartbeats 4000000 in
theorem wfX7_store_b76 {X : zX} {A B : zH} {out : Int32 × MS} (C : zOK X cX7_store yX7_store.cls 6 (some .int) 1 25) (E : zPost X (poI out.1 (hG A out.2 B))) (M : MS) (x1 : Int32) (x2 : Int32) (x3 : Int32) (h : fX7_store_b76 M x1 x2 x3 = some out) : zZ X 76 [(0, .ref A.length), (1, .int x1), (2, .int x2), (3, .int x3)] [] (hG A M B) := by
  rw [fX7_store_b76] at h
  refine z_iconst (pc := 76) C dX7_store_76 (v := (0 : Int32)) (by decide) ?_
  refine z_istore (pc := 77) C dX7_store_77 (by decide) (show zput _ _ _ = [(4, .int (0 : Int32)), (0, .ref A.length), (1, .int x1), (2, .int x2), (3, .int x3)] from rfl) ?_
  refine z_iconst (pc := 79) C dX7_store_79 (v := (0 : Int32)) (by decide) ?_
  refine z_istore (pc := 80) C dX7_store_80 (by decide) (show zput _ _ _ = [(5, .int (0 : Int32)), (4, .int (0 : Int32)), (0, .ref A.length), (1, .int x1), (2, .int x2), (3, .int x3)] from rfl) ?_
  exact z_subL [2, 3, 4, 5, 1, 0] (wfX7_store_b82 C E FU M x1 x2 x3 (0 : Int32) (0 : Int32) h) rfl
def fX7_store_b65 (k37 : MS → Int32 → Int32 → Int32 → Int32 → Option (Int32 × MS)) (M : MS) (x1 : Int32) (x2 : Int32) (x4 : Int32) (s0 : Int32) (s1 : Int32) : Option (Int32 × MS) :=
    ob1 (fX7_flag s0) fun v1 =>
    zlet ((s1 + v1)) fun y2 =>
    zlet (x4 + (1 : Int32)) fun y3 =>
    k37 M x1 x2 y2 y3
set_option maxRecDepth 100000 in
set_option maxHeartbeats 4000000 in
theorem wfX7_store_b65 {X : zX} {A B : zH} {out : Int32 × MS} (C : zOK X cX7_store yX7_store.cls 6 (some .int) 1 25) (E : zPost X (poI out.1 (hG A out.2 B))) (k37 : MS → Int32 → Int32 → Int32 → Int32 → Option (Int32 × MS)) (hk37 : ∀ (M : MS) (x1 : Int32) (x2 : Int32) (x3 : Int32) (x4 : Int32), k37 M x1 x2 x3 x4 = some out → zZ X 37 [(0, .ref A.length), (1, .int x1), (2, .int x2), (3, .int x3), (4, .int x4)] [] (hG A M B)) (M : MS) (x1 : Int32) (x2 : Int32) (x4 : Int32) (s0 : Int32) (s1 : Int32) (h : fX7_store_b65 k37 M x1 x2 x4 s0 s1 = some out) : zZ X 65 [(0, .ref A.length), (1, .int x1), (2, .int x2), (4, .int x4)] [.int s0, .int s1] (hG A M B) := by
  rw [fX7_store_b65] at h
  obtain ⟨v1, ev1, h⟩ := ob1_eq h
  refine z_callSi (As := [.int s0]) (rest := [.int s1]) (pc := 65) C dX7_store_65 ml_X7_119 (kX7_flag _ _ _ _ (hG A M B) s0 v1 ev1) rfl rfl (Nat.le_of_ble_eq_true rfl) (by decide) ?_
  refine z_iadd (pc := 68) C dX7_store_68 ?_
  obtain ⟨y2, ey2, h⟩ := zlet_eq h
  refine z_topi ey2 ?_
  refine z_istore_n (pc := 69) C dX7_store_69 rfl (by decide) (show zput _ _ _ = [(3, .int y2), (0, .ref A.length), (1, .int x1), (2, .int x2), (4, .int x4)] from rfl) ?_
  obtain ⟨y3, ey3, h⟩ := zlet_eq h
  refine z_iinc (pc := 70) (v := y3) C 4 dX7_store_70 rfl (by rw [ey3]; rfl) (by decide) (show zput _ _ _ = [(4, .int y3), (3, .int y2), (0, .ref A.length), (1, .int x1), (2, .int x2)] from rfl) ?_
  refine z_goto (pc := 73) C dX7_store_73 (tgt := 37) (by decide) ?_
  exact z_subL [2, 3, 4, 1, 0] (hk37 M x1 x2 y2 y3 h) rfl
def fX7_store_b37 : Nat → MS → Int32 → Int32 → Int32 → Int32 → Option (Int32 × MS)
  | 0, _, _, _, _, _ => none
  | n + 1, M, x1, x2, x3, x4 =>
    ob1 (fX7_storeMany M x1) fun v1 =>
    if v1 ≤ x4 then (fX7_store_b76 M x1 x2 x3) else
    ob1 (fX7_ofStore M x1 x4) fun v3 =>
    if v3 = (10 : Int32) then (fX7_store_b65 (fX7_store_b37 n) M x1 x2 x4 (1 : Int32) x3) else
    fX7_store_b65 (fX7_store_b37 n) M x1 x2 x4 (0 : Int32) x3
set_option maxRecDepth 100000 in
set_option maxHeartbeats 4000000 in
theorem wfX7_store_b37 {X : zX} {A B : zH} {out : Int32 × MS} (C : zOK X cX7_store yX7_store.cls 6 (some .int) 1 25) (E : zPost X (poI out.1 (hG A out.2 B))) : ∀ (n : Nat) (M : MS) (x1 : Int32) (x2 : Int32) (x3 : Int32) (x4 : Int32) (h : fX7_store_b37 n M x1 x2 x3 x4 = some out), zZ X 37 [(0, .ref A.length), (1, .int x1), (2, .int x2), (3, .int x3), (4, .int x4)] [] (hG A M B) := by
  intro n
  induction n with
  | zero => intro M x1 x2 x3 x4 h; cases h
  | succ n ih =>
    intro M x1 x2 x3 x4 h
    rw [fX7_store_b37] at h
    refine z_iload (pc := 37) C 4 dX7_store_37 rfl ?_
    refine z_aload_n (pc := 39) C 0 dX7_store_39 rfl rfl ?_
    refine z_iload_n (pc := 40) C 1 dX7_store_40 rfl rfl ?_
    obtain ⟨v1, ev1, h⟩ := ob1_eq h
    refine z_callVi (h := A.length) (As := [.int x1]) (rest := [.int x4]) (pc := 41) C dX7_store_41 ml_X7_199 (kX7_storeMany _ _ _ _ A M B x1 v1 ev1) (hM_o A M B) rfl rfl rfl (Nat.le_of_ble_eq_true rfl) (by decide) ?_
    refine z_ic_ge (pc := 44) C dX7_store_44 (tgt := 76) (by decide) (fun c2 => ?_) (fun c2 => ?_)
    · rw [if_pos c2] at h
      exact z_subL [0, 1, 2, 3] (wfX7_store_b76 C E M x1 x2 x3 h) rfl
    · rw [if_neg c2] at h
      refine z_iload_n (pc := 47) C 3 dX7_store_47 rfl rfl ?_
      refine z_aload_n (pc := 48) C 0 dX7_store_48 rfl rfl ?_
      refine z_iload_n (pc := 49) C 1 dX7_store_49 rfl rfl ?_
      refine z_iload (pc := 50) C 4 dX7_store_50 rfl ?_
      obtain ⟨v3, ev3, h⟩ := ob1_eq h
      refine z_callVi (h := A.length) (As := [.int x1, .int x4]) (rest := [.int x3]) (pc := 52) C dX7_store_52 ml_X7_115 (kX7_ofStore _ _ _ _ A M B x1 x4 v3 ev3) (hM_o A M B) rfl rfl rfl (Nat.le_of_ble_eq_true rfl) (by decide) ?_
      refine z_bipush (pc := 55) C dX7_store_55 (v := (10 : Int32)) (by decide) ?_
      refine z_ic_ne (pc := 57) C dX7_store_57 (tgt := 64) (by decide) (fun c4 => ?_) (fun c4 => ?_)
      · rw [if_neg c4] at h
        refine z_iconst (pc := 64) C dX7_store_64 (v := (0 : Int32)) (by decide) ?_
        exact z_subL [0, 1, 2, 4] (wfX7_store_b65 C E (fX7_store_b37 n) ih M x1 x2 x4 (0 : Int32) x3 h) rfl
      · rw [if_pos c4] at h
        refine z_iconst (pc := 60) C dX7_store_60 (v := (1 : Int32)) (by decide) ?_
        refine z_goto (pc := 61) C dX7_store_61 (tgt := 65) (by decide) ?_
        exact z_subL [0, 1, 2, 4] (wfX7_store_b65 C E (fX7_store_b37 n) ih M x1 x2 x4 (1 : Int32) x3 h) rfl
def fX7_store_b27 (M : MS) : Option (Int32 × MS) :=
    ob2 (fX7_refuse M ) fun v2 M1 =>
    some (v2, M1)
set_option maxRecDepth 100000 in
set_option maxHeartbeats 4000000 in
theorem wfX7_store_b27 {X : zX} {A B : zH} {out : Int32 × MS} (C : zOK X cX7_store yX7_store.cls 6 (some .int) 1 25) (E : zPost X (poI out.1 (hG A out.2 B))) (M : MS) (h : fX7_store_b27 M = some out) : zZ X 27 [(0, .ref A.length)] [] (hG A M B) := by
  rw [fX7_store_b27] at h
  refine z_aload_n (pc := 27) C 0 dX7_store_27 rfl rfl ?_
  obtain ⟨v2, M1, ev2, h⟩ := ob2_eq h
  refine z_callVi (h := A.length) (As := []) (rest := []) (pc := 28) C dX7_store_28 ml_X7_196 (kX7_refuse _ _ _ _ A M B  (v2, M1) ev2) (hM_o A M B) rfl rfl rfl (Nat.le_of_ble_eq_true rfl) (by decide) ?_
  obtain rfl := Option.some.inj h
  exact z_iret (pc := 31) C E dX7_store_31 ⟨rfl, rfl⟩
def fX7_store (M : MS) (x1 : Int32) (x2 : Int32) : Option (Int32 × MS) :=
    zlet (mI M 0 (0 : Int32)) fun M1 =>
    ob1 (fX7_in x1.toInt64 (0 : Int64) (1 : Int64)) fun v2 =>
    if v2 = 0 then (fX7_store_b27 M1) else
    ob1 (fX7_in x2.toInt64 (0 : Int64) (2 : Int64)) fun v4 =>
    if v4 = 0 then (fX7_store_b27 M1) else
    fX7_store_b37 FU M1 x1 x2 (0 : Int32) (0 : Int32)
set_option maxRecDepth 100000 in
set_option maxHeartbeats 4000000 in
theorem wfX7_store {X : zX} {A B : zH} {out : Int32 × MS} (C : zOK X cX7_store yX7_store.cls 6 (some .int) 1 25) (E : zPost X (poI out.1 (hG A out.2 B))) (M : MS) (x1 : Int32) (x2 : Int32) (h : fX7_store M x1 x2 = some out) : zZ X 0 [(0, .ref A.length), (1, .int x1), (2, .int x2)] [] (hG A M B) := by
  rw [fX7_store] at h
  refine z_aload_n (pc := 0) C 0 dX7_store_0 rfl rfl ?_
  refine z_iconst (pc := 1) C dX7_store_1 (v := (0 : Int32)) (by decide) ?_
  obtain ⟨M1, eM1, h⟩ := zlet_eq h
  refine z_put (pc := 2) C dX7_store_2 fl_X7_1w (hM_o A M B) (fun _ => rfl) (fun _ => rfl) (Nat.le_of_ble_eq_true rfl) (hMi_0 A B eM1) ?_
  refine z_iload_n (pc := 5) C 1 dX7_store_5 rfl rfl ?_
  refine z_i2l (pc := 6) C dX7_store_6 ?_
  refine z_lconst (pc := 7) C dX7_store_7 (v := (0 : Int64)) (by decide) ?_
  refine z_lconst (pc := 8) C dX7_store_8 (v := (1 : Int64)) (by decide) ?_
  obtain ⟨v2, ev2, h⟩ := ob1_eq h
  refine z_callSi (As := [.long x1.toInt64, .long (0 : Int64), .long (1 : Int64)]) (rest := []) (pc := 9) C dX7_store_9 ml_X7_21 (kX7_in _ _ _ _ (hG A M1 B) x1.toInt64 (0 : Int64) (1 : Int64) v2 ev2) rfl rfl (Nat.le_of_ble_eq_true rfl) (by decide) ?_
  refine z_if_eq (pc := 12) C dX7_store_12 (tgt := 27) (by decide) (fun c3 => ?_) (fun c3 => ?_)
  · rw [if_pos c3] at h
    exact z_subL [0] (wfX7_store_b27 C E M1 h) rfl
  · rw [if_neg c3] at h
    refine z_iload_n (pc := 15) C 2 dX7_store_15 rfl rfl ?_
    refine z_i2l (pc := 16) C dX7_store_16 ?_
    refine z_lconst (pc := 17) C dX7_store_17 (v := (0 : Int64)) (by decide) ?_
    refine z_ldc2 (pc := 18) C dX7_store_18 cn_X7_194 ?_
    obtain ⟨v4, ev4, h⟩ := ob1_eq h
    refine z_callSi (As := [.long x2.toInt64, .long (0 : Int64), .long (2 : Int64)]) (rest := []) (pc := 21) C dX7_store_21 ml_X7_21 (kX7_in _ _ _ _ (hG A M1 B) x2.toInt64 (0 : Int64) (2 : Int64) v4 ev4) rfl rfl (Nat.le_of_ble_eq_true rfl) (by decide) ?_
    refine z_if_ne (pc := 24) C dX7_store_24 (tgt := 32) (by decide) (fun c5 => ?_) (fun c5 => ?_)
    · rw [if_neg c5] at h
      refine z_iconst (pc := 32) C dX7_store_32 (v := (0 : Int32)) (by decide) ?_
      refine z_istore_n (pc := 33) C dX7_store_33 rfl (by decide) (show zput _ _ _ = [(3, .int (0 : Int32)), (0, .ref A.length), (1, .int x1), (2, .int x2)] from rfl) ?_
      refine z_iconst (pc := 34) C dX7_store_34 (v := (0 : Int32)) (by decide) ?_
      refine z_istore (pc := 35) C dX7_store_35 (by decide) (show zput _ _ _ = [(4, .int (0 : Int32)), (3, .int (0 : Int32)), (0, .ref A.length), (1, .int x1), (2, .int x2)] from rfl) ?_
      exact z_subL [2, 3, 4, 1, 0] (wfX7_store_b37 C E FU M1 x1 x2 (0 : Int32) (0 : Int32) h) rfl
    · rw [if_pos c5] at h
      exact z_subL [0] (wfX7_store_b27 C E M1 h) rfl
theorem kX7_store (l : Launch) (D : va_G) (cA : Nat → ClassId) (b : Nat) (A : zH) (M : MS) (B : zH) (x1 : Int32) (x2 : Int32) (out : Int32 × MS) (h : fX7_store M x1 x2 = some out) : zM l D cA b yX7_store cX7_store 6 (some .int) 1 25 [.ref A.length, .int x1, .int x2] (hG A M B) (poI out.1 (hG A out.2 B)) := z_entry rfl (Nat.le_of_ble_eq_true rfl) (fun X C E _ _ _ => wfX7_store C E M x1 x2 h)
def fX7_typesIn (M : MS) (x1 : Int32) (x2 : Int32) : Option (Int32 × MS) :=
    ob1 (fX7_isPlace M x1) fun v1 =>
    if v1 = 0 then (some ((-2 : Int32), M)) else
    if (M.1 11) = (3000 : Int32) then (some ((-3 : Int32), M)) else
    if (M.1 9) = (6000 : Int32) then (some ((-4 : Int32), M)) else
    ob1 (fX7_goesOn M x1) fun v5 =>
    ob1 (wr 6000 (M.1 9) (mA M 7 (upd (M.2.1 7) (M.1 9).toNatClampNeg x2))) fun M6 =>
    zlet (mI M6 9 ((M6.1 9) + (1 : Int32))) fun M7 =>
    ob1 (fX7_comesIn M7 x1 ((M7.1 9) - (1 : Int32)) (1 : Int32) v5) fun M8 =>
    some ((M8.1 11), M8)
set_option maxRecDepth 100000 in
set_option maxHeartbeats 4000000 in
theorem wfX7_typesIn {X : zX} {A B : zH} {out : Int32 × MS} (C : zOK X cX7_typesIn yX7_typesIn.cls 4 (some .int) 4 88) (E : zPost X (poI out.1 (hG A out.2 B))) (M : MS) (x1 : Int32) (x2 : Int32) (h : fX7_typesIn M x1 x2 = some out) : zZ X 0 [(0, .ref A.length), (1, .int x1), (2, .int x2)] [] (hG A M B) := by
  rw [fX7_typesIn] at h
  refine z_aload_n (pc := 0) C 0 dX7_typesIn_0 rfl rfl ?_
  refine z_iload_n (pc := 1) C 1 dX7_typesIn_1 rfl rfl ?_
  obtain ⟨v1, ev1, h⟩ := ob1_eq h
  refine z_callVi (h := A.length) (As := [.int x1]) (rest := []) (pc := 2) C dX7_typesIn_2 ml_X7_202 (kX7_isPlace _ _ _ _ A M B x1 v1 ev1) (hM_o A M B) rfl rfl rfl (Nat.le_of_ble_eq_true rfl) (by decide) ?_
  refine z_if_ne (pc := 5) C dX7_typesIn_5 (tgt := 11) (by decide) (fun c2 => ?_) (fun c2 => ?_)
  · rw [if_neg c2] at h
    refine z_aload_n (pc := 11) C 0 dX7_typesIn_11 rfl rfl ?_
    refine z_get (pc := 12) C dX7_typesIn_12 fl_X7_123 (hM_o A M B) rfl ?_
    refine z_sipush (pc := 15) C dX7_typesIn_15 (v := (3000 : Int32)) (by decide) ?_
    refine z_ic_ne (pc := 18) C dX7_typesIn_18 (tgt := 24) (by decide) (fun c3 => ?_) (fun c3 => ?_)
    · rw [if_neg c3] at h
      refine z_aload_n (pc := 24) C 0 dX7_typesIn_24 rfl rfl ?_
      refine z_get (pc := 25) C dX7_typesIn_25 fl_X7_33 (hM_o A M B) rfl ?_
      refine z_sipush (pc := 28) C dX7_typesIn_28 (v := (6000 : Int32)) (by decide) ?_
      refine z_ic_ne (pc := 31) C dX7_typesIn_31 (tgt := 37) (by decide) (fun c4 => ?_) (fun c4 => ?_)
      · rw [if_neg c4] at h
        refine z_aload_n (pc := 37) C 0 dX7_typesIn_37 rfl rfl ?_
        refine z_iload_n (pc := 38) C 1 dX7_typesIn_38 rfl rfl ?_
        obtain ⟨v5, ev5, h⟩ := ob1_eq h
        refine z_callVi (h := A.length) (As := [.int x1]) (rest := []) (pc := 39) C dX7_typesIn_39 ml_X7_150 (kX7_goesOn _ _ _ _ A M B x1 v5 ev5) (hM_o A M B) rfl rfl rfl (Nat.le_of_ble_eq_true rfl) (by decide) ?_
        refine z_istore_n (pc := 42) C dX7_typesIn_42 rfl (by decide) (show zput _ _ _ = [(3, .int v5), (0, .ref A.length), (1, .int x1), (2, .int x2)] from rfl) ?_
        refine z_aload_n (pc := 43) C 1 dX7_typesIn_43 rfl rfl ?_
        refine z_get (pc := 44) C dX7_typesIn_44 fl_X7_39 (hM_o A M B) rfl ?_
        refine z_aload_n (pc := 47) C 1 dX7_typesIn_47 rfl rfl ?_
        refine z_get (pc := 48) C dX7_typesIn_48 fl_X7_33 (hM_o A M B) rfl ?_
        refine z_iload_n (pc := 51) C 3 dX7_typesIn_51 rfl rfl ?_
        obtain ⟨M6, eM6, h⟩ := ob1_eq h
        refine z_iast (pc := 52) C dX7_typesIn_52 (hMa_7 A M B) (wr_eq eM6).1 (hMs_7 A B (wr_eq eM6).2) ?_
        refine z_aload_n (pc := 53) C 1 dX7_typesIn_53 rfl rfl ?_
        refine z_dup (pc := 54) C dX7_typesIn_54 rfl ?_
        refine z_get (pc := 55) C dX7_typesIn_55 fl_X7_33 (hM_o A M6 B) rfl ?_
        refine z_iconst (pc := 58) C dX7_typesIn_58 (v := (1 : Int32)) (by decide) ?_
        refine z_iadd (pc := 59) C dX7_typesIn_59 ?_
        obtain ⟨M7, eM7, h⟩ := zlet_eq h
        refine z_put (pc := 60) C dX7_typesIn_60 fl_X7_33w (hM_o A M6 B) (fun _ => rfl) (fun _ => rfl) (Nat.le_of_ble_eq_true rfl) (hMi_9 A B eM7) ?_
        refine z_aload_n (pc := 63) C 1 dX7_typesIn_63 rfl rfl ?_
        refine z_iload_n (pc := 64) C 2 dX7_typesIn_64 rfl rfl ?_
        refine z_aload_n (pc := 65) C 1 dX7_typesIn_65 rfl rfl ?_
        refine z_get (pc := 66) C dX7_typesIn_66 fl_X7_33 (hM_o A M7 B) rfl ?_
        refine z_iconst (pc := 69) C dX7_typesIn_69 (v := (1 : Int32)) (by decide) ?_
        refine z_isub (pc := 70) C dX7_typesIn_70 ?_
        refine z_iconst (pc := 71) C dX7_typesIn_71 (v := (1 : Int32)) (by decide) ?_
        refine z_iload_n (pc := 72) C 0 dX7_typesIn_72 rfl rfl ?_
        obtain ⟨M8, eM8, h⟩ := ob1_eq h
        refine z_callVv (h := A.length) (As := [.int x1, .int ((M7.1 9) - (1 : Int32)), .int (1 : Int32), .int v5]) (rest := []) (pc := 73) C dX7_typesIn_73 ml_X7_153 (kX7_comesIn _ _ _ _ A M7 B x1 ((M7.1 9) - (1 : Int32)) (1 : Int32) v5 M8 eM8) (hM_o A M7 B) rfl rfl rfl (Nat.le_of_ble_eq_true rfl) (by decide) ?_
        refine z_aload_n (pc := 76) C 1 dX7_typesIn_76 rfl rfl ?_
        refine z_get (pc := 77) C dX7_typesIn_77 fl_X7_123 (hM_o A M8 B) rfl ?_
        obtain rfl := Option.some.inj h
        exact z_iret (pc := 80) C E dX7_typesIn_80 ⟨rfl, rfl⟩
      · rw [if_pos c4] at h
        refine z_bipush (pc := 34) C dX7_typesIn_34 (v := (-4 : Int32)) (by decide) ?_
        obtain rfl := Option.some.inj h
        exact z_iret (pc := 36) C E dX7_typesIn_36 ⟨rfl, rfl⟩
    · rw [if_pos c3] at h
      refine z_bipush (pc := 21) C dX7_typesIn_21 (v := (-3 : Int32)) (by decide) ?_
      obtain rfl := Option.some.inj h
      exact z_iret (pc := 23) C E dX7_typesIn_23 ⟨rfl, rfl⟩
  · rw [if_pos c2] at h
    refine z_bipush (pc := 8) C dX7_typesIn_8 (v := (-2 : Int32)) (by decide) ?_
    obtain rfl := Option.some.inj h
    exact z_iret (pc := 10) C E dX7_typesIn_10 ⟨rfl, rfl⟩
theorem kX7_typesIn (l : Launch) (D : va_G) (cA : Nat → ClassId) (b : Nat) (A : zH) (M : MS) (B : zH) (x1 : Int32) (x2 : Int32) (out : Int32 × MS) (h : fX7_typesIn M x1 x2 = some out) : zM l D cA b yX7_typesIn cX7_typesIn 4 (some .int) 4 88 [.ref A.length, .int x1, .int x2] (hG A M B) (poI out.1 (hG A out.2 B)) := z_entry rfl (Nat.le_of_ble_eq_true rfl) (fun X C E _ _ _ => wfX7_typesIn C E M x1 x2 h)
def fX7_isHealable (M : MS) (x1 : Int32) : Option Int32 :=
    if x1 ≤ 0 then (some (0 : Int32)) else
    ob1 (fX7_begins M x1) fun v2 =>
    if v2 = 0 then (some (0 : Int32)) else
    ob1 (fX7_storeAt M x1) fun v4 =>
    ob1 (fX7_storeAt M (x1 - (1 : Int32))) fun v5 =>
    if v4 = v5 then (ob1 (fX7_placeAt M x1) fun v7 =>
    ob1 (fX7_placeAt M (x1 - (1 : Int32))) fun v8 =>
    if v7 = (v8 + (1 : Int32)) then (some (1 : Int32)) else
    some (0 : Int32)) else
    some (0 : Int32)
set_option maxRecDepth 100000 in
set_option maxHeartbeats 4000000 in
theorem wfX7_isHealable {X : zX} {A B : zH} {M : MS} {out : Int32} (C : zOK X cX7_isHealable yX7_isHealable.cls 2 (some .boolean) 1 21) (E : zPost X (poI out (hG A M B))) (x1 : Int32) (h : fX7_isHealable M x1 = some out) : zZ X 0 [(0, .ref A.length), (1, .int x1)] [] (hG A M B) := by
  rw [fX7_isHealable] at h
  refine z_iload_n (pc := 0) C 1 dX7_isHealable_0 rfl rfl ?_
  refine z_if_le (pc := 1) C dX7_isHealable_1 (tgt := 48) (by decide) (fun c1 => ?_) (fun c1 => ?_)
  · rw [if_pos c1] at h
    refine z_iconst (pc := 48) C dX7_isHealable_48 (v := (0 : Int32)) (by decide) ?_
    obtain rfl := Option.some.inj h
    exact z_zret (pc := 49) C E dX7_isHealable_49 rfl ⟨rfl, rfl⟩
  · rw [if_neg c1] at h
    refine z_aload_n (pc := 4) C 0 dX7_isHealable_4 rfl rfl ?_
    refine z_iload_n (pc := 5) C 1 dX7_isHealable_5 rfl rfl ?_
    obtain ⟨v2, ev2, h⟩ := ob1_eq h
    refine z_callVi (h := A.length) (As := [.int x1]) (rest := []) (pc := 6) C dX7_isHealable_6 ml_X7_130 (kX7_begins _ _ _ _ A M B x1 v2 ev2) (hM_o A M B) rfl rfl rfl (Nat.le_of_ble_eq_true rfl) (by decide) ?_
    refine z_if_eq (pc := 9) C dX7_isHealable_9 (tgt := 48) (by decide) (fun c3 => ?_) (fun c3 => ?_)
    · rw [if_pos c3] at h
      refine z_iconst (pc := 48) C dX7_isHealable_48 (v := (0 : Int32)) (by decide) ?_
      obtain rfl := Option.some.inj h
      exact z_zret (pc := 49) C E dX7_isHealable_49 rfl ⟨rfl, rfl⟩
    · rw [if_neg c3] at h
      refine z_aload_n (pc := 12) C 0 dX7_isHealable_12 rfl rfl ?_
      refine z_iload_n (pc := 13) C 1 dX7_isHealable_13 rfl rfl ?_
      obtain ⟨v4, ev4, h⟩ := ob1_eq h
      refine z_callVi (h := A.length) (As := [.int x1]) (rest := []) (pc := 14) C dX7_isHealable_14 ml_X7_108 (kX7_storeAt _ _ _ _ A M B x1 v4 ev4) (hM_o A M B) rfl rfl rfl (Nat.le_of_ble_eq_true rfl) (by decide) ?_
      refine z_aload_n (pc := 17) C 0 dX7_isHealable_17 rfl rfl ?_
      refine z_iload_n (pc := 18) C 1 dX7_isHealable_18 rfl rfl ?_
      refine z_iconst (pc := 19) C dX7_isHealable_19 (v := (1 : Int32)) (by decide) ?_
      refine z_isub (pc := 20) C dX7_isHealable_20 ?_
      obtain ⟨v5, ev5, h⟩ := ob1_eq h
      refine z_callVi (h := A.length) (As := [.int (x1 - (1 : Int32))]) (rest := [.int v4]) (pc := 21) C dX7_isHealable_21 ml_X7_108 (kX7_storeAt _ _ _ _ A M B (x1 - (1 : Int32)) v5 ev5) (hM_o A M B) rfl rfl rfl (Nat.le_of_ble_eq_true rfl) (by decide) ?_
      refine z_ic_ne (pc := 24) C dX7_isHealable_24 (tgt := 48) (by decide) (fun c6 => ?_) (fun c6 => ?_)
      · rw [if_neg c6] at h
        refine z_iconst (pc := 48) C dX7_isHealable_48 (v := (0 : Int32)) (by decide) ?_
        obtain rfl := Option.some.inj h
        exact z_zret (pc := 49) C E dX7_isHealable_49 rfl ⟨rfl, rfl⟩
      · rw [if_pos c6] at h
        refine z_aload_n (pc := 27) C 0 dX7_isHealable_27 rfl rfl ?_
        refine z_iload_n (pc := 28) C 1 dX7_isHealable_28 rfl rfl ?_
        obtain ⟨v7, ev7, h⟩ := ob1_eq h
        refine z_callVi (h := A.length) (As := [.int x1]) (rest := []) (pc := 29) C dX7_isHealable_29 ml_X7_112 (kX7_placeAt _ _ _ _ A M B x1 v7 ev7) (hM_o A M B) rfl rfl rfl (Nat.le_of_ble_eq_true rfl) (by decide) ?_
        refine z_aload_n (pc := 32) C 0 dX7_isHealable_32 rfl rfl ?_
        refine z_iload_n (pc := 33) C 1 dX7_isHealable_33 rfl rfl ?_
        refine z_iconst (pc := 34) C dX7_isHealable_34 (v := (1 : Int32)) (by decide) ?_
        refine z_isub (pc := 35) C dX7_isHealable_35 ?_
        obtain ⟨v8, ev8, h⟩ := ob1_eq h
        refine z_callVi (h := A.length) (As := [.int (x1 - (1 : Int32))]) (rest := [.int v7]) (pc := 36) C dX7_isHealable_36 ml_X7_112 (kX7_placeAt _ _ _ _ A M B (x1 - (1 : Int32)) v8 ev8) (hM_o A M B) rfl rfl rfl (Nat.le_of_ble_eq_true rfl) (by decide) ?_
        refine z_iconst (pc := 39) C dX7_isHealable_39 (v := (1 : Int32)) (by decide) ?_
        refine z_iadd (pc := 40) C dX7_isHealable_40 ?_
        refine z_ic_ne (pc := 41) C dX7_isHealable_41 (tgt := 48) (by decide) (fun c9 => ?_) (fun c9 => ?_)
        · rw [if_neg c9] at h
          refine z_iconst (pc := 48) C dX7_isHealable_48 (v := (0 : Int32)) (by decide) ?_
          obtain rfl := Option.some.inj h
          exact z_zret (pc := 49) C E dX7_isHealable_49 rfl ⟨rfl, rfl⟩
        · rw [if_pos c9] at h
          refine z_iconst (pc := 44) C dX7_isHealable_44 (v := (1 : Int32)) (by decide) ?_
          refine z_goto (pc := 45) C dX7_isHealable_45 (tgt := 49) (by decide) ?_
          obtain rfl := Option.some.inj h
          exact z_zret (pc := 49) C E dX7_isHealable_49 rfl ⟨rfl, rfl⟩
theorem kX7_isHealable (l : Launch) (D : va_G) (cA : Nat → ClassId) (b : Nat) (A : zH) (M : MS) (B : zH) (x1 : Int32) (out : Int32) (h : fX7_isHealable M x1 = some out) : zM l D cA b yX7_isHealable cX7_isHealable 2 (some .boolean) 1 21 [.ref A.length, .int x1] (hG A M B) (poI out (hG A M B)) := z_entry rfl (Nat.le_of_ble_eq_true rfl) (fun X C E _ _ _ => wfX7_isHealable C E x1 h)
def fX7_healables_b4 (M : MS) : Nat → Int32 → Int32 → Option Int32
  | 0, _, _ => none
  | n + 1, x1, x2 =>
    if (M.1 11) ≤ x2 then (some x1) else
    ob1 (fX7_isHealable M x2) fun v2 =>
    ob1 (fX7_flag v2) fun v3 =>
    zlet ((x1 + v3)) fun y4 =>
    zlet (x2 + (1 : Int32)) fun y5 =>
    (fX7_healables_b4 M n) y4 y5
set_option maxRecDepth 100000 in
set_option maxHeartbeats 4000000 in
theorem wfX7_healables_b4 {X : zX} {A B : zH} {M : MS} {out : Int32} (C : zOK X cX7_healables yX7_healables.cls 3 (some .int) 2 42) (E : zPost X (poI out (hG A M B))) : ∀ (n : Nat) (x1 : Int32) (x2 : Int32) (h : fX7_healables_b4 M n x1 x2 = some out), zZ X 4 [(0, .ref A.length), (1, .int x1), (2, .int x2)] [] (hG A M B) := by
  intro n
  induction n with
  | zero => intro x1 x2 h; cases h
  | succ n ih =>
    intro x1 x2 h
    rw [fX7_healables_b4] at h
    refine z_iload_n (pc := 4) C 2 dX7_healables_4 rfl rfl ?_
    refine z_aload_n (pc := 5) C 0 dX7_healables_5 rfl rfl ?_
    refine z_get (pc := 6) C dX7_healables_6 fl_X7_123 (hM_o A M B) rfl ?_
    refine z_ic_ge (pc := 9) C dX7_healables_9 (tgt := 29) (by decide) (fun c1 => ?_) (fun c1 => ?_)
    · rw [if_pos c1] at h
      refine z_iload_n (pc := 29) C 1 dX7_healables_29 rfl rfl ?_
      obtain rfl := Option.some.inj h
      exact z_iret (pc := 30) C E dX7_healables_30 ⟨rfl, rfl⟩
    · rw [if_neg c1] at h
      refine z_iload_n (pc := 12) C 1 dX7_healables_12 rfl rfl ?_
      refine z_aload_n (pc := 13) C 0 dX7_healables_13 rfl rfl ?_
      refine z_iload_n (pc := 14) C 2 dX7_healables_14 rfl rfl ?_
      obtain ⟨v2, ev2, h⟩ := ob1_eq h
      refine z_callVi (h := A.length) (As := [.int x2]) (rest := [.int x1]) (pc := 15) C dX7_healables_15 ml_X7_236 (kX7_isHealable _ _ _ _ A M B x2 v2 ev2) (hM_o A M B) rfl rfl rfl (Nat.le_of_ble_eq_true rfl) (by decide) ?_
      obtain ⟨v3, ev3, h⟩ := ob1_eq h
      refine z_callSi (As := [.int v2]) (rest := [.int x1]) (pc := 18) C dX7_healables_18 ml_X7_119 (kX7_flag _ _ _ _ (hG A M B) v2 v3 ev3) rfl rfl (Nat.le_of_ble_eq_true rfl) (by decide) ?_
      refine z_iadd (pc := 21) C dX7_healables_21 ?_
      obtain ⟨y4, ey4, h⟩ := zlet_eq h
      refine z_topi ey4 ?_
      refine z_istore_n (pc := 22) C dX7_healables_22 rfl (by decide) (show zput _ _ _ = [(1, .int y4), (0, .ref A.length), (2, .int x2)] from rfl) ?_
      obtain ⟨y5, ey5, h⟩ := zlet_eq h
      refine z_iinc (pc := 23) (v := y5) C 2 dX7_healables_23 rfl (by rw [ey5]; rfl) (by decide) (show zput _ _ _ = [(2, .int y5), (1, .int y4), (0, .ref A.length)] from rfl) ?_
      refine z_goto (pc := 26) C dX7_healables_26 (tgt := 4) (by decide) ?_
      exact z_subL [2, 1, 0] (ih y4 y5 h) rfl
def fX7_healables (M : MS) : Option Int32 :=
    fX7_healables_b4 M FU (0 : Int32) (0 : Int32)
set_option maxRecDepth 100000 in
set_option maxHeartbeats 4000000 in
theorem wfX7_healables {X : zX} {A B : zH} {M : MS} {out : Int32} (C : zOK X cX7_healables yX7_healables.cls 3 (some .int) 2 42) (E : zPost X (poI out (hG A M B))) (h : fX7_healables M = some out) : zZ X 0 [(0, .ref A.length)] [] (hG A M B) := by
  rw [fX7_healables] at h
  refine z_iconst (pc := 0) C dX7_healables_0 (v := (0 : Int32)) (by decide) ?_
  refine z_istore_n (pc := 1) C dX7_healables_1 rfl (by decide) (show zput _ _ _ = [(1, .int (0 : Int32)), (0, .ref A.length)] from rfl) ?_
  refine z_iconst (pc := 2) C dX7_healables_2 (v := (0 : Int32)) (by decide) ?_
  refine z_istore_n (pc := 3) C dX7_healables_3 rfl (by decide) (show zput _ _ _ = [(2, .int (0 : Int32)), (1, .int (0 : Int32)), (0, .ref A.length)] from rfl) ?_
  exact z_subL [2, 1, 0] (wfX7_healables_b4 C E FU (0 : Int32) (0 : Int32) h) rfl
theorem kX7_healables (l : Launch) (D : va_G) (cA : Nat → ClassId) (b : Nat) (A : zH) (M : MS) (B : zH)  (out : Int32) (h : fX7_healables M = some out) : zM l D cA b yX7_healables cX7_healables 3 (some .int) 2 42 [.ref A.length] (hG A M B) (poI out (hG A M B)) := z_entry rfl (Nat.le_of_ble_eq_true rfl) (fun X C E _ _ _ => wfX7_healables C E h)
def fX7_breaksAhead_b25 (M : MS) (k4 : Int32 → Int32 → Int32 → Option Int32) (x1 : Int32) (x3 : Int32) (s0 : Int32) (s1 : Int32) : Option Int32 :=
    ob1 (fX7_flag s0) fun v1 =>
    zlet ((s1 + v1)) fun y2 =>
    zlet (x3 + (1 : Int32)) fun y3 =>
    k4 x1 y2 y3
set_option maxRecDepth 100000 in
set_option maxHeartbeats 4000000 in
theorem wfX7_breaksAhead_b25 {X : zX} {A B : zH} {M : MS} {out : Int32} (C : zOK X cX7_breaksAhead yX7_breaksAhead.cls 4 (some .int) 2 43) (E : zPost X (poI out (hG A M B))) (k4 : Int32 → Int32 → Int32 → Option Int32) (hk4 : ∀ (x1 : Int32) (x2 : Int32) (x3 : Int32), k4 x1 x2 x3 = some out → zZ X 4 [(0, .ref A.length), (1, .int x1), (2, .int x2), (3, .int x3)] [] (hG A M B)) (x1 : Int32) (x3 : Int32) (s0 : Int32) (s1 : Int32) (h : fX7_breaksAhead_b25 M k4 x1 x3 s0 s1 = some out) : zZ X 25 [(0, .ref A.length), (1, .int x1), (3, .int x3)] [.int s0, .int s1] (hG A M B) := by
  rw [fX7_breaksAhead_b25] at h
  obtain ⟨v1, ev1, h⟩ := ob1_eq h
  refine z_callSi (As := [.int s0]) (rest := [.int s1]) (pc := 25) C dX7_breaksAhead_25 ml_X7_119 (kX7_flag _ _ _ _ (hG A M B) s0 v1 ev1) rfl rfl (Nat.le_of_ble_eq_true rfl) (by decide) ?_
  refine z_iadd (pc := 28) C dX7_breaksAhead_28 ?_
  obtain ⟨y2, ey2, h⟩ := zlet_eq h
  refine z_topi ey2 ?_
  refine z_istore_n (pc := 29) C dX7_breaksAhead_29 rfl (by decide) (show zput _ _ _ = [(2, .int y2), (0, .ref A.length), (1, .int x1), (3, .int x3)] from rfl) ?_
  obtain ⟨y3, ey3, h⟩ := zlet_eq h
  refine z_iinc (pc := 30) (v := y3) C 3 dX7_breaksAhead_30 rfl (by rw [ey3]; rfl) (by decide) (show zput _ _ _ = [(3, .int y3), (2, .int y2), (0, .ref A.length), (1, .int x1)] from rfl) ?_
  refine z_goto (pc := 33) C dX7_breaksAhead_33 (tgt := 4) (by decide) ?_
  exact z_subL [2, 3, 1, 0] (hk4 x1 y2 y3 h) rfl
def fX7_breaksAhead_b4 (M : MS) : Nat → Int32 → Int32 → Int32 → Option Int32
  | 0, _, _, _ => none
  | n + 1, x1, x2, x3 =>
    if x1 ≤ x3 then (some x2) else
    ob1 (fX7_signAt M x3) fun v2 =>
    if v2 = (10 : Int32) then (fX7_breaksAhead_b25 M (fX7_breaksAhead_b4 M n) x1 x3 (1 : Int32) x2) else
    fX7_breaksAhead_b25 M (fX7_breaksAhead_b4 M n) x1 x3 (0 : Int32) x2
set_option maxRecDepth 100000 in
set_option maxHeartbeats 4000000 in
theorem wfX7_breaksAhead_b4 {X : zX} {A B : zH} {M : MS} {out : Int32} (C : zOK X cX7_breaksAhead yX7_breaksAhead.cls 4 (some .int) 2 43) (E : zPost X (poI out (hG A M B))) : ∀ (n : Nat) (x1 : Int32) (x2 : Int32) (x3 : Int32) (h : fX7_breaksAhead_b4 M n x1 x2 x3 = some out), zZ X 4 [(0, .ref A.length), (1, .int x1), (2, .int x2), (3, .int x3)] [] (hG A M B) := by
  intro n
  induction n with
  | zero => intro x1 x2 x3 h; cases h
  | succ n ih =>
    intro x1 x2 x3 h
    rw [fX7_breaksAhead_b4] at h
    refine z_iload_n (pc := 4) C 3 dX7_breaksAhead_4 rfl rfl ?_
    refine z_iload_n (pc := 5) C 1 dX7_breaksAhead_5 rfl rfl ?_
    refine z_ic_ge (pc := 6) C dX7_breaksAhead_6 (tgt := 36) (by decide) (fun c1 => ?_) (fun c1 => ?_)
    · rw [if_pos c1] at h
      refine z_iload_n (pc := 36) C 2 dX7_breaksAhead_36 rfl rfl ?_
      obtain rfl := Option.some.inj h
      exact z_iret (pc := 37) C E dX7_breaksAhead_37 ⟨rfl, rfl⟩
    · rw [if_neg c1] at h
      refine z_iload_n (pc := 9) C 2 dX7_breaksAhead_9 rfl rfl ?_
      refine z_aload_n (pc := 10) C 0 dX7_breaksAhead_10 rfl rfl ?_
      refine z_iload_n (pc := 11) C 3 dX7_breaksAhead_11 rfl rfl ?_
      obtain ⟨v2, ev2, h⟩ := ob1_eq h
      refine z_callVi (h := A.length) (As := [.int x3]) (rest := [.int x2]) (pc := 12) C dX7_breaksAhead_12 ml_X7_157 (kX7_signAt _ _ _ _ A M B x3 v2 ev2) (hM_o A M B) rfl rfl rfl (Nat.le_of_ble_eq_true rfl) (by decide) ?_
      refine z_bipush (pc := 15) C dX7_breaksAhead_15 (v := (10 : Int32)) (by decide) ?_
      refine z_ic_ne (pc := 17) C dX7_breaksAhead_17 (tgt := 24) (by decide) (fun c3 => ?_) (fun c3 => ?_)
      · rw [if_neg c3] at h
        refine z_iconst (pc := 24) C dX7_breaksAhead_24 (v := (0 : Int32)) (by decide) ?_
        exact z_subL [0, 1, 3] (wfX7_breaksAhead_b25 C E (fX7_breaksAhead_b4 M n) ih x1 x3 (0 : Int32) x2 h) rfl
      · rw [if_pos c3] at h
        refine z_iconst (pc := 20) C dX7_breaksAhead_20 (v := (1 : Int32)) (by decide) ?_
        refine z_goto (pc := 21) C dX7_breaksAhead_21 (tgt := 25) (by decide) ?_
        exact z_subL [0, 1, 3] (wfX7_breaksAhead_b25 C E (fX7_breaksAhead_b4 M n) ih x1 x3 (1 : Int32) x2 h) rfl
def fX7_breaksAhead (M : MS) (x1 : Int32) : Option Int32 :=
    fX7_breaksAhead_b4 M FU x1 (0 : Int32) (0 : Int32)
set_option maxRecDepth 100000 in
set_option maxHeartbeats 4000000 in
theorem wfX7_breaksAhead {X : zX} {A B : zH} {M : MS} {out : Int32} (C : zOK X cX7_breaksAhead yX7_breaksAhead.cls 4 (some .int) 2 43) (E : zPost X (poI out (hG A M B))) (x1 : Int32) (h : fX7_breaksAhead M x1 = some out) : zZ X 0 [(0, .ref A.length), (1, .int x1)] [] (hG A M B) := by
  rw [fX7_breaksAhead] at h
  refine z_iconst (pc := 0) C dX7_breaksAhead_0 (v := (0 : Int32)) (by decide) ?_
  refine z_istore_n (pc := 1) C dX7_breaksAhead_1 rfl (by decide) (show zput _ _ _ = [(2, .int (0 : Int32)), (0, .ref A.length), (1, .int x1)] from rfl) ?_
  refine z_iconst (pc := 2) C dX7_breaksAhead_2 (v := (0 : Int32)) (by decide) ?_
  refine z_istore_n (pc := 3) C dX7_breaksAhead_3 rfl (by decide) (show zput _ _ _ = [(3, .int (0 : Int32)), (2, .int (0 : Int32)), (0, .ref A.length), (1, .int x1)] from rfl) ?_
  exact z_subL [2, 3, 1, 0] (wfX7_breaksAhead_b4 C E FU x1 (0 : Int32) (0 : Int32) h) rfl
theorem kX7_breaksAhead (l : Launch) (D : va_G) (cA : Nat → ClassId) (b : Nat) (A : zH) (M : MS) (B : zH) (x1 : Int32) (out : Int32) (h : fX7_breaksAhead M x1 = some out) : zM l D cA b yX7_breaksAhead cX7_breaksAhead 4 (some .int) 2 43 [.ref A.length, .int x1] (hG A M B) (poI out (hG A M B)) := z_entry rfl (Nat.le_of_ble_eq_true rfl) (fun X C E _ _ _ => wfX7_breaksAhead C E x1 h)
def fX7_lines (M : MS) : Option Int32 :=
    ob1 (fX7_breaksAhead M (M.1 11)) fun v1 =>
    some (v1 + (1 : Int32))
set_option maxRecDepth 100000 in
set_option maxHeartbeats 4000000 in
theorem wfX7_lines {X : zX} {A B : zH} {M : MS} {out : Int32} (C : zOK X cX7_lines yX7_lines.cls 1 (some .int) 3 66) (E : zPost X (poI out (hG A M B))) (h : fX7_lines M = some out) : zZ X 0 [(0, .ref A.length)] [] (hG A M B) := by
  rw [fX7_lines] at h
  refine z_aload_n (pc := 0) C 0 dX7_lines_0 rfl rfl ?_
  refine z_aload_n (pc := 1) C 0 dX7_lines_1 rfl rfl ?_
  refine z_get (pc := 2) C dX7_lines_2 fl_X7_123 (hM_o A M B) rfl ?_
  obtain ⟨v1, ev1, h⟩ := ob1_eq h
  refine z_callVi (h := A.length) (As := [.int (M.1 11)]) (rest := []) (pc := 5) C dX7_lines_5 ml_X7_304 (kX7_breaksAhead _ _ _ _ A M B (M.1 11) v1 ev1) (hM_o A M B) rfl rfl rfl (Nat.le_of_ble_eq_true rfl) (by decide) ?_
  refine z_iconst (pc := 8) C dX7_lines_8 (v := (1 : Int32)) (by decide) ?_
  refine z_iadd (pc := 9) C dX7_lines_9 ?_
  obtain rfl := Option.some.inj h
  exact z_iret (pc := 10) C E dX7_lines_10 ⟨rfl, rfl⟩
theorem kX7_lines (l : Launch) (D : va_G) (cA : Nat → ClassId) (b : Nat) (A : zH) (M : MS) (B : zH)  (out : Int32) (h : fX7_lines M = some out) : zM l D cA b yX7_lines cX7_lines 1 (some .int) 3 66 [.ref A.length] (hG A M B) (poI out (hG A M B)) := z_entry rfl (Nat.le_of_ble_eq_true rfl) (fun X C E _ _ _ => wfX7_lines C E h)
def fX7_startOf_b24 (M : MS) (k4 : Int32 → Int32 → Option Int32) (x2 : Int32) (s0 : Int32) (s1 : Int32) : Option Int32 :=
    ob1 (fX7_flag s0) fun v1 =>
    zlet ((s1 - v1)) fun y2 =>
    zlet (x2 + (1 : Int32)) fun y3 =>
    k4 y3 y2
set_option maxRecDepth 100000 in
set_option maxHeartbeats 4000000 in
theorem wfX7_startOf_b24 {X : zX} {A B : zH} {M : MS} {out : Int32} (C : zOK X cX7_startOf yX7_startOf.cls 4 (some .int) 2 43) (E : zPost X (poI out (hG A M B))) (k4 : Int32 → Int32 → Option Int32) (hk4 : ∀ (x2 : Int32) (x3 : Int32), k4 x2 x3 = some out → zZ X 4 [(0, .ref A.length), (2, .int x2), (3, .int x3)] [] (hG A M B)) (x2 : Int32) (s0 : Int32) (s1 : Int32) (h : fX7_startOf_b24 M k4 x2 s0 s1 = some out) : zZ X 24 [(0, .ref A.length), (2, .int x2)] [.int s0, .int s1] (hG A M B) := by
  rw [fX7_startOf_b24] at h
  obtain ⟨v1, ev1, h⟩ := ob1_eq h
  refine z_callSi (As := [.int s0]) (rest := [.int s1]) (pc := 24) C dX7_startOf_24 ml_X7_119 (kX7_flag _ _ _ _ (hG A M B) s0 v1 ev1) rfl rfl (Nat.le_of_ble_eq_true rfl) (by decide) ?_
  refine z_isub (pc := 27) C dX7_startOf_27 ?_
  obtain ⟨y2, ey2, h⟩ := zlet_eq h
  refine z_topi ey2 ?_
  refine z_istore_n (pc := 28) C dX7_startOf_28 rfl (by decide) (show zput _ _ _ = [(3, .int y2), (0, .ref A.length), (2, .int x2)] from rfl) ?_
  obtain ⟨y3, ey3, h⟩ := zlet_eq h
  refine z_iinc (pc := 29) (v := y3) C 2 dX7_startOf_29 rfl (by rw [ey3]; rfl) (by decide) (show zput _ _ _ = [(2, .int y3), (3, .int y2), (0, .ref A.length)] from rfl) ?_
  refine z_goto (pc := 32) C dX7_startOf_32 (tgt := 4) (by decide) ?_
  exact z_subL [2, 0, 1] (hk4 y3 y2 h) rfl
def fX7_startOf_b4 (M : MS) : Nat → Int32 → Int32 → Option Int32
  | 0, _, _ => none
  | n + 1, x2, x3 =>
    if x3 ≤ 0 then (some x2) else
    ob1 (fX7_signAt M x2) fun v2 =>
    if v2 = (10 : Int32) then (fX7_startOf_b24 M (fX7_startOf_b4 M n) x2 (1 : Int32) x3) else
    fX7_startOf_b24 M (fX7_startOf_b4 M n) x2 (0 : Int32) x3
set_option maxRecDepth 100000 in
set_option maxHeartbeats 4000000 in
theorem wfX7_startOf_b4 {X : zX} {A B : zH} {M : MS} {out : Int32} (C : zOK X cX7_startOf yX7_startOf.cls 4 (some .int) 2 43) (E : zPost X (poI out (hG A M B))) : ∀ (n : Nat) (x2 : Int32) (x3 : Int32) (h : fX7_startOf_b4 M n x2 x3 = some out), zZ X 4 [(0, .ref A.length), (2, .int x2), (3, .int x3)] [] (hG A M B) := by
  intro n
  induction n with
  | zero => intro x2 x3 h; cases h
  | succ n ih =>
    intro x2 x3 h
    rw [fX7_startOf_b4] at h
    refine z_iload_n (pc := 4) C 2 dX7_startOf_4 rfl rfl ?_
    refine z_if_le (pc := 5) C dX7_startOf_5 (tgt := 35) (by decide) (fun c1 => ?_) (fun c1 => ?_)
    · rw [if_pos c1] at h
      refine z_iload_n (pc := 35) C 1 dX7_startOf_35 rfl rfl ?_
      obtain rfl := Option.some.inj h
      exact z_iret (pc := 36) C E dX7_startOf_36 ⟨rfl, rfl⟩
    · rw [if_neg c1] at h
      refine z_iload_n (pc := 8) C 2 dX7_startOf_8 rfl rfl ?_
      refine z_aload_n (pc := 9) C 0 dX7_startOf_9 rfl rfl ?_
      refine z_iload_n (pc := 10) C 1 dX7_startOf_10 rfl rfl ?_
      obtain ⟨v2, ev2, h⟩ := ob1_eq h
      refine z_callVi (h := A.length) (As := [.int x2]) (rest := [.int x3]) (pc := 11) C dX7_startOf_11 ml_X7_157 (kX7_signAt _ _ _ _ A M B x2 v2 ev2) (hM_o A M B) rfl rfl rfl (Nat.le_of_ble_eq_true rfl) (by decide) ?_
      refine z_bipush (pc := 14) C dX7_startOf_14 (v := (10 : Int32)) (by decide) ?_
      refine z_ic_ne (pc := 16) C dX7_startOf_16 (tgt := 23) (by decide) (fun c3 => ?_) (fun c3 => ?_)
      · rw [if_neg c3] at h
        refine z_iconst (pc := 23) C dX7_startOf_23 (v := (0 : Int32)) (by decide) ?_
        exact z_subL [0, 1] (wfX7_startOf_b24 C E (fX7_startOf_b4 M n) ih x2 (0 : Int32) x3 h) rfl
      · rw [if_pos c3] at h
        refine z_iconst (pc := 19) C dX7_startOf_19 (v := (1 : Int32)) (by decide) ?_
        refine z_goto (pc := 20) C dX7_startOf_20 (tgt := 24) (by decide) ?_
        exact z_subL [0, 1] (wfX7_startOf_b24 C E (fX7_startOf_b4 M n) ih x2 (1 : Int32) x3 h) rfl
def fX7_startOf (M : MS) (x1 : Int32) : Option Int32 :=
    fX7_startOf_b4 M FU (0 : Int32) x1
set_option maxRecDepth 100000 in
set_option maxHeartbeats 4000000 in
theorem wfX7_startOf {X : zX} {A B : zH} {M : MS} {out : Int32} (C : zOK X cX7_startOf yX7_startOf.cls 4 (some .int) 2 43) (E : zPost X (poI out (hG A M B))) (x1 : Int32) (h : fX7_startOf M x1 = some out) : zZ X 0 [(0, .ref A.length), (1, .int x1)] [] (hG A M B) := by
  rw [fX7_startOf] at h
  refine z_iconst (pc := 0) C dX7_startOf_0 (v := (0 : Int32)) (by decide) ?_
  refine z_istore_n (pc := 1) C dX7_startOf_1 rfl (by decide) (show zput _ _ _ = [(2, .int (0 : Int32)), (0, .ref A.length), (1, .int x1)] from rfl) ?_
  refine z_iload_n (pc := 2) C 2 dX7_startOf_2 rfl rfl ?_
  refine z_istore_n (pc := 3) C dX7_startOf_3 rfl (by decide) (show zput _ _ _ = [(3, .int x1), (2, .int (0 : Int32)), (0, .ref A.length), (1, .int x1)] from rfl) ?_
  exact z_subL [2, 1, 0] (wfX7_startOf_b4 C E FU (0 : Int32) x1 h) rfl
theorem kX7_startOf (l : Launch) (D : va_G) (cA : Nat → ClassId) (b : Nat) (A : zH) (M : MS) (B : zH) (x1 : Int32) (out : Int32) (h : fX7_startOf M x1 = some out) : zM l D cA b yX7_startOf cX7_startOf 4 (some .int) 2 43 [.ref A.length, .int x1] (hG A M B) (poI out (hG A M B)) := z_entry rfl (Nat.le_of_ble_eq_true rfl) (fun X C E _ _ _ => wfX7_startOf C E x1 h)
def fX7_endFrom_b2 (M : MS) : Nat → Int32 → Option Int32
  | 0, _ => none
  | n + 1, x2 =>
    if (M.1 11) ≤ x2 then (some x2) else
    ob1 (fX7_signAt M x2) fun v2 =>
    if v2 = (10 : Int32) then (some x2) else
    zlet (x2 + (1 : Int32)) fun y4 =>
    (fX7_endFrom_b2 M n) y4
set_option maxRecDepth 100000 in
set_option maxHeartbeats 4000000 in
theorem wfX7_endFrom_b2 {X : zX} {A B : zH} {M : MS} {out : Int32} (C : zOK X cX7_endFrom yX7_endFrom.cls 3 (some .int) 2 43) (E : zPost X (poI out (hG A M B))) : ∀ (n : Nat) (x2 : Int32) (h : fX7_endFrom_b2 M n x2 = some out), zZ X 2 [(0, .ref A.length), (2, .int x2)] [] (hG A M B) := by
  intro n
  induction n with
  | zero => intro x2 h; cases h
  | succ n ih =>
    intro x2 h
    rw [fX7_endFrom_b2] at h
    refine z_iload_n (pc := 2) C 1 dX7_endFrom_2 rfl rfl ?_
    refine z_aload_n (pc := 3) C 0 dX7_endFrom_3 rfl rfl ?_
    refine z_get (pc := 4) C dX7_endFrom_4 fl_X7_123 (hM_o A M B) rfl ?_
    refine z_ic_ge (pc := 7) C dX7_endFrom_7 (tgt := 26) (by decide) (fun c1 => ?_) (fun c1 => ?_)
    · rw [if_pos c1] at h
      refine z_iload_n (pc := 26) C 1 dX7_endFrom_26 rfl rfl ?_
      obtain rfl := Option.some.inj h
      exact z_iret (pc := 27) C E dX7_endFrom_27 ⟨rfl, rfl⟩
    · rw [if_neg c1] at h
      refine z_aload_n (pc := 10) C 0 dX7_endFrom_10 rfl rfl ?_
      refine z_iload_n (pc := 11) C 1 dX7_endFrom_11 rfl rfl ?_
      obtain ⟨v2, ev2, h⟩ := ob1_eq h
      refine z_callVi (h := A.length) (As := [.int x2]) (rest := []) (pc := 12) C dX7_endFrom_12 ml_X7_157 (kX7_signAt _ _ _ _ A M B x2 v2 ev2) (hM_o A M B) rfl rfl rfl (Nat.le_of_ble_eq_true rfl) (by decide) ?_
      refine z_bipush (pc := 15) C dX7_endFrom_15 (v := (10 : Int32)) (by decide) ?_
      refine z_ic_eq (pc := 17) C dX7_endFrom_17 (tgt := 26) (by decide) (fun c3 => ?_) (fun c3 => ?_)
      · rw [if_pos c3] at h
        refine z_iload_n (pc := 26) C 1 dX7_endFrom_26 rfl rfl ?_
        obtain rfl := Option.some.inj h
        exact z_iret (pc := 27) C E dX7_endFrom_27 ⟨rfl, rfl⟩
      · rw [if_neg c3] at h
        obtain ⟨y4, ey4, h⟩ := zlet_eq h
        refine z_iinc (pc := 20) (v := y4) C 1 dX7_endFrom_20 rfl (by rw [ey4]; rfl) (by decide) (show zput _ _ _ = [(2, .int y4), (0, .ref A.length)] from rfl) ?_
        refine z_goto (pc := 23) C dX7_endFrom_23 (tgt := 2) (by decide) ?_
        exact z_subL [1, 0] (ih y4 h) rfl
def fX7_endFrom (M : MS) (x1 : Int32) : Option Int32 :=
    fX7_endFrom_b2 M FU x1
set_option maxRecDepth 100000 in
set_option maxHeartbeats 4000000 in
theorem wfX7_endFrom {X : zX} {A B : zH} {M : MS} {out : Int32} (C : zOK X cX7_endFrom yX7_endFrom.cls 3 (some .int) 2 43) (E : zPost X (poI out (hG A M B))) (x1 : Int32) (h : fX7_endFrom M x1 = some out) : zZ X 0 [(0, .ref A.length), (1, .int x1)] [] (hG A M B) := by
  rw [fX7_endFrom] at h
  refine z_iload_n (pc := 0) C 1 dX7_endFrom_0 rfl rfl ?_
  refine z_istore_n (pc := 1) C dX7_endFrom_1 rfl (by decide) (show zput _ _ _ = [(2, .int x1), (0, .ref A.length), (1, .int x1)] from rfl) ?_
  exact z_subL [1, 0] (wfX7_endFrom_b2 C E FU x1 h) rfl
theorem kX7_endFrom (l : Launch) (D : va_G) (cA : Nat → ClassId) (b : Nat) (A : zH) (M : MS) (B : zH) (x1 : Int32) (out : Int32) (h : fX7_endFrom M x1 = some out) : zM l D cA b yX7_endFrom cX7_endFrom 3 (some .int) 2 43 [.ref A.length, .int x1] (hG A M B) (poI out (hG A M B)) := z_entry rfl (Nat.le_of_ble_eq_true rfl) (fun X C E _ _ _ => wfX7_endFrom C E x1 h)
def fX7_marks_b46 (M : MS) (x1 : Int32) (x2 : Int32) (x3 : Int32) : Option (Int32 × MS) :=
    ob1 (wr 8 x1 (mA M 12 (upd (M.2.1 12) x1.toNatClampNeg x2))) fun M1 =>
    ob1 (wr 8 x1 (mA M1 13 (upd (M1.2.1 13) x1.toNatClampNeg x3))) fun M2 =>
    zlet (mI M2 21 (-5 : Int32)) fun M3 =>
    some (x2, M3)
set_option maxRecDepth 100000 in
set_option maxHeartbeats 4000000 in
theorem wfX7_marks_b46 {X : zX} {A B : zH} {out : Int32 × MS} (C : zOK X cX7_marks yX7_marks.cls 4 (some .int) 2 46) (E : zPost X (poI out.1 (hG A out.2 B))) (M : MS) (x1 : Int32) (x2 : Int32) (x3 : Int32) (h : fX7_marks_b46 M x1 x2 x3 = some out) : zZ X 46 [(0, .ref A.length), (1, .int x1), (2, .int x2), (3, .int x3)] [] (hG A M B) := by
  rw [fX7_marks_b46] at h
  refine z_aload_n (pc := 46) C 0 dX7_marks_46 rfl rfl ?_
  refine z_get (pc := 47) C dX7_marks_47 fl_X7_51 (hM_o A M B) rfl ?_
  refine z_iload_n (pc := 50) C 1 dX7_marks_50 rfl rfl ?_
  refine z_iload_n (pc := 51) C 2 dX7_marks_51 rfl rfl ?_
  obtain ⟨M1, eM1, h⟩ := ob1_eq h
  refine z_iast (pc := 52) C dX7_marks_52 (hMa_12 A M B) (wr_eq eM1).1 (hMs_12 A B (wr_eq eM1).2) ?_
  refine z_aload_n (pc := 53) C 0 dX7_marks_53 rfl rfl ?_
  refine z_get (pc := 54) C dX7_marks_54 fl_X7_54 (hM_o A M1 B) rfl ?_
  refine z_iload_n (pc := 57) C 1 dX7_marks_57 rfl rfl ?_
  refine z_iload_n (pc := 58) C 3 dX7_marks_58 rfl rfl ?_
  obtain ⟨M2, eM2, h⟩ := ob1_eq h
  refine z_iast (pc := 59) C dX7_marks_59 (hMa_13 A M1 B) (wr_eq eM2).1 (hMs_13 A B (wr_eq eM2).2) ?_
  refine z_aload_n (pc := 60) C 0 dX7_marks_60 rfl rfl ?_
  refine z_bipush (pc := 61) C dX7_marks_61 (v := (-5 : Int32)) (by decide) ?_
  obtain ⟨M3, eM3, h⟩ := zlet_eq h
  refine z_put (pc := 63) C dX7_marks_63 fl_X7_74w (hM_o A M2 B) (fun _ => rfl) (fun _ => rfl) (Nat.le_of_ble_eq_true rfl) (hMi_21 A B eM3) ?_
  refine z_iload_n (pc := 66) C 2 dX7_marks_66 rfl rfl ?_
  obtain rfl := Option.some.inj h
  exact z_iret (pc := 67) C E dX7_marks_67 ⟨rfl, rfl⟩
def fX7_marks (M : MS) (x1 : Int32) (x2 : Int32) (x3 : Int32) : Option (Int32 × MS) :=
    zlet (mI M 0 (0 : Int32)) fun M1 =>
    ob1 (fX7_in x1.toInt64 (0 : Int64) (7 : Int64)) fun v2 =>
    if v2 = 0 then (some ((-3 : Int32), M1)) else
    ob1 (fX7_in x3.toInt64 (0 : Int64) (1 : Int64)) fun v4 =>
    if v4 = 0 then (some ((-3 : Int32), M1)) else
    if x2 = (-1 : Int32) then (fX7_marks_b46 M1 x1 x2 x3) else
    ob1 (fX7_isPlace M1 x2) fun v7 =>
    if v7 = 0 then (some ((-2 : Int32), M1)) else
    fX7_marks_b46 M1 x1 x2 x3
set_option maxRecDepth 100000 in
set_option maxHeartbeats 4000000 in
theorem wfX7_marks {X : zX} {A B : zH} {out : Int32 × MS} (C : zOK X cX7_marks yX7_marks.cls 4 (some .int) 2 46) (E : zPost X (poI out.1 (hG A out.2 B))) (M : MS) (x1 : Int32) (x2 : Int32) (x3 : Int32) (h : fX7_marks M x1 x2 x3 = some out) : zZ X 0 [(0, .ref A.length), (1, .int x1), (2, .int x2), (3, .int x3)] [] (hG A M B) := by
  rw [fX7_marks] at h
  refine z_aload_n (pc := 0) C 0 dX7_marks_0 rfl rfl ?_
  refine z_iconst (pc := 1) C dX7_marks_1 (v := (0 : Int32)) (by decide) ?_
  obtain ⟨M1, eM1, h⟩ := zlet_eq h
  refine z_put (pc := 2) C dX7_marks_2 fl_X7_1w (hM_o A M B) (fun _ => rfl) (fun _ => rfl) (Nat.le_of_ble_eq_true rfl) (hMi_0 A B eM1) ?_
  refine z_iload_n (pc := 5) C 1 dX7_marks_5 rfl rfl ?_
  refine z_i2l (pc := 6) C dX7_marks_6 ?_
  refine z_lconst (pc := 7) C dX7_marks_7 (v := (0 : Int64)) (by decide) ?_
  refine z_ldc2 (pc := 8) C dX7_marks_8 cn_X7_256 ?_
  obtain ⟨v2, ev2, h⟩ := ob1_eq h
  refine z_callSi (As := [.long x1.toInt64, .long (0 : Int64), .long (7 : Int64)]) (rest := []) (pc := 11) C dX7_marks_11 ml_X7_21 (kX7_in _ _ _ _ (hG A M1 B) x1.toInt64 (0 : Int64) (7 : Int64) v2 ev2) rfl rfl (Nat.le_of_ble_eq_true rfl) (by decide) ?_
  refine z_if_eq (pc := 14) C dX7_marks_14 (tgt := 27) (by decide) (fun c3 => ?_) (fun c3 => ?_)
  · rw [if_pos c3] at h
    refine z_bipush (pc := 27) C dX7_marks_27 (v := (-3 : Int32)) (by decide) ?_
    obtain rfl := Option.some.inj h
    exact z_iret (pc := 29) C E dX7_marks_29 ⟨rfl, rfl⟩
  · rw [if_neg c3] at h
    refine z_iload_n (pc := 17) C 3 dX7_marks_17 rfl rfl ?_
    refine z_i2l (pc := 18) C dX7_marks_18 ?_
    refine z_lconst (pc := 19) C dX7_marks_19 (v := (0 : Int64)) (by decide) ?_
    refine z_lconst (pc := 20) C dX7_marks_20 (v := (1 : Int64)) (by decide) ?_
    obtain ⟨v4, ev4, h⟩ := ob1_eq h
    refine z_callSi (As := [.long x3.toInt64, .long (0 : Int64), .long (1 : Int64)]) (rest := []) (pc := 21) C dX7_marks_21 ml_X7_21 (kX7_in _ _ _ _ (hG A M1 B) x3.toInt64 (0 : Int64) (1 : Int64) v4 ev4) rfl rfl (Nat.le_of_ble_eq_true rfl) (by decide) ?_
    refine z_if_ne (pc := 24) C dX7_marks_24 (tgt := 30) (by decide) (fun c5 => ?_) (fun c5 => ?_)
    · rw [if_neg c5] at h
      refine z_iload_n (pc := 30) C 2 dX7_marks_30 rfl rfl ?_
      refine z_iconst (pc := 31) C dX7_marks_31 (v := (-1 : Int32)) (by decide) ?_
      refine z_ic_eq (pc := 32) C dX7_marks_32 (tgt := 46) (by decide) (fun c6 => ?_) (fun c6 => ?_)
      · rw [if_pos c6] at h
        exact z_subL [0, 1, 2, 3] (wfX7_marks_b46 C E M1 x1 x2 x3 h) rfl
      · rw [if_neg c6] at h
        refine z_aload_n (pc := 35) C 0 dX7_marks_35 rfl rfl ?_
        refine z_iload_n (pc := 36) C 2 dX7_marks_36 rfl rfl ?_
        obtain ⟨v7, ev7, h⟩ := ob1_eq h
        refine z_callVi (h := A.length) (As := [.int x2]) (rest := []) (pc := 37) C dX7_marks_37 ml_X7_202 (kX7_isPlace _ _ _ _ A M1 B x2 v7 ev7) (hM_o A M1 B) rfl rfl rfl (Nat.le_of_ble_eq_true rfl) (by decide) ?_
        refine z_if_ne (pc := 40) C dX7_marks_40 (tgt := 46) (by decide) (fun c8 => ?_) (fun c8 => ?_)
        · rw [if_neg c8] at h
          exact z_subL [0, 1, 2, 3] (wfX7_marks_b46 C E M1 x1 x2 x3 h) rfl
        · rw [if_pos c8] at h
          refine z_bipush (pc := 43) C dX7_marks_43 (v := (-2 : Int32)) (by decide) ?_
          obtain rfl := Option.some.inj h
          exact z_iret (pc := 45) C E dX7_marks_45 ⟨rfl, rfl⟩
    · rw [if_pos c5] at h
      refine z_bipush (pc := 27) C dX7_marks_27 (v := (-3 : Int32)) (by decide) ?_
      obtain rfl := Option.some.inj h
      exact z_iret (pc := 29) C E dX7_marks_29 ⟨rfl, rfl⟩
theorem kX7_marks (l : Launch) (D : va_G) (cA : Nat → ClassId) (b : Nat) (A : zH) (M : MS) (B : zH) (x1 : Int32) (x2 : Int32) (x3 : Int32) (out : Int32 × MS) (h : fX7_marks M x1 x2 x3 = some out) : zM l D cA b yX7_marks cX7_marks 4 (some .int) 2 46 [.ref A.length, .int x1, .int x2, .int x3] (hG A M B) (poI out.1 (hG A out.2 B)) := z_entry rfl (Nat.le_of_ble_eq_true rfl) (fun X C E _ _ _ => wfX7_marks C E M x1 x2 x3 h)
def fX7_digits_b4 : Nat → MS → Int32 → Int32 → Int32 → Option (Int32 × MS)
  | 0, _, _, _, _ => none
  | n + 1, M, x1, x2, x3 =>
    if x1 ≤ x3 then (some (x2, M)) else
    if (M.1 5) ≤ (M.1 30) then (some ((-1 : Int32), M)) else
    ob1 (rd 80 (M.2.1 3) (M.1 30)) fun v3 =>
    ob1 (fX7_in v3.toInt64 (48 : Int64) (57 : Int64)) fun v4 =>
    if v4 = 0 then (some ((-1 : Int32), M)) else
    ob1 (rd 80 (M.2.1 3) (M.1 30)) fun v6 =>
    zlet (((((10 : Int32) * x2) + v6) - (48 : Int32))) fun y7 =>
    zlet (mI M 30 ((M.1 30) + (1 : Int32))) fun M8 =>
    zlet (x3 + (1 : Int32)) fun y9 =>
    (fX7_digits_b4 n) M8 x1 y7 y9
set_option maxRecDepth 100000 in
set_option maxHeartbeats 4000000 in
theorem wfX7_digits_b4 {X : zX} {A B : zH} {out : Int32 × MS} (C : zOK X cX7_digits yX7_digits.cls 4 (some .int) 1 25) (E : zPost X (poI out.1 (hG A out.2 B))) : ∀ (n : Nat) (M : MS) (x1 : Int32) (x2 : Int32) (x3 : Int32) (h : fX7_digits_b4 n M x1 x2 x3 = some out), zZ X 4 [(0, .ref A.length), (1, .int x1), (2, .int x2), (3, .int x3)] [] (hG A M B) := by
  intro n
  induction n with
  | zero => intro M x1 x2 x3 h; cases h
  | succ n ih =>
    intro M x1 x2 x3 h
    rw [fX7_digits_b4] at h
    refine z_iload_n (pc := 4) C 3 dX7_digits_4 rfl rfl ?_
    refine z_iload_n (pc := 5) C 1 dX7_digits_5 rfl rfl ?_
    refine z_ic_ge (pc := 6) C dX7_digits_6 (tgt := 78) (by decide) (fun c1 => ?_) (fun c1 => ?_)
    · rw [if_pos c1] at h
      refine z_iload_n (pc := 78) C 2 dX7_digits_78 rfl rfl ?_
      obtain rfl := Option.some.inj h
      exact z_iret (pc := 79) C E dX7_digits_79 ⟨rfl, rfl⟩
    · rw [if_neg c1] at h
      refine z_aload_n (pc := 9) C 0 dX7_digits_9 rfl rfl ?_
      refine z_get (pc := 10) C dX7_digits_10 fl_X7_268 (hM_o A M B) rfl ?_
      refine z_aload_n (pc := 13) C 0 dX7_digits_13 rfl rfl ?_
      refine z_get (pc := 14) C dX7_digits_14 fl_X7_25 (hM_o A M B) rfl ?_
      refine z_ic_ge (pc := 17) C dX7_digits_17 (tgt := 42) (by decide) (fun c2 => ?_) (fun c2 => ?_)
      · rw [if_pos c2] at h
        refine z_iconst (pc := 42) C dX7_digits_42 (v := (-1 : Int32)) (by decide) ?_
        obtain rfl := Option.some.inj h
        exact z_iret (pc := 43) C E dX7_digits_43 ⟨rfl, rfl⟩
      · rw [if_neg c2] at h
        refine z_aload_n (pc := 20) C 0 dX7_digits_20 rfl rfl ?_
        refine z_get (pc := 21) C dX7_digits_21 fl_X7_17 (hM_o A M B) rfl ?_
        refine z_aload_n (pc := 24) C 0 dX7_digits_24 rfl rfl ?_
        refine z_get (pc := 25) C dX7_digits_25 fl_X7_268 (hM_o A M B) rfl ?_
        obtain ⟨v3, ev3, h⟩ := ob1_eq h
        refine z_iald (pc := 28) C dX7_digits_28 (hMa_3 A M B) (rd_eq ev3).1 (z_topi (rd_eq ev3).2 ?_)
        refine z_i2l (pc := 29) C dX7_digits_29 ?_
        refine z_ldc2 (pc := 30) C dX7_digits_30 cn_X7_271 ?_
        refine z_ldc2 (pc := 33) C dX7_digits_33 cn_X7_273 ?_
        obtain ⟨v4, ev4, h⟩ := ob1_eq h
        refine z_callSi (As := [.long v3.toInt64, .long (48 : Int64), .long (57 : Int64)]) (rest := []) (pc := 36) C dX7_digits_36 ml_X7_21 (kX7_in _ _ _ _ (hG A M B) v3.toInt64 (48 : Int64) (57 : Int64) v4 ev4) rfl rfl (Nat.le_of_ble_eq_true rfl) (by decide) ?_
        refine z_if_ne (pc := 39) C dX7_digits_39 (tgt := 44) (by decide) (fun c5 => ?_) (fun c5 => ?_)
        · rw [if_neg c5] at h
          refine z_bipush (pc := 44) C dX7_digits_44 (v := (10 : Int32)) (by decide) ?_
          refine z_iload_n (pc := 46) C 2 dX7_digits_46 rfl rfl ?_
          refine z_imul (pc := 47) C dX7_digits_47 ?_
          refine z_aload_n (pc := 48) C 0 dX7_digits_48 rfl rfl ?_
          refine z_get (pc := 49) C dX7_digits_49 fl_X7_17 (hM_o A M B) rfl ?_
          refine z_aload_n (pc := 52) C 0 dX7_digits_52 rfl rfl ?_
          refine z_get (pc := 53) C dX7_digits_53 fl_X7_268 (hM_o A M B) rfl ?_
          obtain ⟨v6, ev6, h⟩ := ob1_eq h
          refine z_iald (pc := 56) C dX7_digits_56 (hMa_3 A M B) (rd_eq ev6).1 (z_topi (rd_eq ev6).2 ?_)
          refine z_iadd (pc := 57) C dX7_digits_57 ?_
          refine z_bipush (pc := 58) C dX7_digits_58 (v := (48 : Int32)) (by decide) ?_
          refine z_isub (pc := 60) C dX7_digits_60 ?_
          obtain ⟨y7, ey7, h⟩ := zlet_eq h
          refine z_topi ey7 ?_
          refine z_istore_n (pc := 61) C dX7_digits_61 rfl (by decide) (show zput _ _ _ = [(2, .int y7), (0, .ref A.length), (1, .int x1), (3, .int x3)] from rfl) ?_
          refine z_aload_n (pc := 62) C 1 dX7_digits_62 rfl rfl ?_
          refine z_dup (pc := 63) C dX7_digits_63 rfl ?_
          refine z_get (pc := 64) C dX7_digits_64 fl_X7_268 (hM_o A M B) rfl ?_
          refine z_iconst (pc := 67) C dX7_digits_67 (v := (1 : Int32)) (by decide) ?_
          refine z_iadd (pc := 68) C dX7_digits_68 ?_
          obtain ⟨M8, eM8, h⟩ := zlet_eq h
          refine z_put (pc := 69) C dX7_digits_69 fl_X7_268w (hM_o A M B) (fun _ => rfl) (fun _ => rfl) (Nat.le_of_ble_eq_true rfl) (hMi_30 A B eM8) ?_
          obtain ⟨y9, ey9, h⟩ := zlet_eq h
          refine z_iinc (pc := 72) (v := y9) C 3 dX7_digits_72 rfl (by rw [ey9]; rfl) (by decide) (show zput _ _ _ = [(3, .int y9), (2, .int y7), (0, .ref A.length), (1, .int x1)] from rfl) ?_
          refine z_goto (pc := 75) C dX7_digits_75 (tgt := 4) (by decide) ?_
          exact z_subL [2, 3, 1, 0] (ih M8 x1 y7 y9 h) rfl
        · rw [if_pos c5] at h
          refine z_iconst (pc := 42) C dX7_digits_42 (v := (-1 : Int32)) (by decide) ?_
          obtain rfl := Option.some.inj h
          exact z_iret (pc := 43) C E dX7_digits_43 ⟨rfl, rfl⟩
def fX7_digits (M : MS) (x1 : Int32) : Option (Int32 × MS) :=
    fX7_digits_b4 FU M x1 (0 : Int32) (0 : Int32)
set_option maxRecDepth 100000 in
set_option maxHeartbeats 4000000 in
theorem wfX7_digits {X : zX} {A B : zH} {out : Int32 × MS} (C : zOK X cX7_digits yX7_digits.cls 4 (some .int) 1 25) (E : zPost X (poI out.1 (hG A out.2 B))) (M : MS) (x1 : Int32) (h : fX7_digits M x1 = some out) : zZ X 0 [(0, .ref A.length), (1, .int x1)] [] (hG A M B) := by
  rw [fX7_digits] at h
  refine z_iconst (pc := 0) C dX7_digits_0 (v := (0 : Int32)) (by decide) ?_
  refine z_istore_n (pc := 1) C dX7_digits_1 rfl (by decide) (show zput _ _ _ = [(2, .int (0 : Int32)), (0, .ref A.length), (1, .int x1)] from rfl) ?_
  refine z_iconst (pc := 2) C dX7_digits_2 (v := (0 : Int32)) (by decide) ?_
  refine z_istore_n (pc := 3) C dX7_digits_3 rfl (by decide) (show zput _ _ _ = [(3, .int (0 : Int32)), (2, .int (0 : Int32)), (0, .ref A.length), (1, .int x1)] from rfl) ?_
  exact z_subL [2, 3, 1, 0] (wfX7_digits_b4 C E FU M x1 (0 : Int32) (0 : Int32) h) rfl
theorem kX7_digits (l : Launch) (D : va_G) (cA : Nat → ClassId) (b : Nat) (A : zH) (M : MS) (B : zH) (x1 : Int32) (out : Int32 × MS) (h : fX7_digits M x1 = some out) : zM l D cA b yX7_digits cX7_digits 4 (some .int) 1 25 [.ref A.length, .int x1] (hG A M B) (poI out.1 (hG A out.2 B)) := z_entry rfl (Nat.le_of_ble_eq_true rfl) (fun X C E _ _ _ => wfX7_digits C E M x1 h)
def fX7_letter_b49 (M : MS) : Option (Int32 × MS) :=
    zlet (mI M 30 ((M.1 30) + (1 : Int32))) fun M1 =>
    ob1 (rd 80 (M1.2.1 3) ((M1.1 30) - (1 : Int32))) fun v2 =>
    if v2 = (47 : Int32) then (some ((10 : Int32), M1)) else
    ob1 (rd 80 (M1.2.1 3) ((M1.1 30) - (1 : Int32))) fun v4 =>
    some (v4, M1)
set_option maxRecDepth 100000 in
set_option maxHeartbeats 4000000 in
theorem wfX7_letter_b49 {X : zX} {A B : zH} {out : Int32 × MS} (C : zOK X cX7_letter yX7_letter.cls 1 (some .int) 1 25) (E : zPost X (poI out.1 (hG A out.2 B))) (M : MS) (h : fX7_letter_b49 M = some out) : zZ X 49 [(0, .ref A.length)] [] (hG A M B) := by
  rw [fX7_letter_b49] at h
  refine z_aload_n (pc := 49) C 0 dX7_letter_49 rfl rfl ?_
  refine z_dup (pc := 50) C dX7_letter_50 rfl ?_
  refine z_get (pc := 51) C dX7_letter_51 fl_X7_268 (hM_o A M B) rfl ?_
  refine z_iconst (pc := 54) C dX7_letter_54 (v := (1 : Int32)) (by decide) ?_
  refine z_iadd (pc := 55) C dX7_letter_55 ?_
  obtain ⟨M1, eM1, h⟩ := zlet_eq h
  refine z_put (pc := 56) C dX7_letter_56 fl_X7_268w (hM_o A M B) (fun _ => rfl) (fun _ => rfl) (Nat.le_of_ble_eq_true rfl) (hMi_30 A B eM1) ?_
  refine z_aload_n (pc := 59) C 0 dX7_letter_59 rfl rfl ?_
  refine z_get (pc := 60) C dX7_letter_60 fl_X7_17 (hM_o A M1 B) rfl ?_
  refine z_aload_n (pc := 63) C 0 dX7_letter_63 rfl rfl ?_
  refine z_get (pc := 64) C dX7_letter_64 fl_X7_268 (hM_o A M1 B) rfl ?_
  refine z_iconst (pc := 67) C dX7_letter_67 (v := (1 : Int32)) (by decide) ?_
  refine z_isub (pc := 68) C dX7_letter_68 ?_
  obtain ⟨v2, ev2, h⟩ := ob1_eq h
  refine z_iald (pc := 69) C dX7_letter_69 (hMa_3 A M1 B) (rd_eq ev2).1 (z_topi (rd_eq ev2).2 ?_)
  refine z_bipush (pc := 70) C dX7_letter_70 (v := (47 : Int32)) (by decide) ?_
  refine z_ic_ne (pc := 72) C dX7_letter_72 (tgt := 80) (by decide) (fun c3 => ?_) (fun c3 => ?_)
  · rw [if_neg c3] at h
    refine z_aload_n (pc := 80) C 0 dX7_letter_80 rfl rfl ?_
    refine z_get (pc := 81) C dX7_letter_81 fl_X7_17 (hM_o A M1 B) rfl ?_
    refine z_aload_n (pc := 84) C 0 dX7_letter_84 rfl rfl ?_
    refine z_get (pc := 85) C dX7_letter_85 fl_X7_268 (hM_o A M1 B) rfl ?_
    refine z_iconst (pc := 88) C dX7_letter_88 (v := (1 : Int32)) (by decide) ?_
    refine z_isub (pc := 89) C dX7_letter_89 ?_
    obtain ⟨v4, ev4, h⟩ := ob1_eq h
    refine z_iald (pc := 90) C dX7_letter_90 (hMa_3 A M1 B) (rd_eq ev4).1 (z_topi (rd_eq ev4).2 ?_)
    obtain rfl := Option.some.inj h
    exact z_iret (pc := 91) C E dX7_letter_91 ⟨rfl, rfl⟩
  · rw [if_pos c3] at h
    refine z_bipush (pc := 75) C dX7_letter_75 (v := (10 : Int32)) (by decide) ?_
    refine z_goto (pc := 77) C dX7_letter_77 (tgt := 91) (by decide) ?_
    obtain rfl := Option.some.inj h
    exact z_iret (pc := 91) C E dX7_letter_91 ⟨rfl, rfl⟩
def fX7_letter (M : MS) : Option (Int32 × MS) :=
    if (M.1 5) ≤ (M.1 30) then (some ((-1 : Int32), M)) else
    ob1 (rd 80 (M.2.1 3) (M.1 30)) fun v2 =>
    if v2 = (47 : Int32) then (fX7_letter_b49 M) else
    ob1 (rd 80 (M.2.1 3) (M.1 30)) fun v4 =>
    ob1 (fX7_in v4.toInt64 (97 : Int64) (122 : Int64)) fun v5 =>
    if v5 = 0 then (some ((-1 : Int32), M)) else
    fX7_letter_b49 M
set_option maxRecDepth 100000 in
set_option maxHeartbeats 4000000 in
theorem wfX7_letter {X : zX} {A B : zH} {out : Int32 × MS} (C : zOK X cX7_letter yX7_letter.cls 1 (some .int) 1 25) (E : zPost X (poI out.1 (hG A out.2 B))) (M : MS) (h : fX7_letter M = some out) : zZ X 0 [(0, .ref A.length)] [] (hG A M B) := by
  rw [fX7_letter] at h
  refine z_aload_n (pc := 0) C 0 dX7_letter_0 rfl rfl ?_
  refine z_get (pc := 1) C dX7_letter_1 fl_X7_268 (hM_o A M B) rfl ?_
  refine z_aload_n (pc := 4) C 0 dX7_letter_4 rfl rfl ?_
  refine z_get (pc := 5) C dX7_letter_5 fl_X7_25 (hM_o A M B) rfl ?_
  refine z_ic_ge (pc := 8) C dX7_letter_8 (tgt := 47) (by decide) (fun c1 => ?_) (fun c1 => ?_)
  · rw [if_pos c1] at h
    refine z_iconst (pc := 47) C dX7_letter_47 (v := (-1 : Int32)) (by decide) ?_
    obtain rfl := Option.some.inj h
    exact z_iret (pc := 48) C E dX7_letter_48 ⟨rfl, rfl⟩
  · rw [if_neg c1] at h
    refine z_aload_n (pc := 11) C 0 dX7_letter_11 rfl rfl ?_
    refine z_get (pc := 12) C dX7_letter_12 fl_X7_17 (hM_o A M B) rfl ?_
    refine z_aload_n (pc := 15) C 0 dX7_letter_15 rfl rfl ?_
    refine z_get (pc := 16) C dX7_letter_16 fl_X7_268 (hM_o A M B) rfl ?_
    obtain ⟨v2, ev2, h⟩ := ob1_eq h
    refine z_iald (pc := 19) C dX7_letter_19 (hMa_3 A M B) (rd_eq ev2).1 (z_topi (rd_eq ev2).2 ?_)
    refine z_bipush (pc := 20) C dX7_letter_20 (v := (47 : Int32)) (by decide) ?_
    refine z_ic_eq (pc := 22) C dX7_letter_22 (tgt := 49) (by decide) (fun c3 => ?_) (fun c3 => ?_)
    · rw [if_pos c3] at h
      exact z_subL [0] (wfX7_letter_b49 C E M h) rfl
    · rw [if_neg c3] at h
      refine z_aload_n (pc := 25) C 0 dX7_letter_25 rfl rfl ?_
      refine z_get (pc := 26) C dX7_letter_26 fl_X7_17 (hM_o A M B) rfl ?_
      refine z_aload_n (pc := 29) C 0 dX7_letter_29 rfl rfl ?_
      refine z_get (pc := 30) C dX7_letter_30 fl_X7_268 (hM_o A M B) rfl ?_
      obtain ⟨v4, ev4, h⟩ := ob1_eq h
      refine z_iald (pc := 33) C dX7_letter_33 (hMa_3 A M B) (rd_eq ev4).1 (z_topi (rd_eq ev4).2 ?_)
      refine z_i2l (pc := 34) C dX7_letter_34 ?_
      refine z_ldc2 (pc := 35) C dX7_letter_35 cn_X7_275 ?_
      refine z_ldc2 (pc := 38) C dX7_letter_38 cn_X7_277 ?_
      obtain ⟨v5, ev5, h⟩ := ob1_eq h
      refine z_callSi (As := [.long v4.toInt64, .long (97 : Int64), .long (122 : Int64)]) (rest := []) (pc := 41) C dX7_letter_41 ml_X7_21 (kX7_in _ _ _ _ (hG A M B) v4.toInt64 (97 : Int64) (122 : Int64) v5 ev5) rfl rfl (Nat.le_of_ble_eq_true rfl) (by decide) ?_
      refine z_if_ne (pc := 44) C dX7_letter_44 (tgt := 49) (by decide) (fun c6 => ?_) (fun c6 => ?_)
      · rw [if_neg c6] at h
        exact z_subL [0] (wfX7_letter_b49 C E M h) rfl
      · rw [if_pos c6] at h
        refine z_iconst (pc := 47) C dX7_letter_47 (v := (-1 : Int32)) (by decide) ?_
        obtain rfl := Option.some.inj h
        exact z_iret (pc := 48) C E dX7_letter_48 ⟨rfl, rfl⟩
theorem kX7_letter (l : Launch) (D : va_G) (cA : Nat → ClassId) (b : Nat) (A : zH) (M : MS) (B : zH)  (out : Int32 × MS) (h : fX7_letter M = some out) : zM l D cA b yX7_letter cX7_letter 1 (some .int) 1 25 [.ref A.length] (hG A M B) (poI out.1 (hG A out.2 B)) := z_entry rfl (Nat.le_of_ble_eq_true rfl) (fun X C E _ _ _ => wfX7_letter C E M h)
def fX7_readsAct_b180 (M : MS) (x2 : Int32) : Option (Int32 × MS) :=
    ob1 (rd 80 (M.2.1 27) x2) fun v1 =>
    if v1 < 0 then (some ((0 : Int32), M)) else
    some ((1 : Int32), M)
set_option maxRecDepth 100000 in
set_option maxHeartbeats 4000000 in
theorem wfX7_readsAct_b180 {X : zX} {A B : zH} {out : Int32 × MS} (C : zOK X cX7_readsAct yX7_readsAct.cls 3 (some .boolean) 2 48) (E : zPost X (poI out.1 (hG A out.2 B))) (M : MS) (x2 : Int32) (h : fX7_readsAct_b180 M x2 = some out) : zZ X 180 [(0, .ref A.length), (2, .int x2)] [] (hG A M B) := by
  rw [fX7_readsAct_b180] at h
  refine z_aload_n (pc := 180) C 0 dX7_readsAct_180 rfl rfl ?_
  refine z_get (pc := 181) C dX7_readsAct_181 fl_X7_92 (hM_o A M B) rfl ?_
  refine z_iload_n (pc := 184) C 1 dX7_readsAct_184 rfl rfl ?_
  obtain ⟨v1, ev1, h⟩ := ob1_eq h
  refine z_iald (pc := 185) C dX7_readsAct_185 (hMa_27 A M B) (rd_eq ev1).1 (z_topi (rd_eq ev1).2 ?_)
  refine z_if_lt (pc := 186) C dX7_readsAct_186 (tgt := 193) (by decide) (fun c2 => ?_) (fun c2 => ?_)
  · rw [if_pos c2] at h
    refine z_iconst (pc := 193) C dX7_readsAct_193 (v := (0 : Int32)) (by decide) ?_
    obtain rfl := Option.some.inj h
    exact z_zret (pc := 194) C E dX7_readsAct_194 rfl ⟨rfl, rfl⟩
  · rw [if_neg c2] at h
    refine z_iconst (pc := 189) C dX7_readsAct_189 (v := (1 : Int32)) (by decide) ?_
    refine z_goto (pc := 190) C dX7_readsAct_190 (tgt := 194) (by decide) ?_
    obtain rfl := Option.some.inj h
    exact z_zret (pc := 194) C E dX7_readsAct_194 rfl ⟨rfl, rfl⟩
def fX7_readsAct_b158 (M : MS) (x1 : Int32) (x2 : Int32) (s0 : Int32) (s1 : Int32) : Option (Int32 × MS) :=
    ob1 (wr 80 s1 (mA M 27 (upd (M.2.1 27) s1.toNatClampNeg s0))) fun M1 =>
    ob1 (rd 80 (M1.2.1 27) x2) fun v2 =>
    if v2 < 0 then (fX7_readsAct_b180 M1 x2) else
    if x1 = (105 : Int32) then (fX7_readsAct_b180 M1 x2) else
    if x1 = (100 : Int32) then (fX7_readsAct_b180 M1 x2) else
    ob2 (fX7_digits M1 (4 : Int32)) fun v7 M6 =>
    ob1 (wr 80 x2 (mA M6 28 (upd (M6.2.1 28) x2.toNatClampNeg v7))) fun M8 =>
    ob1 (rd 80 (M8.2.1 28) x2) fun v9 =>
    if v9 < 0 then (some ((0 : Int32), M8)) else
    some ((1 : Int32), M8)
set_option maxRecDepth 100000 in
set_option maxHeartbeats 4000000 in
theorem wfX7_readsAct_b158 {X : zX} {A B : zH} {out : Int32 × MS} (C : zOK X cX7_readsAct yX7_readsAct.cls 3 (some .boolean) 2 48) (E : zPost X (poI out.1 (hG A out.2 B))) (M : MS) (x1 : Int32) (x2 : Int32) (s0 : Int32) (s1 : Int32) (h : fX7_readsAct_b158 M x1 x2 s0 s1 = some out) : zZ X 158 [(0, .ref A.length), (1, .int x1), (2, .int x2)] [.int s0, .int s1, .ref (A.length + 18)] (hG A M B) := by
  rw [fX7_readsAct_b158] at h
  obtain ⟨M1, eM1, h⟩ := ob1_eq h
  refine z_iast (pc := 158) C dX7_readsAct_158 (hMa_27 A M B) (wr_eq eM1).1 (hMs_27 A B (wr_eq eM1).2) ?_
  refine z_aload_n (pc := 159) C 0 dX7_readsAct_159 rfl rfl ?_
  refine z_get (pc := 160) C dX7_readsAct_160 fl_X7_92 (hM_o A M1 B) rfl ?_
  refine z_iload_n (pc := 163) C 2 dX7_readsAct_163 rfl rfl ?_
  obtain ⟨v2, ev2, h⟩ := ob1_eq h
  refine z_iald (pc := 164) C dX7_readsAct_164 (hMa_27 A M1 B) (rd_eq ev2).1 (z_topi (rd_eq ev2).2 ?_)
  refine z_if_lt (pc := 165) C dX7_readsAct_165 (tgt := 180) (by decide) (fun c3 => ?_) (fun c3 => ?_)
  · rw [if_pos c3] at h
    exact z_subL [0, 2] (wfX7_readsAct_b180 C E M1 x2 h) rfl
  · rw [if_neg c3] at h
    refine z_iload_n (pc := 168) C 1 dX7_readsAct_168 rfl rfl ?_
    refine z_bipush (pc := 169) C dX7_readsAct_169 (v := (105 : Int32)) (by decide) ?_
    refine z_ic_eq (pc := 171) C dX7_readsAct_171 (tgt := 180) (by decide) (fun c4 => ?_) (fun c4 => ?_)
    · rw [if_pos c4] at h
      exact z_subL [0, 2] (wfX7_readsAct_b180 C E M1 x2 h) rfl
    · rw [if_neg c4] at h
      refine z_iload_n (pc := 174) C 1 dX7_readsAct_174 rfl rfl ?_
      refine z_bipush (pc := 175) C dX7_readsAct_175 (v := (100 : Int32)) (by decide) ?_
      refine z_ic_ne (pc := 177) C dX7_readsAct_177 (tgt := 195) (by decide) (fun c5 => ?_) (fun c5 => ?_)
      · rw [if_neg c5] at h
        refine z_aload_n (pc := 195) C 0 dX7_readsAct_195 rfl rfl ?_
        refine z_get (pc := 196) C dX7_readsAct_196 fl_X7_95 (hM_o A M1 B) rfl ?_
        refine z_iload_n (pc := 199) C 2 dX7_readsAct_199 rfl rfl ?_
        refine z_aload_n (pc := 200) C 0 dX7_readsAct_200 rfl rfl ?_
        refine z_iconst (pc := 201) C dX7_readsAct_201 (v := (4 : Int32)) (by decide) ?_
        obtain ⟨v7, M6, ev7, h⟩ := ob2_eq h
        refine z_callVi (h := A.length) (As := [.int (4 : Int32)]) (rest := [.int x2, .ref (A.length + 19)]) (pc := 202) C dX7_readsAct_202 ml_X7_282 (kX7_digits _ _ _ _ A M1 B (4 : Int32) (v7, M6) ev7) (hM_o A M1 B) rfl rfl rfl (Nat.le_of_ble_eq_true rfl) (by decide) ?_
        obtain ⟨M8, eM8, h⟩ := ob1_eq h
        refine z_iast (pc := 205) C dX7_readsAct_205 (hMa_28 A M6 B) (wr_eq eM8).1 (hMs_28 A B (wr_eq eM8).2) ?_
        refine z_aload_n (pc := 206) C 0 dX7_readsAct_206 rfl rfl ?_
        refine z_get (pc := 207) C dX7_readsAct_207 fl_X7_95 (hM_o A M8 B) rfl ?_
        refine z_iload_n (pc := 210) C 2 dX7_readsAct_210 rfl rfl ?_
        obtain ⟨v9, ev9, h⟩ := ob1_eq h
        refine z_iald (pc := 211) C dX7_readsAct_211 (hMa_28 A M8 B) (rd_eq ev9).1 (z_topi (rd_eq ev9).2 ?_)
        refine z_if_lt (pc := 212) C dX7_readsAct_212 (tgt := 219) (by decide) (fun c10 => ?_) (fun c10 => ?_)
        · rw [if_pos c10] at h
          refine z_iconst (pc := 219) C dX7_readsAct_219 (v := (0 : Int32)) (by decide) ?_
          obtain rfl := Option.some.inj h
          exact z_zret (pc := 220) C E dX7_readsAct_220 rfl ⟨rfl, rfl⟩
        · rw [if_neg c10] at h
          refine z_iconst (pc := 215) C dX7_readsAct_215 (v := (1 : Int32)) (by decide) ?_
          refine z_goto (pc := 216) C dX7_readsAct_216 (tgt := 220) (by decide) ?_
          obtain rfl := Option.some.inj h
          exact z_zret (pc := 220) C E dX7_readsAct_220 rfl ⟨rfl, rfl⟩
      · rw [if_pos c5] at h
        exact z_subL [0, 2] (wfX7_readsAct_b180 C E M1 x2 h) rfl
def fX7_readsAct_b54 (M : MS) (x1 : Int32) : Option (Int32 × MS) :=
    zlet (mI M 30 ((M.1 30) + (1 : Int32))) fun M1 =>
    ob1 (wr 80 (M1.1 29) (mA M1 25 (upd (M1.2.1 25) (M1.1 29).toNatClampNeg x1))) fun M2 =>
    zlet (mI M2 29 ((M2.1 29) + (1 : Int32))) fun M3 =>
    if x1 = (104 : Int32) then (some ((1 : Int32), M3)) else
    if x1 = (117 : Int32) then (some ((1 : Int32), M3)) else
    if x1 = (114 : Int32) then (some ((1 : Int32), M3)) else
    zlet (((M3.1 29) - (1 : Int32))) fun y7 =>
    ob2 (fX7_digits M3 (4 : Int32)) fun v9 M8 =>
    ob1 (wr 80 y7 (mA M8 26 (upd (M8.2.1 26) y7.toNatClampNeg v9))) fun M10 =>
    ob1 (rd 80 (M10.2.1 26) y7) fun v11 =>
    if 0 ≤ v11 then (if x1 = (105 : Int32) then (ob2 (fX7_letter M10 ) fun v17 M16 =>
    fX7_readsAct_b158 M16 x1 y7 v17 y7) else
    ob2 (fX7_digits M10 (2 : Int32)) fun v15 M14 =>
    fX7_readsAct_b158 M14 x1 y7 v15 y7) else
    fX7_readsAct_b158 M10 x1 y7 (-1 : Int32) y7
set_option maxRecDepth 100000 in
set_option maxHeartbeats 4000000 in
theorem wfX7_readsAct_b54 {X : zX} {A B : zH} {out : Int32 × MS} (C : zOK X cX7_readsAct yX7_readsAct.cls 3 (some .boolean) 2 48) (E : zPost X (poI out.1 (hG A out.2 B))) (M : MS) (x1 : Int32) (h : fX7_readsAct_b54 M x1 = some out) : zZ X 54 [(0, .ref A.length), (1, .int x1)] [] (hG A M B) := by
  rw [fX7_readsAct_b54] at h
  refine z_aload_n (pc := 54) C 0 dX7_readsAct_54 rfl rfl ?_
  refine z_dup (pc := 55) C dX7_readsAct_55 rfl ?_
  refine z_get (pc := 56) C dX7_readsAct_56 fl_X7_268 (hM_o A M B) rfl ?_
  refine z_iconst (pc := 59) C dX7_readsAct_59 (v := (1 : Int32)) (by decide) ?_
  refine z_iadd (pc := 60) C dX7_readsAct_60 ?_
  obtain ⟨M1, eM1, h⟩ := zlet_eq h
  refine z_put (pc := 61) C dX7_readsAct_61 fl_X7_268w (hM_o A M B) (fun _ => rfl) (fun _ => rfl) (Nat.le_of_ble_eq_true rfl) (hMi_30 A B eM1) ?_
  refine z_aload_n (pc := 64) C 0 dX7_readsAct_64 rfl rfl ?_
  refine z_get (pc := 65) C dX7_readsAct_65 fl_X7_86 (hM_o A M1 B) rfl ?_
  refine z_aload_n (pc := 68) C 0 dX7_readsAct_68 rfl rfl ?_
  refine z_get (pc := 69) C dX7_readsAct_69 fl_X7_279 (hM_o A M1 B) rfl ?_
  refine z_iload_n (pc := 72) C 1 dX7_readsAct_72 rfl rfl ?_
  obtain ⟨M2, eM2, h⟩ := ob1_eq h
  refine z_iast (pc := 73) C dX7_readsAct_73 (hMa_25 A M1 B) (wr_eq eM2).1 (hMs_25 A B (wr_eq eM2).2) ?_
  refine z_aload_n (pc := 74) C 0 dX7_readsAct_74 rfl rfl ?_
  refine z_dup (pc := 75) C dX7_readsAct_75 rfl ?_
  refine z_get (pc := 76) C dX7_readsAct_76 fl_X7_279 (hM_o A M2 B) rfl ?_
  refine z_iconst (pc := 79) C dX7_readsAct_79 (v := (1 : Int32)) (by decide) ?_
  refine z_iadd (pc := 80) C dX7_readsAct_80 ?_
  obtain ⟨M3, eM3, h⟩ := zlet_eq h
  refine z_put (pc := 81) C dX7_readsAct_81 fl_X7_279w (hM_o A M2 B) (fun _ => rfl) (fun _ => rfl) (Nat.le_of_ble_eq_true rfl) (hMi_29 A B eM3) ?_
  refine z_iload_n (pc := 84) C 1 dX7_readsAct_84 rfl rfl ?_
  refine z_bipush (pc := 85) C dX7_readsAct_85 (v := (104 : Int32)) (by decide) ?_
  refine z_ic_eq (pc := 87) C dX7_readsAct_87 (tgt := 102) (by decide) (fun c4 => ?_) (fun c4 => ?_)
  · rw [if_pos c4] at h
    refine z_iconst (pc := 102) C dX7_readsAct_102 (v := (1 : Int32)) (by decide) ?_
    obtain rfl := Option.some.inj h
    exact z_zret (pc := 103) C E dX7_readsAct_103 rfl ⟨rfl, rfl⟩
  · rw [if_neg c4] at h
    refine z_iload_n (pc := 90) C 1 dX7_readsAct_90 rfl rfl ?_
    refine z_bipush (pc := 91) C dX7_readsAct_91 (v := (117 : Int32)) (by decide) ?_
    refine z_ic_eq (pc := 93) C dX7_readsAct_93 (tgt := 102) (by decide) (fun c5 => ?_) (fun c5 => ?_)
    · rw [if_pos c5] at h
      refine z_iconst (pc := 102) C dX7_readsAct_102 (v := (1 : Int32)) (by decide) ?_
      obtain rfl := Option.some.inj h
      exact z_zret (pc := 103) C E dX7_readsAct_103 rfl ⟨rfl, rfl⟩
    · rw [if_neg c5] at h
      refine z_iload_n (pc := 96) C 1 dX7_readsAct_96 rfl rfl ?_
      refine z_bipush (pc := 97) C dX7_readsAct_97 (v := (114 : Int32)) (by decide) ?_
      refine z_ic_ne (pc := 99) C dX7_readsAct_99 (tgt := 104) (by decide) (fun c6 => ?_) (fun c6 => ?_)
      · rw [if_neg c6] at h
        refine z_aload_n (pc := 104) C 0 dX7_readsAct_104 rfl rfl ?_
        refine z_get (pc := 105) C dX7_readsAct_105 fl_X7_279 (hM_o A M3 B) rfl ?_
        refine z_iconst (pc := 108) C dX7_readsAct_108 (v := (1 : Int32)) (by decide) ?_
        refine z_isub (pc := 109) C dX7_readsAct_109 ?_
        obtain ⟨y7, ey7, h⟩ := zlet_eq h
        refine z_topi ey7 ?_
        refine z_istore_n (pc := 110) C dX7_readsAct_110 rfl (by decide) (show zput _ _ _ = [(2, .int y7), (0, .ref A.length), (1, .int x1)] from rfl) ?_
        refine z_aload_n (pc := 111) C 1 dX7_readsAct_111 rfl rfl ?_
        refine z_get (pc := 112) C dX7_readsAct_112 fl_X7_89 (hM_o A M3 B) rfl ?_
        refine z_iload_n (pc := 115) C 0 dX7_readsAct_115 rfl rfl ?_
        refine z_aload_n (pc := 116) C 1 dX7_readsAct_116 rfl rfl ?_
        refine z_iconst (pc := 117) C dX7_readsAct_117 (v := (4 : Int32)) (by decide) ?_
        obtain ⟨v9, M8, ev9, h⟩ := ob2_eq h
        refine z_callVi (h := A.length) (As := [.int (4 : Int32)]) (rest := [.int y7, .ref (A.length + 17)]) (pc := 118) C dX7_readsAct_118 ml_X7_282 (kX7_digits _ _ _ _ A M3 B (4 : Int32) (v9, M8) ev9) (hM_o A M3 B) rfl rfl rfl (Nat.le_of_ble_eq_true rfl) (by decide) ?_
        obtain ⟨M10, eM10, h⟩ := ob1_eq h
        refine z_iast (pc := 121) C dX7_readsAct_121 (hMa_26 A M8 B) (wr_eq eM10).1 (hMs_26 A B (wr_eq eM10).2) ?_
        refine z_aload_n (pc := 122) C 1 dX7_readsAct_122 rfl rfl ?_
        refine z_get (pc := 123) C dX7_readsAct_123 fl_X7_92 (hM_o A M10 B) rfl ?_
        refine z_iload_n (pc := 126) C 0 dX7_readsAct_126 rfl rfl ?_
        refine z_aload_n (pc := 127) C 1 dX7_readsAct_127 rfl rfl ?_
        refine z_get (pc := 128) C dX7_readsAct_128 fl_X7_89 (hM_o A M10 B) rfl ?_
        refine z_iload_n (pc := 131) C 0 dX7_readsAct_131 rfl rfl ?_
        obtain ⟨v11, ev11, h⟩ := ob1_eq h
        refine z_iald (pc := 132) C dX7_readsAct_132 (hMa_26 A M10 B) (rd_eq ev11).1 (z_topi (rd_eq ev11).2 ?_)
        refine z_if_ge (pc := 133) C dX7_readsAct_133 (tgt := 140) (by decide) (fun c12 => ?_) (fun c12 => ?_)
        · rw [if_pos c12] at h
          refine z_iload_n (pc := 140) C 2 dX7_readsAct_140 rfl rfl ?_
          refine z_bipush (pc := 141) C dX7_readsAct_141 (v := (105 : Int32)) (by decide) ?_
          refine z_ic_ne (pc := 143) C dX7_readsAct_143 (tgt := 153) (by decide) (fun c13 => ?_) (fun c13 => ?_)
          · rw [if_neg c13] at h
            refine z_aload_n (pc := 153) C 1 dX7_readsAct_153 rfl rfl ?_
            refine z_iconst (pc := 154) C dX7_readsAct_154 (v := (2 : Int32)) (by decide) ?_
            obtain ⟨v15, M14, ev15, h⟩ := ob2_eq h
            refine z_callVi (h := A.length) (As := [.int (2 : Int32)]) (rest := [.int y7, .ref (A.length + 18)]) (pc := 155) C dX7_readsAct_155 ml_X7_282 (kX7_digits _ _ _ _ A M10 B (2 : Int32) (v15, M14) ev15) (hM_o A M10 B) rfl rfl rfl (Nat.le_of_ble_eq_true rfl) (by decide) ?_
            exact z_subL [1, 2, 0] (wfX7_readsAct_b158 C E M14 x1 y7 v15 y7 h) rfl
          · rw [if_pos c13] at h
            refine z_aload_n (pc := 146) C 1 dX7_readsAct_146 rfl rfl ?_
            obtain ⟨v17, M16, ev17, h⟩ := ob2_eq h
            refine z_callVi (h := A.length) (As := []) (rest := [.int y7, .ref (A.length + 18)]) (pc := 147) C dX7_readsAct_147 ml_X7_285 (kX7_letter _ _ _ _ A M10 B  (v17, M16) ev17) (hM_o A M10 B) rfl rfl rfl (Nat.le_of_ble_eq_true rfl) (by decide) ?_
            refine z_goto (pc := 150) C dX7_readsAct_150 (tgt := 158) (by decide) ?_
            exact z_subL [1, 2, 0] (wfX7_readsAct_b158 C E M16 x1 y7 v17 y7 h) rfl
        · rw [if_neg c12] at h
          refine z_iconst (pc := 136) C dX7_readsAct_136 (v := (-1 : Int32)) (by decide) ?_
          refine z_goto (pc := 137) C dX7_readsAct_137 (tgt := 158) (by decide) ?_
          exact z_subL [1, 2, 0] (wfX7_readsAct_b158 C E M10 x1 y7 (-1 : Int32) y7 h) rfl
      · rw [if_pos c6] at h
        refine z_iconst (pc := 102) C dX7_readsAct_102 (v := (1 : Int32)) (by decide) ?_
        obtain rfl := Option.some.inj h
        exact z_zret (pc := 103) C E dX7_readsAct_103 rfl ⟨rfl, rfl⟩
def fX7_readsAct (M : MS) : Option (Int32 × MS) :=
    ob1 (rd 80 (M.2.1 3) (M.1 30)) fun v1 =>
    if v1 = (105 : Int32) then (fX7_readsAct_b54 M v1) else
    if v1 = (100 : Int32) then (fX7_readsAct_b54 M v1) else
    if v1 = (108 : Int32) then (fX7_readsAct_b54 M v1) else
    if v1 = (109 : Int32) then (fX7_readsAct_b54 M v1) else
    if v1 = (104 : Int32) then (fX7_readsAct_b54 M v1) else
    if v1 = (117 : Int32) then (fX7_readsAct_b54 M v1) else
    if v1 = (114 : Int32) then (fX7_readsAct_b54 M v1) else
    some ((0 : Int32), M)
set_option maxRecDepth 100000 in
set_option maxHeartbeats 4000000 in
theorem wfX7_readsAct {X : zX} {A B : zH} {out : Int32 × MS} (C : zOK X cX7_readsAct yX7_readsAct.cls 3 (some .boolean) 2 48) (E : zPost X (poI out.1 (hG A out.2 B))) (M : MS) (h : fX7_readsAct M = some out) : zZ X 0 [(0, .ref A.length)] [] (hG A M B) := by
  rw [fX7_readsAct] at h
  refine z_aload_n (pc := 0) C 0 dX7_readsAct_0 rfl rfl ?_
  refine z_get (pc := 1) C dX7_readsAct_1 fl_X7_17 (hM_o A M B) rfl ?_
  refine z_aload_n (pc := 4) C 0 dX7_readsAct_4 rfl rfl ?_
  refine z_get (pc := 5) C dX7_readsAct_5 fl_X7_268 (hM_o A M B) rfl ?_
  obtain ⟨v1, ev1, h⟩ := ob1_eq h
  refine z_iald (pc := 8) C dX7_readsAct_8 (hMa_3 A M B) (rd_eq ev1).1 (z_topi (rd_eq ev1).2 ?_)
  refine z_istore_n (pc := 9) C dX7_readsAct_9 rfl (by decide) (show zput _ _ _ = [(1, .int v1), (0, .ref A.length)] from rfl) ?_
  refine z_iload_n (pc := 10) C 0 dX7_readsAct_10 rfl rfl ?_
  refine z_bipush (pc := 11) C dX7_readsAct_11 (v := (105 : Int32)) (by decide) ?_
  refine z_ic_eq (pc := 13) C dX7_readsAct_13 (tgt := 54) (by decide) (fun c2 => ?_) (fun c2 => ?_)
  · rw [if_pos c2] at h
    exact z_subL [1, 0] (wfX7_readsAct_b54 C E M v1 h) rfl
  · rw [if_neg c2] at h
    refine z_iload_n (pc := 16) C 0 dX7_readsAct_16 rfl rfl ?_
    refine z_bipush (pc := 17) C dX7_readsAct_17 (v := (100 : Int32)) (by decide) ?_
    refine z_ic_eq (pc := 19) C dX7_readsAct_19 (tgt := 54) (by decide) (fun c3 => ?_) (fun c3 => ?_)
    · rw [if_pos c3] at h
      exact z_subL [1, 0] (wfX7_readsAct_b54 C E M v1 h) rfl
    · rw [if_neg c3] at h
      refine z_iload_n (pc := 22) C 0 dX7_readsAct_22 rfl rfl ?_
      refine z_bipush (pc := 23) C dX7_readsAct_23 (v := (108 : Int32)) (by decide) ?_
      refine z_ic_eq (pc := 25) C dX7_readsAct_25 (tgt := 54) (by decide) (fun c4 => ?_) (fun c4 => ?_)
      · rw [if_pos c4] at h
        exact z_subL [1, 0] (wfX7_readsAct_b54 C E M v1 h) rfl
      · rw [if_neg c4] at h
        refine z_iload_n (pc := 28) C 0 dX7_readsAct_28 rfl rfl ?_
        refine z_bipush (pc := 29) C dX7_readsAct_29 (v := (109 : Int32)) (by decide) ?_
        refine z_ic_eq (pc := 31) C dX7_readsAct_31 (tgt := 54) (by decide) (fun c5 => ?_) (fun c5 => ?_)
        · rw [if_pos c5] at h
          exact z_subL [1, 0] (wfX7_readsAct_b54 C E M v1 h) rfl
        · rw [if_neg c5] at h
          refine z_iload_n (pc := 34) C 0 dX7_readsAct_34 rfl rfl ?_
          refine z_bipush (pc := 35) C dX7_readsAct_35 (v := (104 : Int32)) (by decide) ?_
          refine z_ic_eq (pc := 37) C dX7_readsAct_37 (tgt := 54) (by decide) (fun c6 => ?_) (fun c6 => ?_)
          · rw [if_pos c6] at h
            exact z_subL [1, 0] (wfX7_readsAct_b54 C E M v1 h) rfl
          · rw [if_neg c6] at h
            refine z_iload_n (pc := 40) C 0 dX7_readsAct_40 rfl rfl ?_
            refine z_bipush (pc := 41) C dX7_readsAct_41 (v := (117 : Int32)) (by decide) ?_
            refine z_ic_eq (pc := 43) C dX7_readsAct_43 (tgt := 54) (by decide) (fun c7 => ?_) (fun c7 => ?_)
            · rw [if_pos c7] at h
              exact z_subL [1, 0] (wfX7_readsAct_b54 C E M v1 h) rfl
            · rw [if_neg c7] at h
              refine z_iload_n (pc := 46) C 0 dX7_readsAct_46 rfl rfl ?_
              refine z_bipush (pc := 47) C dX7_readsAct_47 (v := (114 : Int32)) (by decide) ?_
              refine z_ic_eq (pc := 49) C dX7_readsAct_49 (tgt := 54) (by decide) (fun c8 => ?_) (fun c8 => ?_)
              · rw [if_pos c8] at h
                exact z_subL [1, 0] (wfX7_readsAct_b54 C E M v1 h) rfl
              · rw [if_neg c8] at h
                refine z_iconst (pc := 52) C dX7_readsAct_52 (v := (0 : Int32)) (by decide) ?_
                obtain rfl := Option.some.inj h
                exact z_zret (pc := 53) C E dX7_readsAct_53 rfl ⟨rfl, rfl⟩
theorem kX7_readsAct (l : Launch) (D : va_G) (cA : Nat → ClassId) (b : Nat) (A : zH) (M : MS) (B : zH)  (out : Int32 × MS) (h : fX7_readsAct M = some out) : zM l D cA b yX7_readsAct cX7_readsAct 3 (some .boolean) 2 48 [.ref A.length] (hG A M B) (poI out.1 (hG A out.2 B)) := z_entry rfl (Nat.le_of_ble_eq_true rfl) (fun X C E _ _ _ => wfX7_readsAct C E M h)
def fX7_at (M : MS) (x1 : Int32) : Option (Int32 × MS) :=
    zlet (mI M 0 (0 : Int32)) fun M1 =>
    ob1 (fX7_isSign M1 x1) fun v2 =>
    if v2 = 0 then (some ((-1 : Int32), M1)) else
    ob1 (fX7_signAt M1 x1) fun v4 =>
    some (v4, M1)
set_option maxRecDepth 100000 in
set_option maxHeartbeats 4000000 in
theorem wfX7_at {X : zX} {A B : zH} {out : Int32 × MS} (C : zOK X cX7_at yX7_at.cls 2 (some .int) 2 46) (E : zPost X (poI out.1 (hG A out.2 B))) (M : MS) (x1 : Int32) (h : fX7_at M x1 = some out) : zZ X 0 [(0, .ref A.length), (1, .int x1)] [] (hG A M B) := by
  rw [fX7_at] at h
  refine z_aload_n (pc := 0) C 0 dX7_at_0 rfl rfl ?_
  refine z_iconst (pc := 1) C dX7_at_1 (v := (0 : Int32)) (by decide) ?_
  obtain ⟨M1, eM1, h⟩ := zlet_eq h
  refine z_put (pc := 2) C dX7_at_2 fl_X7_1w (hM_o A M B) (fun _ => rfl) (fun _ => rfl) (Nat.le_of_ble_eq_true rfl) (hMi_0 A B eM1) ?_
  refine z_aload_n (pc := 5) C 0 dX7_at_5 rfl rfl ?_
  refine z_iload_n (pc := 6) C 1 dX7_at_6 rfl rfl ?_
  obtain ⟨v2, ev2, h⟩ := ob1_eq h
  refine z_callVi (h := A.length) (As := [.int x1]) (rest := []) (pc := 7) C dX7_at_7 ml_X7_299 (kX7_isSign _ _ _ _ A M1 B x1 v2 ev2) (hM_o A M1 B) rfl rfl rfl (Nat.le_of_ble_eq_true rfl) (by decide) ?_
  refine z_if_eq (pc := 10) C dX7_at_10 (tgt := 21) (by decide) (fun c3 => ?_) (fun c3 => ?_)
  · rw [if_pos c3] at h
    refine z_iconst (pc := 21) C dX7_at_21 (v := (-1 : Int32)) (by decide) ?_
    obtain rfl := Option.some.inj h
    exact z_iret (pc := 22) C E dX7_at_22 ⟨rfl, rfl⟩
  · rw [if_neg c3] at h
    refine z_aload_n (pc := 13) C 0 dX7_at_13 rfl rfl ?_
    refine z_iload_n (pc := 14) C 1 dX7_at_14 rfl rfl ?_
    obtain ⟨v4, ev4, h⟩ := ob1_eq h
    refine z_callVi (h := A.length) (As := [.int x1]) (rest := []) (pc := 15) C dX7_at_15 ml_X7_157 (kX7_signAt _ _ _ _ A M1 B x1 v4 ev4) (hM_o A M1 B) rfl rfl rfl (Nat.le_of_ble_eq_true rfl) (by decide) ?_
    refine z_goto (pc := 18) C dX7_at_18 (tgt := 22) (by decide) ?_
    obtain rfl := Option.some.inj h
    exact z_iret (pc := 22) C E dX7_at_22 ⟨rfl, rfl⟩
theorem kX7_at (l : Launch) (D : va_G) (cA : Nat → ClassId) (b : Nat) (A : zH) (M : MS) (B : zH) (x1 : Int32) (out : Int32 × MS) (h : fX7_at M x1 = some out) : zM l D cA b yX7_at cX7_at 2 (some .int) 2 46 [.ref A.length, .int x1] (hG A M B) (poI out.1 (hG A out.2 B)) := z_entry rfl (Nat.le_of_ble_eq_true rfl) (fun X C E _ _ _ => wfX7_at C E M x1 h)
def fX7_reads_b65 (M : MS) : Option (Int32 × MS) :=
    some ((M.1 1), M)
set_option maxRecDepth 100000 in
set_option maxHeartbeats 4000000 in
theorem wfX7_reads_b65 {X : zX} {A B : zH} {out : Int32 × MS} (C : zOK X cX7_reads yX7_reads.cls 4 (some .int) 2 46) (E : zPost X (poI out.1 (hG A out.2 B))) (M : MS) (h : fX7_reads_b65 M = some out) : zZ X 65 [(0, .ref A.length)] [] (hG A M B) := by
  rw [fX7_reads_b65] at h
  refine z_aload_n (pc := 65) C 0 dX7_reads_65 rfl rfl ?_
  refine z_get (pc := 66) C dX7_reads_66 fl_X7_11 (hM_o A M B) rfl ?_
  obtain rfl := Option.some.inj h
  exact z_iret (pc := 69) C E dX7_reads_69 ⟨rfl, rfl⟩
def fX7_reads_b34 : Nat → MS → Int32 → Int32 → Int32 → Option (Int32 × MS)
  | 0, _, _, _, _ => none
  | n + 1, M, x1, x2, x3 =>
    if (x1 + x2) ≤ x3 then (fX7_reads_b65 M) else
    if (M.1 11) ≤ x3 then (fX7_reads_b65 M) else
    ob1 (fX7_signAt M x3) fun v3 =>
    ob1 (fX7_enters M v3.toInt64) fun M4 =>
    zlet (x3 + (1 : Int32)) fun y5 =>
    (fX7_reads_b34 n) M4 x1 x2 y5
set_option maxRecDepth 100000 in
set_option maxHeartbeats 4000000 in
theorem wfX7_reads_b34 {X : zX} {A B : zH} {out : Int32 × MS} (C : zOK X cX7_reads yX7_reads.cls 4 (some .int) 2 46) (E : zPost X (poI out.1 (hG A out.2 B))) : ∀ (n : Nat) (M : MS) (x1 : Int32) (x2 : Int32) (x3 : Int32) (h : fX7_reads_b34 n M x1 x2 x3 = some out), zZ X 34 [(0, .ref A.length), (1, .int x1), (2, .int x2), (3, .int x3)] [] (hG A M B) := by
  intro n
  induction n with
  | zero => intro M x1 x2 x3 h; cases h
  | succ n ih =>
    intro M x1 x2 x3 h
    rw [fX7_reads_b34] at h
    refine z_iload_n (pc := 34) C 3 dX7_reads_34 rfl rfl ?_
    refine z_iload_n (pc := 35) C 1 dX7_reads_35 rfl rfl ?_
    refine z_iload_n (pc := 36) C 2 dX7_reads_36 rfl rfl ?_
    refine z_iadd (pc := 37) C dX7_reads_37 ?_
    refine z_ic_ge (pc := 38) C dX7_reads_38 (tgt := 65) (by decide) (fun c1 => ?_) (fun c1 => ?_)
    · rw [if_pos c1] at h
      exact z_subL [0] (wfX7_reads_b65 C E M h) rfl
    · rw [if_neg c1] at h
      refine z_iload_n (pc := 41) C 3 dX7_reads_41 rfl rfl ?_
      refine z_aload_n (pc := 42) C 0 dX7_reads_42 rfl rfl ?_
      refine z_get (pc := 43) C dX7_reads_43 fl_X7_123 (hM_o A M B) rfl ?_
      refine z_ic_ge (pc := 46) C dX7_reads_46 (tgt := 65) (by decide) (fun c2 => ?_) (fun c2 => ?_)
      · rw [if_pos c2] at h
        exact z_subL [0] (wfX7_reads_b65 C E M h) rfl
      · rw [if_neg c2] at h
        refine z_aload_n (pc := 49) C 0 dX7_reads_49 rfl rfl ?_
        refine z_aload_n (pc := 50) C 0 dX7_reads_50 rfl rfl ?_
        refine z_iload_n (pc := 51) C 3 dX7_reads_51 rfl rfl ?_
        obtain ⟨v3, ev3, h⟩ := ob1_eq h
        refine z_callVi (h := A.length) (As := [.int x3]) (rest := [.ref A.length]) (pc := 52) C dX7_reads_52 ml_X7_157 (kX7_signAt _ _ _ _ A M B x3 v3 ev3) (hM_o A M B) rfl rfl rfl (Nat.le_of_ble_eq_true rfl) (by decide) ?_
        refine z_i2l (pc := 55) C dX7_reads_55 ?_
        obtain ⟨M4, eM4, h⟩ := ob1_eq h
        refine z_callVv (h := A.length) (As := [.long v3.toInt64]) (rest := []) (pc := 56) C dX7_reads_56 ml_X7_295 (kX7_enters _ _ _ _ A M B v3.toInt64 M4 eM4) (hM_o A M B) rfl rfl rfl (Nat.le_of_ble_eq_true rfl) (by decide) ?_
        obtain ⟨y5, ey5, h⟩ := zlet_eq h
        refine z_iinc (pc := 59) (v := y5) C 3 dX7_reads_59 rfl (by rw [ey5]; rfl) (by decide) (show zput _ _ _ = [(3, .int y5), (0, .ref A.length), (1, .int x1), (2, .int x2)] from rfl) ?_
        refine z_goto (pc := 62) C dX7_reads_62 (tgt := 34) (by decide) ?_
        exact z_subL [1, 2, 3, 0] (ih M4 x1 x2 y5 h) rfl
def fX7_reads (M : MS) (x1 : Int32) (x2 : Int32) : Option (Int32 × MS) :=
    zlet (mI M 0 (0 : Int32)) fun M1 =>
    ob1 (fX7_isPlace M1 x1) fun v2 =>
    if v2 = 0 then (some ((-1 : Int32), M1)) else
    ob1 (fX7_in x2.toInt64 (1 : Int64) (16 : Int64)) fun v4 =>
    if v4 = 0 then (some ((-1 : Int32), M1)) else
    zlet (mI M1 1 (0 : Int32)) fun M6 =>
    fX7_reads_b34 FU M6 x1 x2 x1
set_option maxRecDepth 100000 in
set_option maxHeartbeats 4000000 in
theorem wfX7_reads {X : zX} {A B : zH} {out : Int32 × MS} (C : zOK X cX7_reads yX7_reads.cls 4 (some .int) 2 46) (E : zPost X (poI out.1 (hG A out.2 B))) (M : MS) (x1 : Int32) (x2 : Int32) (h : fX7_reads M x1 x2 = some out) : zZ X 0 [(0, .ref A.length), (1, .int x1), (2, .int x2)] [] (hG A M B) := by
  rw [fX7_reads] at h
  refine z_aload_n (pc := 0) C 0 dX7_reads_0 rfl rfl ?_
  refine z_iconst (pc := 1) C dX7_reads_1 (v := (0 : Int32)) (by decide) ?_
  obtain ⟨M1, eM1, h⟩ := zlet_eq h
  refine z_put (pc := 2) C dX7_reads_2 fl_X7_1w (hM_o A M B) (fun _ => rfl) (fun _ => rfl) (Nat.le_of_ble_eq_true rfl) (hMi_0 A B eM1) ?_
  refine z_aload_n (pc := 5) C 0 dX7_reads_5 rfl rfl ?_
  refine z_iload_n (pc := 6) C 1 dX7_reads_6 rfl rfl ?_
  obtain ⟨v2, ev2, h⟩ := ob1_eq h
  refine z_callVi (h := A.length) (As := [.int x1]) (rest := []) (pc := 7) C dX7_reads_7 ml_X7_202 (kX7_isPlace _ _ _ _ A M1 B x1 v2 ev2) (hM_o A M1 B) rfl rfl rfl (Nat.le_of_ble_eq_true rfl) (by decide) ?_
  refine z_if_eq (pc := 10) C dX7_reads_10 (tgt := 25) (by decide) (fun c3 => ?_) (fun c3 => ?_)
  · rw [if_pos c3] at h
    refine z_iconst (pc := 25) C dX7_reads_25 (v := (-1 : Int32)) (by decide) ?_
    obtain rfl := Option.some.inj h
    exact z_iret (pc := 26) C E dX7_reads_26 ⟨rfl, rfl⟩
  · rw [if_neg c3] at h
    refine z_iload_n (pc := 13) C 2 dX7_reads_13 rfl rfl ?_
    refine z_i2l (pc := 14) C dX7_reads_14 ?_
    refine z_lconst (pc := 15) C dX7_reads_15 (v := (1 : Int64)) (by decide) ?_
    refine z_ldc2 (pc := 16) C dX7_reads_16 cn_X7_302 ?_
    obtain ⟨v4, ev4, h⟩ := ob1_eq h
    refine z_callSi (As := [.long x2.toInt64, .long (1 : Int64), .long (16 : Int64)]) (rest := []) (pc := 19) C dX7_reads_19 ml_X7_21 (kX7_in _ _ _ _ (hG A M1 B) x2.toInt64 (1 : Int64) (16 : Int64) v4 ev4) rfl rfl (Nat.le_of_ble_eq_true rfl) (by decide) ?_
    refine z_if_ne (pc := 22) C dX7_reads_22 (tgt := 27) (by decide) (fun c5 => ?_) (fun c5 => ?_)
    · rw [if_neg c5] at h
      refine z_aload_n (pc := 27) C 0 dX7_reads_27 rfl rfl ?_
      refine z_iconst (pc := 28) C dX7_reads_28 (v := (0 : Int32)) (by decide) ?_
      obtain ⟨M6, eM6, h⟩ := zlet_eq h
      refine z_put (pc := 29) C dX7_reads_29 fl_X7_11w (hM_o A M1 B) (fun _ => rfl) (fun _ => rfl) (Nat.le_of_ble_eq_true rfl) (hMi_1 A B eM6) ?_
      refine z_iload_n (pc := 32) C 1 dX7_reads_32 rfl rfl ?_
      refine z_istore_n (pc := 33) C dX7_reads_33 rfl (by decide) (show zput _ _ _ = [(3, .int x1), (0, .ref A.length), (1, .int x1), (2, .int x2)] from rfl) ?_
      exact z_subL [1, 2, 3, 0] (wfX7_reads_b34 C E FU M6 x1 x2 x1 h) rfl
    · rw [if_pos c5] at h
      refine z_iconst (pc := 25) C dX7_reads_25 (v := (-1 : Int32)) (by decide) ?_
      obtain rfl := Option.some.inj h
      exact z_iret (pc := 26) C E dX7_reads_26 ⟨rfl, rfl⟩
theorem kX7_reads (l : Launch) (D : va_G) (cA : Nat → ClassId) (b : Nat) (A : zH) (M : MS) (B : zH) (x1 : Int32) (x2 : Int32) (out : Int32 × MS) (h : fX7_reads M x1 x2 = some out) : zM l D cA b yX7_reads cX7_reads 4 (some .int) 2 46 [.ref A.length, .int x1, .int x2] (hG A M B) (poI out.1 (hG A out.2 B)) := z_entry rfl (Nat.le_of_ble_eq_true rfl) (fun X C E _ _ _ => wfX7_reads C E M x1 x2 h)
def fX7_line (M : MS) (x1 : Int32) : Option (Int32 × MS) :=
    zlet (mI M 0 (0 : Int32)) fun M1 =>
    ob1 (fX7_isPlace M1 x1) fun v2 =>
    if v2 = 0 then (some ((-1 : Int32), M1)) else
    ob1 (fX7_breaksAhead M1 x1) fun v4 =>
    zlet (mI M1 1 (0 : Int32)) fun M5 =>
    ob1 (fX7_startOf M5 v4) fun v6 =>
    ob1 (fX7_enters M5 ((x1 - v6).toInt64)) fun M7 =>
    some (v4, M7)
set_option maxRecDepth 100000 in
set_option maxHeartbeats 4000000 in
theorem wfX7_line {X : zX} {A B : zH} {out : Int32 × MS} (C : zOK X cX7_line yX7_line.cls 3 (some .int) 3 66) (E : zPost X (poI out.1 (hG A out.2 B))) (M : MS) (x1 : Int32) (h : fX7_line M x1 = some out) : zZ X 0 [(0, .ref A.length), (1, .int x1)] [] (hG A M B) := by
  rw [fX7_line] at h
  refine z_aload_n (pc := 0) C 0 dX7_line_0 rfl rfl ?_
  refine z_iconst (pc := 1) C dX7_line_1 (v := (0 : Int32)) (by decide) ?_
  obtain ⟨M1, eM1, h⟩ := zlet_eq h
  refine z_put (pc := 2) C dX7_line_2 fl_X7_1w (hM_o A M B) (fun _ => rfl) (fun _ => rfl) (Nat.le_of_ble_eq_true rfl) (hMi_0 A B eM1) ?_
  refine z_aload_n (pc := 5) C 0 dX7_line_5 rfl rfl ?_
  refine z_iload_n (pc := 6) C 1 dX7_line_6 rfl rfl ?_
  obtain ⟨v2, ev2, h⟩ := ob1_eq h
  refine z_callVi (h := A.length) (As := [.int x1]) (rest := []) (pc := 7) C dX7_line_7 ml_X7_202 (kX7_isPlace _ _ _ _ A M1 B x1 v2 ev2) (hM_o A M1 B) rfl rfl rfl (Nat.le_of_ble_eq_true rfl) (by decide) ?_
  refine z_if_ne (pc := 10) C dX7_line_10 (tgt := 15) (by decide) (fun c3 => ?_) (fun c3 => ?_)
  · rw [if_neg c3] at h
    refine z_aload_n (pc := 15) C 0 dX7_line_15 rfl rfl ?_
    refine z_iload_n (pc := 16) C 1 dX7_line_16 rfl rfl ?_
    obtain ⟨v4, ev4, h⟩ := ob1_eq h
    refine z_callVi (h := A.length) (As := [.int x1]) (rest := []) (pc := 17) C dX7_line_17 ml_X7_304 (kX7_breaksAhead _ _ _ _ A M1 B x1 v4 ev4) (hM_o A M1 B) rfl rfl rfl (Nat.le_of_ble_eq_true rfl) (by decide) ?_
    refine z_istore_n (pc := 20) C dX7_line_20 rfl (by decide) (show zput _ _ _ = [(2, .int v4), (0, .ref A.length), (1, .int x1)] from rfl) ?_
    refine z_aload_n (pc := 21) C 1 dX7_line_21 rfl rfl ?_
    refine z_iconst (pc := 22) C dX7_line_22 (v := (0 : Int32)) (by decide) ?_
    obtain ⟨M5, eM5, h⟩ := zlet_eq h
    refine z_put (pc := 23) C dX7_line_23 fl_X7_11w (hM_o A M1 B) (fun _ => rfl) (fun _ => rfl) (Nat.le_of_ble_eq_true rfl) (hMi_1 A B eM5) ?_
    refine z_aload_n (pc := 26) C 1 dX7_line_26 rfl rfl ?_
    refine z_iload_n (pc := 27) C 2 dX7_line_27 rfl rfl ?_
    refine z_aload_n (pc := 28) C 1 dX7_line_28 rfl rfl ?_
    refine z_iload_n (pc := 29) C 0 dX7_line_29 rfl rfl ?_
    obtain ⟨v6, ev6, h⟩ := ob1_eq h
    refine z_callVi (h := A.length) (As := [.int v4]) (rest := [.int x1, .ref A.length]) (pc := 30) C dX7_line_30 ml_X7_248 (kX7_startOf _ _ _ _ A M5 B v4 v6 ev6) (hM_o A M5 B) rfl rfl rfl (Nat.le_of_ble_eq_true rfl) (by decide) ?_
    refine z_isub (pc := 33) C dX7_line_33 ?_
    refine z_i2l (pc := 34) C dX7_line_34 ?_
    obtain ⟨M7, eM7, h⟩ := ob1_eq h
    refine z_callVv (h := A.length) (As := [.long ((x1 - v6).toInt64)]) (rest := []) (pc := 35) C dX7_line_35 ml_X7_295 (kX7_enters _ _ _ _ A M5 B ((x1 - v6).toInt64) M7 eM7) (hM_o A M5 B) rfl rfl rfl (Nat.le_of_ble_eq_true rfl) (by decide) ?_
    refine z_iload_n (pc := 38) C 0 dX7_line_38 rfl rfl ?_
    obtain rfl := Option.some.inj h
    exact z_iret (pc := 39) C E dX7_line_39 ⟨rfl, rfl⟩
  · rw [if_pos c3] at h
    refine z_iconst (pc := 13) C dX7_line_13 (v := (-1 : Int32)) (by decide) ?_
    obtain rfl := Option.some.inj h
    exact z_iret (pc := 14) C E dX7_line_14 ⟨rfl, rfl⟩
theorem kX7_line (l : Launch) (D : va_G) (cA : Nat → ClassId) (b : Nat) (A : zH) (M : MS) (B : zH) (x1 : Int32) (out : Int32 × MS) (h : fX7_line M x1 = some out) : zM l D cA b yX7_line cX7_line 3 (some .int) 3 66 [.ref A.length, .int x1] (hG A M B) (poI out.1 (hG A out.2 B)) := z_entry rfl (Nat.le_of_ble_eq_true rfl) (fun X C E _ _ _ => wfX7_line C E M x1 h)
def fX7_starts (M : MS) (x1 : Int32) : Option (Int32 × MS) :=
    zlet (mI M 0 (0 : Int32)) fun M1 =>
    ob1 (fX7_lines M1 ) fun v2 =>
    ob1 (fX7_in x1.toInt64 (0 : Int64) ((v2 - (1 : Int32)).toInt64)) fun v3 =>
    if v3 = 0 then (some ((-1 : Int32), M1)) else
    ob1 (fX7_startOf M1 x1) fun v5 =>
    zlet (mI M1 1 (0 : Int32)) fun M6 =>
    ob1 (fX7_endFrom M6 v5) fun v7 =>
    ob1 (fX7_enters M6 ((v7 - v5).toInt64)) fun M8 =>
    some (v5, M8)
set_option maxRecDepth 100000 in
set_option maxHeartbeats 4000000 in
theorem wfX7_starts {X : zX} {A B : zH} {out : Int32 × MS} (C : zOK X cX7_starts yX7_starts.cls 3 (some .int) 4 86) (E : zPost X (poI out.1 (hG A out.2 B))) (M : MS) (x1 : Int32) (h : fX7_starts M x1 = some out) : zZ X 0 [(0, .ref A.length), (1, .int x1)] [] (hG A M B) := by
  rw [fX7_starts] at h
  refine z_aload_n (pc := 0) C 0 dX7_starts_0 rfl rfl ?_
  refine z_iconst (pc := 1) C dX7_starts_1 (v := (0 : Int32)) (by decide) ?_
  obtain ⟨M1, eM1, h⟩ := zlet_eq h
  refine z_put (pc := 2) C dX7_starts_2 fl_X7_1w (hM_o A M B) (fun _ => rfl) (fun _ => rfl) (Nat.le_of_ble_eq_true rfl) (hMi_0 A B eM1) ?_
  refine z_iload_n (pc := 5) C 1 dX7_starts_5 rfl rfl ?_
  refine z_i2l (pc := 6) C dX7_starts_6 ?_
  refine z_lconst (pc := 7) C dX7_starts_7 (v := (0 : Int64)) (by decide) ?_
  refine z_aload_n (pc := 8) C 0 dX7_starts_8 rfl rfl ?_
  obtain ⟨v2, ev2, h⟩ := ob1_eq h
  refine z_callVi (h := A.length) (As := []) (rest := [.long (0 : Int64), .long x1.toInt64]) (pc := 9) C dX7_starts_9 ml_X7_245 (kX7_lines _ _ _ _ A M1 B  v2 ev2) (hM_o A M1 B) rfl rfl rfl (Nat.le_of_ble_eq_true rfl) (by decide) ?_
  refine z_iconst (pc := 12) C dX7_starts_12 (v := (1 : Int32)) (by decide) ?_
  refine z_isub (pc := 13) C dX7_starts_13 ?_
  refine z_i2l (pc := 14) C dX7_starts_14 ?_
  obtain ⟨v3, ev3, h⟩ := ob1_eq h
  refine z_callSi (As := [.long x1.toInt64, .long (0 : Int64), .long ((v2 - (1 : Int32)).toInt64)]) (rest := []) (pc := 15) C dX7_starts_15 ml_X7_21 (kX7_in _ _ _ _ (hG A M1 B) x1.toInt64 (0 : Int64) ((v2 - (1 : Int32)).toInt64) v3 ev3) rfl rfl (Nat.le_of_ble_eq_true rfl) (by decide) ?_
  refine z_if_ne (pc := 18) C dX7_starts_18 (tgt := 23) (by decide) (fun c4 => ?_) (fun c4 => ?_)
  · rw [if_neg c4] at h
    refine z_aload_n (pc := 23) C 0 dX7_starts_23 rfl rfl ?_
    refine z_iload_n (pc := 24) C 1 dX7_starts_24 rfl rfl ?_
    obtain ⟨v5, ev5, h⟩ := ob1_eq h
    refine z_callVi (h := A.length) (As := [.int x1]) (rest := []) (pc := 25) C dX7_starts_25 ml_X7_248 (kX7_startOf _ _ _ _ A M1 B x1 v5 ev5) (hM_o A M1 B) rfl rfl rfl (Nat.le_of_ble_eq_true rfl) (by decide) ?_
    refine z_istore_n (pc := 28) C dX7_starts_28 rfl (by decide) (show zput _ _ _ = [(2, .int v5), (0, .ref A.length), (1, .int x1)] from rfl) ?_
    refine z_aload_n (pc := 29) C 1 dX7_starts_29 rfl rfl ?_
    refine z_iconst (pc := 30) C dX7_starts_30 (v := (0 : Int32)) (by decide) ?_
    obtain ⟨M6, eM6, h⟩ := zlet_eq h
    refine z_put (pc := 31) C dX7_starts_31 fl_X7_11w (hM_o A M1 B) (fun _ => rfl) (fun _ => rfl) (Nat.le_of_ble_eq_true rfl) (hMi_1 A B eM6) ?_
    refine z_aload_n (pc := 34) C 1 dX7_starts_34 rfl rfl ?_
    refine z_aload_n (pc := 35) C 1 dX7_starts_35 rfl rfl ?_
    refine z_iload_n (pc := 36) C 0 dX7_starts_36 rfl rfl ?_
    obtain ⟨v7, ev7, h⟩ := ob1_eq h
    refine z_callVi (h := A.length) (As := [.int v5]) (rest := [.ref A.length]) (pc := 37) C dX7_starts_37 ml_X7_251 (kX7_endFrom _ _ _ _ A M6 B v5 v7 ev7) (hM_o A M6 B) rfl rfl rfl (Nat.le_of_ble_eq_true rfl) (by decide) ?_
    refine z_iload_n (pc := 40) C 0 dX7_starts_40 rfl rfl ?_
    refine z_isub (pc := 41) C dX7_starts_41 ?_
    refine z_i2l (pc := 42) C dX7_starts_42 ?_
    obtain ⟨M8, eM8, h⟩ := ob1_eq h
    refine z_callVv (h := A.length) (As := [.long ((v7 - v5).toInt64)]) (rest := []) (pc := 43) C dX7_starts_43 ml_X7_295 (kX7_enters _ _ _ _ A M6 B ((v7 - v5).toInt64) M8 eM8) (hM_o A M6 B) rfl rfl rfl (Nat.le_of_ble_eq_true rfl) (by decide) ?_
    refine z_iload_n (pc := 46) C 0 dX7_starts_46 rfl rfl ?_
    obtain rfl := Option.some.inj h
    exact z_iret (pc := 47) C E dX7_starts_47 ⟨rfl, rfl⟩
  · rw [if_pos c4] at h
    refine z_iconst (pc := 21) C dX7_starts_21 (v := (-1 : Int32)) (by decide) ?_
    obtain rfl := Option.some.inj h
    exact z_iret (pc := 22) C E dX7_starts_22 ⟨rfl, rfl⟩
theorem kX7_starts (l : Launch) (D : va_G) (cA : Nat → ClassId) (b : Nat) (A : zH) (M : MS) (B : zH) (x1 : Int32) (out : Int32 × MS) (h : fX7_starts M x1 = some out) : zM l D cA b yX7_starts cX7_starts 3 (some .int) 4 86 [.ref A.length, .int x1] (hG A M B) (poI out.1 (hG A out.2 B)) := z_entry rfl (Nat.le_of_ble_eq_true rfl) (fun X C E _ _ _ => wfX7_starts C E M x1 h)
def fX7_place (M : MS) (x1 : Int32) (x2 : Int32) : Option (Int32 × MS) :=
    zlet (mI M 0 (0 : Int32)) fun M1 =>
    ob1 (fX7_lines M1 ) fun v2 =>
    ob1 (fX7_in x1.toInt64 (0 : Int64) ((v2 - (1 : Int32)).toInt64)) fun v3 =>
    if v3 = 0 then (some ((-1 : Int32), M1)) else
    if 0 ≤ x2 then (ob1 (fX7_startOf M1 x1) fun v6 =>
    ob1 (fX7_endFrom M1 v6) fun v7 =>
    zlet ((if (v7 - v6) < x2 then (v7 - v6) else x2)) fun y8 =>
    zlet (mI M1 1 (0 : Int32)) fun M9 =>
    ob1 (fX7_enters M9 y8.toInt64) fun M10 =>
    some ((v6 + y8), M10)) else
    some ((-1 : Int32), M1)
set_option maxRecDepth 100000 in
set_option maxHeartbeats 4000000 in
theorem wfX7_place {X : zX} {A B : zH} {out : Int32 × MS} (C : zOK X cX7_place yX7_place.cls 5 (some .int) 4 86) (E : zPost X (poI out.1 (hG A out.2 B))) (M : MS) (x1 : Int32) (x2 : Int32) (h : fX7_place M x1 x2 = some out) : zZ X 0 [(0, .ref A.length), (1, .int x1), (2, .int x2)] [] (hG A M B) := by
  rw [fX7_place] at h
  refine z_aload_n (pc := 0) C 0 dX7_place_0 rfl rfl ?_
  refine z_iconst (pc := 1) C dX7_place_1 (v := (0 : Int32)) (by decide) ?_
  obtain ⟨M1, eM1, h⟩ := zlet_eq h
  refine z_put (pc := 2) C dX7_place_2 fl_X7_1w (hM_o A M B) (fun _ => rfl) (fun _ => rfl) (Nat.le_of_ble_eq_true rfl) (hMi_0 A B eM1) ?_
  refine z_iload_n (pc := 5) C 1 dX7_place_5 rfl rfl ?_
  refine z_i2l (pc := 6) C dX7_place_6 ?_
  refine z_lconst (pc := 7) C dX7_place_7 (v := (0 : Int64)) (by decide) ?_
  refine z_aload_n (pc := 8) C 0 dX7_place_8 rfl rfl ?_
  obtain ⟨v2, ev2, h⟩ := ob1_eq h
  refine z_callVi (h := A.length) (As := []) (rest := [.long (0 : Int64), .long x1.toInt64]) (pc := 9) C dX7_place_9 ml_X7_245 (kX7_lines _ _ _ _ A M1 B  v2 ev2) (hM_o A M1 B) rfl rfl rfl (Nat.le_of_ble_eq_true rfl) (by decide) ?_
  refine z_iconst (pc := 12) C dX7_place_12 (v := (1 : Int32)) (by decide) ?_
  refine z_isub (pc := 13) C dX7_place_13 ?_
  refine z_i2l (pc := 14) C dX7_place_14 ?_
  obtain ⟨v3, ev3, h⟩ := ob1_eq h
  refine z_callSi (As := [.long x1.toInt64, .long (0 : Int64), .long ((v2 - (1 : Int32)).toInt64)]) (rest := []) (pc := 15) C dX7_place_15 ml_X7_21 (kX7_in _ _ _ _ (hG A M1 B) x1.toInt64 (0 : Int64) ((v2 - (1 : Int32)).toInt64) v3 ev3) rfl rfl (Nat.le_of_ble_eq_true rfl) (by decide) ?_
  refine z_if_eq (pc := 18) C dX7_place_18 (tgt := 25) (by decide) (fun c4 => ?_) (fun c4 => ?_)
  · rw [if_pos c4] at h
    refine z_iconst (pc := 25) C dX7_place_25 (v := (-1 : Int32)) (by decide) ?_
    obtain rfl := Option.some.inj h
    exact z_iret (pc := 26) C E dX7_place_26 ⟨rfl, rfl⟩
  · rw [if_neg c4] at h
    refine z_iload_n (pc := 21) C 2 dX7_place_21 rfl rfl ?_
    refine z_if_ge (pc := 22) C dX7_place_22 (tgt := 27) (by decide) (fun c5 => ?_) (fun c5 => ?_)
    · rw [if_pos c5] at h
      refine z_aload_n (pc := 27) C 0 dX7_place_27 rfl rfl ?_
      refine z_iload_n (pc := 28) C 1 dX7_place_28 rfl rfl ?_
      obtain ⟨v6, ev6, h⟩ := ob1_eq h
      refine z_callVi (h := A.length) (As := [.int x1]) (rest := []) (pc := 29) C dX7_place_29 ml_X7_248 (kX7_startOf _ _ _ _ A M1 B x1 v6 ev6) (hM_o A M1 B) rfl rfl rfl (Nat.le_of_ble_eq_true rfl) (by decide) ?_
      refine z_istore_n (pc := 32) C dX7_place_32 rfl (by decide) (show zput _ _ _ = [(3, .int v6), (0, .ref A.length), (1, .int x1), (2, .int x2)] from rfl) ?_
      refine z_iload_n (pc := 33) C 3 dX7_place_33 rfl rfl ?_
      refine z_aload_n (pc := 34) C 1 dX7_place_34 rfl rfl ?_
      refine z_iload_n (pc := 35) C 0 dX7_place_35 rfl rfl ?_
      obtain ⟨v7, ev7, h⟩ := ob1_eq h
      refine z_callVi (h := A.length) (As := [.int v6]) (rest := [.int x2]) (pc := 36) C dX7_place_36 ml_X7_251 (kX7_endFrom _ _ _ _ A M1 B v6 v7 ev7) (hM_o A M1 B) rfl rfl rfl (Nat.le_of_ble_eq_true rfl) (by decide) ?_
      refine z_iload_n (pc := 39) C 0 dX7_place_39 rfl rfl ?_
      refine z_isub (pc := 40) C dX7_place_40 ?_
      refine z_mmin (pc := 41) C dX7_place_41 ml_X7_134 w_min1 w_math w_min2 (Nat.le_of_ble_eq_true rfl) (by decide) ?_
      obtain ⟨y8, ey8, h⟩ := zlet_eq h
      refine z_topi ey8 ?_
      refine z_istore (pc := 44) C dX7_place_44 (by decide) (show zput _ _ _ = [(4, .int y8), (3, .int v6), (0, .ref A.length), (1, .int x1), (2, .int x2)] from rfl) ?_
      refine z_aload_n (pc := 46) C 2 dX7_place_46 rfl rfl ?_
      refine z_iconst (pc := 47) C dX7_place_47 (v := (0 : Int32)) (by decide) ?_
      obtain ⟨M9, eM9, h⟩ := zlet_eq h
      refine z_put (pc := 48) C dX7_place_48 fl_X7_11w (hM_o A M1 B) (fun _ => rfl) (fun _ => rfl) (Nat.le_of_ble_eq_true rfl) (hMi_1 A B eM9) ?_
      refine z_aload_n (pc := 51) C 2 dX7_place_51 rfl rfl ?_
      refine z_iload (pc := 52) C 0 dX7_place_52 rfl ?_
      refine z_i2l (pc := 54) C dX7_place_54 ?_
      obtain ⟨M10, eM10, h⟩ := ob1_eq h
      refine z_callVv (h := A.length) (As := [.long y8.toInt64]) (rest := []) (pc := 55) C dX7_place_55 ml_X7_295 (kX7_enters _ _ _ _ A M9 B y8.toInt64 M10 eM10) (hM_o A M9 B) rfl rfl rfl (Nat.le_of_ble_eq_true rfl) (by decide) ?_
      refine z_iload_n (pc := 58) C 1 dX7_place_58 rfl rfl ?_
      refine z_iload (pc := 59) C 0 dX7_place_59 rfl ?_
      refine z_iadd (pc := 61) C dX7_place_61 ?_
      obtain rfl := Option.some.inj h
      exact z_iret (pc := 62) C E dX7_place_62 ⟨rfl, rfl⟩
    · rw [if_neg c5] at h
      refine z_iconst (pc := 25) C dX7_place_25 (v := (-1 : Int32)) (by decide) ?_
      obtain rfl := Option.some.inj h
      exact z_iret (pc := 26) C E dX7_place_26 ⟨rfl, rfl⟩
theorem kX7_place (l : Launch) (D : va_G) (cA : Nat → ClassId) (b : Nat) (A : zH) (M : MS) (B : zH) (x1 : Int32) (x2 : Int32) (out : Int32 × MS) (h : fX7_place M x1 x2 = some out) : zM l D cA b yX7_place cX7_place 5 (some .int) 4 86 [.ref A.length, .int x1, .int x2] (hG A M B) (poI out.1 (hG A out.2 B)) := z_entry rfl (Nat.le_of_ble_eq_true rfl) (fun X C E _ _ _ => wfX7_place C E M x1 x2 h)
def fX7_longest_b88 (M : MS) (x1 : Int32) (x2 : Int32) (x3 : Int32) : Option (Int32 × MS) :=
    zlet (mI M 1 (0 : Int32)) fun M1 =>
    ob1 (fX7_enters M1 x2.toInt64) fun M2 =>
    ob1 (fX7_enters M2 x3.toInt64) fun M3 =>
    some (x1, M3)
set_option maxRecDepth 100000 in
set_option maxHeartbeats 4000000 in
theorem wfX7_longest_b88 {X : zX} {A B : zH} {out : Int32 × MS} (C : zOK X cX7_longest yX7_longest.cls 7 (some .int) 3 65) (E : zPost X (poI out.1 (hG A out.2 B))) (M : MS) (x1 : Int32) (x2 : Int32) (x3 : Int32) (h : fX7_longest_b88 M x1 x2 x3 = some out) : zZ X 88 [(0, .ref A.length), (1, .int x1), (2, .int x2), (3, .int x3)] [] (hG A M B) := by
  rw [fX7_longest_b88] at h
  refine z_aload_n (pc := 88) C 0 dX7_longest_88 rfl rfl ?_
  refine z_iconst (pc := 89) C dX7_longest_89 (v := (0 : Int32)) (by decide) ?_
  obtain ⟨M1, eM1, h⟩ := zlet_eq h
  refine z_put (pc := 90) C dX7_longest_90 fl_X7_11w (hM_o A M B) (fun _ => rfl) (fun _ => rfl) (Nat.le_of_ble_eq_true rfl) (hMi_1 A B eM1) ?_
  refine z_aload_n (pc := 93) C 0 dX7_longest_93 rfl rfl ?_
  refine z_iload_n (pc := 94) C 2 dX7_longest_94 rfl rfl ?_
  refine z_i2l (pc := 95) C dX7_longest_95 ?_
  obtain ⟨M2, eM2, h⟩ := ob1_eq h
  refine z_callVv (h := A.length) (As := [.long x2.toInt64]) (rest := []) (pc := 96) C dX7_longest_96 ml_X7_295 (kX7_enters _ _ _ _ A M1 B x2.toInt64 M2 eM2) (hM_o A M1 B) rfl rfl rfl (Nat.le_of_ble_eq_true rfl) (by decide) ?_
  refine z_aload_n (pc := 99) C 0 dX7_longest_99 rfl rfl ?_
  refine z_iload_n (pc := 100) C 3 dX7_longest_100 rfl rfl ?_
  refine z_i2l (pc := 101) C dX7_longest_101 ?_
  obtain ⟨M3, eM3, h⟩ := ob1_eq h
  refine z_callVv (h := A.length) (As := [.long x3.toInt64]) (rest := []) (pc := 102) C dX7_longest_102 ml_X7_295 (kX7_enters _ _ _ _ A M2 B x3.toInt64 M3 eM3) (hM_o A M2 B) rfl rfl rfl (Nat.le_of_ble_eq_true rfl) (by decide) ?_
  refine z_iload_n (pc := 105) C 1 dX7_longest_105 rfl rfl ?_
  obtain rfl := Option.some.inj h
  exact z_iret (pc := 106) C E dX7_longest_106 ⟨rfl, rfl⟩
def fX7_longest_b65 (k17 : MS → Int32 → Int32 → Int32 → Int32 → Int32 → Option (Int32 × MS)) (M : MS) (x2 : Int32) (x3 : Int32) (x4 : Int32) (x5 : Int32) (x6 : Int32) (s0 : Int32) : Option (Int32 × MS) :=
    zlet ((if x2 < x6 then x6 else x2)) fun y1 =>
    zlet (x4 + (1 : Int32)) fun y2 =>
    zlet ((x5 + (x6 + (1 : Int32)))) fun y3 =>
    k17 M s0 y1 x3 y2 y3
set_option maxRecDepth 100000 in
set_option maxHeartbeats 4000000 in
theorem wfX7_longest_b65 {X : zX} {A B : zH} {out : Int32 × MS} (C : zOK X cX7_longest yX7_longest.cls 7 (some .int) 3 65) (E : zPost X (poI out.1 (hG A out.2 B))) (k17 : MS → Int32 → Int32 → Int32 → Int32 → Int32 → Option (Int32 × MS)) (hk17 : ∀ (M : MS) (x1 : Int32) (x2 : Int32) (x3 : Int32) (x4 : Int32) (x5 : Int32), k17 M x1 x2 x3 x4 x5 = some out → zZ X 17 [(0, .ref A.length), (1, .int x1), (2, .int x2), (3, .int x3), (4, .int x4), (5, .int x5)] [] (hG A M B)) (M : MS) (x2 : Int32) (x3 : Int32) (x4 : Int32) (x5 : Int32) (x6 : Int32) (s0 : Int32) (h : fX7_longest_b65 k17 M x2 x3 x4 x5 x6 s0 = some out) : zZ X 65 [(0, .ref A.length), (2, .int x2), (3, .int x3), (4, .int x4), (5, .int x5), (6, .int x6)] [.int s0] (hG A M B) := by
  rw [fX7_longest_b65] at h
  refine z_istore_n (pc := 65) C dX7_longest_65 rfl (by decide) (show zput _ _ _ = [(1, .int s0), (0, .ref A.length), (2, .int x2), (3, .int x3), (4, .int x4), (5, .int x5), (6, .int x6)] from rfl) ?_
  refine z_iload_n (pc := 66) C 2 dX7_longest_66 rfl rfl ?_
  refine z_iload (pc := 67) C 6 dX7_longest_67 rfl ?_
  refine z_mmax (pc := 69) C dX7_longest_69 ml_X7_307 w_max1 w_math w_max2 (Nat.le_of_ble_eq_true rfl) (by decide) ?_
  obtain ⟨y1, ey1, h⟩ := zlet_eq h
  refine z_topi ey1 ?_
  refine z_istore_n (pc := 72) C dX7_longest_72 rfl (by decide) (show zput _ _ _ = [(2, .int y1), (1, .int s0), (0, .ref A.length), (3, .int x3), (4, .int x4), (5, .int x5), (6, .int x6)] from rfl) ?_
  obtain ⟨y2, ey2, h⟩ := zlet_eq h
  refine z_iinc (pc := 73) (v := y2) C 4 dX7_longest_73 rfl (by rw [ey2]; rfl) (by decide) (show zput _ _ _ = [(4, .int y2), (2, .int y1), (1, .int s0), (0, .ref A.length), (3, .int x3), (5, .int x5), (6, .int x6)] from rfl) ?_
  refine z_iload (pc := 76) C 5 dX7_longest_76 rfl ?_
  refine z_iload (pc := 78) C 6 dX7_longest_78 rfl ?_
  refine z_iconst (pc := 80) C dX7_longest_80 (v := (1 : Int32)) (by decide) ?_
  refine z_iadd (pc := 81) C dX7_longest_81 ?_
  refine z_iadd (pc := 82) C dX7_longest_82 ?_
  obtain ⟨y3, ey3, h⟩ := zlet_eq h
  refine z_topi ey3 ?_
  refine z_istore (pc := 83) C dX7_longest_83 (by decide) (show zput _ _ _ = [(5, .int y3), (4, .int y2), (2, .int y1), (1, .int s0), (0, .ref A.length), (3, .int x3), (6, .int x6)] from rfl) ?_
  refine z_goto (pc := 85) C dX7_longest_85 (tgt := 17) (by decide) ?_
  exact z_subL [4, 3, 2, 5, 1, 0] (hk17 M s0 y1 x3 y2 y3 h) rfl
def fX7_longest_b48 (k17 : MS → Int32 → Int32 → Int32 → Int32 → Int32 → Option (Int32 × MS)) (M : MS) (x1 : Int32) (x2 : Int32) (x4 : Int32) (x5 : Int32) (x6 : Int32) (s0 : Int32) (s1 : Int32) : Option (Int32 × MS) :=
    ob1 (fX7_flag s0) fun v1 =>
    zlet ((s1 + v1)) fun y2 =>
    if x6 ≤ x2 then (fX7_longest_b65 k17 M x2 y2 x4 x5 x6 x1) else
    fX7_longest_b65 k17 M x2 y2 x4 x5 x6 x4
set_option maxRecDepth 100000 in
set_option maxHeartbeats 4000000 in
theorem wfX7_longest_b48 {X : zX} {A B : zH} {out : Int32 × MS} (C : zOK X cX7_longest yX7_longest.cls 7 (some .int) 3 65) (E : zPost X (poI out.1 (hG A out.2 B))) (k17 : MS → Int32 → Int32 → Int32 → Int32 → Int32 → Option (Int32 × MS)) (hk17 : ∀ (M : MS) (x1 : Int32) (x2 : Int32) (x3 : Int32) (x4 : Int32) (x5 : Int32), k17 M x1 x2 x3 x4 x5 = some out → zZ X 17 [(0, .ref A.length), (1, .int x1), (2, .int x2), (3, .int x3), (4, .int x4), (5, .int x5)] [] (hG A M B)) (M : MS) (x1 : Int32) (x2 : Int32) (x4 : Int32) (x5 : Int32) (x6 : Int32) (s0 : Int32) (s1 : Int32) (h : fX7_longest_b48 k17 M x1 x2 x4 x5 x6 s0 s1 = some out) : zZ X 48 [(0, .ref A.length), (1, .int x1), (2, .int x2), (4, .int x4), (5, .int x5), (6, .int x6)] [.int s0, .int s1] (hG A M B) := by
  rw [fX7_longest_b48] at h
  obtain ⟨v1, ev1, h⟩ := ob1_eq h
  refine z_callSi (As := [.int s0]) (rest := [.int s1]) (pc := 48) C dX7_longest_48 ml_X7_119 (kX7_flag _ _ _ _ (hG A M B) s0 v1 ev1) rfl rfl (Nat.le_of_ble_eq_true rfl) (by decide) ?_
  refine z_iadd (pc := 51) C dX7_longest_51 ?_
  obtain ⟨y2, ey2, h⟩ := zlet_eq h
  refine z_topi ey2 ?_
  refine z_istore_n (pc := 52) C dX7_longest_52 rfl (by decide) (show zput _ _ _ = [(3, .int y2), (0, .ref A.length), (1, .int x1), (2, .int x2), (4, .int x4), (5, .int x5), (6, .int x6)] from rfl) ?_
  refine z_iload (pc := 53) C 6 dX7_longest_53 rfl ?_
  refine z_iload_n (pc := 55) C 3 dX7_longest_55 rfl rfl ?_
  refine z_ic_le (pc := 56) C dX7_longest_56 (tgt := 64) (by decide) (fun c3 => ?_) (fun c3 => ?_)
  · rw [if_pos c3] at h
    refine z_iload_n (pc := 64) C 2 dX7_longest_64 rfl rfl ?_
    exact z_subL [1, 3, 0, 4, 5, 6] (wfX7_longest_b65 C E k17 hk17 M x2 y2 x4 x5 x6 x1 h) rfl
  · rw [if_neg c3] at h
    refine z_iload (pc := 59) C 4 dX7_longest_59 rfl ?_
    refine z_goto (pc := 61) C dX7_longest_61 (tgt := 65) (by decide) ?_
    exact z_subL [1, 3, 0, 4, 5, 6] (wfX7_longest_b65 C E k17 hk17 M x2 y2 x4 x5 x6 x4 h) rfl
def fX7_longest_b17 : Nat → MS → Int32 → Int32 → Int32 → Int32 → Int32 → Option (Int32 × MS)
  | 0, _, _, _, _, _, _ => none
  | n + 1, M, x1, x2, x3, x4, x5 =>
    if (M.1 11) < x5 then (fX7_longest_b88 M x1 x2 x3) else
    ob1 (fX7_endFrom M x5) fun v2 =>
    zlet ((v2 - x5)) fun y3 =>
    if y3 = 0 then (fX7_longest_b48 (fX7_longest_b17 n) M x1 x2 x4 x5 y3 (1 : Int32) x3) else
    fX7_longest_b48 (fX7_longest_b17 n) M x1 x2 x4 x5 y3 (0 : Int32) x3
set_option maxRecDepth 100000 in
set_option maxHeartbeats 4000000 in
theorem wfX7_longest_b17 {X : zX} {A B : zH} {out : Int32 × MS} (C : zOK X cX7_longest yX7_longest.cls 7 (some .int) 3 65) (E : zPost X (poI out.1 (hG A out.2 B))) : ∀ (n : Nat) (M : MS) (x1 : Int32) (x2 : Int32) (x3 : Int32) (x4 : Int32) (x5 : Int32) (h : fX7_longest_b17 n M x1 x2 x3 x4 x5 = some out), zZ X 17 [(0, .ref A.length), (1, .int x1), (2, .int x2), (3, .int x3), (4, .int x4), (5, .int x5)] [] (hG A M B) := by
  intro n
  induction n with
  | zero => intro M x1 x2 x3 x4 x5 h; cases h
  | succ n ih =>
    intro M x1 x2 x3 x4 x5 h
    rw [fX7_longest_b17] at h
    refine z_iload (pc := 17) C 5 dX7_longest_17 rfl ?_
    refine z_aload_n (pc := 19) C 0 dX7_longest_19 rfl rfl ?_
    refine z_get (pc := 20) C dX7_longest_20 fl_X7_123 (hM_o A M B) rfl ?_
    refine z_ic_gt (pc := 23) C dX7_longest_23 (tgt := 88) (by decide) (fun c1 => ?_) (fun c1 => ?_)
    · rw [if_pos c1] at h
      exact z_subL [0, 1, 2, 3] (wfX7_longest_b88 C E M x1 x2 x3 h) rfl
    · rw [if_neg c1] at h
      refine z_aload_n (pc := 26) C 0 dX7_longest_26 rfl rfl ?_
      refine z_iload (pc := 27) C 5 dX7_longest_27 rfl ?_
      obtain ⟨v2, ev2, h⟩ := ob1_eq h
      refine z_callVi (h := A.length) (As := [.int x5]) (rest := []) (pc := 29) C dX7_longest_29 ml_X7_251 (kX7_endFrom _ _ _ _ A M B x5 v2 ev2) (hM_o A M B) rfl rfl rfl (Nat.le_of_ble_eq_true rfl) (by decide) ?_
      refine z_iload (pc := 32) C 5 dX7_longest_32 rfl ?_
      refine z_isub (pc := 34) C dX7_longest_34 ?_
      obtain ⟨y3, ey3, h⟩ := zlet_eq h
      refine z_topi ey3 ?_
      refine z_istore (pc := 35) C dX7_longest_35 (by decide) (show zput _ _ _ = [(6, .int y3), (0, .ref A.length), (1, .int x1), (2, .int x2), (3, .int x3), (4, .int x4), (5, .int x5)] from rfl) ?_
      refine z_iload_n (pc := 37) C 4 dX7_longest_37 rfl rfl ?_
      refine z_iload (pc := 38) C 0 dX7_longest_38 rfl ?_
      refine z_if_ne (pc := 40) C dX7_longest_40 (tgt := 47) (by decide) (fun c4 => ?_) (fun c4 => ?_)
      · rw [if_neg c4] at h
        refine z_iconst (pc := 47) C dX7_longest_47 (v := (0 : Int32)) (by decide) ?_
        exact z_subL [1, 2, 3, 5, 6, 0] (wfX7_longest_b48 C E (fX7_longest_b17 n) ih M x1 x2 x4 x5 y3 (0 : Int32) x3 h) rfl
      · rw [if_pos c4] at h
        refine z_iconst (pc := 43) C dX7_longest_43 (v := (1 : Int32)) (by decide) ?_
        refine z_goto (pc := 44) C dX7_longest_44 (tgt := 48) (by decide) ?_
        exact z_subL [1, 2, 3, 5, 6, 0] (wfX7_longest_b48 C E (fX7_longest_b17 n) ih M x1 x2 x4 x5 y3 (1 : Int32) x3 h) rfl
def fX7_longest (M : MS) : Option (Int32 × MS) :=
    zlet (mI M 0 (0 : Int32)) fun M1 =>
    fX7_longest_b17 FU M1 (0 : Int32) (-1 : Int32) (0 : Int32) (0 : Int32) (0 : Int32)
set_option maxRecDepth 100000 in
set_option maxHeartbeats 4000000 in
theorem wfX7_longest {X : zX} {A B : zH} {out : Int32 × MS} (C : zOK X cX7_longest yX7_longest.cls 7 (some .int) 3 65) (E : zPost X (poI out.1 (hG A out.2 B))) (M : MS) (h : fX7_longest M = some out) : zZ X 0 [(0, .ref A.length)] [] (hG A M B) := by
  rw [fX7_longest] at h
  refine z_aload_n (pc := 0) C 0 dX7_longest_0 rfl rfl ?_
  refine z_iconst (pc := 1) C dX7_longest_1 (v := (0 : Int32)) (by decide) ?_
  obtain ⟨M1, eM1, h⟩ := zlet_eq h
  refine z_put (pc := 2) C dX7_longest_2 fl_X7_1w (hM_o A M B) (fun _ => rfl) (fun _ => rfl) (Nat.le_of_ble_eq_true rfl) (hMi_0 A B eM1) ?_
  refine z_iconst (pc := 5) C dX7_longest_5 (v := (0 : Int32)) (by decide) ?_
  refine z_istore_n (pc := 6) C dX7_longest_6 rfl (by decide) (show zput _ _ _ = [(1, .int (0 : Int32)), (0, .ref A.length)] from rfl) ?_
  refine z_iconst (pc := 7) C dX7_longest_7 (v := (-1 : Int32)) (by decide) ?_
  refine z_istore_n (pc := 8) C dX7_longest_8 rfl (by decide) (show zput _ _ _ = [(2, .int (-1 : Int32)), (1, .int (0 : Int32)), (0, .ref A.length)] from rfl) ?_
  refine z_iconst (pc := 9) C dX7_longest_9 (v := (0 : Int32)) (by decide) ?_
  refine z_istore_n (pc := 10) C dX7_longest_10 rfl (by decide) (show zput _ _ _ = [(3, .int (0 : Int32)), (2, .int (-1 : Int32)), (1, .int (0 : Int32)), (0, .ref A.length)] from rfl) ?_
  refine z_iconst (pc := 11) C dX7_longest_11 (v := (0 : Int32)) (by decide) ?_
  refine z_istore (pc := 12) C dX7_longest_12 (by decide) (show zput _ _ _ = [(4, .int (0 : Int32)), (3, .int (0 : Int32)), (2, .int (-1 : Int32)), (1, .int (0 : Int32)), (0, .ref A.length)] from rfl) ?_
  refine z_iconst (pc := 14) C dX7_longest_14 (v := (0 : Int32)) (by decide) ?_
  refine z_istore (pc := 15) C dX7_longest_15 (by decide) (show zput _ _ _ = [(5, .int (0 : Int32)), (4, .int (0 : Int32)), (3, .int (0 : Int32)), (2, .int (-1 : Int32)), (1, .int (0 : Int32)), (0, .ref A.length)] from rfl) ?_
  exact z_subL [5, 4, 3, 2, 1, 0] (wfX7_longest_b17 C E FU M1 (0 : Int32) (-1 : Int32) (0 : Int32) (0 : Int32) (0 : Int32) h) rfl
theorem kX7_longest (l : Launch) (D : va_G) (cA : Nat → ClassId) (b : Nat) (A : zH) (M : MS) (B : zH)  (out : Int32 × MS) (h : fX7_longest M = some out) : zM l D cA b yX7_longest cX7_longest 7 (some .int) 3 65 [.ref A.length] (hG A M B) (poI out.1 (hG A out.2 B)) := z_entry rfl (Nat.le_of_ble_eq_true rfl) (fun X C E _ _ _ => wfX7_longest C E M h)
def fX7_mark (M : MS) (x1 : Int32) : Option (Int32 × MS) :=
    zlet (mI M 0 (0 : Int32)) fun M1 =>
    ob1 (fX7_in x1.toInt64 (0 : Int64) (7 : Int64)) fun v2 =>
    if v2 = 0 then (some ((-1 : Int32), M1)) else
    ob1 (rd 8 (M1.2.1 12) x1) fun v4 =>
    if v4 = (-1 : Int32) then (some ((-2 : Int32), M1)) else
    ob1 (rd 8 (M1.2.1 12) x1) fun v6 =>
    some (v6, M1)
set_option maxRecDepth 100000 in
set_option maxHeartbeats 4000000 in
theorem wfX7_mark {X : zX} {A B : zH} {out : Int32 × MS} (C : zOK X cX7_mark yX7_mark.cls 2 (some .int) 1 25) (E : zPost X (poI out.1 (hG A out.2 B))) (M : MS) (x1 : Int32) (h : fX7_mark M x1 = some out) : zZ X 0 [(0, .ref A.length), (1, .int x1)] [] (hG A M B) := by
  rw [fX7_mark] at h
  refine z_aload_n (pc := 0) C 0 dX7_mark_0 rfl rfl ?_
  refine z_iconst (pc := 1) C dX7_mark_1 (v := (0 : Int32)) (by decide) ?_
  obtain ⟨M1, eM1, h⟩ := zlet_eq h
  refine z_put (pc := 2) C dX7_mark_2 fl_X7_1w (hM_o A M B) (fun _ => rfl) (fun _ => rfl) (Nat.le_of_ble_eq_true rfl) (hMi_0 A B eM1) ?_
  refine z_iload_n (pc := 5) C 1 dX7_mark_5 rfl rfl ?_
  refine z_i2l (pc := 6) C dX7_mark_6 ?_
  refine z_lconst (pc := 7) C dX7_mark_7 (v := (0 : Int64)) (by decide) ?_
  refine z_ldc2 (pc := 8) C dX7_mark_8 cn_X7_256 ?_
  obtain ⟨v2, ev2, h⟩ := ob1_eq h
  refine z_callSi (As := [.long x1.toInt64, .long (0 : Int64), .long (7 : Int64)]) (rest := []) (pc := 11) C dX7_mark_11 ml_X7_21 (kX7_in _ _ _ _ (hG A M1 B) x1.toInt64 (0 : Int64) (7 : Int64) v2 ev2) rfl rfl (Nat.le_of_ble_eq_true rfl) (by decide) ?_
  refine z_if_ne (pc := 14) C dX7_mark_14 (tgt := 19) (by decide) (fun c3 => ?_) (fun c3 => ?_)
  · rw [if_neg c3] at h
    refine z_aload_n (pc := 19) C 0 dX7_mark_19 rfl rfl ?_
    refine z_get (pc := 20) C dX7_mark_20 fl_X7_51 (hM_o A M1 B) rfl ?_
    refine z_iload_n (pc := 23) C 1 dX7_mark_23 rfl rfl ?_
    obtain ⟨v4, ev4, h⟩ := ob1_eq h
    refine z_iald (pc := 24) C dX7_mark_24 (hMa_12 A M1 B) (rd_eq ev4).1 (z_topi (rd_eq ev4).2 ?_)
    refine z_iconst (pc := 25) C dX7_mark_25 (v := (-1 : Int32)) (by decide) ?_
    refine z_ic_ne (pc := 26) C dX7_mark_26 (tgt := 34) (by decide) (fun c5 => ?_) (fun c5 => ?_)
    · rw [if_neg c5] at h
      refine z_aload_n (pc := 34) C 0 dX7_mark_34 rfl rfl ?_
      refine z_get (pc := 35) C dX7_mark_35 fl_X7_51 (hM_o A M1 B) rfl ?_
      refine z_iload_n (pc := 38) C 1 dX7_mark_38 rfl rfl ?_
      obtain ⟨v6, ev6, h⟩ := ob1_eq h
      refine z_iald (pc := 39) C dX7_mark_39 (hMa_12 A M1 B) (rd_eq ev6).1 (z_topi (rd_eq ev6).2 ?_)
      obtain rfl := Option.some.inj h
      exact z_iret (pc := 40) C E dX7_mark_40 ⟨rfl, rfl⟩
    · rw [if_pos c5] at h
      refine z_bipush (pc := 29) C dX7_mark_29 (v := (-2 : Int32)) (by decide) ?_
      refine z_goto (pc := 31) C dX7_mark_31 (tgt := 40) (by decide) ?_
      obtain rfl := Option.some.inj h
      exact z_iret (pc := 40) C E dX7_mark_40 ⟨rfl, rfl⟩
  · rw [if_pos c3] at h
    refine z_iconst (pc := 17) C dX7_mark_17 (v := (-1 : Int32)) (by decide) ?_
    obtain rfl := Option.some.inj h
    exact z_iret (pc := 18) C E dX7_mark_18 ⟨rfl, rfl⟩
theorem kX7_mark (l : Launch) (D : va_G) (cA : Nat → ClassId) (b : Nat) (A : zH) (M : MS) (B : zH) (x1 : Int32) (out : Int32 × MS) (h : fX7_mark M x1 = some out) : zM l D cA b yX7_mark cX7_mark 2 (some .int) 1 25 [.ref A.length, .int x1] (hG A M B) (poI out.1 (hG A out.2 B)) := z_entry rfl (Nat.le_of_ble_eq_true rfl) (fun X C E _ _ _ => wfX7_mark C E M x1 h)
def fJ6_bitCount_0f7a4 (x0 : Int32) : Option Int32 :=
    zlet ((x0 - ((x0.toUInt32 >>> ((1 : Int32).toUInt32 &&& Int32.toUInt32 31)).toInt32 &&& (1431655765 : Int32)))) fun y1 =>
    zlet (((y1 &&& (858993459 : Int32)) + ((y1.toUInt32 >>> ((2 : Int32).toUInt32 &&& Int32.toUInt32 31)).toInt32 &&& (858993459 : Int32)))) fun y2 =>
    zlet (((y2 + (y2.toUInt32 >>> ((4 : Int32).toUInt32 &&& Int32.toUInt32 31)).toInt32) &&& (252645135 : Int32))) fun y3 =>
    zlet ((y3 + (y3.toUInt32 >>> ((8 : Int32).toUInt32 &&& Int32.toUInt32 31)).toInt32)) fun y4 =>
    zlet ((y4 + (y4.toUInt32 >>> ((16 : Int32).toUInt32 &&& Int32.toUInt32 31)).toInt32)) fun y5 =>
    some (y5 &&& (63 : Int32))
set_option maxRecDepth 100000 in
set_option maxHeartbeats 4000000 in
theorem wfJ6_bitCount_0f7a4 {X : zX} {G : zH} {out : Int32} (C : zOK X cJ6_bitCount_0f7a4 yJ6_bitCount_0f7a4.cls 1 (some .int) 0 0) (E : zPost X (poI out G)) (x0 : Int32) (h : fJ6_bitCount_0f7a4 x0 = some out) : zZ X 0 [(0, .int x0)] [] G := by
  rw [fJ6_bitCount_0f7a4] at h
  refine z_iload_n (pc := 0) C 0 dJ6_bitCount_0f7a4_0 rfl rfl ?_
  refine z_iload_n (pc := 1) C 0 dJ6_bitCount_0f7a4_1 rfl rfl ?_
  refine z_iconst (pc := 2) C dJ6_bitCount_0f7a4_2 (v := (1 : Int32)) (by decide) ?_
  refine z_iushr (pc := 3) C dJ6_bitCount_0f7a4_3 ?_
  refine z_ldcw (pc := 4) C dJ6_bitCount_0f7a4_4 cn_J6_265 ?_
  refine z_iand (pc := 7) C dJ6_bitCount_0f7a4_7 ?_
  refine z_isub (pc := 8) C dJ6_bitCount_0f7a4_8 ?_
  obtain ⟨y1, ey1, h⟩ := zlet_eq h
  refine z_topi ey1 ?_
  refine z_istore_n (pc := 9) C dJ6_bitCount_0f7a4_9 rfl (by decide) (show zput _ _ _ = [(0, .int y1)] from rfl) ?_
  refine z_iload_n (pc := 10) C 0 dJ6_bitCount_0f7a4_10 rfl rfl ?_
  refine z_ldcw (pc := 11) C dJ6_bitCount_0f7a4_11 cn_J6_266 ?_
  refine z_iand (pc := 14) C dJ6_bitCount_0f7a4_14 ?_
  refine z_iload_n (pc := 15) C 0 dJ6_bitCount_0f7a4_15 rfl rfl ?_
  refine z_iconst (pc := 16) C dJ6_bitCount_0f7a4_16 (v := (2 : Int32)) (by decide) ?_
  refine z_iushr (pc := 17) C dJ6_bitCount_0f7a4_17 ?_
  refine z_ldcw (pc := 18) C dJ6_bitCount_0f7a4_18 cn_J6_266 ?_
  refine z_iand (pc := 21) C dJ6_bitCount_0f7a4_21 ?_
  refine z_iadd (pc := 22) C dJ6_bitCount_0f7a4_22 ?_
  obtain ⟨y2, ey2, h⟩ := zlet_eq h
  refine z_topi ey2 ?_
  refine z_istore_n (pc := 23) C dJ6_bitCount_0f7a4_23 rfl (by decide) (show zput _ _ _ = [(0, .int y2)] from rfl) ?_
  refine z_iload_n (pc := 24) C 0 dJ6_bitCount_0f7a4_24 rfl rfl ?_
  refine z_iload_n (pc := 25) C 0 dJ6_bitCount_0f7a4_25 rfl rfl ?_
  refine z_iconst (pc := 26) C dJ6_bitCount_0f7a4_26 (v := (4 : Int32)) (by decide) ?_
  refine z_iushr (pc := 27) C dJ6_bitCount_0f7a4_27 ?_
  refine z_iadd (pc := 28) C dJ6_bitCount_0f7a4_28 ?_
  refine z_ldcw (pc := 29) C dJ6_bitCount_0f7a4_29 cn_J6_267 ?_
  refine z_iand (pc := 32) C dJ6_bitCount_0f7a4_32 ?_
  obtain ⟨y3, ey3, h⟩ := zlet_eq h
  refine z_topi ey3 ?_
  refine z_istore_n (pc := 33) C dJ6_bitCount_0f7a4_33 rfl (by decide) (show zput _ _ _ = [(0, .int y3)] from rfl) ?_
  refine z_iload_n (pc := 34) C 0 dJ6_bitCount_0f7a4_34 rfl rfl ?_
  refine z_iload_n (pc := 35) C 0 dJ6_bitCount_0f7a4_35 rfl rfl ?_
  refine z_bipush (pc := 36) C dJ6_bitCount_0f7a4_36 (v := (8 : Int32)) (by decide) ?_
  refine z_iushr (pc := 38) C dJ6_bitCount_0f7a4_38 ?_
  refine z_iadd (pc := 39) C dJ6_bitCount_0f7a4_39 ?_
  obtain ⟨y4, ey4, h⟩ := zlet_eq h
  refine z_topi ey4 ?_
  refine z_istore_n (pc := 40) C dJ6_bitCount_0f7a4_40 rfl (by decide) (show zput _ _ _ = [(0, .int y4)] from rfl) ?_
  refine z_iload_n (pc := 41) C 0 dJ6_bitCount_0f7a4_41 rfl rfl ?_
  refine z_iload_n (pc := 42) C 0 dJ6_bitCount_0f7a4_42 rfl rfl ?_
  refine z_bipush (pc := 43) C dJ6_bitCount_0f7a4_43 (v := (16 : Int32)) (by decide) ?_
  refine z_iushr (pc := 45) C dJ6_bitCount_0f7a4_45 ?_
  refine z_iadd (pc := 46) C dJ6_bitCount_0f7a4_46 ?_
  obtain ⟨y5, ey5, h⟩ := zlet_eq h
  refine z_topi ey5 ?_
  refine z_istore_n (pc := 47) C dJ6_bitCount_0f7a4_47 rfl (by decide) (show zput _ _ _ = [(0, .int y5)] from rfl) ?_
  refine z_iload_n (pc := 48) C 0 dJ6_bitCount_0f7a4_48 rfl rfl ?_
  refine z_bipush (pc := 49) C dJ6_bitCount_0f7a4_49 (v := (63 : Int32)) (by decide) ?_
  refine z_iand (pc := 51) C dJ6_bitCount_0f7a4_51 ?_
  obtain rfl := Option.some.inj h
  exact z_iret (pc := 52) C E dJ6_bitCount_0f7a4_52 ⟨rfl, rfl⟩
theorem kJ6_bitCount_0f7a4 (l : Launch) (D : va_G) (cA : Nat → ClassId) (b : Nat) (G : zH) (x0 : Int32) (out : Int32) (h : fJ6_bitCount_0f7a4 x0 = some out) : zM l D cA b yJ6_bitCount_0f7a4 cJ6_bitCount_0f7a4 1 (some .int) 0 0 [.int x0] G (poI out G) := z_entry rfl (Nat.le_of_ble_eq_true rfl) (fun X C E _ _ _ => wfJ6_bitCount_0f7a4 C E x0 h)
def fX7_between_b70 (M : MS) (x3 : Int32) : Option (Int32 × MS) :=
    zlet (mI M 1 (0 : Int32)) fun M1 =>
    ob1 (fJ6_bitCount_0f7a4 x3) fun v2 =>
    ob1 (fX7_enters M1 v2.toInt64) fun M3 =>
    some (x3, M3)
set_option maxRecDepth 100000 in
set_option maxHeartbeats 4000000 in
theorem wfX7_between_b70 {X : zX} {A B : zH} {out : Int32 × MS} (C : zOK X cX7_between yX7_between.cls 5 (some .int) 1 25) (E : zPost X (poI out.1 (hG A out.2 B))) (M : MS) (x3 : Int32) (h : fX7_between_b70 M x3 = some out) : zZ X 70 [(0, .ref A.length), (3, .int x3)] [] (hG A M B) := by
  rw [fX7_between_b70] at h
  refine z_aload_n (pc := 70) C 0 dX7_between_70 rfl rfl ?_
  refine z_iconst (pc := 71) C dX7_between_71 (v := (0 : Int32)) (by decide) ?_
  obtain ⟨M1, eM1, h⟩ := zlet_eq h
  refine z_put (pc := 72) C dX7_between_72 fl_X7_11w (hM_o A M B) (fun _ => rfl) (fun _ => rfl) (Nat.le_of_ble_eq_true rfl) (hMi_1 A B eM1) ?_
  refine z_aload_n (pc := 75) C 0 dX7_between_75 rfl rfl ?_
  refine z_iload_n (pc := 76) C 1 dX7_between_76 rfl rfl ?_
  obtain ⟨v2, ev2, h⟩ := ob1_eq h
  refine z_callSi (As := [.int x3]) (rest := [.ref A.length]) (pc := 77) C dX7_between_77 ml_X7_310 (kJ6_bitCount_0f7a4 _ _ _ _ (hG A M1 B) x3 v2 ev2) rfl rfl (Nat.le_of_ble_eq_true rfl) (by decide) ?_
  refine z_i2l (pc := 80) C dX7_between_80 ?_
  obtain ⟨M3, eM3, h⟩ := ob1_eq h
  refine z_callVv (h := A.length) (As := [.long v2.toInt64]) (rest := []) (pc := 81) C dX7_between_81 ml_X7_295 (kX7_enters _ _ _ _ A M1 B v2.toInt64 M3 eM3) (hM_o A M1 B) rfl rfl rfl (Nat.le_of_ble_eq_true rfl) (by decide) ?_
  refine z_iload_n (pc := 84) C 1 dX7_between_84 rfl rfl ?_
  obtain rfl := Option.some.inj h
  exact z_iret (pc := 85) C E dX7_between_85 ⟨rfl, rfl⟩
def fX7_between_b62 (k17 : MS → Int32 → Int32 → Int32 → Int32 → Option (Int32 × MS)) (M : MS) (x1 : Int32) (x2 : Int32) (x4 : Int32) (s0 : Int32) (s1 : Int32) : Option (Int32 × MS) :=
    zlet ((s1 ||| s0)) fun y1 =>
    zlet (x4 + (1 : Int32)) fun y2 =>
    k17 M x1 x2 y1 y2
set_option maxRecDepth 100000 in
set_option maxHeartbeats 4000000 in
theorem wfX7_between_b62 {X : zX} {A B : zH} {out : Int32 × MS} (C : zOK X cX7_between yX7_between.cls 5 (some .int) 1 25) (E : zPost X (poI out.1 (hG A out.2 B))) (k17 : MS → Int32 → Int32 → Int32 → Int32 → Option (Int32 × MS)) (hk17 : ∀ (M : MS) (x1 : Int32) (x2 : Int32) (x3 : Int32) (x4 : Int32), k17 M x1 x2 x3 x4 = some out → zZ X 17 [(0, .ref A.length), (1, .int x1), (2, .int x2), (3, .int x3), (4, .int x4)] [] (hG A M B)) (M : MS) (x1 : Int32) (x2 : Int32) (x4 : Int32) (s0 : Int32) (s1 : Int32) (h : fX7_between_b62 k17 M x1 x2 x4 s0 s1 = some out) : zZ X 62 [(0, .ref A.length), (1, .int x1), (2, .int x2), (4, .int x4)] [.int s0, .int s1] (hG A M B) := by
  rw [fX7_between_b62] at h
  refine z_ior (pc := 62) C dX7_between_62 ?_
  obtain ⟨y1, ey1, h⟩ := zlet_eq h
  refine z_topi ey1 ?_
  refine z_istore_n (pc := 63) C dX7_between_63 rfl (by decide) (show zput _ _ _ = [(3, .int y1), (0, .ref A.length), (1, .int x1), (2, .int x2), (4, .int x4)] from rfl) ?_
  obtain ⟨y2, ey2, h⟩ := zlet_eq h
  refine z_iinc (pc := 64) (v := y2) C 4 dX7_between_64 rfl (by rw [ey2]; rfl) (by decide) (show zput _ _ _ = [(4, .int y2), (3, .int y1), (0, .ref A.length), (1, .int x1), (2, .int x2)] from rfl) ?_
  refine z_goto (pc := 67) C dX7_between_67 (tgt := 17) (by decide) ?_
  exact z_subL [2, 3, 4, 1, 0] (hk17 M x1 x2 y1 y2 h) rfl
def fX7_between_b61 (k17 : MS → Int32 → Int32 → Int32 → Int32 → Option (Int32 × MS)) (M : MS) (x1 : Int32) (x2 : Int32) (x4 : Int32) (s0 : Int32) : Option (Int32 × MS) :=
    fX7_between_b62 k17 M x1 x2 x4 (0 : Int32) s0
set_option maxRecDepth 100000 in
set_option maxHeartbeats 4000000 in
theorem wfX7_between_b61 {X : zX} {A B : zH} {out : Int32 × MS} (C : zOK X cX7_between yX7_between.cls 5 (some .int) 1 25) (E : zPost X (poI out.1 (hG A out.2 B))) (k17 : MS → Int32 → Int32 → Int32 → Int32 → Option (Int32 × MS)) (hk17 : ∀ (M : MS) (x1 : Int32) (x2 : Int32) (x3 : Int32) (x4 : Int32), k17 M x1 x2 x3 x4 = some out → zZ X 17 [(0, .ref A.length), (1, .int x1), (2, .int x2), (3, .int x3), (4, .int x4)] [] (hG A M B)) (M : MS) (x1 : Int32) (x2 : Int32) (x4 : Int32) (s0 : Int32) (h : fX7_between_b61 k17 M x1 x2 x4 s0 = some out) : zZ X 61 [(0, .ref A.length), (1, .int x1), (2, .int x2), (4, .int x4)] [.int s0] (hG A M B) := by
  rw [fX7_between_b61] at h
  refine z_iconst (pc := 61) C dX7_between_61 (v := (0 : Int32)) (by decide) ?_
  exact z_subL [0, 1, 2, 3] (wfX7_between_b62 C E k17 hk17 M x1 x2 x4 (0 : Int32) s0 h) rfl
def fX7_between_b17 : Nat → MS → Int32 → Int32 → Int32 → Int32 → Option (Int32 × MS)
  | 0, _, _, _, _, _ => none
  | n + 1, M, x1, x2, x3, x4 =>
    if (8 : Int32) ≤ x4 then (fX7_between_b70 M x3) else
    ob1 (rd 8 (M.2.1 12) x4) fun v2 =>
    if v2 = (-1 : Int32) then (fX7_between_b61 (fX7_between_b17 n) M x1 x2 x4 x3) else
    ob1 (rd 8 (M.2.1 12) x4) fun v4 =>
    ob1 (fX7_in v4.toInt64 x1.toInt64 x2.toInt64) fun v5 =>
    if v5 = 0 then (fX7_between_b61 (fX7_between_b17 n) M x1 x2 x4 x3) else
    fX7_between_b62 (fX7_between_b17 n) M x1 x2 x4 ((1 : Int32) <<< (x4 &&& 31)) x3
set_option maxRecDepth 100000 in
set_option maxHeartbeats 4000000 in
theorem wfX7_between_b17 {X : zX} {A B : zH} {out : Int32 × MS} (C : zOK X cX7_between yX7_between.cls 5 (some .int) 1 25) (E : zPost X (poI out.1 (hG A out.2 B))) : ∀ (n : Nat) (M : MS) (x1 : Int32) (x2 : Int32) (x3 : Int32) (x4 : Int32) (h : fX7_between_b17 n M x1 x2 x3 x4 = some out), zZ X 17 [(0, .ref A.length), (1, .int x1), (2, .int x2), (3, .int x3), (4, .int x4)] [] (hG A M B) := by
  intro n
  induction n with
  | zero => intro M x1 x2 x3 x4 h; cases h
  | succ n ih =>
    intro M x1 x2 x3 x4 h
    rw [fX7_between_b17] at h
    refine z_iload (pc := 17) C 4 dX7_between_17 rfl ?_
    refine z_bipush (pc := 19) C dX7_between_19 (v := (8 : Int32)) (by decide) ?_
    refine z_ic_ge (pc := 21) C dX7_between_21 (tgt := 70) (by decide) (fun c1 => ?_) (fun c1 => ?_)
    · rw [if_pos c1] at h
      exact z_subL [0, 3] (wfX7_between_b70 C E M x3 h) rfl
    · rw [if_neg c1] at h
      refine z_iload_n (pc := 24) C 3 dX7_between_24 rfl rfl ?_
      refine z_aload_n (pc := 25) C 0 dX7_between_25 rfl rfl ?_
      refine z_get (pc := 26) C dX7_between_26 fl_X7_51 (hM_o A M B) rfl ?_
      refine z_iload (pc := 29) C 4 dX7_between_29 rfl ?_
      obtain ⟨v2, ev2, h⟩ := ob1_eq h
      refine z_iald (pc := 31) C dX7_between_31 (hMa_12 A M B) (rd_eq ev2).1 (z_topi (rd_eq ev2).2 ?_)
      refine z_iconst (pc := 32) C dX7_between_32 (v := (-1 : Int32)) (by decide) ?_
      refine z_ic_eq (pc := 33) C dX7_between_33 (tgt := 61) (by decide) (fun c3 => ?_) (fun c3 => ?_)
      · rw [if_pos c3] at h
        exact z_subL [0, 1, 2, 4] (wfX7_between_b61 C E (fX7_between_b17 n) ih M x1 x2 x4 x3 h) rfl
      · rw [if_neg c3] at h
        refine z_aload_n (pc := 36) C 0 dX7_between_36 rfl rfl ?_
        refine z_get (pc := 37) C dX7_between_37 fl_X7_51 (hM_o A M B) rfl ?_
        refine z_iload (pc := 40) C 4 dX7_between_40 rfl ?_
        obtain ⟨v4, ev4, h⟩ := ob1_eq h
        refine z_iald (pc := 42) C dX7_between_42 (hMa_12 A M B) (rd_eq ev4).1 (z_topi (rd_eq ev4).2 ?_)
        refine z_i2l (pc := 43) C dX7_between_43 ?_
        refine z_iload_n (pc := 44) C 1 dX7_between_44 rfl rfl ?_
        refine z_i2l (pc := 45) C dX7_between_45 ?_
        refine z_iload_n (pc := 46) C 2 dX7_between_46 rfl rfl ?_
        refine z_i2l (pc := 47) C dX7_between_47 ?_
        obtain ⟨v5, ev5, h⟩ := ob1_eq h
        refine z_callSi (As := [.long v4.toInt64, .long x1.toInt64, .long x2.toInt64]) (rest := [.int x3]) (pc := 48) C dX7_between_48 ml_X7_21 (kX7_in _ _ _ _ (hG A M B) v4.toInt64 x1.toInt64 x2.toInt64 v5 ev5) rfl rfl (Nat.le_of_ble_eq_true rfl) (by decide) ?_
        refine z_if_eq (pc := 51) C dX7_between_51 (tgt := 61) (by decide) (fun c6 => ?_) (fun c6 => ?_)
        · rw [if_pos c6] at h
          exact z_subL [0, 1, 2, 4] (wfX7_between_b61 C E (fX7_between_b17 n) ih M x1 x2 x4 x3 h) rfl
        · rw [if_neg c6] at h
          refine z_iconst (pc := 54) C dX7_between_54 (v := (1 : Int32)) (by decide) ?_
          refine z_iload (pc := 55) C 4 dX7_between_55 rfl ?_
          refine z_ishl (pc := 57) C dX7_between_57 ?_
          refine z_goto (pc := 58) C dX7_between_58 (tgt := 62) (by decide) ?_
          exact z_subL [0, 1, 2, 4] (wfX7_between_b62 C E (fX7_between_b17 n) ih M x1 x2 x4 ((1 : Int32) <<< (x4 &&& 31)) x3 h) rfl
def fX7_between (M : MS) (x1 : Int32) (x2 : Int32) : Option (Int32 × MS) :=
    zlet (mI M 0 (0 : Int32)) fun M1 =>
    if x1 ≤ x2 then (fX7_between_b17 FU M1 x1 x2 (0 : Int32) (0 : Int32)) else
    some ((-1 : Int32), M1)
set_option maxRecDepth 100000 in
set_option maxHeartbeats 4000000 in
theorem wfX7_between {X : zX} {A B : zH} {out : Int32 × MS} (C : zOK X cX7_between yX7_between.cls 5 (some .int) 1 25) (E : zPost X (poI out.1 (hG A out.2 B))) (M : MS) (x1 : Int32) (x2 : Int32) (h : fX7_between M x1 x2 = some out) : zZ X 0 [(0, .ref A.length), (1, .int x1), (2, .int x2)] [] (hG A M B) := by
  rw [fX7_between] at h
  refine z_aload_n (pc := 0) C 0 dX7_between_0 rfl rfl ?_
  refine z_iconst (pc := 1) C dX7_between_1 (v := (0 : Int32)) (by decide) ?_
  obtain ⟨M1, eM1, h⟩ := zlet_eq h
  refine z_put (pc := 2) C dX7_between_2 fl_X7_1w (hM_o A M B) (fun _ => rfl) (fun _ => rfl) (Nat.le_of_ble_eq_true rfl) (hMi_0 A B eM1) ?_
  refine z_iload_n (pc := 5) C 2 dX7_between_5 rfl rfl ?_
  refine z_iload_n (pc := 6) C 1 dX7_between_6 rfl rfl ?_
  refine z_ic_ge (pc := 7) C dX7_between_7 (tgt := 12) (by decide) (fun c2 => ?_) (fun c2 => ?_)
  · rw [if_pos c2] at h
    refine z_iconst (pc := 12) C dX7_between_12 (v := (0 : Int32)) (by decide) ?_
    refine z_istore_n (pc := 13) C dX7_between_13 rfl (by decide) (show zput _ _ _ = [(3, .int (0 : Int32)), (0, .ref A.length), (1, .int x1), (2, .int x2)] from rfl) ?_
    refine z_iconst (pc := 14) C dX7_between_14 (v := (0 : Int32)) (by decide) ?_
    refine z_istore (pc := 15) C dX7_between_15 (by decide) (show zput _ _ _ = [(4, .int (0 : Int32)), (3, .int (0 : Int32)), (0, .ref A.length), (1, .int x1), (2, .int x2)] from rfl) ?_
    exact z_subL [2, 3, 4, 1, 0] (wfX7_between_b17 C E FU M1 x1 x2 (0 : Int32) (0 : Int32) h) rfl
  · rw [if_neg c2] at h
    refine z_iconst (pc := 10) C dX7_between_10 (v := (-1 : Int32)) (by decide) ?_
    obtain rfl := Option.some.inj h
    exact z_iret (pc := 11) C E dX7_between_11 ⟨rfl, rfl⟩
theorem kX7_between (l : Launch) (D : va_G) (cA : Nat → ClassId) (b : Nat) (A : zH) (M : MS) (B : zH) (x1 : Int32) (x2 : Int32) (out : Int32 × MS) (h : fX7_between M x1 x2 = some out) : zM l D cA b yX7_between cX7_between 5 (some .int) 1 25 [.ref A.length, .int x1, .int x2] (hG A M B) (poI out.1 (hG A out.2 B)) := z_entry rfl (Nat.le_of_ble_eq_true rfl) (fun X C E _ _ _ => wfX7_between C E M x1 x2 h)
def fX7_beginOf_b16 (M : MS) (k4 : Int32 → Int32 → Option Int32) (x2 : Int32) (x3 : Int32) : Option Int32 :=
    ob1 (fX7_begins M x2) fun v1 =>
    ob1 (fX7_flag v1) fun v2 =>
    zlet ((x3 - v2)) fun y3 =>
    zlet (x2 + (1 : Int32)) fun y4 =>
    k4 y4 y3
set_option maxRecDepth 100000 in
set_option maxHeartbeats 4000000 in
theorem wfX7_beginOf_b16 {X : zX} {A B : zH} {M : MS} {out : Int32} (C : zOK X cX7_beginOf yX7_beginOf.cls 4 (some .int) 1 21) (E : zPost X (poI out (hG A M B))) (k4 : Int32 → Int32 → Option Int32) (hk4 : ∀ (x2 : Int32) (x3 : Int32), k4 x2 x3 = some out → zZ X 4 [(0, .ref A.length), (2, .int x2), (3, .int x3)] [] (hG A M B)) (x2 : Int32) (x3 : Int32) (h : fX7_beginOf_b16 M k4 x2 x3 = some out) : zZ X 16 [(0, .ref A.length), (2, .int x2), (3, .int x3)] [] (hG A M B) := by
  rw [fX7_beginOf_b16] at h
  refine z_iload_n (pc := 16) C 2 dX7_beginOf_16 rfl rfl ?_
  refine z_aload_n (pc := 17) C 0 dX7_beginOf_17 rfl rfl ?_
  refine z_iload_n (pc := 18) C 1 dX7_beginOf_18 rfl rfl ?_
  obtain ⟨v1, ev1, h⟩ := ob1_eq h
  refine z_callVi (h := A.length) (As := [.int x2]) (rest := [.int x3]) (pc := 19) C dX7_beginOf_19 ml_X7_130 (kX7_begins _ _ _ _ A M B x2 v1 ev1) (hM_o A M B) rfl rfl rfl (Nat.le_of_ble_eq_true rfl) (by decide) ?_
  obtain ⟨v2, ev2, h⟩ := ob1_eq h
  refine z_callSi (As := [.int v1]) (rest := [.int x3]) (pc := 22) C dX7_beginOf_22 ml_X7_119 (kX7_flag _ _ _ _ (hG A M B) v1 v2 ev2) rfl rfl (Nat.le_of_ble_eq_true rfl) (by decide) ?_
  refine z_isub (pc := 25) C dX7_beginOf_25 ?_
  obtain ⟨y3, ey3, h⟩ := zlet_eq h
  refine z_topi ey3 ?_
  refine z_istore_n (pc := 26) C dX7_beginOf_26 rfl (by decide) (show zput _ _ _ = [(3, .int y3), (0, .ref A.length), (2, .int x2)] from rfl) ?_
  obtain ⟨y4, ey4, h⟩ := zlet_eq h
  refine z_iinc (pc := 27) (v := y4) C 2 dX7_beginOf_27 rfl (by rw [ey4]; rfl) (by decide) (show zput _ _ _ = [(2, .int y4), (3, .int y3), (0, .ref A.length)] from rfl) ?_
  refine z_goto (pc := 30) C dX7_beginOf_30 (tgt := 4) (by decide) ?_
  exact z_subL [2, 0, 1] (hk4 y4 y3 h) rfl
def fX7_beginOf_b4 (M : MS) : Nat → Int32 → Int32 → Option Int32
  | 0, _, _ => none
  | n + 1, x2, x3 =>
    if 0 < x3 then (fX7_beginOf_b16 M (fX7_beginOf_b4 M n) x2 x3) else
    ob1 (fX7_begins M x2) fun v2 =>
    if v2 = 0 then (fX7_beginOf_b16 M (fX7_beginOf_b4 M n) x2 x3) else
    some x2
set_option maxRecDepth 100000 in
set_option maxHeartbeats 4000000 in
theorem wfX7_beginOf_b4 {X : zX} {A B : zH} {M : MS} {out : Int32} (C : zOK X cX7_beginOf yX7_beginOf.cls 4 (some .int) 1 21) (E : zPost X (poI out (hG A M B))) : ∀ (n : Nat) (x2 : Int32) (x3 : Int32) (h : fX7_beginOf_b4 M n x2 x3 = some out), zZ X 4 [(0, .ref A.length), (2, .int x2), (3, .int x3)] [] (hG A M B) := by
  intro n
  induction n with
  | zero => intro x2 x3 h; cases h
  | succ n ih =>
    intro x2 x3 h
    rw [fX7_beginOf_b4] at h
    refine z_iload_n (pc := 4) C 2 dX7_beginOf_4 rfl rfl ?_
    refine z_if_gt (pc := 5) C dX7_beginOf_5 (tgt := 16) (by decide) (fun c1 => ?_) (fun c1 => ?_)
    · rw [if_pos c1] at h
      exact z_subL [0, 1, 2] (wfX7_beginOf_b16 C E (fX7_beginOf_b4 M n) ih x2 x3 h) rfl
    · rw [if_neg c1] at h
      refine z_aload_n (pc := 8) C 0 dX7_beginOf_8 rfl rfl ?_
      refine z_iload_n (pc := 9) C 1 dX7_beginOf_9 rfl rfl ?_
      obtain ⟨v2, ev2, h⟩ := ob1_eq h
      refine z_callVi (h := A.length) (As := [.int x2]) (rest := []) (pc := 10) C dX7_beginOf_10 ml_X7_130 (kX7_begins _ _ _ _ A M B x2 v2 ev2) (hM_o A M B) rfl rfl rfl (Nat.le_of_ble_eq_true rfl) (by decide) ?_
      refine z_if_ne (pc := 13) C dX7_beginOf_13 (tgt := 33) (by decide) (fun c3 => ?_) (fun c3 => ?_)
      · rw [if_neg c3] at h
        refine z_iload_n (pc := 33) C 1 dX7_beginOf_33 rfl rfl ?_
        obtain rfl := Option.some.inj h
        exact z_iret (pc := 34) C E dX7_beginOf_34 ⟨rfl, rfl⟩
      · rw [if_pos c3] at h
        exact z_subL [0, 1, 2] (wfX7_beginOf_b16 C E (fX7_beginOf_b4 M n) ih x2 x3 h) rfl
def fX7_beginOf (M : MS) (x1 : Int32) : Option Int32 :=
    fX7_beginOf_b4 M FU (0 : Int32) x1
set_option maxRecDepth 100000 in
set_option maxHeartbeats 4000000 in
theorem wfX7_beginOf {X : zX} {A B : zH} {M : MS} {out : Int32} (C : zOK X cX7_beginOf yX7_beginOf.cls 4 (some .int) 1 21) (E : zPost X (poI out (hG A M B))) (x1 : Int32) (h : fX7_beginOf M x1 = some out) : zZ X 0 [(0, .ref A.length), (1, .int x1)] [] (hG A M B) := by
  rw [fX7_beginOf] at h
  refine z_iconst (pc := 0) C dX7_beginOf_0 (v := (0 : Int32)) (by decide) ?_
  refine z_istore_n (pc := 1) C dX7_beginOf_1 rfl (by decide) (show zput _ _ _ = [(2, .int (0 : Int32)), (0, .ref A.length), (1, .int x1)] from rfl) ?_
  refine z_iload_n (pc := 2) C 2 dX7_beginOf_2 rfl rfl ?_
  refine z_istore_n (pc := 3) C dX7_beginOf_3 rfl (by decide) (show zput _ _ _ = [(3, .int x1), (2, .int (0 : Int32)), (0, .ref A.length), (1, .int x1)] from rfl) ?_
  exact z_subL [2, 1, 0] (wfX7_beginOf_b4 C E FU (0 : Int32) x1 h) rfl
theorem kX7_beginOf (l : Launch) (D : va_G) (cA : Nat → ClassId) (b : Nat) (A : zH) (M : MS) (B : zH) (x1 : Int32) (out : Int32) (h : fX7_beginOf M x1 = some out) : zM l D cA b yX7_beginOf cX7_beginOf 4 (some .int) 1 21 [.ref A.length, .int x1] (hG A M B) (poI out (hG A M B)) := z_entry rfl (Nat.le_of_ble_eq_true rfl) (fun X C E _ _ _ => wfX7_beginOf C E x1 h)
def fX7_endOf_b4 (M : MS) : Nat → Int32 → Option Int32
  | 0, _ => none
  | n + 1, x2 =>
    if (M.1 11) ≤ x2 then (some x2) else
    ob1 (fX7_begins M x2) fun v2 =>
    if v2 = 0 then (zlet (x2 + (1 : Int32)) fun y4 =>
    (fX7_endOf_b4 M n) y4) else
    some x2
set_option maxRecDepth 100000 in
set_option maxHeartbeats 4000000 in
theorem wfX7_endOf_b4 {X : zX} {A B : zH} {M : MS} {out : Int32} (C : zOK X cX7_endOf yX7_endOf.cls 3 (some .int) 1 21) (E : zPost X (poI out (hG A M B))) : ∀ (n : Nat) (x2 : Int32) (h : fX7_endOf_b4 M n x2 = some out), zZ X 4 [(0, .ref A.length), (2, .int x2)] [] (hG A M B) := by
  intro n
  induction n with
  | zero => intro x2 h; cases h
  | succ n ih =>
    intro x2 h
    rw [fX7_endOf_b4] at h
    refine z_iload_n (pc := 4) C 1 dX7_endOf_4 rfl rfl ?_
    refine z_aload_n (pc := 5) C 0 dX7_endOf_5 rfl rfl ?_
    refine z_get (pc := 6) C dX7_endOf_6 fl_X7_123 (hM_o A M B) rfl ?_
    refine z_ic_ge (pc := 9) C dX7_endOf_9 (tgt := 26) (by decide) (fun c1 => ?_) (fun c1 => ?_)
    · rw [if_pos c1] at h
      refine z_iload_n (pc := 26) C 1 dX7_endOf_26 rfl rfl ?_
      obtain rfl := Option.some.inj h
      exact z_iret (pc := 27) C E dX7_endOf_27 ⟨rfl, rfl⟩
    · rw [if_neg c1] at h
      refine z_aload_n (pc := 12) C 0 dX7_endOf_12 rfl rfl ?_
      refine z_iload_n (pc := 13) C 1 dX7_endOf_13 rfl rfl ?_
      obtain ⟨v2, ev2, h⟩ := ob1_eq h
      refine z_callVi (h := A.length) (As := [.int x2]) (rest := []) (pc := 14) C dX7_endOf_14 ml_X7_130 (kX7_begins _ _ _ _ A M B x2 v2 ev2) (hM_o A M B) rfl rfl rfl (Nat.le_of_ble_eq_true rfl) (by decide) ?_
      refine z_if_ne (pc := 17) C dX7_endOf_17 (tgt := 26) (by decide) (fun c3 => ?_) (fun c3 => ?_)
      · rw [if_neg c3] at h
        refine z_iload_n (pc := 26) C 1 dX7_endOf_26 rfl rfl ?_
        obtain rfl := Option.some.inj h
        exact z_iret (pc := 27) C E dX7_endOf_27 ⟨rfl, rfl⟩
      · rw [if_pos c3] at h
        obtain ⟨y4, ey4, h⟩ := zlet_eq h
        refine z_iinc (pc := 20) (v := y4) C 1 dX7_endOf_20 rfl (by rw [ey4]; rfl) (by decide) (show zput _ _ _ = [(2, .int y4), (0, .ref A.length)] from rfl) ?_
        refine z_goto (pc := 23) C dX7_endOf_23 (tgt := 4) (by decide) ?_
        exact z_subL [1, 0] (ih y4 h) rfl
def fX7_endOf (M : MS) (x1 : Int32) : Option Int32 :=
    zlet ((x1 + (1 : Int32))) fun y1 =>
    fX7_endOf_b4 M FU y1
set_option maxRecDepth 100000 in
set_option maxHeartbeats 4000000 in
theorem wfX7_endOf {X : zX} {A B : zH} {M : MS} {out : Int32} (C : zOK X cX7_endOf yX7_endOf.cls 3 (some .int) 1 21) (E : zPost X (poI out (hG A M B))) (x1 : Int32) (h : fX7_endOf M x1 = some out) : zZ X 0 [(0, .ref A.length), (1, .int x1)] [] (hG A M B) := by
  rw [fX7_endOf] at h
  refine z_iload_n (pc := 0) C 1 dX7_endOf_0 rfl rfl ?_
  refine z_iconst (pc := 1) C dX7_endOf_1 (v := (1 : Int32)) (by decide) ?_
  refine z_iadd (pc := 2) C dX7_endOf_2 ?_
  obtain ⟨y1, ey1, h⟩ := zlet_eq h
  refine z_topi ey1 ?_
  refine z_istore_n (pc := 3) C dX7_endOf_3 rfl (by decide) (show zput _ _ _ = [(2, .int y1), (0, .ref A.length), (1, .int x1)] from rfl) ?_
  exact z_subL [1, 0] (wfX7_endOf_b4 C E FU y1 h) rfl
theorem kX7_endOf (l : Launch) (D : va_G) (cA : Nat → ClassId) (b : Nat) (A : zH) (M : MS) (B : zH) (x1 : Int32) (out : Int32) (h : fX7_endOf M x1 = some out) : zM l D cA b yX7_endOf cX7_endOf 3 (some .int) 1 21 [.ref A.length, .int x1] (hG A M B) (poI out (hG A M B)) := z_entry rfl (Nat.le_of_ble_eq_true rfl) (fun X C E _ _ _ => wfX7_endOf C E x1 h)
def fX7_piece_b33 (M : MS) : Option (Int32 × MS) :=
    ob2 (fX7_refuse M ) fun v2 M1 =>
    some (v2, M1)
set_option maxRecDepth 100000 in
set_option maxHeartbeats 4000000 in
theorem wfX7_piece_b33 {X : zX} {A B : zH} {out : Int32 × MS} (C : zOK X cX7_piece yX7_piece.cls 4 (some .int) 3 66) (E : zPost X (poI out.1 (hG A out.2 B))) (M : MS) (h : fX7_piece_b33 M = some out) : zZ X 33 [(0, .ref A.length)] [] (hG A M B) := by
  rw [fX7_piece_b33] at h
  refine z_aload_n (pc := 33) C 0 dX7_piece_33 rfl rfl ?_
  obtain ⟨v2, M1, ev2, h⟩ := ob2_eq h
  refine z_callVi (h := A.length) (As := []) (rest := []) (pc := 34) C dX7_piece_34 ml_X7_196 (kX7_refuse _ _ _ _ A M B  (v2, M1) ev2) (hM_o A M B) rfl rfl rfl (Nat.le_of_ble_eq_true rfl) (by decide) ?_
  obtain rfl := Option.some.inj h
  exact z_iret (pc := 37) C E dX7_piece_37 ⟨rfl, rfl⟩
def fX7_piece (M : MS) (x1 : Int32) (x2 : Int32) : Option (Int32 × MS) :=
    zlet (mI M 0 (0 : Int32)) fun M1 =>
    ob1 (fX7_pieces M1 ) fun v2 =>
    ob1 (fX7_in x1.toInt64 (0 : Int64) ((v2 - (1 : Int32)).toInt64)) fun v3 =>
    if v3 = 0 then (fX7_piece_b33 M1) else
    ob1 (fX7_in x2.toInt64 (0 : Int64) (4 : Int64)) fun v5 =>
    if v5 = 0 then (fX7_piece_b33 M1) else
    ob1 (fX7_beginOf M1 x1) fun v7 =>
    if x2 = (0 : Int32) then (ob1 (fX7_storeAt M1 v7) fun v9 =>
    some (v9, M1)) else
    if x2 = (1 : Int32) then (ob1 (fX7_placeAt M1 v7) fun v11 =>
    some (v11, M1)) else
    if x2 = (2 : Int32) then (ob1 (fX7_endOf M1 v7) fun v13 =>
    some ((v13 - v7), M1)) else
    if x2 = (3 : Int32) then (ob1 (fX7_endOf M1 v7) fun v15 =>
    ob1 (fX7_breaksAhead M1 v15) fun v16 =>
    ob1 (fX7_breaksAhead M1 v7) fun v17 =>
    some ((v16 - v17), M1)) else
    if x2.toInt < 0 ∨ 3 < x2.toInt then (some (v7, M1)) else none
set_option maxRecDepth 100000 in
set_option maxHeartbeats 4000000 in
theorem wfX7_piece {X : zX} {A B : zH} {out : Int32 × MS} (C : zOK X cX7_piece yX7_piece.cls 4 (some .int) 3 66) (E : zPost X (poI out.1 (hG A out.2 B))) (M : MS) (x1 : Int32) (x2 : Int32) (h : fX7_piece M x1 x2 = some out) : zZ X 0 [(0, .ref A.length), (1, .int x1), (2, .int x2)] [] (hG A M B) := by
  rw [fX7_piece] at h
  refine z_aload_n (pc := 0) C 0 dX7_piece_0 rfl rfl ?_
  refine z_iconst (pc := 1) C dX7_piece_1 (v := (0 : Int32)) (by decide) ?_
  obtain ⟨M1, eM1, h⟩ := zlet_eq h
  refine z_put (pc := 2) C dX7_piece_2 fl_X7_1w (hM_o A M B) (fun _ => rfl) (fun _ => rfl) (Nat.le_of_ble_eq_true rfl) (hMi_0 A B eM1) ?_
  refine z_iload_n (pc := 5) C 1 dX7_piece_5 rfl rfl ?_
  refine z_i2l (pc := 6) C dX7_piece_6 ?_
  refine z_lconst (pc := 7) C dX7_piece_7 (v := (0 : Int64)) (by decide) ?_
  refine z_aload_n (pc := 8) C 0 dX7_piece_8 rfl rfl ?_
  obtain ⟨v2, ev2, h⟩ := ob1_eq h
  refine z_callVi (h := A.length) (As := []) (rest := [.long (0 : Int64), .long x1.toInt64]) (pc := 9) C dX7_piece_9 ml_X7_315 (kX7_pieces _ _ _ _ A M1 B  v2 ev2) (hM_o A M1 B) rfl rfl rfl (Nat.le_of_ble_eq_true rfl) (by decide) ?_
  refine z_iconst (pc := 12) C dX7_piece_12 (v := (1 : Int32)) (by decide) ?_
  refine z_isub (pc := 13) C dX7_piece_13 ?_
  refine z_i2l (pc := 14) C dX7_piece_14 ?_
  obtain ⟨v3, ev3, h⟩ := ob1_eq h
  refine z_callSi (As := [.long x1.toInt64, .long (0 : Int64), .long ((v2 - (1 : Int32)).toInt64)]) (rest := []) (pc := 15) C dX7_piece_15 ml_X7_21 (kX7_in _ _ _ _ (hG A M1 B) x1.toInt64 (0 : Int64) ((v2 - (1 : Int32)).toInt64) v3 ev3) rfl rfl (Nat.le_of_ble_eq_true rfl) (by decide) ?_
  refine z_if_eq (pc := 18) C dX7_piece_18 (tgt := 33) (by decide) (fun c4 => ?_) (fun c4 => ?_)
  · rw [if_pos c4] at h
    exact z_subL [0] (wfX7_piece_b33 C E M1 h) rfl
  · rw [if_neg c4] at h
    refine z_iload_n (pc := 21) C 2 dX7_piece_21 rfl rfl ?_
    refine z_i2l (pc := 22) C dX7_piece_22 ?_
    refine z_lconst (pc := 23) C dX7_piece_23 (v := (0 : Int64)) (by decide) ?_
    refine z_ldc2 (pc := 24) C dX7_piece_24 cn_X7_318 ?_
    obtain ⟨v5, ev5, h⟩ := ob1_eq h
    refine z_callSi (As := [.long x2.toInt64, .long (0 : Int64), .long (4 : Int64)]) (rest := []) (pc := 27) C dX7_piece_27 ml_X7_21 (kX7_in _ _ _ _ (hG A M1 B) x2.toInt64 (0 : Int64) (4 : Int64) v5 ev5) rfl rfl (Nat.le_of_ble_eq_true rfl) (by decide) ?_
    refine z_if_ne (pc := 30) C dX7_piece_30 (tgt := 38) (by decide) (fun c6 => ?_) (fun c6 => ?_)
    · rw [if_neg c6] at h
      refine z_aload_n (pc := 38) C 0 dX7_piece_38 rfl rfl ?_
      refine z_iload_n (pc := 39) C 1 dX7_piece_39 rfl rfl ?_
      obtain ⟨v7, ev7, h⟩ := ob1_eq h
      refine z_callVi (h := A.length) (As := [.int x1]) (rest := []) (pc := 40) C dX7_piece_40 ml_X7_320 (kX7_beginOf _ _ _ _ A M1 B x1 v7 ev7) (hM_o A M1 B) rfl rfl rfl (Nat.le_of_ble_eq_true rfl) (by decide) ?_
      refine z_istore_n (pc := 43) C dX7_piece_43 rfl (by decide) (show zput _ _ _ = [(3, .int v7), (0, .ref A.length), (1, .int x1), (2, .int x2)] from rfl) ?_
      refine z_iload_n (pc := 44) C 3 dX7_piece_44 rfl rfl ?_
      by_cases c8 : x2 = (0 : Int32)
      · rw [if_pos c8] at h
        refine z_tableIn (pc := 45) (tgt := 76) (off := 31) C dX7_piece_45 (by rw [c8]; decide) (by rw [c8]; decide) (by rw [c8]; decide) (by decide) ?_
        refine z_aload_n (pc := 76) C 1 dX7_piece_76 rfl rfl ?_
        refine z_iload_n (pc := 77) C 0 dX7_piece_77 rfl rfl ?_
        obtain ⟨v9, ev9, h⟩ := ob1_eq h
        refine z_callVi (h := A.length) (As := [.int v7]) (rest := []) (pc := 78) C dX7_piece_78 ml_X7_108 (kX7_storeAt _ _ _ _ A M1 B v7 v9 ev9) (hM_o A M1 B) rfl rfl rfl (Nat.le_of_ble_eq_true rfl) (by decide) ?_
        obtain rfl := Option.some.inj h
        exact z_iret (pc := 81) C E dX7_piece_81 ⟨rfl, rfl⟩
      rw [if_neg c8] at h
      by_cases c10 : x2 = (1 : Int32)
      · rw [if_pos c10] at h
        refine z_tableIn (pc := 45) (tgt := 82) (off := 37) C dX7_piece_45 (by rw [c10]; decide) (by rw [c10]; decide) (by rw [c10]; decide) (by decide) ?_
        refine z_aload_n (pc := 82) C 1 dX7_piece_82 rfl rfl ?_
        refine z_iload_n (pc := 83) C 0 dX7_piece_83 rfl rfl ?_
        obtain ⟨v11, ev11, h⟩ := ob1_eq h
        refine z_callVi (h := A.length) (As := [.int v7]) (rest := []) (pc := 84) C dX7_piece_84 ml_X7_112 (kX7_placeAt _ _ _ _ A M1 B v7 v11 ev11) (hM_o A M1 B) rfl rfl rfl (Nat.le_of_ble_eq_true rfl) (by decide) ?_
        obtain rfl := Option.some.inj h
        exact z_iret (pc := 87) C E dX7_piece_87 ⟨rfl, rfl⟩
      rw [if_neg c10] at h
      by_cases c12 : x2 = (2 : Int32)
      · rw [if_pos c12] at h
        refine z_tableIn (pc := 45) (tgt := 88) (off := 43) C dX7_piece_45 (by rw [c12]; decide) (by rw [c12]; decide) (by rw [c12]; decide) (by decide) ?_
        refine z_aload_n (pc := 88) C 1 dX7_piece_88 rfl rfl ?_
        refine z_iload_n (pc := 89) C 0 dX7_piece_89 rfl rfl ?_
        obtain ⟨v13, ev13, h⟩ := ob1_eq h
        refine z_callVi (h := A.length) (As := [.int v7]) (rest := []) (pc := 90) C dX7_piece_90 ml_X7_323 (kX7_endOf _ _ _ _ A M1 B v7 v13 ev13) (hM_o A M1 B) rfl rfl rfl (Nat.le_of_ble_eq_true rfl) (by decide) ?_
        refine z_iload_n (pc := 93) C 0 dX7_piece_93 rfl rfl ?_
        refine z_isub (pc := 94) C dX7_piece_94 ?_
        obtain rfl := Option.some.inj h
        exact z_iret (pc := 95) C E dX7_piece_95 ⟨rfl, rfl⟩
      rw [if_neg c12] at h
      by_cases c14 : x2 = (3 : Int32)
      · rw [if_pos c14] at h
        refine z_tableIn (pc := 45) (tgt := 96) (off := 51) C dX7_piece_45 (by rw [c14]; decide) (by rw [c14]; decide) (by rw [c14]; decide) (by decide) ?_
        refine z_aload_n (pc := 96) C 1 dX7_piece_96 rfl rfl ?_
        refine z_aload_n (pc := 97) C 1 dX7_piece_97 rfl rfl ?_
        refine z_iload_n (pc := 98) C 0 dX7_piece_98 rfl rfl ?_
        obtain ⟨v15, ev15, h⟩ := ob1_eq h
        refine z_callVi (h := A.length) (As := [.int v7]) (rest := [.ref A.length]) (pc := 99) C dX7_piece_99 ml_X7_323 (kX7_endOf _ _ _ _ A M1 B v7 v15 ev15) (hM_o A M1 B) rfl rfl rfl (Nat.le_of_ble_eq_true rfl) (by decide) ?_
        obtain ⟨v16, ev16, h⟩ := ob1_eq h
        refine z_callVi (h := A.length) (As := [.int v15]) (rest := []) (pc := 102) C dX7_piece_102 ml_X7_304 (kX7_breaksAhead _ _ _ _ A M1 B v15 v16 ev16) (hM_o A M1 B) rfl rfl rfl (Nat.le_of_ble_eq_true rfl) (by decide) ?_
        refine z_aload_n (pc := 105) C 1 dX7_piece_105 rfl rfl ?_
        refine z_iload_n (pc := 106) C 0 dX7_piece_106 rfl rfl ?_
        obtain ⟨v17, ev17, h⟩ := ob1_eq h
        refine z_callVi (h := A.length) (As := [.int v7]) (rest := [.int v16]) (pc := 107) C dX7_piece_107 ml_X7_304 (kX7_breaksAhead _ _ _ _ A M1 B v7 v17 ev17) (hM_o A M1 B) rfl rfl rfl (Nat.le_of_ble_eq_true rfl) (by decide) ?_
        refine z_isub (pc := 110) C dX7_piece_110 ?_
        obtain rfl := Option.some.inj h
        exact z_iret (pc := 111) C E dX7_piece_111 ⟨rfl, rfl⟩
      rw [if_neg c14] at h
      by_cases c18 : x2.toInt < 0 ∨ 3 < x2.toInt
      · rw [if_pos c18] at h
        refine z_tableOut (pc := 45) (tgt := 112) C dX7_piece_45 c18 (by decide) ?_
        refine z_iload_n (pc := 112) C 0 dX7_piece_112 rfl rfl ?_
        obtain rfl := Option.some.inj h
        exact z_iret (pc := 113) C E dX7_piece_113 ⟨rfl, rfl⟩
      · rw [if_neg c18] at h
        cases h
    · rw [if_pos c6] at h
      exact z_subL [0] (wfX7_piece_b33 C E M1 h) rfl
theorem kX7_piece (l : Launch) (D : va_G) (cA : Nat → ClassId) (b : Nat) (A : zH) (M : MS) (B : zH) (x1 : Int32) (x2 : Int32) (out : Int32 × MS) (h : fX7_piece M x1 x2 = some out) : zM l D cA b yX7_piece cX7_piece 4 (some .int) 3 66 [.ref A.length, .int x1, .int x2] (hG A M B) (poI out.1 (hG A out.2 B)) := z_entry rfl (Nat.le_of_ble_eq_true rfl) (fun X C E _ _ _ => wfX7_piece C E M x1 x2 h)
def fX7_beginningsTo_b4 (M : MS) : Nat → Int32 → Int32 → Int32 → Option Int32
  | 0, _, _, _ => none
  | n + 1, x1, x2, x3 =>
    if x1 < x3 then (some x2) else
    ob1 (fX7_begins M x3) fun v2 =>
    ob1 (fX7_flag v2) fun v3 =>
    zlet ((x2 + v3)) fun y4 =>
    zlet (x3 + (1 : Int32)) fun y5 =>
    (fX7_beginningsTo_b4 M n) x1 y4 y5
set_option maxRecDepth 100000 in
set_option maxHeartbeats 4000000 in
theorem wfX7_beginningsTo_b4 {X : zX} {A B : zH} {M : MS} {out : Int32} (C : zOK X cX7_beginningsTo yX7_beginningsTo.cls 4 (some .int) 1 21) (E : zPost X (poI out (hG A M B))) : ∀ (n : Nat) (x1 : Int32) (x2 : Int32) (x3 : Int32) (h : fX7_beginningsTo_b4 M n x1 x2 x3 = some out), zZ X 4 [(0, .ref A.length), (1, .int x1), (2, .int x2), (3, .int x3)] [] (hG A M B) := by
  intro n
  induction n with
  | zero => intro x1 x2 x3 h; cases h
  | succ n ih =>
    intro x1 x2 x3 h
    rw [fX7_beginningsTo_b4] at h
    refine z_iload_n (pc := 4) C 3 dX7_beginningsTo_4 rfl rfl ?_
    refine z_iload_n (pc := 5) C 1 dX7_beginningsTo_5 rfl rfl ?_
    refine z_ic_gt (pc := 6) C dX7_beginningsTo_6 (tgt := 26) (by decide) (fun c1 => ?_) (fun c1 => ?_)
    · rw [if_pos c1] at h
      refine z_iload_n (pc := 26) C 2 dX7_beginningsTo_26 rfl rfl ?_
      obtain rfl := Option.some.inj h
      exact z_iret (pc := 27) C E dX7_beginningsTo_27 ⟨rfl, rfl⟩
    · rw [if_neg c1] at h
      refine z_iload_n (pc := 9) C 2 dX7_beginningsTo_9 rfl rfl ?_
      refine z_aload_n (pc := 10) C 0 dX7_beginningsTo_10 rfl rfl ?_
      refine z_iload_n (pc := 11) C 3 dX7_beginningsTo_11 rfl rfl ?_
      obtain ⟨v2, ev2, h⟩ := ob1_eq h
      refine z_callVi (h := A.length) (As := [.int x3]) (rest := [.int x2]) (pc := 12) C dX7_beginningsTo_12 ml_X7_130 (kX7_begins _ _ _ _ A M B x3 v2 ev2) (hM_o A M B) rfl rfl rfl (Nat.le_of_ble_eq_true rfl) (by decide) ?_
      obtain ⟨v3, ev3, h⟩ := ob1_eq h
      refine z_callSi (As := [.int v2]) (rest := [.int x2]) (pc := 15) C dX7_beginningsTo_15 ml_X7_119 (kX7_flag _ _ _ _ (hG A M B) v2 v3 ev3) rfl rfl (Nat.le_of_ble_eq_true rfl) (by decide) ?_
      refine z_iadd (pc := 18) C dX7_beginningsTo_18 ?_
      obtain ⟨y4, ey4, h⟩ := zlet_eq h
      refine z_topi ey4 ?_
      refine z_istore_n (pc := 19) C dX7_beginningsTo_19 rfl (by decide) (show zput _ _ _ = [(2, .int y4), (0, .ref A.length), (1, .int x1), (3, .int x3)] from rfl) ?_
      obtain ⟨y5, ey5, h⟩ := zlet_eq h
      refine z_iinc (pc := 20) (v := y5) C 3 dX7_beginningsTo_20 rfl (by rw [ey5]; rfl) (by decide) (show zput _ _ _ = [(3, .int y5), (2, .int y4), (0, .ref A.length), (1, .int x1)] from rfl) ?_
      refine z_goto (pc := 23) C dX7_beginningsTo_23 (tgt := 4) (by decide) ?_
      exact z_subL [2, 3, 1, 0] (ih x1 y4 y5 h) rfl
def fX7_beginningsTo (M : MS) (x1 : Int32) : Option Int32 :=
    fX7_beginningsTo_b4 M FU x1 (0 : Int32) (0 : Int32)
set_option maxRecDepth 100000 in
set_option maxHeartbeats 4000000 in
theorem wfX7_beginningsTo {X : zX} {A B : zH} {M : MS} {out : Int32} (C : zOK X cX7_beginningsTo yX7_beginningsTo.cls 4 (some .int) 1 21) (E : zPost X (poI out (hG A M B))) (x1 : Int32) (h : fX7_beginningsTo M x1 = some out) : zZ X 0 [(0, .ref A.length), (1, .int x1)] [] (hG A M B) := by
  rw [fX7_beginningsTo] at h
  refine z_iconst (pc := 0) C dX7_beginningsTo_0 (v := (0 : Int32)) (by decide) ?_
  refine z_istore_n (pc := 1) C dX7_beginningsTo_1 rfl (by decide) (show zput _ _ _ = [(2, .int (0 : Int32)), (0, .ref A.length), (1, .int x1)] from rfl) ?_
  refine z_iconst (pc := 2) C dX7_beginningsTo_2 (v := (0 : Int32)) (by decide) ?_
  refine z_istore_n (pc := 3) C dX7_beginningsTo_3 rfl (by decide) (show zput _ _ _ = [(3, .int (0 : Int32)), (2, .int (0 : Int32)), (0, .ref A.length), (1, .int x1)] from rfl) ?_
  exact z_subL [2, 3, 1, 0] (wfX7_beginningsTo_b4 C E FU x1 (0 : Int32) (0 : Int32) h) rfl
theorem kX7_beginningsTo (l : Launch) (D : va_G) (cA : Nat → ClassId) (b : Nat) (A : zH) (M : MS) (B : zH) (x1 : Int32) (out : Int32) (h : fX7_beginningsTo M x1 = some out) : zM l D cA b yX7_beginningsTo cX7_beginningsTo 4 (some .int) 1 21 [.ref A.length, .int x1] (hG A M B) (poI out (hG A M B)) := z_entry rfl (Nat.le_of_ble_eq_true rfl) (fun X C E _ _ _ => wfX7_beginningsTo C E x1 h)
def fX7_shows (M : MS) (x1 : Int32) : Option (Int32 × MS) :=
    zlet (mI M 0 (0 : Int32)) fun M1 =>
    ob1 (fX7_isSign M1 x1) fun v2 =>
    if v2 = 0 then (some ((-1 : Int32), M1)) else
    ob1 (fX7_beginningsTo M1 x1) fun v4 =>
    zlet ((v4 - (1 : Int32))) fun y5 =>
    zlet (mI M1 1 (0 : Int32)) fun M6 =>
    ob1 (fX7_beginOf M6 y5) fun v7 =>
    ob1 (fX7_enters M6 ((x1 - v7).toInt64)) fun M8 =>
    ob1 (fX7_storeAt M8 x1) fun v9 =>
    ob1 (fX7_enters M8 v9.toInt64) fun M10 =>
    ob1 (fX7_placeAt M10 x1) fun v11 =>
    ob1 (fX7_enters M10 v11.toInt64) fun M12 =>
    some (y5, M12)
set_option maxRecDepth 100000 in
set_option maxHeartbeats 4000000 in
theorem wfX7_shows {X : zX} {A B : zH} {out : Int32 × MS} (C : zOK X cX7_shows yX7_shows.cls 3 (some .int) 2 46) (E : zPost X (poI out.1 (hG A out.2 B))) (M : MS) (x1 : Int32) (h : fX7_shows M x1 = some out) : zZ X 0 [(0, .ref A.length), (1, .int x1)] [] (hG A M B) := by
  rw [fX7_shows] at h
  refine z_aload_n (pc := 0) C 0 dX7_shows_0 rfl rfl ?_
  refine z_iconst (pc := 1) C dX7_shows_1 (v := (0 : Int32)) (by decide) ?_
  obtain ⟨M1, eM1, h⟩ := zlet_eq h
  refine z_put (pc := 2) C dX7_shows_2 fl_X7_1w (hM_o A M B) (fun _ => rfl) (fun _ => rfl) (Nat.le_of_ble_eq_true rfl) (hMi_0 A B eM1) ?_
  refine z_aload_n (pc := 5) C 0 dX7_shows_5 rfl rfl ?_
  refine z_iload_n (pc := 6) C 1 dX7_shows_6 rfl rfl ?_
  obtain ⟨v2, ev2, h⟩ := ob1_eq h
  refine z_callVi (h := A.length) (As := [.int x1]) (rest := []) (pc := 7) C dX7_shows_7 ml_X7_299 (kX7_isSign _ _ _ _ A M1 B x1 v2 ev2) (hM_o A M1 B) rfl rfl rfl (Nat.le_of_ble_eq_true rfl) (by decide) ?_
  refine z_if_ne (pc := 10) C dX7_shows_10 (tgt := 15) (by decide) (fun c3 => ?_) (fun c3 => ?_)
  · rw [if_neg c3] at h
    refine z_aload_n (pc := 15) C 0 dX7_shows_15 rfl rfl ?_
    refine z_iload_n (pc := 16) C 1 dX7_shows_16 rfl rfl ?_
    obtain ⟨v4, ev4, h⟩ := ob1_eq h
    refine z_callVi (h := A.length) (As := [.int x1]) (rest := []) (pc := 17) C dX7_shows_17 ml_X7_326 (kX7_beginningsTo _ _ _ _ A M1 B x1 v4 ev4) (hM_o A M1 B) rfl rfl rfl (Nat.le_of_ble_eq_true rfl) (by decide) ?_
    refine z_iconst (pc := 20) C dX7_shows_20 (v := (1 : Int32)) (by decide) ?_
    refine z_isub (pc := 21) C dX7_shows_21 ?_
    obtain ⟨y5, ey5, h⟩ := zlet_eq h
    refine z_topi ey5 ?_
    refine z_istore_n (pc := 22) C dX7_shows_22 rfl (by decide) (show zput _ _ _ = [(2, .int y5), (0, .ref A.length), (1, .int x1)] from rfl) ?_
    refine z_aload_n (pc := 23) C 1 dX7_shows_23 rfl rfl ?_
    refine z_iconst (pc := 24) C dX7_shows_24 (v := (0 : Int32)) (by decide) ?_
    obtain ⟨M6, eM6, h⟩ := zlet_eq h
    refine z_put (pc := 25) C dX7_shows_25 fl_X7_11w (hM_o A M1 B) (fun _ => rfl) (fun _ => rfl) (Nat.le_of_ble_eq_true rfl) (hMi_1 A B eM6) ?_
    refine z_aload_n (pc := 28) C 1 dX7_shows_28 rfl rfl ?_
    refine z_iload_n (pc := 29) C 2 dX7_shows_29 rfl rfl ?_
    refine z_aload_n (pc := 30) C 1 dX7_shows_30 rfl rfl ?_
    refine z_iload_n (pc := 31) C 0 dX7_shows_31 rfl rfl ?_
    obtain ⟨v7, ev7, h⟩ := ob1_eq h
    refine z_callVi (h := A.length) (As := [.int y5]) (rest := [.int x1, .ref A.length]) (pc := 32) C dX7_shows_32 ml_X7_320 (kX7_beginOf _ _ _ _ A M6 B y5 v7 ev7) (hM_o A M6 B) rfl rfl rfl (Nat.le_of_ble_eq_true rfl) (by decide) ?_
    refine z_isub (pc := 35) C dX7_shows_35 ?_
    refine z_i2l (pc := 36) C dX7_shows_36 ?_
    obtain ⟨M8, eM8, h⟩ := ob1_eq h
    refine z_callVv (h := A.length) (As := [.long ((x1 - v7).toInt64)]) (rest := []) (pc := 37) C dX7_shows_37 ml_X7_295 (kX7_enters _ _ _ _ A M6 B ((x1 - v7).toInt64) M8 eM8) (hM_o A M6 B) rfl rfl rfl (Nat.le_of_ble_eq_true rfl) (by decide) ?_
    refine z_aload_n (pc := 40) C 1 dX7_shows_40 rfl rfl ?_
    refine z_aload_n (pc := 41) C 1 dX7_shows_41 rfl rfl ?_
    refine z_iload_n (pc := 42) C 2 dX7_shows_42 rfl rfl ?_
    obtain ⟨v9, ev9, h⟩ := ob1_eq h
    refine z_callVi (h := A.length) (As := [.int x1]) (rest := [.ref A.length]) (pc := 43) C dX7_shows_43 ml_X7_108 (kX7_storeAt _ _ _ _ A M8 B x1 v9 ev9) (hM_o A M8 B) rfl rfl rfl (Nat.le_of_ble_eq_true rfl) (by decide) ?_
    refine z_i2l (pc := 46) C dX7_shows_46 ?_
    obtain ⟨M10, eM10, h⟩ := ob1_eq h
    refine z_callVv (h := A.length) (As := [.long v9.toInt64]) (rest := []) (pc := 47) C dX7_shows_47 ml_X7_295 (kX7_enters _ _ _ _ A M8 B v9.toInt64 M10 eM10) (hM_o A M8 B) rfl rfl rfl (Nat.le_of_ble_eq_true rfl) (by decide) ?_
    refine z_aload_n (pc := 50) C 1 dX7_shows_50 rfl rfl ?_
    refine z_aload_n (pc := 51) C 1 dX7_shows_51 rfl rfl ?_
    refine z_iload_n (pc := 52) C 2 dX7_shows_52 rfl rfl ?_
    obtain ⟨v11, ev11, h⟩ := ob1_eq h
    refine z_callVi (h := A.length) (As := [.int x1]) (rest := [.ref A.length]) (pc := 53) C dX7_shows_53 ml_X7_112 (kX7_placeAt _ _ _ _ A M10 B x1 v11 ev11) (hM_o A M10 B) rfl rfl rfl (Nat.le_of_ble_eq_true rfl) (by decide) ?_
    refine z_i2l (pc := 56) C dX7_shows_56 ?_
    obtain ⟨M12, eM12, h⟩ := ob1_eq h
    refine z_callVv (h := A.length) (As := [.long v11.toInt64]) (rest := []) (pc := 57) C dX7_shows_57 ml_X7_295 (kX7_enters _ _ _ _ A M10 B v11.toInt64 M12 eM12) (hM_o A M10 B) rfl rfl rfl (Nat.le_of_ble_eq_true rfl) (by decide) ?_
    refine z_iload_n (pc := 60) C 0 dX7_shows_60 rfl rfl ?_
    obtain rfl := Option.some.inj h
    exact z_iret (pc := 61) C E dX7_shows_61 ⟨rfl, rfl⟩
  · rw [if_pos c3] at h
    refine z_iconst (pc := 13) C dX7_shows_13 (v := (-1 : Int32)) (by decide) ?_
    obtain rfl := Option.some.inj h
    exact z_iret (pc := 14) C E dX7_shows_14 ⟨rfl, rfl⟩
theorem kX7_shows (l : Launch) (D : va_G) (cA : Nat → ClassId) (b : Nat) (A : zH) (M : MS) (B : zH) (x1 : Int32) (out : Int32 × MS) (h : fX7_shows M x1 = some out) : zM l D cA b yX7_shows cX7_shows 3 (some .int) 2 46 [.ref A.length, .int x1] (hG A M B) (poI out.1 (hG A out.2 B)) := z_entry rfl (Nat.le_of_ble_eq_true rfl) (fun X C E _ _ _ => wfX7_shows C E M x1 h)
def fX7_from_b98 (k44 : MS → Int32 → Int32 → Int32 → Int32 → Option (Int32 × MS)) (M : MS) (x1 : Int32) (x2 : Int32) (x3 : Int32) (x4 : Int32) (x5 : Int32) : Option (Int32 × MS) :=
    ob1 (fX7_flag x5) fun v1 =>
    zlet ((x3 + v1)) fun y2 =>
    zlet (x4 + (1 : Int32)) fun y3 =>
    k44 M x1 x2 y2 y3
set_option maxRecDepth 100000 in
set_option maxHeartbeats 4000000 in
theorem wfX7_from_b98 {X : zX} {A B : zH} {out : Int32 × MS} (C : zOK X cX7_from yX7_from.cls 6 (some .int) 1 25) (E : zPost X (poI out.1 (hG A out.2 B))) (k44 : MS → Int32 → Int32 → Int32 → Int32 → Option (Int32 × MS)) (hk44 : ∀ (M : MS) (x1 : Int32) (x2 : Int32) (x3 : Int32) (x4 : Int32), k44 M x1 x2 x3 x4 = some out → zZ X 44 [(0, .ref A.length), (1, .int x1), (2, .int x2), (3, .int x3), (4, .int x4)] [] (hG A M B)) (M : MS) (x1 : Int32) (x2 : Int32) (x3 : Int32) (x4 : Int32) (x5 : Int32) (h : fX7_from_b98 k44 M x1 x2 x3 x4 x5 = some out) : zZ X 98 [(0, .ref A.length), (1, .int x1), (2, .int x2), (3, .int x3), (4, .int x4), (5, .int x5)] [] (hG A M B) := by
  rw [fX7_from_b98] at h
  refine z_iload_n (pc := 98) C 3 dX7_from_98 rfl rfl ?_
  refine z_iload (pc := 99) C 5 dX7_from_99 rfl ?_
  obtain ⟨v1, ev1, h⟩ := ob1_eq h
  refine z_callSi (As := [.int x5]) (rest := [.int x3]) (pc := 101) C dX7_from_101 ml_X7_119 (kX7_flag _ _ _ _ (hG A M B) x5 v1 ev1) rfl rfl (Nat.le_of_ble_eq_true rfl) (by decide) ?_
  refine z_iadd (pc := 104) C dX7_from_104 ?_
  obtain ⟨y2, ey2, h⟩ := zlet_eq h
  refine z_topi ey2 ?_
  refine z_istore_n (pc := 105) C dX7_from_105 rfl (by decide) (show zput _ _ _ = [(3, .int y2), (0, .ref A.length), (1, .int x1), (2, .int x2), (4, .int x4), (5, .int x5)] from rfl) ?_
  obtain ⟨y3, ey3, h⟩ := zlet_eq h
  refine z_iinc (pc := 106) (v := y3) C 4 dX7_from_106 rfl (by rw [ey3]; rfl) (by decide) (show zput _ _ _ = [(4, .int y3), (3, .int y2), (0, .ref A.length), (1, .int x1), (2, .int x2), (5, .int x5)] from rfl) ?_
  refine z_goto (pc := 109) C dX7_from_109 (tgt := 44) (by decide) ?_
  exact z_subL [2, 3, 4, 1, 0] (hk44 M x1 x2 y2 y3 h) rfl
def fX7_from_b78 (k44 : MS → Int32 → Int32 → Int32 → Int32 → Option (Int32 × MS)) (M : MS) (x1 : Int32) (x2 : Int32) (x3 : Int32) (x4 : Int32) (s0 : Int32) : Option (Int32 × MS) :=
    if s0 = 0 then (fX7_from_b98 k44 M x1 x2 x3 x4 s0) else
    if (12 : Int32) ≤ x3 then (fX7_from_b98 k44 M x1 x2 x3 x4 s0) else
    ob1 (fX7_enters M x4.toInt64) fun M3 =>
    fX7_from_b98 k44 M3 x1 x2 x3 x4 s0
set_option maxRecDepth 100000 in
set_option maxHeartbeats 4000000 in
theorem wfX7_from_b78 {X : zX} {A B : zH} {out : Int32 × MS} (C : zOK X cX7_from yX7_from.cls 6 (some .int) 1 25) (E : zPost X (poI out.1 (hG A out.2 B))) (k44 : MS → Int32 → Int32 → Int32 → Int32 → Option (Int32 × MS)) (hk44 : ∀ (M : MS) (x1 : Int32) (x2 : Int32) (x3 : Int32) (x4 : Int32), k44 M x1 x2 x3 x4 = some out → zZ X 44 [(0, .ref A.length), (1, .int x1), (2, .int x2), (3, .int x3), (4, .int x4)] [] (hG A M B)) (M : MS) (x1 : Int32) (x2 : Int32) (x3 : Int32) (x4 : Int32) (s0 : Int32) (h : fX7_from_b78 k44 M x1 x2 x3 x4 s0 = some out) : zZ X 78 [(0, .ref A.length), (1, .int x1), (2, .int x2), (3, .int x3), (4, .int x4)] [.int s0] (hG A M B) := by
  rw [fX7_from_b78] at h
  refine z_istore (pc := 78) C dX7_from_78 (by decide) (show zput _ _ _ = [(5, .int s0), (0, .ref A.length), (1, .int x1), (2, .int x2), (3, .int x3), (4, .int x4)] from rfl) ?_
  refine z_iload (pc := 80) C 0 dX7_from_80 rfl ?_
  refine z_if_eq (pc := 82) C dX7_from_82 (tgt := 98) (by decide) (fun c1 => ?_) (fun c1 => ?_)
  · rw [if_pos c1] at h
    exact z_subL [1, 2, 3, 4, 5, 0] (wfX7_from_b98 C E k44 hk44 M x1 x2 x3 x4 s0 h) rfl
  · rw [if_neg c1] at h
    refine z_iload_n (pc := 85) C 4 dX7_from_85 rfl rfl ?_
    refine z_bipush (pc := 86) C dX7_from_86 (v := (12 : Int32)) (by decide) ?_
    refine z_ic_ge (pc := 88) C dX7_from_88 (tgt := 98) (by decide) (fun c2 => ?_) (fun c2 => ?_)
    · rw [if_pos c2] at h
      exact z_subL [1, 2, 3, 4, 5, 0] (wfX7_from_b98 C E k44 hk44 M x1 x2 x3 x4 s0 h) rfl
    · rw [if_neg c2] at h
      refine z_aload_n (pc := 91) C 1 dX7_from_91 rfl rfl ?_
      refine z_iload (pc := 92) C 5 dX7_from_92 rfl ?_
      refine z_i2l (pc := 94) C dX7_from_94 ?_
      obtain ⟨M3, eM3, h⟩ := ob1_eq h
      refine z_callVv (h := A.length) (As := [.long x4.toInt64]) (rest := []) (pc := 95) C dX7_from_95 ml_X7_295 (kX7_enters _ _ _ _ A M B x4.toInt64 M3 eM3) (hM_o A M B) rfl rfl rfl (Nat.le_of_ble_eq_true rfl) (by decide) ?_
      exact z_subL [1, 2, 3, 4, 5, 0] (wfX7_from_b98 C E k44 hk44 M3 x1 x2 x3 x4 s0 h) rfl
def fX7_from_b77 (k44 : MS → Int32 → Int32 → Int32 → Int32 → Option (Int32 × MS)) (M : MS) (x1 : Int32) (x2 : Int32) (x3 : Int32) (x4 : Int32) : Option (Int32 × MS) :=
    fX7_from_b78 k44 M x1 x2 x3 x4 (0 : Int32)
set_option maxRecDepth 100000 in
set_option maxHeartbeats 4000000 in
theorem wfX7_from_b77 {X : zX} {A B : zH} {out : Int32 × MS} (C : zOK X cX7_from yX7_from.cls 6 (some .int) 1 25) (E : zPost X (poI out.1 (hG A out.2 B))) (k44 : MS → Int32 → Int32 → Int32 → Int32 → Option (Int32 × MS)) (hk44 : ∀ (M : MS) (x1 : Int32) (x2 : Int32) (x3 : Int32) (x4 : Int32), k44 M x1 x2 x3 x4 = some out → zZ X 44 [(0, .ref A.length), (1, .int x1), (2, .int x2), (3, .int x3), (4, .int x4)] [] (hG A M B)) (M : MS) (x1 : Int32) (x2 : Int32) (x3 : Int32) (x4 : Int32) (h : fX7_from_b77 k44 M x1 x2 x3 x4 = some out) : zZ X 77 [(0, .ref A.length), (1, .int x1), (2, .int x2), (3, .int x3), (4, .int x4)] [] (hG A M B) := by
  rw [fX7_from_b77] at h
  refine z_iconst (pc := 77) C dX7_from_77 (v := (0 : Int32)) (by decide) ?_
  exact z_subL [0, 1, 2, 3, 4] (wfX7_from_b78 C E k44 hk44 M x1 x2 x3 x4 (0 : Int32) h) rfl
def fX7_from_b44 : Nat → MS → Int32 → Int32 → Int32 → Int32 → Option (Int32 × MS)
  | 0, _, _, _, _, _ => none
  | n + 1, M, x1, x2, x3, x4 =>
    if (M.1 11) ≤ x4 then (some (x3, M)) else
    ob1 (fX7_storeAt M x4) fun v2 =>
    if v2 = x1 then (ob1 (fX7_placeAt M x4) fun v4 =>
    if v4 = x2 then (fX7_from_b78 (fX7_from_b44 n) M x1 x2 x3 x4 (1 : Int32)) else
    fX7_from_b77 (fX7_from_b44 n) M x1 x2 x3 x4) else
    fX7_from_b77 (fX7_from_b44 n) M x1 x2 x3 x4
set_option maxRecDepth 100000 in
set_option maxHeartbeats 4000000 in
theorem wfX7_from_b44 {X : zX} {A B : zH} {out : Int32 × MS} (C : zOK X cX7_from yX7_from.cls 6 (some .int) 1 25) (E : zPost X (poI out.1 (hG A out.2 B))) : ∀ (n : Nat) (M : MS) (x1 : Int32) (x2 : Int32) (x3 : Int32) (x4 : Int32) (h : fX7_from_b44 n M x1 x2 x3 x4 = some out), zZ X 44 [(0, .ref A.length), (1, .int x1), (2, .int x2), (3, .int x3), (4, .int x4)] [] (hG A M B) := by
  intro n
  induction n with
  | zero => intro M x1 x2 x3 x4 h; cases h
  | succ n ih =>
    intro M x1 x2 x3 x4 h
    rw [fX7_from_b44] at h
    refine z_iload (pc := 44) C 4 dX7_from_44 rfl ?_
    refine z_aload_n (pc := 46) C 0 dX7_from_46 rfl rfl ?_
    refine z_get (pc := 47) C dX7_from_47 fl_X7_123 (hM_o A M B) rfl ?_
    refine z_ic_ge (pc := 50) C dX7_from_50 (tgt := 112) (by decide) (fun c1 => ?_) (fun c1 => ?_)
    · rw [if_pos c1] at h
      refine z_iload_n (pc := 112) C 3 dX7_from_112 rfl rfl ?_
      obtain rfl := Option.some.inj h
      exact z_iret (pc := 113) C E dX7_from_113 ⟨rfl, rfl⟩
    · rw [if_neg c1] at h
      refine z_aload_n (pc := 53) C 0 dX7_from_53 rfl rfl ?_
      refine z_iload (pc := 54) C 4 dX7_from_54 rfl ?_
      obtain ⟨v2, ev2, h⟩ := ob1_eq h
      refine z_callVi (h := A.length) (As := [.int x4]) (rest := []) (pc := 56) C dX7_from_56 ml_X7_108 (kX7_storeAt _ _ _ _ A M B x4 v2 ev2) (hM_o A M B) rfl rfl rfl (Nat.le_of_ble_eq_true rfl) (by decide) ?_
      refine z_iload_n (pc := 59) C 1 dX7_from_59 rfl rfl ?_
      refine z_ic_ne (pc := 60) C dX7_from_60 (tgt := 77) (by decide) (fun c3 => ?_) (fun c3 => ?_)
      · rw [if_neg c3] at h
        exact z_subL [0, 1, 2, 3, 4] (wfX7_from_b77 C E (fX7_from_b44 n) ih M x1 x2 x3 x4 h) rfl
      · rw [if_pos c3] at h
        refine z_aload_n (pc := 63) C 0 dX7_from_63 rfl rfl ?_
        refine z_iload (pc := 64) C 4 dX7_from_64 rfl ?_
        obtain ⟨v4, ev4, h⟩ := ob1_eq h
        refine z_callVi (h := A.length) (As := [.int x4]) (rest := []) (pc := 66) C dX7_from_66 ml_X7_112 (kX7_placeAt _ _ _ _ A M B x4 v4 ev4) (hM_o A M B) rfl rfl rfl (Nat.le_of_ble_eq_true rfl) (by decide) ?_
        refine z_iload_n (pc := 69) C 2 dX7_from_69 rfl rfl ?_
        refine z_ic_ne (pc := 70) C dX7_from_70 (tgt := 77) (by decide) (fun c5 => ?_) (fun c5 => ?_)
        · rw [if_neg c5] at h
          exact z_subL [0, 1, 2, 3, 4] (wfX7_from_b77 C E (fX7_from_b44 n) ih M x1 x2 x3 x4 h) rfl
        · rw [if_pos c5] at h
          refine z_iconst (pc := 73) C dX7_from_73 (v := (1 : Int32)) (by decide) ?_
          refine z_goto (pc := 74) C dX7_from_74 (tgt := 78) (by decide) ?_
          exact z_subL [0, 1, 2, 3, 4] (wfX7_from_b78 C E (fX7_from_b44 n) ih M x1 x2 x3 x4 (1 : Int32) h) rfl
def fX7_from (M : MS) (x1 : Int32) (x2 : Int32) : Option (Int32 × MS) :=
    zlet (mI M 0 (0 : Int32)) fun M1 =>
    ob1 (fX7_in x1.toInt64 (0 : Int64) (1 : Int64)) fun v2 =>
    if v2 = 0 then (some ((-1 : Int32), M1)) else
    ob1 (fX7_storeMany M1 x1) fun v4 =>
    ob1 (fX7_in x2.toInt64 (0 : Int64) ((v4 - (1 : Int32)).toInt64)) fun v5 =>
    if v5 = 0 then (some ((-1 : Int32), M1)) else
    zlet (mI M1 1 (0 : Int32)) fun M7 =>
    fX7_from_b44 FU M7 x1 x2 (0 : Int32) (0 : Int32)
set_option maxRecDepth 100000 in
set_option maxHeartbeats 4000000 in
theorem wfX7_from {X : zX} {A B : zH} {out : Int32 × MS} (C : zOK X cX7_from yX7_from.cls 6 (some .int) 1 25) (E : zPost X (poI out.1 (hG A out.2 B))) (M : MS) (x1 : Int32) (x2 : Int32) (h : fX7_from M x1 x2 = some out) : zZ X 0 [(0, .ref A.length), (1, .int x1), (2, .int x2)] [] (hG A M B) := by
  rw [fX7_from] at h
  refine z_aload_n (pc := 0) C 0 dX7_from_0 rfl rfl ?_
  refine z_iconst (pc := 1) C dX7_from_1 (v := (0 : Int32)) (by decide) ?_
  obtain ⟨M1, eM1, h⟩ := zlet_eq h
  refine z_put (pc := 2) C dX7_from_2 fl_X7_1w (hM_o A M B) (fun _ => rfl) (fun _ => rfl) (Nat.le_of_ble_eq_true rfl) (hMi_0 A B eM1) ?_
  refine z_iload_n (pc := 5) C 1 dX7_from_5 rfl rfl ?_
  refine z_i2l (pc := 6) C dX7_from_6 ?_
  refine z_lconst (pc := 7) C dX7_from_7 (v := (0 : Int64)) (by decide) ?_
  refine z_lconst (pc := 8) C dX7_from_8 (v := (1 : Int64)) (by decide) ?_
  obtain ⟨v2, ev2, h⟩ := ob1_eq h
  refine z_callSi (As := [.long x1.toInt64, .long (0 : Int64), .long (1 : Int64)]) (rest := []) (pc := 9) C dX7_from_9 ml_X7_21 (kX7_in _ _ _ _ (hG A M1 B) x1.toInt64 (0 : Int64) (1 : Int64) v2 ev2) rfl rfl (Nat.le_of_ble_eq_true rfl) (by decide) ?_
  refine z_if_eq (pc := 12) C dX7_from_12 (tgt := 32) (by decide) (fun c3 => ?_) (fun c3 => ?_)
  · rw [if_pos c3] at h
    refine z_iconst (pc := 32) C dX7_from_32 (v := (-1 : Int32)) (by decide) ?_
    obtain rfl := Option.some.inj h
    exact z_iret (pc := 33) C E dX7_from_33 ⟨rfl, rfl⟩
  · rw [if_neg c3] at h
    refine z_iload_n (pc := 15) C 2 dX7_from_15 rfl rfl ?_
    refine z_i2l (pc := 16) C dX7_from_16 ?_
    refine z_lconst (pc := 17) C dX7_from_17 (v := (0 : Int64)) (by decide) ?_
    refine z_aload_n (pc := 18) C 0 dX7_from_18 rfl rfl ?_
    refine z_iload_n (pc := 19) C 1 dX7_from_19 rfl rfl ?_
    obtain ⟨v4, ev4, h⟩ := ob1_eq h
    refine z_callVi (h := A.length) (As := [.int x1]) (rest := [.long (0 : Int64), .long x2.toInt64]) (pc := 20) C dX7_from_20 ml_X7_199 (kX7_storeMany _ _ _ _ A M1 B x1 v4 ev4) (hM_o A M1 B) rfl rfl rfl (Nat.le_of_ble_eq_true rfl) (by decide) ?_
    refine z_iconst (pc := 23) C dX7_from_23 (v := (1 : Int32)) (by decide) ?_
    refine z_isub (pc := 24) C dX7_from_24 ?_
    refine z_i2l (pc := 25) C dX7_from_25 ?_
    obtain ⟨v5, ev5, h⟩ := ob1_eq h
    refine z_callSi (As := [.long x2.toInt64, .long (0 : Int64), .long ((v4 - (1 : Int32)).toInt64)]) (rest := []) (pc := 26) C dX7_from_26 ml_X7_21 (kX7_in _ _ _ _ (hG A M1 B) x2.toInt64 (0 : Int64) ((v4 - (1 : Int32)).toInt64) v5 ev5) rfl rfl (Nat.le_of_ble_eq_true rfl) (by decide) ?_
    refine z_if_ne (pc := 29) C dX7_from_29 (tgt := 34) (by decide) (fun c6 => ?_) (fun c6 => ?_)
    · rw [if_neg c6] at h
      refine z_iconst (pc := 34) C dX7_from_34 (v := (0 : Int32)) (by decide) ?_
      refine z_istore_n (pc := 35) C dX7_from_35 rfl (by decide) (show zput _ _ _ = [(3, .int (0 : Int32)), (0, .ref A.length), (1, .int x1), (2, .int x2)] from rfl) ?_
      refine z_aload_n (pc := 36) C 1 dX7_from_36 rfl rfl ?_
      refine z_iconst (pc := 37) C dX7_from_37 (v := (0 : Int32)) (by decide) ?_
      obtain ⟨M7, eM7, h⟩ := zlet_eq h
      refine z_put (pc := 38) C dX7_from_38 fl_X7_11w (hM_o A M1 B) (fun _ => rfl) (fun _ => rfl) (Nat.le_of_ble_eq_true rfl) (hMi_1 A B eM7) ?_
      refine z_iconst (pc := 41) C dX7_from_41 (v := (0 : Int32)) (by decide) ?_
      refine z_istore (pc := 42) C dX7_from_42 (by decide) (show zput _ _ _ = [(4, .int (0 : Int32)), (3, .int (0 : Int32)), (0, .ref A.length), (1, .int x1), (2, .int x2)] from rfl) ?_
      exact z_subL [2, 3, 4, 1, 0] (wfX7_from_b44 C E FU M7 x1 x2 (0 : Int32) (0 : Int32) h) rfl
    · rw [if_pos c6] at h
      refine z_iconst (pc := 32) C dX7_from_32 (v := (-1 : Int32)) (by decide) ?_
      obtain rfl := Option.some.inj h
      exact z_iret (pc := 33) C E dX7_from_33 ⟨rfl, rfl⟩
theorem kX7_from (l : Launch) (D : va_G) (cA : Nat → ClassId) (b : Nat) (A : zH) (M : MS) (B : zH) (x1 : Int32) (x2 : Int32) (out : Int32 × MS) (h : fX7_from M x1 x2 = some out) : zM l D cA b yX7_from cX7_from 6 (some .int) 1 25 [.ref A.length, .int x1, .int x2] (hG A M B) (poI out.1 (hG A out.2 B)) := z_entry rfl (Nat.le_of_ble_eq_true rfl) (fun X C E _ _ _ => wfX7_from C E M x1 x2 h)
def fX7_lost_b129 (k86 : MS → Int32 → Int32 → Int32 → Option (Int32 × MS)) (M : MS) (x1 : Int32) (x3 : Int32) (s0 : Int32) (s1 : Int32) : Option (Int32 × MS) :=
    ob1 (fX7_flag s0) fun v1 =>
    zlet ((s1 + v1)) fun y2 =>
    zlet (x3 + (1 : Int32)) fun y3 =>
    k86 M x1 y2 y3
set_option maxRecDepth 100000 in
set_option maxHeartbeats 4000000 in
theorem wfX7_lost_b129 {X : zX} {A B : zH} {out : Int32 × MS} (C : zOK X cX7_lost yX7_lost.cls 4 (some .int) 1 25) (E : zPost X (poI out.1 (hG A out.2 B))) (k86 : MS → Int32 → Int32 → Int32 → Option (Int32 × MS)) (hk86 : ∀ (M : MS) (x1 : Int32) (x2 : Int32) (x3 : Int32), k86 M x1 x2 x3 = some out → zZ X 86 [(0, .ref A.length), (1, .int x1), (2, .int x2), (3, .int x3)] [] (hG A M B)) (M : MS) (x1 : Int32) (x3 : Int32) (s0 : Int32) (s1 : Int32) (h : fX7_lost_b129 k86 M x1 x3 s0 s1 = some out) : zZ X 129 [(0, .ref A.length), (1, .int x1), (3, .int x3)] [.int s0, .int s1] (hG A M B) := by
  rw [fX7_lost_b129] at h
  obtain ⟨v1, ev1, h⟩ := ob1_eq h
  refine z_callSi (As := [.int s0]) (rest := [.int s1]) (pc := 129) C dX7_lost_129 ml_X7_119 (kX7_flag _ _ _ _ (hG A M B) s0 v1 ev1) rfl rfl (Nat.le_of_ble_eq_true rfl) (by decide) ?_
  refine z_iadd (pc := 132) C dX7_lost_132 ?_
  obtain ⟨y2, ey2, h⟩ := zlet_eq h
  refine z_topi ey2 ?_
  refine z_istore_n (pc := 133) C dX7_lost_133 rfl (by decide) (show zput _ _ _ = [(2, .int y2), (0, .ref A.length), (1, .int x1), (3, .int x3)] from rfl) ?_
  obtain ⟨y3, ey3, h⟩ := zlet_eq h
  refine z_iinc (pc := 134) (v := y3) C 3 dX7_lost_134 rfl (by rw [ey3]; rfl) (by decide) (show zput _ _ _ = [(3, .int y3), (2, .int y2), (0, .ref A.length), (1, .int x1)] from rfl) ?_
  refine z_goto (pc := 137) C dX7_lost_137 (tgt := 86) (by decide) ?_
  exact z_subL [2, 3, 1, 0] (hk86 M x1 y2 y3 h) rfl
def fX7_lost_b114 (k86 : MS → Int32 → Int32 → Int32 → Option (Int32 × MS)) (M : MS) (x1 : Int32) (x2 : Int32) (x3 : Int32) : Option (Int32 × MS) :=
    ob1 (rd 6000 (M.2.1 31) x3) fun v1 =>
    if v1 = 0 then (fX7_lost_b129 k86 M x1 x3 (1 : Int32) x2) else
    fX7_lost_b129 k86 M x1 x3 (0 : Int32) x2
set_option maxRecDepth 100000 in
set_option maxHeartbeats 4000000 in
theorem wfX7_lost_b114 {X : zX} {A B : zH} {out : Int32 × MS} (C : zOK X cX7_lost yX7_lost.cls 4 (some .int) 1 25) (E : zPost X (poI out.1 (hG A out.2 B))) (k86 : MS → Int32 → Int32 → Int32 → Option (Int32 × MS)) (hk86 : ∀ (M : MS) (x1 : Int32) (x2 : Int32) (x3 : Int32), k86 M x1 x2 x3 = some out → zZ X 86 [(0, .ref A.length), (1, .int x1), (2, .int x2), (3, .int x3)] [] (hG A M B)) (M : MS) (x1 : Int32) (x2 : Int32) (x3 : Int32) (h : fX7_lost_b114 k86 M x1 x2 x3 = some out) : zZ X 114 [(0, .ref A.length), (1, .int x1), (2, .int x2), (3, .int x3)] [] (hG A M B) := by
  rw [fX7_lost_b114] at h
  refine z_iload_n (pc := 114) C 2 dX7_lost_114 rfl rfl ?_
  refine z_aload_n (pc := 115) C 0 dX7_lost_115 rfl rfl ?_
  refine z_get (pc := 116) C dX7_lost_116 fl_X7_98 (hM_o A M B) rfl ?_
  refine z_iload_n (pc := 119) C 3 dX7_lost_119 rfl rfl ?_
  obtain ⟨v1, ev1, h⟩ := ob1_eq h
  refine z_zald (pc := 120) C dX7_lost_120 (hMa_31 A M B) (rd_eq ev1).1 (z_topi (rd_eq ev1).2 ?_)
  refine z_if_ne (pc := 121) C dX7_lost_121 (tgt := 128) (by decide) (fun c2 => ?_) (fun c2 => ?_)
  · rw [if_neg c2] at h
    refine z_iconst (pc := 128) C dX7_lost_128 (v := (0 : Int32)) (by decide) ?_
    exact z_subL [0, 1, 3] (wfX7_lost_b129 C E k86 hk86 M x1 x3 (0 : Int32) x2 h) rfl
  · rw [if_pos c2] at h
    refine z_iconst (pc := 124) C dX7_lost_124 (v := (1 : Int32)) (by decide) ?_
    refine z_goto (pc := 125) C dX7_lost_125 (tgt := 129) (by decide) ?_
    exact z_subL [0, 1, 3] (wfX7_lost_b129 C E k86 hk86 M x1 x3 (1 : Int32) x2 h) rfl
def fX7_lost_b86 : Nat → MS → Int32 → Int32 → Int32 → Option (Int32 × MS)
  | 0, _, _, _, _ => none
  | n + 1, M, x1, x2, x3 =>
    ob1 (fX7_storeMany M x1) fun v1 =>
    if v1 ≤ x3 then (some (x2, M)) else
    ob1 (rd 6000 (M.2.1 31) x3) fun v3 =>
    if v3 = 0 then (if x2 = 0 then (ob1 (fX7_enters M x3.toInt64) fun M6 =>
    fX7_lost_b114 (fX7_lost_b86 n) M6 x1 x2 x3) else
    fX7_lost_b114 (fX7_lost_b86 n) M x1 x2 x3) else
    fX7_lost_b114 (fX7_lost_b86 n) M x1 x2 x3
set_option maxRecDepth 100000 in
set_option maxHeartbeats 4000000 in
theorem wfX7_lost_b86 {X : zX} {A B : zH} {out : Int32 × MS} (C : zOK X cX7_lost yX7_lost.cls 4 (some .int) 1 25) (E : zPost X (poI out.1 (hG A out.2 B))) : ∀ (n : Nat) (M : MS) (x1 : Int32) (x2 : Int32) (x3 : Int32) (h : fX7_lost_b86 n M x1 x2 x3 = some out), zZ X 86 [(0, .ref A.length), (1, .int x1), (2, .int x2), (3, .int x3)] [] (hG A M B) := by
  intro n
  induction n with
  | zero => intro M x1 x2 x3 h; cases h
  | succ n ih =>
    intro M x1 x2 x3 h
    rw [fX7_lost_b86] at h
    refine z_iload_n (pc := 86) C 3 dX7_lost_86 rfl rfl ?_
    refine z_aload_n (pc := 87) C 0 dX7_lost_87 rfl rfl ?_
    refine z_iload_n (pc := 88) C 1 dX7_lost_88 rfl rfl ?_
    obtain ⟨v1, ev1, h⟩ := ob1_eq h
    refine z_callVi (h := A.length) (As := [.int x1]) (rest := [.int x3]) (pc := 89) C dX7_lost_89 ml_X7_199 (kX7_storeMany _ _ _ _ A M B x1 v1 ev1) (hM_o A M B) rfl rfl rfl (Nat.le_of_ble_eq_true rfl) (by decide) ?_
    refine z_ic_ge (pc := 92) C dX7_lost_92 (tgt := 140) (by decide) (fun c2 => ?_) (fun c2 => ?_)
    · rw [if_pos c2] at h
      refine z_iload_n (pc := 140) C 2 dX7_lost_140 rfl rfl ?_
      obtain rfl := Option.some.inj h
      exact z_iret (pc := 141) C E dX7_lost_141 ⟨rfl, rfl⟩
    · rw [if_neg c2] at h
      refine z_aload_n (pc := 95) C 0 dX7_lost_95 rfl rfl ?_
      refine z_get (pc := 96) C dX7_lost_96 fl_X7_98 (hM_o A M B) rfl ?_
      refine z_iload_n (pc := 99) C 3 dX7_lost_99 rfl rfl ?_
      obtain ⟨v3, ev3, h⟩ := ob1_eq h
      refine z_zald (pc := 100) C dX7_lost_100 (hMa_31 A M B) (rd_eq ev3).1 (z_topi (rd_eq ev3).2 ?_)
      refine z_if_ne (pc := 101) C dX7_lost_101 (tgt := 114) (by decide) (fun c4 => ?_) (fun c4 => ?_)
      · rw [if_neg c4] at h
        exact z_subL [0, 1, 2, 3] (wfX7_lost_b114 C E (fX7_lost_b86 n) ih M x1 x2 x3 h) rfl
      · rw [if_pos c4] at h
        refine z_iload_n (pc := 104) C 2 dX7_lost_104 rfl rfl ?_
        refine z_if_ne (pc := 105) C dX7_lost_105 (tgt := 114) (by decide) (fun c5 => ?_) (fun c5 => ?_)
        · rw [if_neg c5] at h
          exact z_subL [0, 1, 2, 3] (wfX7_lost_b114 C E (fX7_lost_b86 n) ih M x1 x2 x3 h) rfl
        · rw [if_pos c5] at h
          refine z_aload_n (pc := 108) C 0 dX7_lost_108 rfl rfl ?_
          refine z_iload_n (pc := 109) C 3 dX7_lost_109 rfl rfl ?_
          refine z_i2l (pc := 110) C dX7_lost_110 ?_
          obtain ⟨M6, eM6, h⟩ := ob1_eq h
          refine z_callVv (h := A.length) (As := [.long x3.toInt64]) (rest := []) (pc := 111) C dX7_lost_111 ml_X7_295 (kX7_enters _ _ _ _ A M B x3.toInt64 M6 eM6) (hM_o A M B) rfl rfl rfl (Nat.le_of_ble_eq_true rfl) (by decide) ?_
          exact z_subL [0, 1, 2, 3] (wfX7_lost_b114 C E (fX7_lost_b86 n) ih M6 x1 x2 x3 h) rfl
def fX7_lost_b77 (M : MS) (x1 : Int32) : Option (Int32 × MS) :=
    zlet (mI M 1 (0 : Int32)) fun M1 =>
    fX7_lost_b86 FU M1 x1 (0 : Int32) (0 : Int32)
set_option maxRecDepth 100000 in
set_option maxHeartbeats 4000000 in
theorem wfX7_lost_b77 {X : zX} {A B : zH} {out : Int32 × MS} (C : zOK X cX7_lost yX7_lost.cls 4 (some .int) 1 25) (E : zPost X (poI out.1 (hG A out.2 B))) (M : MS) (x1 : Int32) (h : fX7_lost_b77 M x1 = some out) : zZ X 77 [(0, .ref A.length), (1, .int x1)] [] (hG A M B) := by
  rw [fX7_lost_b77] at h
  refine z_iconst (pc := 77) C dX7_lost_77 (v := (0 : Int32)) (by decide) ?_
  refine z_istore_n (pc := 78) C dX7_lost_78 rfl (by decide) (show zput _ _ _ = [(2, .int (0 : Int32)), (0, .ref A.length), (1, .int x1)] from rfl) ?_
  refine z_aload_n (pc := 79) C 1 dX7_lost_79 rfl rfl ?_
  refine z_iconst (pc := 80) C dX7_lost_80 (v := (0 : Int32)) (by decide) ?_
  obtain ⟨M1, eM1, h⟩ := zlet_eq h
  refine z_put (pc := 81) C dX7_lost_81 fl_X7_11w (hM_o A M B) (fun _ => rfl) (fun _ => rfl) (Nat.le_of_ble_eq_true rfl) (hMi_1 A B eM1) ?_
  refine z_iconst (pc := 84) C dX7_lost_84 (v := (0 : Int32)) (by decide) ?_
  refine z_istore_n (pc := 85) C dX7_lost_85 rfl (by decide) (show zput _ _ _ = [(3, .int (0 : Int32)), (2, .int (0 : Int32)), (0, .ref A.length), (1, .int x1)] from rfl) ?_
  exact z_subL [2, 3, 1, 0] (wfX7_lost_b86 C E FU M1 x1 (0 : Int32) (0 : Int32) h) rfl
def fX7_lost_b71 (k43 : MS → Int32 → Int32 → Option (Int32 × MS)) (M : MS) (x1 : Int32) (x2 : Int32) : Option (Int32 × MS) :=
    zlet (x2 + (1 : Int32)) fun y1 =>
    k43 M x1 y1
set_option maxRecDepth 100000 in
set_option maxHeartbeats 4000000 in
theorem wfX7_lost_b71 {X : zX} {A B : zH} {out : Int32 × MS} (C : zOK X cX7_lost yX7_lost.cls 4 (some .int) 1 25) (E : zPost X (poI out.1 (hG A out.2 B))) (k43 : MS → Int32 → Int32 → Option (Int32 × MS)) (hk43 : ∀ (M : MS) (x1 : Int32) (x2 : Int32), k43 M x1 x2 = some out → zZ X 43 [(0, .ref A.length), (1, .int x1), (2, .int x2)] [] (hG A M B)) (M : MS) (x1 : Int32) (x2 : Int32) (h : fX7_lost_b71 k43 M x1 x2 = some out) : zZ X 71 [(0, .ref A.length), (1, .int x1), (2, .int x2)] [] (hG A M B) := by
  rw [fX7_lost_b71] at h
  obtain ⟨y1, ey1, h⟩ := zlet_eq h
  refine z_iinc (pc := 71) (v := y1) C 2 dX7_lost_71 rfl (by rw [ey1]; rfl) (by decide) (show zput _ _ _ = [(2, .int y1), (0, .ref A.length), (1, .int x1)] from rfl) ?_
  refine z_goto (pc := 74) C dX7_lost_74 (tgt := 43) (by decide) ?_
  exact z_subL [1, 2, 0] (hk43 M x1 y1 h) rfl
def fX7_lost_b43 : Nat → MS → Int32 → Int32 → Option (Int32 × MS)
  | 0, _, _, _ => none
  | n + 1, M, x1, x2 =>
    if (M.1 11) ≤ x2 then (fX7_lost_b77 M x1) else
    ob1 (fX7_storeAt M x2) fun v2 =>
    if v2 = x1 then (ob1 (fX7_placeAt M x2) fun v4 =>
    ob1 (wr 6000 v4 (mA M 31 (upd (M.2.1 31) v4.toNatClampNeg (vp_nar .boolean (1 : Int32))))) fun M5 =>
    fX7_lost_b71 (fX7_lost_b43 n) M5 x1 x2) else
    fX7_lost_b71 (fX7_lost_b43 n) M x1 x2
set_option maxRecDepth 100000 in
set_option maxHeartbeats 4000000 in
theorem wfX7_lost_b43 {X : zX} {A B : zH} {out : Int32 × MS} (C : zOK X cX7_lost yX7_lost.cls 4 (some .int) 1 25) (E : zPost X (poI out.1 (hG A out.2 B))) : ∀ (n : Nat) (M : MS) (x1 : Int32) (x2 : Int32) (h : fX7_lost_b43 n M x1 x2 = some out), zZ X 43 [(0, .ref A.length), (1, .int x1), (2, .int x2)] [] (hG A M B) := by
  intro n
  induction n with
  | zero => intro M x1 x2 h; cases h
  | succ n ih =>
    intro M x1 x2 h
    rw [fX7_lost_b43] at h
    refine z_iload_n (pc := 43) C 2 dX7_lost_43 rfl rfl ?_
    refine z_aload_n (pc := 44) C 0 dX7_lost_44 rfl rfl ?_
    refine z_get (pc := 45) C dX7_lost_45 fl_X7_123 (hM_o A M B) rfl ?_
    refine z_ic_ge (pc := 48) C dX7_lost_48 (tgt := 77) (by decide) (fun c1 => ?_) (fun c1 => ?_)
    · rw [if_pos c1] at h
      exact z_subL [0, 1] (wfX7_lost_b77 C E M x1 h) rfl
    · rw [if_neg c1] at h
      refine z_aload_n (pc := 51) C 0 dX7_lost_51 rfl rfl ?_
      refine z_iload_n (pc := 52) C 2 dX7_lost_52 rfl rfl ?_
      obtain ⟨v2, ev2, h⟩ := ob1_eq h
      refine z_callVi (h := A.length) (As := [.int x2]) (rest := []) (pc := 53) C dX7_lost_53 ml_X7_108 (kX7_storeAt _ _ _ _ A M B x2 v2 ev2) (hM_o A M B) rfl rfl rfl (Nat.le_of_ble_eq_true rfl) (by decide) ?_
      refine z_iload_n (pc := 56) C 1 dX7_lost_56 rfl rfl ?_
      refine z_ic_ne (pc := 57) C dX7_lost_57 (tgt := 71) (by decide) (fun c3 => ?_) (fun c3 => ?_)
      · rw [if_neg c3] at h
        exact z_subL [0, 1, 2] (wfX7_lost_b71 C E (fX7_lost_b43 n) ih M x1 x2 h) rfl
      · rw [if_pos c3] at h
        refine z_aload_n (pc := 60) C 0 dX7_lost_60 rfl rfl ?_
        refine z_get (pc := 61) C dX7_lost_61 fl_X7_98 (hM_o A M B) rfl ?_
        refine z_aload_n (pc := 64) C 0 dX7_lost_64 rfl rfl ?_
        refine z_iload_n (pc := 65) C 2 dX7_lost_65 rfl rfl ?_
        obtain ⟨v4, ev4, h⟩ := ob1_eq h
        refine z_callVi (h := A.length) (As := [.int x2]) (rest := [.ref (A.length + 20)]) (pc := 66) C dX7_lost_66 ml_X7_112 (kX7_placeAt _ _ _ _ A M B x2 v4 ev4) (hM_o A M B) rfl rfl rfl (Nat.le_of_ble_eq_true rfl) (by decide) ?_
        refine z_iconst (pc := 69) C dX7_lost_69 (v := (1 : Int32)) (by decide) ?_
        obtain ⟨M5, eM5, h⟩ := ob1_eq h
        refine z_zast (pc := 70) C dX7_lost_70 (hMa_31 A M B) (wr_eq eM5).1 (hMs_31 A B (wr_eq eM5).2) ?_
        exact z_subL [0, 1, 2] (wfX7_lost_b71 C E (fX7_lost_b43 n) ih M5 x1 x2 h) rfl
def fX7_lost_b41 (M : MS) (x1 : Int32) : Option (Int32 × MS) :=
    fX7_lost_b43 FU M x1 (0 : Int32)
set_option maxRecDepth 100000 in
set_option maxHeartbeats 4000000 in
theorem wfX7_lost_b41 {X : zX} {A B : zH} {out : Int32 × MS} (C : zOK X cX7_lost yX7_lost.cls 4 (some .int) 1 25) (E : zPost X (poI out.1 (hG A out.2 B))) (M : MS) (x1 : Int32) (h : fX7_lost_b41 M x1 = some out) : zZ X 41 [(0, .ref A.length), (1, .int x1)] [] (hG A M B) := by
  rw [fX7_lost_b41] at h
  refine z_iconst (pc := 41) C dX7_lost_41 (v := (0 : Int32)) (by decide) ?_
  refine z_istore_n (pc := 42) C dX7_lost_42 rfl (by decide) (show zput _ _ _ = [(2, .int (0 : Int32)), (0, .ref A.length), (1, .int x1)] from rfl) ?_
  exact z_subL [1, 2, 0] (wfX7_lost_b43 C E FU M x1 (0 : Int32) h) rfl
def fX7_lost_b19 : Nat → MS → Int32 → Int32 → Option (Int32 × MS)
  | 0, _, _, _ => none
  | n + 1, M, x1, x2 =>
    ob1 (fX7_storeMany M x1) fun v1 =>
    if v1 ≤ x2 then (fX7_lost_b41 M x1) else
    ob1 (wr 6000 x2 (mA M 31 (upd (M.2.1 31) x2.toNatClampNeg (vp_nar .boolean (0 : Int32))))) fun M3 =>
    zlet (x2 + (1 : Int32)) fun y4 =>
    (fX7_lost_b19 n) M3 x1 y4
set_option maxRecDepth 100000 in
set_option maxHeartbeats 4000000 in
theorem wfX7_lost_b19 {X : zX} {A B : zH} {out : Int32 × MS} (C : zOK X cX7_lost yX7_lost.cls 4 (some .int) 1 25) (E : zPost X (poI out.1 (hG A out.2 B))) : ∀ (n : Nat) (M : MS) (x1 : Int32) (x2 : Int32) (h : fX7_lost_b19 n M x1 x2 = some out), zZ X 19 [(0, .ref A.length), (1, .int x1), (2, .int x2)] [] (hG A M B) := by
  intro n
  induction n with
  | zero => intro M x1 x2 h; cases h
  | succ n ih =>
    intro M x1 x2 h
    rw [fX7_lost_b19] at h
    refine z_iload_n (pc := 19) C 2 dX7_lost_19 rfl rfl ?_
    refine z_aload_n (pc := 20) C 0 dX7_lost_20 rfl rfl ?_
    refine z_iload_n (pc := 21) C 1 dX7_lost_21 rfl rfl ?_
    obtain ⟨v1, ev1, h⟩ := ob1_eq h
    refine z_callVi (h := A.length) (As := [.int x1]) (rest := [.int x2]) (pc := 22) C dX7_lost_22 ml_X7_199 (kX7_storeMany _ _ _ _ A M B x1 v1 ev1) (hM_o A M B) rfl rfl rfl (Nat.le_of_ble_eq_true rfl) (by decide) ?_
    refine z_ic_ge (pc := 25) C dX7_lost_25 (tgt := 41) (by decide) (fun c2 => ?_) (fun c2 => ?_)
    · rw [if_pos c2] at h
      exact z_subL [0, 1] (wfX7_lost_b41 C E M x1 h) rfl
    · rw [if_neg c2] at h
      refine z_aload_n (pc := 28) C 0 dX7_lost_28 rfl rfl ?_
      refine z_get (pc := 29) C dX7_lost_29 fl_X7_98 (hM_o A M B) rfl ?_
      refine z_iload_n (pc := 32) C 2 dX7_lost_32 rfl rfl ?_
      refine z_iconst (pc := 33) C dX7_lost_33 (v := (0 : Int32)) (by decide) ?_
      obtain ⟨M3, eM3, h⟩ := ob1_eq h
      refine z_zast (pc := 34) C dX7_lost_34 (hMa_31 A M B) (wr_eq eM3).1 (hMs_31 A B (wr_eq eM3).2) ?_
      obtain ⟨y4, ey4, h⟩ := zlet_eq h
      refine z_iinc (pc := 35) (v := y4) C 2 dX7_lost_35 rfl (by rw [ey4]; rfl) (by decide) (show zput _ _ _ = [(2, .int y4), (0, .ref A.length), (1, .int x1)] from rfl) ?_
      refine z_goto (pc := 38) C dX7_lost_38 (tgt := 19) (by decide) ?_
      exact z_subL [1, 2, 0] (ih M3 x1 y4 h) rfl
def fX7_lost (M : MS) (x1 : Int32) : Option (Int32 × MS) :=
    zlet (mI M 0 (0 : Int32)) fun M1 =>
    ob1 (fX7_in x1.toInt64 (0 : Int64) (1 : Int64)) fun v2 =>
    if v2 = 0 then (some ((-1 : Int32), M1)) else
    fX7_lost_b19 FU M1 x1 (0 : Int32)
set_option maxRecDepth 100000 in
set_option maxHeartbeats 4000000 in
theorem wfX7_lost {X : zX} {A B : zH} {out : Int32 × MS} (C : zOK X cX7_lost yX7_lost.cls 4 (some .int) 1 25) (E : zPost X (poI out.1 (hG A out.2 B))) (M : MS) (x1 : Int32) (h : fX7_lost M x1 = some out) : zZ X 0 [(0, .ref A.length), (1, .int x1)] [] (hG A M B) := by
  rw [fX7_lost] at h
  refine z_aload_n (pc := 0) C 0 dX7_lost_0 rfl rfl ?_
  refine z_iconst (pc := 1) C dX7_lost_1 (v := (0 : Int32)) (by decide) ?_
  obtain ⟨M1, eM1, h⟩ := zlet_eq h
  refine z_put (pc := 2) C dX7_lost_2 fl_X7_1w (hM_o A M B) (fun _ => rfl) (fun _ => rfl) (Nat.le_of_ble_eq_true rfl) (hMi_0 A B eM1) ?_
  refine z_iload_n (pc := 5) C 1 dX7_lost_5 rfl rfl ?_
  refine z_i2l (pc := 6) C dX7_lost_6 ?_
  refine z_lconst (pc := 7) C dX7_lost_7 (v := (0 : Int64)) (by decide) ?_
  refine z_lconst (pc := 8) C dX7_lost_8 (v := (1 : Int64)) (by decide) ?_
  obtain ⟨v2, ev2, h⟩ := ob1_eq h
  refine z_callSi (As := [.long x1.toInt64, .long (0 : Int64), .long (1 : Int64)]) (rest := []) (pc := 9) C dX7_lost_9 ml_X7_21 (kX7_in _ _ _ _ (hG A M1 B) x1.toInt64 (0 : Int64) (1 : Int64) v2 ev2) rfl rfl (Nat.le_of_ble_eq_true rfl) (by decide) ?_
  refine z_if_ne (pc := 12) C dX7_lost_12 (tgt := 17) (by decide) (fun c3 => ?_) (fun c3 => ?_)
  · rw [if_neg c3] at h
    refine z_iconst (pc := 17) C dX7_lost_17 (v := (0 : Int32)) (by decide) ?_
    refine z_istore_n (pc := 18) C dX7_lost_18 rfl (by decide) (show zput _ _ _ = [(2, .int (0 : Int32)), (0, .ref A.length), (1, .int x1)] from rfl) ?_
    exact z_subL [1, 2, 0] (wfX7_lost_b19 C E FU M1 x1 (0 : Int32) h) rfl
  · rw [if_pos c3] at h
    refine z_iconst (pc := 15) C dX7_lost_15 (v := (-1 : Int32)) (by decide) ?_
    obtain rfl := Option.some.inj h
    exact z_iret (pc := 16) C E dX7_lost_16 ⟨rfl, rfl⟩
theorem kX7_lost (l : Launch) (D : va_G) (cA : Nat → ClassId) (b : Nat) (A : zH) (M : MS) (B : zH) (x1 : Int32) (out : Int32 × MS) (h : fX7_lost M x1 = some out) : zM l D cA b yX7_lost cX7_lost 4 (some .int) 1 25 [.ref A.length, .int x1] (hG A M B) (poI out.1 (hG A out.2 B)) := z_entry rfl (Nat.le_of_ble_eq_true rfl) (fun X C E _ _ _ => wfX7_lost C E M x1 h)
def fX7_healable_b85 (M : MS) : Option (Int32 × MS) :=
    ob1 (fX7_healables M ) fun v1 =>
    some (v1, M)
set_option maxRecDepth 100000 in
set_option maxHeartbeats 4000000 in
theorem wfX7_healable_b85 {X : zX} {A B : zH} {out : Int32 × MS} (C : zOK X cX7_healable yX7_healable.cls 5 (some .int) 3 64) (E : zPost X (poI out.1 (hG A out.2 B))) (M : MS) (h : fX7_healable_b85 M = some out) : zZ X 85 [(0, .ref A.length)] [] (hG A M B) := by
  rw [fX7_healable_b85] at h
  refine z_aload_n (pc := 85) C 0 dX7_healable_85 rfl rfl ?_
  obtain ⟨v1, ev1, h⟩ := ob1_eq h
  refine z_callVi (h := A.length) (As := []) (rest := []) (pc := 86) C dX7_healable_86 ml_X7_239 (kX7_healables _ _ _ _ A M B  v1 ev1) (hM_o A M B) rfl rfl rfl (Nat.le_of_ble_eq_true rfl) (by decide) ?_
  obtain rfl := Option.some.inj h
  exact z_iret (pc := 89) C E dX7_healable_89 ⟨rfl, rfl⟩
def fX7_healable_b70 (M : MS) (x1 : Int32) : Option (Int32 × MS) :=
    zlet (mI M 1 (0 : Int32)) fun M1 =>
    if x1 < 0 then (fX7_healable_b85 M1) else
    ob1 (fX7_enters M1 x1.toInt64) fun M3 =>
    fX7_healable_b85 M3
set_option maxRecDepth 100000 in
set_option maxHeartbeats 4000000 in
theorem wfX7_healable_b70 {X : zX} {A B : zH} {out : Int32 × MS} (C : zOK X cX7_healable yX7_healable.cls 5 (some .int) 3 64) (E : zPost X (poI out.1 (hG A out.2 B))) (M : MS) (x1 : Int32) (h : fX7_healable_b70 M x1 = some out) : zZ X 70 [(0, .ref A.length), (1, .int x1)] [] (hG A M B) := by
  rw [fX7_healable_b70] at h
  refine z_aload_n (pc := 70) C 0 dX7_healable_70 rfl rfl ?_
  refine z_iconst (pc := 71) C dX7_healable_71 (v := (0 : Int32)) (by decide) ?_
  obtain ⟨M1, eM1, h⟩ := zlet_eq h
  refine z_put (pc := 72) C dX7_healable_72 fl_X7_11w (hM_o A M B) (fun _ => rfl) (fun _ => rfl) (Nat.le_of_ble_eq_true rfl) (hMi_1 A B eM1) ?_
  refine z_iload_n (pc := 75) C 1 dX7_healable_75 rfl rfl ?_
  refine z_if_lt (pc := 76) C dX7_healable_76 (tgt := 85) (by decide) (fun c2 => ?_) (fun c2 => ?_)
  · rw [if_pos c2] at h
    exact z_subL [0] (wfX7_healable_b85 C E M1 h) rfl
  · rw [if_neg c2] at h
    refine z_aload_n (pc := 79) C 0 dX7_healable_79 rfl rfl ?_
    refine z_iload_n (pc := 80) C 1 dX7_healable_80 rfl rfl ?_
    refine z_i2l (pc := 81) C dX7_healable_81 ?_
    obtain ⟨M3, eM3, h⟩ := ob1_eq h
    refine z_callVv (h := A.length) (As := [.long x1.toInt64]) (rest := []) (pc := 82) C dX7_healable_82 ml_X7_295 (kX7_enters _ _ _ _ A M1 B x1.toInt64 M3 eM3) (hM_o A M1 B) rfl rfl rfl (Nat.le_of_ble_eq_true rfl) (by decide) ?_
    exact z_subL [0] (wfX7_healable_b85 C E M3 h) rfl
def fX7_healable_b41 (k14 : MS → Int32 → Int32 → Int32 → Int32 → Option (Int32 × MS)) (M : MS) (x2 : Int32) (x3 : Int32) (x4 : Int32) (s0 : Int32) : Option (Int32 × MS) :=
    ob1 (fX7_endOf M x4) fun v1 =>
    zlet ((if x2 < (v1 - x4) then (v1 - x4) else x2)) fun y2 =>
    zlet (x3 + (1 : Int32)) fun y3 =>
    ob1 (fX7_endOf M x4) fun v4 =>
    k14 M s0 y2 y3 v4
set_option maxRecDepth 100000 in
set_option maxHeartbeats 4000000 in
theorem wfX7_healable_b41 {X : zX} {A B : zH} {out : Int32 × MS} (C : zOK X cX7_healable yX7_healable.cls 5 (some .int) 3 64) (E : zPost X (poI out.1 (hG A out.2 B))) (k14 : MS → Int32 → Int32 → Int32 → Int32 → Option (Int32 × MS)) (hk14 : ∀ (M : MS) (x1 : Int32) (x2 : Int32) (x3 : Int32) (x4 : Int32), k14 M x1 x2 x3 x4 = some out → zZ X 14 [(0, .ref A.length), (1, .int x1), (2, .int x2), (3, .int x3), (4, .int x4)] [] (hG A M B)) (M : MS) (x2 : Int32) (x3 : Int32) (x4 : Int32) (s0 : Int32) (h : fX7_healable_b41 k14 M x2 x3 x4 s0 = some out) : zZ X 41 [(0, .ref A.length), (2, .int x2), (3, .int x3), (4, .int x4)] [.int s0] (hG A M B) := by
  rw [fX7_healable_b41] at h
  refine z_istore_n (pc := 41) C dX7_healable_41 rfl (by decide) (show zput _ _ _ = [(1, .int s0), (0, .ref A.length), (2, .int x2), (3, .int x3), (4, .int x4)] from rfl) ?_
  refine z_iload_n (pc := 42) C 2 dX7_healable_42 rfl rfl ?_
  refine z_aload_n (pc := 43) C 1 dX7_healable_43 rfl rfl ?_
  refine z_iload (pc := 44) C 4 dX7_healable_44 rfl ?_
  obtain ⟨v1, ev1, h⟩ := ob1_eq h
  refine z_callVi (h := A.length) (As := [.int x4]) (rest := [.int x2]) (pc := 46) C dX7_healable_46 ml_X7_323 (kX7_endOf _ _ _ _ A M B x4 v1 ev1) (hM_o A M B) rfl rfl rfl (Nat.le_of_ble_eq_true rfl) (by decide) ?_
  refine z_iload (pc := 49) C 4 dX7_healable_49 rfl ?_
  refine z_isub (pc := 51) C dX7_healable_51 ?_
  refine z_mmax (pc := 52) C dX7_healable_52 ml_X7_307 w_max1 w_math w_max2 (Nat.le_of_ble_eq_true rfl) (by decide) ?_
  obtain ⟨y2, ey2, h⟩ := zlet_eq h
  refine z_topi ey2 ?_
  refine z_istore_n (pc := 55) C dX7_healable_55 rfl (by decide) (show zput _ _ _ = [(2, .int y2), (1, .int s0), (0, .ref A.length), (3, .int x3), (4, .int x4)] from rfl) ?_
  obtain ⟨y3, ey3, h⟩ := zlet_eq h
  refine z_iinc (pc := 56) (v := y3) C 3 dX7_healable_56 rfl (by rw [ey3]; rfl) (by decide) (show zput _ _ _ = [(3, .int y3), (2, .int y2), (1, .int s0), (0, .ref A.length), (4, .int x4)] from rfl) ?_
  refine z_aload_n (pc := 59) C 3 dX7_healable_59 rfl rfl ?_
  refine z_iload (pc := 60) C 4 dX7_healable_60 rfl ?_
  obtain ⟨v4, ev4, h⟩ := ob1_eq h
  refine z_callVi (h := A.length) (As := [.int x4]) (rest := []) (pc := 62) C dX7_healable_62 ml_X7_323 (kX7_endOf _ _ _ _ A M B x4 v4 ev4) (hM_o A M B) rfl rfl rfl (Nat.le_of_ble_eq_true rfl) (by decide) ?_
  refine z_istore (pc := 65) C dX7_healable_65 (by decide) (show zput _ _ _ = [(4, .int v4), (3, .int y3), (2, .int y2), (1, .int s0), (0, .ref A.length)] from rfl) ?_
  refine z_goto (pc := 67) C dX7_healable_67 (tgt := 14) (by decide) ?_
  exact z_subL [4, 3, 2, 1, 0] (hk14 M s0 y2 y3 v4 h) rfl
def fX7_healable_b14 : Nat → MS → Int32 → Int32 → Int32 → Int32 → Option (Int32 × MS)
  | 0, _, _, _, _, _ => none
  | n + 1, M, x1, x2, x3, x4 =>
    if (M.1 11) ≤ x4 then (fX7_healable_b70 M x1) else
    ob1 (fX7_endOf M x4) fun v2 =>
    if (v2 - x4) ≤ x2 then (fX7_healable_b41 (fX7_healable_b14 n) M x2 x3 x4 x1) else
    fX7_healable_b41 (fX7_healable_b14 n) M x2 x3 x4 x3
set_option maxRecDepth 100000 in
set_option maxHeartbeats 4000000 in
theorem wfX7_healable_b14 {X : zX} {A B : zH} {out : Int32 × MS} (C : zOK X cX7_healable yX7_healable.cls 5 (some .int) 3 64) (E : zPost X (poI out.1 (hG A out.2 B))) : ∀ (n : Nat) (M : MS) (x1 : Int32) (x2 : Int32) (x3 : Int32) (x4 : Int32) (h : fX7_healable_b14 n M x1 x2 x3 x4 = some out), zZ X 14 [(0, .ref A.length), (1, .int x1), (2, .int x2), (3, .int x3), (4, .int x4)] [] (hG A M B) := by
  intro n
  induction n with
  | zero => intro M x1 x2 x3 x4 h; cases h
  | succ n ih =>
    intro M x1 x2 x3 x4 h
    rw [fX7_healable_b14] at h
    refine z_iload (pc := 14) C 4 dX7_healable_14 rfl ?_
    refine z_aload_n (pc := 16) C 0 dX7_healable_16 rfl rfl ?_
    refine z_get (pc := 17) C dX7_healable_17 fl_X7_123 (hM_o A M B) rfl ?_
    refine z_ic_ge (pc := 20) C dX7_healable_20 (tgt := 70) (by decide) (fun c1 => ?_) (fun c1 => ?_)
    · rw [if_pos c1] at h
      exact z_subL [0, 1] (wfX7_healable_b70 C E M x1 h) rfl
    · rw [if_neg c1] at h
      refine z_aload_n (pc := 23) C 0 dX7_healable_23 rfl rfl ?_
      refine z_iload (pc := 24) C 4 dX7_healable_24 rfl ?_
      obtain ⟨v2, ev2, h⟩ := ob1_eq h
      refine z_callVi (h := A.length) (As := [.int x4]) (rest := []) (pc := 26) C dX7_healable_26 ml_X7_323 (kX7_endOf _ _ _ _ A M B x4 v2 ev2) (hM_o A M B) rfl rfl rfl (Nat.le_of_ble_eq_true rfl) (by decide) ?_
      refine z_iload (pc := 29) C 4 dX7_healable_29 rfl ?_
      refine z_isub (pc := 31) C dX7_healable_31 ?_
      refine z_iload_n (pc := 32) C 2 dX7_healable_32 rfl rfl ?_
      refine z_ic_le (pc := 33) C dX7_healable_33 (tgt := 40) (by decide) (fun c3 => ?_) (fun c3 => ?_)
      · rw [if_pos c3] at h
        refine z_iload_n (pc := 40) C 1 dX7_healable_40 rfl rfl ?_
        exact z_subL [0, 2, 3, 4] (wfX7_healable_b41 C E (fX7_healable_b14 n) ih M x2 x3 x4 x1 h) rfl
      · rw [if_neg c3] at h
        refine z_iload_n (pc := 36) C 3 dX7_healable_36 rfl rfl ?_
        refine z_goto (pc := 37) C dX7_healable_37 (tgt := 41) (by decide) ?_
        exact z_subL [0, 2, 3, 4] (wfX7_healable_b41 C E (fX7_healable_b14 n) ih M x2 x3 x4 x3 h) rfl
def fX7_healable (M : MS) : Option (Int32 × MS) :=
    zlet (mI M 0 (0 : Int32)) fun M1 =>
    fX7_healable_b14 FU M1 (-1 : Int32) (0 : Int32) (0 : Int32) (0 : Int32)
set_option maxRecDepth 100000 in
set_option maxHeartbeats 4000000 in
theorem wfX7_healable {X : zX} {A B : zH} {out : Int32 × MS} (C : zOK X cX7_healable yX7_healable.cls 5 (some .int) 3 64) (E : zPost X (poI out.1 (hG A out.2 B))) (M : MS) (h : fX7_healable M = some out) : zZ X 0 [(0, .ref A.length)] [] (hG A M B) := by
  rw [fX7_healable] at h
  refine z_aload_n (pc := 0) C 0 dX7_healable_0 rfl rfl ?_
  refine z_iconst (pc := 1) C dX7_healable_1 (v := (0 : Int32)) (by decide) ?_
  obtain ⟨M1, eM1, h⟩ := zlet_eq h
  refine z_put (pc := 2) C dX7_healable_2 fl_X7_1w (hM_o A M B) (fun _ => rfl) (fun _ => rfl) (Nat.le_of_ble_eq_true rfl) (hMi_0 A B eM1) ?_
  refine z_iconst (pc := 5) C dX7_healable_5 (v := (-1 : Int32)) (by decide) ?_
  refine z_istore_n (pc := 6) C dX7_healable_6 rfl (by decide) (show zput _ _ _ = [(1, .int (-1 : Int32)), (0, .ref A.length)] from rfl) ?_
  refine z_iconst (pc := 7) C dX7_healable_7 (v := (0 : Int32)) (by decide) ?_
  refine z_istore_n (pc := 8) C dX7_healable_8 rfl (by decide) (show zput _ _ _ = [(2, .int (0 : Int32)), (1, .int (-1 : Int32)), (0, .ref A.length)] from rfl) ?_
  refine z_iconst (pc := 9) C dX7_healable_9 (v := (0 : Int32)) (by decide) ?_
  refine z_istore_n (pc := 10) C dX7_healable_10 rfl (by decide) (show zput _ _ _ = [(3, .int (0 : Int32)), (2, .int (0 : Int32)), (1, .int (-1 : Int32)), (0, .ref A.length)] from rfl) ?_
  refine z_iconst (pc := 11) C dX7_healable_11 (v := (0 : Int32)) (by decide) ?_
  refine z_istore (pc := 12) C dX7_healable_12 (by decide) (show zput _ _ _ = [(4, .int (0 : Int32)), (3, .int (0 : Int32)), (2, .int (0 : Int32)), (1, .int (-1 : Int32)), (0, .ref A.length)] from rfl) ?_
  exact z_subL [4, 3, 2, 1, 0] (wfX7_healable_b14 C E FU M1 (-1 : Int32) (0 : Int32) (0 : Int32) (0 : Int32) h) rfl
theorem kX7_healable (l : Launch) (D : va_G) (cA : Nat → ClassId) (b : Nat) (A : zH) (M : MS) (B : zH)  (out : Int32 × MS) (h : fX7_healable M = some out) : zM l D cA b yX7_healable cX7_healable 5 (some .int) 3 64 [.ref A.length] (hG A M B) (poI out.1 (hG A out.2 B)) := z_entry rfl (Nat.le_of_ble_eq_true rfl) (fun X C E _ _ _ => wfX7_healable C E M h)
def fX7_small (x0 : Int32) : Option Int32 :=
    ob1 (fX7_in x0.toInt64 (65 : Int64) (90 : Int64)) fun v1 =>
    if v1 = 0 then (some x0) else
    some ((x0 + (97 : Int32)) - (65 : Int32))
set_option maxRecDepth 100000 in
set_option maxHeartbeats 4000000 in
theorem wfX7_small {X : zX} {G : zH} {out : Int32} (C : zOK X cX7_small yX7_small.cls 1 (some .int) 1 25) (E : zPost X (poI out G)) (x0 : Int32) (h : fX7_small x0 = some out) : zZ X 0 [(0, .int x0)] [] G := by
  rw [fX7_small] at h
  refine z_iload_n (pc := 0) C 0 dX7_small_0 rfl rfl ?_
  refine z_i2l (pc := 1) C dX7_small_1 ?_
  refine z_ldc2 (pc := 2) C dX7_small_2 cn_X7_329 ?_
  refine z_ldc2 (pc := 5) C dX7_small_5 cn_X7_331 ?_
  obtain ⟨v1, ev1, h⟩ := ob1_eq h
  refine z_callSi (As := [.long x0.toInt64, .long (65 : Int64), .long (90 : Int64)]) (rest := []) (pc := 8) C dX7_small_8 ml_X7_21 (kX7_in _ _ _ _ G x0.toInt64 (65 : Int64) (90 : Int64) v1 ev1) rfl rfl (Nat.le_of_ble_eq_true rfl) (by decide) ?_
  refine z_if_eq (pc := 11) C dX7_small_11 (tgt := 24) (by decide) (fun c2 => ?_) (fun c2 => ?_)
  · rw [if_pos c2] at h
    refine z_iload_n (pc := 24) C 0 dX7_small_24 rfl rfl ?_
    obtain rfl := Option.some.inj h
    exact z_iret (pc := 25) C E dX7_small_25 ⟨rfl, rfl⟩
  · rw [if_neg c2] at h
    refine z_iload_n (pc := 14) C 0 dX7_small_14 rfl rfl ?_
    refine z_bipush (pc := 15) C dX7_small_15 (v := (97 : Int32)) (by decide) ?_
    refine z_iadd (pc := 17) C dX7_small_17 ?_
    refine z_bipush (pc := 18) C dX7_small_18 (v := (65 : Int32)) (by decide) ?_
    refine z_isub (pc := 20) C dX7_small_20 ?_
    refine z_goto (pc := 21) C dX7_small_21 (tgt := 25) (by decide) ?_
    obtain rfl := Option.some.inj h
    exact z_iret (pc := 25) C E dX7_small_25 ⟨rfl, rfl⟩
theorem kX7_small (l : Launch) (D : va_G) (cA : Nat → ClassId) (b : Nat) (G : zH) (x0 : Int32) (out : Int32) (h : fX7_small x0 = some out) : zM l D cA b yX7_small cX7_small 1 (some .int) 1 25 [.int x0] G (poI out G) := z_entry rfl (Nat.le_of_ble_eq_true rfl) (fun X C E _ _ _ => wfX7_small C E x0 h)
def fX7_isLike_b46 (x0 : Int32) (x1 : Int32) (x2 : Int32) : Option Int32 :=
    if x2 = (2 : Int32) then (ob1 (fX7_small x0) fun v3 =>
    ob1 (fX7_small x1) fun v4 =>
    if v3 = v4 then (some (1 : Int32)) else
    some (0 : Int32)) else
    if x0 = x1 then (some (1 : Int32)) else
    some (0 : Int32)
set_option maxRecDepth 100000 in
set_option maxHeartbeats 4000000 in
theorem wfX7_isLike_b46 {X : zX} {G : zH} {out : Int32} (C : zOK X cX7_isLike yX7_isLike.cls 3 (some .boolean) 2 45) (E : zPost X (poI out G)) (x0 : Int32) (x1 : Int32) (x2 : Int32) (h : fX7_isLike_b46 x0 x1 x2 = some out) : zZ X 46 [(0, .int x0), (1, .int x1), (2, .int x2)] [] G := by
  rw [fX7_isLike_b46] at h
  refine z_iload_n (pc := 46) C 2 dX7_isLike_46 rfl rfl ?_
  refine z_iconst (pc := 47) C dX7_isLike_47 (v := (2 : Int32)) (by decide) ?_
  refine z_ic_ne (pc := 48) C dX7_isLike_48 (tgt := 70) (by decide) (fun c1 => ?_) (fun c1 => ?_)
  · rw [if_neg c1] at h
    refine z_iload_n (pc := 70) C 0 dX7_isLike_70 rfl rfl ?_
    refine z_iload_n (pc := 71) C 1 dX7_isLike_71 rfl rfl ?_
    refine z_ic_ne (pc := 72) C dX7_isLike_72 (tgt := 79) (by decide) (fun c2 => ?_) (fun c2 => ?_)
    · rw [if_neg c2] at h
      refine z_iconst (pc := 79) C dX7_isLike_79 (v := (0 : Int32)) (by decide) ?_
      obtain rfl := Option.some.inj h
      exact z_zret (pc := 80) C E dX7_isLike_80 rfl ⟨rfl, rfl⟩
    · rw [if_pos c2] at h
      refine z_iconst (pc := 75) C dX7_isLike_75 (v := (1 : Int32)) (by decide) ?_
      refine z_goto (pc := 76) C dX7_isLike_76 (tgt := 80) (by decide) ?_
      obtain rfl := Option.some.inj h
      exact z_zret (pc := 80) C E dX7_isLike_80 rfl ⟨rfl, rfl⟩
  · rw [if_pos c1] at h
    refine z_iload_n (pc := 51) C 0 dX7_isLike_51 rfl rfl ?_
    obtain ⟨v3, ev3, h⟩ := ob1_eq h
    refine z_callSi (As := [.int x0]) (rest := []) (pc := 52) C dX7_isLike_52 ml_X7_333 (kX7_small _ _ _ _ G x0 v3 ev3) rfl rfl (Nat.le_of_ble_eq_true rfl) (by decide) ?_
    refine z_iload_n (pc := 55) C 1 dX7_isLike_55 rfl rfl ?_
    obtain ⟨v4, ev4, h⟩ := ob1_eq h
    refine z_callSi (As := [.int x1]) (rest := [.int v3]) (pc := 56) C dX7_isLike_56 ml_X7_333 (kX7_small _ _ _ _ G x1 v4 ev4) rfl rfl (Nat.le_of_ble_eq_true rfl) (by decide) ?_
    refine z_ic_ne (pc := 59) C dX7_isLike_59 (tgt := 66) (by decide) (fun c5 => ?_) (fun c5 => ?_)
    · rw [if_neg c5] at h
      refine z_iconst (pc := 66) C dX7_isLike_66 (v := (0 : Int32)) (by decide) ?_
      refine z_goto (pc := 67) C dX7_isLike_67 (tgt := 80) (by decide) ?_
      obtain rfl := Option.some.inj h
      exact z_zret (pc := 80) C E dX7_isLike_80 rfl ⟨rfl, rfl⟩
    · rw [if_pos c5] at h
      refine z_iconst (pc := 62) C dX7_isLike_62 (v := (1 : Int32)) (by decide) ?_
      refine z_goto (pc := 63) C dX7_isLike_63 (tgt := 80) (by decide) ?_
      obtain rfl := Option.some.inj h
      exact z_zret (pc := 80) C E dX7_isLike_80 rfl ⟨rfl, rfl⟩
def fX7_isLike_b23 (x0 : Int32) (x1 : Int32) (x2 : Int32) : Option Int32 :=
    if x2 = (1 : Int32) then (if x1 = (35 : Int32) then (ob1 (fX7_in x0.toInt64 (48 : Int64) (57 : Int64)) fun v3 =>
    ob1 (bz v3) fun r4 => some r4) else
    fX7_isLike_b46 x0 x1 x2) else
    fX7_isLike_b46 x0 x1 x2
set_option maxRecDepth 100000 in
set_option maxHeartbeats 4000000 in
theorem wfX7_isLike_b23 {X : zX} {G : zH} {out : Int32} (C : zOK X cX7_isLike yX7_isLike.cls 3 (some .boolean) 2 45) (E : zPost X (poI out G)) (x0 : Int32) (x1 : Int32) (x2 : Int32) (h : fX7_isLike_b23 x0 x1 x2 = some out) : zZ X 23 [(0, .int x0), (1, .int x1), (2, .int x2)] [] G := by
  rw [fX7_isLike_b23] at h
  refine z_iload_n (pc := 23) C 2 dX7_isLike_23 rfl rfl ?_
  refine z_iconst (pc := 24) C dX7_isLike_24 (v := (1 : Int32)) (by decide) ?_
  refine z_ic_ne (pc := 25) C dX7_isLike_25 (tgt := 46) (by decide) (fun c1 => ?_) (fun c1 => ?_)
  · rw [if_neg c1] at h
    exact z_subL [0, 1, 2] (wfX7_isLike_b46 C E x0 x1 x2 h) rfl
  · rw [if_pos c1] at h
    refine z_iload_n (pc := 28) C 1 dX7_isLike_28 rfl rfl ?_
    refine z_bipush (pc := 29) C dX7_isLike_29 (v := (35 : Int32)) (by decide) ?_
    refine z_ic_ne (pc := 31) C dX7_isLike_31 (tgt := 46) (by decide) (fun c2 => ?_) (fun c2 => ?_)
    · rw [if_neg c2] at h
      exact z_subL [0, 1, 2] (wfX7_isLike_b46 C E x0 x1 x2 h) rfl
    · rw [if_pos c2] at h
      refine z_iload_n (pc := 34) C 0 dX7_isLike_34 rfl rfl ?_
      refine z_i2l (pc := 35) C dX7_isLike_35 ?_
      refine z_ldc2 (pc := 36) C dX7_isLike_36 cn_X7_271 ?_
      refine z_ldc2 (pc := 39) C dX7_isLike_39 cn_X7_273 ?_
      obtain ⟨v3, ev3, h⟩ := ob1_eq h
      refine z_callSi (As := [.long x0.toInt64, .long (48 : Int64), .long (57 : Int64)]) (rest := []) (pc := 42) C dX7_isLike_42 ml_X7_21 (kX7_in _ _ _ _ G x0.toInt64 (48 : Int64) (57 : Int64) v3 ev3) rfl rfl (Nat.le_of_ble_eq_true rfl) (by decide) ?_
      obtain ⟨r4, er4, h⟩ := ob1_eq h
      have hb := bz_eq er4
      obtain rfl := Option.some.inj h
      exact z_zret (pc := 45) C E dX7_isLike_45 hb.2 ⟨congrArg (fun z => some (Value.int z)) hb.1.symm, rfl⟩
def fX7_isLike (x0 : Int32) (x1 : Int32) (x2 : Int32) : Option Int32 :=
    if x2 = (1 : Int32) then (if x1 = (63 : Int32) then (if x0 = (10 : Int32) then (some (0 : Int32)) else
    some (1 : Int32)) else
    fX7_isLike_b23 x0 x1 x2) else
    fX7_isLike_b23 x0 x1 x2
set_option maxRecDepth 100000 in
set_option maxHeartbeats 4000000 in
theorem wfX7_isLike {X : zX} {G : zH} {out : Int32} (C : zOK X cX7_isLike yX7_isLike.cls 3 (some .boolean) 2 45) (E : zPost X (poI out G)) (x0 : Int32) (x1 : Int32) (x2 : Int32) (h : fX7_isLike x0 x1 x2 = some out) : zZ X 0 [(0, .int x0), (1, .int x1), (2, .int x2)] [] G := by
  rw [fX7_isLike] at h
  refine z_iload_n (pc := 0) C 2 dX7_isLike_0 rfl rfl ?_
  refine z_iconst (pc := 1) C dX7_isLike_1 (v := (1 : Int32)) (by decide) ?_
  refine z_ic_ne (pc := 2) C dX7_isLike_2 (tgt := 23) (by decide) (fun c1 => ?_) (fun c1 => ?_)
  · rw [if_neg c1] at h
    exact z_subL [0, 1, 2] (wfX7_isLike_b23 C E x0 x1 x2 h) rfl
  · rw [if_pos c1] at h
    refine z_iload_n (pc := 5) C 1 dX7_isLike_5 rfl rfl ?_
    refine z_bipush (pc := 6) C dX7_isLike_6 (v := (63 : Int32)) (by decide) ?_
    refine z_ic_ne (pc := 8) C dX7_isLike_8 (tgt := 23) (by decide) (fun c2 => ?_) (fun c2 => ?_)
    · rw [if_neg c2] at h
      exact z_subL [0, 1, 2] (wfX7_isLike_b23 C E x0 x1 x2 h) rfl
    · rw [if_pos c2] at h
      refine z_iload_n (pc := 11) C 0 dX7_isLike_11 rfl rfl ?_
      refine z_bipush (pc := 12) C dX7_isLike_12 (v := (10 : Int32)) (by decide) ?_
      refine z_ic_eq (pc := 14) C dX7_isLike_14 (tgt := 21) (by decide) (fun c3 => ?_) (fun c3 => ?_)
      · rw [if_pos c3] at h
        refine z_iconst (pc := 21) C dX7_isLike_21 (v := (0 : Int32)) (by decide) ?_
        obtain rfl := Option.some.inj h
        exact z_zret (pc := 22) C E dX7_isLike_22 rfl ⟨rfl, rfl⟩
      · rw [if_neg c3] at h
        refine z_iconst (pc := 17) C dX7_isLike_17 (v := (1 : Int32)) (by decide) ?_
        refine z_goto (pc := 18) C dX7_isLike_18 (tgt := 22) (by decide) ?_
        obtain rfl := Option.some.inj h
        exact z_zret (pc := 22) C E dX7_isLike_22 rfl ⟨rfl, rfl⟩
theorem kX7_isLike (l : Launch) (D : va_G) (cA : Nat → ClassId) (b : Nat) (G : zH) (x0 : Int32) (x1 : Int32) (x2 : Int32) (out : Int32) (h : fX7_isLike x0 x1 x2 = some out) : zM l D cA b yX7_isLike cX7_isLike 3 (some .boolean) 2 45 [.int x0, .int x1, .int x2] G (poI out G) := z_entry rfl (Nat.le_of_ble_eq_true rfl) (fun X C E _ _ _ => wfX7_isLike C E x0 x1 x2 h)
def fX7_stands_b22 (M : MS) : Nat → Int32 → Int32 → Int32 → Int32 → Option Int32
  | 0, _, _, _, _ => none
  | n + 1, x1, x2, x3, x4 =>
    if (M.1 5) ≤ x4 then (ob1 (bz x3) fun r2 => some r2) else
    if x3 = 0 then (ob1 (bz x3) fun r4 => some r4) else
    ob1 (fX7_signAt M (x1 + x4)) fun v5 =>
    ob1 (rd 80 (M.2.1 3) x4) fun v6 =>
    ob1 (fX7_isLike v5 v6 x2) fun v7 =>
    zlet (x4 + (1 : Int32)) fun y8 =>
    (fX7_stands_b22 M n) x1 x2 v7 y8
set_option maxRecDepth 100000 in
set_option maxHeartbeats 4000000 in
theorem wfX7_stands_b22 {X : zX} {A B : zH} {M : MS} {out : Int32} (C : zOK X cX7_stands yX7_stands.cls 5 (some .boolean) 3 67) (E : zPost X (poI out (hG A M B))) : ∀ (n : Nat) (x1 : Int32) (x2 : Int32) (x3 : Int32) (x4 : Int32) (h : fX7_stands_b22 M n x1 x2 x3 x4 = some out), zZ X 22 [(0, .ref A.length), (1, .int x1), (2, .int x2), (3, .int x3), (4, .int x4)] [] (hG A M B) := by
  intro n
  induction n with
  | zero => intro x1 x2 x3 x4 h; cases h
  | succ n ih =>
    intro x1 x2 x3 x4 h
    rw [fX7_stands_b22] at h
    refine z_iload (pc := 22) C 4 dX7_stands_22 rfl ?_
    refine z_aload_n (pc := 24) C 0 dX7_stands_24 rfl rfl ?_
    refine z_get (pc := 25) C dX7_stands_25 fl_X7_25 (hM_o A M B) rfl ?_
    refine z_ic_ge (pc := 28) C dX7_stands_28 (tgt := 61) (by decide) (fun c1 => ?_) (fun c1 => ?_)
    · rw [if_pos c1] at h
      refine z_iload_n (pc := 61) C 3 dX7_stands_61 rfl rfl ?_
      obtain ⟨r2, er2, h⟩ := ob1_eq h
      have hb := bz_eq er2
      obtain rfl := Option.some.inj h
      exact z_zret (pc := 62) C E dX7_stands_62 hb.2 ⟨congrArg (fun z => some (Value.int z)) hb.1.symm, rfl⟩
    · rw [if_neg c1] at h
      refine z_iload_n (pc := 31) C 3 dX7_stands_31 rfl rfl ?_
      refine z_if_eq (pc := 32) C dX7_stands_32 (tgt := 61) (by decide) (fun c3 => ?_) (fun c3 => ?_)
      · rw [if_pos c3] at h
        refine z_iload_n (pc := 61) C 3 dX7_stands_61 rfl rfl ?_
        obtain ⟨r4, er4, h⟩ := ob1_eq h
        have hb := bz_eq er4
        obtain rfl := Option.some.inj h
        exact z_zret (pc := 62) C E dX7_stands_62 hb.2 ⟨congrArg (fun z => some (Value.int z)) hb.1.symm, rfl⟩
      · rw [if_neg c3] at h
        refine z_aload_n (pc := 35) C 0 dX7_stands_35 rfl rfl ?_
        refine z_iload_n (pc := 36) C 1 dX7_stands_36 rfl rfl ?_
        refine z_iload (pc := 37) C 4 dX7_stands_37 rfl ?_
        refine z_iadd (pc := 39) C dX7_stands_39 ?_
        obtain ⟨v5, ev5, h⟩ := ob1_eq h
        refine z_callVi (h := A.length) (As := [.int (x1 + x4)]) (rest := []) (pc := 40) C dX7_stands_40 ml_X7_157 (kX7_signAt _ _ _ _ A M B (x1 + x4) v5 ev5) (hM_o A M B) rfl rfl rfl (Nat.le_of_ble_eq_true rfl) (by decide) ?_
        refine z_aload_n (pc := 43) C 0 dX7_stands_43 rfl rfl ?_
        refine z_get (pc := 44) C dX7_stands_44 fl_X7_17 (hM_o A M B) rfl ?_
        refine z_iload (pc := 47) C 4 dX7_stands_47 rfl ?_
        obtain ⟨v6, ev6, h⟩ := ob1_eq h
        refine z_iald (pc := 49) C dX7_stands_49 (hMa_3 A M B) (rd_eq ev6).1 (z_topi (rd_eq ev6).2 ?_)
        refine z_iload_n (pc := 50) C 2 dX7_stands_50 rfl rfl ?_
        obtain ⟨v7, ev7, h⟩ := ob1_eq h
        refine z_callSi (As := [.int v5, .int v6, .int x2]) (rest := []) (pc := 51) C dX7_stands_51 ml_X7_336 (kX7_isLike _ _ _ _ (hG A M B) v5 v6 x2 v7 ev7) rfl rfl (Nat.le_of_ble_eq_true rfl) (by decide) ?_
        refine z_istore_n (pc := 54) C dX7_stands_54 rfl (by decide) (show zput _ _ _ = [(3, .int v7), (0, .ref A.length), (1, .int x1), (2, .int x2), (4, .int x4)] from rfl) ?_
        obtain ⟨y8, ey8, h⟩ := zlet_eq h
        refine z_iinc (pc := 55) (v := y8) C 4 dX7_stands_55 rfl (by rw [ey8]; rfl) (by decide) (show zput _ _ _ = [(4, .int y8), (3, .int v7), (0, .ref A.length), (1, .int x1), (2, .int x2)] from rfl) ?_
        refine z_goto (pc := 58) C dX7_stands_58 (tgt := 22) (by decide) ?_
        exact z_subL [2, 3, 4, 1, 0] (ih x1 x2 v7 y8 h) rfl
def fX7_stands_b18 (M : MS) (x1 : Int32) (x2 : Int32) (s0 : Int32) : Option Int32 :=
    fX7_stands_b22 M FU x1 x2 s0 (0 : Int32)
set_option maxRecDepth 100000 in
set_option maxHeartbeats 4000000 in
theorem wfX7_stands_b18 {X : zX} {A B : zH} {M : MS} {out : Int32} (C : zOK X cX7_stands yX7_stands.cls 5 (some .boolean) 3 67) (E : zPost X (poI out (hG A M B))) (x1 : Int32) (x2 : Int32) (s0 : Int32) (h : fX7_stands_b18 M x1 x2 s0 = some out) : zZ X 18 [(0, .ref A.length), (1, .int x1), (2, .int x2)] [.int s0] (hG A M B) := by
  rw [fX7_stands_b18] at h
  refine z_istore_n (pc := 18) C dX7_stands_18 rfl (by decide) (show zput _ _ _ = [(3, .int s0), (0, .ref A.length), (1, .int x1), (2, .int x2)] from rfl) ?_
  refine z_iconst (pc := 19) C dX7_stands_19 (v := (0 : Int32)) (by decide) ?_
  refine z_istore (pc := 20) C dX7_stands_20 (by decide) (show zput _ _ _ = [(4, .int (0 : Int32)), (3, .int s0), (0, .ref A.length), (1, .int x1), (2, .int x2)] from rfl) ?_
  exact z_subL [2, 3, 4, 1, 0] (wfX7_stands_b22 C E FU x1 x2 s0 (0 : Int32) h) rfl
def fX7_stands (M : MS) (x1 : Int32) (x2 : Int32) : Option Int32 :=
    if (M.1 11) < (x1 + (M.1 5)) then (fX7_stands_b18 M x1 x2 (0 : Int32)) else
    fX7_stands_b18 M x1 x2 (1 : Int32)
set_option maxRecDepth 100000 in
set_option maxHeartbeats 4000000 in
theorem wfX7_stands {X : zX} {A B : zH} {M : MS} {out : Int32} (C : zOK X cX7_stands yX7_stands.cls 5 (some .boolean) 3 67) (E : zPost X (poI out (hG A M B))) (x1 : Int32) (x2 : Int32) (h : fX7_stands M x1 x2 = some out) : zZ X 0 [(0, .ref A.length), (1, .int x1), (2, .int x2)] [] (hG A M B) := by
  rw [fX7_stands] at h
  refine z_iload_n (pc := 0) C 1 dX7_stands_0 rfl rfl ?_
  refine z_aload_n (pc := 1) C 0 dX7_stands_1 rfl rfl ?_
  refine z_get (pc := 2) C dX7_stands_2 fl_X7_25 (hM_o A M B) rfl ?_
  refine z_iadd (pc := 5) C dX7_stands_5 ?_
  refine z_aload_n (pc := 6) C 0 dX7_stands_6 rfl rfl ?_
  refine z_get (pc := 7) C dX7_stands_7 fl_X7_123 (hM_o A M B) rfl ?_
  refine z_ic_gt (pc := 10) C dX7_stands_10 (tgt := 17) (by decide) (fun c1 => ?_) (fun c1 => ?_)
  · rw [if_pos c1] at h
    refine z_iconst (pc := 17) C dX7_stands_17 (v := (0 : Int32)) (by decide) ?_
    exact z_subL [0, 1, 2] (wfX7_stands_b18 C E x1 x2 (0 : Int32) h) rfl
  · rw [if_neg c1] at h
    refine z_iconst (pc := 13) C dX7_stands_13 (v := (1 : Int32)) (by decide) ?_
    refine z_goto (pc := 14) C dX7_stands_14 (tgt := 18) (by decide) ?_
    exact z_subL [0, 1, 2] (wfX7_stands_b18 C E x1 x2 (1 : Int32) h) rfl
theorem kX7_stands (l : Launch) (D : va_G) (cA : Nat → ClassId) (b : Nat) (A : zH) (M : MS) (B : zH) (x1 : Int32) (x2 : Int32) (out : Int32) (h : fX7_stands M x1 x2 = some out) : zM l D cA b yX7_stands cX7_stands 5 (some .boolean) 3 67 [.ref A.length, .int x1, .int x2] (hG A M B) (poI out (hG A M B)) := z_entry rfl (Nat.le_of_ble_eq_true rfl) (fun X C E _ _ _ => wfX7_stands C E x1 x2 h)
def fX7_found (M : MS) (x1 : Int32) : Option (Int32 × MS) :=
    zlet (mI M 1 (0 : Int32)) fun M1 =>
    ob1 (fX7_beginningsTo M1 ((x1 + (M1.1 5)) - (1 : Int32))) fun v2 =>
    ob1 (fX7_beginningsTo M1 x1) fun v3 =>
    ob1 (fX7_enters M1 (((v2 - v3) + (1 : Int32)).toInt64)) fun M4 =>
    some (x1, M4)
set_option maxRecDepth 100000 in
set_option maxHeartbeats 4000000 in
theorem wfX7_found {X : zX} {A B : zH} {out : Int32 × MS} (C : zOK X cX7_found yX7_found.cls 2 (some .int) 2 44) (E : zPost X (poI out.1 (hG A out.2 B))) (M : MS) (x1 : Int32) (h : fX7_found M x1 = some out) : zZ X 0 [(0, .ref A.length), (1, .int x1)] [] (hG A M B) := by
  rw [fX7_found] at h
  refine z_aload_n (pc := 0) C 0 dX7_found_0 rfl rfl ?_
  refine z_iconst (pc := 1) C dX7_found_1 (v := (0 : Int32)) (by decide) ?_
  obtain ⟨M1, eM1, h⟩ := zlet_eq h
  refine z_put (pc := 2) C dX7_found_2 fl_X7_11w (hM_o A M B) (fun _ => rfl) (fun _ => rfl) (Nat.le_of_ble_eq_true rfl) (hMi_1 A B eM1) ?_
  refine z_aload_n (pc := 5) C 0 dX7_found_5 rfl rfl ?_
  refine z_aload_n (pc := 6) C 0 dX7_found_6 rfl rfl ?_
  refine z_iload_n (pc := 7) C 1 dX7_found_7 rfl rfl ?_
  refine z_aload_n (pc := 8) C 0 dX7_found_8 rfl rfl ?_
  refine z_get (pc := 9) C dX7_found_9 fl_X7_25 (hM_o A M1 B) rfl ?_
  refine z_iadd (pc := 12) C dX7_found_12 ?_
  refine z_iconst (pc := 13) C dX7_found_13 (v := (1 : Int32)) (by decide) ?_
  refine z_isub (pc := 14) C dX7_found_14 ?_
  obtain ⟨v2, ev2, h⟩ := ob1_eq h
  refine z_callVi (h := A.length) (As := [.int ((x1 + (M1.1 5)) - (1 : Int32))]) (rest := [.ref A.length]) (pc := 15) C dX7_found_15 ml_X7_326 (kX7_beginningsTo _ _ _ _ A M1 B ((x1 + (M1.1 5)) - (1 : Int32)) v2 ev2) (hM_o A M1 B) rfl rfl rfl (Nat.le_of_ble_eq_true rfl) (by decide) ?_
  refine z_aload_n (pc := 18) C 0 dX7_found_18 rfl rfl ?_
  refine z_iload_n (pc := 19) C 1 dX7_found_19 rfl rfl ?_
  obtain ⟨v3, ev3, h⟩ := ob1_eq h
  refine z_callVi (h := A.length) (As := [.int x1]) (rest := [.int v2, .ref A.length]) (pc := 20) C dX7_found_20 ml_X7_326 (kX7_beginningsTo _ _ _ _ A M1 B x1 v3 ev3) (hM_o A M1 B) rfl rfl rfl (Nat.le_of_ble_eq_true rfl) (by decide) ?_
  refine z_isub (pc := 23) C dX7_found_23 ?_
  refine z_iconst (pc := 24) C dX7_found_24 (v := (1 : Int32)) (by decide) ?_
  refine z_iadd (pc := 25) C dX7_found_25 ?_
  refine z_i2l (pc := 26) C dX7_found_26 ?_
  obtain ⟨M4, eM4, h⟩ := ob1_eq h
  refine z_callVv (h := A.length) (As := [.long (((v2 - v3) + (1 : Int32)).toInt64)]) (rest := []) (pc := 27) C dX7_found_27 ml_X7_295 (kX7_enters _ _ _ _ A M1 B (((v2 - v3) + (1 : Int32)).toInt64) M4 eM4) (hM_o A M1 B) rfl rfl rfl (Nat.le_of_ble_eq_true rfl) (by decide) ?_
  refine z_iload_n (pc := 30) C 1 dX7_found_30 rfl rfl ?_
  obtain rfl := Option.some.inj h
  exact z_iret (pc := 31) C E dX7_found_31 ⟨rfl, rfl⟩
theorem kX7_found (l : Launch) (D : va_G) (cA : Nat → ClassId) (b : Nat) (A : zH) (M : MS) (B : zH) (x1 : Int32) (out : Int32 × MS) (h : fX7_found M x1 = some out) : zM l D cA b yX7_found cX7_found 2 (some .int) 2 44 [.ref A.length, .int x1] (hG A M B) (poI out.1 (hG A out.2 B)) := z_entry rfl (Nat.le_of_ble_eq_true rfl) (fun X C E _ _ _ => wfX7_found C E M x1 h)
def fX7_findsBy_b27 : Nat → MS → Int32 → Int32 → Option (Int32 × MS)
  | 0, _, _, _ => none
  | n + 1, M, x2, x3 =>
    if (M.1 11) ≤ x3 then (some ((-2 : Int32), M)) else
    ob1 (fX7_stands M x3 x2) fun v2 =>
    if v2 = 0 then (zlet (x3 + (1 : Int32)) fun y4 =>
    (fX7_findsBy_b27 n) M x2 y4) else
    ob2 (fX7_found M x3) fun v6 M5 =>
    some (v6, M5)
set_option maxRecDepth 100000 in
set_option maxHeartbeats 4000000 in
theorem wfX7_findsBy_b27 {X : zX} {A B : zH} {out : Int32 × MS} (C : zOK X cX7_findsBy yX7_findsBy.cls 4 (some .int) 4 91) (E : zPost X (poI out.1 (hG A out.2 B))) : ∀ (n : Nat) (M : MS) (x2 : Int32) (x3 : Int32) (h : fX7_findsBy_b27 n M x2 x3 = some out), zZ X 27 [(0, .ref A.length), (2, .int x2), (3, .int x3)] [] (hG A M B) := by
  intro n
  induction n with
  | zero => intro M x2 x3 h; cases h
  | succ n ih =>
    intro M x2 x3 h
    rw [fX7_findsBy_b27] at h
    refine z_iload_n (pc := 27) C 2 dX7_findsBy_27 rfl rfl ?_
    refine z_aload_n (pc := 28) C 0 dX7_findsBy_28 rfl rfl ?_
    refine z_get (pc := 29) C dX7_findsBy_29 fl_X7_123 (hM_o A M B) rfl ?_
    refine z_ic_ge (pc := 32) C dX7_findsBy_32 (tgt := 56) (by decide) (fun c1 => ?_) (fun c1 => ?_)
    · rw [if_pos c1] at h
      refine z_bipush (pc := 56) C dX7_findsBy_56 (v := (-2 : Int32)) (by decide) ?_
      obtain rfl := Option.some.inj h
      exact z_iret (pc := 58) C E dX7_findsBy_58 ⟨rfl, rfl⟩
    · rw [if_neg c1] at h
      refine z_aload_n (pc := 35) C 0 dX7_findsBy_35 rfl rfl ?_
      refine z_iload_n (pc := 36) C 2 dX7_findsBy_36 rfl rfl ?_
      refine z_iload_n (pc := 37) C 1 dX7_findsBy_37 rfl rfl ?_
      obtain ⟨v2, ev2, h⟩ := ob1_eq h
      refine z_callVi (h := A.length) (As := [.int x3, .int x2]) (rest := []) (pc := 38) C dX7_findsBy_38 ml_X7_340 (kX7_stands _ _ _ _ A M B x3 x2 v2 ev2) (hM_o A M B) rfl rfl rfl (Nat.le_of_ble_eq_true rfl) (by decide) ?_
      refine z_if_eq (pc := 41) C dX7_findsBy_41 (tgt := 50) (by decide) (fun c3 => ?_) (fun c3 => ?_)
      · rw [if_pos c3] at h
        obtain ⟨y4, ey4, h⟩ := zlet_eq h
        refine z_iinc (pc := 50) (v := y4) C 2 dX7_findsBy_50 rfl (by rw [ey4]; rfl) (by decide) (show zput _ _ _ = [(3, .int y4), (0, .ref A.length), (2, .int x2)] from rfl) ?_
        refine z_goto (pc := 53) C dX7_findsBy_53 (tgt := 27) (by decide) ?_
        exact z_subL [1, 2, 0] (ih M x2 y4 h) rfl
      · rw [if_neg c3] at h
        refine z_aload_n (pc := 44) C 0 dX7_findsBy_44 rfl rfl ?_
        refine z_iload_n (pc := 45) C 2 dX7_findsBy_45 rfl rfl ?_
        obtain ⟨v6, M5, ev6, h⟩ := ob2_eq h
        refine z_callVi (h := A.length) (As := [.int x3]) (rest := []) (pc := 46) C dX7_findsBy_46 ml_X7_344 (kX7_found _ _ _ _ A M B x3 (v6, M5) ev6) (hM_o A M B) rfl rfl rfl (Nat.le_of_ble_eq_true rfl) (by decide) ?_
        obtain rfl := Option.some.inj h
        exact z_iret (pc := 49) C E dX7_findsBy_49 ⟨rfl, rfl⟩
def fX7_findsBy (M : MS) (x1 : Int32) (x2 : Int32) : Option (Int32 × MS) :=
    zlet (mI M 0 (0 : Int32)) fun M1 =>
    ob2 (fX7_empties M1 ) fun v3 M2 =>
    if v3 = 0 then (some ((-100 : Int32), M2)) else
    ob1 (fX7_isPlace M2 x1) fun v5 =>
    if v5 = 0 then (some ((-1 : Int32), M2)) else
    fX7_findsBy_b27 FU M2 x2 x1
set_option maxRecDepth 100000 in
set_option maxHeartbeats 4000000 in
theorem wfX7_findsBy {X : zX} {A B : zH} {out : Int32 × MS} (C : zOK X cX7_findsBy yX7_findsBy.cls 4 (some .int) 4 91) (E : zPost X (poI out.1 (hG A out.2 B))) (M : MS) (x1 : Int32) (x2 : Int32) (h : fX7_findsBy M x1 x2 = some out) : zZ X 0 [(0, .ref A.length), (1, .int x1), (2, .int x2)] [] (hG A M B) := by
  rw [fX7_findsBy] at h
  refine z_aload_n (pc := 0) C 0 dX7_findsBy_0 rfl rfl ?_
  refine z_iconst (pc := 1) C dX7_findsBy_1 (v := (0 : Int32)) (by decide) ?_
  obtain ⟨M1, eM1, h⟩ := zlet_eq h
  refine z_put (pc := 2) C dX7_findsBy_2 fl_X7_1w (hM_o A M B) (fun _ => rfl) (fun _ => rfl) (Nat.le_of_ble_eq_true rfl) (hMi_0 A B eM1) ?_
  refine z_aload_n (pc := 5) C 0 dX7_findsBy_5 rfl rfl ?_
  obtain ⟨v3, M2, ev3, h⟩ := ob2_eq h
  refine z_callVi (h := A.length) (As := []) (rest := []) (pc := 6) C dX7_findsBy_6 ml_X7_182 (kX7_empties _ _ _ _ A M1 B  (v3, M2) ev3) (hM_o A M1 B) rfl rfl rfl (Nat.le_of_ble_eq_true rfl) (by decide) ?_
  refine z_if_ne (pc := 9) C dX7_findsBy_9 (tgt := 15) (by decide) (fun c4 => ?_) (fun c4 => ?_)
  · rw [if_neg c4] at h
    refine z_aload_n (pc := 15) C 0 dX7_findsBy_15 rfl rfl ?_
    refine z_iload_n (pc := 16) C 1 dX7_findsBy_16 rfl rfl ?_
    obtain ⟨v5, ev5, h⟩ := ob1_eq h
    refine z_callVi (h := A.length) (As := [.int x1]) (rest := []) (pc := 17) C dX7_findsBy_17 ml_X7_202 (kX7_isPlace _ _ _ _ A M2 B x1 v5 ev5) (hM_o A M2 B) rfl rfl rfl (Nat.le_of_ble_eq_true rfl) (by decide) ?_
    refine z_if_ne (pc := 20) C dX7_findsBy_20 (tgt := 25) (by decide) (fun c6 => ?_) (fun c6 => ?_)
    · rw [if_neg c6] at h
      refine z_iload_n (pc := 25) C 1 dX7_findsBy_25 rfl rfl ?_
      refine z_istore_n (pc := 26) C dX7_findsBy_26 rfl (by decide) (show zput _ _ _ = [(3, .int x1), (0, .ref A.length), (1, .int x1), (2, .int x2)] from rfl) ?_
      exact z_subL [1, 3, 0] (wfX7_findsBy_b27 C E FU M2 x2 x1 h) rfl
    · rw [if_pos c6] at h
      refine z_iconst (pc := 23) C dX7_findsBy_23 (v := (-1 : Int32)) (by decide) ?_
      obtain rfl := Option.some.inj h
      exact z_iret (pc := 24) C E dX7_findsBy_24 ⟨rfl, rfl⟩
  · rw [if_pos c4] at h
    refine z_bipush (pc := 12) C dX7_findsBy_12 (v := (-100 : Int32)) (by decide) ?_
    obtain rfl := Option.some.inj h
    exact z_iret (pc := 14) C E dX7_findsBy_14 ⟨rfl, rfl⟩
theorem kX7_findsBy (l : Launch) (D : va_G) (cA : Nat → ClassId) (b : Nat) (A : zH) (M : MS) (B : zH) (x1 : Int32) (x2 : Int32) (out : Int32 × MS) (h : fX7_findsBy M x1 x2 = some out) : zM l D cA b yX7_findsBy cX7_findsBy 4 (some .int) 4 91 [.ref A.length, .int x1, .int x2] (hG A M B) (poI out.1 (hG A out.2 B)) := z_entry rfl (Nat.le_of_ble_eq_true rfl) (fun X C E _ _ _ => wfX7_findsBy C E M x1 x2 h)
def fX7_finds (M : MS) (x1 : Int32) : Option (Int32 × MS) :=
    ob2 (fX7_findsBy M x1 (0 : Int32)) fun v2 M1 =>
    some (v2, M1)
set_option maxRecDepth 100000 in
set_option maxHeartbeats 4000000 in
theorem wfX7_finds {X : zX} {A B : zH} {out : Int32 × MS} (C : zOK X cX7_finds yX7_finds.cls 2 (some .int) 5 114) (E : zPost X (poI out.1 (hG A out.2 B))) (M : MS) (x1 : Int32) (h : fX7_finds M x1 = some out) : zZ X 0 [(0, .ref A.length), (1, .int x1)] [] (hG A M B) := by
  rw [fX7_finds] at h
  refine z_aload_n (pc := 0) C 0 dX7_finds_0 rfl rfl ?_
  refine z_iload_n (pc := 1) C 1 dX7_finds_1 rfl rfl ?_
  refine z_iconst (pc := 2) C dX7_finds_2 (v := (0 : Int32)) (by decide) ?_
  obtain ⟨v2, M1, ev2, h⟩ := ob2_eq h
  refine z_callVi (h := A.length) (As := [.int x1, .int (0 : Int32)]) (rest := []) (pc := 3) C dX7_finds_3 ml_X7_347 (kX7_findsBy _ _ _ _ A M B x1 (0 : Int32) (v2, M1) ev2) (hM_o A M B) rfl rfl rfl (Nat.le_of_ble_eq_true rfl) (by decide) ?_
  obtain rfl := Option.some.inj h
  exact z_iret (pc := 6) C E dX7_finds_6 ⟨rfl, rfl⟩
theorem kX7_finds (l : Launch) (D : va_G) (cA : Nat → ClassId) (b : Nat) (A : zH) (M : MS) (B : zH) (x1 : Int32) (out : Int32 × MS) (h : fX7_finds M x1 = some out) : zM l D cA b yX7_finds cX7_finds 2 (some .int) 5 114 [.ref A.length, .int x1] (hG A M B) (poI out.1 (hG A out.2 B)) := z_entry rfl (Nat.le_of_ble_eq_true rfl) (fun X C E _ _ _ => wfX7_finds C E M x1 h)
def fX7_last_b27 : Nat → MS → Int32 → Option (Int32 × MS)
  | 0, _, _ => none
  | n + 1, M, x2 =>
    if x2 < 0 then (some ((-2 : Int32), M)) else
    ob1 (fX7_stands M x2 (0 : Int32)) fun v2 =>
    if v2 = 0 then (zlet (x2 + (-1 : Int32)) fun y4 =>
    (fX7_last_b27 n) M y4) else
    ob2 (fX7_found M x2) fun v6 M5 =>
    some (v6, M5)
set_option maxRecDepth 100000 in
set_option maxHeartbeats 4000000 in
theorem wfX7_last_b27 {X : zX} {A B : zH} {out : Int32 × MS} (C : zOK X cX7_last yX7_last.cls 3 (some .int) 4 91) (E : zPost X (poI out.1 (hG A out.2 B))) : ∀ (n : Nat) (M : MS) (x2 : Int32) (h : fX7_last_b27 n M x2 = some out), zZ X 27 [(0, .ref A.length), (2, .int x2)] [] (hG A M B) := by
  intro n
  induction n with
  | zero => intro M x2 h; cases h
  | succ n ih =>
    intro M x2 h
    rw [fX7_last_b27] at h
    refine z_iload_n (pc := 27) C 1 dX7_last_27 rfl rfl ?_
    refine z_if_lt (pc := 28) C dX7_last_28 (tgt := 52) (by decide) (fun c1 => ?_) (fun c1 => ?_)
    · rw [if_pos c1] at h
      refine z_bipush (pc := 52) C dX7_last_52 (v := (-2 : Int32)) (by decide) ?_
      obtain rfl := Option.some.inj h
      exact z_iret (pc := 54) C E dX7_last_54 ⟨rfl, rfl⟩
    · rw [if_neg c1] at h
      refine z_aload_n (pc := 31) C 0 dX7_last_31 rfl rfl ?_
      refine z_iload_n (pc := 32) C 1 dX7_last_32 rfl rfl ?_
      refine z_iconst (pc := 33) C dX7_last_33 (v := (0 : Int32)) (by decide) ?_
      obtain ⟨v2, ev2, h⟩ := ob1_eq h
      refine z_callVi (h := A.length) (As := [.int x2, .int (0 : Int32)]) (rest := []) (pc := 34) C dX7_last_34 ml_X7_340 (kX7_stands _ _ _ _ A M B x2 (0 : Int32) v2 ev2) (hM_o A M B) rfl rfl rfl (Nat.le_of_ble_eq_true rfl) (by decide) ?_
      refine z_if_eq (pc := 37) C dX7_last_37 (tgt := 46) (by decide) (fun c3 => ?_) (fun c3 => ?_)
      · rw [if_pos c3] at h
        obtain ⟨y4, ey4, h⟩ := zlet_eq h
        refine z_iinc (pc := 46) (v := y4) C 1 dX7_last_46 rfl (by rw [ey4]; rfl) (by decide) (show zput _ _ _ = [(2, .int y4), (0, .ref A.length)] from rfl) ?_
        refine z_goto (pc := 49) C dX7_last_49 (tgt := 27) (by decide) ?_
        exact z_subL [1, 0] (ih M y4 h) rfl
      · rw [if_neg c3] at h
        refine z_aload_n (pc := 40) C 0 dX7_last_40 rfl rfl ?_
        refine z_iload_n (pc := 41) C 1 dX7_last_41 rfl rfl ?_
        obtain ⟨v6, M5, ev6, h⟩ := ob2_eq h
        refine z_callVi (h := A.length) (As := [.int x2]) (rest := []) (pc := 42) C dX7_last_42 ml_X7_344 (kX7_found _ _ _ _ A M B x2 (v6, M5) ev6) (hM_o A M B) rfl rfl rfl (Nat.le_of_ble_eq_true rfl) (by decide) ?_
        obtain rfl := Option.some.inj h
        exact z_iret (pc := 45) C E dX7_last_45 ⟨rfl, rfl⟩
def fX7_last (M : MS) (x1 : Int32) : Option (Int32 × MS) :=
    zlet (mI M 0 (0 : Int32)) fun M1 =>
    ob2 (fX7_empties M1 ) fun v3 M2 =>
    if v3 = 0 then (some ((-100 : Int32), M2)) else
    ob1 (fX7_isPlace M2 x1) fun v5 =>
    if v5 = 0 then (some ((-1 : Int32), M2)) else
    fX7_last_b27 FU M2 x1
set_option maxRecDepth 100000 in
set_option maxHeartbeats 4000000 in
theorem wfX7_last {X : zX} {A B : zH} {out : Int32 × MS} (C : zOK X cX7_last yX7_last.cls 3 (some .int) 4 91) (E : zPost X (poI out.1 (hG A out.2 B))) (M : MS) (x1 : Int32) (h : fX7_last M x1 = some out) : zZ X 0 [(0, .ref A.length), (1, .int x1)] [] (hG A M B) := by
  rw [fX7_last] at h
  refine z_aload_n (pc := 0) C 0 dX7_last_0 rfl rfl ?_
  refine z_iconst (pc := 1) C dX7_last_1 (v := (0 : Int32)) (by decide) ?_
  obtain ⟨M1, eM1, h⟩ := zlet_eq h
  refine z_put (pc := 2) C dX7_last_2 fl_X7_1w (hM_o A M B) (fun _ => rfl) (fun _ => rfl) (Nat.le_of_ble_eq_true rfl) (hMi_0 A B eM1) ?_
  refine z_aload_n (pc := 5) C 0 dX7_last_5 rfl rfl ?_
  obtain ⟨v3, M2, ev3, h⟩ := ob2_eq h
  refine z_callVi (h := A.length) (As := []) (rest := []) (pc := 6) C dX7_last_6 ml_X7_182 (kX7_empties _ _ _ _ A M1 B  (v3, M2) ev3) (hM_o A M1 B) rfl rfl rfl (Nat.le_of_ble_eq_true rfl) (by decide) ?_
  refine z_if_ne (pc := 9) C dX7_last_9 (tgt := 15) (by decide) (fun c4 => ?_) (fun c4 => ?_)
  · rw [if_neg c4] at h
    refine z_aload_n (pc := 15) C 0 dX7_last_15 rfl rfl ?_
    refine z_iload_n (pc := 16) C 1 dX7_last_16 rfl rfl ?_
    obtain ⟨v5, ev5, h⟩ := ob1_eq h
    refine z_callVi (h := A.length) (As := [.int x1]) (rest := []) (pc := 17) C dX7_last_17 ml_X7_202 (kX7_isPlace _ _ _ _ A M2 B x1 v5 ev5) (hM_o A M2 B) rfl rfl rfl (Nat.le_of_ble_eq_true rfl) (by decide) ?_
    refine z_if_ne (pc := 20) C dX7_last_20 (tgt := 25) (by decide) (fun c6 => ?_) (fun c6 => ?_)
    · rw [if_neg c6] at h
      refine z_iload_n (pc := 25) C 1 dX7_last_25 rfl rfl ?_
      refine z_istore_n (pc := 26) C dX7_last_26 rfl (by decide) (show zput _ _ _ = [(2, .int x1), (0, .ref A.length), (1, .int x1)] from rfl) ?_
      exact z_subL [1, 0] (wfX7_last_b27 C E FU M2 x1 h) rfl
    · rw [if_pos c6] at h
      refine z_iconst (pc := 23) C dX7_last_23 (v := (-1 : Int32)) (by decide) ?_
      obtain rfl := Option.some.inj h
      exact z_iret (pc := 24) C E dX7_last_24 ⟨rfl, rfl⟩
  · rw [if_pos c4] at h
    refine z_bipush (pc := 12) C dX7_last_12 (v := (-100 : Int32)) (by decide) ?_
    obtain rfl := Option.some.inj h
    exact z_iret (pc := 14) C E dX7_last_14 ⟨rfl, rfl⟩
theorem kX7_last (l : Launch) (D : va_G) (cA : Nat → ClassId) (b : Nat) (A : zH) (M : MS) (B : zH) (x1 : Int32) (out : Int32 × MS) (h : fX7_last M x1 = some out) : zM l D cA b yX7_last cX7_last 3 (some .int) 4 91 [.ref A.length, .int x1] (hG A M B) (poI out.1 (hG A out.2 B)) := z_entry rfl (Nat.le_of_ble_eq_true rfl) (fun X C E _ _ _ => wfX7_last C E M x1 h)
def fX7_many_b127 (M : MS) (x1 : Int32) (x2 : Int32) (x3 : Int32) : Option (Int32 × MS) :=
    zlet (mI M 1 (0 : Int32)) fun M1 =>
    ob1 (fX7_enters M1 x2.toInt64) fun M2 =>
    ob1 (fX7_enters M2 x3.toInt64) fun M3 =>
    some (x1, M3)
set_option maxRecDepth 100000 in
set_option maxHeartbeats 4000000 in
theorem wfX7_many_b127 {X : zX} {A B : zH} {out : Int32 × MS} (C : zOK X cX7_many yX7_many.cls 6 (some .int) 4 91) (E : zPost X (poI out.1 (hG A out.2 B))) (M : MS) (x1 : Int32) (x2 : Int32) (x3 : Int32) (h : fX7_many_b127 M x1 x2 x3 = some out) : zZ X 127 [(0, .ref A.length), (1, .int x1), (2, .int x2), (3, .int x3)] [] (hG A M B) := by
  rw [fX7_many_b127] at h
  refine z_aload_n (pc := 127) C 0 dX7_many_127 rfl rfl ?_
  refine z_iconst (pc := 128) C dX7_many_128 (v := (0 : Int32)) (by decide) ?_
  obtain ⟨M1, eM1, h⟩ := zlet_eq h
  refine z_put (pc := 129) C dX7_many_129 fl_X7_11w (hM_o A M B) (fun _ => rfl) (fun _ => rfl) (Nat.le_of_ble_eq_true rfl) (hMi_1 A B eM1) ?_
  refine z_aload_n (pc := 132) C 0 dX7_many_132 rfl rfl ?_
  refine z_iload_n (pc := 133) C 2 dX7_many_133 rfl rfl ?_
  refine z_i2l (pc := 134) C dX7_many_134 ?_
  obtain ⟨M2, eM2, h⟩ := ob1_eq h
  refine z_callVv (h := A.length) (As := [.long x2.toInt64]) (rest := []) (pc := 135) C dX7_many_135 ml_X7_295 (kX7_enters _ _ _ _ A M1 B x2.toInt64 M2 eM2) (hM_o A M1 B) rfl rfl rfl (Nat.le_of_ble_eq_true rfl) (by decide) ?_
  refine z_aload_n (pc := 138) C 0 dX7_many_138 rfl rfl ?_
  refine z_iload_n (pc := 139) C 3 dX7_many_139 rfl rfl ?_
  refine z_i2l (pc := 140) C dX7_many_140 ?_
  obtain ⟨M3, eM3, h⟩ := ob1_eq h
  refine z_callVv (h := A.length) (As := [.long x3.toInt64]) (rest := []) (pc := 141) C dX7_many_141 ml_X7_295 (kX7_enters _ _ _ _ A M2 B x3.toInt64 M3 eM3) (hM_o A M2 B) rfl rfl rfl (Nat.le_of_ble_eq_true rfl) (by decide) ?_
  refine z_iload_n (pc := 144) C 1 dX7_many_144 rfl rfl ?_
  obtain rfl := Option.some.inj h
  exact z_iret (pc := 145) C E dX7_many_145 ⟨rfl, rfl⟩
def fX7_many_b121 (k27 : MS → Int32 → Int32 → Int32 → Int32 → Int32 → Option (Int32 × MS)) (M : MS) (x1 : Int32) (x2 : Int32) (x3 : Int32) (x4 : Int32) (x5 : Int32) : Option (Int32 × MS) :=
    zlet (x5 + (1 : Int32)) fun y1 =>
    k27 M x1 x2 x3 x4 y1
set_option maxRecDepth 100000 in
set_option maxHeartbeats 4000000 in
theorem wfX7_many_b121 {X : zX} {A B : zH} {out : Int32 × MS} (C : zOK X cX7_many yX7_many.cls 6 (some .int) 4 91) (E : zPost X (poI out.1 (hG A out.2 B))) (k27 : MS → Int32 → Int32 → Int32 → Int32 → Int32 → Option (Int32 × MS)) (hk27 : ∀ (M : MS) (x1 : Int32) (x2 : Int32) (x3 : Int32) (x4 : Int32) (x5 : Int32), k27 M x1 x2 x3 x4 x5 = some out → zZ X 27 [(0, .ref A.length), (1, .int x1), (2, .int x2), (3, .int x3), (4, .int x4), (5, .int x5)] [] (hG A M B)) (M : MS) (x1 : Int32) (x2 : Int32) (x3 : Int32) (x4 : Int32) (x5 : Int32) (h : fX7_many_b121 k27 M x1 x2 x3 x4 x5 = some out) : zZ X 121 [(0, .ref A.length), (1, .int x1), (2, .int x2), (3, .int x3), (4, .int x4), (5, .int x5)] [] (hG A M B) := by
  rw [fX7_many_b121] at h
  obtain ⟨y1, ey1, h⟩ := zlet_eq h
  refine z_iinc (pc := 121) (v := y1) C 5 dX7_many_121 rfl (by rw [ey1]; rfl) (by decide) (show zput _ _ _ = [(5, .int y1), (0, .ref A.length), (1, .int x1), (2, .int x2), (3, .int x3), (4, .int x4)] from rfl) ?_
  refine z_goto (pc := 124) C dX7_many_124 (tgt := 27) (by decide) ?_
  exact z_subL [1, 2, 3, 4, 5, 0] (hk27 M x1 x2 x3 x4 y1 h) rfl
def fX7_many_b119 (k27 : MS → Int32 → Int32 → Int32 → Int32 → Int32 → Option (Int32 × MS)) (M : MS) (x1 : Int32) (x2 : Int32) (x3 : Int32) (x5 : Int32) (s0 : Int32) : Option (Int32 × MS) :=
    fX7_many_b121 k27 M x1 x2 x3 s0 x5
set_option maxRecDepth 100000 in
set_option maxHeartbeats 4000000 in
theorem wfX7_many_b119 {X : zX} {A B : zH} {out : Int32 × MS} (C : zOK X cX7_many yX7_many.cls 6 (some .int) 4 91) (E : zPost X (poI out.1 (hG A out.2 B))) (k27 : MS → Int32 → Int32 → Int32 → Int32 → Int32 → Option (Int32 × MS)) (hk27 : ∀ (M : MS) (x1 : Int32) (x2 : Int32) (x3 : Int32) (x4 : Int32) (x5 : Int32), k27 M x1 x2 x3 x4 x5 = some out → zZ X 27 [(0, .ref A.length), (1, .int x1), (2, .int x2), (3, .int x3), (4, .int x4), (5, .int x5)] [] (hG A M B)) (M : MS) (x1 : Int32) (x2 : Int32) (x3 : Int32) (x5 : Int32) (s0 : Int32) (h : fX7_many_b119 k27 M x1 x2 x3 x5 s0 = some out) : zZ X 119 [(0, .ref A.length), (1, .int x1), (2, .int x2), (3, .int x3), (5, .int x5)] [.int s0] (hG A M B) := by
  rw [fX7_many_b119] at h
  refine z_istore (pc := 119) C dX7_many_119 (by decide) (show zput _ _ _ = [(4, .int s0), (0, .ref A.length), (1, .int x1), (2, .int x2), (3, .int x3), (5, .int x5)] from rfl) ?_
  exact z_subL [1, 2, 3, 4, 0, 5] (wfX7_many_b121 C E k27 hk27 M x1 x2 x3 s0 x5 h) rfl
def fX7_many_b95 (k27 : MS → Int32 → Int32 → Int32 → Int32 → Int32 → Option (Int32 × MS)) (M : MS) (x1 : Int32) (x2 : Int32) (x4 : Int32) (x5 : Int32) (s0 : Int32) (s1 : Int32) : Option (Int32 × MS) :=
    ob1 (fX7_flag s0) fun v1 =>
    zlet ((s1 + v1)) fun y2 =>
    if x5 < x4 then (fX7_many_b119 k27 M x1 x2 y2 x5 x4) else
    fX7_many_b119 k27 M x1 x2 y2 x5 (x5 + (M.1 5))
set_option maxRecDepth 100000 in
set_option maxHeartbeats 4000000 in
theorem wfX7_many_b95 {X : zX} {A B : zH} {out : Int32 × MS} (C : zOK X cX7_many yX7_many.cls 6 (some .int) 4 91) (E : zPost X (poI out.1 (hG A out.2 B))) (k27 : MS → Int32 → Int32 → Int32 → Int32 → Int32 → Option (Int32 × MS)) (hk27 : ∀ (M : MS) (x1 : Int32) (x2 : Int32) (x3 : Int32) (x4 : Int32) (x5 : Int32), k27 M x1 x2 x3 x4 x5 = some out → zZ X 27 [(0, .ref A.length), (1, .int x1), (2, .int x2), (3, .int x3), (4, .int x4), (5, .int x5)] [] (hG A M B)) (M : MS) (x1 : Int32) (x2 : Int32) (x4 : Int32) (x5 : Int32) (s0 : Int32) (s1 : Int32) (h : fX7_many_b95 k27 M x1 x2 x4 x5 s0 s1 = some out) : zZ X 95 [(0, .ref A.length), (1, .int x1), (2, .int x2), (4, .int x4), (5, .int x5)] [.int s0, .int s1] (hG A M B) := by
  rw [fX7_many_b95] at h
  obtain ⟨v1, ev1, h⟩ := ob1_eq h
  refine z_callSi (As := [.int s0]) (rest := [.int s1]) (pc := 95) C dX7_many_95 ml_X7_119 (kX7_flag _ _ _ _ (hG A M B) s0 v1 ev1) rfl rfl (Nat.le_of_ble_eq_true rfl) (by decide) ?_
  refine z_iadd (pc := 98) C dX7_many_98 ?_
  obtain ⟨y2, ey2, h⟩ := zlet_eq h
  refine z_topi ey2 ?_
  refine z_istore_n (pc := 99) C dX7_many_99 rfl (by decide) (show zput _ _ _ = [(3, .int y2), (0, .ref A.length), (1, .int x1), (2, .int x2), (4, .int x4), (5, .int x5)] from rfl) ?_
  refine z_iload (pc := 100) C 5 dX7_many_100 rfl ?_
  refine z_iload (pc := 102) C 4 dX7_many_102 rfl ?_
  refine z_ic_lt (pc := 104) C dX7_many_104 (tgt := 117) (by decide) (fun c3 => ?_) (fun c3 => ?_)
  · rw [if_pos c3] at h
    refine z_iload (pc := 117) C 4 dX7_many_117 rfl ?_
    exact z_subL [1, 2, 3, 0, 5] (wfX7_many_b119 C E k27 hk27 M x1 x2 y2 x5 x4 h) rfl
  · rw [if_neg c3] at h
    refine z_iload (pc := 107) C 5 dX7_many_107 rfl ?_
    refine z_aload_n (pc := 109) C 1 dX7_many_109 rfl rfl ?_
    refine z_get (pc := 110) C dX7_many_110 fl_X7_25 (hM_o A M B) rfl ?_
    refine z_iadd (pc := 113) C dX7_many_113 ?_
    refine z_goto (pc := 114) C dX7_many_114 (tgt := 119) (by decide) ?_
    exact z_subL [1, 2, 3, 0, 5] (wfX7_many_b119 C E k27 hk27 M x1 x2 y2 x5 (x5 + (M.1 5)) h) rfl
def fX7_many_b77 (k27 : MS → Int32 → Int32 → Int32 → Int32 → Int32 → Option (Int32 × MS)) (M : MS) (x1 : Int32) (x3 : Int32) (x4 : Int32) (x5 : Int32) (s0 : Int32) (s1 : Int32) : Option (Int32 × MS) :=
    ob1 (fX7_flag s0) fun v1 =>
    zlet ((s1 + v1)) fun y2 =>
    if x5 < x4 then (fX7_many_b95 k27 M x1 y2 x4 x5 (0 : Int32) x3) else
    fX7_many_b95 k27 M x1 y2 x4 x5 (1 : Int32) x3
set_option maxRecDepth 100000 in
set_option maxHeartbeats 4000000 in
theorem wfX7_many_b77 {X : zX} {A B : zH} {out : Int32 × MS} (C : zOK X cX7_many yX7_many.cls 6 (some .int) 4 91) (E : zPost X (poI out.1 (hG A out.2 B))) (k27 : MS → Int32 → Int32 → Int32 → Int32 → Int32 → Option (Int32 × MS)) (hk27 : ∀ (M : MS) (x1 : Int32) (x2 : Int32) (x3 : Int32) (x4 : Int32) (x5 : Int32), k27 M x1 x2 x3 x4 x5 = some out → zZ X 27 [(0, .ref A.length), (1, .int x1), (2, .int x2), (3, .int x3), (4, .int x4), (5, .int x5)] [] (hG A M B)) (M : MS) (x1 : Int32) (x3 : Int32) (x4 : Int32) (x5 : Int32) (s0 : Int32) (s1 : Int32) (h : fX7_many_b77 k27 M x1 x3 x4 x5 s0 s1 = some out) : zZ X 77 [(0, .ref A.length), (1, .int x1), (3, .int x3), (4, .int x4), (5, .int x5)] [.int s0, .int s1] (hG A M B) := by
  rw [fX7_many_b77] at h
  obtain ⟨v1, ev1, h⟩ := ob1_eq h
  refine z_callSi (As := [.int s0]) (rest := [.int s1]) (pc := 77) C dX7_many_77 ml_X7_119 (kX7_flag _ _ _ _ (hG A M B) s0 v1 ev1) rfl rfl (Nat.le_of_ble_eq_true rfl) (by decide) ?_
  refine z_iadd (pc := 80) C dX7_many_80 ?_
  obtain ⟨y2, ey2, h⟩ := zlet_eq h
  refine z_topi ey2 ?_
  refine z_istore_n (pc := 81) C dX7_many_81 rfl (by decide) (show zput _ _ _ = [(2, .int y2), (0, .ref A.length), (1, .int x1), (3, .int x3), (4, .int x4), (5, .int x5)] from rfl) ?_
  refine z_iload_n (pc := 82) C 3 dX7_many_82 rfl rfl ?_
  refine z_iload (pc := 83) C 5 dX7_many_83 rfl ?_
  refine z_iload (pc := 85) C 4 dX7_many_85 rfl ?_
  refine z_ic_lt (pc := 87) C dX7_many_87 (tgt := 94) (by decide) (fun c3 => ?_) (fun c3 => ?_)
  · rw [if_pos c3] at h
    refine z_iconst (pc := 94) C dX7_many_94 (v := (0 : Int32)) (by decide) ?_
    exact z_subL [1, 2, 0, 4, 5] (wfX7_many_b95 C E k27 hk27 M x1 y2 x4 x5 (0 : Int32) x3 h) rfl
  · rw [if_neg c3] at h
    refine z_iconst (pc := 90) C dX7_many_90 (v := (1 : Int32)) (by decide) ?_
    refine z_goto (pc := 91) C dX7_many_91 (tgt := 95) (by decide) ?_
    exact z_subL [1, 2, 0, 4, 5] (wfX7_many_b95 C E k27 hk27 M x1 y2 x4 x5 (1 : Int32) x3 h) rfl
def fX7_many_b27 : Nat → MS → Int32 → Int32 → Int32 → Int32 → Int32 → Option (Int32 × MS)
  | 0, _, _, _, _, _, _ => none
  | n + 1, M, x1, x2, x3, x4, x5 =>
    if (M.1 11) ≤ x5 then (fX7_many_b127 M x1 x2 x3) else
    ob1 (fX7_stands M x5 (0 : Int32)) fun v2 =>
    if v2 = 0 then (fX7_many_b121 (fX7_many_b27 n) M x1 x2 x3 x4 x5) else
    zlet (x1 + (1 : Int32)) fun y4 =>
    ob1 (fX7_beginningsTo M ((x5 + (M.1 5)) - (1 : Int32))) fun v5 =>
    ob1 (fX7_beginningsTo M x5) fun v6 =>
    if v5 ≤ v6 then (fX7_many_b77 (fX7_many_b27 n) M y4 x3 x4 x5 (0 : Int32) x2) else
    fX7_many_b77 (fX7_many_b27 n) M y4 x3 x4 x5 (1 : Int32) x2
set_option maxRecDepth 100000 in
set_option maxHeartbeats 4000000 in
theorem wfX7_many_b27 {X : zX} {A B : zH} {out : Int32 × MS} (C : zOK X cX7_many yX7_many.cls 6 (some .int) 4 91) (E : zPost X (poI out.1 (hG A out.2 B))) : ∀ (n : Nat) (M : MS) (x1 : Int32) (x2 : Int32) (x3 : Int32) (x4 : Int32) (x5 : Int32) (h : fX7_many_b27 n M x1 x2 x3 x4 x5 = some out), zZ X 27 [(0, .ref A.length), (1, .int x1), (2, .int x2), (3, .int x3), (4, .int x4), (5, .int x5)] [] (hG A M B) := by
  intro n
  induction n with
  | zero => intro M x1 x2 x3 x4 x5 h; cases h
  | succ n ih =>
    intro M x1 x2 x3 x4 x5 h
    rw [fX7_many_b27] at h
    refine z_iload (pc := 27) C 5 dX7_many_27 rfl ?_
    refine z_aload_n (pc := 29) C 0 dX7_many_29 rfl rfl ?_
    refine z_get (pc := 30) C dX7_many_30 fl_X7_123 (hM_o A M B) rfl ?_
    refine z_ic_ge (pc := 33) C dX7_many_33 (tgt := 127) (by decide) (fun c1 => ?_) (fun c1 => ?_)
    · rw [if_pos c1] at h
      exact z_subL [0, 1, 2, 3] (wfX7_many_b127 C E M x1 x2 x3 h) rfl
    · rw [if_neg c1] at h
      refine z_aload_n (pc := 36) C 0 dX7_many_36 rfl rfl ?_
      refine z_iload (pc := 37) C 5 dX7_many_37 rfl ?_
      refine z_iconst (pc := 39) C dX7_many_39 (v := (0 : Int32)) (by decide) ?_
      obtain ⟨v2, ev2, h⟩ := ob1_eq h
      refine z_callVi (h := A.length) (As := [.int x5, .int (0 : Int32)]) (rest := []) (pc := 40) C dX7_many_40 ml_X7_340 (kX7_stands _ _ _ _ A M B x5 (0 : Int32) v2 ev2) (hM_o A M B) rfl rfl rfl (Nat.le_of_ble_eq_true rfl) (by decide) ?_
      refine z_if_eq (pc := 43) C dX7_many_43 (tgt := 121) (by decide) (fun c3 => ?_) (fun c3 => ?_)
      · rw [if_pos c3] at h
        exact z_subL [0, 1, 2, 3, 4, 5] (wfX7_many_b121 C E (fX7_many_b27 n) ih M x1 x2 x3 x4 x5 h) rfl
      · rw [if_neg c3] at h
        obtain ⟨y4, ey4, h⟩ := zlet_eq h
        refine z_iinc (pc := 46) (v := y4) C 1 dX7_many_46 rfl (by rw [ey4]; rfl) (by decide) (show zput _ _ _ = [(1, .int y4), (0, .ref A.length), (2, .int x2), (3, .int x3), (4, .int x4), (5, .int x5)] from rfl) ?_
        refine z_iload_n (pc := 49) C 2 dX7_many_49 rfl rfl ?_
        refine z_aload_n (pc := 50) C 1 dX7_many_50 rfl rfl ?_
        refine z_iload (pc := 51) C 5 dX7_many_51 rfl ?_
        refine z_aload_n (pc := 53) C 1 dX7_many_53 rfl rfl ?_
        refine z_get (pc := 54) C dX7_many_54 fl_X7_25 (hM_o A M B) rfl ?_
        refine z_iadd (pc := 57) C dX7_many_57 ?_
        refine z_iconst (pc := 58) C dX7_many_58 (v := (1 : Int32)) (by decide) ?_
        refine z_isub (pc := 59) C dX7_many_59 ?_
        obtain ⟨v5, ev5, h⟩ := ob1_eq h
        refine z_callVi (h := A.length) (As := [.int ((x5 + (M.1 5)) - (1 : Int32))]) (rest := [.int x2]) (pc := 60) C dX7_many_60 ml_X7_326 (kX7_beginningsTo _ _ _ _ A M B ((x5 + (M.1 5)) - (1 : Int32)) v5 ev5) (hM_o A M B) rfl rfl rfl (Nat.le_of_ble_eq_true rfl) (by decide) ?_
        refine z_aload_n (pc := 63) C 1 dX7_many_63 rfl rfl ?_
        refine z_iload (pc := 64) C 5 dX7_many_64 rfl ?_
        obtain ⟨v6, ev6, h⟩ := ob1_eq h
        refine z_callVi (h := A.length) (As := [.int x5]) (rest := [.int v5, .int x2]) (pc := 66) C dX7_many_66 ml_X7_326 (kX7_beginningsTo _ _ _ _ A M B x5 v6 ev6) (hM_o A M B) rfl rfl rfl (Nat.le_of_ble_eq_true rfl) (by decide) ?_
        refine z_ic_le (pc := 69) C dX7_many_69 (tgt := 76) (by decide) (fun c7 => ?_) (fun c7 => ?_)
        · rw [if_pos c7] at h
          refine z_iconst (pc := 76) C dX7_many_76 (v := (0 : Int32)) (by decide) ?_
          exact z_subL [1, 0, 3, 4, 5] (wfX7_many_b77 C E (fX7_many_b27 n) ih M y4 x3 x4 x5 (0 : Int32) x2 h) rfl
        · rw [if_neg c7] at h
          refine z_iconst (pc := 72) C dX7_many_72 (v := (1 : Int32)) (by decide) ?_
          refine z_goto (pc := 73) C dX7_many_73 (tgt := 77) (by decide) ?_
          exact z_subL [1, 0, 3, 4, 5] (wfX7_many_b77 C E (fX7_many_b27 n) ih M y4 x3 x4 x5 (1 : Int32) x2 h) rfl
def fX7_many (M : MS) : Option (Int32 × MS) :=
    zlet (mI M 0 (0 : Int32)) fun M1 =>
    ob2 (fX7_empties M1 ) fun v3 M2 =>
    if v3 = 0 then (some ((-100 : Int32), M2)) else
    fX7_many_b27 FU M2 (0 : Int32) (0 : Int32) (0 : Int32) (0 : Int32) (0 : Int32)
set_option maxRecDepth 100000 in
set_option maxHeartbeats 4000000 in
theorem wfX7_many {X : zX} {A B : zH} {out : Int32 × MS} (C : zOK X cX7_many yX7_many.cls 6 (some .int) 4 91) (E : zPost X (poI out.1 (hG A out.2 B))) (M : MS) (h : fX7_many M = some out) : zZ X 0 [(0, .ref A.length)] [] (hG A M B) := by
  rw [fX7_many] at h
  refine z_aload_n (pc := 0) C 0 dX7_many_0 rfl rfl ?_
  refine z_iconst (pc := 1) C dX7_many_1 (v := (0 : Int32)) (by decide) ?_
  obtain ⟨M1, eM1, h⟩ := zlet_eq h
  refine z_put (pc := 2) C dX7_many_2 fl_X7_1w (hM_o A M B) (fun _ => rfl) (fun _ => rfl) (Nat.le_of_ble_eq_true rfl) (hMi_0 A B eM1) ?_
  refine z_aload_n (pc := 5) C 0 dX7_many_5 rfl rfl ?_
  obtain ⟨v3, M2, ev3, h⟩ := ob2_eq h
  refine z_callVi (h := A.length) (As := []) (rest := []) (pc := 6) C dX7_many_6 ml_X7_182 (kX7_empties _ _ _ _ A M1 B  (v3, M2) ev3) (hM_o A M1 B) rfl rfl rfl (Nat.le_of_ble_eq_true rfl) (by decide) ?_
  refine z_if_ne (pc := 9) C dX7_many_9 (tgt := 15) (by decide) (fun c4 => ?_) (fun c4 => ?_)
  · rw [if_neg c4] at h
    refine z_iconst (pc := 15) C dX7_many_15 (v := (0 : Int32)) (by decide) ?_
    refine z_istore_n (pc := 16) C dX7_many_16 rfl (by decide) (show zput _ _ _ = [(1, .int (0 : Int32)), (0, .ref A.length)] from rfl) ?_
    refine z_iconst (pc := 17) C dX7_many_17 (v := (0 : Int32)) (by decide) ?_
    refine z_istore_n (pc := 18) C dX7_many_18 rfl (by decide) (show zput _ _ _ = [(2, .int (0 : Int32)), (1, .int (0 : Int32)), (0, .ref A.length)] from rfl) ?_
    refine z_iconst (pc := 19) C dX7_many_19 (v := (0 : Int32)) (by decide) ?_
    refine z_istore_n (pc := 20) C dX7_many_20 rfl (by decide) (show zput _ _ _ = [(3, .int (0 : Int32)), (2, .int (0 : Int32)), (1, .int (0 : Int32)), (0, .ref A.length)] from rfl) ?_
    refine z_iconst (pc := 21) C dX7_many_21 (v := (0 : Int32)) (by decide) ?_
    refine z_istore (pc := 22) C dX7_many_22 (by decide) (show zput _ _ _ = [(4, .int (0 : Int32)), (3, .int (0 : Int32)), (2, .int (0 : Int32)), (1, .int (0 : Int32)), (0, .ref A.length)] from rfl) ?_
    refine z_iconst (pc := 24) C dX7_many_24 (v := (0 : Int32)) (by decide) ?_
    refine z_istore (pc := 25) C dX7_many_25 (by decide) (show zput _ _ _ = [(5, .int (0 : Int32)), (4, .int (0 : Int32)), (3, .int (0 : Int32)), (2, .int (0 : Int32)), (1, .int (0 : Int32)), (0, .ref A.length)] from rfl) ?_
    exact z_subL [5, 4, 3, 2, 1, 0] (wfX7_many_b27 C E FU M2 (0 : Int32) (0 : Int32) (0 : Int32) (0 : Int32) (0 : Int32) h) rfl
  · rw [if_pos c4] at h
    refine z_bipush (pc := 12) C dX7_many_12 (v := (-100 : Int32)) (by decide) ?_
    obtain rfl := Option.some.inj h
    exact z_iret (pc := 14) C E dX7_many_14 ⟨rfl, rfl⟩
theorem kX7_many (l : Launch) (D : va_G) (cA : Nat → ClassId) (b : Nat) (A : zH) (M : MS) (B : zH)  (out : Int32 × MS) (h : fX7_many M = some out) : zM l D cA b yX7_many cX7_many 6 (some .int) 4 91 [.ref A.length] (hG A M B) (poI out.1 (hG A out.2 B)) := z_entry rfl (Nat.le_of_ble_eq_true rfl) (fun X C E _ _ _ => wfX7_many C E M h)
def fX7_fits (M : MS) (x1 : Int32) : Option (Int32 × MS) :=
    ob2 (fX7_findsBy M x1 (1 : Int32)) fun v2 M1 =>
    some (v2, M1)
set_option maxRecDepth 100000 in
set_option maxHeartbeats 4000000 in
theorem wfX7_fits {X : zX} {A B : zH} {out : Int32 × MS} (C : zOK X cX7_fits yX7_fits.cls 2 (some .int) 5 114) (E : zPost X (poI out.1 (hG A out.2 B))) (M : MS) (x1 : Int32) (h : fX7_fits M x1 = some out) : zZ X 0 [(0, .ref A.length), (1, .int x1)] [] (hG A M B) := by
  rw [fX7_fits] at h
  refine z_aload_n (pc := 0) C 0 dX7_fits_0 rfl rfl ?_
  refine z_iload_n (pc := 1) C 1 dX7_fits_1 rfl rfl ?_
  refine z_iconst (pc := 2) C dX7_fits_2 (v := (1 : Int32)) (by decide) ?_
  obtain ⟨v2, M1, ev2, h⟩ := ob2_eq h
  refine z_callVi (h := A.length) (As := [.int x1, .int (1 : Int32)]) (rest := []) (pc := 3) C dX7_fits_3 ml_X7_347 (kX7_findsBy _ _ _ _ A M B x1 (1 : Int32) (v2, M1) ev2) (hM_o A M B) rfl rfl rfl (Nat.le_of_ble_eq_true rfl) (by decide) ?_
  obtain rfl := Option.some.inj h
  exact z_iret (pc := 6) C E dX7_fits_6 ⟨rfl, rfl⟩
theorem kX7_fits (l : Launch) (D : va_G) (cA : Nat → ClassId) (b : Nat) (A : zH) (M : MS) (B : zH) (x1 : Int32) (out : Int32 × MS) (h : fX7_fits M x1 = some out) : zM l D cA b yX7_fits cX7_fits 2 (some .int) 5 114 [.ref A.length, .int x1] (hG A M B) (poI out.1 (hG A out.2 B)) := z_entry rfl (Nat.le_of_ble_eq_true rfl) (fun X C E _ _ _ => wfX7_fits C E M x1 h)
def fX7_folds (M : MS) (x1 : Int32) : Option (Int32 × MS) :=
    ob2 (fX7_findsBy M x1 (2 : Int32)) fun v2 M1 =>
    some (v2, M1)
set_option maxRecDepth 100000 in
set_option maxHeartbeats 4000000 in
theorem wfX7_folds {X : zX} {A B : zH} {out : Int32 × MS} (C : zOK X cX7_folds yX7_folds.cls 2 (some .int) 5 114) (E : zPost X (poI out.1 (hG A out.2 B))) (M : MS) (x1 : Int32) (h : fX7_folds M x1 = some out) : zZ X 0 [(0, .ref A.length), (1, .int x1)] [] (hG A M B) := by
  rw [fX7_folds] at h
  refine z_aload_n (pc := 0) C 0 dX7_folds_0 rfl rfl ?_
  refine z_iload_n (pc := 1) C 1 dX7_folds_1 rfl rfl ?_
  refine z_iconst (pc := 2) C dX7_folds_2 (v := (2 : Int32)) (by decide) ?_
  obtain ⟨v2, M1, ev2, h⟩ := ob2_eq h
  refine z_callVi (h := A.length) (As := [.int x1, .int (2 : Int32)]) (rest := []) (pc := 3) C dX7_folds_3 ml_X7_347 (kX7_findsBy _ _ _ _ A M B x1 (2 : Int32) (v2, M1) ev2) (hM_o A M B) rfl rfl rfl (Nat.le_of_ble_eq_true rfl) (by decide) ?_
  obtain rfl := Option.some.inj h
  exact z_iret (pc := 6) C E dX7_folds_6 ⟨rfl, rfl⟩
theorem kX7_folds (l : Launch) (D : va_G) (cA : Nat → ClassId) (b : Nat) (A : zH) (M : MS) (B : zH) (x1 : Int32) (out : Int32 × MS) (h : fX7_folds M x1 = some out) : zM l D cA b yX7_folds cX7_folds 2 (some .int) 5 114 [.ref A.length, .int x1] (hG A M B) (poI out.1 (hG A out.2 B)) := z_entry rfl (Nat.le_of_ble_eq_true rfl) (fun X C E _ _ _ => wfX7_folds C E M x1 h)
def fX7_bracketOf (x0 : Int32) : Option Int32 :=
    if x0 = (40 : Int32) then (some (0 : Int32)) else
    if x0 = (41 : Int32) then (some (1 : Int32)) else
    if x0 = (91 : Int32) then (some (2 : Int32)) else
    if x0 = (93 : Int32) then (some (3 : Int32)) else
    if x0 = (123 : Int32) then (some (4 : Int32)) else
    if x0 = (125 : Int32) then (some (5 : Int32)) else
    if Op.lookupswitch.offset [(40, 59), (41, 61), (91, 63), (93, 65), (123, 67), (125, 69)] (71) x0.toInt = (71) then (some (-1 : Int32)) else none
set_option maxRecDepth 100000 in
set_option maxHeartbeats 4000000 in
theorem wfX7_bracketOf {X : zX} {G : zH} {out : Int32} (C : zOK X cX7_bracketOf yX7_bracketOf.cls 1 (some .int) 0 0) (E : zPost X (poI out G)) (x0 : Int32) (h : fX7_bracketOf x0 = some out) : zZ X 0 [(0, .int x0)] [] G := by
  rw [fX7_bracketOf] at h
  refine z_iload_n (pc := 0) C 0 dX7_bracketOf_0 rfl rfl ?_
  by_cases c1 : x0 = (40 : Int32)
  · rw [if_pos c1] at h
    refine z_lookup (pc := 1) (tgt := 60) (off := 59) C dX7_bracketOf_1 (by decide) (by rw [c1]; decide) (by decide) ?_
    refine z_iconst (pc := 60) C dX7_bracketOf_60 (v := (0 : Int32)) (by decide) ?_
    obtain rfl := Option.some.inj h
    exact z_iret (pc := 61) C E dX7_bracketOf_61 ⟨rfl, rfl⟩
  rw [if_neg c1] at h
  by_cases c2 : x0 = (41 : Int32)
  · rw [if_pos c2] at h
    refine z_lookup (pc := 1) (tgt := 62) (off := 61) C dX7_bracketOf_1 (by decide) (by rw [c2]; decide) (by decide) ?_
    refine z_iconst (pc := 62) C dX7_bracketOf_62 (v := (1 : Int32)) (by decide) ?_
    obtain rfl := Option.some.inj h
    exact z_iret (pc := 63) C E dX7_bracketOf_63 ⟨rfl, rfl⟩
  rw [if_neg c2] at h
  by_cases c3 : x0 = (91 : Int32)
  · rw [if_pos c3] at h
    refine z_lookup (pc := 1) (tgt := 64) (off := 63) C dX7_bracketOf_1 (by decide) (by rw [c3]; decide) (by decide) ?_
    refine z_iconst (pc := 64) C dX7_bracketOf_64 (v := (2 : Int32)) (by decide) ?_
    obtain rfl := Option.some.inj h
    exact z_iret (pc := 65) C E dX7_bracketOf_65 ⟨rfl, rfl⟩
  rw [if_neg c3] at h
  by_cases c4 : x0 = (93 : Int32)
  · rw [if_pos c4] at h
    refine z_lookup (pc := 1) (tgt := 66) (off := 65) C dX7_bracketOf_1 (by decide) (by rw [c4]; decide) (by decide) ?_
    refine z_iconst (pc := 66) C dX7_bracketOf_66 (v := (3 : Int32)) (by decide) ?_
    obtain rfl := Option.some.inj h
    exact z_iret (pc := 67) C E dX7_bracketOf_67 ⟨rfl, rfl⟩
  rw [if_neg c4] at h
  by_cases c5 : x0 = (123 : Int32)
  · rw [if_pos c5] at h
    refine z_lookup (pc := 1) (tgt := 68) (off := 67) C dX7_bracketOf_1 (by decide) (by rw [c5]; decide) (by decide) ?_
    refine z_iconst (pc := 68) C dX7_bracketOf_68 (v := (4 : Int32)) (by decide) ?_
    obtain rfl := Option.some.inj h
    exact z_iret (pc := 69) C E dX7_bracketOf_69 ⟨rfl, rfl⟩
  rw [if_neg c5] at h
  by_cases c6 : x0 = (125 : Int32)
  · rw [if_pos c6] at h
    refine z_lookup (pc := 1) (tgt := 70) (off := 69) C dX7_bracketOf_1 (by decide) (by rw [c6]; decide) (by decide) ?_
    refine z_iconst (pc := 70) C dX7_bracketOf_70 (v := (5 : Int32)) (by decide) ?_
    obtain rfl := Option.some.inj h
    exact z_iret (pc := 71) C E dX7_bracketOf_71 ⟨rfl, rfl⟩
  rw [if_neg c6] at h
  by_cases c7 : Op.lookupswitch.offset [(40, 59), (41, 61), (91, 63), (93, 65), (123, 67), (125, 69)] (71) x0.toInt = (71)
  · rw [if_pos c7] at h
    refine z_lookup (pc := 1) (tgt := 72) (off := 71) C dX7_bracketOf_1 (by decide) c7 (by decide) ?_
    refine z_iconst (pc := 72) C dX7_bracketOf_72 (v := (-1 : Int32)) (by decide) ?_
    obtain rfl := Option.some.inj h
    exact z_iret (pc := 73) C E dX7_bracketOf_73 ⟨rfl, rfl⟩
  · rw [if_neg c7] at h
    cases h
theorem kX7_bracketOf (l : Launch) (D : va_G) (cA : Nat → ClassId) (b : Nat) (G : zH) (x0 : Int32) (out : Int32) (h : fX7_bracketOf x0 = some out) : zM l D cA b yX7_bracketOf cX7_bracketOf 1 (some .int) 0 0 [.int x0] G (poI out G) := z_entry rfl (Nat.le_of_ble_eq_true rfl) (fun X C E _ _ _ => wfX7_bracketOf C E x0 h)
def fX7_pair_b134 (k52 : MS → Int32 → Int32 → Int32 → Int32 → Int32 → Option (Int32 × MS)) (M : MS) (x2 : Int32) (x3 : Int32) (x4 : Int32) (x5 : Int32) (x6 : Int32) : Option (Int32 × MS) :=
    zlet ((x6 + x3)) fun y1 =>
    k52 M x2 x3 x4 x5 y1
set_option maxRecDepth 100000 in
set_option maxHeartbeats 4000000 in
theorem wfX7_pair_b134 {X : zX} {A B : zH} {out : Int32 × MS} (C : zOK X cX7_pair yX7_pair.cls 8 (some .int) 2 46) (E : zPost X (poI out.1 (hG A out.2 B))) (k52 : MS → Int32 → Int32 → Int32 → Int32 → Int32 → Option (Int32 × MS)) (hk52 : ∀ (M : MS) (x2 : Int32) (x3 : Int32) (x4 : Int32) (x5 : Int32) (x6 : Int32), k52 M x2 x3 x4 x5 x6 = some out → zZ X 52 [(0, .ref A.length), (2, .int x2), (3, .int x3), (4, .int x4), (5, .int x5), (6, .int x6)] [] (hG A M B)) (M : MS) (x2 : Int32) (x3 : Int32) (x4 : Int32) (x5 : Int32) (x6 : Int32) (h : fX7_pair_b134 k52 M x2 x3 x4 x5 x6 = some out) : zZ X 134 [(0, .ref A.length), (2, .int x2), (3, .int x3), (4, .int x4), (5, .int x5), (6, .int x6)] [] (hG A M B) := by
  rw [fX7_pair_b134] at h
  refine z_iload (pc := 134) C 5 dX7_pair_134 rfl ?_
  refine z_iload_n (pc := 136) C 2 dX7_pair_136 rfl rfl ?_
  refine z_iadd (pc := 137) C dX7_pair_137 ?_
  obtain ⟨y1, ey1, h⟩ := zlet_eq h
  refine z_topi ey1 ?_
  refine z_istore (pc := 138) C dX7_pair_138 (by decide) (show zput _ _ _ = [(6, .int y1), (0, .ref A.length), (2, .int x2), (3, .int x3), (4, .int x4), (5, .int x5)] from rfl) ?_
  refine z_goto (pc := 140) C dX7_pair_140 (tgt := 52) (by decide) ?_
  exact z_subL [1, 2, 3, 4, 5, 0] (hk52 M x2 x3 x4 x5 y1 h) rfl
def fX7_pair_b100 (k52 : MS → Int32 → Int32 → Int32 → Int32 → Int32 → Option (Int32 × MS)) (M : MS) (x2 : Int32) (x3 : Int32) (x5 : Int32) (x6 : Int32) (s0 : Int32) (s1 : Int32) : Option (Int32 × MS) :=
    zlet ((s1 + s0)) fun y1 =>
    zlet ((if x5 < y1 then y1 else x5)) fun y2 =>
    if y1 = 0 then (zlet (mI M 1 (0 : Int32)) fun M4 =>
    ob1 (fX7_enters M4 ((y2 - (1 : Int32)).toInt64)) fun M5 =>
    some (x6, M5)) else
    fX7_pair_b134 k52 M x2 x3 y1 y2 x6
set_option maxRecDepth 100000 in
set_option maxHeartbeats 4000000 in
theorem wfX7_pair_b100 {X : zX} {A B : zH} {out : Int32 × MS} (C : zOK X cX7_pair yX7_pair.cls 8 (some .int) 2 46) (E : zPost X (poI out.1 (hG A out.2 B))) (k52 : MS → Int32 → Int32 → Int32 → Int32 → Int32 → Option (Int32 × MS)) (hk52 : ∀ (M : MS) (x2 : Int32) (x3 : Int32) (x4 : Int32) (x5 : Int32) (x6 : Int32), k52 M x2 x3 x4 x5 x6 = some out → zZ X 52 [(0, .ref A.length), (2, .int x2), (3, .int x3), (4, .int x4), (5, .int x5), (6, .int x6)] [] (hG A M B)) (M : MS) (x2 : Int32) (x3 : Int32) (x5 : Int32) (x6 : Int32) (s0 : Int32) (s1 : Int32) (h : fX7_pair_b100 k52 M x2 x3 x5 x6 s0 s1 = some out) : zZ X 100 [(0, .ref A.length), (2, .int x2), (3, .int x3), (5, .int x5), (6, .int x6)] [.int s0, .int s1] (hG A M B) := by
  rw [fX7_pair_b100] at h
  refine z_iadd (pc := 100) C dX7_pair_100 ?_
  obtain ⟨y1, ey1, h⟩ := zlet_eq h
  refine z_topi ey1 ?_
  refine z_istore (pc := 101) C dX7_pair_101 (by decide) (show zput _ _ _ = [(4, .int y1), (0, .ref A.length), (2, .int x2), (3, .int x3), (5, .int x5), (6, .int x6)] from rfl) ?_
  refine z_iload (pc := 103) C 4 dX7_pair_103 rfl ?_
  refine z_iload (pc := 105) C 0 dX7_pair_105 rfl ?_
  refine z_mmax (pc := 107) C dX7_pair_107 ml_X7_307 w_max1 w_math w_max2 (Nat.le_of_ble_eq_true rfl) (by decide) ?_
  obtain ⟨y2, ey2, h⟩ := zlet_eq h
  refine z_topi ey2 ?_
  refine z_istore (pc := 110) C dX7_pair_110 (by decide) (show zput _ _ _ = [(5, .int y2), (4, .int y1), (0, .ref A.length), (2, .int x2), (3, .int x3), (6, .int x6)] from rfl) ?_
  refine z_iload (pc := 112) C 1 dX7_pair_112 rfl ?_
  refine z_if_ne (pc := 114) C dX7_pair_114 (tgt := 134) (by decide) (fun c3 => ?_) (fun c3 => ?_)
  · rw [if_neg c3] at h
    exact z_subL [2, 3, 4, 1, 0, 5] (wfX7_pair_b134 C E k52 hk52 M x2 x3 y1 y2 x6 h) rfl
  · rw [if_pos c3] at h
    refine z_aload_n (pc := 117) C 2 dX7_pair_117 rfl rfl ?_
    refine z_iconst (pc := 118) C dX7_pair_118 (v := (0 : Int32)) (by decide) ?_
    obtain ⟨M4, eM4, h⟩ := zlet_eq h
    refine z_put (pc := 119) C dX7_pair_119 fl_X7_11w (hM_o A M B) (fun _ => rfl) (fun _ => rfl) (Nat.le_of_ble_eq_true rfl) (hMi_1 A B eM4) ?_
    refine z_aload_n (pc := 122) C 2 dX7_pair_122 rfl rfl ?_
    refine z_iload (pc := 123) C 0 dX7_pair_123 rfl ?_
    refine z_iconst (pc := 125) C dX7_pair_125 (v := (1 : Int32)) (by decide) ?_
    refine z_isub (pc := 126) C dX7_pair_126 ?_
    refine z_i2l (pc := 127) C dX7_pair_127 ?_
    obtain ⟨M5, eM5, h⟩ := ob1_eq h
    refine z_callVv (h := A.length) (As := [.long ((y2 - (1 : Int32)).toInt64)]) (rest := []) (pc := 128) C dX7_pair_128 ml_X7_295 (kX7_enters _ _ _ _ A M4 B ((y2 - (1 : Int32)).toInt64) M5 eM5) (hM_o A M4 B) rfl rfl rfl (Nat.le_of_ble_eq_true rfl) (by decide) ?_
    refine z_iload (pc := 131) C 5 dX7_pair_131 rfl ?_
    obtain rfl := Option.some.inj h
    exact z_iret (pc := 133) C E dX7_pair_133 ⟨rfl, rfl⟩
def fX7_pair_b52 : Nat → MS → Int32 → Int32 → Int32 → Int32 → Int32 → Option (Int32 × MS)
  | 0, _, _, _, _, _, _ => none
  | n + 1, M, x2, x3, x4, x5, x6 =>
    ob1 (fX7_isSign M x6) fun v1 =>
    if v1 = 0 then (some ((-2 : Int32), M)) else
    ob1 (fX7_signAt M x6) fun v3 =>
    ob1 (fX7_bracketOf v3) fun v4 =>
    if v4 < 0 then (fX7_pair_b134 (fX7_pair_b52 n) M x2 x3 x4 x5 x6) else
    if (v4 / (2 : Int32)) = (x2 / (2 : Int32)) then (if v4 = x2 then (fX7_pair_b100 (fX7_pair_b52 n) M x2 x3 x5 x6 (1 : Int32) x4) else
    fX7_pair_b100 (fX7_pair_b52 n) M x2 x3 x5 x6 (-1 : Int32) x4) else
    fX7_pair_b134 (fX7_pair_b52 n) M x2 x3 x4 x5 x6
set_option maxRecDepth 100000 in
set_option maxHeartbeats 4000000 in
theorem wfX7_pair_b52 {X : zX} {A B : zH} {out : Int32 × MS} (C : zOK X cX7_pair yX7_pair.cls 8 (some .int) 2 46) (E : zPost X (poI out.1 (hG A out.2 B))) : ∀ (n : Nat) (M : MS) (x2 : Int32) (x3 : Int32) (x4 : Int32) (x5 : Int32) (x6 : Int32) (h : fX7_pair_b52 n M x2 x3 x4 x5 x6 = some out), zZ X 52 [(0, .ref A.length), (2, .int x2), (3, .int x3), (4, .int x4), (5, .int x5), (6, .int x6)] [] (hG A M B) := by
  intro n
  induction n with
  | zero => intro M x2 x3 x4 x5 x6 h; cases h
  | succ n ih =>
    intro M x2 x3 x4 x5 x6 h
    rw [fX7_pair_b52] at h
    refine z_aload_n (pc := 52) C 0 dX7_pair_52 rfl rfl ?_
    refine z_iload (pc := 53) C 5 dX7_pair_53 rfl ?_
    obtain ⟨v1, ev1, h⟩ := ob1_eq h
    refine z_callVi (h := A.length) (As := [.int x6]) (rest := []) (pc := 55) C dX7_pair_55 ml_X7_299 (kX7_isSign _ _ _ _ A M B x6 v1 ev1) (hM_o A M B) rfl rfl rfl (Nat.le_of_ble_eq_true rfl) (by decide) ?_
    refine z_if_eq (pc := 58) C dX7_pair_58 (tgt := 143) (by decide) (fun c2 => ?_) (fun c2 => ?_)
    · rw [if_pos c2] at h
      refine z_bipush (pc := 143) C dX7_pair_143 (v := (-2 : Int32)) (by decide) ?_
      obtain rfl := Option.some.inj h
      exact z_iret (pc := 145) C E dX7_pair_145 ⟨rfl, rfl⟩
    · rw [if_neg c2] at h
      refine z_aload_n (pc := 61) C 0 dX7_pair_61 rfl rfl ?_
      refine z_iload (pc := 62) C 5 dX7_pair_62 rfl ?_
      obtain ⟨v3, ev3, h⟩ := ob1_eq h
      refine z_callVi (h := A.length) (As := [.int x6]) (rest := []) (pc := 64) C dX7_pair_64 ml_X7_157 (kX7_signAt _ _ _ _ A M B x6 v3 ev3) (hM_o A M B) rfl rfl rfl (Nat.le_of_ble_eq_true rfl) (by decide) ?_
      obtain ⟨v4, ev4, h⟩ := ob1_eq h
      refine z_callSi (As := [.int v3]) (rest := []) (pc := 67) C dX7_pair_67 ml_X7_350 (kX7_bracketOf _ _ _ _ (hG A M B) v3 v4 ev4) rfl rfl (Nat.le_of_ble_eq_true rfl) (by decide) ?_
      refine z_istore (pc := 70) C dX7_pair_70 (by decide) (show zput _ _ _ = [(7, .int v4), (0, .ref A.length), (2, .int x2), (3, .int x3), (4, .int x4), (5, .int x5), (6, .int x6)] from rfl) ?_
      refine z_iload (pc := 72) C 0 dX7_pair_72 rfl ?_
      refine z_if_lt (pc := 74) C dX7_pair_74 (tgt := 134) (by decide) (fun c5 => ?_) (fun c5 => ?_)
      · rw [if_pos c5] at h
        exact z_subL [1, 2, 3, 4, 5, 6] (wfX7_pair_b134 C E (fX7_pair_b52 n) ih M x2 x3 x4 x5 x6 h) rfl
      · rw [if_neg c5] at h
        refine z_iload (pc := 77) C 0 dX7_pair_77 rfl ?_
        refine z_iconst (pc := 79) C dX7_pair_79 (v := (2 : Int32)) (by decide) ?_
        refine z_idiv (pc := 80) C dX7_pair_80 (by decide) ?_
        refine z_iload_n (pc := 81) C 2 dX7_pair_81 rfl rfl ?_
        refine z_iconst (pc := 82) C dX7_pair_82 (v := (2 : Int32)) (by decide) ?_
        refine z_idiv (pc := 83) C dX7_pair_83 (by decide) ?_
        refine z_ic_ne (pc := 84) C dX7_pair_84 (tgt := 134) (by decide) (fun c6 => ?_) (fun c6 => ?_)
        · rw [if_neg c6] at h
          exact z_subL [1, 2, 3, 4, 5, 6] (wfX7_pair_b134 C E (fX7_pair_b52 n) ih M x2 x3 x4 x5 x6 h) rfl
        · rw [if_pos c6] at h
          refine z_iload (pc := 87) C 4 dX7_pair_87 rfl ?_
          refine z_iload (pc := 89) C 0 dX7_pair_89 rfl ?_
          refine z_iload_n (pc := 91) C 2 dX7_pair_91 rfl rfl ?_
          refine z_ic_ne (pc := 92) C dX7_pair_92 (tgt := 99) (by decide) (fun c7 => ?_) (fun c7 => ?_)
          · rw [if_neg c7] at h
            refine z_iconst (pc := 99) C dX7_pair_99 (v := (-1 : Int32)) (by decide) ?_
            exact z_subL [1, 2, 3, 5, 6] (wfX7_pair_b100 C E (fX7_pair_b52 n) ih M x2 x3 x5 x6 (-1 : Int32) x4 h) rfl
          · rw [if_pos c7] at h
            refine z_iconst (pc := 95) C dX7_pair_95 (v := (1 : Int32)) (by decide) ?_
            refine z_goto (pc := 96) C dX7_pair_96 (tgt := 100) (by decide) ?_
            exact z_subL [1, 2, 3, 5, 6] (wfX7_pair_b100 C E (fX7_pair_b52 n) ih M x2 x3 x5 x6 (1 : Int32) x4 h) rfl
def fX7_pair_b42 (M : MS) (x1 : Int32) (x2 : Int32) (s0 : Int32) : Option (Int32 × MS) :=
    fX7_pair_b52 FU M x2 s0 (0 : Int32) (0 : Int32) x1
set_option maxRecDepth 100000 in
set_option maxHeartbeats 4000000 in
theorem wfX7_pair_b42 {X : zX} {A B : zH} {out : Int32 × MS} (C : zOK X cX7_pair yX7_pair.cls 8 (some .int) 2 46) (E : zPost X (poI out.1 (hG A out.2 B))) (M : MS) (x1 : Int32) (x2 : Int32) (s0 : Int32) (h : fX7_pair_b42 M x1 x2 s0 = some out) : zZ X 42 [(0, .ref A.length), (1, .int x1), (2, .int x2)] [.int s0] (hG A M B) := by
  rw [fX7_pair_b42] at h
  refine z_istore_n (pc := 42) C dX7_pair_42 rfl (by decide) (show zput _ _ _ = [(3, .int s0), (0, .ref A.length), (1, .int x1), (2, .int x2)] from rfl) ?_
  refine z_iconst (pc := 43) C dX7_pair_43 (v := (0 : Int32)) (by decide) ?_
  refine z_istore (pc := 44) C dX7_pair_44 (by decide) (show zput _ _ _ = [(4, .int (0 : Int32)), (3, .int s0), (0, .ref A.length), (1, .int x1), (2, .int x2)] from rfl) ?_
  refine z_iconst (pc := 46) C dX7_pair_46 (v := (0 : Int32)) (by decide) ?_
  refine z_istore (pc := 47) C dX7_pair_47 (by decide) (show zput _ _ _ = [(5, .int (0 : Int32)), (4, .int (0 : Int32)), (3, .int s0), (0, .ref A.length), (1, .int x1), (2, .int x2)] from rfl) ?_
  refine z_iload_n (pc := 49) C 4 dX7_pair_49 rfl rfl ?_
  refine z_istore (pc := 50) C dX7_pair_50 (by decide) (show zput _ _ _ = [(6, .int x1), (5, .int (0 : Int32)), (4, .int (0 : Int32)), (3, .int s0), (0, .ref A.length), (1, .int x1), (2, .int x2)] from rfl) ?_
  exact z_subL [4, 6, 3, 2, 1, 0] (wfX7_pair_b52 C E FU M x2 s0 (0 : Int32) (0 : Int32) x1 h) rfl
def fX7_pair (M : MS) (x1 : Int32) : Option (Int32 × MS) :=
    zlet (mI M 0 (0 : Int32)) fun M1 =>
    ob1 (fX7_isSign M1 x1) fun v2 =>
    if v2 = 0 then (some ((-1 : Int32), M1)) else
    ob1 (fX7_signAt M1 x1) fun v4 =>
    ob1 (fX7_bracketOf v4) fun v5 =>
    if 0 ≤ v5 then (if (v5 - v5 / (2 : Int32) * (2 : Int32)) = 0 then (fX7_pair_b42 M1 x1 v5 (1 : Int32)) else
    fX7_pair_b42 M1 x1 v5 (-1 : Int32)) else
    some ((-3 : Int32), M1)
set_option maxRecDepth 100000 in
set_option maxHeartbeats 4000000 in
theorem wfX7_pair {X : zX} {A B : zH} {out : Int32 × MS} (C : zOK X cX7_pair yX7_pair.cls 8 (some .int) 2 46) (E : zPost X (poI out.1 (hG A out.2 B))) (M : MS) (x1 : Int32) (h : fX7_pair M x1 = some out) : zZ X 0 [(0, .ref A.length), (1, .int x1)] [] (hG A M B) := by
  rw [fX7_pair] at h
  refine z_aload_n (pc := 0) C 0 dX7_pair_0 rfl rfl ?_
  refine z_iconst (pc := 1) C dX7_pair_1 (v := (0 : Int32)) (by decide) ?_
  obtain ⟨M1, eM1, h⟩ := zlet_eq h
  refine z_put (pc := 2) C dX7_pair_2 fl_X7_1w (hM_o A M B) (fun _ => rfl) (fun _ => rfl) (Nat.le_of_ble_eq_true rfl) (hMi_0 A B eM1) ?_
  refine z_aload_n (pc := 5) C 0 dX7_pair_5 rfl rfl ?_
  refine z_iload_n (pc := 6) C 1 dX7_pair_6 rfl rfl ?_
  obtain ⟨v2, ev2, h⟩ := ob1_eq h
  refine z_callVi (h := A.length) (As := [.int x1]) (rest := []) (pc := 7) C dX7_pair_7 ml_X7_299 (kX7_isSign _ _ _ _ A M1 B x1 v2 ev2) (hM_o A M1 B) rfl rfl rfl (Nat.le_of_ble_eq_true rfl) (by decide) ?_
  refine z_if_ne (pc := 10) C dX7_pair_10 (tgt := 15) (by decide) (fun c3 => ?_) (fun c3 => ?_)
  · rw [if_neg c3] at h
    refine z_aload_n (pc := 15) C 0 dX7_pair_15 rfl rfl ?_
    refine z_iload_n (pc := 16) C 1 dX7_pair_16 rfl rfl ?_
    obtain ⟨v4, ev4, h⟩ := ob1_eq h
    refine z_callVi (h := A.length) (As := [.int x1]) (rest := []) (pc := 17) C dX7_pair_17 ml_X7_157 (kX7_signAt _ _ _ _ A M1 B x1 v4 ev4) (hM_o A M1 B) rfl rfl rfl (Nat.le_of_ble_eq_true rfl) (by decide) ?_
    obtain ⟨v5, ev5, h⟩ := ob1_eq h
    refine z_callSi (As := [.int v4]) (rest := []) (pc := 20) C dX7_pair_20 ml_X7_350 (kX7_bracketOf _ _ _ _ (hG A M1 B) v4 v5 ev5) rfl rfl (Nat.le_of_ble_eq_true rfl) (by decide) ?_
    refine z_istore_n (pc := 23) C dX7_pair_23 rfl (by decide) (show zput _ _ _ = [(2, .int v5), (0, .ref A.length), (1, .int x1)] from rfl) ?_
    refine z_iload_n (pc := 24) C 0 dX7_pair_24 rfl rfl ?_
    refine z_if_ge (pc := 25) C dX7_pair_25 (tgt := 31) (by decide) (fun c6 => ?_) (fun c6 => ?_)
    · rw [if_pos c6] at h
      refine z_iload_n (pc := 31) C 0 dX7_pair_31 rfl rfl ?_
      refine z_iconst (pc := 32) C dX7_pair_32 (v := (2 : Int32)) (by decide) ?_
      refine z_irem (pc := 33) C dX7_pair_33 (by decide) ?_
      refine z_if_ne (pc := 34) C dX7_pair_34 (tgt := 41) (by decide) (fun c7 => ?_) (fun c7 => ?_)
      · rw [if_neg c7] at h
        refine z_iconst (pc := 41) C dX7_pair_41 (v := (-1 : Int32)) (by decide) ?_
        exact z_subL [1, 2, 0] (wfX7_pair_b42 C E M1 x1 v5 (-1 : Int32) h) rfl
      · rw [if_pos c7] at h
        refine z_iconst (pc := 37) C dX7_pair_37 (v := (1 : Int32)) (by decide) ?_
        refine z_goto (pc := 38) C dX7_pair_38 (tgt := 42) (by decide) ?_
        exact z_subL [1, 2, 0] (wfX7_pair_b42 C E M1 x1 v5 (1 : Int32) h) rfl
    · rw [if_neg c6] at h
      refine z_bipush (pc := 28) C dX7_pair_28 (v := (-3 : Int32)) (by decide) ?_
      obtain rfl := Option.some.inj h
      exact z_iret (pc := 30) C E dX7_pair_30 ⟨rfl, rfl⟩
  · rw [if_pos c3] at h
    refine z_iconst (pc := 13) C dX7_pair_13 (v := (-1 : Int32)) (by decide) ?_
    obtain rfl := Option.some.inj h
    exact z_iret (pc := 14) C E dX7_pair_14 ⟨rfl, rfl⟩
theorem kX7_pair (l : Launch) (D : va_G) (cA : Nat → ClassId) (b : Nat) (A : zH) (M : MS) (B : zH) (x1 : Int32) (out : Int32 × MS) (h : fX7_pair M x1 = some out) : zM l D cA b yX7_pair cX7_pair 8 (some .int) 2 46 [.ref A.length, .int x1] (hG A M B) (poI out.1 (hG A out.2 B)) := z_entry rfl (Nat.le_of_ble_eq_true rfl) (fun X C E _ _ _ => wfX7_pair C E M x1 h)
def fX7_nested_b113 (M : MS) (x1 : Int32) (x2 : Int32) : Option (Int32 × MS) :=
    if x1 = 0 then (some ((-2 : Int32), M)) else
    zlet (mI M 1 (0 : Int32)) fun M2 =>
    ob1 (fX7_enters M2 x2.toInt64) fun M3 =>
    ob1 (rd 3000 (M3.2.1 32) (0 : Int32)) fun v4 =>
    some (v4, M3)
set_option maxRecDepth 100000 in
set_option maxHeartbeats 4000000 in
theorem wfX7_nested_b113 {X : zX} {A B : zH} {out : Int32 × MS} (C : zOK X cX7_nested yX7_nested.cls 5 (some .int) 2 43) (E : zPost X (poI out.1 (hG A out.2 B))) (M : MS) (x1 : Int32) (x2 : Int32) (h : fX7_nested_b113 M x1 x2 = some out) : zZ X 113 [(0, .ref A.length), (1, .int x1), (2, .int x2)] [] (hG A M B) := by
  rw [fX7_nested_b113] at h
  refine z_iload_n (pc := 113) C 1 dX7_nested_113 rfl rfl ?_
  refine z_if_ne (pc := 114) C dX7_nested_114 (tgt := 120) (by decide) (fun c1 => ?_) (fun c1 => ?_)
  · rw [if_neg c1] at h
    refine z_aload_n (pc := 120) C 0 dX7_nested_120 rfl rfl ?_
    refine z_iconst (pc := 121) C dX7_nested_121 (v := (0 : Int32)) (by decide) ?_
    obtain ⟨M2, eM2, h⟩ := zlet_eq h
    refine z_put (pc := 122) C dX7_nested_122 fl_X7_11w (hM_o A M B) (fun _ => rfl) (fun _ => rfl) (Nat.le_of_ble_eq_true rfl) (hMi_1 A B eM2) ?_
    refine z_aload_n (pc := 125) C 0 dX7_nested_125 rfl rfl ?_
    refine z_iload_n (pc := 126) C 2 dX7_nested_126 rfl rfl ?_
    refine z_i2l (pc := 127) C dX7_nested_127 ?_
    obtain ⟨M3, eM3, h⟩ := ob1_eq h
    refine z_callVv (h := A.length) (As := [.long x2.toInt64]) (rest := []) (pc := 128) C dX7_nested_128 ml_X7_295 (kX7_enters _ _ _ _ A M2 B x2.toInt64 M3 eM3) (hM_o A M2 B) rfl rfl rfl (Nat.le_of_ble_eq_true rfl) (by decide) ?_
    refine z_aload_n (pc := 131) C 0 dX7_nested_131 rfl rfl ?_
    refine z_get (pc := 132) C dX7_nested_132 fl_X7_102 (hM_o A M3 B) rfl ?_
    refine z_iconst (pc := 135) C dX7_nested_135 (v := (0 : Int32)) (by decide) ?_
    obtain ⟨v4, ev4, h⟩ := ob1_eq h
    refine z_iald (pc := 136) C dX7_nested_136 (hMa_32 A M3 B) (rd_eq ev4).1 (z_topi (rd_eq ev4).2 ?_)
    obtain rfl := Option.some.inj h
    exact z_iret (pc := 137) C E dX7_nested_137 ⟨rfl, rfl⟩
  · rw [if_pos c1] at h
    refine z_bipush (pc := 117) C dX7_nested_117 (v := (-2 : Int32)) (by decide) ?_
    obtain rfl := Option.some.inj h
    exact z_iret (pc := 119) C E dX7_nested_119 ⟨rfl, rfl⟩
def fX7_nested_b107 (k11 : MS → Int32 → Int32 → Int32 → Option (Int32 × MS)) (M : MS) (x1 : Int32) (x2 : Int32) (x3 : Int32) : Option (Int32 × MS) :=
    zlet (x3 + (1 : Int32)) fun y1 =>
    k11 M x1 x2 y1
set_option maxRecDepth 100000 in
set_option maxHeartbeats 4000000 in
theorem wfX7_nested_b107 {X : zX} {A B : zH} {out : Int32 × MS} (C : zOK X cX7_nested yX7_nested.cls 5 (some .int) 2 43) (E : zPost X (poI out.1 (hG A out.2 B))) (k11 : MS → Int32 → Int32 → Int32 → Option (Int32 × MS)) (hk11 : ∀ (M : MS) (x1 : Int32) (x2 : Int32) (x3 : Int32), k11 M x1 x2 x3 = some out → zZ X 11 [(0, .ref A.length), (1, .int x1), (2, .int x2), (3, .int x3)] [] (hG A M B)) (M : MS) (x1 : Int32) (x2 : Int32) (x3 : Int32) (h : fX7_nested_b107 k11 M x1 x2 x3 = some out) : zZ X 107 [(0, .ref A.length), (1, .int x1), (2, .int x2), (3, .int x3)] [] (hG A M B) := by
  rw [fX7_nested_b107] at h
  obtain ⟨y1, ey1, h⟩ := zlet_eq h
  refine z_iinc (pc := 107) (v := y1) C 3 dX7_nested_107 rfl (by rw [ey1]; rfl) (by decide) (show zput _ _ _ = [(3, .int y1), (0, .ref A.length), (1, .int x1), (2, .int x2)] from rfl) ?_
  refine z_goto (pc := 110) C dX7_nested_110 (tgt := 11) (by decide) ?_
  exact z_subL [1, 2, 3, 0] (hk11 M x1 x2 y1 h) rfl
def fX7_nested_b91 (k11 : MS → Int32 → Int32 → Int32 → Option (Int32 × MS)) (M : MS) (x2 : Int32) (x3 : Int32) : Option (Int32 × MS) :=
    zlet (mI M 1 (0 : Int32)) fun M1 =>
    ob1 (fX7_enters M1 x2.toInt64) fun M2 =>
    some (x3, M2)
set_option maxRecDepth 100000 in
set_option maxHeartbeats 4000000 in
theorem wfX7_nested_b91 {X : zX} {A B : zH} {out : Int32 × MS} (C : zOK X cX7_nested yX7_nested.cls 5 (some .int) 2 43) (E : zPost X (poI out.1 (hG A out.2 B))) (k11 : MS → Int32 → Int32 → Int32 → Option (Int32 × MS)) (hk11 : ∀ (M : MS) (x1 : Int32) (x2 : Int32) (x3 : Int32), k11 M x1 x2 x3 = some out → zZ X 11 [(0, .ref A.length), (1, .int x1), (2, .int x2), (3, .int x3)] [] (hG A M B)) (M : MS) (x2 : Int32) (x3 : Int32) (h : fX7_nested_b91 k11 M x2 x3 = some out) : zZ X 91 [(0, .ref A.length), (2, .int x2), (3, .int x3)] [] (hG A M B) := by
  rw [fX7_nested_b91] at h
  refine z_aload_n (pc := 91) C 0 dX7_nested_91 rfl rfl ?_
  refine z_iconst (pc := 92) C dX7_nested_92 (v := (0 : Int32)) (by decide) ?_
  obtain ⟨M1, eM1, h⟩ := zlet_eq h
  refine z_put (pc := 93) C dX7_nested_93 fl_X7_11w (hM_o A M B) (fun _ => rfl) (fun _ => rfl) (Nat.le_of_ble_eq_true rfl) (hMi_1 A B eM1) ?_
  refine z_aload_n (pc := 96) C 0 dX7_nested_96 rfl rfl ?_
  refine z_iload_n (pc := 97) C 1 dX7_nested_97 rfl rfl ?_
  refine z_i2l (pc := 98) C dX7_nested_98 ?_
  obtain ⟨M2, eM2, h⟩ := ob1_eq h
  refine z_callVv (h := A.length) (As := [.long x2.toInt64]) (rest := []) (pc := 99) C dX7_nested_99 ml_X7_295 (kX7_enters _ _ _ _ A M1 B x2.toInt64 M2 eM2) (hM_o A M1 B) rfl rfl rfl (Nat.le_of_ble_eq_true rfl) (by decide) ?_
  refine z_iload_n (pc := 102) C 2 dX7_nested_102 rfl rfl ?_
  obtain rfl := Option.some.inj h
  exact z_iret (pc := 103) C E dX7_nested_103 ⟨rfl, rfl⟩
def fX7_nested_b60 (k11 : MS → Int32 → Int32 → Int32 → Option (Int32 × MS)) (M : MS) (x1 : Int32) (x2 : Int32) (x3 : Int32) (x4 : Int32) : Option (Int32 × MS) :=
    if x4 < 0 then (fX7_nested_b107 k11 M x1 x2 x3) else
    if x1 = 0 then (fX7_nested_b91 k11 M x2 x3) else
    ob1 (rd 3000 (M.2.1 32) (x1 - (1 : Int32))) fun v3 =>
    ob1 (fX7_signAt M v3) fun v4 =>
    ob1 (fX7_bracketOf v4) fun v5 =>
    if v5 = (x4 - (1 : Int32)) then (zlet (x1 + (-1 : Int32)) fun y7 =>
    fX7_nested_b107 k11 M y7 x2 x3) else
    fX7_nested_b91 k11 M x2 x3
set_option maxRecDepth 100000 in
set_option maxHeartbeats 4000000 in
theorem wfX7_nested_b60 {X : zX} {A B : zH} {out : Int32 × MS} (C : zOK X cX7_nested yX7_nested.cls 5 (some .int) 2 43) (E : zPost X (poI out.1 (hG A out.2 B))) (k11 : MS → Int32 → Int32 → Int32 → Option (Int32 × MS)) (hk11 : ∀ (M : MS) (x1 : Int32) (x2 : Int32) (x3 : Int32), k11 M x1 x2 x3 = some out → zZ X 11 [(0, .ref A.length), (1, .int x1), (2, .int x2), (3, .int x3)] [] (hG A M B)) (M : MS) (x1 : Int32) (x2 : Int32) (x3 : Int32) (x4 : Int32) (h : fX7_nested_b60 k11 M x1 x2 x3 x4 = some out) : zZ X 60 [(0, .ref A.length), (1, .int x1), (2, .int x2), (3, .int x3), (4, .int x4)] [] (hG A M B) := by
  rw [fX7_nested_b60] at h
  refine z_iload (pc := 60) C 4 dX7_nested_60 rfl ?_
  refine z_if_lt (pc := 62) C dX7_nested_62 (tgt := 107) (by decide) (fun c1 => ?_) (fun c1 => ?_)
  · rw [if_pos c1] at h
    exact z_subL [0, 1, 2, 3] (wfX7_nested_b107 C E k11 hk11 M x1 x2 x3 h) rfl
  · rw [if_neg c1] at h
    refine z_iload_n (pc := 65) C 1 dX7_nested_65 rfl rfl ?_
    refine z_if_eq (pc := 66) C dX7_nested_66 (tgt := 91) (by decide) (fun c2 => ?_) (fun c2 => ?_)
    · rw [if_pos c2] at h
      exact z_subL [0, 2, 3] (wfX7_nested_b91 C E k11 hk11 M x2 x3 h) rfl
    · rw [if_neg c2] at h
      refine z_aload_n (pc := 69) C 0 dX7_nested_69 rfl rfl ?_
      refine z_aload_n (pc := 70) C 0 dX7_nested_70 rfl rfl ?_
      refine z_get (pc := 71) C dX7_nested_71 fl_X7_102 (hM_o A M B) rfl ?_
      refine z_iload_n (pc := 74) C 1 dX7_nested_74 rfl rfl ?_
      refine z_iconst (pc := 75) C dX7_nested_75 (v := (1 : Int32)) (by decide) ?_
      refine z_isub (pc := 76) C dX7_nested_76 ?_
      obtain ⟨v3, ev3, h⟩ := ob1_eq h
      refine z_iald (pc := 77) C dX7_nested_77 (hMa_32 A M B) (rd_eq ev3).1 (z_topi (rd_eq ev3).2 ?_)
      obtain ⟨v4, ev4, h⟩ := ob1_eq h
      refine z_callVi (h := A.length) (As := [.int v3]) (rest := []) (pc := 78) C dX7_nested_78 ml_X7_157 (kX7_signAt _ _ _ _ A M B v3 v4 ev4) (hM_o A M B) rfl rfl rfl (Nat.le_of_ble_eq_true rfl) (by decide) ?_
      obtain ⟨v5, ev5, h⟩ := ob1_eq h
      refine z_callSi (As := [.int v4]) (rest := []) (pc := 81) C dX7_nested_81 ml_X7_350 (kX7_bracketOf _ _ _ _ (hG A M B) v4 v5 ev5) rfl rfl (Nat.le_of_ble_eq_true rfl) (by decide) ?_
      refine z_iload (pc := 84) C 4 dX7_nested_84 rfl ?_
      refine z_iconst (pc := 86) C dX7_nested_86 (v := (1 : Int32)) (by decide) ?_
      refine z_isub (pc := 87) C dX7_nested_87 ?_
      refine z_ic_eq (pc := 88) C dX7_nested_88 (tgt := 104) (by decide) (fun c6 => ?_) (fun c6 => ?_)
      · rw [if_pos c6] at h
        obtain ⟨y7, ey7, h⟩ := zlet_eq h
        refine z_iinc (pc := 104) (v := y7) C 1 dX7_nested_104 rfl (by rw [ey7]; rfl) (by decide) (show zput _ _ _ = [(1, .int y7), (0, .ref A.length), (2, .int x2), (3, .int x3), (4, .int x4)] from rfl) ?_
        exact z_subL [1, 0, 2, 3] (wfX7_nested_b107 C E k11 hk11 M y7 x2 x3 h) rfl
      · rw [if_neg c6] at h
        exact z_subL [0, 2, 3] (wfX7_nested_b91 C E k11 hk11 M x2 x3 h) rfl
def fX7_nested_b11 : Nat → MS → Int32 → Int32 → Int32 → Option (Int32 × MS)
  | 0, _, _, _, _ => none
  | n + 1, M, x1, x2, x3 =>
    if (M.1 11) ≤ x3 then (fX7_nested_b113 M x1 x2) else
    ob1 (fX7_signAt M x3) fun v2 =>
    ob1 (fX7_bracketOf v2) fun v3 =>
    if v3 < 0 then (fX7_nested_b60 (fX7_nested_b11 n) M x1 x2 x3 v3) else
    if (v3 - v3 / (2 : Int32) * (2 : Int32)) = 0 then (ob1 (wr 3000 x1 (mA M 32 (upd (M.2.1 32) x1.toNatClampNeg x3))) fun M6 =>
    zlet (x1 + (1 : Int32)) fun y7 =>
    zlet ((if x2 < y7 then y7 else x2)) fun y8 =>
    fX7_nested_b107 (fX7_nested_b11 n) M6 y7 y8 x3) else
    fX7_nested_b60 (fX7_nested_b11 n) M x1 x2 x3 v3
set_option maxRecDepth 100000 in
set_option maxHeartbeats 4000000 in
theorem wfX7_nested_b11 {X : zX} {A B : zH} {out : Int32 × MS} (C : zOK X cX7_nested yX7_nested.cls 5 (some .int) 2 43) (E : zPost X (poI out.1 (hG A out.2 B))) : ∀ (n : Nat) (M : MS) (x1 : Int32) (x2 : Int32) (x3 : Int32) (h : fX7_nested_b11 n M x1 x2 x3 = some out), zZ X 11 [(0, .ref A.length), (1, .int x1), (2, .int x2), (3, .int x3)] [] (hG A M B) := by
  intro n
  induction n with
  | zero => intro M x1 x2 x3 h; cases h
  | succ n ih =>
    intro M x1 x2 x3 h
    rw [fX7_nested_b11] at h
    refine z_iload_n (pc := 11) C 3 dX7_nested_11 rfl rfl ?_
    refine z_aload_n (pc := 12) C 0 dX7_nested_12 rfl rfl ?_
    refine z_get (pc := 13) C dX7_nested_13 fl_X7_123 (hM_o A M B) rfl ?_
    refine z_ic_ge (pc := 16) C dX7_nested_16 (tgt := 113) (by decide) (fun c1 => ?_) (fun c1 => ?_)
    · rw [if_pos c1] at h
      exact z_subL [0, 1, 2] (wfX7_nested_b113 C E M x1 x2 h) rfl
    · rw [if_neg c1] at h
      refine z_aload_n (pc := 19) C 0 dX7_nested_19 rfl rfl ?_
      refine z_iload_n (pc := 20) C 3 dX7_nested_20 rfl rfl ?_
      obtain ⟨v2, ev2, h⟩ := ob1_eq h
      refine z_callVi (h := A.length) (As := [.int x3]) (rest := []) (pc := 21) C dX7_nested_21 ml_X7_157 (kX7_signAt _ _ _ _ A M B x3 v2 ev2) (hM_o A M B) rfl rfl rfl (Nat.le_of_ble_eq_true rfl) (by decide) ?_
      obtain ⟨v3, ev3, h⟩ := ob1_eq h
      refine z_callSi (As := [.int v2]) (rest := []) (pc := 24) C dX7_nested_24 ml_X7_350 (kX7_bracketOf _ _ _ _ (hG A M B) v2 v3 ev3) rfl rfl (Nat.le_of_ble_eq_true rfl) (by decide) ?_
      refine z_istore (pc := 27) C dX7_nested_27 (by decide) (show zput _ _ _ = [(4, .int v3), (0, .ref A.length), (1, .int x1), (2, .int x2), (3, .int x3)] from rfl) ?_
      refine z_iload (pc := 29) C 0 dX7_nested_29 rfl ?_
      refine z_if_lt (pc := 31) C dX7_nested_31 (tgt := 60) (by decide) (fun c4 => ?_) (fun c4 => ?_)
      · rw [if_pos c4] at h
        exact z_subL [1, 2, 3, 4, 0] (wfX7_nested_b60 C E (fX7_nested_b11 n) ih M x1 x2 x3 v3 h) rfl
      · rw [if_neg c4] at h
        refine z_iload (pc := 34) C 0 dX7_nested_34 rfl ?_
        refine z_iconst (pc := 36) C dX7_nested_36 (v := (2 : Int32)) (by decide) ?_
        refine z_irem (pc := 37) C dX7_nested_37 (by decide) ?_
        refine z_if_ne (pc := 38) C dX7_nested_38 (tgt := 60) (by decide) (fun c5 => ?_) (fun c5 => ?_)
        · rw [if_neg c5] at h
          exact z_subL [1, 2, 3, 4, 0] (wfX7_nested_b60 C E (fX7_nested_b11 n) ih M x1 x2 x3 v3 h) rfl
        · rw [if_pos c5] at h
          refine z_aload_n (pc := 41) C 1 dX7_nested_41 rfl rfl ?_
          refine z_get (pc := 42) C dX7_nested_42 fl_X7_102 (hM_o A M B) rfl ?_
          refine z_iload_n (pc := 45) C 2 dX7_nested_45 rfl rfl ?_
          refine z_iload_n (pc := 46) C 4 dX7_nested_46 rfl rfl ?_
          obtain ⟨M6, eM6, h⟩ := ob1_eq h
          refine z_iast (pc := 47) C dX7_nested_47 (hMa_32 A M B) (wr_eq eM6).1 (hMs_32 A B (wr_eq eM6).2) ?_
          obtain ⟨y7, ey7, h⟩ := zlet_eq h
          refine z_iinc (pc := 48) (v := y7) C 2 dX7_nested_48 rfl (by rw [ey7]; rfl) (by decide) (show zput _ _ _ = [(1, .int y7), (4, .int v3), (0, .ref A.length), (2, .int x2), (3, .int x3)] from rfl) ?_
          refine z_iload_n (pc := 51) C 3 dX7_nested_51 rfl rfl ?_
          refine z_iload_n (pc := 52) C 0 dX7_nested_52 rfl rfl ?_
          refine z_mmax (pc := 53) C dX7_nested_53 ml_X7_307 w_max1 w_math w_max2 (Nat.le_of_ble_eq_true rfl) (by decide) ?_
          obtain ⟨y8, ey8, h⟩ := zlet_eq h
          refine z_topi ey8 ?_
          refine z_istore_n (pc := 56) C dX7_nested_56 rfl (by decide) (show zput _ _ _ = [(2, .int y8), (1, .int y7), (4, .int v3), (0, .ref A.length), (3, .int x3)] from rfl) ?_
          refine z_goto (pc := 57) C dX7_nested_57 (tgt := 107) (by decide) ?_
          exact z_subL [3, 1, 0, 4] (wfX7_nested_b107 C E (fX7_nested_b11 n) ih M6 y7 y8 x3 h) rfl
def fX7_nested (M : MS) : Option (Int32 × MS) :=
    zlet (mI M 0 (0 : Int32)) fun M1 =>
    fX7_nested_b11 FU M1 (0 : Int32) (0 : Int32) (0 : Int32)
set_option maxRecDepth 100000 in
set_option maxHeartbeats 4000000 in
theorem wfX7_nested {X : zX} {A B : zH} {out : Int32 × MS} (C : zOK X cX7_nested yX7_nested.cls 5 (some .int) 2 43) (E : zPost X (poI out.1 (hG A out.2 B))) (M : MS) (h : fX7_nested M = some out) : zZ X 0 [(0, .ref A.length)] [] (hG A M B) := by
  rw [fX7_nested] at h
  refine z_aload_n (pc := 0) C 0 dX7_nested_0 rfl rfl ?_
  refine z_iconst (pc := 1) C dX7_nested_1 (v := (0 : Int32)) (by decide) ?_
  obtain ⟨M1, eM1, h⟩ := zlet_eq h
  refine z_put (pc := 2) C dX7_nested_2 fl_X7_1w (hM_o A M B) (fun _ => rfl) (fun _ => rfl) (Nat.le_of_ble_eq_true rfl) (hMi_0 A B eM1) ?_
  refine z_iconst (pc := 5) C dX7_nested_5 (v := (0 : Int32)) (by decide) ?_
  refine z_istore_n (pc := 6) C dX7_nested_6 rfl (by decide) (show zput _ _ _ = [(1, .int (0 : Int32)), (0, .ref A.length)] from rfl) ?_
  refine z_iconst (pc := 7) C dX7_nested_7 (v := (0 : Int32)) (by decide) ?_
  refine z_istore_n (pc := 8) C dX7_nested_8 rfl (by decide) (show zput _ _ _ = [(2, .int (0 : Int32)), (1, .int (0 : Int32)), (0, .ref A.length)] from rfl) ?_
  refine z_iconst (pc := 9) C dX7_nested_9 (v := (0 : Int32)) (by decide) ?_
  refine z_istore_n (pc := 10) C dX7_nested_10 rfl (by decide) (show zput _ _ _ = [(3, .int (0 : Int32)), (2, .int (0 : Int32)), (1, .int (0 : Int32)), (0, .ref A.length)] from rfl) ?_
  exact z_subL [3, 2, 1, 0] (wfX7_nested_b11 C E FU M1 (0 : Int32) (0 : Int32) (0 : Int32) h) rfl
theorem kX7_nested (l : Launch) (D : va_G) (cA : Nat → ClassId) (b : Nat) (A : zH) (M : MS) (B : zH)  (out : Int32 × MS) (h : fX7_nested M = some out) : zM l D cA b yX7_nested cX7_nested 5 (some .int) 2 43 [.ref A.length] (hG A M B) (poI out.1 (hG A out.2 B)) := z_entry rfl (Nat.le_of_ble_eq_true rfl) (fun X C E _ _ _ => wfX7_nested C E M h)
def fX7_alikeFrom_b2 (M : MS) : Nat → Int32 → Int32 → Int32 → Option Int32
  | 0, _, _, _ => none
  | n + 1, x1, x2, x3 =>
    ob1 (fX7_isSign M (x1 + x3)) fun v1 =>
    if v1 = 0 then (some x3) else
    ob1 (fX7_isSign M (x2 + x3)) fun v3 =>
    if v3 = 0 then (some x3) else
    ob1 (fX7_signAt M (x1 + x3)) fun v5 =>
    ob1 (fX7_signAt M (x2 + x3)) fun v6 =>
    if v5 = v6 then (zlet (x3 + (1 : Int32)) fun y8 =>
    (fX7_alikeFrom_b2 M n) x1 x2 y8) else
    some x3
set_option maxRecDepth 100000 in
set_option maxHeartbeats 4000000 in
theorem wfX7_alikeFrom_b2 {X : zX} {A B : zH} {M : MS} {out : Int32} (C : zOK X cX7_alikeFrom yX7_alikeFrom.cls 4 (some .int) 2 46) (E : zPost X (poI out (hG A M B))) : ∀ (n : Nat) (x1 : Int32) (x2 : Int32) (x3 : Int32) (h : fX7_alikeFrom_b2 M n x1 x2 x3 = some out), zZ X 2 [(0, .ref A.length), (1, .int x1), (2, .int x2), (3, .int x3)] [] (hG A M B) := by
  intro n
  induction n with
  | zero => intro x1 x2 x3 h; cases h
  | succ n ih =>
    intro x1 x2 x3 h
    rw [fX7_alikeFrom_b2] at h
    refine z_aload_n (pc := 2) C 0 dX7_alikeFrom_2 rfl rfl ?_
    refine z_iload_n (pc := 3) C 1 dX7_alikeFrom_3 rfl rfl ?_
    refine z_iload_n (pc := 4) C 3 dX7_alikeFrom_4 rfl rfl ?_
    refine z_iadd (pc := 5) C dX7_alikeFrom_5 ?_
    obtain ⟨v1, ev1, h⟩ := ob1_eq h
    refine z_callVi (h := A.length) (As := [.int (x1 + x3)]) (rest := []) (pc := 6) C dX7_alikeFrom_6 ml_X7_299 (kX7_isSign _ _ _ _ A M B (x1 + x3) v1 ev1) (hM_o A M B) rfl rfl rfl (Nat.le_of_ble_eq_true rfl) (by decide) ?_
    refine z_if_eq (pc := 9) C dX7_alikeFrom_9 (tgt := 45) (by decide) (fun c2 => ?_) (fun c2 => ?_)
    · rw [if_pos c2] at h
      refine z_iload_n (pc := 45) C 3 dX7_alikeFrom_45 rfl rfl ?_
      obtain rfl := Option.some.inj h
      exact z_iret (pc := 46) C E dX7_alikeFrom_46 ⟨rfl, rfl⟩
    · rw [if_neg c2] at h
      refine z_aload_n (pc := 12) C 0 dX7_alikeFrom_12 rfl rfl ?_
      refine z_iload_n (pc := 13) C 2 dX7_alikeFrom_13 rfl rfl ?_
      refine z_iload_n (pc := 14) C 3 dX7_alikeFrom_14 rfl rfl ?_
      refine z_iadd (pc := 15) C dX7_alikeFrom_15 ?_
      obtain ⟨v3, ev3, h⟩ := ob1_eq h
      refine z_callVi (h := A.length) (As := [.int (x2 + x3)]) (rest := []) (pc := 16) C dX7_alikeFrom_16 ml_X7_299 (kX7_isSign _ _ _ _ A M B (x2 + x3) v3 ev3) (hM_o A M B) rfl rfl rfl (Nat.le_of_ble_eq_true rfl) (by decide) ?_
      refine z_if_eq (pc := 19) C dX7_alikeFrom_19 (tgt := 45) (by decide) (fun c4 => ?_) (fun c4 => ?_)
      · rw [if_pos c4] at h
        refine z_iload_n (pc := 45) C 3 dX7_alikeFrom_45 rfl rfl ?_
        obtain rfl := Option.some.inj h
        exact z_iret (pc := 46) C E dX7_alikeFrom_46 ⟨rfl, rfl⟩
      · rw [if_neg c4] at h
        refine z_aload_n (pc := 22) C 0 dX7_alikeFrom_22 rfl rfl ?_
        refine z_iload_n (pc := 23) C 1 dX7_alikeFrom_23 rfl rfl ?_
        refine z_iload_n (pc := 24) C 3 dX7_alikeFrom_24 rfl rfl ?_
        refine z_iadd (pc := 25) C dX7_alikeFrom_25 ?_
        obtain ⟨v5, ev5, h⟩ := ob1_eq h
        refine z_callVi (h := A.length) (As := [.int (x1 + x3)]) (rest := []) (pc := 26) C dX7_alikeFrom_26 ml_X7_157 (kX7_signAt _ _ _ _ A M B (x1 + x3) v5 ev5) (hM_o A M B) rfl rfl rfl (Nat.le_of_ble_eq_true rfl) (by decide) ?_
        refine z_aload_n (pc := 29) C 0 dX7_alikeFrom_29 rfl rfl ?_
        refine z_iload_n (pc := 30) C 2 dX7_alikeFrom_30 rfl rfl ?_
        refine z_iload_n (pc := 31) C 3 dX7_alikeFrom_31 rfl rfl ?_
        refine z_iadd (pc := 32) C dX7_alikeFrom_32 ?_
        obtain ⟨v6, ev6, h⟩ := ob1_eq h
        refine z_callVi (h := A.length) (As := [.int (x2 + x3)]) (rest := [.int v5]) (pc := 33) C dX7_alikeFrom_33 ml_X7_157 (kX7_signAt _ _ _ _ A M B (x2 + x3) v6 ev6) (hM_o A M B) rfl rfl rfl (Nat.le_of_ble_eq_true rfl) (by decide) ?_
        refine z_ic_ne (pc := 36) C dX7_alikeFrom_36 (tgt := 45) (by decide) (fun c7 => ?_) (fun c7 => ?_)
        · rw [if_neg c7] at h
          refine z_iload_n (pc := 45) C 3 dX7_alikeFrom_45 rfl rfl ?_
          obtain rfl := Option.some.inj h
          exact z_iret (pc := 46) C E dX7_alikeFrom_46 ⟨rfl, rfl⟩
        · rw [if_pos c7] at h
          obtain ⟨y8, ey8, h⟩ := zlet_eq h
          refine z_iinc (pc := 39) (v := y8) C 3 dX7_alikeFrom_39 rfl (by rw [ey8]; rfl) (by decide) (show zput _ _ _ = [(3, .int y8), (0, .ref A.length), (1, .int x1), (2, .int x2)] from rfl) ?_
          refine z_goto (pc := 42) C dX7_alikeFrom_42 (tgt := 2) (by decide) ?_
          exact z_subL [1, 2, 3, 0] (ih x1 x2 y8 h) rfl
def fX7_alikeFrom (M : MS) (x1 : Int32) (x2 : Int32) : Option Int32 :=
    fX7_alikeFrom_b2 M FU x1 x2 (0 : Int32)
set_option maxRecDepth 100000 in
set_option maxHeartbeats 4000000 in
theorem wfX7_alikeFrom {X : zX} {A B : zH} {M : MS} {out : Int32} (C : zOK X cX7_alikeFrom yX7_alikeFrom.cls 4 (some .int) 2 46) (E : zPost X (poI out (hG A M B))) (x1 : Int32) (x2 : Int32) (h : fX7_alikeFrom M x1 x2 = some out) : zZ X 0 [(0, .ref A.length), (1, .int x1), (2, .int x2)] [] (hG A M B) := by
  rw [fX7_alikeFrom] at h
  refine z_iconst (pc := 0) C dX7_alikeFrom_0 (v := (0 : Int32)) (by decide) ?_
  refine z_istore_n (pc := 1) C dX7_alikeFrom_1 rfl (by decide) (show zput _ _ _ = [(3, .int (0 : Int32)), (0, .ref A.length), (1, .int x1), (2, .int x2)] from rfl) ?_
  exact z_subL [1, 2, 3, 0] (wfX7_alikeFrom_b2 C E FU x1 x2 (0 : Int32) h) rfl
theorem kX7_alikeFrom (l : Launch) (D : va_G) (cA : Nat → ClassId) (b : Nat) (A : zH) (M : MS) (B : zH) (x1 : Int32) (x2 : Int32) (out : Int32) (h : fX7_alikeFrom M x1 x2 = some out) : zM l D cA b yX7_alikeFrom cX7_alikeFrom 4 (some .int) 2 46 [.ref A.length, .int x1, .int x2] (hG A M B) (poI out (hG A M B)) := z_entry rfl (Nat.le_of_ble_eq_true rfl) (fun X C E _ _ _ => wfX7_alikeFrom C E x1 x2 h)
def fX7_before_b57 (k24 : MS → Int32 → Int32 → Int32 → Option (Int32 × MS)) (M : MS) (x1 : Int32) (x2 : Int32) (x3 : Int32) : Option (Int32 × MS) :=
    zlet (x3 + (1 : Int32)) fun y1 =>
    k24 M x1 x2 y1
set_option maxRecDepth 100000 in
set_option maxHeartbeats 4000000 in
theorem wfX7_before_b57 {X : zX} {A B : zH} {out : Int32 × MS} (C : zOK X cX7_before yX7_before.cls 5 (some .int) 3 69) (E : zPost X (poI out.1 (hG A out.2 B))) (k24 : MS → Int32 → Int32 → Int32 → Option (Int32 × MS)) (hk24 : ∀ (M : MS) (x1 : Int32) (x2 : Int32) (x3 : Int32), k24 M x1 x2 x3 = some out → zZ X 24 [(0, .ref A.length), (1, .int x1), (2, .int x2), (3, .int x3)] [] (hG A M B)) (M : MS) (x1 : Int32) (x2 : Int32) (x3 : Int32) (h : fX7_before_b57 k24 M x1 x2 x3 = some out) : zZ X 57 [(0, .ref A.length), (1, .int x1), (2, .int x2), (3, .int x3)] [] (hG A M B) := by
  rw [fX7_before_b57] at h
  obtain ⟨y1, ey1, h⟩ := zlet_eq h
  refine z_iinc (pc := 57) (v := y1) C 3 dX7_before_57 rfl (by rw [ey1]; rfl) (by decide) (show zput _ _ _ = [(3, .int y1), (0, .ref A.length), (1, .int x1), (2, .int x2)] from rfl) ?_
  refine z_goto (pc := 60) C dX7_before_60 (tgt := 24) (by decide) ?_
  exact z_subL [1, 2, 3, 0] (hk24 M x1 x2 y1 h) rfl
def fX7_before_b24 : Nat → MS → Int32 → Int32 → Int32 → Option (Int32 × MS)
  | 0, _, _, _, _ => none
  | n + 1, M, x1, x2, x3 =>
    if x1 ≤ x3 then (some (x2, M)) else
    ob1 (fX7_alikeFrom M x1 x3) fun v2 =>
    if v2 ≤ x2 then (fX7_before_b57 (fX7_before_b24 n) M x1 x2 x3) else
    zlet (mI M 1 (0 : Int32)) fun M4 =>
    ob1 (fX7_enters M4 x3.toInt64) fun M5 =>
    fX7_before_b57 (fX7_before_b24 n) M5 x1 v2 x3
set_option maxRecDepth 100000 in
set_option maxHeartbeats 4000000 in
theorem wfX7_before_b24 {X : zX} {A B : zH} {out : Int32 × MS} (C : zOK X cX7_before yX7_before.cls 5 (some .int) 3 69) (E : zPost X (poI out.1 (hG A out.2 B))) : ∀ (n : Nat) (M : MS) (x1 : Int32) (x2 : Int32) (x3 : Int32) (h : fX7_before_b24 n M x1 x2 x3 = some out), zZ X 24 [(0, .ref A.length), (1, .int x1), (2, .int x2), (3, .int x3)] [] (hG A M B) := by
  intro n
  induction n with
  | zero => intro M x1 x2 x3 h; cases h
  | succ n ih =>
    intro M x1 x2 x3 h
    rw [fX7_before_b24] at h
    refine z_iload_n (pc := 24) C 3 dX7_before_24 rfl rfl ?_
    refine z_iload_n (pc := 25) C 1 dX7_before_25 rfl rfl ?_
    refine z_ic_ge (pc := 26) C dX7_before_26 (tgt := 63) (by decide) (fun c1 => ?_) (fun c1 => ?_)
    · rw [if_pos c1] at h
      refine z_iload_n (pc := 63) C 2 dX7_before_63 rfl rfl ?_
      obtain rfl := Option.some.inj h
      exact z_iret (pc := 64) C E dX7_before_64 ⟨rfl, rfl⟩
    · rw [if_neg c1] at h
      refine z_aload_n (pc := 29) C 0 dX7_before_29 rfl rfl ?_
      refine z_iload_n (pc := 30) C 1 dX7_before_30 rfl rfl ?_
      refine z_iload_n (pc := 31) C 3 dX7_before_31 rfl rfl ?_
      obtain ⟨v2, ev2, h⟩ := ob1_eq h
      refine z_callVi (h := A.length) (As := [.int x1, .int x3]) (rest := []) (pc := 32) C dX7_before_32 ml_X7_353 (kX7_alikeFrom _ _ _ _ A M B x1 x3 v2 ev2) (hM_o A M B) rfl rfl rfl (Nat.le_of_ble_eq_true rfl) (by decide) ?_
      refine z_istore (pc := 35) C dX7_before_35 (by decide) (show zput _ _ _ = [(4, .int v2), (0, .ref A.length), (1, .int x1), (2, .int x2), (3, .int x3)] from rfl) ?_
      refine z_iload (pc := 37) C 0 dX7_before_37 rfl ?_
      refine z_iload_n (pc := 39) C 3 dX7_before_39 rfl rfl ?_
      refine z_ic_le (pc := 40) C dX7_before_40 (tgt := 57) (by decide) (fun c3 => ?_) (fun c3 => ?_)
      · rw [if_pos c3] at h
        exact z_subL [1, 2, 3, 4] (wfX7_before_b57 C E (fX7_before_b24 n) ih M x1 x2 x3 h) rfl
      · rw [if_neg c3] at h
        refine z_iload (pc := 43) C 0 dX7_before_43 rfl ?_
        refine z_istore_n (pc := 45) C dX7_before_45 rfl (by decide) (show zput _ _ _ = [(2, .int v2), (4, .int v2), (0, .ref A.length), (1, .int x1), (3, .int x3)] from rfl) ?_
        refine z_aload_n (pc := 46) C 2 dX7_before_46 rfl rfl ?_
        refine z_iconst (pc := 47) C dX7_before_47 (v := (0 : Int32)) (by decide) ?_
        obtain ⟨M4, eM4, h⟩ := zlet_eq h
        refine z_put (pc := 48) C dX7_before_48 fl_X7_11w (hM_o A M B) (fun _ => rfl) (fun _ => rfl) (Nat.le_of_ble_eq_true rfl) (hMi_1 A B eM4) ?_
        refine z_aload_n (pc := 51) C 2 dX7_before_51 rfl rfl ?_
        refine z_iload_n (pc := 52) C 4 dX7_before_52 rfl rfl ?_
        refine z_i2l (pc := 53) C dX7_before_53 ?_
        obtain ⟨M5, eM5, h⟩ := ob1_eq h
        refine z_callVv (h := A.length) (As := [.long x3.toInt64]) (rest := []) (pc := 54) C dX7_before_54 ml_X7_295 (kX7_enters _ _ _ _ A M4 B x3.toInt64 M5 eM5) (hM_o A M4 B) rfl rfl rfl (Nat.le_of_ble_eq_true rfl) (by decide) ?_
        exact z_subL [2, 3, 0, 4] (wfX7_before_b57 C E (fX7_before_b24 n) ih M5 x1 v2 x3 h) rfl
def fX7_before (M : MS) (x1 : Int32) : Option (Int32 × MS) :=
    zlet (mI M 0 (0 : Int32)) fun M1 =>
    ob1 (fX7_isSign M1 x1) fun v2 =>
    if v2 = 0 then (some ((-1 : Int32), M1)) else
    zlet (mI M1 1 (0 : Int32)) fun M4 =>
    fX7_before_b24 FU M4 x1 (0 : Int32) (0 : Int32)
set_option maxRecDepth 100000 in
set_option maxHeartbeats 4000000 in
theorem wfX7_before {X : zX} {A B : zH} {out : Int32 × MS} (C : zOK X cX7_before yX7_before.cls 5 (some .int) 3 69) (E : zPost X (poI out.1 (hG A out.2 B))) (M : MS) (x1 : Int32) (h : fX7_before M x1 = some out) : zZ X 0 [(0, .ref A.length), (1, .int x1)] [] (hG A M B) := by
  rw [fX7_before] at h
  refine z_aload_n (pc := 0) C 0 dX7_before_0 rfl rfl ?_
  refine z_iconst (pc := 1) C dX7_before_1 (v := (0 : Int32)) (by decide) ?_
  obtain ⟨M1, eM1, h⟩ := zlet_eq h
  refine z_put (pc := 2) C dX7_before_2 fl_X7_1w (hM_o A M B) (fun _ => rfl) (fun _ => rfl) (Nat.le_of_ble_eq_true rfl) (hMi_0 A B eM1) ?_
  refine z_aload_n (pc := 5) C 0 dX7_before_5 rfl rfl ?_
  refine z_iload_n (pc := 6) C 1 dX7_before_6 rfl rfl ?_
  obtain ⟨v2, ev2, h⟩ := ob1_eq h
  refine z_callVi (h := A.length) (As := [.int x1]) (rest := []) (pc := 7) C dX7_before_7 ml_X7_299 (kX7_isSign _ _ _ _ A M1 B x1 v2 ev2) (hM_o A M1 B) rfl rfl rfl (Nat.le_of_ble_eq_true rfl) (by decide) ?_
  refine z_if_ne (pc := 10) C dX7_before_10 (tgt := 15) (by decide) (fun c3 => ?_) (fun c3 => ?_)
  · rw [if_neg c3] at h
    refine z_iconst (pc := 15) C dX7_before_15 (v := (0 : Int32)) (by decide) ?_
    refine z_istore_n (pc := 16) C dX7_before_16 rfl (by decide) (show zput _ _ _ = [(2, .int (0 : Int32)), (0, .ref A.length), (1, .int x1)] from rfl) ?_
    refine z_aload_n (pc := 17) C 1 dX7_before_17 rfl rfl ?_
    refine z_iconst (pc := 18) C dX7_before_18 (v := (0 : Int32)) (by decide) ?_
    obtain ⟨M4, eM4, h⟩ := zlet_eq h
    refine z_put (pc := 19) C dX7_before_19 fl_X7_11w (hM_o A M1 B) (fun _ => rfl) (fun _ => rfl) (Nat.le_of_ble_eq_true rfl) (hMi_1 A B eM4) ?_
    refine z_iconst (pc := 22) C dX7_before_22 (v := (0 : Int32)) (by decide) ?_
    refine z_istore_n (pc := 23) C dX7_before_23 rfl (by decide) (show zput _ _ _ = [(3, .int (0 : Int32)), (2, .int (0 : Int32)), (0, .ref A.length), (1, .int x1)] from rfl) ?_
    exact z_subL [2, 3, 1, 0] (wfX7_before_b24 C E FU M4 x1 (0 : Int32) (0 : Int32) h) rfl
  · rw [if_pos c3] at h
    refine z_iconst (pc := 13) C dX7_before_13 (v := (-1 : Int32)) (by decide) ?_
    obtain rfl := Option.some.inj h
    exact z_iret (pc := 14) C E dX7_before_14 ⟨rfl, rfl⟩
theorem kX7_before (l : Launch) (D : va_G) (cA : Nat → ClassId) (b : Nat) (A : zH) (M : MS) (B : zH) (x1 : Int32) (out : Int32 × MS) (h : fX7_before M x1 = some out) : zM l D cA b yX7_before cX7_before 5 (some .int) 3 69 [.ref A.length, .int x1] (hG A M B) (poI out.1 (hG A out.2 B)) := z_entry rfl (Nat.le_of_ble_eq_true rfl) (fun X C E _ _ _ => wfX7_before C E M x1 h)
def fX7_isOfWord_b47 (M : MS) : Option Int32 :=
    some (1 : Int32)
set_option maxRecDepth 100000 in
set_option maxHeartbeats 4000000 in
theorem wfX7_isOfWord_b47 {X : zX} {A B : zH} {M : MS} {out : Int32} (C : zOK X cX7_isOfWord yX7_isOfWord.cls 3 (some .boolean) 2 46) (E : zPost X (poI out (hG A M B))) (h : fX7_isOfWord_b47 M = some out) : zZ X 47 [] [] (hG A M B) := by
  rw [fX7_isOfWord_b47] at h
  refine z_iconst (pc := 47) C dX7_isOfWord_47 (v := (1 : Int32)) (by decide) ?_
  refine z_goto (pc := 48) C dX7_isOfWord_48 (tgt := 52) (by decide) ?_
  obtain rfl := Option.some.inj h
  exact z_zret (pc := 52) C E dX7_isOfWord_52 rfl ⟨rfl, rfl⟩
def fX7_isOfWord (M : MS) (x1 : Int32) : Option Int32 :=
    ob1 (fX7_isSign M x1) fun v1 =>
    if v1 = 0 then (some (0 : Int32)) else
    ob1 (fX7_signAt M x1) fun v3 =>
    ob1 (fX7_small v3) fun v4 =>
    ob1 (fX7_in v4.toInt64 (97 : Int64) (122 : Int64)) fun v5 =>
    if v5 = 0 then (ob1 (fX7_in v4.toInt64 (48 : Int64) (57 : Int64)) fun v7 =>
    if v7 = 0 then (some (0 : Int32)) else
    fX7_isOfWord_b47 M) else
    fX7_isOfWord_b47 M
set_option maxRecDepth 100000 in
set_option maxHeartbeats 4000000 in
theorem wfX7_isOfWord {X : zX} {A B : zH} {M : MS} {out : Int32} (C : zOK X cX7_isOfWord yX7_isOfWord.cls 3 (some .boolean) 2 46) (E : zPost X (poI out (hG A M B))) (x1 : Int32) (h : fX7_isOfWord M x1 = some out) : zZ X 0 [(0, .ref A.length), (1, .int x1)] [] (hG A M B) := by
  rw [fX7_isOfWord] at h
  refine z_aload_n (pc := 0) C 0 dX7_isOfWord_0 rfl rfl ?_
  refine z_iload_n (pc := 1) C 1 dX7_isOfWord_1 rfl rfl ?_
  obtain ⟨v1, ev1, h⟩ := ob1_eq h
  refine z_callVi (h := A.length) (As := [.int x1]) (rest := []) (pc := 2) C dX7_isOfWord_2 ml_X7_299 (kX7_isSign _ _ _ _ A M B x1 v1 ev1) (hM_o A M B) rfl rfl rfl (Nat.le_of_ble_eq_true rfl) (by decide) ?_
  refine z_if_ne (pc := 5) C dX7_isOfWord_5 (tgt := 10) (by decide) (fun c2 => ?_) (fun c2 => ?_)
  · rw [if_neg c2] at h
    refine z_aload_n (pc := 10) C 0 dX7_isOfWord_10 rfl rfl ?_
    refine z_iload_n (pc := 11) C 1 dX7_isOfWord_11 rfl rfl ?_
    obtain ⟨v3, ev3, h⟩ := ob1_eq h
    refine z_callVi (h := A.length) (As := [.int x1]) (rest := []) (pc := 12) C dX7_isOfWord_12 ml_X7_157 (kX7_signAt _ _ _ _ A M B x1 v3 ev3) (hM_o A M B) rfl rfl rfl (Nat.le_of_ble_eq_true rfl) (by decide) ?_
    obtain ⟨v4, ev4, h⟩ := ob1_eq h
    refine z_callSi (As := [.int v3]) (rest := []) (pc := 15) C dX7_isOfWord_15 ml_X7_333 (kX7_small _ _ _ _ (hG A M B) v3 v4 ev4) rfl rfl (Nat.le_of_ble_eq_true rfl) (by decide) ?_
    refine z_istore_n (pc := 18) C dX7_isOfWord_18 rfl (by decide) (show zput _ _ _ = [(2, .int v4), (0, .ref A.length), (1, .int x1)] from rfl) ?_
    refine z_iload_n (pc := 19) C 0 dX7_isOfWord_19 rfl rfl ?_
    refine z_i2l (pc := 20) C dX7_isOfWord_20 ?_
    refine z_ldc2 (pc := 21) C dX7_isOfWord_21 cn_X7_275 ?_
    refine z_ldc2 (pc := 24) C dX7_isOfWord_24 cn_X7_277 ?_
    obtain ⟨v5, ev5, h⟩ := ob1_eq h
    refine z_callSi (As := [.long v4.toInt64, .long (97 : Int64), .long (122 : Int64)]) (rest := []) (pc := 27) C dX7_isOfWord_27 ml_X7_21 (kX7_in _ _ _ _ (hG A M B) v4.toInt64 (97 : Int64) (122 : Int64) v5 ev5) rfl rfl (Nat.le_of_ble_eq_true rfl) (by decide) ?_
    refine z_if_ne (pc := 30) C dX7_isOfWord_30 (tgt := 47) (by decide) (fun c6 => ?_) (fun c6 => ?_)
    · rw [if_neg c6] at h
      exact z_subL [] (wfX7_isOfWord_b47 C E h) rfl
    · rw [if_pos c6] at h
      refine z_iload_n (pc := 33) C 0 dX7_isOfWord_33 rfl rfl ?_
      refine z_i2l (pc := 34) C dX7_isOfWord_34 ?_
      refine z_ldc2 (pc := 35) C dX7_isOfWord_35 cn_X7_271 ?_
      refine z_ldc2 (pc := 38) C dX7_isOfWord_38 cn_X7_273 ?_
      obtain ⟨v7, ev7, h⟩ := ob1_eq h
      refine z_callSi (As := [.long v4.toInt64, .long (48 : Int64), .long (57 : Int64)]) (rest := []) (pc := 41) C dX7_isOfWord_41 ml_X7_21 (kX7_in _ _ _ _ (hG A M B) v4.toInt64 (48 : Int64) (57 : Int64) v7 ev7) rfl rfl (Nat.le_of_ble_eq_true rfl) (by decide) ?_
      refine z_if_eq (pc := 44) C dX7_isOfWord_44 (tgt := 51) (by decide) (fun c8 => ?_) (fun c8 => ?_)
      · rw [if_pos c8] at h
        refine z_iconst (pc := 51) C dX7_isOfWord_51 (v := (0 : Int32)) (by decide) ?_
        obtain rfl := Option.some.inj h
        exact z_zret (pc := 52) C E dX7_isOfWord_52 rfl ⟨rfl, rfl⟩
      · rw [if_neg c8] at h
        exact z_subL [] (wfX7_isOfWord_b47 C E h) rfl
  · rw [if_pos c2] at h
    refine z_iconst (pc := 8) C dX7_isOfWord_8 (v := (0 : Int32)) (by decide) ?_
    obtain rfl := Option.some.inj h
    exact z_zret (pc := 9) C E dX7_isOfWord_9 rfl ⟨rfl, rfl⟩
theorem kX7_isOfWord (l : Launch) (D : va_G) (cA : Nat → ClassId) (b : Nat) (A : zH) (M : MS) (B : zH) (x1 : Int32) (out : Int32) (h : fX7_isOfWord M x1 = some out) : zM l D cA b yX7_isOfWord cX7_isOfWord 3 (some .boolean) 2 46 [.ref A.length, .int x1] (hG A M B) (poI out (hG A M B)) := z_entry rfl (Nat.le_of_ble_eq_true rfl) (fun X C E _ _ _ => wfX7_isOfWord C E x1 h)
def fX7_endOfWord_b2 (M : MS) : Nat → Int32 → Option Int32
  | 0, _ => none
  | n + 1, x2 =>
    ob1 (fX7_isOfWord M x2) fun v1 =>
    if v1 = 0 then (some x2) else
    zlet (x2 + (1 : Int32)) fun y3 =>
    (fX7_endOfWord_b2 M n) y3
set_option maxRecDepth 100000 in
set_option maxHeartbeats 4000000 in
theorem wfX7_endOfWord_b2 {X : zX} {A B : zH} {M : MS} {out : Int32} (C : zOK X cX7_endOfWord yX7_endOfWord.cls 3 (some .int) 3 68) (E : zPost X (poI out (hG A M B))) : ∀ (n : Nat) (x2 : Int32) (h : fX7_endOfWord_b2 M n x2 = some out), zZ X 2 [(0, .ref A.length), (2, .int x2)] [] (hG A M B) := by
  intro n
  induction n with
  | zero => intro x2 h; cases h
  | succ n ih =>
    intro x2 h
    rw [fX7_endOfWord_b2] at h
    refine z_aload_n (pc := 2) C 0 dX7_endOfWord_2 rfl rfl ?_
    refine z_iload_n (pc := 3) C 1 dX7_endOfWord_3 rfl rfl ?_
    obtain ⟨v1, ev1, h⟩ := ob1_eq h
    refine z_callVi (h := A.length) (As := [.int x2]) (rest := []) (pc := 4) C dX7_endOfWord_4 ml_X7_356 (kX7_isOfWord _ _ _ _ A M B x2 v1 ev1) (hM_o A M B) rfl rfl rfl (Nat.le_of_ble_eq_true rfl) (by decide) ?_
    refine z_if_eq (pc := 7) C dX7_endOfWord_7 (tgt := 16) (by decide) (fun c2 => ?_) (fun c2 => ?_)
    · rw [if_pos c2] at h
      refine z_iload_n (pc := 16) C 1 dX7_endOfWord_16 rfl rfl ?_
      obtain rfl := Option.some.inj h
      exact z_iret (pc := 17) C E dX7_endOfWord_17 ⟨rfl, rfl⟩
    · rw [if_neg c2] at h
      obtain ⟨y3, ey3, h⟩ := zlet_eq h
      refine z_iinc (pc := 10) (v := y3) C 1 dX7_endOfWord_10 rfl (by rw [ey3]; rfl) (by decide) (show zput _ _ _ = [(2, .int y3), (0, .ref A.length)] from rfl) ?_
      refine z_goto (pc := 13) C dX7_endOfWord_13 (tgt := 2) (by decide) ?_
      exact z_subL [1, 0] (ih y3 h) rfl
def fX7_endOfWord (M : MS) (x1 : Int32) : Option Int32 :=
    fX7_endOfWord_b2 M FU x1
set_option maxRecDepth 100000 in
set_option maxHeartbeats 4000000 in
theorem wfX7_endOfWord {X : zX} {A B : zH} {M : MS} {out : Int32} (C : zOK X cX7_endOfWord yX7_endOfWord.cls 3 (some .int) 3 68) (E : zPost X (poI out (hG A M B))) (x1 : Int32) (h : fX7_endOfWord M x1 = some out) : zZ X 0 [(0, .ref A.length), (1, .int x1)] [] (hG A M B) := by
  rw [fX7_endOfWord] at h
  refine z_iload_n (pc := 0) C 1 dX7_endOfWord_0 rfl rfl ?_
  refine z_istore_n (pc := 1) C dX7_endOfWord_1 rfl (by decide) (show zput _ _ _ = [(2, .int x1), (0, .ref A.length), (1, .int x1)] from rfl) ?_
  exact z_subL [1, 0] (wfX7_endOfWord_b2 C E FU x1 h) rfl
theorem kX7_endOfWord (l : Launch) (D : va_G) (cA : Nat → ClassId) (b : Nat) (A : zH) (M : MS) (B : zH) (x1 : Int32) (out : Int32) (h : fX7_endOfWord M x1 = some out) : zM l D cA b yX7_endOfWord cX7_endOfWord 3 (some .int) 3 68 [.ref A.length, .int x1] (hG A M B) (poI out (hG A M B)) := z_entry rfl (Nat.le_of_ble_eq_true rfl) (fun X C E _ _ _ => wfX7_endOfWord C E x1 h)
def fX7_word_b58 (M : MS) (x2 : Int32) : Option (Int32 × MS) :=
    zlet (mI M 1 (0 : Int32)) fun M1 =>
    ob1 (fX7_endOfWord M1 x2) fun v2 =>
    ob1 (fX7_enters M1 v2.toInt64) fun M3 =>
    some (x2, M3)
set_option maxRecDepth 100000 in
set_option maxHeartbeats 4000000 in
theorem wfX7_word_b58 {X : zX} {A B : zH} {out : Int32 × MS} (C : zOK X cX7_word yX7_word.cls 3 (some .int) 4 90) (E : zPost X (poI out.1 (hG A out.2 B))) (M : MS) (x2 : Int32) (h : fX7_word_b58 M x2 = some out) : zZ X 58 [(0, .ref A.length), (2, .int x2)] [] (hG A M B) := by
  rw [fX7_word_b58] at h
  refine z_aload_n (pc := 58) C 0 dX7_word_58 rfl rfl ?_
  refine z_iconst (pc := 59) C dX7_word_59 (v := (0 : Int32)) (by decide) ?_
  obtain ⟨M1, eM1, h⟩ := zlet_eq h
  refine z_put (pc := 60) C dX7_word_60 fl_X7_11w (hM_o A M B) (fun _ => rfl) (fun _ => rfl) (Nat.le_of_ble_eq_true rfl) (hMi_1 A B eM1) ?_
  refine z_aload_n (pc := 63) C 0 dX7_word_63 rfl rfl ?_
  refine z_aload_n (pc := 64) C 0 dX7_word_64 rfl rfl ?_
  refine z_iload_n (pc := 65) C 1 dX7_word_65 rfl rfl ?_
  obtain ⟨v2, ev2, h⟩ := ob1_eq h
  refine z_callVi (h := A.length) (As := [.int x2]) (rest := [.ref A.length]) (pc := 66) C dX7_word_66 ml_X7_359 (kX7_endOfWord _ _ _ _ A M1 B x2 v2 ev2) (hM_o A M1 B) rfl rfl rfl (Nat.le_of_ble_eq_true rfl) (by decide) ?_
  refine z_i2l (pc := 69) C dX7_word_69 ?_
  obtain ⟨M3, eM3, h⟩ := ob1_eq h
  refine z_callVv (h := A.length) (As := [.long v2.toInt64]) (rest := []) (pc := 70) C dX7_word_70 ml_X7_295 (kX7_enters _ _ _ _ A M1 B v2.toInt64 M3 eM3) (hM_o A M1 B) rfl rfl rfl (Nat.le_of_ble_eq_true rfl) (by decide) ?_
  refine z_iload_n (pc := 73) C 1 dX7_word_73 rfl rfl ?_
  obtain rfl := Option.some.inj h
  exact z_iret (pc := 74) C E dX7_word_74 ⟨rfl, rfl⟩
def fX7_word_b42 : Nat → MS → Int32 → Option (Int32 × MS)
  | 0, _, _ => none
  | n + 1, M, x2 =>
    ob1 (fX7_isOfWord M (x2 - (1 : Int32))) fun v1 =>
    if v1 = 0 then (fX7_word_b58 M x2) else
    zlet (x2 + (-1 : Int32)) fun y3 =>
    (fX7_word_b42 n) M y3
set_option maxRecDepth 100000 in
set_option maxHeartbeats 4000000 in
theorem wfX7_word_b42 {X : zX} {A B : zH} {out : Int32 × MS} (C : zOK X cX7_word yX7_word.cls 3 (some .int) 4 90) (E : zPost X (poI out.1 (hG A out.2 B))) : ∀ (n : Nat) (M : MS) (x2 : Int32) (h : fX7_word_b42 n M x2 = some out), zZ X 42 [(0, .ref A.length), (2, .int x2)] [] (hG A M B) := by
  intro n
  induction n with
  | zero => intro M x2 h; cases h
  | succ n ih =>
    intro M x2 h
    rw [fX7_word_b42] at h
    refine z_aload_n (pc := 42) C 0 dX7_word_42 rfl rfl ?_
    refine z_iload_n (pc := 43) C 1 dX7_word_43 rfl rfl ?_
    refine z_iconst (pc := 44) C dX7_word_44 (v := (1 : Int32)) (by decide) ?_
    refine z_isub (pc := 45) C dX7_word_45 ?_
    obtain ⟨v1, ev1, h⟩ := ob1_eq h
    refine z_callVi (h := A.length) (As := [.int (x2 - (1 : Int32))]) (rest := []) (pc := 46) C dX7_word_46 ml_X7_356 (kX7_isOfWord _ _ _ _ A M B (x2 - (1 : Int32)) v1 ev1) (hM_o A M B) rfl rfl rfl (Nat.le_of_ble_eq_true rfl) (by decide) ?_
    refine z_if_eq (pc := 49) C dX7_word_49 (tgt := 58) (by decide) (fun c2 => ?_) (fun c2 => ?_)
    · rw [if_pos c2] at h
      exact z_subL [0, 1] (wfX7_word_b58 C E M x2 h) rfl
    · rw [if_neg c2] at h
      obtain ⟨y3, ey3, h⟩ := zlet_eq h
      refine z_iinc (pc := 52) (v := y3) C 1 dX7_word_52 rfl (by rw [ey3]; rfl) (by decide) (show zput _ _ _ = [(2, .int y3), (0, .ref A.length)] from rfl) ?_
      refine z_goto (pc := 55) C dX7_word_55 (tgt := 42) (by decide) ?_
      exact z_subL [1, 0] (ih M y3 h) rfl
def fX7_word_b30 (M : MS) (s0 : Int32) : Option (Int32 × MS) :=
    ob1 (fX7_isOfWord M s0) fun v1 =>
    if v1 = 0 then (some ((-2 : Int32), M)) else
    fX7_word_b42 FU M s0
set_option maxRecDepth 100000 in
set_option maxHeartbeats 4000000 in
theorem wfX7_word_b30 {X : zX} {A B : zH} {out : Int32 × MS} (C : zOK X cX7_word yX7_word.cls 3 (some .int) 4 90) (E : zPost X (poI out.1 (hG A out.2 B))) (M : MS) (s0 : Int32) (h : fX7_word_b30 M s0 = some out) : zZ X 30 [(0, .ref A.length)] [.int s0] (hG A M B) := by
  rw [fX7_word_b30] at h
  refine z_istore_n (pc := 30) C dX7_word_30 rfl (by decide) (show zput _ _ _ = [(2, .int s0), (0, .ref A.length)] from rfl) ?_
  refine z_aload_n (pc := 31) C 1 dX7_word_31 rfl rfl ?_
  refine z_iload_n (pc := 32) C 0 dX7_word_32 rfl rfl ?_
  obtain ⟨v1, ev1, h⟩ := ob1_eq h
  refine z_callVi (h := A.length) (As := [.int s0]) (rest := []) (pc := 33) C dX7_word_33 ml_X7_356 (kX7_isOfWord _ _ _ _ A M B s0 v1 ev1) (hM_o A M B) rfl rfl rfl (Nat.le_of_ble_eq_true rfl) (by decide) ?_
  refine z_if_ne (pc := 36) C dX7_word_36 (tgt := 42) (by decide) (fun c2 => ?_) (fun c2 => ?_)
  · rw [if_neg c2] at h
    exact z_subL [1, 0] (wfX7_word_b42 C E FU M s0 h) rfl
  · rw [if_pos c2] at h
    refine z_bipush (pc := 39) C dX7_word_39 (v := (-2 : Int32)) (by decide) ?_
    obtain rfl := Option.some.inj h
    exact z_iret (pc := 41) C E dX7_word_41 ⟨rfl, rfl⟩
def fX7_word (M : MS) (x1 : Int32) : Option (Int32 × MS) :=
    zlet (mI M 0 (0 : Int32)) fun M1 =>
    ob1 (fX7_isPlace M1 x1) fun v2 =>
    if v2 = 0 then (some ((-1 : Int32), M1)) else
    ob1 (fX7_isOfWord M1 x1) fun v4 =>
    if v4 = 0 then (fX7_word_b30 M1 (x1 - (1 : Int32))) else
    fX7_word_b30 M1 x1
set_option maxRecDepth 100000 in
set_option maxHeartbeats 4000000 in
theorem wfX7_word {X : zX} {A B : zH} {out : Int32 × MS} (C : zOK X cX7_word yX7_word.cls 3 (some .int) 4 90) (E : zPost X (poI out.1 (hG A out.2 B))) (M : MS) (x1 : Int32) (h : fX7_word M x1 = some out) : zZ X 0 [(0, .ref A.length), (1, .int x1)] [] (hG A M B) := by
  rw [fX7_word] at h
  refine z_aload_n (pc := 0) C 0 dX7_word_0 rfl rfl ?_
  refine z_iconst (pc := 1) C dX7_word_1 (v := (0 : Int32)) (by decide) ?_
  obtain ⟨M1, eM1, h⟩ := zlet_eq h
  refine z_put (pc := 2) C dX7_word_2 fl_X7_1w (hM_o A M B) (fun _ => rfl) (fun _ => rfl) (Nat.le_of_ble_eq_true rfl) (hMi_0 A B eM1) ?_
  refine z_aload_n (pc := 5) C 0 dX7_word_5 rfl rfl ?_
  refine z_iload_n (pc := 6) C 1 dX7_word_6 rfl rfl ?_
  obtain ⟨v2, ev2, h⟩ := ob1_eq h
  refine z_callVi (h := A.length) (As := [.int x1]) (rest := []) (pc := 7) C dX7_word_7 ml_X7_202 (kX7_isPlace _ _ _ _ A M1 B x1 v2 ev2) (hM_o A M1 B) rfl rfl rfl (Nat.le_of_ble_eq_true rfl) (by decide) ?_
  refine z_if_ne (pc := 10) C dX7_word_10 (tgt := 15) (by decide) (fun c3 => ?_) (fun c3 => ?_)
  · rw [if_neg c3] at h
    refine z_aload_n (pc := 15) C 0 dX7_word_15 rfl rfl ?_
    refine z_iload_n (pc := 16) C 1 dX7_word_16 rfl rfl ?_
    obtain ⟨v4, ev4, h⟩ := ob1_eq h
    refine z_callVi (h := A.length) (As := [.int x1]) (rest := []) (pc := 17) C dX7_word_17 ml_X7_356 (kX7_isOfWord _ _ _ _ A M1 B x1 v4 ev4) (hM_o A M1 B) rfl rfl rfl (Nat.le_of_ble_eq_true rfl) (by decide) ?_
    refine z_if_eq (pc := 20) C dX7_word_20 (tgt := 27) (by decide) (fun c5 => ?_) (fun c5 => ?_)
    · rw [if_pos c5] at h
      refine z_iload_n (pc := 27) C 1 dX7_word_27 rfl rfl ?_
      refine z_iconst (pc := 28) C dX7_word_28 (v := (1 : Int32)) (by decide) ?_
      refine z_isub (pc := 29) C dX7_word_29 ?_
      exact z_subL [0] (wfX7_word_b30 C E M1 (x1 - (1 : Int32)) h) rfl
    · rw [if_neg c5] at h
      refine z_iload_n (pc := 23) C 1 dX7_word_23 rfl rfl ?_
      refine z_goto (pc := 24) C dX7_word_24 (tgt := 30) (by decide) ?_
      exact z_subL [0] (wfX7_word_b30 C E M1 x1 h) rfl
  · rw [if_pos c3] at h
    refine z_iconst (pc := 13) C dX7_word_13 (v := (-1 : Int32)) (by decide) ?_
    obtain rfl := Option.some.inj h
    exact z_iret (pc := 14) C E dX7_word_14 ⟨rfl, rfl⟩
theorem kX7_word (l : Launch) (D : va_G) (cA : Nat → ClassId) (b : Nat) (A : zH) (M : MS) (B : zH) (x1 : Int32) (out : Int32 × MS) (h : fX7_word M x1 = some out) : zM l D cA b yX7_word cX7_word 3 (some .int) 4 90 [.ref A.length, .int x1] (hG A M B) (poI out.1 (hG A out.2 B)) := z_entry rfl (Nat.le_of_ble_eq_true rfl) (fun X C E _ _ _ => wfX7_word C E M x1 h)
def fX7_words_b83 (M : MS) (x1 : Int32) (x2 : Int32) (x3 : Int32) : Option (Int32 × MS) :=
    zlet (mI M 1 (0 : Int32)) fun M1 =>
    if x1 ≤ 0 then (some (x1, M1)) else
    ob1 (fX7_enters M1 x3.toInt64) fun M3 =>
    ob1 (fX7_enters M3 x2.toInt64) fun M4 =>
    some (x1, M4)
set_option maxRecDepth 100000 in
set_option maxHeartbeats 4000000 in
theorem wfX7_words_b83 {X : zX} {A B : zH} {out : Int32 × MS} (C : zOK X cX7_words yX7_words.cls 6 (some .int) 4 90) (E : zPost X (poI out.1 (hG A out.2 B))) (M : MS) (x1 : Int32) (x2 : Int32) (x3 : Int32) (h : fX7_words_b83 M x1 x2 x3 = some out) : zZ X 83 [(0, .ref A.length), (1, .int x1), (2, .int x2), (3, .int x3)] [] (hG A M B) := by
  rw [fX7_words_b83] at h
  refine z_aload_n (pc := 83) C 0 dX7_words_83 rfl rfl ?_
  refine z_iconst (pc := 84) C dX7_words_84 (v := (0 : Int32)) (by decide) ?_
  obtain ⟨M1, eM1, h⟩ := zlet_eq h
  refine z_put (pc := 85) C dX7_words_85 fl_X7_11w (hM_o A M B) (fun _ => rfl) (fun _ => rfl) (Nat.le_of_ble_eq_true rfl) (hMi_1 A B eM1) ?_
  refine z_iload_n (pc := 88) C 1 dX7_words_88 rfl rfl ?_
  refine z_if_le (pc := 89) C dX7_words_89 (tgt := 104) (by decide) (fun c2 => ?_) (fun c2 => ?_)
  · rw [if_pos c2] at h
    refine z_iload_n (pc := 104) C 1 dX7_words_104 rfl rfl ?_
    obtain rfl := Option.some.inj h
    exact z_iret (pc := 105) C E dX7_words_105 ⟨rfl, rfl⟩
  · rw [if_neg c2] at h
    refine z_aload_n (pc := 92) C 0 dX7_words_92 rfl rfl ?_
    refine z_iload_n (pc := 93) C 3 dX7_words_93 rfl rfl ?_
    refine z_i2l (pc := 94) C dX7_words_94 ?_
    obtain ⟨M3, eM3, h⟩ := ob1_eq h
    refine z_callVv (h := A.length) (As := [.long x3.toInt64]) (rest := []) (pc := 95) C dX7_words_95 ml_X7_295 (kX7_enters _ _ _ _ A M1 B x3.toInt64 M3 eM3) (hM_o A M1 B) rfl rfl rfl (Nat.le_of_ble_eq_true rfl) (by decide) ?_
    refine z_aload_n (pc := 98) C 0 dX7_words_98 rfl rfl ?_
    refine z_iload_n (pc := 99) C 2 dX7_words_99 rfl rfl ?_
    refine z_i2l (pc := 100) C dX7_words_100 ?_
    obtain ⟨M4, eM4, h⟩ := ob1_eq h
    refine z_callVv (h := A.length) (As := [.long x2.toInt64]) (rest := []) (pc := 101) C dX7_words_101 ml_X7_295 (kX7_enters _ _ _ _ A M3 B x2.toInt64 M4 eM4) (hM_o A M3 B) rfl rfl rfl (Nat.le_of_ble_eq_true rfl) (by decide) ?_
    refine z_iload_n (pc := 104) C 1 dX7_words_104 rfl rfl ?_
    obtain rfl := Option.some.inj h
    exact z_iret (pc := 105) C E dX7_words_105 ⟨rfl, rfl⟩
def fX7_words_b77 (k14 : MS → Int32 → Int32 → Int32 → Int32 → Option (Int32 × MS)) (M : MS) (x1 : Int32) (x2 : Int32) (x3 : Int32) (x4 : Int32) : Option (Int32 × MS) :=
    zlet (x4 + (1 : Int32)) fun y1 =>
    k14 M x1 x2 x3 y1
set_option maxRecDepth 100000 in
set_option maxHeartbeats 4000000 in
theorem wfX7_words_b77 {X : zX} {A B : zH} {out : Int32 × MS} (C : zOK X cX7_words yX7_words.cls 6 (some .int) 4 90) (E : zPost X (poI out.1 (hG A out.2 B))) (k14 : MS → Int32 → Int32 → Int32 → Int32 → Option (Int32 × MS)) (hk14 : ∀ (M : MS) (x1 : Int32) (x2 : Int32) (x3 : Int32) (x4 : Int32), k14 M x1 x2 x3 x4 = some out → zZ X 14 [(0, .ref A.length), (1, .int x1), (2, .int x2), (3, .int x3), (4, .int x4)] [] (hG A M B)) (M : MS) (x1 : Int32) (x2 : Int32) (x3 : Int32) (x4 : Int32) (h : fX7_words_b77 k14 M x1 x2 x3 x4 = some out) : zZ X 77 [(0, .ref A.length), (1, .int x1), (2, .int x2), (3, .int x3), (4, .int x4)] [] (hG A M B) := by
  rw [fX7_words_b77] at h
  obtain ⟨y1, ey1, h⟩ := zlet_eq h
  refine z_iinc (pc := 77) (v := y1) C 4 dX7_words_77 rfl (by rw [ey1]; rfl) (by decide) (show zput _ _ _ = [(4, .int y1), (0, .ref A.length), (1, .int x1), (2, .int x2), (3, .int x3)] from rfl) ?_
  refine z_goto (pc := 80) C dX7_words_80 (tgt := 14) (by decide) ?_
  exact z_subL [1, 2, 3, 4, 0] (hk14 M x1 x2 x3 y1 h) rfl
def fX7_words_b69 (k14 : MS → Int32 → Int32 → Int32 → Int32 → Option (Int32 × MS)) (M : MS) (x1 : Int32) (x3 : Int32) (x4 : Int32) (x5 : Int32) (s0 : Int32) : Option (Int32 × MS) :=
    zlet ((if x3 < x5 then x5 else x3)) fun y1 =>
    fX7_words_b77 k14 M x1 s0 y1 x4
set_option maxRecDepth 100000 in
set_option maxHeartbeats 4000000 in
theorem wfX7_words_b69 {X : zX} {A B : zH} {out : Int32 × MS} (C : zOK X cX7_words yX7_words.cls 6 (some .int) 4 90) (E : zPost X (poI out.1 (hG A out.2 B))) (k14 : MS → Int32 → Int32 → Int32 → Int32 → Option (Int32 × MS)) (hk14 : ∀ (M : MS) (x1 : Int32) (x2 : Int32) (x3 : Int32) (x4 : Int32), k14 M x1 x2 x3 x4 = some out → zZ X 14 [(0, .ref A.length), (1, .int x1), (2, .int x2), (3, .int x3), (4, .int x4)] [] (hG A M B)) (M : MS) (x1 : Int32) (x3 : Int32) (x4 : Int32) (x5 : Int32) (s0 : Int32) (h : fX7_words_b69 k14 M x1 x3 x4 x5 s0 = some out) : zZ X 69 [(0, .ref A.length), (1, .int x1), (3, .int x3), (4, .int x4), (5, .int x5)] [.int s0] (hG A M B) := by
  rw [fX7_words_b69] at h
  refine z_istore_n (pc := 69) C dX7_words_69 rfl (by decide) (show zput _ _ _ = [(2, .int s0), (0, .ref A.length), (1, .int x1), (3, .int x3), (4, .int x4), (5, .int x5)] from rfl) ?_
  refine z_iload_n (pc := 70) C 3 dX7_words_70 rfl rfl ?_
  refine z_iload (pc := 71) C 5 dX7_words_71 rfl ?_
  refine z_mmax (pc := 73) C dX7_words_73 ml_X7_307 w_max1 w_math w_max2 (Nat.le_of_ble_eq_true rfl) (by decide) ?_
  obtain ⟨y1, ey1, h⟩ := zlet_eq h
  refine z_topi ey1 ?_
  refine z_istore_n (pc := 76) C dX7_words_76 rfl (by decide) (show zput _ _ _ = [(3, .int y1), (2, .int s0), (0, .ref A.length), (1, .int x1), (4, .int x4), (5, .int x5)] from rfl) ?_
  exact z_subL [2, 3, 1, 0, 4] (wfX7_words_b77 C E k14 hk14 M x1 s0 y1 x4 h) rfl
def fX7_words_b14 : Nat → MS → Int32 → Int32 → Int32 → Int32 → Option (Int32 × MS)
  | 0, _, _, _, _, _ => none
  | n + 1, M, x1, x2, x3, x4 =>
    if (M.1 11) ≤ x4 then (fX7_words_b83 M x1 x2 x3) else
    ob1 (fX7_isOfWord M x4) fun v2 =>
    if v2 = 0 then (fX7_words_b77 (fX7_words_b14 n) M x1 x2 x3 x4) else
    ob1 (fX7_isOfWord M (x4 - (1 : Int32))) fun v4 =>
    if v4 = 0 then (zlet (x1 + (1 : Int32)) fun y6 =>
    ob1 (fX7_endOfWord M x4) fun v7 =>
    zlet ((v7 - x4)) fun y8 =>
    if y8 ≤ x3 then (fX7_words_b69 (fX7_words_b14 n) M y6 x3 x4 y8 x2) else
    fX7_words_b69 (fX7_words_b14 n) M y6 x3 x4 y8 x4) else
    fX7_words_b77 (fX7_words_b14 n) M x1 x2 x3 x4
set_option maxRecDepth 100000 in
set_option maxHeartbeats 4000000 in
theorem wfX7_words_b14 {X : zX} {A B : zH} {out : Int32 × MS} (C : zOK X cX7_words yX7_words.cls 6 (some .int) 4 90) (E : zPost X (poI out.1 (hG A out.2 B))) : ∀ (n : Nat) (M : MS) (x1 : Int32) (x2 : Int32) (x3 : Int32) (x4 : Int32) (h : fX7_words_b14 n M x1 x2 x3 x4 = some out), zZ X 14 [(0, .ref A.length), (1, .int x1), (2, .int x2), (3, .int x3), (4, .int x4)] [] (hG A M B) := by
  intro n
  induction n with
  | zero => intro M x1 x2 x3 x4 h; cases h
  | succ n ih =>
    intro M x1 x2 x3 x4 h
    rw [fX7_words_b14] at h
    refine z_iload (pc := 14) C 4 dX7_words_14 rfl ?_
    refine z_aload_n (pc := 16) C 0 dX7_words_16 rfl rfl ?_
    refine z_get (pc := 17) C dX7_words_17 fl_X7_123 (hM_o A M B) rfl ?_
    refine z_ic_ge (pc := 20) C dX7_words_20 (tgt := 83) (by decide) (fun c1 => ?_) (fun c1 => ?_)
    · rw [if_pos c1] at h
      exact z_subL [0, 1, 2, 3] (wfX7_words_b83 C E M x1 x2 x3 h) rfl
    · rw [if_neg c1] at h
      refine z_aload_n (pc := 23) C 0 dX7_words_23 rfl rfl ?_
      refine z_iload (pc := 24) C 4 dX7_words_24 rfl ?_
      obtain ⟨v2, ev2, h⟩ := ob1_eq h
      refine z_callVi (h := A.length) (As := [.int x4]) (rest := []) (pc := 26) C dX7_words_26 ml_X7_356 (kX7_isOfWord _ _ _ _ A M B x4 v2 ev2) (hM_o A M B) rfl rfl rfl (Nat.le_of_ble_eq_true rfl) (by decide) ?_
      refine z_if_eq (pc := 29) C dX7_words_29 (tgt := 77) (by decide) (fun c3 => ?_) (fun c3 => ?_)
      · rw [if_pos c3] at h
        exact z_subL [0, 1, 2, 3, 4] (wfX7_words_b77 C E (fX7_words_b14 n) ih M x1 x2 x3 x4 h) rfl
      · rw [if_neg c3] at h
        refine z_aload_n (pc := 32) C 0 dX7_words_32 rfl rfl ?_
        refine z_iload (pc := 33) C 4 dX7_words_33 rfl ?_
        refine z_iconst (pc := 35) C dX7_words_35 (v := (1 : Int32)) (by decide) ?_
        refine z_isub (pc := 36) C dX7_words_36 ?_
        obtain ⟨v4, ev4, h⟩ := ob1_eq h
        refine z_callVi (h := A.length) (As := [.int (x4 - (1 : Int32))]) (rest := []) (pc := 37) C dX7_words_37 ml_X7_356 (kX7_isOfWord _ _ _ _ A M B (x4 - (1 : Int32)) v4 ev4) (hM_o A M B) rfl rfl rfl (Nat.le_of_ble_eq_true rfl) (by decide) ?_
        refine z_if_ne (pc := 40) C dX7_words_40 (tgt := 77) (by decide) (fun c5 => ?_) (fun c5 => ?_)
        · rw [if_neg c5] at h
          exact z_subL [0, 1, 2, 3, 4] (wfX7_words_b77 C E (fX7_words_b14 n) ih M x1 x2 x3 x4 h) rfl
        · rw [if_pos c5] at h
          obtain ⟨y6, ey6, h⟩ := zlet_eq h
          refine z_iinc (pc := 43) (v := y6) C 1 dX7_words_43 rfl (by rw [ey6]; rfl) (by decide) (show zput _ _ _ = [(1, .int y6), (0, .ref A.length), (2, .int x2), (3, .int x3), (4, .int x4)] from rfl) ?_
          refine z_aload_n (pc := 46) C 1 dX7_words_46 rfl rfl ?_
          refine z_iload (pc := 47) C 4 dX7_words_47 rfl ?_
          obtain ⟨v7, ev7, h⟩ := ob1_eq h
          refine z_callVi (h := A.length) (As := [.int x4]) (rest := []) (pc := 49) C dX7_words_49 ml_X7_359 (kX7_endOfWord _ _ _ _ A M B x4 v7 ev7) (hM_o A M B) rfl rfl rfl (Nat.le_of_ble_eq_true rfl) (by decide) ?_
          refine z_iload (pc := 52) C 4 dX7_words_52 rfl ?_
          refine z_isub (pc := 54) C dX7_words_54 ?_
          obtain ⟨y8, ey8, h⟩ := zlet_eq h
          refine z_topi ey8 ?_
          refine z_istore (pc := 55) C dX7_words_55 (by decide) (show zput _ _ _ = [(5, .int y8), (1, .int y6), (0, .ref A.length), (2, .int x2), (3, .int x3), (4, .int x4)] from rfl) ?_
          refine z_iload (pc := 57) C 0 dX7_words_57 rfl ?_
          refine z_iload_n (pc := 59) C 4 dX7_words_59 rfl rfl ?_
          refine z_ic_le (pc := 60) C dX7_words_60 (tgt := 68) (by decide) (fun c9 => ?_) (fun c9 => ?_)
          · rw [if_pos c9] at h
            refine z_iload_n (pc := 68) C 3 dX7_words_68 rfl rfl ?_
            exact z_subL [2, 1, 4, 5, 0] (wfX7_words_b69 C E (fX7_words_b14 n) ih M y6 x3 x4 y8 x2 h) rfl
          · rw [if_neg c9] at h
            refine z_iload (pc := 63) C 5 dX7_words_63 rfl ?_
            refine z_goto (pc := 65) C dX7_words_65 (tgt := 69) (by decide) ?_
            exact z_subL [2, 1, 4, 5, 0] (wfX7_words_b69 C E (fX7_words_b14 n) ih M y6 x3 x4 y8 x4 h) rfl
def fX7_words (M : MS) : Option (Int32 × MS) :=
    zlet (mI M 0 (0 : Int32)) fun M1 =>
    fX7_words_b14 FU M1 (0 : Int32) (-1 : Int32) (0 : Int32) (0 : Int32)
set_option maxRecDepth 100000 in
set_option maxHeartbeats 4000000 in
theorem wfX7_words {X : zX} {A B : zH} {out : Int32 × MS} (C : zOK X cX7_words yX7_words.cls 6 (some .int) 4 90) (E : zPost X (poI out.1 (hG A out.2 B))) (M : MS) (h : fX7_words M = some out) : zZ X 0 [(0, .ref A.length)] [] (hG A M B) := by
  rw [fX7_words] at h
  refine z_aload_n (pc := 0) C 0 dX7_words_0 rfl rfl ?_
  refine z_iconst (pc := 1) C dX7_words_1 (v := (0 : Int32)) (by decide) ?_
  obtain ⟨M1, eM1, h⟩ := zlet_eq h
  refine z_put (pc := 2) C dX7_words_2 fl_X7_1w (hM_o A M B) (fun _ => rfl) (fun _ => rfl) (Nat.le_of_ble_eq_true rfl) (hMi_0 A B eM1) ?_
  refine z_iconst (pc := 5) C dX7_words_5 (v := (0 : Int32)) (by decide) ?_
  refine z_istore_n (pc := 6) C dX7_words_6 rfl (by decide) (show zput _ _ _ = [(1, .int (0 : Int32)), (0, .ref A.length)] from rfl) ?_
  refine z_iconst (pc := 7) C dX7_words_7 (v := (-1 : Int32)) (by decide) ?_
  refine z_istore_n (pc := 8) C dX7_words_8 rfl (by decide) (show zput _ _ _ = [(2, .int (-1 : Int32)), (1, .int (0 : Int32)), (0, .ref A.length)] from rfl) ?_
  refine z_iconst (pc := 9) C dX7_words_9 (v := (0 : Int32)) (by decide) ?_
  refine z_istore_n (pc := 10) C dX7_words_10 rfl (by decide) (show zput _ _ _ = [(3, .int (0 : Int32)), (2, .int (-1 : Int32)), (1, .int (0 : Int32)), (0, .ref A.length)] from rfl) ?_
  refine z_iconst (pc := 11) C dX7_words_11 (v := (0 : Int32)) (by decide) ?_
  refine z_istore (pc := 12) C dX7_words_12 (by decide) (show zput _ _ _ = [(4, .int (0 : Int32)), (3, .int (0 : Int32)), (2, .int (-1 : Int32)), (1, .int (0 : Int32)), (0, .ref A.length)] from rfl) ?_
  exact z_subL [4, 3, 2, 1, 0] (wfX7_words_b14 C E FU M1 (0 : Int32) (-1 : Int32) (0 : Int32) (0 : Int32) h) rfl
theorem kX7_words (l : Launch) (D : va_G) (cA : Nat → ClassId) (b : Nat) (A : zH) (M : MS) (B : zH)  (out : Int32 × MS) (h : fX7_words M = some out) : zM l D cA b yX7_words cX7_words 6 (some .int) 4 90 [.ref A.length] (hG A M B) (poI out.1 (hG A out.2 B)) := z_entry rfl (Nat.le_of_ble_eq_true rfl) (fun X C E _ _ _ => wfX7_words C E M h)
def fX7_rowEnd_b42 (M : MS) (x1 : Int32) (x3 : Int32) : Option Int32 :=
    some (x1 + x3)
set_option maxRecDepth 100000 in
set_option maxHeartbeats 4000000 in
theorem wfX7_rowEnd_b42 {X : zX} {A B : zH} {M : MS} {out : Int32} (C : zOK X cX7_rowEnd yX7_rowEnd.cls 5 (some .int) 2 43) (E : zPost X (poI out (hG A M B))) (x1 : Int32) (x3 : Int32) (h : fX7_rowEnd_b42 M x1 x3 = some out) : zZ X 42 [(1, .int x1), (3, .int x3)] [] (hG A M B) := by
  rw [fX7_rowEnd_b42] at h
  refine z_iload_n (pc := 42) C 0 dX7_rowEnd_42 rfl rfl ?_
  refine z_iload_n (pc := 43) C 1 dX7_rowEnd_43 rfl rfl ?_
  refine z_iadd (pc := 44) C dX7_rowEnd_44 ?_
  obtain rfl := Option.some.inj h
  exact z_iret (pc := 45) C E dX7_rowEnd_45 ⟨rfl, rfl⟩
def fX7_rowEnd_b14 (M : MS) : Nat → Int32 → Int32 → Int32 → Option Int32
  | 0, _, _, _ => none
  | n + 1, x1, x3, x4 =>
    if x4 ≤ x1 then (fX7_rowEnd_b42 M x1 x3) else
    ob1 (fX7_signAt M (x4 - (1 : Int32))) fun v2 =>
    if v2 = (32 : Int32) then (some x4) else
    zlet (x4 + (-1 : Int32)) fun y4 =>
    (fX7_rowEnd_b14 M n) x1 x3 y4
set_option maxRecDepth 100000 in
set_option maxHeartbeats 4000000 in
theorem wfX7_rowEnd_b14 {X : zX} {A B : zH} {M : MS} {out : Int32} (C : zOK X cX7_rowEnd yX7_rowEnd.cls 5 (some .int) 2 43) (E : zPost X (poI out (hG A M B))) : ∀ (n : Nat) (x1 : Int32) (x3 : Int32) (x4 : Int32) (h : fX7_rowEnd_b14 M n x1 x3 x4 = some out), zZ X 14 [(0, .ref A.length), (1, .int x1), (3, .int x3), (4, .int x4)] [] (hG A M B) := by
  intro n
  induction n with
  | zero => intro x1 x3 x4 h; cases h
  | succ n ih =>
    intro x1 x3 x4 h
    rw [fX7_rowEnd_b14] at h
    refine z_iload (pc := 14) C 3 dX7_rowEnd_14 rfl ?_
    refine z_iload_n (pc := 16) C 1 dX7_rowEnd_16 rfl rfl ?_
    refine z_ic_le (pc := 17) C dX7_rowEnd_17 (tgt := 42) (by decide) (fun c1 => ?_) (fun c1 => ?_)
    · rw [if_pos c1] at h
      exact z_subL [1, 2] (wfX7_rowEnd_b42 C E x1 x3 h) rfl
    · rw [if_neg c1] at h
      refine z_aload_n (pc := 20) C 0 dX7_rowEnd_20 rfl rfl ?_
      refine z_iload (pc := 21) C 3 dX7_rowEnd_21 rfl ?_
      refine z_iconst (pc := 23) C dX7_rowEnd_23 (v := (1 : Int32)) (by decide) ?_
      refine z_isub (pc := 24) C dX7_rowEnd_24 ?_
      obtain ⟨v2, ev2, h⟩ := ob1_eq h
      refine z_callVi (h := A.length) (As := [.int (x4 - (1 : Int32))]) (rest := []) (pc := 25) C dX7_rowEnd_25 ml_X7_157 (kX7_signAt _ _ _ _ A M B (x4 - (1 : Int32)) v2 ev2) (hM_o A M B) rfl rfl rfl (Nat.le_of_ble_eq_true rfl) (by decide) ?_
      refine z_bipush (pc := 28) C dX7_rowEnd_28 (v := (32 : Int32)) (by decide) ?_
      refine z_ic_ne (pc := 30) C dX7_rowEnd_30 (tgt := 36) (by decide) (fun c3 => ?_) (fun c3 => ?_)
      · rw [if_neg c3] at h
        obtain ⟨y4, ey4, h⟩ := zlet_eq h
        refine z_iinc (pc := 36) (v := y4) C 3 dX7_rowEnd_36 rfl (by rw [ey4]; rfl) (by decide) (show zput _ _ _ = [(4, .int y4), (0, .ref A.length), (1, .int x1), (3, .int x3)] from rfl) ?_
        refine z_goto (pc := 39) C dX7_rowEnd_39 (tgt := 14) (by decide) ?_
        exact z_subL [1, 2, 3, 0] (ih x1 x3 y4 h) rfl
      · rw [if_pos c3] at h
        refine z_iload (pc := 33) C 3 dX7_rowEnd_33 rfl ?_
        obtain rfl := Option.some.inj h
        exact z_iret (pc := 35) C E dX7_rowEnd_35 ⟨rfl, rfl⟩
def fX7_rowEnd (M : MS) (x1 : Int32) (x2 : Int32) (x3 : Int32) : Option Int32 :=
    if x3 < (x2 - x1) then (zlet ((x1 + x3)) fun y2 =>
    fX7_rowEnd_b14 M FU x1 x3 y2) else
    some x2
set_option maxRecDepth 100000 in
set_option maxHeartbeats 4000000 in
theorem wfX7_rowEnd {X : zX} {A B : zH} {M : MS} {out : Int32} (C : zOK X cX7_rowEnd yX7_rowEnd.cls 5 (some .int) 2 43) (E : zPost X (poI out (hG A M B))) (x1 : Int32) (x2 : Int32) (x3 : Int32) (h : fX7_rowEnd M x1 x2 x3 = some out) : zZ X 0 [(0, .ref A.length), (1, .int x1), (2, .int x2), (3, .int x3)] [] (hG A M B) := by
  rw [fX7_rowEnd] at h
  refine z_iload_n (pc := 0) C 2 dX7_rowEnd_0 rfl rfl ?_
  refine z_iload_n (pc := 1) C 1 dX7_rowEnd_1 rfl rfl ?_
  refine z_isub (pc := 2) C dX7_rowEnd_2 ?_
  refine z_iload_n (pc := 3) C 3 dX7_rowEnd_3 rfl rfl ?_
  refine z_ic_gt (pc := 4) C dX7_rowEnd_4 (tgt := 9) (by decide) (fun c1 => ?_) (fun c1 => ?_)
  · rw [if_pos c1] at h
    refine z_iload_n (pc := 9) C 1 dX7_rowEnd_9 rfl rfl ?_
    refine z_iload_n (pc := 10) C 3 dX7_rowEnd_10 rfl rfl ?_
    refine z_iadd (pc := 11) C dX7_rowEnd_11 ?_
    obtain ⟨y2, ey2, h⟩ := zlet_eq h
    refine z_topi ey2 ?_
    refine z_istore (pc := 12) C dX7_rowEnd_12 (by decide) (show zput _ _ _ = [(4, .int y2), (0, .ref A.length), (1, .int x1), (2, .int x2), (3, .int x3)] from rfl) ?_
    exact z_subL [1, 2, 4, 0] (wfX7_rowEnd_b14 C E FU x1 x3 y2 h) rfl
  · rw [if_neg c1] at h
    refine z_iload_n (pc := 7) C 2 dX7_rowEnd_7 rfl rfl ?_
    obtain rfl := Option.some.inj h
    exact z_iret (pc := 8) C E dX7_rowEnd_8 ⟨rfl, rfl⟩
theorem kX7_rowEnd (l : Launch) (D : va_G) (cA : Nat → ClassId) (b : Nat) (A : zH) (M : MS) (B : zH) (x1 : Int32) (x2 : Int32) (x3 : Int32) (out : Int32) (h : fX7_rowEnd M x1 x2 x3 = some out) : zM l D cA b yX7_rowEnd cX7_rowEnd 5 (some .int) 2 43 [.ref A.length, .int x1, .int x2, .int x3] (hG A M B) (poI out (hG A M B)) := z_entry rfl (Nat.le_of_ble_eq_true rfl) (fun X C E _ _ _ => wfX7_rowEnd C E x1 x2 x3 h)
def fX7_rows_b102 (M : MS) (x2 : Int32) (x3 : Int32) : Option (Int32 × MS) :=
    zlet (mI M 1 (0 : Int32)) fun M1 =>
    ob1 (fX7_enters M1 x3.toInt64) fun M2 =>
    some (x2, M2)
set_option maxRecDepth 100000 in
set_option maxHeartbeats 4000000 in
theorem wfX7_rows_b102 {X : zX} {A B : zH} {out : Int32 × MS} (C : zOK X cX7_rows yX7_rows.cls 8 (some .int) 3 67) (E : zPost X (poI out.1 (hG A out.2 B))) (M : MS) (x2 : Int32) (x3 : Int32) (h : fX7_rows_b102 M x2 x3 = some out) : zZ X 102 [(0, .ref A.length), (2, .int x2), (3, .int x3)] [] (hG A M B) := by
  rw [fX7_rows_b102] at h
  refine z_aload_n (pc := 102) C 0 dX7_rows_102 rfl rfl ?_
  refine z_iconst (pc := 103) C dX7_rows_103 (v := (0 : Int32)) (by decide) ?_
  obtain ⟨M1, eM1, h⟩ := zlet_eq h
  refine z_put (pc := 104) C dX7_rows_104 fl_X7_11w (hM_o A M B) (fun _ => rfl) (fun _ => rfl) (Nat.le_of_ble_eq_true rfl) (hMi_1 A B eM1) ?_
  refine z_aload_n (pc := 107) C 0 dX7_rows_107 rfl rfl ?_
  refine z_iload_n (pc := 108) C 2 dX7_rows_108 rfl rfl ?_
  refine z_i2l (pc := 109) C dX7_rows_109 ?_
  obtain ⟨M2, eM2, h⟩ := ob1_eq h
  refine z_callVv (h := A.length) (As := [.long x3.toInt64]) (rest := []) (pc := 110) C dX7_rows_110 ml_X7_295 (kX7_enters _ _ _ _ A M1 B x3.toInt64 M2 eM2) (hM_o A M1 B) rfl rfl rfl (Nat.le_of_ble_eq_true rfl) (by decide) ?_
  refine z_iload_n (pc := 113) C 1 dX7_rows_113 rfl rfl ?_
  obtain rfl := Option.some.inj h
  exact z_iret (pc := 114) C E dX7_rows_114 ⟨rfl, rfl⟩
def fX7_rows_b96 (k26 : MS → Int32 → Int32 → Int32 → Int32 → Option (Int32 × MS)) (M : MS) (x1 : Int32) (x2 : Int32) (x3 : Int32) (x4 : Int32) : Option (Int32 × MS) :=
    zlet (x4 + (1 : Int32)) fun y1 =>
    k26 M x1 x2 x3 y1
set_option maxRecDepth 100000 in
set_option maxHeartbeats 4000000 in
theorem wfX7_rows_b96 {X : zX} {A B : zH} {out : Int32 × MS} (C : zOK X cX7_rows yX7_rows.cls 8 (some .int) 3 67) (E : zPost X (poI out.1 (hG A out.2 B))) (k26 : MS → Int32 → Int32 → Int32 → Int32 → Option (Int32 × MS)) (hk26 : ∀ (M : MS) (x1 : Int32) (x2 : Int32) (x3 : Int32) (x4 : Int32), k26 M x1 x2 x3 x4 = some out → zZ X 26 [(0, .ref A.length), (1, .int x1), (2, .int x2), (3, .int x3), (4, .int x4)] [] (hG A M B)) (M : MS) (x1 : Int32) (x2 : Int32) (x3 : Int32) (x4 : Int32) (h : fX7_rows_b96 k26 M x1 x2 x3 x4 = some out) : zZ X 96 [(0, .ref A.length), (1, .int x1), (2, .int x2), (3, .int x3), (4, .int x4)] [] (hG A M B) := by
  rw [fX7_rows_b96] at h
  obtain ⟨y1, ey1, h⟩ := zlet_eq h
  refine z_iinc (pc := 96) (v := y1) C 4 dX7_rows_96 rfl (by rw [ey1]; rfl) (by decide) (show zput _ _ _ = [(4, .int y1), (0, .ref A.length), (1, .int x1), (2, .int x2), (3, .int x3)] from rfl) ?_
  refine z_goto (pc := 99) C dX7_rows_99 (tgt := 26) (by decide) ?_
  exact z_subL [1, 2, 3, 4, 0] (hk26 M x1 x2 x3 y1 h) rfl
def fX7_rows_b91 (k26 : MS → Int32 → Int32 → Int32 → Int32 → Option (Int32 × MS)) (k46 : MS → Int32 → Int32 → Int32 → Int32 → Int32 → Int32 → Option (Int32 × MS)) (M : MS) (x1 : Int32) (x2 : Int32) (x3 : Int32) (x4 : Int32) (x5 : Int32) (s0 : Int32) : Option (Int32 × MS) :=
    k46 M x1 x2 x3 x4 x5 s0
set_option maxRecDepth 100000 in
set_option maxHeartbeats 4000000 in
theorem wfX7_rows_b91 {X : zX} {A B : zH} {out : Int32 × MS} (C : zOK X cX7_rows yX7_rows.cls 8 (some .int) 3 67) (E : zPost X (poI out.1 (hG A out.2 B))) (k26 : MS → Int32 → Int32 → Int32 → Int32 → Option (Int32 × MS)) (hk26 : ∀ (M : MS) (x1 : Int32) (x2 : Int32) (x3 : Int32) (x4 : Int32), k26 M x1 x2 x3 x4 = some out → zZ X 26 [(0, .ref A.length), (1, .int x1), (2, .int x2), (3, .int x3), (4, .int x4)] [] (hG A M B)) (k46 : MS → Int32 → Int32 → Int32 → Int32 → Int32 → Int32 → Option (Int32 × MS)) (hk46 : ∀ (M : MS) (x1 : Int32) (x2 : Int32) (x3 : Int32) (x4 : Int32) (x5 : Int32) (x6 : Int32), k46 M x1 x2 x3 x4 x5 x6 = some out → zZ X 46 [(0, .ref A.length), (1, .int x1), (2, .int x2), (3, .int x3), (4, .int x4), (5, .int x5), (6, .int x6)] [] (hG A M B)) (M : MS) (x1 : Int32) (x2 : Int32) (x3 : Int32) (x4 : Int32) (x5 : Int32) (s0 : Int32) (h : fX7_rows_b91 k26 k46 M x1 x2 x3 x4 x5 s0 = some out) : zZ X 91 [(0, .ref A.length), (1, .int x1), (2, .int x2), (3, .int x3), (4, .int x4), (5, .int x5)] [.int s0] (hG A M B) := by
  rw [fX7_rows_b91] at h
  refine z_istore (pc := 91) C dX7_rows_91 (by decide) (show zput _ _ _ = [(6, .int s0), (0, .ref A.length), (1, .int x1), (2, .int x2), (3, .int x3), (4, .int x4), (5, .int x5)] from rfl) ?_
  refine z_goto (pc := 93) C dX7_rows_93 (tgt := 46) (by decide) ?_
  exact z_subL [1, 2, 3, 4, 5, 6, 0] (hk46 M x1 x2 x3 x4 x5 s0 h) rfl
def fX7_rows_b46 (k26 : MS → Int32 → Int32 → Int32 → Int32 → Option (Int32 × MS)) : Nat → MS → Int32 → Int32 → Int32 → Int32 → Int32 → Int32 → Option (Int32 × MS)
  | 0, _, _, _, _, _, _, _ => none
  | n + 1, M, x1, x2, x3, x4, x5, x6 =>
    if x6 = 0 then (fX7_rows_b96 k26 M x1 x2 x3 x4) else
    ob1 (fX7_rowEnd M x4 x5 x1) fun v2 =>
    zlet (x2 + (1 : Int32)) fun y3 =>
    zlet ((if x3 < (v2 - x4) then (v2 - x4) else x3)) fun y4 =>
    if x5 ≤ v2 then (fX7_rows_b91 k26 (fX7_rows_b46 k26 n) M x1 y3 y4 v2 x5 (0 : Int32)) else
    fX7_rows_b91 k26 (fX7_rows_b46 k26 n) M x1 y3 y4 v2 x5 (1 : Int32)
set_option maxRecDepth 100000 in
set_option maxHeartbeats 4000000 in
theorem wfX7_rows_b46 {X : zX} {A B : zH} {out : Int32 × MS} (C : zOK X cX7_rows yX7_rows.cls 8 (some .int) 3 67) (E : zPost X (poI out.1 (hG A out.2 B))) (k26 : MS → Int32 → Int32 → Int32 → Int32 → Option (Int32 × MS)) (hk26 : ∀ (M : MS) (x1 : Int32) (x2 : Int32) (x3 : Int32) (x4 : Int32), k26 M x1 x2 x3 x4 = some out → zZ X 26 [(0, .ref A.length), (1, .int x1), (2, .int x2), (3, .int x3), (4, .int x4)] [] (hG A M B)) : ∀ (n : Nat) (M : MS) (x1 : Int32) (x2 : Int32) (x3 : Int32) (x4 : Int32) (x5 : Int32) (x6 : Int32) (h : fX7_rows_b46 k26 n M x1 x2 x3 x4 x5 x6 = some out), zZ X 46 [(0, .ref A.length), (1, .int x1), (2, .int x2), (3, .int x3), (4, .int x4), (5, .int x5), (6, .int x6)] [] (hG A M B) := by
  intro n
  induction n with
  | zero => intro M x1 x2 x3 x4 x5 x6 h; cases h
  | succ n ih =>
    intro M x1 x2 x3 x4 x5 x6 h
    rw [fX7_rows_b46] at h
    refine z_iload (pc := 46) C 6 dX7_rows_46 rfl ?_
    refine z_if_eq (pc := 48) C dX7_rows_48 (tgt := 96) (by decide) (fun c1 => ?_) (fun c1 => ?_)
    · rw [if_pos c1] at h
      exact z_subL [0, 1, 2, 3, 4] (wfX7_rows_b96 C E k26 hk26 M x1 x2 x3 x4 h) rfl
    · rw [if_neg c1] at h
      refine z_aload_n (pc := 51) C 0 dX7_rows_51 rfl rfl ?_
      refine z_iload (pc := 52) C 4 dX7_rows_52 rfl ?_
      refine z_iload (pc := 54) C 5 dX7_rows_54 rfl ?_
      refine z_iload_n (pc := 56) C 1 dX7_rows_56 rfl rfl ?_
      obtain ⟨v2, ev2, h⟩ := ob1_eq h
      refine z_callVi (h := A.length) (As := [.int x4, .int x5, .int x1]) (rest := []) (pc := 57) C dX7_rows_57 ml_X7_364 (kX7_rowEnd _ _ _ _ A M B x4 x5 x1 v2 ev2) (hM_o A M B) rfl rfl rfl (Nat.le_of_ble_eq_true rfl) (by decide) ?_
      refine z_istore (pc := 60) C dX7_rows_60 (by decide) (show zput _ _ _ = [(7, .int v2), (0, .ref A.length), (1, .int x1), (2, .int x2), (3, .int x3), (4, .int x4), (5, .int x5), (6, .int x6)] from rfl) ?_
      obtain ⟨y3, ey3, h⟩ := zlet_eq h
      refine z_iinc (pc := 62) (v := y3) C 3 dX7_rows_62 rfl (by rw [ey3]; rfl) (by decide) (show zput _ _ _ = [(2, .int y3), (7, .int v2), (0, .ref A.length), (1, .int x1), (3, .int x3), (4, .int x4), (5, .int x5), (6, .int x6)] from rfl) ?_
      refine z_iload_n (pc := 65) C 4 dX7_rows_65 rfl rfl ?_
      refine z_iload (pc := 66) C 1 dX7_rows_66 rfl ?_
      refine z_iload (pc := 68) C 5 dX7_rows_68 rfl ?_
      refine z_isub (pc := 70) C dX7_rows_70 ?_
      refine z_mmax (pc := 71) C dX7_rows_71 ml_X7_307 w_max1 w_math w_max2 (Nat.le_of_ble_eq_true rfl) (by decide) ?_
      obtain ⟨y4, ey4, h⟩ := zlet_eq h
      refine z_topi ey4 ?_
      refine z_istore_n (pc := 74) C dX7_rows_74 rfl (by decide) (show zput _ _ _ = [(3, .int y4), (2, .int y3), (7, .int v2), (0, .ref A.length), (1, .int x1), (4, .int x4), (5, .int x5), (6, .int x6)] from rfl) ?_
      refine z_iload (pc := 75) C 2 dX7_rows_75 rfl ?_
      refine z_istore (pc := 77) C dX7_rows_77 (by decide) (show zput _ _ _ = [(4, .int v2), (3, .int y4), (2, .int y3), (7, .int v2), (0, .ref A.length), (1, .int x1), (5, .int x5), (6, .int x6)] from rfl) ?_
      refine z_iload (pc := 79) C 0 dX7_rows_79 rfl ?_
      refine z_iload (pc := 81) C 6 dX7_rows_81 rfl ?_
      refine z_ic_ge (pc := 83) C dX7_rows_83 (tgt := 90) (by decide) (fun c5 => ?_) (fun c5 => ?_)
      · rw [if_pos c5] at h
        refine z_iconst (pc := 90) C dX7_rows_90 (v := (0 : Int32)) (by decide) ?_
        exact z_subL [4, 5, 2, 1, 0, 6] (wfX7_rows_b91 C E k26 hk26 (fX7_rows_b46 k26 n) ih M x1 y3 y4 v2 x5 (0 : Int32) h) rfl
      · rw [if_neg c5] at h
        refine z_iconst (pc := 86) C dX7_rows_86 (v := (1 : Int32)) (by decide) ?_
        refine z_goto (pc := 87) C dX7_rows_87 (tgt := 91) (by decide) ?_
        exact z_subL [4, 5, 2, 1, 0, 6] (wfX7_rows_b91 C E k26 hk26 (fX7_rows_b46 k26 n) ih M x1 y3 y4 v2 x5 (1 : Int32) h) rfl
def fX7_rows_b26 : Nat → MS → Int32 → Int32 → Int32 → Int32 → Option (Int32 × MS)
  | 0, _, _, _, _, _ => none
  | n + 1, M, x1, x2, x3, x4 =>
    if (M.1 11) < x4 then (fX7_rows_b102 M x2 x3) else
    ob1 (fX7_endFrom M x4) fun v2 =>
    fX7_rows_b46 (fX7_rows_b26 n) FU M x1 x2 x3 x4 v2 (1 : Int32)
set_option maxRecDepth 100000 in
set_option maxHeartbeats 4000000 in
theorem wfX7_rows_b26 {X : zX} {A B : zH} {out : Int32 × MS} (C : zOK X cX7_rows yX7_rows.cls 8 (some .int) 3 67) (E : zPost X (poI out.1 (hG A out.2 B))) : ∀ (n : Nat) (M : MS) (x1 : Int32) (x2 : Int32) (x3 : Int32) (x4 : Int32) (h : fX7_rows_b26 n M x1 x2 x3 x4 = some out), zZ X 26 [(0, .ref A.length), (1, .int x1), (2, .int x2), (3, .int x3), (4, .int x4)] [] (hG A M B) := by
  intro n
  induction n with
  | zero => intro M x1 x2 x3 x4 h; cases h
  | succ n ih =>
    intro M x1 x2 x3 x4 h
    rw [fX7_rows_b26] at h
    refine z_iload (pc := 26) C 4 dX7_rows_26 rfl ?_
    refine z_aload_n (pc := 28) C 0 dX7_rows_28 rfl rfl ?_
    refine z_get (pc := 29) C dX7_rows_29 fl_X7_123 (hM_o A M B) rfl ?_
    refine z_ic_gt (pc := 32) C dX7_rows_32 (tgt := 102) (by decide) (fun c1 => ?_) (fun c1 => ?_)
    · rw [if_pos c1] at h
      exact z_subL [0, 2, 3] (wfX7_rows_b102 C E M x2 x3 h) rfl
    · rw [if_neg c1] at h
      refine z_aload_n (pc := 35) C 0 dX7_rows_35 rfl rfl ?_
      refine z_iload (pc := 36) C 4 dX7_rows_36 rfl ?_
      obtain ⟨v2, ev2, h⟩ := ob1_eq h
      refine z_callVi (h := A.length) (As := [.int x4]) (rest := []) (pc := 38) C dX7_rows_38 ml_X7_251 (kX7_endFrom _ _ _ _ A M B x4 v2 ev2) (hM_o A M B) rfl rfl rfl (Nat.le_of_ble_eq_true rfl) (by decide) ?_
      refine z_istore (pc := 41) C dX7_rows_41 (by decide) (show zput _ _ _ = [(5, .int v2), (0, .ref A.length), (1, .int x1), (2, .int x2), (3, .int x3), (4, .int x4)] from rfl) ?_
      refine z_iconst (pc := 43) C dX7_rows_43 (v := (1 : Int32)) (by decide) ?_
      refine z_istore (pc := 44) C dX7_rows_44 (by decide) (show zput _ _ _ = [(6, .int (1 : Int32)), (5, .int v2), (0, .ref A.length), (1, .int x1), (2, .int x2), (3, .int x3), (4, .int x4)] from rfl) ?_
      exact z_subL [2, 3, 4, 5, 6, 1, 0] (wfX7_rows_b46 C E (fX7_rows_b26 n) ih FU M x1 x2 x3 x4 v2 (1 : Int32) h) rfl
def fX7_rows (M : MS) (x1 : Int32) : Option (Int32 × MS) :=
    zlet (mI M 0 (0 : Int32)) fun M1 =>
    ob1 (fX7_in x1.toInt64 (1 : Int64) (80 : Int64)) fun v2 =>
    if v2 = 0 then (some ((-1 : Int32), M1)) else
    fX7_rows_b26 FU M1 x1 (0 : Int32) (0 : Int32) (0 : Int32)
set_option maxRecDepth 100000 in
set_option maxHeartbeats 4000000 in
theorem wfX7_rows {X : zX} {A B : zH} {out : Int32 × MS} (C : zOK X cX7_rows yX7_rows.cls 8 (some .int) 3 67) (E : zPost X (poI out.1 (hG A out.2 B))) (M : MS) (x1 : Int32) (h : fX7_rows M x1 = some out) : zZ X 0 [(0, .ref A.length), (1, .int x1)] [] (hG A M B) := by
  rw [fX7_rows] at h
  refine z_aload_n (pc := 0) C 0 dX7_rows_0 rfl rfl ?_
  refine z_iconst (pc := 1) C dX7_rows_1 (v := (0 : Int32)) (by decide) ?_
  obtain ⟨M1, eM1, h⟩ := zlet_eq h
  refine z_put (pc := 2) C dX7_rows_2 fl_X7_1w (hM_o A M B) (fun _ => rfl) (fun _ => rfl) (Nat.le_of_ble_eq_true rfl) (hMi_0 A B eM1) ?_
  refine z_iload_n (pc := 5) C 1 dX7_rows_5 rfl rfl ?_
  refine z_i2l (pc := 6) C dX7_rows_6 ?_
  refine z_lconst (pc := 7) C dX7_rows_7 (v := (1 : Int64)) (by decide) ?_
  refine z_ldc2 (pc := 8) C dX7_rows_8 cn_X7_362 ?_
  obtain ⟨v2, ev2, h⟩ := ob1_eq h
  refine z_callSi (As := [.long x1.toInt64, .long (1 : Int64), .long (80 : Int64)]) (rest := []) (pc := 11) C dX7_rows_11 ml_X7_21 (kX7_in _ _ _ _ (hG A M1 B) x1.toInt64 (1 : Int64) (80 : Int64) v2 ev2) rfl rfl (Nat.le_of_ble_eq_true rfl) (by decide) ?_
  refine z_if_ne (pc := 14) C dX7_rows_14 (tgt := 19) (by decide) (fun c3 => ?_) (fun c3 => ?_)
  · rw [if_neg c3] at h
    refine z_iconst (pc := 19) C dX7_rows_19 (v := (0 : Int32)) (by decide) ?_
    refine z_istore_n (pc := 20) C dX7_rows_20 rfl (by decide) (show zput _ _ _ = [(2, .int (0 : Int32)), (0, .ref A.length), (1, .int x1)] from rfl) ?_
    refine z_iconst (pc := 21) C dX7_rows_21 (v := (0 : Int32)) (by decide) ?_
    refine z_istore_n (pc := 22) C dX7_rows_22 rfl (by decide) (show zput _ _ _ = [(3, .int (0 : Int32)), (2, .int (0 : Int32)), (0, .ref A.length), (1, .int x1)] from rfl) ?_
    refine z_iconst (pc := 23) C dX7_rows_23 (v := (0 : Int32)) (by decide) ?_
    refine z_istore (pc := 24) C dX7_rows_24 (by decide) (show zput _ _ _ = [(4, .int (0 : Int32)), (3, .int (0 : Int32)), (2, .int (0 : Int32)), (0, .ref A.length), (1, .int x1)] from rfl) ?_
    exact z_subL [3, 4, 2, 1, 0] (wfX7_rows_b26 C E FU M1 x1 (0 : Int32) (0 : Int32) (0 : Int32) h) rfl
  · rw [if_pos c3] at h
    refine z_iconst (pc := 17) C dX7_rows_17 (v := (-1 : Int32)) (by decide) ?_
    obtain rfl := Option.some.inj h
    exact z_iret (pc := 18) C E dX7_rows_18 ⟨rfl, rfl⟩
theorem kX7_rows (l : Launch) (D : va_G) (cA : Nat → ClassId) (b : Nat) (A : zH) (M : MS) (B : zH) (x1 : Int32) (out : Int32 × MS) (h : fX7_rows M x1 = some out) : zM l D cA b yX7_rows cX7_rows 8 (some .int) 3 67 [.ref A.length, .int x1] (hG A M B) (poI out.1 (hG A out.2 B)) := z_entry rfl (Nat.le_of_ble_eq_true rfl) (fun X C E _ _ _ => wfX7_rows C E M x1 h)
def fX7_tally_b99 (M : MS) (x2 : Int32) (x3 : Int32) (x4 : Int32) : Option (Int32 × MS) :=
    zlet (mI M 1 (0 : Int32)) fun M1 =>
    if x2 ≤ 0 then (some (x2, M1)) else
    ob1 (fX7_enters M1 x3.toInt64) fun M3 =>
    ob1 (fX7_enters M3 x4.toInt64) fun M4 =>
    some (x2, M4)
set_option maxRecDepth 100000 in
set_option maxHeartbeats 4000000 in
theorem wfX7_tally_b99 {X : zX} {A B : zH} {out : Int32 × MS} (C : zOK X cX7_tally yX7_tally.cls 7 (some .int) 2 43) (E : zPost X (poI out.1 (hG A out.2 B))) (M : MS) (x2 : Int32) (x3 : Int32) (x4 : Int32) (h : fX7_tally_b99 M x2 x3 x4 = some out) : zZ X 99 [(0, .ref A.length), (2, .int x2), (3, .int x3), (4, .int x4)] [] (hG A M B) := by
  rw [fX7_tally_b99] at h
  refine z_aload_n (pc := 99) C 0 dX7_tally_99 rfl rfl ?_
  refine z_iconst (pc := 100) C dX7_tally_100 (v := (0 : Int32)) (by decide) ?_
  obtain ⟨M1, eM1, h⟩ := zlet_eq h
  refine z_put (pc := 101) C dX7_tally_101 fl_X7_11w (hM_o A M B) (fun _ => rfl) (fun _ => rfl) (Nat.le_of_ble_eq_true rfl) (hMi_1 A B eM1) ?_
  refine z_iload_n (pc := 104) C 1 dX7_tally_104 rfl rfl ?_
  refine z_if_le (pc := 105) C dX7_tally_105 (tgt := 121) (by decide) (fun c2 => ?_) (fun c2 => ?_)
  · rw [if_pos c2] at h
    refine z_iload_n (pc := 121) C 1 dX7_tally_121 rfl rfl ?_
    obtain rfl := Option.some.inj h
    exact z_iret (pc := 122) C E dX7_tally_122 ⟨rfl, rfl⟩
  · rw [if_neg c2] at h
    refine z_aload_n (pc := 108) C 0 dX7_tally_108 rfl rfl ?_
    refine z_iload_n (pc := 109) C 2 dX7_tally_109 rfl rfl ?_
    refine z_i2l (pc := 110) C dX7_tally_110 ?_
    obtain ⟨M3, eM3, h⟩ := ob1_eq h
    refine z_callVv (h := A.length) (As := [.long x3.toInt64]) (rest := []) (pc := 111) C dX7_tally_111 ml_X7_295 (kX7_enters _ _ _ _ A M1 B x3.toInt64 M3 eM3) (hM_o A M1 B) rfl rfl rfl (Nat.le_of_ble_eq_true rfl) (by decide) ?_
    refine z_aload_n (pc := 114) C 0 dX7_tally_114 rfl rfl ?_
    refine z_iload (pc := 115) C 3 dX7_tally_115 rfl ?_
    refine z_i2l (pc := 117) C dX7_tally_117 ?_
    obtain ⟨M4, eM4, h⟩ := ob1_eq h
    refine z_callVv (h := A.length) (As := [.long x4.toInt64]) (rest := []) (pc := 118) C dX7_tally_118 ml_X7_295 (kX7_enters _ _ _ _ A M3 B x4.toInt64 M4 eM4) (hM_o A M3 B) rfl rfl rfl (Nat.le_of_ble_eq_true rfl) (by decide) ?_
    refine z_iload_n (pc := 121) C 1 dX7_tally_121 rfl rfl ?_
    obtain rfl := Option.some.inj h
    exact z_iret (pc := 122) C E dX7_tally_122 ⟨rfl, rfl⟩
def fX7_tally_b83 (k29 : MS → Int32 → Int32 → Int32 → Int32 → Int32 → Option (Int32 × MS)) (M : MS) (x1 : Int32) (x2 : Int32) (x3 : Int32) (x5 : Int32) (x6 : Int32) (s0 : Int32) : Option (Int32 × MS) :=
    ob1 (fX7_flag x6) fun v1 =>
    zlet ((x2 + v1)) fun y2 =>
    zlet (x5 + (1 : Int32)) fun y3 =>
    k29 M x1 y2 x3 s0 y3
set_option maxRecDepth 100000 in
set_option maxHeartbeats 4000000 in
theorem wfX7_tally_b83 {X : zX} {A B : zH} {out : Int32 × MS} (C : zOK X cX7_tally yX7_tally.cls 7 (some .int) 2 43) (E : zPost X (poI out.1 (hG A out.2 B))) (k29 : MS → Int32 → Int32 → Int32 → Int32 → Int32 → Option (Int32 × MS)) (hk29 : ∀ (M : MS) (x1 : Int32) (x2 : Int32) (x3 : Int32) (x4 : Int32) (x5 : Int32), k29 M x1 x2 x3 x4 x5 = some out → zZ X 29 [(0, .ref A.length), (1, .int x1), (2, .int x2), (3, .int x3), (4, .int x4), (5, .int x5)] [] (hG A M B)) (M : MS) (x1 : Int32) (x2 : Int32) (x3 : Int32) (x5 : Int32) (x6 : Int32) (s0 : Int32) (h : fX7_tally_b83 k29 M x1 x2 x3 x5 x6 s0 = some out) : zZ X 83 [(0, .ref A.length), (1, .int x1), (2, .int x2), (3, .int x3), (5, .int x5), (6, .int x6)] [.int s0] (hG A M B) := by
  rw [fX7_tally_b83] at h
  refine z_istore (pc := 83) C dX7_tally_83 (by decide) (show zput _ _ _ = [(4, .int s0), (0, .ref A.length), (1, .int x1), (2, .int x2), (3, .int x3), (5, .int x5), (6, .int x6)] from rfl) ?_
  refine z_iload_n (pc := 85) C 3 dX7_tally_85 rfl rfl ?_
  refine z_iload (pc := 86) C 6 dX7_tally_86 rfl ?_
  obtain ⟨v1, ev1, h⟩ := ob1_eq h
  refine z_callSi (As := [.int x6]) (rest := [.int x2]) (pc := 88) C dX7_tally_88 ml_X7_119 (kX7_flag _ _ _ _ (hG A M B) x6 v1 ev1) rfl rfl (Nat.le_of_ble_eq_true rfl) (by decide) ?_
  refine z_iadd (pc := 91) C dX7_tally_91 ?_
  obtain ⟨y2, ey2, h⟩ := zlet_eq h
  refine z_topi ey2 ?_
  refine z_istore_n (pc := 92) C dX7_tally_92 rfl (by decide) (show zput _ _ _ = [(2, .int y2), (4, .int s0), (0, .ref A.length), (1, .int x1), (3, .int x3), (5, .int x5), (6, .int x6)] from rfl) ?_
  obtain ⟨y3, ey3, h⟩ := zlet_eq h
  refine z_iinc (pc := 93) (v := y3) C 5 dX7_tally_93 rfl (by rw [ey3]; rfl) (by decide) (show zput _ _ _ = [(5, .int y3), (2, .int y2), (4, .int s0), (0, .ref A.length), (1, .int x1), (3, .int x3), (6, .int x6)] from rfl) ?_
  refine z_goto (pc := 96) C dX7_tally_96 (tgt := 29) (by decide) ?_
  exact z_subL [3, 4, 1, 5, 2, 0] (hk29 M x1 y2 x3 s0 y3 h) rfl
def fX7_tally_b70 (k29 : MS → Int32 → Int32 → Int32 → Int32 → Int32 → Option (Int32 × MS)) (M : MS) (x1 : Int32) (x2 : Int32) (x4 : Int32) (x5 : Int32) (x6 : Int32) (s0 : Int32) : Option (Int32 × MS) :=
    if x6 = 0 then (fX7_tally_b83 k29 M x1 x2 s0 x5 x6 x4) else
    fX7_tally_b83 k29 M x1 x2 s0 x5 x6 x5
set_option maxRecDepth 100000 in
set_option maxHeartbeats 4000000 in
theorem wfX7_tally_b70 {X : zX} {A B : zH} {out : Int32 × MS} (C : zOK X cX7_tally yX7_tally.cls 7 (some .int) 2 43) (E : zPost X (poI out.1 (hG A out.2 B))) (k29 : MS → Int32 → Int32 → Int32 → Int32 → Int32 → Option (Int32 × MS)) (hk29 : ∀ (M : MS) (x1 : Int32) (x2 : Int32) (x3 : Int32) (x4 : Int32) (x5 : Int32), k29 M x1 x2 x3 x4 x5 = some out → zZ X 29 [(0, .ref A.length), (1, .int x1), (2, .int x2), (3, .int x3), (4, .int x4), (5, .int x5)] [] (hG A M B)) (M : MS) (x1 : Int32) (x2 : Int32) (x4 : Int32) (x5 : Int32) (x6 : Int32) (s0 : Int32) (h : fX7_tally_b70 k29 M x1 x2 x4 x5 x6 s0 = some out) : zZ X 70 [(0, .ref A.length), (1, .int x1), (2, .int x2), (4, .int x4), (5, .int x5), (6, .int x6)] [.int s0] (hG A M B) := by
  rw [fX7_tally_b70] at h
  refine z_istore_n (pc := 70) C dX7_tally_70 rfl (by decide) (show zput _ _ _ = [(3, .int s0), (0, .ref A.length), (1, .int x1), (2, .int x2), (4, .int x4), (5, .int x5), (6, .int x6)] from rfl) ?_
  refine z_iload (pc := 71) C 6 dX7_tally_71 rfl ?_
  refine z_if_eq (pc := 73) C dX7_tally_73 (tgt := 81) (by decide) (fun c1 => ?_) (fun c1 => ?_)
  · rw [if_pos c1] at h
    refine z_iload (pc := 81) C 4 dX7_tally_81 rfl ?_
    exact z_subL [1, 2, 3, 0, 5, 6] (wfX7_tally_b83 C E k29 hk29 M x1 x2 s0 x5 x6 x4 h) rfl
  · rw [if_neg c1] at h
    refine z_iload (pc := 76) C 5 dX7_tally_76 rfl ?_
    refine z_goto (pc := 78) C dX7_tally_78 (tgt := 83) (by decide) ?_
    exact z_subL [1, 2, 3, 0, 5, 6] (wfX7_tally_b83 C E k29 hk29 M x1 x2 s0 x5 x6 x5 h) rfl
def fX7_tally_b69 (k29 : MS → Int32 → Int32 → Int32 → Int32 → Int32 → Option (Int32 × MS)) (M : MS) (x1 : Int32) (x2 : Int32) (x3 : Int32) (x4 : Int32) (x5 : Int32) (x6 : Int32) : Option (Int32 × MS) :=
    fX7_tally_b70 k29 M x1 x2 x4 x5 x6 x3
set_option maxRecDepth 100000 in
set_option maxHeartbeats 4000000 in
theorem wfX7_tally_b69 {X : zX} {A B : zH} {out : Int32 × MS} (C : zOK X cX7_tally yX7_tally.cls 7 (some .int) 2 43) (E : zPost X (poI out.1 (hG A out.2 B))) (k29 : MS → Int32 → Int32 → Int32 → Int32 → Int32 → Option (Int32 × MS)) (hk29 : ∀ (M : MS) (x1 : Int32) (x2 : Int32) (x3 : Int32) (x4 : Int32) (x5 : Int32), k29 M x1 x2 x3 x4 x5 = some out → zZ X 29 [(0, .ref A.length), (1, .int x1), (2, .int x2), (3, .int x3), (4, .int x4), (5, .int x5)] [] (hG A M B)) (M : MS) (x1 : Int32) (x2 : Int32) (x3 : Int32) (x4 : Int32) (x5 : Int32) (x6 : Int32) (h : fX7_tally_b69 k29 M x1 x2 x3 x4 x5 x6 = some out) : zZ X 69 [(0, .ref A.length), (1, .int x1), (2, .int x2), (3, .int x3), (4, .int x4), (5, .int x5), (6, .int x6)] [] (hG A M B) := by
  rw [fX7_tally_b69] at h
  refine z_iload_n (pc := 69) C 3 dX7_tally_69 rfl rfl ?_
  exact z_subL [0, 1, 2, 4, 5, 6] (wfX7_tally_b70 C E k29 hk29 M x1 x2 x4 x5 x6 x3 h) rfl
def fX7_tally_b53 (k29 : MS → Int32 → Int32 → Int32 → Int32 → Int32 → Option (Int32 × MS)) (M : MS) (x1 : Int32) (x2 : Int32) (x3 : Int32) (x4 : Int32) (x5 : Int32) (s0 : Int32) : Option (Int32 × MS) :=
    if s0 = 0 then (fX7_tally_b69 k29 M x1 x2 x3 x4 x5 s0) else
    if x2 = 0 then (fX7_tally_b70 k29 M x1 x2 x4 x5 s0 x5) else
    fX7_tally_b69 k29 M x1 x2 x3 x4 x5 s0
set_option maxRecDepth 100000 in
set_option maxHeartbeats 4000000 in
theorem wfX7_tally_b53 {X : zX} {A B : zH} {out : Int32 × MS} (C : zOK X cX7_tally yX7_tally.cls 7 (some .int) 2 43) (E : zPost X (poI out.1 (hG A out.2 B))) (k29 : MS → Int32 → Int32 → Int32 → Int32 → Int32 → Option (Int32 × MS)) (hk29 : ∀ (M : MS) (x1 : Int32) (x2 : Int32) (x3 : Int32) (x4 : Int32) (x5 : Int32), k29 M x1 x2 x3 x4 x5 = some out → zZ X 29 [(0, .ref A.length), (1, .int x1), (2, .int x2), (3, .int x3), (4, .int x4), (5, .int x5)] [] (hG A M B)) (M : MS) (x1 : Int32) (x2 : Int32) (x3 : Int32) (x4 : Int32) (x5 : Int32) (s0 : Int32) (h : fX7_tally_b53 k29 M x1 x2 x3 x4 x5 s0 = some out) : zZ X 53 [(0, .ref A.length), (1, .int x1), (2, .int x2), (3, .int x3), (4, .int x4), (5, .int x5)] [.int s0] (hG A M B) := by
  rw [fX7_tally_b53] at h
  refine z_istore (pc := 53) C dX7_tally_53 (by decide) (show zput _ _ _ = [(6, .int s0), (0, .ref A.length), (1, .int x1), (2, .int x2), (3, .int x3), (4, .int x4), (5, .int x5)] from rfl) ?_
  refine z_iload (pc := 55) C 0 dX7_tally_55 rfl ?_
  refine z_if_eq (pc := 57) C dX7_tally_57 (tgt := 69) (by decide) (fun c1 => ?_) (fun c1 => ?_)
  · rw [if_pos c1] at h
    exact z_subL [1, 2, 3, 4, 5, 6, 0] (wfX7_tally_b69 C E k29 hk29 M x1 x2 x3 x4 x5 s0 h) rfl
  · rw [if_neg c1] at h
    refine z_iload_n (pc := 60) C 3 dX7_tally_60 rfl rfl ?_
    refine z_if_ne (pc := 61) C dX7_tally_61 (tgt := 69) (by decide) (fun c2 => ?_) (fun c2 => ?_)
    · rw [if_neg c2] at h
      exact z_subL [1, 2, 3, 4, 5, 6, 0] (wfX7_tally_b69 C E k29 hk29 M x1 x2 x3 x4 x5 s0 h) rfl
    · rw [if_pos c2] at h
      refine z_iload (pc := 64) C 6 dX7_tally_64 rfl ?_
      refine z_goto (pc := 66) C dX7_tally_66 (tgt := 70) (by decide) ?_
      exact z_subL [1, 2, 3, 5, 6, 0] (wfX7_tally_b70 C E k29 hk29 M x1 x2 x4 x5 s0 x5 h) rfl
def fX7_tally_b29 : Nat → MS → Int32 → Int32 → Int32 → Int32 → Int32 → Option (Int32 × MS)
  | 0, _, _, _, _, _, _ => none
  | n + 1, M, x1, x2, x3, x4, x5 =>
    if (M.1 11) ≤ x5 then (fX7_tally_b99 M x2 x3 x4) else
    ob1 (fX7_signAt M x5) fun v2 =>
    if v2 = x1 then (fX7_tally_b53 (fX7_tally_b29 n) M x1 x2 x3 x4 x5 (1 : Int32)) else
    fX7_tally_b53 (fX7_tally_b29 n) M x1 x2 x3 x4 x5 (0 : Int32)
set_option maxRecDepth 100000 in
set_option maxHeartbeats 4000000 in
theorem wfX7_tally_b29 {X : zX} {A B : zH} {out : Int32 × MS} (C : zOK X cX7_tally yX7_tally.cls 7 (some .int) 2 43) (E : zPost X (poI out.1 (hG A out.2 B))) : ∀ (n : Nat) (M : MS) (x1 : Int32) (x2 : Int32) (x3 : Int32) (x4 : Int32) (x5 : Int32) (h : fX7_tally_b29 n M x1 x2 x3 x4 x5 = some out), zZ X 29 [(0, .ref A.length), (1, .int x1), (2, .int x2), (3, .int x3), (4, .int x4), (5, .int x5)] [] (hG A M B) := by
  intro n
  induction n with
  | zero => intro M x1 x2 x3 x4 x5 h; cases h
  | succ n ih =>
    intro M x1 x2 x3 x4 x5 h
    rw [fX7_tally_b29] at h
    refine z_iload (pc := 29) C 5 dX7_tally_29 rfl ?_
    refine z_aload_n (pc := 31) C 0 dX7_tally_31 rfl rfl ?_
    refine z_get (pc := 32) C dX7_tally_32 fl_X7_123 (hM_o A M B) rfl ?_
    refine z_ic_ge (pc := 35) C dX7_tally_35 (tgt := 99) (by decide) (fun c1 => ?_) (fun c1 => ?_)
    · rw [if_pos c1] at h
      exact z_subL [0, 2, 3, 4] (wfX7_tally_b99 C E M x2 x3 x4 h) rfl
    · rw [if_neg c1] at h
      refine z_aload_n (pc := 38) C 0 dX7_tally_38 rfl rfl ?_
      refine z_iload (pc := 39) C 5 dX7_tally_39 rfl ?_
      obtain ⟨v2, ev2, h⟩ := ob1_eq h
      refine z_callVi (h := A.length) (As := [.int x5]) (rest := []) (pc := 41) C dX7_tally_41 ml_X7_157 (kX7_signAt _ _ _ _ A M B x5 v2 ev2) (hM_o A M B) rfl rfl rfl (Nat.le_of_ble_eq_true rfl) (by decide) ?_
      refine z_iload_n (pc := 44) C 1 dX7_tally_44 rfl rfl ?_
      refine z_ic_ne (pc := 45) C dX7_tally_45 (tgt := 52) (by decide) (fun c3 => ?_) (fun c3 => ?_)
      · rw [if_neg c3] at h
        refine z_iconst (pc := 52) C dX7_tally_52 (v := (0 : Int32)) (by decide) ?_
        exact z_subL [0, 1, 2, 3, 4, 5] (wfX7_tally_b53 C E (fX7_tally_b29 n) ih M x1 x2 x3 x4 x5 (0 : Int32) h) rfl
      · rw [if_pos c3] at h
        refine z_iconst (pc := 48) C dX7_tally_48 (v := (1 : Int32)) (by decide) ?_
        refine z_goto (pc := 49) C dX7_tally_49 (tgt := 53) (by decide) ?_
        exact z_subL [0, 1, 2, 3, 4, 5] (wfX7_tally_b53 C E (fX7_tally_b29 n) ih M x1 x2 x3 x4 x5 (1 : Int32) h) rfl
def fX7_tally (M : MS) (x1 : Int32) : Option (Int32 × MS) :=
    zlet (mI M 0 (0 : Int32)) fun M1 =>
    ob1 (fX7_in x1.toInt64 (1 : Int64) (127 : Int64)) fun v2 =>
    if v2 = 0 then (some ((-1 : Int32), M1)) else
    fX7_tally_b29 FU M1 x1 (0 : Int32) (0 : Int32) (0 : Int32) (0 : Int32)
set_option maxRecDepth 100000 in
set_option maxHeartbeats 4000000 in
theorem wfX7_tally {X : zX} {A B : zH} {out : Int32 × MS} (C : zOK X cX7_tally yX7_tally.cls 7 (some .int) 2 43) (E : zPost X (poI out.1 (hG A out.2 B))) (M : MS) (x1 : Int32) (h : fX7_tally M x1 = some out) : zZ X 0 [(0, .ref A.length), (1, .int x1)] [] (hG A M B) := by
  rw [fX7_tally] at h
  refine z_aload_n (pc := 0) C 0 dX7_tally_0 rfl rfl ?_
  refine z_iconst (pc := 1) C dX7_tally_1 (v := (0 : Int32)) (by decide) ?_
  obtain ⟨M1, eM1, h⟩ := zlet_eq h
  refine z_put (pc := 2) C dX7_tally_2 fl_X7_1w (hM_o A M B) (fun _ => rfl) (fun _ => rfl) (Nat.le_of_ble_eq_true rfl) (hMi_0 A B eM1) ?_
  refine z_iload_n (pc := 5) C 1 dX7_tally_5 rfl rfl ?_
  refine z_i2l (pc := 6) C dX7_tally_6 ?_
  refine z_lconst (pc := 7) C dX7_tally_7 (v := (1 : Int64)) (by decide) ?_
  refine z_ldc2 (pc := 8) C dX7_tally_8 cn_X7_28 ?_
  obtain ⟨v2, ev2, h⟩ := ob1_eq h
  refine z_callSi (As := [.long x1.toInt64, .long (1 : Int64), .long (127 : Int64)]) (rest := []) (pc := 11) C dX7_tally_11 ml_X7_21 (kX7_in _ _ _ _ (hG A M1 B) x1.toInt64 (1 : Int64) (127 : Int64) v2 ev2) rfl rfl (Nat.le_of_ble_eq_true rfl) (by decide) ?_
  refine z_if_ne (pc := 14) C dX7_tally_14 (tgt := 19) (by decide) (fun c3 => ?_) (fun c3 => ?_)
  · rw [if_neg c3] at h
    refine z_iconst (pc := 19) C dX7_tally_19 (v := (0 : Int32)) (by decide) ?_
    refine z_istore_n (pc := 20) C dX7_tally_20 rfl (by decide) (show zput _ _ _ = [(2, .int (0 : Int32)), (0, .ref A.length), (1, .int x1)] from rfl) ?_
    refine z_iconst (pc := 21) C dX7_tally_21 (v := (0 : Int32)) (by decide) ?_
    refine z_istore_n (pc := 22) C dX7_tally_22 rfl (by decide) (show zput _ _ _ = [(3, .int (0 : Int32)), (2, .int (0 : Int32)), (0, .ref A.length), (1, .int x1)] from rfl) ?_
    refine z_iconst (pc := 23) C dX7_tally_23 (v := (0 : Int32)) (by decide) ?_
    refine z_istore (pc := 24) C dX7_tally_24 (by decide) (show zput _ _ _ = [(4, .int (0 : Int32)), (3, .int (0 : Int32)), (2, .int (0 : Int32)), (0, .ref A.length), (1, .int x1)] from rfl) ?_
    refine z_iconst (pc := 26) C dX7_tally_26 (v := (0 : Int32)) (by decide) ?_
    refine z_istore (pc := 27) C dX7_tally_27 (by decide) (show zput _ _ _ = [(5, .int (0 : Int32)), (4, .int (0 : Int32)), (3, .int (0 : Int32)), (2, .int (0 : Int32)), (0, .ref A.length), (1, .int x1)] from rfl) ?_
    exact z_subL [4, 5, 3, 2, 1, 0] (wfX7_tally_b29 C E FU M1 x1 (0 : Int32) (0 : Int32) (0 : Int32) (0 : Int32) h) rfl
  · rw [if_pos c3] at h
    refine z_iconst (pc := 17) C dX7_tally_17 (v := (-1 : Int32)) (by decide) ?_
    obtain rfl := Option.some.inj h
    exact z_iret (pc := 18) C E dX7_tally_18 ⟨rfl, rfl⟩
theorem kX7_tally (l : Launch) (D : va_G) (cA : Nat → ClassId) (b : Nat) (A : zH) (M : MS) (B : zH) (x1 : Int32) (out : Int32 × MS) (h : fX7_tally M x1 = some out) : zM l D cA b yX7_tally cX7_tally 7 (some .int) 2 43 [.ref A.length, .int x1] (hG A M B) (poI out.1 (hG A out.2 B)) := z_entry rfl (Nat.le_of_ble_eq_true rfl) (fun X C E _ _ _ => wfX7_tally C E M x1 h)
def fX7_alike_b84 (M : MS) (x3 : Int32) (s0 : Int64) : Option (Int32 × MS) :=
    ob1 (fX7_enters M s0) fun M1 =>
    some (x3, M1)
set_option maxRecDepth 100000 in
set_option maxHeartbeats 4000000 in
theorem wfX7_alike_b84 {X : zX} {A B : zH} {out : Int32 × MS} (C : zOK X cX7_alike yX7_alike.cls 4 (some .int) 3 69) (E : zPost X (poI out.1 (hG A out.2 B))) (M : MS) (x3 : Int32) (s0 : Int64) (h : fX7_alike_b84 M x3 s0 = some out) : zZ X 84 [(3, .int x3)] [.long s0, .ref A.length] (hG A M B) := by
  rw [fX7_alike_b84] at h
  obtain ⟨M1, eM1, h⟩ := ob1_eq h
  refine z_callVv (h := A.length) (As := [.long s0]) (rest := []) (pc := 84) C dX7_alike_84 ml_X7_295 (kX7_enters _ _ _ _ A M B s0 M1 eM1) (hM_o A M B) rfl rfl rfl (Nat.le_of_ble_eq_true rfl) (by decide) ?_
  refine z_iload_n (pc := 87) C 0 dX7_alike_87 rfl rfl ?_
  obtain rfl := Option.some.inj h
  exact z_iret (pc := 88) C E dX7_alike_88 ⟨rfl, rfl⟩
def fX7_alike_b58 (M : MS) (x2 : Int32) (x3 : Int32) (s0 : Int64) : Option (Int32 × MS) :=
    ob1 (fX7_enters M s0) fun M1 =>
    ob1 (fX7_isSign M1 (x2 + x3)) fun v2 =>
    if v2 = 0 then (fX7_alike_b84 M1 x3 (0 : Int64)) else
    ob1 (fX7_signAt M1 (x2 + x3)) fun v4 =>
    fX7_alike_b84 M1 x3 v4.toInt64
set_option maxRecDepth 100000 in
set_option maxHeartbeats 4000000 in
theorem wfX7_alike_b58 {X : zX} {A B : zH} {out : Int32 × MS} (C : zOK X cX7_alike yX7_alike.cls 4 (some .int) 3 69) (E : zPost X (poI out.1 (hG A out.2 B))) (M : MS) (x2 : Int32) (x3 : Int32) (s0 : Int64) (h : fX7_alike_b58 M x2 x3 s0 = some out) : zZ X 58 [(0, .ref A.length), (2, .int x2), (3, .int x3)] [.long s0, .ref A.length] (hG A M B) := by
  rw [fX7_alike_b58] at h
  obtain ⟨M1, eM1, h⟩ := ob1_eq h
  refine z_callVv (h := A.length) (As := [.long s0]) (rest := []) (pc := 58) C dX7_alike_58 ml_X7_295 (kX7_enters _ _ _ _ A M B s0 M1 eM1) (hM_o A M B) rfl rfl rfl (Nat.le_of_ble_eq_true rfl) (by decide) ?_
  refine z_aload_n (pc := 61) C 0 dX7_alike_61 rfl rfl ?_
  refine z_aload_n (pc := 62) C 0 dX7_alike_62 rfl rfl ?_
  refine z_iload_n (pc := 63) C 1 dX7_alike_63 rfl rfl ?_
  refine z_iload_n (pc := 64) C 2 dX7_alike_64 rfl rfl ?_
  refine z_iadd (pc := 65) C dX7_alike_65 ?_
  obtain ⟨v2, ev2, h⟩ := ob1_eq h
  refine z_callVi (h := A.length) (As := [.int (x2 + x3)]) (rest := [.ref A.length]) (pc := 66) C dX7_alike_66 ml_X7_299 (kX7_isSign _ _ _ _ A M1 B (x2 + x3) v2 ev2) (hM_o A M1 B) rfl rfl rfl (Nat.le_of_ble_eq_true rfl) (by decide) ?_
  refine z_if_eq (pc := 69) C dX7_alike_69 (tgt := 83) (by decide) (fun c3 => ?_) (fun c3 => ?_)
  · rw [if_pos c3] at h
    refine z_lconst (pc := 83) C dX7_alike_83 (v := (0 : Int64)) (by decide) ?_
    exact z_subL [2] (wfX7_alike_b84 C E M1 x3 (0 : Int64) h) rfl
  · rw [if_neg c3] at h
    refine z_aload_n (pc := 72) C 0 dX7_alike_72 rfl rfl ?_
    refine z_iload_n (pc := 73) C 1 dX7_alike_73 rfl rfl ?_
    refine z_iload_n (pc := 74) C 2 dX7_alike_74 rfl rfl ?_
    refine z_iadd (pc := 75) C dX7_alike_75 ?_
    obtain ⟨v4, ev4, h⟩ := ob1_eq h
    refine z_callVi (h := A.length) (As := [.int (x2 + x3)]) (rest := [.ref A.length]) (pc := 76) C dX7_alike_76 ml_X7_157 (kX7_signAt _ _ _ _ A M1 B (x2 + x3) v4 ev4) (hM_o A M1 B) rfl rfl rfl (Nat.le_of_ble_eq_true rfl) (by decide) ?_
    refine z_i2l (pc := 79) C dX7_alike_79 ?_
    refine z_goto (pc := 80) C dX7_alike_80 (tgt := 84) (by decide) ?_
    exact z_subL [2] (wfX7_alike_b84 C E M1 x3 v4.toInt64 h) rfl
def fX7_alike (M : MS) (x1 : Int32) (x2 : Int32) : Option (Int32 × MS) :=
    zlet (mI M 0 (0 : Int32)) fun M1 =>
    ob1 (fX7_isPlace M1 x1) fun v2 =>
    if v2 = 0 then (some ((-1 : Int32), M1)) else
    ob1 (fX7_isPlace M1 x2) fun v4 =>
    if v4 = 0 then (some ((-1 : Int32), M1)) else
    ob1 (fX7_alikeFrom M1 x1 x2) fun v6 =>
    zlet (mI M1 1 (0 : Int32)) fun M7 =>
    ob1 (fX7_isSign M7 (x1 + v6)) fun v8 =>
    if v8 = 0 then (fX7_alike_b58 M7 x2 v6 (0 : Int64)) else
    ob1 (fX7_signAt M7 (x1 + v6)) fun v10 =>
    fX7_alike_b58 M7 x2 v6 v10.toInt64
set_option maxRecDepth 100000 in
set_option maxHeartbeats 4000000 in
theorem wfX7_alike {X : zX} {A B : zH} {out : Int32 × MS} (C : zOK X cX7_alike yX7_alike.cls 4 (some .int) 3 69) (E : zPost X (poI out.1 (hG A out.2 B))) (M : MS) (x1 : Int32) (x2 : Int32) (h : fX7_alike M x1 x2 = some out) : zZ X 0 [(0, .ref A.length), (1, .int x1), (2, .int x2)] [] (hG A M B) := by
  rw [fX7_alike] at h
  refine z_aload_n (pc := 0) C 0 dX7_alike_0 rfl rfl ?_
  refine z_iconst (pc := 1) C dX7_alike_1 (v := (0 : Int32)) (by decide) ?_
  obtain ⟨M1, eM1, h⟩ := zlet_eq h
  refine z_put (pc := 2) C dX7_alike_2 fl_X7_1w (hM_o A M B) (fun _ => rfl) (fun _ => rfl) (Nat.le_of_ble_eq_true rfl) (hMi_0 A B eM1) ?_
  refine z_aload_n (pc := 5) C 0 dX7_alike_5 rfl rfl ?_
  refine z_iload_n (pc := 6) C 1 dX7_alike_6 rfl rfl ?_
  obtain ⟨v2, ev2, h⟩ := ob1_eq h
  refine z_callVi (h := A.length) (As := [.int x1]) (rest := []) (pc := 7) C dX7_alike_7 ml_X7_202 (kX7_isPlace _ _ _ _ A M1 B x1 v2 ev2) (hM_o A M1 B) rfl rfl rfl (Nat.le_of_ble_eq_true rfl) (by decide) ?_
  refine z_if_eq (pc := 10) C dX7_alike_10 (tgt := 21) (by decide) (fun c3 => ?_) (fun c3 => ?_)
  · rw [if_pos c3] at h
    refine z_iconst (pc := 21) C dX7_alike_21 (v := (-1 : Int32)) (by decide) ?_
    obtain rfl := Option.some.inj h
    exact z_iret (pc := 22) C E dX7_alike_22 ⟨rfl, rfl⟩
  · rw [if_neg c3] at h
    refine z_aload_n (pc := 13) C 0 dX7_alike_13 rfl rfl ?_
    refine z_iload_n (pc := 14) C 2 dX7_alike_14 rfl rfl ?_
    obtain ⟨v4, ev4, h⟩ := ob1_eq h
    refine z_callVi (h := A.length) (As := [.int x2]) (rest := []) (pc := 15) C dX7_alike_15 ml_X7_202 (kX7_isPlace _ _ _ _ A M1 B x2 v4 ev4) (hM_o A M1 B) rfl rfl rfl (Nat.le_of_ble_eq_true rfl) (by decide) ?_
    refine z_if_ne (pc := 18) C dX7_alike_18 (tgt := 23) (by decide) (fun c5 => ?_) (fun c5 => ?_)
    · rw [if_neg c5] at h
      refine z_aload_n (pc := 23) C 0 dX7_alike_23 rfl rfl ?_
      refine z_iload_n (pc := 24) C 1 dX7_alike_24 rfl rfl ?_
      refine z_iload_n (pc := 25) C 2 dX7_alike_25 rfl rfl ?_
      obtain ⟨v6, ev6, h⟩ := ob1_eq h
      refine z_callVi (h := A.length) (As := [.int x1, .int x2]) (rest := []) (pc := 26) C dX7_alike_26 ml_X7_353 (kX7_alikeFrom _ _ _ _ A M1 B x1 x2 v6 ev6) (hM_o A M1 B) rfl rfl rfl (Nat.le_of_ble_eq_true rfl) (by decide) ?_
      refine z_istore_n (pc := 29) C dX7_alike_29 rfl (by decide) (show zput _ _ _ = [(3, .int v6), (0, .ref A.length), (1, .int x1), (2, .int x2)] from rfl) ?_
      refine z_aload_n (pc := 30) C 1 dX7_alike_30 rfl rfl ?_
      refine z_iconst (pc := 31) C dX7_alike_31 (v := (0 : Int32)) (by decide) ?_
      obtain ⟨M7, eM7, h⟩ := zlet_eq h
      refine z_put (pc := 32) C dX7_alike_32 fl_X7_11w (hM_o A M1 B) (fun _ => rfl) (fun _ => rfl) (Nat.le_of_ble_eq_true rfl) (hMi_1 A B eM7) ?_
      refine z_aload_n (pc := 35) C 1 dX7_alike_35 rfl rfl ?_
      refine z_aload_n (pc := 36) C 1 dX7_alike_36 rfl rfl ?_
      refine z_iload_n (pc := 37) C 2 dX7_alike_37 rfl rfl ?_
      refine z_iload_n (pc := 38) C 0 dX7_alike_38 rfl rfl ?_
      refine z_iadd (pc := 39) C dX7_alike_39 ?_
      obtain ⟨v8, ev8, h⟩ := ob1_eq h
      refine z_callVi (h := A.length) (As := [.int (x1 + v6)]) (rest := [.ref A.length]) (pc := 40) C dX7_alike_40 ml_X7_299 (kX7_isSign _ _ _ _ A M7 B (x1 + v6) v8 ev8) (hM_o A M7 B) rfl rfl rfl (Nat.le_of_ble_eq_true rfl) (by decide) ?_
      refine z_if_eq (pc := 43) C dX7_alike_43 (tgt := 57) (by decide) (fun c9 => ?_) (fun c9 => ?_)
      · rw [if_pos c9] at h
        refine z_lconst (pc := 57) C dX7_alike_57 (v := (0 : Int64)) (by decide) ?_
        exact z_subL [1, 3, 0] (wfX7_alike_b58 C E M7 x2 v6 (0 : Int64) h) rfl
      · rw [if_neg c9] at h
        refine z_aload_n (pc := 46) C 1 dX7_alike_46 rfl rfl ?_
        refine z_iload_n (pc := 47) C 2 dX7_alike_47 rfl rfl ?_
        refine z_iload_n (pc := 48) C 0 dX7_alike_48 rfl rfl ?_
        refine z_iadd (pc := 49) C dX7_alike_49 ?_
        obtain ⟨v10, ev10, h⟩ := ob1_eq h
        refine z_callVi (h := A.length) (As := [.int (x1 + v6)]) (rest := [.ref A.length]) (pc := 50) C dX7_alike_50 ml_X7_157 (kX7_signAt _ _ _ _ A M7 B (x1 + v6) v10 ev10) (hM_o A M7 B) rfl rfl rfl (Nat.le_of_ble_eq_true rfl) (by decide) ?_
        refine z_i2l (pc := 53) C dX7_alike_53 ?_
        refine z_goto (pc := 54) C dX7_alike_54 (tgt := 58) (by decide) ?_
        exact z_subL [1, 3, 0] (wfX7_alike_b58 C E M7 x2 v6 v10.toInt64 h) rfl
    · rw [if_pos c5] at h
      refine z_iconst (pc := 21) C dX7_alike_21 (v := (-1 : Int32)) (by decide) ?_
      obtain rfl := Option.some.inj h
      exact z_iret (pc := 22) C E dX7_alike_22 ⟨rfl, rfl⟩
theorem kX7_alike (l : Launch) (D : va_G) (cA : Nat → ClassId) (b : Nat) (A : zH) (M : MS) (B : zH) (x1 : Int32) (x2 : Int32) (out : Int32 × MS) (h : fX7_alike M x1 x2 = some out) : zM l D cA b yX7_alike cX7_alike 4 (some .int) 3 69 [.ref A.length, .int x1, .int x2] (hG A M B) (poI out.1 (hG A out.2 B)) := z_entry rfl (Nat.le_of_ble_eq_true rfl) (fun X C E _ _ _ => wfX7_alike C E M x1 x2 h)
def fX7_sumOf_b6 (M : MS) : Nat → Int32 → Int32 → Int32 → Int32 → Option Int32
  | 0, _, _, _, _ => none
  | n + 1, x1, x2, x3, x4 =>
    if (x1 + x2) ≤ x4 then (some x3) else
    ob1 (fX7_signAt M x4) fun v2 =>
    zlet ((((31 : Int32) * x3) + v2)) fun y3 =>
    zlet (x4 + (1 : Int32)) fun y4 =>
    (fX7_sumOf_b6 M n) x1 x2 y3 y4
set_option maxRecDepth 100000 in
set_option maxHeartbeats 4000000 in
theorem wfX7_sumOf_b6 {X : zX} {A B : zH} {M : MS} {out : Int32} (C : zOK X cX7_sumOf yX7_sumOf.cls 5 (some .int) 2 43) (E : zPost X (poI out (hG A M B))) : ∀ (n : Nat) (x1 : Int32) (x2 : Int32) (x3 : Int32) (x4 : Int32) (h : fX7_sumOf_b6 M n x1 x2 x3 x4 = some out), zZ X 6 [(0, .ref A.length), (1, .int x1), (2, .int x2), (3, .int x3), (4, .int x4)] [] (hG A M B) := by
  intro n
  induction n with
  | zero => intro x1 x2 x3 x4 h; cases h
  | succ n ih =>
    intro x1 x2 x3 x4 h
    rw [fX7_sumOf_b6] at h
    refine z_iload (pc := 6) C 4 dX7_sumOf_6 rfl ?_
    refine z_iload_n (pc := 8) C 1 dX7_sumOf_8 rfl rfl ?_
    refine z_iload_n (pc := 9) C 2 dX7_sumOf_9 rfl rfl ?_
    refine z_iadd (pc := 10) C dX7_sumOf_10 ?_
    refine z_ic_ge (pc := 11) C dX7_sumOf_11 (tgt := 32) (by decide) (fun c1 => ?_) (fun c1 => ?_)
    · rw [if_pos c1] at h
      refine z_iload_n (pc := 32) C 3 dX7_sumOf_32 rfl rfl ?_
      obtain rfl := Option.some.inj h
      exact z_iret (pc := 33) C E dX7_sumOf_33 ⟨rfl, rfl⟩
    · rw [if_neg c1] at h
      refine z_bipush (pc := 14) C dX7_sumOf_14 (v := (31 : Int32)) (by decide) ?_
      refine z_iload_n (pc := 16) C 3 dX7_sumOf_16 rfl rfl ?_
      refine z_imul (pc := 17) C dX7_sumOf_17 ?_
      refine z_aload_n (pc := 18) C 0 dX7_sumOf_18 rfl rfl ?_
      refine z_iload (pc := 19) C 4 dX7_sumOf_19 rfl ?_
      obtain ⟨v2, ev2, h⟩ := ob1_eq h
      refine z_callVi (h := A.length) (As := [.int x4]) (rest := [.int ((31 : Int32) * x3)]) (pc := 21) C dX7_sumOf_21 ml_X7_157 (kX7_signAt _ _ _ _ A M B x4 v2 ev2) (hM_o A M B) rfl rfl rfl (Nat.le_of_ble_eq_true rfl) (by decide) ?_
      refine z_iadd (pc := 24) C dX7_sumOf_24 ?_
      obtain ⟨y3, ey3, h⟩ := zlet_eq h
      refine z_topi ey3 ?_
      refine z_istore_n (pc := 25) C dX7_sumOf_25 rfl (by decide) (show zput _ _ _ = [(3, .int y3), (0, .ref A.length), (1, .int x1), (2, .int x2), (4, .int x4)] from rfl) ?_
      obtain ⟨y4, ey4, h⟩ := zlet_eq h
      refine z_iinc (pc := 26) (v := y4) C 4 dX7_sumOf_26 rfl (by rw [ey4]; rfl) (by decide) (show zput _ _ _ = [(4, .int y4), (3, .int y3), (0, .ref A.length), (1, .int x1), (2, .int x2)] from rfl) ?_
      refine z_goto (pc := 29) C dX7_sumOf_29 (tgt := 6) (by decide) ?_
      exact z_subL [2, 3, 4, 1, 0] (ih x1 x2 y3 y4 h) rfl
def fX7_sumOf (M : MS) (x1 : Int32) (x2 : Int32) : Option Int32 :=
    fX7_sumOf_b6 M FU x1 x2 (7 : Int32) x1
set_option maxRecDepth 100000 in
set_option maxHeartbeats 4000000 in
theorem wfX7_sumOf {X : zX} {A B : zH} {M : MS} {out : Int32} (C : zOK X cX7_sumOf yX7_sumOf.cls 5 (some .int) 2 43) (E : zPost X (poI out (hG A M B))) (x1 : Int32) (x2 : Int32) (h : fX7_sumOf M x1 x2 = some out) : zZ X 0 [(0, .ref A.length), (1, .int x1), (2, .int x2)] [] (hG A M B) := by
  rw [fX7_sumOf] at h
  refine z_bipush (pc := 0) C dX7_sumOf_0 (v := (7 : Int32)) (by decide) ?_
  refine z_istore_n (pc := 2) C dX7_sumOf_2 rfl (by decide) (show zput _ _ _ = [(3, .int (7 : Int32)), (0, .ref A.length), (1, .int x1), (2, .int x2)] from rfl) ?_
  refine z_iload_n (pc := 3) C 2 dX7_sumOf_3 rfl rfl ?_
  refine z_istore (pc := 4) C dX7_sumOf_4 (by decide) (show zput _ _ _ = [(4, .int x1), (3, .int (7 : Int32)), (0, .ref A.length), (1, .int x1), (2, .int x2)] from rfl) ?_
  exact z_subL [2, 3, 4, 1, 0] (wfX7_sumOf_b6 C E FU x1 x2 (7 : Int32) x1 h) rfl
theorem kX7_sumOf (l : Launch) (D : va_G) (cA : Nat → ClassId) (b : Nat) (A : zH) (M : MS) (B : zH) (x1 : Int32) (x2 : Int32) (out : Int32) (h : fX7_sumOf M x1 x2 = some out) : zM l D cA b yX7_sumOf cX7_sumOf 5 (some .int) 2 43 [.ref A.length, .int x1, .int x2] (hG A M B) (poI out (hG A M B)) := z_entry rfl (Nat.le_of_ble_eq_true rfl) (fun X C E _ _ _ => wfX7_sumOf C E x1 x2 h)
def fX7_sum (M : MS) (x1 : Int32) (x2 : Int32) : Option (Int32 × MS) :=
    zlet (mI M 0 (0 : Int32)) fun M1 =>
    if x1 < 0 then (some ((-1 : Int32), M1)) else
    if 0 ≤ x2 then (if (lg_cmp (x1.toInt64 + x2.toInt64) ((M1.1 11).toInt64)) ≤ 0 then (zlet (mI M1 1 (0 : Int32)) fun M5 =>
    ob1 (fX7_sumOf M5 x1 x2) fun v6 =>
    ob1 (fX7_enters M5 v6.toInt64) fun M7 =>
    some ((0 : Int32), M7)) else
    some ((-2 : Int32), M1)) else
    some ((-1 : Int32), M1)
set_option maxRecDepth 100000 in
set_option maxHeartbeats 4000000 in
theorem wfX7_sum {X : zX} {A B : zH} {out : Int32 × MS} (C : zOK X cX7_sum yX7_sum.cls 3 (some .int) 3 67) (E : zPost X (poI out.1 (hG A out.2 B))) (M : MS) (x1 : Int32) (x2 : Int32) (h : fX7_sum M x1 x2 = some out) : zZ X 0 [(0, .ref A.length), (1, .int x1), (2, .int x2)] [] (hG A M B) := by
  rw [fX7_sum] at h
  refine z_aload_n (pc := 0) C 0 dX7_sum_0 rfl rfl ?_
  refine z_iconst (pc := 1) C dX7_sum_1 (v := (0 : Int32)) (by decide) ?_
  obtain ⟨M1, eM1, h⟩ := zlet_eq h
  refine z_put (pc := 2) C dX7_sum_2 fl_X7_1w (hM_o A M B) (fun _ => rfl) (fun _ => rfl) (Nat.le_of_ble_eq_true rfl) (hMi_0 A B eM1) ?_
  refine z_iload_n (pc := 5) C 1 dX7_sum_5 rfl rfl ?_
  refine z_if_lt (pc := 6) C dX7_sum_6 (tgt := 13) (by decide) (fun c2 => ?_) (fun c2 => ?_)
  · rw [if_pos c2] at h
    refine z_iconst (pc := 13) C dX7_sum_13 (v := (-1 : Int32)) (by decide) ?_
    obtain rfl := Option.some.inj h
    exact z_iret (pc := 14) C E dX7_sum_14 ⟨rfl, rfl⟩
  · rw [if_neg c2] at h
    refine z_iload_n (pc := 9) C 2 dX7_sum_9 rfl rfl ?_
    refine z_if_ge (pc := 10) C dX7_sum_10 (tgt := 15) (by decide) (fun c3 => ?_) (fun c3 => ?_)
    · rw [if_pos c3] at h
      refine z_iload_n (pc := 15) C 1 dX7_sum_15 rfl rfl ?_
      refine z_i2l (pc := 16) C dX7_sum_16 ?_
      refine z_iload_n (pc := 17) C 2 dX7_sum_17 rfl rfl ?_
      refine z_i2l (pc := 18) C dX7_sum_18 ?_
      refine z_ladd (pc := 19) C dX7_sum_19 ?_
      refine z_aload_n (pc := 20) C 0 dX7_sum_20 rfl rfl ?_
      refine z_get (pc := 21) C dX7_sum_21 fl_X7_123 (hM_o A M1 B) rfl ?_
      refine z_i2l (pc := 24) C dX7_sum_24 ?_
      refine z_lcmp (pc := 25) C dX7_sum_25 ?_
      refine z_if_le (pc := 26) C dX7_sum_26 (tgt := 32) (by decide) (fun c4 => ?_) (fun c4 => ?_)
      · rw [if_pos c4] at h
        refine z_aload_n (pc := 32) C 0 dX7_sum_32 rfl rfl ?_
        refine z_iconst (pc := 33) C dX7_sum_33 (v := (0 : Int32)) (by decide) ?_
        obtain ⟨M5, eM5, h⟩ := zlet_eq h
        refine z_put (pc := 34) C dX7_sum_34 fl_X7_11w (hM_o A M1 B) (fun _ => rfl) (fun _ => rfl) (Nat.le_of_ble_eq_true rfl) (hMi_1 A B eM5) ?_
        refine z_aload_n (pc := 37) C 0 dX7_sum_37 rfl rfl ?_
        refine z_aload_n (pc := 38) C 0 dX7_sum_38 rfl rfl ?_
        refine z_iload_n (pc := 39) C 1 dX7_sum_39 rfl rfl ?_
        refine z_iload_n (pc := 40) C 2 dX7_sum_40 rfl rfl ?_
        obtain ⟨v6, ev6, h⟩ := ob1_eq h
        refine z_callVi (h := A.length) (As := [.int x1, .int x2]) (rest := [.ref A.length]) (pc := 41) C dX7_sum_41 ml_X7_367 (kX7_sumOf _ _ _ _ A M5 B x1 x2 v6 ev6) (hM_o A M5 B) rfl rfl rfl (Nat.le_of_ble_eq_true rfl) (by decide) ?_
        refine z_i2l (pc := 44) C dX7_sum_44 ?_
        obtain ⟨M7, eM7, h⟩ := ob1_eq h
        refine z_callVv (h := A.length) (As := [.long v6.toInt64]) (rest := []) (pc := 45) C dX7_sum_45 ml_X7_295 (kX7_enters _ _ _ _ A M5 B v6.toInt64 M7 eM7) (hM_o A M5 B) rfl rfl rfl (Nat.le_of_ble_eq_true rfl) (by decide) ?_
        refine z_iconst (pc := 48) C dX7_sum_48 (v := (0 : Int32)) (by decide) ?_
        obtain rfl := Option.some.inj h
        exact z_iret (pc := 49) C E dX7_sum_49 ⟨rfl, rfl⟩
      · rw [if_neg c4] at h
        refine z_bipush (pc := 29) C dX7_sum_29 (v := (-2 : Int32)) (by decide) ?_
        obtain rfl := Option.some.inj h
        exact z_iret (pc := 31) C E dX7_sum_31 ⟨rfl, rfl⟩
    · rw [if_neg c3] at h
      refine z_iconst (pc := 13) C dX7_sum_13 (v := (-1 : Int32)) (by decide) ?_
      obtain rfl := Option.some.inj h
      exact z_iret (pc := 14) C E dX7_sum_14 ⟨rfl, rfl⟩
theorem kX7_sum (l : Launch) (D : va_G) (cA : Nat → ClassId) (b : Nat) (A : zH) (M : MS) (B : zH) (x1 : Int32) (x2 : Int32) (out : Int32 × MS) (h : fX7_sum M x1 x2 = some out) : zM l D cA b yX7_sum cX7_sum 3 (some .int) 3 67 [.ref A.length, .int x1, .int x2] (hG A M B) (poI out.1 (hG A out.2 B)) := z_entry rfl (Nat.le_of_ble_eq_true rfl) (fun X C E _ _ _ => wfX7_sum C E M x1 x2 h)
def fX7_signOf (M : MS) (x1 : Int32) : Option Int32 :=
    ob1 (fX7_ofStore M ((x1 / (2 : Int32)) / (8192 : Int32)) ((x1 / (2 : Int32)) - (x1 / (2 : Int32)) / (8192 : Int32) * (8192 : Int32))) fun v1 =>
    some v1
set_option maxRecDepth 100000 in
set_option maxHeartbeats 4000000 in
theorem wfX7_signOf {X : zX} {A B : zH} {M : MS} {out : Int32} (C : zOK X cX7_signOf yX7_signOf.cls 2 (some .int) 1 22) (E : zPost X (poI out (hG A M B))) (x1 : Int32) (h : fX7_signOf M x1 = some out) : zZ X 0 [(0, .ref A.length), (1, .int x1)] [] (hG A M B) := by
  rw [fX7_signOf] at h
  refine z_aload_n (pc := 0) C 0 dX7_signOf_0 rfl rfl ?_
  refine z_iload_n (pc := 1) C 1 dX7_signOf_1 rfl rfl ?_
  refine z_iconst (pc := 2) C dX7_signOf_2 (v := (2 : Int32)) (by decide) ?_
  refine z_idiv (pc := 3) C dX7_signOf_3 (by decide) ?_
  refine z_sipush (pc := 4) C dX7_signOf_4 (v := (8192 : Int32)) (by decide) ?_
  refine z_idiv (pc := 7) C dX7_signOf_7 (by decide) ?_
  refine z_iload_n (pc := 8) C 1 dX7_signOf_8 rfl rfl ?_
  refine z_iconst (pc := 9) C dX7_signOf_9 (v := (2 : Int32)) (by decide) ?_
  refine z_idiv (pc := 10) C dX7_signOf_10 (by decide) ?_
  refine z_sipush (pc := 11) C dX7_signOf_11 (v := (8192 : Int32)) (by decide) ?_
  refine z_irem (pc := 14) C dX7_signOf_14 (by decide) ?_
  obtain ⟨v1, ev1, h⟩ := ob1_eq h
  refine z_callVi (h := A.length) (As := [.int ((x1 / (2 : Int32)) / (8192 : Int32)), .int ((x1 / (2 : Int32)) - (x1 / (2 : Int32)) / (8192 : Int32) * (8192 : Int32))]) (rest := []) (pc := 15) C dX7_signOf_15 ml_X7_115 (kX7_ofStore _ _ _ _ A M B ((x1 / (2 : Int32)) / (8192 : Int32)) ((x1 / (2 : Int32)) - (x1 / (2 : Int32)) / (8192 : Int32) * (8192 : Int32)) v1 ev1) (hM_o A M B) rfl rfl rfl (Nat.le_of_ble_eq_true rfl) (by decide) ?_
  obtain rfl := Option.some.inj h
  exact z_iret (pc := 18) C E dX7_signOf_18 ⟨rfl, rfl⟩
theorem kX7_signOf (l : Launch) (D : va_G) (cA : Nat → ClassId) (b : Nat) (A : zH) (M : MS) (B : zH) (x1 : Int32) (out : Int32) (h : fX7_signOf M x1 = some out) : zM l D cA b yX7_signOf cX7_signOf 2 (some .int) 1 22 [.ref A.length, .int x1] (hG A M B) (poI out (hG A M B)) := z_entry rfl (Nat.le_of_ble_eq_true rfl) (fun X C E _ _ _ => wfX7_signOf C E x1 h)
def fX7_draws (M : MS) (x1 : Int32) : Option (Int32 × MS) :=
    zlet (mI M 33 (((M.1 33) * (1103515245 : Int32)) + (12345 : Int32))) fun M1 =>
    ob1 (nz x1) fun u2 =>
    some ((((M1.1 33).toUInt32 >>> ((16 : Int32).toUInt32 &&& Int32.toUInt32 31)).toInt32 - ((M1.1 33).toUInt32 >>> ((16 : Int32).toUInt32 &&& Int32.toUInt32 31)).toInt32 / x1 * x1), M1)
set_option maxRecDepth 100000 in
set_option maxHeartbeats 4000000 in
theorem wfX7_draws {X : zX} {A B : zH} {out : Int32 × MS} (C : zOK X cX7_draws yX7_draws.cls 2 (some .int) 0 0) (E : zPost X (poI out.1 (hG A out.2 B))) (M : MS) (x1 : Int32) (h : fX7_draws M x1 = some out) : zZ X 0 [(0, .ref A.length), (1, .int x1)] [] (hG A M B) := by
  rw [fX7_draws] at h
  refine z_aload_n (pc := 0) C 0 dX7_draws_0 rfl rfl ?_
  refine z_aload_n (pc := 1) C 0 dX7_draws_1 rfl rfl ?_
  refine z_get (pc := 2) C dX7_draws_2 fl_X7_373 (hM_o A M B) rfl ?_
  refine z_ldcw (pc := 5) C dX7_draws_5 cn_X7_376 ?_
  refine z_imul (pc := 8) C dX7_draws_8 ?_
  refine z_sipush (pc := 9) C dX7_draws_9 (v := (12345 : Int32)) (by decide) ?_
  refine z_iadd (pc := 12) C dX7_draws_12 ?_
  obtain ⟨M1, eM1, h⟩ := zlet_eq h
  refine z_put (pc := 13) C dX7_draws_13 fl_X7_373w (hM_o A M B) (fun _ => rfl) (fun _ => rfl) (Nat.le_of_ble_eq_true rfl) (hMi_33 A B eM1) ?_
  refine z_aload_n (pc := 16) C 0 dX7_draws_16 rfl rfl ?_
  refine z_get (pc := 17) C dX7_draws_17 fl_X7_373 (hM_o A M1 B) rfl ?_
  refine z_bipush (pc := 20) C dX7_draws_20 (v := (16 : Int32)) (by decide) ?_
  refine z_iushr (pc := 22) C dX7_draws_22 ?_
  refine z_iload_n (pc := 23) C 1 dX7_draws_23 rfl rfl ?_
  obtain ⟨u2, eu2, h⟩ := ob1_eq h
  refine z_irem (pc := 24) C dX7_draws_24 (nz_eq eu2) ?_
  obtain rfl := Option.some.inj h
  exact z_iret (pc := 25) C E dX7_draws_25 ⟨rfl, rfl⟩
theorem kX7_draws (l : Launch) (D : va_G) (cA : Nat → ClassId) (b : Nat) (A : zH) (M : MS) (B : zH) (x1 : Int32) (out : Int32 × MS) (h : fX7_draws M x1 = some out) : zM l D cA b yX7_draws cX7_draws 2 (some .int) 0 0 [.ref A.length, .int x1] (hG A M B) (poI out.1 (hG A out.2 B)) := z_entry rfl (Nat.le_of_ble_eq_true rfl) (fun X C E _ _ _ => wfX7_draws C E M x1 h)
def fX7_drawnEdit (M : MS) : Option MS :=
    ob2 (fX7_draws M (4 : Int32)) fun v2 M1 =>
    if (2 : Int32) ≤ v2 then (if (M1.1 11) ≤ 0 then (some M1) else
    ob2 (fX7_draws M1 (M1.1 11)) fun v6 M5 =>
    if v2 = (2 : Int32) then (ob2 (fX7_takesOut M5 v6 (1 : Int32)) fun v12 M11 =>
    some M11) else
    if (3000 : Int32) ≤ (M5.1 11) then (some M5) else
    ob1 (fX7_laysOut M5 v6 (1 : Int32)) fun M9 =>
    ob1 (fX7_laysIn M9 (1 : Int32) (0 : Int32)) fun M10 =>
    some M10) else
    ob2 (fX7_draws M1 (26 : Int32)) fun v14 M13 =>
    zlet (((97 : Int32) + v14)) fun y15 =>
    ob2 (fX7_draws M13 ((M13.1 11) + (1 : Int32))) fun v17 M16 =>
    ob2 (fX7_typesIn M16 v17 y15) fun v19 M18 =>
    some M18
set_option maxRecDepth 100000 in
set_option maxHeartbeats 4000000 in
theorem wfX7_drawnEdit {X : zX} {A B : zH} {out : MS} (C : zOK X cX7_drawnEdit yX7_drawnEdit.cls 3 none 5 111) (E : zPost X (poV (hG A out B))) (M : MS) (h : fX7_drawnEdit M = some out) : zZ X 0 [(0, .ref A.length)] [] (hG A M B) := by
  rw [fX7_drawnEdit] at h
  refine z_aload_n (pc := 0) C 0 dX7_drawnEdit_0 rfl rfl ?_
  refine z_iconst (pc := 1) C dX7_drawnEdit_1 (v := (4 : Int32)) (by decide) ?_
  obtain ⟨v2, M1, ev2, h⟩ := ob2_eq h
  refine z_callVi (h := A.length) (As := [.int (4 : Int32)]) (rest := []) (pc := 2) C dX7_drawnEdit_2 ml_X7_377 (kX7_draws _ _ _ _ A M B (4 : Int32) (v2, M1) ev2) (hM_o A M B) rfl rfl rfl (Nat.le_of_ble_eq_true rfl) (by decide) ?_
  refine z_istore_n (pc := 5) C dX7_drawnEdit_5 rfl (by decide) (show zput _ _ _ = [(1, .int v2), (0, .ref A.length)] from rfl) ?_
  refine z_iload_n (pc := 6) C 0 dX7_drawnEdit_6 rfl rfl ?_
  refine z_iconst (pc := 7) C dX7_drawnEdit_7 (v := (2 : Int32)) (by decide) ?_
  refine z_ic_ge (pc := 8) C dX7_drawnEdit_8 (tgt := 40) (by decide) (fun c3 => ?_) (fun c3 => ?_)
  · rw [if_pos c3] at h
    refine z_aload_n (pc := 40) C 1 dX7_drawnEdit_40 rfl rfl ?_
    refine z_get (pc := 41) C dX7_drawnEdit_41 fl_X7_123 (hM_o A M1 B) rfl ?_
    refine z_if_le (pc := 44) C dX7_drawnEdit_44 (tgt := 93) (by decide) (fun c4 => ?_) (fun c4 => ?_)
    · rw [if_pos c4] at h
      obtain rfl := Option.some.inj h
      exact z_vret (pc := 93) C E dX7_drawnEdit_93 ⟨rfl, rfl⟩
    · rw [if_neg c4] at h
      refine z_aload_n (pc := 47) C 1 dX7_drawnEdit_47 rfl rfl ?_
      refine z_aload_n (pc := 48) C 1 dX7_drawnEdit_48 rfl rfl ?_
      refine z_get (pc := 49) C dX7_drawnEdit_49 fl_X7_123 (hM_o A M1 B) rfl ?_
      obtain ⟨v6, M5, ev6, h⟩ := ob2_eq h
      refine z_callVi (h := A.length) (As := [.int (M1.1 11)]) (rest := []) (pc := 52) C dX7_drawnEdit_52 ml_X7_377 (kX7_draws _ _ _ _ A M1 B (M1.1 11) (v6, M5) ev6) (hM_o A M1 B) rfl rfl rfl (Nat.le_of_ble_eq_true rfl) (by decide) ?_
      refine z_istore_n (pc := 55) C dX7_drawnEdit_55 rfl (by decide) (show zput _ _ _ = [(2, .int v6), (1, .int v2), (0, .ref A.length)] from rfl) ?_
      refine z_iload_n (pc := 56) C 1 dX7_drawnEdit_56 rfl rfl ?_
      refine z_iconst (pc := 57) C dX7_drawnEdit_57 (v := (2 : Int32)) (by decide) ?_
      refine z_ic_ne (pc := 58) C dX7_drawnEdit_58 (tgt := 71) (by decide) (fun c7 => ?_) (fun c7 => ?_)
      · rw [if_neg c7] at h
        refine z_aload_n (pc := 71) C 2 dX7_drawnEdit_71 rfl rfl ?_
        refine z_get (pc := 72) C dX7_drawnEdit_72 fl_X7_123 (hM_o A M5 B) rfl ?_
        refine z_sipush (pc := 75) C dX7_drawnEdit_75 (v := (3000 : Int32)) (by decide) ?_
        refine z_ic_ge (pc := 78) C dX7_drawnEdit_78 (tgt := 93) (by decide) (fun c8 => ?_) (fun c8 => ?_)
        · rw [if_pos c8] at h
          obtain rfl := Option.some.inj h
          exact z_vret (pc := 93) C E dX7_drawnEdit_93 ⟨rfl, rfl⟩
        · rw [if_neg c8] at h
          refine z_aload_n (pc := 81) C 2 dX7_drawnEdit_81 rfl rfl ?_
          refine z_iload_n (pc := 82) C 0 dX7_drawnEdit_82 rfl rfl ?_
          refine z_iconst (pc := 83) C dX7_drawnEdit_83 (v := (1 : Int32)) (by decide) ?_
          obtain ⟨M9, eM9, h⟩ := ob1_eq h
          refine z_callVv (h := A.length) (As := [.int v6, .int (1 : Int32)]) (rest := []) (pc := 84) C dX7_drawnEdit_84 ml_X7_223 (kX7_laysOut _ _ _ _ A M5 B v6 (1 : Int32) M9 eM9) (hM_o A M5 B) rfl rfl rfl (Nat.le_of_ble_eq_true rfl) (by decide) ?_
          refine z_aload_n (pc := 87) C 2 dX7_drawnEdit_87 rfl rfl ?_
          refine z_iconst (pc := 88) C dX7_drawnEdit_88 (v := (1 : Int32)) (by decide) ?_
          refine z_iconst (pc := 89) C dX7_drawnEdit_89 (v := (0 : Int32)) (by decide) ?_
          obtain ⟨M10, eM10, h⟩ := ob1_eq h
          refine z_callVv (h := A.length) (As := [.int (1 : Int32), .int (0 : Int32)]) (rest := []) (pc := 90) C dX7_drawnEdit_90 ml_X7_226 (kX7_laysIn _ _ _ _ A M9 B (1 : Int32) (0 : Int32) M10 eM10) (hM_o A M9 B) rfl rfl rfl (Nat.le_of_ble_eq_true rfl) (by decide) ?_
          obtain rfl := Option.some.inj h
          exact z_vret (pc := 93) C E dX7_drawnEdit_93 ⟨rfl, rfl⟩
      · rw [if_pos c7] at h
        refine z_aload_n (pc := 61) C 2 dX7_drawnEdit_61 rfl rfl ?_
        refine z_iload_n (pc := 62) C 0 dX7_drawnEdit_62 rfl rfl ?_
        refine z_iconst (pc := 63) C dX7_drawnEdit_63 (v := (1 : Int32)) (by decide) ?_
        obtain ⟨v12, M11, ev12, h⟩ := ob2_eq h
        refine z_callVi (h := A.length) (As := [.int v6, .int (1 : Int32)]) (rest := []) (pc := 64) C dX7_drawnEdit_64 ml_X7_217 (kX7_takesOut _ _ _ _ A M5 B v6 (1 : Int32) (v12, M11) ev12) (hM_o A M5 B) rfl rfl rfl (Nat.le_of_ble_eq_true rfl) (by decide) ?_
        refine z_pop (pc := 67) C dX7_drawnEdit_67 rfl ?_
        refine z_goto (pc := 68) C dX7_drawnEdit_68 (tgt := 93) (by decide) ?_
        obtain rfl := Option.some.inj h
        exact z_vret (pc := 93) C E dX7_drawnEdit_93 ⟨rfl, rfl⟩
  · rw [if_neg c3] at h
    refine z_bipush (pc := 11) C dX7_drawnEdit_11 (v := (97 : Int32)) (by decide) ?_
    refine z_aload_n (pc := 13) C 1 dX7_drawnEdit_13 rfl rfl ?_
    refine z_bipush (pc := 14) C dX7_drawnEdit_14 (v := (26 : Int32)) (by decide) ?_
    obtain ⟨v14, M13, ev14, h⟩ := ob2_eq h
    refine z_callVi (h := A.length) (As := [.int (26 : Int32)]) (rest := [.int (97 : Int32)]) (pc := 16) C dX7_drawnEdit_16 ml_X7_377 (kX7_draws _ _ _ _ A M1 B (26 : Int32) (v14, M13) ev14) (hM_o A M1 B) rfl rfl rfl (Nat.le_of_ble_eq_true rfl) (by decide) ?_
    refine z_iadd (pc := 19) C dX7_drawnEdit_19 ?_
    obtain ⟨y15, ey15, h⟩ := zlet_eq h
    refine z_topi ey15 ?_
    refine z_istore_n (pc := 20) C dX7_drawnEdit_20 rfl (by decide) (show zput _ _ _ = [(2, .int y15), (1, .int v2), (0, .ref A.length)] from rfl) ?_
    refine z_aload_n (pc := 21) C 2 dX7_drawnEdit_21 rfl rfl ?_
    refine z_aload_n (pc := 22) C 2 dX7_drawnEdit_22 rfl rfl ?_
    refine z_aload_n (pc := 23) C 2 dX7_drawnEdit_23 rfl rfl ?_
    refine z_get (pc := 24) C dX7_drawnEdit_24 fl_X7_123 (hM_o A M13 B) rfl ?_
    refine z_iconst (pc := 27) C dX7_drawnEdit_27 (v := (1 : Int32)) (by decide) ?_
    refine z_iadd (pc := 28) C dX7_drawnEdit_28 ?_
    obtain ⟨v17, M16, ev17, h⟩ := ob2_eq h
    refine z_callVi (h := A.length) (As := [.int ((M13.1 11) + (1 : Int32))]) (rest := [.ref A.length]) (pc := 29) C dX7_drawnEdit_29 ml_X7_377 (kX7_draws _ _ _ _ A M13 B ((M13.1 11) + (1 : Int32)) (v17, M16) ev17) (hM_o A M13 B) rfl rfl rfl (Nat.le_of_ble_eq_true rfl) (by decide) ?_
    refine z_iload_n (pc := 32) C 0 dX7_drawnEdit_32 rfl rfl ?_
    obtain ⟨v19, M18, ev19, h⟩ := ob2_eq h
    refine z_callVi (h := A.length) (As := [.int v17, .int y15]) (rest := []) (pc := 33) C dX7_drawnEdit_33 ml_X7_214 (kX7_typesIn _ _ _ _ A M16 B v17 y15 (v19, M18) ev19) (hM_o A M16 B) rfl rfl rfl (Nat.le_of_ble_eq_true rfl) (by decide) ?_
    refine z_pop (pc := 36) C dX7_drawnEdit_36 rfl ?_
    refine z_goto (pc := 37) C dX7_drawnEdit_37 (tgt := 93) (by decide) ?_
    obtain rfl := Option.some.inj h
    exact z_vret (pc := 93) C E dX7_drawnEdit_93 ⟨rfl, rfl⟩
theorem kX7_drawnEdit (l : Launch) (D : va_G) (cA : Nat → ClassId) (b : Nat) (A : zH) (M : MS) (B : zH)  (out : MS) (h : fX7_drawnEdit M = some out) : zM l D cA b yX7_drawnEdit cX7_drawnEdit 3 none 5 111 [.ref A.length] (hG A M B) (poV (hG A out B)) := z_entry rfl (Nat.le_of_ble_eq_true rfl) (fun X C E _ _ _ => wfX7_drawnEdit C E M h)
def fX7_count_b41 (M : MS) (x1 : Int32) (x2 : Int32) : Option (Int32 × MS) :=
    if x1 = (0 : Int32) then (some ((M.1 11), M)) else
    if x1 = (1 : Int32) then (ob1 (fX7_lines M ) fun v3 =>
    some (v3, M)) else
    if x1 = (2 : Int32) then (ob1 (fX7_pieces M ) fun v5 =>
    some (v5, M)) else
    if x1 = (3 : Int32) then (some ((M.1 9), M)) else
    if x1 = (4 : Int32) then (some ((M.1 17), M)) else
    if x1 = (5 : Int32) then (some ((M.1 20), M)) else
    if x1 = (6 : Int32) then (some (x2, M)) else
    if x1 = (7 : Int32) then (some ((M.1 1), M)) else
    if x1 = (8 : Int32) then (some ((M.1 4), M)) else
    if x1.toInt < 0 ∨ 8 < x1.toInt then (some ((-100 : Int32), M)) else none
set_option maxRecDepth 100000 in
set_option maxHeartbeats 4000000 in
theorem wfX7_count_b41 {X : zX} {A B : zH} {out : Int32 × MS} (C : zOK X cX7_count yX7_count.cls 4 (some .int) 4 86) (E : zPost X (poI out.1 (hG A out.2 B))) (M : MS) (x1 : Int32) (x2 : Int32) (h : fX7_count_b41 M x1 x2 = some out) : zZ X 41 [(0, .ref A.length), (1, .int x1), (2, .int x2)] [] (hG A M B) := by
  rw [fX7_count_b41] at h
  refine z_iload_n (pc := 41) C 1 dX7_count_41 rfl rfl ?_
  by_cases c1 : x1 = (0 : Int32)
  · rw [if_pos c1] at h
    refine z_tableIn (pc := 42) (tgt := 92) (off := 50) C dX7_count_42 (by rw [c1]; decide) (by rw [c1]; decide) (by rw [c1]; decide) (by decide) ?_
    refine z_aload_n (pc := 92) C 0 dX7_count_92 rfl rfl ?_
    refine z_get (pc := 93) C dX7_count_93 fl_X7_123 (hM_o A M B) rfl ?_
    obtain rfl := Option.some.inj h
    exact z_iret (pc := 96) C E dX7_count_96 ⟨rfl, rfl⟩
  rw [if_neg c1] at h
  by_cases c2 : x1 = (1 : Int32)
  · rw [if_pos c2] at h
    refine z_tableIn (pc := 42) (tgt := 97) (off := 55) C dX7_count_42 (by rw [c2]; decide) (by rw [c2]; decide) (by rw [c2]; decide) (by decide) ?_
    refine z_aload_n (pc := 97) C 0 dX7_count_97 rfl rfl ?_
    obtain ⟨v3, ev3, h⟩ := ob1_eq h
    refine z_callVi (h := A.length) (As := []) (rest := []) (pc := 98) C dX7_count_98 ml_X7_245 (kX7_lines _ _ _ _ A M B  v3 ev3) (hM_o A M B) rfl rfl rfl (Nat.le_of_ble_eq_true rfl) (by decide) ?_
    obtain rfl := Option.some.inj h
    exact z_iret (pc := 101) C E dX7_count_101 ⟨rfl, rfl⟩
  rw [if_neg c2] at h
  by_cases c4 : x1 = (2 : Int32)
  · rw [if_pos c4] at h
    refine z_tableIn (pc := 42) (tgt := 102) (off := 60) C dX7_count_42 (by rw [c4]; decide) (by rw [c4]; decide) (by rw [c4]; decide) (by decide) ?_
    refine z_aload_n (pc := 102) C 0 dX7_count_102 rfl rfl ?_
    obtain ⟨v5, ev5, h⟩ := ob1_eq h
    refine z_callVi (h := A.length) (As := []) (rest := []) (pc := 103) C dX7_count_103 ml_X7_315 (kX7_pieces _ _ _ _ A M B  v5 ev5) (hM_o A M B) rfl rfl rfl (Nat.le_of_ble_eq_true rfl) (by decide) ?_
    obtain rfl := Option.some.inj h
    exact z_iret (pc := 106) C E dX7_count_106 ⟨rfl, rfl⟩
  rw [if_neg c4] at h
  by_cases c6 : x1 = (3 : Int32)
  · rw [if_pos c6] at h
    refine z_tableIn (pc := 42) (tgt := 107) (off := 65) C dX7_count_42 (by rw [c6]; decide) (by rw [c6]; decide) (by rw [c6]; decide) (by decide) ?_
    refine z_aload_n (pc := 107) C 0 dX7_count_107 rfl rfl ?_
    refine z_get (pc := 108) C dX7_count_108 fl_X7_33 (hM_o A M B) rfl ?_
    obtain rfl := Option.some.inj h
    exact z_iret (pc := 111) C E dX7_count_111 ⟨rfl, rfl⟩
  rw [if_neg c6] at h
  by_cases c7 : x1 = (4 : Int32)
  · rw [if_pos c7] at h
    refine z_tableIn (pc := 42) (tgt := 112) (off := 70) C dX7_count_42 (by rw [c7]; decide) (by rw [c7]; decide) (by rw [c7]; decide) (by decide) ?_
    refine z_aload_n (pc := 112) C 0 dX7_count_112 rfl rfl ?_
    refine z_get (pc := 113) C dX7_count_113 fl_X7_166 (hM_o A M B) rfl ?_
    obtain rfl := Option.some.inj h
    exact z_iret (pc := 116) C E dX7_count_116 ⟨rfl, rfl⟩
  rw [if_neg c7] at h
  by_cases c8 : x1 = (5 : Int32)
  · rw [if_pos c8] at h
    refine z_tableIn (pc := 42) (tgt := 117) (off := 75) C dX7_count_42 (by rw [c8]; decide) (by rw [c8]; decide) (by rw [c8]; decide) (by decide) ?_
    refine z_aload_n (pc := 117) C 0 dX7_count_117 rfl rfl ?_
    refine z_get (pc := 118) C dX7_count_118 fl_X7_179 (hM_o A M B) rfl ?_
    obtain rfl := Option.some.inj h
    exact z_iret (pc := 121) C E dX7_count_121 ⟨rfl, rfl⟩
  rw [if_neg c8] at h
  by_cases c9 : x1 = (6 : Int32)
  · rw [if_pos c9] at h
    refine z_tableIn (pc := 42) (tgt := 122) (off := 80) C dX7_count_42 (by rw [c9]; decide) (by rw [c9]; decide) (by rw [c9]; decide) (by decide) ?_
    refine z_iload_n (pc := 122) C 2 dX7_count_122 rfl rfl ?_
    obtain rfl := Option.some.inj h
    exact z_iret (pc := 123) C E dX7_count_123 ⟨rfl, rfl⟩
  rw [if_neg c9] at h
  by_cases c10 : x1 = (7 : Int32)
  · rw [if_pos c10] at h
    refine z_tableIn (pc := 42) (tgt := 124) (off := 82) C dX7_count_42 (by rw [c10]; decide) (by rw [c10]; decide) (by rw [c10]; decide) (by decide) ?_
    refine z_aload_n (pc := 124) C 0 dX7_count_124 rfl rfl ?_
    refine z_get (pc := 125) C dX7_count_125 fl_X7_11 (hM_o A M B) rfl ?_
    obtain rfl := Option.some.inj h
    exact z_iret (pc := 128) C E dX7_count_128 ⟨rfl, rfl⟩
  rw [if_neg c10] at h
  by_cases c11 : x1 = (8 : Int32)
  · rw [if_pos c11] at h
    refine z_tableIn (pc := 42) (tgt := 129) (off := 87) C dX7_count_42 (by rw [c11]; decide) (by rw [c11]; decide) (by rw [c11]; decide) (by decide) ?_
    refine z_aload_n (pc := 129) C 0 dX7_count_129 rfl rfl ?_
    refine z_get (pc := 130) C dX7_count_130 fl_X7_14 (hM_o A M B) rfl ?_
    obtain rfl := Option.some.inj h
    exact z_iret (pc := 133) C E dX7_count_133 ⟨rfl, rfl⟩
  rw [if_neg c11] at h
  by_cases c12 : x1.toInt < 0 ∨ 8 < x1.toInt
  · rw [if_pos c12] at h
    refine z_tableOut (pc := 42) (tgt := 134) C dX7_count_42 c12 (by decide) ?_
    refine z_bipush (pc := 134) C dX7_count_134 (v := (-100 : Int32)) (by decide) ?_
    obtain rfl := Option.some.inj h
    exact z_iret (pc := 136) C E dX7_count_136 ⟨rfl, rfl⟩
  · rw [if_neg c12] at h
    cases h
def fX7_count_b33 (k9 : MS → Int32 → Int32 → Int32 → Option (Int32 × MS)) (M : MS) (x1 : Int32) (x3 : Int32) (s0 : Int32) (s1 : Int32) : Option (Int32 × MS) :=
    zlet ((s1 ||| s0)) fun y1 =>
    zlet (x3 + (1 : Int32)) fun y2 =>
    k9 M x1 y1 y2
set_option maxRecDepth 100000 in
set_option maxHeartbeats 4000000 in
theorem wfX7_count_b33 {X : zX} {A B : zH} {out : Int32 × MS} (C : zOK X cX7_count yX7_count.cls 4 (some .int) 4 86) (E : zPost X (poI out.1 (hG A out.2 B))) (k9 : MS → Int32 → Int32 → Int32 → Option (Int32 × MS)) (hk9 : ∀ (M : MS) (x1 : Int32) (x2 : Int32) (x3 : Int32), k9 M x1 x2 x3 = some out → zZ X 9 [(0, .ref A.length), (1, .int x1), (2, .int x2), (3, .int x3)] [] (hG A M B)) (M : MS) (x1 : Int32) (x3 : Int32) (s0 : Int32) (s1 : Int32) (h : fX7_count_b33 k9 M x1 x3 s0 s1 = some out) : zZ X 33 [(0, .ref A.length), (1, .int x1), (3, .int x3)] [.int s0, .int s1] (hG A M B) := by
  rw [fX7_count_b33] at h
  refine z_ior (pc := 33) C dX7_count_33 ?_
  obtain ⟨y1, ey1, h⟩ := zlet_eq h
  refine z_topi ey1 ?_
  refine z_istore_n (pc := 34) C dX7_count_34 rfl (by decide) (show zput _ _ _ = [(2, .int y1), (0, .ref A.length), (1, .int x1), (3, .int x3)] from rfl) ?_
  obtain ⟨y2, ey2, h⟩ := zlet_eq h
  refine z_iinc (pc := 35) (v := y2) C 3 dX7_count_35 rfl (by rw [ey2]; rfl) (by decide) (show zput _ _ _ = [(3, .int y2), (2, .int y1), (0, .ref A.length), (1, .int x1)] from rfl) ?_
  refine z_goto (pc := 38) C dX7_count_38 (tgt := 9) (by decide) ?_
  exact z_subL [2, 3, 1, 0] (hk9 M x1 y1 y2 h) rfl
def fX7_count_b9 : Nat → MS → Int32 → Int32 → Int32 → Option (Int32 × MS)
  | 0, _, _, _, _ => none
  | n + 1, M, x1, x2, x3 =>
    if (8 : Int32) ≤ x3 then (fX7_count_b41 M x1 x2) else
    ob1 (rd 8 (M.2.1 12) x3) fun v2 =>
    if v2 = (-1 : Int32) then (fX7_count_b33 (fX7_count_b9 n) M x1 x3 (0 : Int32) x2) else
    fX7_count_b33 (fX7_count_b9 n) M x1 x3 ((1 : Int32) <<< (x3 &&& 31)) x2
set_option maxRecDepth 100000 in
set_option maxHeartbeats 4000000 in
theorem wfX7_count_b9 {X : zX} {A B : zH} {out : Int32 × MS} (C : zOK X cX7_count yX7_count.cls 4 (some .int) 4 86) (E : zPost X (poI out.1 (hG A out.2 B))) : ∀ (n : Nat) (M : MS) (x1 : Int32) (x2 : Int32) (x3 : Int32) (h : fX7_count_b9 n M x1 x2 x3 = some out), zZ X 9 [(0, .ref A.length), (1, .int x1), (2, .int x2), (3, .int x3)] [] (hG A M B) := by
  intro n
  induction n with
  | zero => intro M x1 x2 x3 h; cases h
  | succ n ih =>
    intro M x1 x2 x3 h
    rw [fX7_count_b9] at h
    refine z_iload_n (pc := 9) C 3 dX7_count_9 rfl rfl ?_
    refine z_bipush (pc := 10) C dX7_count_10 (v := (8 : Int32)) (by decide) ?_
    refine z_ic_ge (pc := 12) C dX7_count_12 (tgt := 41) (by decide) (fun c1 => ?_) (fun c1 => ?_)
    · rw [if_pos c1] at h
      exact z_subL [0, 1, 2] (wfX7_count_b41 C E M x1 x2 h) rfl
    · rw [if_neg c1] at h
      refine z_iload_n (pc := 15) C 2 dX7_count_15 rfl rfl ?_
      refine z_aload_n (pc := 16) C 0 dX7_count_16 rfl rfl ?_
      refine z_get (pc := 17) C dX7_count_17 fl_X7_51 (hM_o A M B) rfl ?_
      refine z_iload_n (pc := 20) C 3 dX7_count_20 rfl rfl ?_
      obtain ⟨v2, ev2, h⟩ := ob1_eq h
      refine z_iald (pc := 21) C dX7_count_21 (hMa_12 A M B) (rd_eq ev2).1 (z_topi (rd_eq ev2).2 ?_)
      refine z_iconst (pc := 22) C dX7_count_22 (v := (-1 : Int32)) (by decide) ?_
      refine z_ic_eq (pc := 23) C dX7_count_23 (tgt := 32) (by decide) (fun c3 => ?_) (fun c3 => ?_)
      · rw [if_pos c3] at h
        refine z_iconst (pc := 32) C dX7_count_32 (v := (0 : Int32)) (by decide) ?_
        exact z_subL [0, 1, 3] (wfX7_count_b33 C E (fX7_count_b9 n) ih M x1 x3 (0 : Int32) x2 h) rfl
      · rw [if_neg c3] at h
        refine z_iconst (pc := 26) C dX7_count_26 (v := (1 : Int32)) (by decide) ?_
        refine z_iload_n (pc := 27) C 3 dX7_count_27 rfl rfl ?_
        refine z_ishl (pc := 28) C dX7_count_28 ?_
        refine z_goto (pc := 29) C dX7_count_29 (tgt := 33) (by decide) ?_
        exact z_subL [0, 1, 3] (wfX7_count_b33 C E (fX7_count_b9 n) ih M x1 x3 ((1 : Int32) <<< (x3 &&& 31)) x2 h) rfl
def fX7_count (M : MS) (x1 : Int32) : Option (Int32 × MS) :=
    zlet (mI M 0 (0 : Int32)) fun M1 =>
    fX7_count_b9 FU M1 x1 (0 : Int32) (0 : Int32)
set_option maxRecDepth 100000 in
set_option maxHeartbeats 4000000 in
theorem wfX7_count {X : zX} {A B : zH} {out : Int32 × MS} (C : zOK X cX7_count yX7_count.cls 4 (some .int) 4 86) (E : zPost X (poI out.1 (hG A out.2 B))) (M : MS) (x1 : Int32) (h : fX7_count M x1 = some out) : zZ X 0 [(0, .ref A.length), (1, .int x1)] [] (hG A M B) := by
  rw [fX7_count] at h
  refine z_aload_n (pc := 0) C 0 dX7_count_0 rfl rfl ?_
  refine z_iconst (pc := 1) C dX7_count_1 (v := (0 : Int32)) (by decide) ?_
  obtain ⟨M1, eM1, h⟩ := zlet_eq h
  refine z_put (pc := 2) C dX7_count_2 fl_X7_1w (hM_o A M B) (fun _ => rfl) (fun _ => rfl) (Nat.le_of_ble_eq_true rfl) (hMi_0 A B eM1) ?_
  refine z_iconst (pc := 5) C dX7_count_5 (v := (0 : Int32)) (by decide) ?_
  refine z_istore_n (pc := 6) C dX7_count_6 rfl (by decide) (show zput _ _ _ = [(2, .int (0 : Int32)), (0, .ref A.length), (1, .int x1)] from rfl) ?_
  refine z_iconst (pc := 7) C dX7_count_7 (v := (0 : Int32)) (by decide) ?_
  refine z_istore_n (pc := 8) C dX7_count_8 rfl (by decide) (show zput _ _ _ = [(3, .int (0 : Int32)), (2, .int (0 : Int32)), (0, .ref A.length), (1, .int x1)] from rfl) ?_
  exact z_subL [2, 3, 1, 0] (wfX7_count_b9 C E FU M1 x1 (0 : Int32) (0 : Int32) h) rfl
theorem kX7_count (l : Launch) (D : va_G) (cA : Nat → ClassId) (b : Nat) (A : zH) (M : MS) (B : zH) (x1 : Int32) (out : Int32 × MS) (h : fX7_count M x1 = some out) : zM l D cA b yX7_count cX7_count 4 (some .int) 4 86 [.ref A.length, .int x1] (hG A M B) (poI out.1 (hG A out.2 B)) := z_entry rfl (Nat.le_of_ble_eq_true rfl) (fun X C E _ _ _ => wfX7_count C E M x1 h)
def fX7_row (M : MS) (x1 : Int32) : Option (Int64 × MS) :=
    zlet (mI M 0 (0 : Int32)) fun M1 =>
    ob1 (fX7_in x1.toInt64 (0 : Int64) (((M1.1 1) - (1 : Int32)).toInt64)) fun v2 =>
    if v2 = 0 then (zlet (mI M1 0 (1 : Int32)) fun M5 =>
    some ((0 : Int64), M5)) else
    ob1 (rd 24 M1.2.2.1 x1) fun v4 =>
    some (v4, M1)
set_option maxRecDepth 100000 in
set_option maxHeartbeats 4000000 in
theorem wfX7_row {X : zX} {A B : zH} {out : Int64 × MS} (C : zOK X cX7_row yX7_row.cls 2 (some .long) 1 25) (E : zPost X (poL out.1 (hG A out.2 B))) (M : MS) (x1 : Int32) (h : fX7_row M x1 = some out) : zZ X 0 [(0, .ref A.length), (1, .int x1)] [] (hG A M B) := by
  rw [fX7_row] at h
  refine z_aload_n (pc := 0) C 0 dX7_row_0 rfl rfl ?_
  refine z_iconst (pc := 1) C dX7_row_1 (v := (0 : Int32)) (by decide) ?_
  obtain ⟨M1, eM1, h⟩ := zlet_eq h
  refine z_put (pc := 2) C dX7_row_2 fl_X7_1w (hM_o A M B) (fun _ => rfl) (fun _ => rfl) (Nat.le_of_ble_eq_true rfl) (hMi_0 A B eM1) ?_
  refine z_iload_n (pc := 5) C 1 dX7_row_5 rfl rfl ?_
  refine z_i2l (pc := 6) C dX7_row_6 ?_
  refine z_lconst (pc := 7) C dX7_row_7 (v := (0 : Int64)) (by decide) ?_
  refine z_aload_n (pc := 8) C 0 dX7_row_8 rfl rfl ?_
  refine z_get (pc := 9) C dX7_row_9 fl_X7_11 (hM_o A M1 B) rfl ?_
  refine z_iconst (pc := 12) C dX7_row_12 (v := (1 : Int32)) (by decide) ?_
  refine z_isub (pc := 13) C dX7_row_13 ?_
  refine z_i2l (pc := 14) C dX7_row_14 ?_
  obtain ⟨v2, ev2, h⟩ := ob1_eq h
  refine z_callSi (As := [.long x1.toInt64, .long (0 : Int64), .long (((M1.1 1) - (1 : Int32)).toInt64)]) (rest := []) (pc := 15) C dX7_row_15 ml_X7_21 (kX7_in _ _ _ _ (hG A M1 B) x1.toInt64 (0 : Int64) (((M1.1 1) - (1 : Int32)).toInt64) v2 ev2) rfl rfl (Nat.le_of_ble_eq_true rfl) (by decide) ?_
  refine z_if_ne (pc := 18) C dX7_row_18 (tgt := 28) (by decide) (fun c3 => ?_) (fun c3 => ?_)
  · rw [if_neg c3] at h
    refine z_aload_n (pc := 28) C 0 dX7_row_28 rfl rfl ?_
    refine z_get (pc := 29) C dX7_row_29 fl_X7_7 (hM_o A M1 B) rfl ?_
    refine z_iload_n (pc := 32) C 1 dX7_row_32 rfl rfl ?_
    obtain ⟨v4, ev4, h⟩ := ob1_eq h
    refine z_lald (pc := 33) C dX7_row_33 (hMa_2 A M1 B) (rd_eq ev4).1 (z_topl (rd_eq ev4).2 ?_)
    obtain rfl := Option.some.inj h
    exact z_lret (pc := 34) C E dX7_row_34 ⟨rfl, rfl⟩
  · rw [if_pos c3] at h
    refine z_aload_n (pc := 21) C 0 dX7_row_21 rfl rfl ?_
    refine z_iconst (pc := 22) C dX7_row_22 (v := (1 : Int32)) (by decide) ?_
    obtain ⟨M5, eM5, h⟩ := zlet_eq h
    refine z_put (pc := 23) C dX7_row_23 fl_X7_1w (hM_o A M1 B) (fun _ => rfl) (fun _ => rfl) (Nat.le_of_ble_eq_true rfl) (hMi_0 A B eM5) ?_
    refine z_lconst (pc := 26) C dX7_row_26 (v := (0 : Int64)) (by decide) ?_
    obtain rfl := Option.some.inj h
    exact z_lret (pc := 27) C E dX7_row_27 ⟨rfl, rfl⟩
theorem kX7_row (l : Launch) (D : va_G) (cA : Nat → ClassId) (b : Nat) (A : zH) (M : MS) (B : zH) (x1 : Int32) (out : Int64 × MS) (h : fX7_row M x1 = some out) : zM l D cA b yX7_row cX7_row 2 (some .long) 1 25 [.ref A.length, .int x1] (hG A M B) (poL out.1 (hG A out.2 B)) := z_entry rfl (Nat.le_of_ble_eq_true rfl) (fun X C E _ _ _ => wfX7_row C E M x1 h)
