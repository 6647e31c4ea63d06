def fX7_thrown (M : MS) : Option Int32 :=
some (M.1 0)
set_option maxRecDepth 100000 in
set_option maxHeartbeats 4000000 in
theorem wfX7_thrown {X : zX} {A B : zH} {M : MS} {out : Int32} (C : zOK X cX7_thrown yX7_thrown.cls 1 (some .int) 0 0) (E : zPost X (poI out (hG A M B))) (h : fX7_thrown M = some out) : zZ X 0 [(0, .ref A.length)] [] (hG A M B) := by
  rw [fX7_thrown] at h
  refine z_aload_n (pc := 0) C 0 dX7_thrown_0 rfl rfl ?_
  refine z_get (pc := 1) C dX7_thrown_1 fl_X7_1 (hM_o A M B) rfl ?_
  obtain rfl := Option.some.inj h
  exact z_iret (pc := 4) C E dX7_thrown_4 ⟨rfl, rfl⟩
theorem cX7_thrown (l : Launch) (D : va_G) (cA : Nat → ClassId) (b : Nat) (A : zH) (M : MS) (B : zH)  (out : Int32) (h : fX7_thrown M = some out) : zM l D cA b yX7_thrown cX7_thrown 1 (some .int) 0 0 [.ref A.length] (hG A M B) (poI out (hG A M B)) := z_entry rfl (by decide) (fun X C E _ _ _ => wfX7_thrown C E h)
def fX7_refuse (M : MS) : Option (Int32 × MS) :=
zlet (mI M 0 (1 : Int32)) fun M1 =>
some ((0 : Int32), M1)
set_option maxRecDepth 100000 in
set_option maxHeartbeats 4000000 in
theorem wfX7_refuse {X : zX} {A B : zH} {out : Int32 × MS} (C : zOK X cX7_refuse yX7_refuse.cls 1 (some .int) 0 0) (E : zPost X (poI out.1 (hG A out.2 B))) (M : MS) (h : fX7_refuse M = some out) : zZ X 0 [(0, .ref A.length)] [] (hG A M B) := by
  rw [fX7_refuse] at h
  refine z_aload_n (pc := 0) C 0 dX7_refuse_0 rfl rfl ?_
  refine z_iconst (pc := 1) C dX7_refuse_1 (v := (1 : Int32)) (by decide) ?_
  obtain ⟨M1, eM1, h⟩ := zlet_eq h
  refine z_put (pc := 2) C dX7_refuse_2 fl_X7_1w (hM_o A M B) (fun _ => rfl) (fun _ => rfl) (by decide) (hMi_0 A B eM1) ?_
  refine z_iconst (pc := 5) C dX7_refuse_5 (v := (0 : Int32)) (by decide) ?_
  obtain rfl := Option.some.inj h
  exact z_iret (pc := 6) C E dX7_refuse_6 ⟨rfl, rfl⟩
theorem cX7_refuse (l : Launch) (D : va_G) (cA : Nat → ClassId) (b : Nat) (A : zH) (M : MS) (B : zH)  (out : Int32 × MS) (h : fX7_refuse M = some out) : zM l D cA b yX7_refuse cX7_refuse 1 (some .int) 0 0 [.ref A.length] (hG A M B) (poI out.1 (hG A out.2 B)) := z_entry rfl (by decide) (fun X C E _ _ _ => wfX7_refuse C E M h)
def fX7_in (x0 : Int64) (x2 : Int64) (x4 : Int64) : Option Int32 :=
if (lg_cmp x0 x2) < 0 then (some (0 : Int32)) else
if 0 < (lg_cmp x0 x4) then (some (0 : Int32)) else
some (1 : Int32)
set_option maxRecDepth 100000 in
set_option maxHeartbeats 4000000 in
theorem wfX7_in {X : zX} {G : zH} {out : Int32} (C : zOK X cX7_in yX7_in.cls 6 (some .boolean) 0 0) (E : zPost X (poI out G)) (x0 : Int64) (x2 : Int64) (x4 : Int64) (h : fX7_in x0 x2 x4 = some out) : zZ X 0 [(0, .long x0), (2, .long x2), (4, .long x4)] [] G := by
  rw [fX7_in] at h
  refine z_lload_n (pc := 0) C 0 dX7_in_0 rfl rfl ?_
  refine z_lload_n (pc := 1) C 1 dX7_in_1 rfl rfl ?_
  refine z_lcmp (pc := 2) C dX7_in_2 ?_
  refine z_if_lt (pc := 3) C dX7_in_3 (tgt := 17) (by decide) (fun c1 => ?_) (fun c1 => ?_)
  · rw [if_pos c1] at h
    refine z_iconst (pc := 17) C dX7_in_17 (v := (0 : Int32)) (by decide) ?_
    obtain rfl := Option.some.inj h
    exact z_zret (pc := 18) C E dX7_in_18 rfl ⟨rfl, rfl⟩
  · rw [if_neg c1] at h
    refine z_lload_n (pc := 6) C 0 dX7_in_6 rfl rfl ?_
    refine z_lload (pc := 7) C 2 dX7_in_7 rfl ?_
    refine z_lcmp (pc := 9) C dX7_in_9 ?_
    refine z_if_gt (pc := 10) C dX7_in_10 (tgt := 17) (by decide) (fun c2 => ?_) (fun c2 => ?_)
    · rw [if_pos c2] at h
      refine z_iconst (pc := 17) C dX7_in_17 (v := (0 : Int32)) (by decide) ?_
      obtain rfl := Option.some.inj h
      exact z_zret (pc := 18) C E dX7_in_18 rfl ⟨rfl, rfl⟩
    · rw [if_neg c2] at h
      refine z_iconst (pc := 13) C dX7_in_13 (v := (1 : Int32)) (by decide) ?_
      refine z_goto (pc := 14) C dX7_in_14 (tgt := 18) (by decide) ?_
      obtain rfl := Option.some.inj h
      exact z_zret (pc := 18) C E dX7_in_18 rfl ⟨rfl, rfl⟩
theorem cX7_in (l : Launch) (D : va_G) (cA : Nat → ClassId) (b : Nat) (G : zH) (x0 : Int64) (x2 : Int64) (x4 : Int64) (out : Int32) (h : fX7_in x0 x2 x4 = some out) : zM l D cA b yX7_in cX7_in 6 (some .boolean) 0 0 [.long x0, .long x2, .long x4] G (poI out G) := z_entry rfl (by decide) (fun X C E _ _ _ => wfX7_in C E x0 x2 x4 h)
def fX7_flag (x0 : Int32) : Option Int32 :=
if x0 = 0 then (some (0 : Int32)) else
some (1 : Int32)
set_option maxRecDepth 100000 in
set_option maxHeartbeats 4000000 in
theorem wfX7_flag {X : zX} {G : zH} {out : Int32} (C : zOK X cX7_flag yX7_flag.cls 1 (some .int) 0 0) (E : zPost X (poI out G)) (x0 : Int32) (h : fX7_flag x0 = some out) : zZ X 0 [(0, .int x0)] [] G := by
  rw [fX7_flag] at h
  refine z_iload_n (pc := 0) C 0 dX7_flag_0 rfl rfl ?_
  refine z_if_eq (pc := 1) C dX7_flag_1 (tgt := 8) (by decide) (fun c1 => ?_) (fun c1 => ?_)
  · rw [if_pos c1] at h
    refine z_iconst (pc := 8) C dX7_flag_8 (v := (0 : Int32)) (by decide) ?_
    obtain rfl := Option.some.inj h
    exact z_iret (pc := 9) C E dX7_flag_9 ⟨rfl, rfl⟩
  · rw [if_neg c1] at h
    refine z_iconst (pc := 4) C dX7_flag_4 (v := (1 : Int32)) (by decide) ?_
    refine z_goto (pc := 5) C dX7_flag_5 (tgt := 9) (by decide) ?_
    obtain rfl := Option.some.inj h
    exact z_iret (pc := 9) C E dX7_flag_9 ⟨rfl, rfl⟩
theorem cX7_flag (l : Launch) (D : va_G) (cA : Nat → ClassId) (b : Nat) (G : zH) (x0 : Int32) (out : Int32) (h : fX7_flag x0 = some out) : zM l D cA b yX7_flag cX7_flag 1 (some .int) 0 0 [.int x0] G (poI out G) := z_entry rfl (by decide) (fun X C E _ _ _ => wfX7_flag C E x0 h)
def fX7_enters (M : MS) (x1 : Int64) : Option MS :=
ob1 (wr 24 (M.1 1) (mL M (vp_updL M.2.2.1 (M.1 1).toNatClampNeg x1))) fun M1 =>
zlet (mI M1 1 ((M1.1 1) + (1 : Int32))) fun M2 =>
some M2
set_option maxRecDepth 100000 in
set_option maxHeartbeats 4000000 in
theorem wfX7_enters {X : zX} {A B : zH} {out : MS} (C : zOK X cX7_enters yX7_enters.cls 3 none 0 0) (E : zPost X (poV (hG A out B))) (M : MS) (x1 : Int64) (h : fX7_enters M x1 = some out) : zZ X 0 [(0, .ref A.length), (1, .long x1)] [] (hG A M B) := by
  rw [fX7_enters] at h
  refine z_aload_n (pc := 0) C 0 dX7_enters_0 rfl rfl ?_
  refine z_get (pc := 1) C dX7_enters_1 fl_X7_7 (hM_o A M B) rfl ?_
  refine z_aload_n (pc := 4) C 0 dX7_enters_4 rfl rfl ?_
  refine z_get (pc := 5) C dX7_enters_5 fl_X7_11 (hM_o A M B) rfl ?_
  refine z_lload_n (pc := 8) C 1 dX7_enters_8 rfl rfl ?_
  obtain ⟨M1, eM1, h⟩ := ob1_eq h
  refine z_last (pc := 9) C dX7_enters_9 (hMa_2 A M B) (wr_eq eM1).1 (hMs_2 A B (wr_eq eM1).2) ?_
  refine z_aload_n (pc := 10) C 0 dX7_enters_10 rfl rfl ?_
  refine z_dup (pc := 11) C dX7_enters_11 rfl ?_
  refine z_get (pc := 12) C dX7_enters_12 fl_X7_11 (hM_o A M1 B) rfl ?_
  refine z_iconst (pc := 15) C dX7_enters_15 (v := (1 : Int32)) (by decide) ?_
  refine z_iadd (pc := 16) C dX7_enters_16 ?_
  obtain ⟨M2, eM2, h⟩ := zlet_eq h
  refine z_put (pc := 17) C dX7_enters_17 fl_X7_11w (hM_o A M1 B) (fun _ => rfl) (fun _ => rfl) (by decide) (hMi_1 A B eM2) ?_
  obtain rfl := Option.some.inj h
  exact z_vret (pc := 20) C E dX7_enters_20 ⟨rfl, rfl⟩
theorem cX7_enters (l : Launch) (D : va_G) (cA : Nat → ClassId) (b : Nat) (A : zH) (M : MS) (B : zH) (x1 : Int64) (out : MS) (h : fX7_enters M x1 = some out) : zM l D cA b yX7_enters cX7_enters 3 none 0 0 [.ref A.length, .long x1] (hG A M B) (poV (hG A out B)) := z_entry rfl (by decide) (fun X C E _ _ _ => wfX7_enters C E M x1 h)
def fX7_sign_b53 (M : MS) : Option (Int32 × MS) :=
zlet (mI M 4 ((M.1 4) + (4 : Int32))) fun M1 =>
some ((M1.1 4), M1)
set_option maxRecDepth 100000 in
set_option maxHeartbeats 4000000 in
theorem wfX7_sign_b53 {X : zX} {A B : zH} {out : Int32 × MS} (C : zOK X cX7_sign yX7_sign.cls 3 (some .int) 0 0) (E : zPost X (poI out.1 (hG A out.2 B))) (M : MS) (h : fX7_sign_b53 M = some out) : zZ X 53 [(0, .ref A.length)] [] (hG A M B) := by
  rw [fX7_sign_b53] at h
  refine z_aload_n (pc := 53) C 0 dX7_sign_53 rfl rfl ?_
  refine z_dup (pc := 54) C dX7_sign_54 rfl ?_
  refine z_get (pc := 55) C dX7_sign_55 fl_X7_14 (hM_o A M B) rfl ?_
  refine z_iconst (pc := 58) C dX7_sign_58 (v := (4 : Int32)) (by decide) ?_
  refine z_iadd (pc := 59) C dX7_sign_59 ?_
  obtain ⟨M1, eM1, h⟩ := zlet_eq h
  refine z_put (pc := 60) C dX7_sign_60 fl_X7_14w (hM_o A M B) (fun _ => rfl) (fun _ => rfl) (by decide) (hMi_4 A B eM1) ?_
  refine z_aload_n (pc := 63) C 0 dX7_sign_63 rfl rfl ?_
  refine z_get (pc := 64) C dX7_sign_64 fl_X7_14 (hM_o A M1 B) rfl ?_
  obtain rfl := Option.some.inj h
  exact z_iret (pc := 67) C E dX7_sign_67 ⟨rfl, rfl⟩
def fX7_sign_b18 : Nat → MS → Int32 → Int32 → Option (Int32 × MS)
  | 0, _, _, _ => none
  | n + 1, M, x1, x2 =>
if (4 : Int32) ≤ x2 then (fX7_sign_b53 M) else
ob1 (wr 80 ((M.1 4) + x2) (mA M 3 (upd (M.2.1 3) ((M.1 4) + x2).toNatClampNeg ((x1 >>> (((24 : Int32) - ((8 : Int32) * x2)) &&& 31)) &&& (255 : Int32))))) fun M2 =>
zlet (x2 + (1 : Int32)) fun x3 =>
(fX7_sign_b18 n) M2 x1 x3
set_option maxRecDepth 100000 in
set_option maxHeartbeats 4000000 in
theorem wfX7_sign_b18 {X : zX} {A B : zH} {out : Int32 × MS} (C : zOK X cX7_sign yX7_sign.cls 3 (some .int) 0 0) (E : zPost X (poI out.1 (hG A out.2 B))) : ∀ (n : Nat) (M : MS) (x1 : Int32) (x2 : Int32) (h : fX7_sign_b18 n M x1 x2 = some out), zZ X 18 [(0, .ref A.length), (1, .int x1), (2, .int x2)] [] (hG A M B) := by
  intro n
  induction n with
  | zero => intro M x1 x2 h; cases h
  | succ n ih =>
    intro M x1 x2 h
    rw [fX7_sign_b18] at h
    refine z_iload_n (pc := 18) C 2 dX7_sign_18 rfl rfl ?_
    refine z_iconst (pc := 19) C dX7_sign_19 (v := (4 : Int32)) (by decide) ?_
    refine z_ic_ge (pc := 20) C dX7_sign_20 (tgt := 53) (by decide) (fun c1 => ?_) (fun c1 => ?_)
    · rw [if_pos c1] at h
      exact z_subL [0] (wfX7_sign_b53 C E M h) rfl
    · rw [if_neg c1] at h
      refine z_aload_n (pc := 23) C 0 dX7_sign_23 rfl rfl ?_
      refine z_get (pc := 24) C dX7_sign_24 fl_X7_17 (hM_o A M B) rfl ?_
      refine z_aload_n (pc := 27) C 0 dX7_sign_27 rfl rfl ?_
      refine z_get (pc := 28) C dX7_sign_28 fl_X7_14 (hM_o A M B) rfl ?_
      refine z_iload_n (pc := 31) C 2 dX7_sign_31 rfl rfl ?_
      refine z_iadd (pc := 32) C dX7_sign_32 ?_
      refine z_iload_n (pc := 33) C 1 dX7_sign_33 rfl rfl ?_
      refine z_bipush (pc := 34) C dX7_sign_34 (v := (24 : Int32)) (by decide) ?_
      refine z_bipush (pc := 36) C dX7_sign_36 (v := (8 : Int32)) (by decide) ?_
      refine z_iload_n (pc := 38) C 2 dX7_sign_38 rfl rfl ?_
      refine z_imul (pc := 39) C dX7_sign_39 ?_
      refine z_isub (pc := 40) C dX7_sign_40 ?_
      refine z_ishr (pc := 41) C dX7_sign_41 ?_
      refine z_sipush (pc := 42) C dX7_sign_42 (v := (255 : Int32)) (by decide) ?_
      refine z_iand (pc := 45) C dX7_sign_45 ?_
      obtain ⟨M2, eM2, h⟩ := ob1_eq h
      refine z_iast (pc := 46) C dX7_sign_46 (hMa_3 A M B) (wr_eq eM2).1 (hMs_3 A B (wr_eq eM2).2) ?_
      obtain ⟨x3, ex3, h⟩ := zlet_eq h
      refine z_iinc (pc := 47) (v := x3) C 2 dX7_sign_47 rfl (by rw [ex3]; rfl) (by decide) (show zput _ _ _ = [(2, .int x3), (0, .ref A.length), (1, .int x1)] from rfl) ?_
      refine z_goto (pc := 50) C dX7_sign_50 (tgt := 18) (by decide) ?_
      exact z_subL [1, 2, 0] (ih M2 x1 x3 h) rfl
def fX7_sign (M : MS) (x1 : Int32) : Option (Int32 × MS) :=
zlet (mI M 0 (0 : Int32)) fun M1 =>
if (M1.1 4) ≤ (76 : Int32) then (fX7_sign_b18 FU M1 x1 (0 : Int32)) else
some ((-1 : Int32), M1)
set_option maxRecDepth 100000 in
set_option maxHeartbeats 4000000 in
theorem wfX7_sign {X : zX} {A B : zH} {out : Int32 × MS} (C : zOK X cX7_sign yX7_sign.cls 3 (some .int) 0 0) (E : zPost X (poI out.1 (hG A out.2 B))) (M : MS) (x1 : Int32) (h : fX7_sign M x1 = some out) : zZ X 0 [(0, .ref A.length), (1, .int x1)] [] (hG A M B) := by
  rw [fX7_sign] at h
  refine z_aload_n (pc := 0) C 0 dX7_sign_0 rfl rfl ?_
  refine z_iconst (pc := 1) C dX7_sign_1 (v := (0 : Int32)) (by decide) ?_
  obtain ⟨M1, eM1, h⟩ := zlet_eq h
  refine z_put (pc := 2) C dX7_sign_2 fl_X7_1w (hM_o A M B) (fun _ => rfl) (fun _ => rfl) (by decide) (hMi_0 A B eM1) ?_
  refine z_aload_n (pc := 5) C 0 dX7_sign_5 rfl rfl ?_
  refine z_get (pc := 6) C dX7_sign_6 fl_X7_14 (hM_o A M1 B) rfl ?_
  refine z_bipush (pc := 9) C dX7_sign_9 (v := (76 : Int32)) (by decide) ?_
  refine z_ic_le (pc := 11) C dX7_sign_11 (tgt := 16) (by decide) (fun c2 => ?_) (fun c2 => ?_)
  · rw [if_pos c2] at h
    refine z_iconst (pc := 16) C dX7_sign_16 (v := (0 : Int32)) (by decide) ?_
    refine z_istore_n (pc := 17) C dX7_sign_17 rfl (by decide) (show zput _ _ _ = [(2, .int (0 : Int32)), (0, .ref A.length), (1, .int x1)] from rfl) ?_
    exact z_subL [1, 2, 0] (wfX7_sign_b18 C E FU M1 x1 (0 : Int32) h) rfl
  · rw [if_neg c2] at h
    refine z_iconst (pc := 14) C dX7_sign_14 (v := (-1 : Int32)) (by decide) ?_
    obtain rfl := Option.some.inj h
    exact z_iret (pc := 15) C E dX7_sign_15 ⟨rfl, rfl⟩
theorem cX7_sign (l : Launch) (D : va_G) (cA : Nat → ClassId) (b : Nat) (A : zH) (M : MS) (B : zH) (x1 : Int32) (out : Int32 × MS) (h : fX7_sign M x1 = some out) : zM l D cA b yX7_sign cX7_sign 3 (some .int) 0 0 [.ref A.length, .int x1] (hG A M B) (poI out.1 (hG A out.2 B)) := z_entry rfl (by decide) (fun X C E _ _ _ => wfX7_sign C E M x1 h)
def fX7_end (M : MS) (x1 : Int32) : Option (Int32 × MS) :=
zlet (mI M 0 (0 : Int32)) fun M1 =>
ob1 (fX7_in x1.toInt64 (0 : Int64) ((M1.1 4).toInt64)) fun v2 =>
if v2 = 0 then (some ((0 : Int32), M1)) else
zlet (mI M1 4 x1) fun M4 =>
some ((1 : Int32), M4)
set_option maxRecDepth 100000 in
set_option maxHeartbeats 4000000 in
theorem wfX7_end {X : zX} {A B : zH} {out : Int32 × MS} (C : zOK X cX7_end yX7_end.cls 2 (some .boolean) 1 25) (E : zPost X (poI out.1 (hG A out.2 B))) (M : MS) (x1 : Int32) (h : fX7_end M x1 = some out) : zZ X 0 [(0, .ref A.length), (1, .int x1)] [] (hG A M B) := by
  rw [fX7_end] at h
  refine z_aload_n (pc := 0) C 0 dX7_end_0 rfl rfl ?_
  refine z_iconst (pc := 1) C dX7_end_1 (v := (0 : Int32)) (by decide) ?_
  obtain ⟨M1, eM1, h⟩ := zlet_eq h
  refine z_put (pc := 2) C dX7_end_2 fl_X7_1w (hM_o A M B) (fun _ => rfl) (fun _ => rfl) (by decide) (hMi_0 A B eM1) ?_
  refine z_iload_n (pc := 5) C 1 dX7_end_5 rfl rfl ?_
  refine z_i2l (pc := 6) C dX7_end_6 ?_
  refine z_lconst (pc := 7) C dX7_end_7 (v := (0 : Int64)) (by decide) ?_
  refine z_aload_n (pc := 8) C 0 dX7_end_8 rfl rfl ?_
  refine z_get (pc := 9) C dX7_end_9 fl_X7_14 (hM_o A M1 B) rfl ?_
  refine z_i2l (pc := 12) C dX7_end_12 ?_
  obtain ⟨v2, ev2, h⟩ := ob1_eq h
  refine z_callSi (As := [.long x1.toInt64, .long (0 : Int64), .long ((M1.1 4).toInt64)]) (rest := []) (pc := 13) C dX7_end_13 ml_X7_21 (cX7_in _ _ _ _ (hG A M1 B) x1.toInt64 (0 : Int64) ((M1.1 4).toInt64) v2 ev2) rfl rfl (by decide) (by decide) ?_
  refine z_if_ne (pc := 16) C dX7_end_16 (tgt := 21) (by decide) (fun c3 => ?_) (fun c3 => ?_)
  · rw [if_neg c3] at h
    refine z_aload_n (pc := 21) C 0 dX7_end_21 rfl rfl ?_
    refine z_iload_n (pc := 22) C 1 dX7_end_22 rfl rfl ?_
    obtain ⟨M4, eM4, h⟩ := zlet_eq h
    refine z_put (pc := 23) C dX7_end_23 fl_X7_14w (hM_o A M1 B) (fun _ => rfl) (fun _ => rfl) (by decide) (hMi_4 A B eM4) ?_
    refine z_iconst (pc := 26) C dX7_end_26 (v := (1 : Int32)) (by decide) ?_
    obtain rfl := Option.some.inj h
    exact z_zret (pc := 27) C E dX7_end_27 rfl ⟨rfl, rfl⟩
  · rw [if_pos c3] at h
    refine z_iconst (pc := 19) C dX7_end_19 (v := (0 : Int32)) (by decide) ?_
    obtain rfl := Option.some.inj h
    exact z_zret (pc := 20) C E dX7_end_20 rfl ⟨rfl, rfl⟩
theorem cX7_end (l : Launch) (D : va_G) (cA : Nat → ClassId) (b : Nat) (A : zH) (M : MS) (B : zH) (x1 : Int32) (out : Int32 × MS) (h : fX7_end M x1 = some out) : zM l D cA b yX7_end cX7_end 2 (some .boolean) 1 25 [.ref A.length, .int x1] (hG A M B) (poI out.1 (hG A out.2 B)) := z_entry rfl (by decide) (fun X C E _ _ _ => wfX7_end C E M x1 h)
def fX7_empties (M : MS) : Option (Int32 × MS) :=
zlet (mI M 5 (M.1 4)) fun M1 =>
zlet (mI M1 4 (0 : Int32)) fun M2 =>
some ((M2.1 5), M2)
set_option maxRecDepth 100000 in
set_option maxHeartbeats 4000000 in
theorem wfX7_empties {X : zX} {A B : zH} {out : Int32 × MS} (C : zOK X cX7_empties yX7_empties.cls 1 (some .int) 0 0) (E : zPost X (poI out.1 (hG A out.2 B))) (M : MS) (h : fX7_empties M = some out) : zZ X 0 [(0, .ref A.length)] [] (hG A M B) := by
  rw [fX7_empties] at h
  refine z_aload_n (pc := 0) C 0 dX7_empties_0 rfl rfl ?_
  refine z_aload_n (pc := 1) C 0 dX7_empties_1 rfl rfl ?_
  refine z_get (pc := 2) C dX7_empties_2 fl_X7_14 (hM_o A M B) rfl ?_
  obtain ⟨M1, eM1, h⟩ := zlet_eq h
  refine z_put (pc := 5) C dX7_empties_5 fl_X7_25w (hM_o A M B) (fun _ => rfl) (fun _ => rfl) (by decide) (hMi_5 A B eM1) ?_
  refine z_aload_n (pc := 8) C 0 dX7_empties_8 rfl rfl ?_
  refine z_iconst (pc := 9) C dX7_empties_9 (v := (0 : Int32)) (by decide) ?_
  obtain ⟨M2, eM2, h⟩ := zlet_eq h
  refine z_put (pc := 10) C dX7_empties_10 fl_X7_14w (hM_o A M1 B) (fun _ => rfl) (fun _ => rfl) (by decide) (hMi_4 A B eM2) ?_
  refine z_aload_n (pc := 13) C 0 dX7_empties_13 rfl rfl ?_
  refine z_get (pc := 14) C dX7_empties_14 fl_X7_25 (hM_o A M2 B) rfl ?_
  obtain rfl := Option.some.inj h
  exact z_iret (pc := 17) C E dX7_empties_17 ⟨rfl, rfl⟩
theorem cX7_empties (l : Launch) (D : va_G) (cA : Nat → ClassId) (b : Nat) (A : zH) (M : MS) (B : zH)  (out : Int32 × MS) (h : fX7_empties M = some out) : zM l D cA b yX7_empties cX7_empties 1 (some .int) 0 0 [.ref A.length] (hG A M B) (poI out.1 (hG A out.2 B)) := z_entry rfl (by decide) (fun X C E _ _ _ => wfX7_empties C E M h)
def fX7_faultOfText_b2 (M : MS) : Nat → Int32 → Option Int32
  | 0, _ => none
  | n + 1, x1 =>
if (M.1 5) ≤ x1 then (some (0 : Int32)) else
ob1 (rd 80 (M.2.1 3) x1) fun v2 =>
ob1 (fX7_in v2.toInt64 (1 : Int64) (127 : Int64)) fun v3 =>
if v3 = 0 then (some ((-1 : Int32) - x1)) else
zlet (x1 + (1 : Int32)) fun x5 =>
(fX7_faultOfText_b2 M n) x5
set_option maxRecDepth 100000 in
set_option maxHeartbeats 4000000 in
theorem wfX7_faultOfText_b2 {X : zX} {A B : zH} {M : MS} {out : Int32} (C : zOK X cX7_faultOfText yX7_faultOfText.cls 2 (some .int) 1 25) (E : zPost X (poI out (hG A M B))) : ∀ (n : Nat) (x1 : Int32) (h : fX7_faultOfText_b2 M n x1 = some out), zZ X 2 [(0, .ref A.length), (1, .int x1)] [] (hG A M B) := by
  intro n
  induction n with
  | zero => intro x1 h; cases h
  | succ n ih =>
    intro x1 h
    rw [fX7_faultOfText_b2] at h
    refine z_iload_n (pc := 2) C 1 dX7_faultOfText_2 rfl rfl ?_
    refine z_aload_n (pc := 3) C 0 dX7_faultOfText_3 rfl rfl ?_
    refine z_get (pc := 4) C dX7_faultOfText_4 fl_X7_25 (hM_o A M B) rfl ?_
    refine z_ic_ge (pc := 7) C dX7_faultOfText_7 (tgt := 37) (by decide) (fun c1 => ?_) (fun c1 => ?_)
    · rw [if_pos c1] at h
      refine z_iconst (pc := 37) C dX7_faultOfText_37 (v := (0 : Int32)) (by decide) ?_
      obtain rfl := Option.some.inj h
      exact z_iret (pc := 38) C E dX7_faultOfText_38 ⟨rfl, rfl⟩
    · rw [if_neg c1] at h
      refine z_aload_n (pc := 10) C 0 dX7_faultOfText_10 rfl rfl ?_
      refine z_get (pc := 11) C dX7_faultOfText_11 fl_X7_17 (hM_o A M B) rfl ?_
      refine z_iload_n (pc := 14) C 1 dX7_faultOfText_14 rfl rfl ?_
      obtain ⟨v2, ev2, h⟩ := ob1_eq h
      refine z_iald (pc := 15) C dX7_faultOfText_15 (hMa_3 A M B) (rd_eq ev2).1 (z_topi (rd_eq ev2).2 ?_)
      refine z_i2l (pc := 16) C dX7_faultOfText_16 ?_
      refine z_lconst (pc := 17) C dX7_faultOfText_17 (v := (1 : Int64)) (by decide) ?_
      refine z_ldc2 (pc := 18) C dX7_faultOfText_18 cn_X7_28 ?_
      obtain ⟨v3, ev3, h⟩ := ob1_eq h
      refine z_callSi (As := [.long v2.toInt64, .long (1 : Int64), .long (127 : Int64)]) (rest := []) (pc := 21) C dX7_faultOfText_21 ml_X7_21 (cX7_in _ _ _ _ (hG A M B) v2.toInt64 (1 : Int64) (127 : Int64) v3 ev3) rfl rfl (by decide) (by decide) ?_
      refine z_if_ne (pc := 24) C dX7_faultOfText_24 (tgt := 31) (by decide) (fun c4 => ?_) (fun c4 => ?_)
      · rw [if_neg c4] at h
        obtain ⟨x5, ex5, h⟩ := zlet_eq h
        refine z_iinc (pc := 31) (v := x5) C 1 dX7_faultOfText_31 rfl (by rw [ex5]; rfl) (by decide) (show zput _ _ _ = [(1, .int x5), (0, .ref A.length)] from rfl) ?_
        refine z_goto (pc := 34) C dX7_faultOfText_34 (tgt := 2) (by decide) ?_
        exact z_subL [1, 0] (ih x5 h) rfl
      · rw [if_pos c4] at h
        refine z_iconst (pc := 27) C dX7_faultOfText_27 (v := (-1 : Int32)) (by decide) ?_
        refine z_iload_n (pc := 28) C 1 dX7_faultOfText_28 rfl rfl ?_
        refine z_isub (pc := 29) C dX7_faultOfText_29 ?_
        obtain rfl := Option.some.inj h
        exact z_iret (pc := 30) C E dX7_faultOfText_30 ⟨rfl, rfl⟩
def fX7_faultOfText (M : MS) : Option Int32 :=
fX7_faultOfText_b2 M FU (0 : Int32)
set_option maxRecDepth 100000 in
set_option maxHeartbeats 4000000 in
theorem wfX7_faultOfText {X : zX} {A B : zH} {M : MS} {out : Int32} (C : zOK X cX7_faultOfText yX7_faultOfText.cls 2 (some .int) 1 25) (E : zPost X (poI out (hG A M B))) (h : fX7_faultOfText M = some out) : zZ X 0 [(0, .ref A.length)] [] (hG A M B) := by
  rw [fX7_faultOfText] at h
  refine z_iconst (pc := 0) C dX7_faultOfText_0 (v := (0 : Int32)) (by decide) ?_
  refine z_istore_n (pc := 1) C dX7_faultOfText_1 rfl (by decide) (show zput _ _ _ = [(1, .int (0 : Int32)), (0, .ref A.length)] from rfl) ?_
  exact z_subL [1, 0] (wfX7_faultOfText_b2 C E FU (0 : Int32) h) rfl
theorem cX7_faultOfText (l : Launch) (D : va_G) (cA : Nat → ClassId) (b : Nat) (A : zH) (M : MS) (B : zH)  (out : Int32) (h : fX7_faultOfText M = some out) : zM l D cA b yX7_faultOfText cX7_faultOfText 2 (some .int) 1 25 [.ref A.length] (hG A M B) (poI out (hG A M B)) := z_entry rfl (by decide) (fun X C E _ _ _ => wfX7_faultOfText C E h)
def fX7_storeMany (M : MS) (x1 : Int32) : Option Int32 :=
if x1 = 0 then (some (M.1 8)) else
some (M.1 9)
set_option maxRecDepth 100000 in
set_option maxHeartbeats 4000000 in
theorem wfX7_storeMany {X : zX} {A B : zH} {M : MS} {out : Int32} (C : zOK X cX7_storeMany yX7_storeMany.cls 2 (some .int) 0 0) (E : zPost X (poI out (hG A M B))) (x1 : Int32) (h : fX7_storeMany M x1 = some out) : zZ X 0 [(0, .ref A.length), (1, .int x1)] [] (hG A M B) := by
  rw [fX7_storeMany] at h
  refine z_iload_n (pc := 0) C 1 dX7_storeMany_0 rfl rfl ?_
  refine z_if_ne (pc := 1) C dX7_storeMany_1 (tgt := 11) (by decide) (fun c1 => ?_) (fun c1 => ?_)
  · rw [if_neg c1] at h
    refine z_aload_n (pc := 11) C 0 dX7_storeMany_11 rfl rfl ?_
    refine z_get (pc := 12) C dX7_storeMany_12 fl_X7_33 (hM_o A M B) rfl ?_
    obtain rfl := Option.some.inj h
    exact z_iret (pc := 15) C E dX7_storeMany_15 ⟨rfl, rfl⟩
  · rw [if_pos c1] at h
    refine z_aload_n (pc := 4) C 0 dX7_storeMany_4 rfl rfl ?_
    refine z_get (pc := 5) C dX7_storeMany_5 fl_X7_30 (hM_o A M B) rfl ?_
    refine z_goto (pc := 8) C dX7_storeMany_8 (tgt := 15) (by decide) ?_
    obtain rfl := Option.some.inj h
    exact z_iret (pc := 15) C E dX7_storeMany_15 ⟨rfl, rfl⟩
theorem cX7_storeMany (l : Launch) (D : va_G) (cA : Nat → ClassId) (b : Nat) (A : zH) (M : MS) (B : zH) (x1 : Int32) (out : Int32) (h : fX7_storeMany M x1 = some out) : zM l D cA b yX7_storeMany cX7_storeMany 2 (some .int) 0 0 [.ref A.length, .int x1] (hG A M B) (poI out (hG A M B)) := z_entry rfl (by decide) (fun X C E _ _ _ => wfX7_storeMany C E x1 h)
def fX7_ofStore (M : MS) (x1 : Int32) (x2 : Int32) : Option Int32 :=
if x1 = 0 then (ob1 (rd 1600 (M.2.1 6) x2) fun v3 =>
some v3) else
ob1 (rd 6000 (M.2.1 7) x2) fun v2 =>
some v2
set_option maxRecDepth 100000 in
set_option maxHeartbeats 4000000 in
theorem wfX7_ofStore {X : zX} {A B : zH} {M : MS} {out : Int32} (C : zOK X cX7_ofStore yX7_ofStore.cls 3 (some .int) 0 0) (E : zPost X (poI out (hG A M B))) (x1 : Int32) (x2 : Int32) (h : fX7_ofStore M x1 x2 = some out) : zZ X 0 [(0, .ref A.length), (1, .int x1), (2, .int x2)] [] (hG A M B) := by
  rw [fX7_ofStore] at h
  refine z_iload_n (pc := 0) C 1 dX7_ofStore_0 rfl rfl ?_
  refine z_if_ne (pc := 1) C dX7_ofStore_1 (tgt := 13) (by decide) (fun c1 => ?_) (fun c1 => ?_)
  · rw [if_neg c1] at h
    refine z_aload_n (pc := 13) C 0 dX7_ofStore_13 rfl rfl ?_
    refine z_get (pc := 14) C dX7_ofStore_14 fl_X7_39 (hM_o A M B) rfl ?_
    refine z_iload_n (pc := 17) C 2 dX7_ofStore_17 rfl rfl ?_
    obtain ⟨v2, ev2, h⟩ := ob1_eq h
    refine z_iald (pc := 18) C dX7_ofStore_18 (hMa_7 A M B) (rd_eq ev2).1 (z_topi (rd_eq ev2).2 ?_)
    obtain rfl := Option.some.inj h
    exact z_iret (pc := 19) C E dX7_ofStore_19 ⟨rfl, rfl⟩
  · rw [if_pos c1] at h
    refine z_aload_n (pc := 4) C 0 dX7_ofStore_4 rfl rfl ?_
    refine z_get (pc := 5) C dX7_ofStore_5 fl_X7_36 (hM_o A M B) rfl ?_
    refine z_iload_n (pc := 8) C 2 dX7_ofStore_8 rfl rfl ?_
    obtain ⟨v3, ev3, h⟩ := ob1_eq h
    refine z_iald (pc := 9) C dX7_ofStore_9 (hMa_6 A M B) (rd_eq ev3).1 (z_topi (rd_eq ev3).2 ?_)
    refine z_goto (pc := 10) C dX7_ofStore_10 (tgt := 19) (by decide) ?_
    obtain rfl := Option.some.inj h
    exact z_iret (pc := 19) C E dX7_ofStore_19 ⟨rfl, rfl⟩
theorem cX7_ofStore (l : Launch) (D : va_G) (cA : Nat → ClassId) (b : Nat) (A : zH) (M : MS) (B : zH) (x1 : Int32) (x2 : Int32) (out : Int32) (h : fX7_ofStore M x1 x2 = some out) : zM l D cA b yX7_ofStore cX7_ofStore 3 (some .int) 0 0 [.ref A.length, .int x1, .int x2] (hG A M B) (poI out (hG A M B)) := z_entry rfl (by decide) (fun X C E _ _ _ => wfX7_ofStore C E x1 x2 h)
def fX7_unsets_b2 : Nat → MS → Int32 → Option MS
  | 0, _, _ => none
  | n + 1, M, x1 =>
if (8 : Int32) ≤ x1 then (some M) else
ob1 (wr 8 x1 (mA M 12 (upd (M.2.1 12) x1.toNatClampNeg (-1 : Int32)))) fun M2 =>
ob1 (wr 8 x1 (mA M2 13 (upd (M2.2.1 13) x1.toNatClampNeg (0 : Int32)))) fun M3 =>
zlet (x1 + (1 : Int32)) fun x4 =>
(fX7_unsets_b2 n) M3 x4
set_option maxRecDepth 100000 in
set_option maxHeartbeats 4000000 in
theorem wfX7_unsets_b2 {X : zX} {A B : zH} {out : MS} (C : zOK X cX7_unsets yX7_unsets.cls 2 none 0 0) (E : zPost X (poV (hG A out B))) : ∀ (n : Nat) (M : MS) (x1 : Int32) (h : fX7_unsets_b2 n M x1 = some out), zZ X 2 [(0, .ref A.length), (1, .int x1)] [] (hG A M B) := by
  intro n
  induction n with
  | zero => intro M x1 h; cases h
  | succ n ih =>
    intro M x1 h
    rw [fX7_unsets_b2] at h
    refine z_iload_n (pc := 2) C 1 dX7_unsets_2 rfl rfl ?_
    refine z_bipush (pc := 3) C dX7_unsets_3 (v := (8 : Int32)) (by decide) ?_
    refine z_ic_ge (pc := 5) C dX7_unsets_5 (tgt := 28) (by decide) (fun c1 => ?_) (fun c1 => ?_)
    · rw [if_pos c1] at h
      obtain rfl := Option.some.inj h
      exact z_vret (pc := 28) C E dX7_unsets_28 ⟨rfl, rfl⟩
    · rw [if_neg c1] at h
      refine z_aload_n (pc := 8) C 0 dX7_unsets_8 rfl rfl ?_
      refine z_get (pc := 9) C dX7_unsets_9 fl_X7_51 (hM_o A M B) rfl ?_
      refine z_iload_n (pc := 12) C 1 dX7_unsets_12 rfl rfl ?_
      refine z_iconst (pc := 13) C dX7_unsets_13 (v := (-1 : Int32)) (by decide) ?_
      obtain ⟨M2, eM2, h⟩ := ob1_eq h
      refine z_iast (pc := 14) C dX7_unsets_14 (hMa_12 A M B) (wr_eq eM2).1 (hMs_12 A B (wr_eq eM2).2) ?_
      refine z_aload_n (pc := 15) C 0 dX7_unsets_15 rfl rfl ?_
      refine z_get (pc := 16) C dX7_unsets_16 fl_X7_54 (hM_o A M2 B) rfl ?_
      refine z_iload_n (pc := 19) C 1 dX7_unsets_19 rfl rfl ?_
      refine z_iconst (pc := 20) C dX7_unsets_20 (v := (0 : Int32)) (by decide) ?_
      obtain ⟨M3, eM3, h⟩ := ob1_eq h
      refine z_iast (pc := 21) C dX7_unsets_21 (hMa_13 A M2 B) (wr_eq eM3).1 (hMs_13 A B (wr_eq eM3).2) ?_
      obtain ⟨x4, ex4, h⟩ := zlet_eq h
      refine z_iinc (pc := 22) (v := x4) C 1 dX7_unsets_22 rfl (by rw [ex4]; rfl) (by decide) (show zput _ _ _ = [(1, .int x4), (0, .ref A.length)] from rfl) ?_
      refine z_goto (pc := 25) C dX7_unsets_25 (tgt := 2) (by decide) ?_
      exact z_subL [1, 0] (ih M3 x4 h) rfl
def fX7_unsets (M : MS) : Option MS :=
fX7_unsets_b2 FU M (0 : Int32)
set_option maxRecDepth 100000 in
set_option maxHeartbeats 4000000 in
theorem wfX7_unsets {X : zX} {A B : zH} {out : MS} (C : zOK X cX7_unsets yX7_unsets.cls 2 none 0 0) (E : zPost X (poV (hG A out B))) (M : MS) (h : fX7_unsets M = some out) : zZ X 0 [(0, .ref A.length)] [] (hG A M B) := by
  rw [fX7_unsets] at h
  refine z_iconst (pc := 0) C dX7_unsets_0 (v := (0 : Int32)) (by decide) ?_
  refine z_istore_n (pc := 1) C dX7_unsets_1 rfl (by decide) (show zput _ _ _ = [(1, .int (0 : Int32)), (0, .ref A.length)] from rfl) ?_
  exact z_subL [1, 0] (wfX7_unsets_b2 C E FU M (0 : Int32) h) rfl
theorem cX7_unsets (l : Launch) (D : va_G) (cA : Nat → ClassId) (b : Nat) (A : zH) (M : MS) (B : zH)  (out : MS) (h : fX7_unsets M = some out) : zM l D cA b yX7_unsets cX7_unsets 2 none 0 0 [.ref A.length] (hG A M B) (poV (hG A out B)) := z_entry rfl (by decide) (fun X C E _ _ _ => wfX7_unsets C E M h)
