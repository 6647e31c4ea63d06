def fX7_bookCopy_b9 (A : zH) : Nat → MS → zH → Nat → Int32 → Option (Nat × MS × zH)
  | 0, _, _, _, _ => none
  | n + 1, M, B, r1, x2 =>
    if (M.1 11) ≤ x2 then (some (r1, M, B)) else
    ob1 (rd 3000 (M.2.1 10) x2) fun v2 =>
    ob1 (dwr A 22 B r1 x2 v2) fun B3 =>
    zlet (x2 + (1 : Int32)) fun y4 =>
    (fX7_bookCopy_b9 A n) M B3 r1 y4
set_option maxRecDepth 100000 in
set_option maxHeartbeats 4000000 in
theorem wfX7_bookCopy_b9 {X : zX} {A : zH} {out : Nat × MS × zH} (C : zOK X cX7_bookCopy yX7_bookCopy.cls 3 (some (.array .int)) 0 0) (E : zPost X (poR out.1 (hG A out.2.1 out.2.2))) : ∀ (n : Nat) (M : MS) (B : zH) (r1 : Nat) (x2 : Int32) (h : fX7_bookCopy_b9 A n M B r1 x2 = some out), zZ X 9 [(0, .ref A.length), (1, .ref r1), (2, .int x2)] [] (hG A M B) := by
  intro n
  induction n with
  | zero => intro M B r1 x2 h; cases h
  | succ n ih =>
    intro M B r1 x2 h
    rw [fX7_bookCopy_b9] at h
    refine z_iload_n (pc := 9) C 2 dX7_bookCopy_9 rfl rfl ?_
    refine z_aload_n (pc := 10) C 0 dX7_bookCopy_10 rfl rfl ?_
    refine z_get (pc := 11) C dX7_bookCopy_11 fl_X7_123 (hM_o A M B) rfl ?_
    refine z_ic_ge (pc := 14) C dX7_bookCopy_14 (tgt := 32) (by decide) (fun c1 => ?_) (fun c1 => ?_)
    · rw [if_pos c1] at h
      refine z_aload_n (pc := 32) C 1 dX7_bookCopy_32 rfl rfl ?_
      obtain rfl := Option.some.inj h
      exact z_aret (pc := 33) C E dX7_bookCopy_33 (Or.inr ⟨_, rfl⟩) ⟨rfl, rfl⟩
    · rw [if_neg c1] at h
      refine z_aload_n (pc := 17) C 1 dX7_bookCopy_17 rfl rfl ?_
      refine z_iload_n (pc := 18) C 2 dX7_bookCopy_18 rfl rfl ?_
      refine z_aload_n (pc := 19) C 0 dX7_bookCopy_19 rfl rfl ?_
      refine z_get (pc := 20) C dX7_bookCopy_20 fl_X7_48 (hM_o A M B) rfl ?_
      refine z_iload_n (pc := 23) C 2 dX7_bookCopy_23 rfl rfl ?_
      obtain ⟨v2, ev2, h⟩ := ob1_eq h
      refine z_iald (pc := 24) C dX7_bookCopy_24 (hMa_10 A M B) (rd_eq ev2).1 (z_topi (rd_eq ev2).2 ?_)
      obtain ⟨B3, eB3, h⟩ := ob1_eq h
      refine z_dwr (K := hM A.length M) C (hM_len _ _) dX7_bookCopy_25 eB3 ?_
      obtain ⟨y4, ey4, h⟩ := zlet_eq h
      refine z_iinc (pc := 26) (v := y4) C 2 dX7_bookCopy_26 rfl (by rw [ey4]; rfl) (by decide) (show zput _ _ _ = [(2, .int y4), (0, .ref A.length), (1, .ref r1)] from rfl) ?_
      refine z_goto (pc := 29) C dX7_bookCopy_29 (tgt := 9) (by decide) ?_
      exact z_subL [1, 2, 0] (ih M B3 r1 y4 h) rfl
def fX7_bookCopy (A : zH) (M : MS) (B : zH) : Option (Nat × MS × zH) :=
    ob1 (dnew (hG A M B) (M.1 11)) fun N1 =>
    zlet (List.length (hG A M B)) fun qr2 =>
    zlet (B ++ [.inl (0, (N1, .inl (fun _ => 0)))]) fun B3 =>
    fX7_bookCopy_b9 A FU M B3 qr2 (0 : Int32)
set_option maxRecDepth 100000 in
set_option maxHeartbeats 4000000 in
theorem wfX7_bookCopy {X : zX} {A : zH} {out : Nat × MS × zH} (C : zOK X cX7_bookCopy yX7_bookCopy.cls 3 (some (.array .int)) 0 0) (E : zPost X (poR out.1 (hG A out.2.1 out.2.2))) (M : MS) (B : zH) (h : fX7_bookCopy A M B = some out) : zZ X 0 [(0, .ref A.length)] [] (hG A M B) := by
  rw [fX7_bookCopy] at h
  refine z_aload_n (pc := 0) C 0 dX7_bookCopy_0 rfl rfl ?_
  refine z_get (pc := 1) C dX7_bookCopy_1 fl_X7_123 (hM_o A M B) rfl ?_
  obtain ⟨N1, eN1, h⟩ := ob1_eq h
  obtain ⟨qr2, eqr2, h⟩ := zlet_eq h
  obtain ⟨B3, eB3, h⟩ := zlet_eq h
  refine z_dnew (pc := 4) C dX7_bookCopy_4 eN1 eqr2 eB3 ?_
  refine z_astore_n (pc := 6) C dX7_bookCopy_6 rfl (by decide) (show zput _ _ _ = [(1, .ref qr2), (0, .ref A.length)] from rfl) ?_
  refine z_iconst (pc := 7) C dX7_bookCopy_7 (v := (0 : Int32)) (by decide) ?_
  refine z_istore_n (pc := 8) C dX7_bookCopy_8 rfl (by decide) (show zput _ _ _ = [(2, .int (0 : Int32)), (1, .ref qr2), (0, .ref A.length)] from rfl) ?_
  exact z_subL [2, 1, 0] (wfX7_bookCopy_b9 C E FU M B3 qr2 (0 : Int32) h) rfl
theorem kX7_bookCopy (l : Launch) (D : va_G) (cA : Nat → ClassId) (b : Nat) (A : zH) (M : MS) (B : zH)  (out : Nat × MS × zH) (h : fX7_bookCopy A M B  = some out) : zM l D cA b yX7_bookCopy cX7_bookCopy 3 (some (.array .int)) 0 0 [.ref A.length] (hG A M B) (poR out.1 (hG A out.2.1 out.2.2)) := z_entry rfl (Nat.le_of_ble_eq_true rfl) (fun X C E _ _ _ => wfX7_bookCopy C E M B  h)
def fX7_marksCopy_b7 (A : zH) : Nat → MS → zH → Nat → Int32 → Option (Nat × MS × zH)
  | 0, _, _, _, _ => none
  | n + 1, M, B, r1, x2 =>
    if (8 : Int32) ≤ x2 then (some (r1, M, B)) else
    ob1 (rd 8 (M.2.1 12) x2) fun v2 =>
    ob1 (dwr A 22 B r1 x2 v2) fun B3 =>
    ob1 (rd 8 (M.2.1 13) x2) fun v4 =>
    ob1 (dwr A 22 B3 r1 ((8 : Int32) + x2) v4) fun B5 =>
    zlet (x2 + (1 : Int32)) fun y6 =>
    (fX7_marksCopy_b7 A n) M B5 r1 y6
set_option maxRecDepth 100000 in
set_option maxHeartbeats 4000000 in
theorem wfX7_marksCopy_b7 {X : zX} {A : zH} {out : Nat × MS × zH} (C : zOK X cX7_marksCopy yX7_marksCopy.cls 3 (some (.array .int)) 0 0) (E : zPost X (poR out.1 (hG A out.2.1 out.2.2))) : ∀ (n : Nat) (M : MS) (B : zH) (r1 : Nat) (x2 : Int32) (h : fX7_marksCopy_b7 A n M B r1 x2 = some out), zZ X 7 [(0, .ref A.length), (1, .ref r1), (2, .int x2)] [] (hG A M B) := by
  intro n
  induction n with
  | zero => intro M B r1 x2 h; cases h
  | succ n ih =>
    intro M B r1 x2 h
    rw [fX7_marksCopy_b7] at h
    refine z_iload_n (pc := 7) C 2 dX7_marksCopy_7 rfl rfl ?_
    refine z_bipush (pc := 8) C dX7_marksCopy_8 (v := (8 : Int32)) (by decide) ?_
    refine z_ic_ge (pc := 10) C dX7_marksCopy_10 (tgt := 40) (by decide) (fun c1 => ?_) (fun c1 => ?_)
    · rw [if_pos c1] at h
      refine z_aload_n (pc := 40) C 1 dX7_marksCopy_40 rfl rfl ?_
      obtain rfl := Option.some.inj h
      exact z_aret (pc := 41) C E dX7_marksCopy_41 (Or.inr ⟨_, rfl⟩) ⟨rfl, rfl⟩
    · rw [if_neg c1] at h
      refine z_aload_n (pc := 13) C 1 dX7_marksCopy_13 rfl rfl ?_
      refine z_iload_n (pc := 14) C 2 dX7_marksCopy_14 rfl rfl ?_
      refine z_aload_n (pc := 15) C 0 dX7_marksCopy_15 rfl rfl ?_
      refine z_get (pc := 16) C dX7_marksCopy_16 fl_X7_51 (hM_o A M B) rfl ?_
      refine z_iload_n (pc := 19) C 2 dX7_marksCopy_19 rfl rfl ?_
      obtain ⟨v2, ev2, h⟩ := ob1_eq h
      refine z_iald (pc := 20) C dX7_marksCopy_20 (hMa_12 A M B) (rd_eq ev2).1 (z_topi (rd_eq ev2).2 ?_)
      obtain ⟨B3, eB3, h⟩ := ob1_eq h
      refine z_dwr (K := hM A.length M) C (hM_len _ _) dX7_marksCopy_21 eB3 ?_
      refine z_aload_n (pc := 22) C 1 dX7_marksCopy_22 rfl rfl ?_
      refine z_bipush (pc := 23) C dX7_marksCopy_23 (v := (8 : Int32)) (by decide) ?_
      refine z_iload_n (pc := 25) C 2 dX7_marksCopy_25 rfl rfl ?_
      refine z_iadd (pc := 26) C dX7_marksCopy_26 ?_
      refine z_aload_n (pc := 27) C 0 dX7_marksCopy_27 rfl rfl ?_
      refine z_get (pc := 28) C dX7_marksCopy_28 fl_X7_54 (hM_o A M B3) rfl ?_
      refine z_iload_n (pc := 31) C 2 dX7_marksCopy_31 rfl rfl ?_
      obtain ⟨v4, ev4, h⟩ := ob1_eq h
      refine z_iald (pc := 32) C dX7_marksCopy_32 (hMa_13 A M B3) (rd_eq ev4).1 (z_topi (rd_eq ev4).2 ?_)
      obtain ⟨B5, eB5, h⟩ := ob1_eq h
      refine z_dwr (K := hM A.length M) C (hM_len _ _) dX7_marksCopy_33 eB5 ?_
      obtain ⟨y6, ey6, h⟩ := zlet_eq h
      refine z_iinc (pc := 34) (v := y6) C 2 dX7_marksCopy_34 rfl (by rw [ey6]; rfl) (by decide) (show zput _ _ _ = [(2, .int y6), (0, .ref A.length), (1, .ref r1)] from rfl) ?_
      refine z_goto (pc := 37) C dX7_marksCopy_37 (tgt := 7) (by decide) ?_
      exact z_subL [1, 2, 0] (ih M B5 r1 y6 h) rfl
def fX7_marksCopy (A : zH) (M : MS) (B : zH) : Option (Nat × MS × zH) :=
    ob1 (dnew (hG A M B) (16 : Int32)) fun N1 =>
    zlet (List.length (hG A M B)) fun qr2 =>
    zlet (B ++ [.inl (0, (N1, .inl (fun _ => 0)))]) fun B3 =>
    fX7_marksCopy_b7 A FU M B3 qr2 (0 : Int32)
set_option maxRecDepth 100000 in
set_option maxHeartbeats 4000000 in
theorem wfX7_marksCopy {X : zX} {A : zH} {out : Nat × MS × zH} (C : zOK X cX7_marksCopy yX7_marksCopy.cls 3 (some (.array .int)) 0 0) (E : zPost X (poR out.1 (hG A out.2.1 out.2.2))) (M : MS) (B : zH) (h : fX7_marksCopy A M B = some out) : zZ X 0 [(0, .ref A.length)] [] (hG A M B) := by
  rw [fX7_marksCopy] at h
  refine z_bipush (pc := 0) C dX7_marksCopy_0 (v := (16 : Int32)) (by decide) ?_
  obtain ⟨N1, eN1, h⟩ := ob1_eq h
  obtain ⟨qr2, eqr2, h⟩ := zlet_eq h
  obtain ⟨B3, eB3, h⟩ := zlet_eq h
  refine z_dnew (pc := 2) C dX7_marksCopy_2 eN1 eqr2 eB3 ?_
  refine z_astore_n (pc := 4) C dX7_marksCopy_4 rfl (by decide) (show zput _ _ _ = [(1, .ref qr2), (0, .ref A.length)] from rfl) ?_
  refine z_iconst (pc := 5) C dX7_marksCopy_5 (v := (0 : Int32)) (by decide) ?_
  refine z_istore_n (pc := 6) C dX7_marksCopy_6 rfl (by decide) (show zput _ _ _ = [(2, .int (0 : Int32)), (1, .ref qr2), (0, .ref A.length)] from rfl) ?_
  exact z_subL [2, 1, 0] (wfX7_marksCopy_b7 C E FU M B3 qr2 (0 : Int32) h) rfl
theorem kX7_marksCopy (l : Launch) (D : va_G) (cA : Nat → ClassId) (b : Nat) (A : zH) (M : MS) (B : zH)  (out : Nat × MS × zH) (h : fX7_marksCopy A M B  = some out) : zM l D cA b yX7_marksCopy cX7_marksCopy 3 (some (.array .int)) 0 0 [.ref A.length] (hG A M B) (poR out.1 (hG A out.2.1 out.2.2)) := z_entry rfl (Nat.le_of_ble_eq_true rfl) (fun X C E _ _ _ => wfX7_marksCopy C E M B  h)
def fX7_becomes_b33 (A : zH) : Nat → MS → zH → Nat → Int32 → Option (MS × zH)
  | 0, _, _, _, _ => none
  | n + 1, M, B, r2, x3 =>
    if (8 : Int32) ≤ x3 then (some (M, B)) else
    ob1 (grd (hG A M B) r2 x3) fun v2 =>
    ob1 (wr 8 x3 (mA M 12 (upd (M.2.1 12) x3.toNatClampNeg v2))) fun M3 =>
    ob1 (grd (hG A M3 B) r2 ((8 : Int32) + x3)) fun v4 =>
    ob1 (wr 8 x3 (mA M3 13 (upd (M3.2.1 13) x3.toNatClampNeg v4))) fun M5 =>
    zlet (x3 + (1 : Int32)) fun y6 =>
    (fX7_becomes_b33 A n) M5 B r2 y6
set_option maxRecDepth 100000 in
set_option maxHeartbeats 4000000 in
theorem wfX7_becomes_b33 {X : zX} {A : zH} {out : MS × zH} (C : zOK X cX7_becomes yX7_becomes.cls 4 none 0 0) (E : zPost X (poV (hG A out.1 out.2))) : ∀ (n : Nat) (M : MS) (B : zH) (r2 : Nat) (x3 : Int32) (h : fX7_becomes_b33 A n M B r2 x3 = some out), zZ X 33 [(0, .ref A.length), (2, .ref r2), (3, .int x3)] [] (hG A M B) := by
  intro n
  induction n with
  | zero => intro M B r2 x3 h; cases h
  | succ n ih =>
    intro M B r2 x3 h
    rw [fX7_becomes_b33] at h
    refine z_iload_n (pc := 33) C 2 dX7_becomes_33 rfl rfl ?_
    refine z_bipush (pc := 34) C dX7_becomes_34 (v := (8 : Int32)) (by decide) ?_
    refine z_ic_ge (pc := 36) C dX7_becomes_36 (tgt := 66) (by decide) (fun c1 => ?_) (fun c1 => ?_)
    · rw [if_pos c1] at h
      obtain rfl := Option.some.inj h
      exact z_vret (pc := 66) C E dX7_becomes_66 ⟨rfl, rfl⟩
    · rw [if_neg c1] at h
      refine z_aload_n (pc := 39) C 0 dX7_becomes_39 rfl rfl ?_
      refine z_get (pc := 40) C dX7_becomes_40 fl_X7_51 (hM_o A M B) rfl ?_
      refine z_iload_n (pc := 43) C 2 dX7_becomes_43 rfl rfl ?_
      refine z_aload_n (pc := 44) C 1 dX7_becomes_44 rfl rfl ?_
      refine z_iload_n (pc := 45) C 2 dX7_becomes_45 rfl rfl ?_
      obtain ⟨v2, ev2, h⟩ := ob1_eq h
      refine z_grd (pc := 46) C dX7_becomes_46 ev2 ?_
      obtain ⟨M3, eM3, h⟩ := ob1_eq h
      refine z_iast (pc := 47) C dX7_becomes_47 (hMa_12 A M B) (wr_eq eM3).1 (hMs_12 A B (wr_eq eM3).2) ?_
      refine z_aload_n (pc := 48) C 0 dX7_becomes_48 rfl rfl ?_
      refine z_get (pc := 49) C dX7_becomes_49 fl_X7_54 (hM_o A M3 B) rfl ?_
      refine z_iload_n (pc := 52) C 2 dX7_becomes_52 rfl rfl ?_
      refine z_aload_n (pc := 53) C 1 dX7_becomes_53 rfl rfl ?_
      refine z_bipush (pc := 54) C dX7_becomes_54 (v := (8 : Int32)) (by decide) ?_
      refine z_iload_n (pc := 56) C 2 dX7_becomes_56 rfl rfl ?_
      refine z_iadd (pc := 57) C dX7_becomes_57 ?_
      obtain ⟨v4, ev4, h⟩ := ob1_eq h
      refine z_grd (pc := 58) C dX7_becomes_58 ev4 ?_
      obtain ⟨M5, eM5, h⟩ := ob1_eq h
      refine z_iast (pc := 59) C dX7_becomes_59 (hMa_13 A M3 B) (wr_eq eM5).1 (hMs_13 A B (wr_eq eM5).2) ?_
      obtain ⟨y6, ey6, h⟩ := zlet_eq h
      refine z_iinc (pc := 60) (v := y6) C 2 dX7_becomes_60 rfl (by rw [ey6]; rfl) (by decide) (show zput _ _ _ = [(3, .int y6), (0, .ref A.length), (2, .ref r2)] from rfl) ?_
      refine z_goto (pc := 63) C dX7_becomes_63 (tgt := 33) (by decide) ?_
      exact z_subL [1, 2, 0] (ih M5 B r2 y6 h) rfl
def fX7_becomes_b31 (A : zH) (M : MS) (B : zH) (r2 : Nat) : Option (MS × zH) :=
    fX7_becomes_b33 A FU M B r2 (0 : Int32)
set_option maxRecDepth 100000 in
set_option maxHeartbeats 4000000 in
theorem wfX7_becomes_b31 {X : zX} {A : zH} {out : MS × zH} (C : zOK X cX7_becomes yX7_becomes.cls 4 none 0 0) (E : zPost X (poV (hG A out.1 out.2))) (M : MS) (B : zH) (r2 : Nat) (h : fX7_becomes_b31 A M B r2 = some out) : zZ X 31 [(0, .ref A.length), (2, .ref r2)] [] (hG A M B) := by
  rw [fX7_becomes_b31] at h
  refine z_iconst (pc := 31) C dX7_becomes_31 (v := (0 : Int32)) (by decide) ?_
  refine z_istore_n (pc := 32) C dX7_becomes_32 rfl (by decide) (show zput _ _ _ = [(3, .int (0 : Int32)), (0, .ref A.length), (2, .ref r2)] from rfl) ?_
  exact z_subL [1, 2, 0] (wfX7_becomes_b33 C E FU M B r2 (0 : Int32) h) rfl
def fX7_becomes_b8 (A : zH) : Nat → MS → zH → Nat → Nat → Int32 → Option (MS × zH)
  | 0, _, _, _, _, _ => none
  | n + 1, M, B, r1, r2, x3 =>
    if (M.1 11) ≤ x3 then (fX7_becomes_b31 A M B r2) else
    ob1 (grd (hG A M B) r1 x3) fun v2 =>
    ob1 (wr 3000 x3 (mA M 10 (upd (M.2.1 10) x3.toNatClampNeg v2))) fun M3 =>
    zlet (x3 + (1 : Int32)) fun y4 =>
    (fX7_becomes_b8 A n) M3 B r1 r2 y4
set_option maxRecDepth 100000 in
set_option maxHeartbeats 4000000 in
theorem wfX7_becomes_b8 {X : zX} {A : zH} {out : MS × zH} (C : zOK X cX7_becomes yX7_becomes.cls 4 none 0 0) (E : zPost X (poV (hG A out.1 out.2))) : ∀ (n : Nat) (M : MS) (B : zH) (r1 : Nat) (r2 : Nat) (x3 : Int32) (h : fX7_becomes_b8 A n M B r1 r2 x3 = some out), zZ X 8 [(0, .ref A.length), (1, .ref r1), (2, .ref r2), (3, .int x3)] [] (hG A M B) := by
  intro n
  induction n with
  | zero => intro M B r1 r2 x3 h; cases h
  | succ n ih =>
    intro M B r1 r2 x3 h
    rw [fX7_becomes_b8] at h
    refine z_iload_n (pc := 8) C 3 dX7_becomes_8 rfl rfl ?_
    refine z_aload_n (pc := 9) C 0 dX7_becomes_9 rfl rfl ?_
    refine z_get (pc := 10) C dX7_becomes_10 fl_X7_123 (hM_o A M B) rfl ?_
    refine z_ic_ge (pc := 13) C dX7_becomes_13 (tgt := 31) (by decide) (fun c1 => ?_) (fun c1 => ?_)
    · rw [if_pos c1] at h
      exact z_subL [0, 2] (wfX7_becomes_b31 C E M B r2 h) rfl
    · rw [if_neg c1] at h
      refine z_aload_n (pc := 16) C 0 dX7_becomes_16 rfl rfl ?_
      refine z_get (pc := 17) C dX7_becomes_17 fl_X7_48 (hM_o A M B) rfl ?_
      refine z_iload_n (pc := 20) C 3 dX7_becomes_20 rfl rfl ?_
      refine z_aload_n (pc := 21) C 1 dX7_becomes_21 rfl rfl ?_
      refine z_iload_n (pc := 22) C 3 dX7_becomes_22 rfl rfl ?_
      obtain ⟨v2, ev2, h⟩ := ob1_eq h
      refine z_grd (pc := 23) C dX7_becomes_23 ev2 ?_
      obtain ⟨M3, eM3, h⟩ := ob1_eq h
      refine z_iast (pc := 24) C dX7_becomes_24 (hMa_10 A M B) (wr_eq eM3).1 (hMs_10 A B (wr_eq eM3).2) ?_
      obtain ⟨y4, ey4, h⟩ := zlet_eq h
      refine z_iinc (pc := 25) (v := y4) C 3 dX7_becomes_25 rfl (by rw [ey4]; rfl) (by decide) (show zput _ _ _ = [(3, .int y4), (0, .ref A.length), (1, .ref r1), (2, .ref r2)] from rfl) ?_
      refine z_goto (pc := 28) C dX7_becomes_28 (tgt := 8) (by decide) ?_
      exact z_subL [1, 2, 3, 0] (ih M3 B r1 r2 y4 h) rfl
def fX7_becomes (A : zH) (M : MS) (B : zH) (r1 : Nat) (r2 : Nat) : Option (MS × zH) :=
    ob1 (glen (hG A M B) r1) fun v1 =>
    zlet (mI M 11 v1) fun M2 =>
    fX7_becomes_b8 A FU M2 B r1 r2 (0 : Int32)
set_option maxRecDepth 100000 in
set_option maxHeartbeats 4000000 in
theorem wfX7_becomes {X : zX} {A : zH} {out : MS × zH} (C : zOK X cX7_becomes yX7_becomes.cls 4 none 0 0) (E : zPost X (poV (hG A out.1 out.2))) (M : MS) (B : zH) (r1 : Nat) (r2 : Nat) (h : fX7_becomes A M B r1 r2 = some out) : zZ X 0 [(0, .ref A.length), (1, .ref r1), (2, .ref r2)] [] (hG A M B) := by
  rw [fX7_becomes] at h
  refine z_aload_n (pc := 0) C 0 dX7_becomes_0 rfl rfl ?_
  refine z_aload_n (pc := 1) C 1 dX7_becomes_1 rfl rfl ?_
  obtain ⟨v1, ev1, h⟩ := ob1_eq h
  refine z_glen (pc := 2) C dX7_becomes_2 ev1 ?_
  obtain ⟨M2, eM2, h⟩ := zlet_eq h
  refine z_put (pc := 3) C dX7_becomes_3 fl_X7_123w (hM_o A M B) (fun _ => rfl) (fun _ => rfl) (Nat.le_of_ble_eq_true rfl) (hMi_11 A B eM2) ?_
  refine z_iconst (pc := 6) C dX7_becomes_6 (v := (0 : Int32)) (by decide) ?_
  refine z_istore_n (pc := 7) C dX7_becomes_7 rfl (by decide) (show zput _ _ _ = [(3, .int (0 : Int32)), (0, .ref A.length), (1, .ref r1), (2, .ref r2)] from rfl) ?_
  exact z_subL [1, 2, 3, 0] (wfX7_becomes_b8 C E FU M2 B r1 r2 (0 : Int32) h) rfl
theorem kX7_becomes (l : Launch) (D : va_G) (cA : Nat → ClassId) (b : Nat) (A : zH) (M : MS) (B : zH) (r1 : Nat) (r2 : Nat) (out : MS × zH) (h : fX7_becomes A M B r1 r2 = some out) : zM l D cA b yX7_becomes cX7_becomes 4 none 0 0 [.ref A.length, .ref r1, .ref r2] (hG A M B) (poV (hG A out.1 out.2)) := z_entry rfl (Nat.le_of_ble_eq_true rfl) (fun X C E _ _ _ => wfX7_becomes C E M B r1 r2 h)
def fX7_keepsPast_b61 (A : zH) (M : MS) (B : zH) : Option (MS × zH) :=
    ob3 (fX7_bookCopy A M B ) fun qv3 M1 B2 =>
    ob1 (gget (hG A M1 B2) qv3) fun z5 =>
    ob1 (wr 30 (M.1 17) (mQ M1 15 (va_up (M1.2.2.2 15) (M.1 17).toNatClampNeg (some qv3)))) fun M4 =>
    ob3 (fX7_marksCopy A M4 B2 ) fun qv8 M6 B7 =>
    ob1 (gget (hG A M6 B7) qv8) fun z10 =>
    ob1 (wr 30 (M4.1 17) (mQ M6 16 (va_up (M6.2.2.2 16) (M4.1 17).toNatClampNeg (some qv8)))) fun M9 =>
    zlet (mI M9 17 ((M9.1 17) + (1 : Int32))) fun M11 =>
    some (M11, B7)
set_option maxRecDepth 100000 in
set_option maxHeartbeats 4000000 in
theorem wfX7_keepsPast_b61 {X : zX} {A : zH} {out : MS × zH} (C : zOK X cX7_keepsPast yX7_keepsPast.cls 2 none 1 22) (E : zPost X (poV (hG A out.1 out.2))) (M : MS) (B : zH) (h : fX7_keepsPast_b61 A M B = some out) : zZ X 61 [(0, .ref A.length)] [] (hG A M B) := by
  rw [fX7_keepsPast_b61] at h
  refine z_aload_n (pc := 61) C 0 dX7_keepsPast_61 rfl rfl ?_
  refine z_get (pc := 62) C dX7_keepsPast_62 fl_X7_61 (hM_o A M B) rfl ?_
  refine z_aload_n (pc := 65) C 0 dX7_keepsPast_65 rfl rfl ?_
  refine z_get (pc := 66) C dX7_keepsPast_66 fl_X7_166 (hM_o A M B) rfl ?_
  refine z_aload_n (pc := 69) C 0 dX7_keepsPast_69 rfl rfl ?_
  obtain ⟨qv3, M1, B2, eqv3, h⟩ := ob3_eq h
  refine z_callVr (h := A.length) (As := []) (rest := [.int (M.1 17), .ref (A.length + 9)]) (pc := 70) C dX7_keepsPast_70 ml_X7_169 (kX7_bookCopy _ _ _ _ A M B  (qv3, M1, B2) eqv3) (hM_o A M B) rfl rfl rfl (Nat.le_of_ble_eq_true rfl) (by decide) ?_
  obtain ⟨z5, ez5, h⟩ := ob1_eq h
  obtain ⟨M4, eM4, h⟩ := ob1_eq h
  refine z_aast5 (pc := 73) C dX7_keepsPast_73 (hMa_15 A M1 B2) (gget_eq ez5) (wr_eq eM4).1 (hMs_15 A B2 (wr_eq eM4).2) ?_
  refine z_aload_n (pc := 74) C 0 dX7_keepsPast_74 rfl rfl ?_
  refine z_get (pc := 75) C dX7_keepsPast_75 fl_X7_65 (hM_o A M4 B2) rfl ?_
  refine z_aload_n (pc := 78) C 0 dX7_keepsPast_78 rfl rfl ?_
  refine z_get (pc := 79) C dX7_keepsPast_79 fl_X7_166 (hM_o A M4 B2) rfl ?_
  refine z_aload_n (pc := 82) C 0 dX7_keepsPast_82 rfl rfl ?_
  obtain ⟨qv8, M6, B7, eqv8, h⟩ := ob3_eq h
  refine z_callVr (h := A.length) (As := []) (rest := [.int (M4.1 17), .ref (A.length + 10)]) (pc := 83) C dX7_keepsPast_83 ml_X7_173 (kX7_marksCopy _ _ _ _ A M4 B2  (qv8, M6, B7) eqv8) (hM_o A M4 B2) rfl rfl rfl (Nat.le_of_ble_eq_true rfl) (by decide) ?_
  obtain ⟨z10, ez10, h⟩ := ob1_eq h
  obtain ⟨M9, eM9, h⟩ := ob1_eq h
  refine z_aast5 (pc := 86) C dX7_keepsPast_86 (hMa_16 A M6 B7) (gget_eq ez10) (wr_eq eM9).1 (hMs_16 A B7 (wr_eq eM9).2) ?_
  refine z_aload_n (pc := 87) C 0 dX7_keepsPast_87 rfl rfl ?_
  refine z_dup (pc := 88) C dX7_keepsPast_88 rfl ?_
  refine z_get (pc := 89) C dX7_keepsPast_89 fl_X7_166 (hM_o A M9 B7) rfl ?_
  refine z_iconst (pc := 92) C dX7_keepsPast_92 (v := (1 : Int32)) (by decide) ?_
  refine z_iadd (pc := 93) C dX7_keepsPast_93 ?_
  obtain ⟨M11, eM11, h⟩ := zlet_eq h
  refine z_put (pc := 94) C dX7_keepsPast_94 fl_X7_166w (hM_o A M9 B7) (fun _ => rfl) (fun _ => rfl) (Nat.le_of_ble_eq_true rfl) (hMi_17 A B7 eM11) ?_
  obtain rfl := Option.some.inj h
  exact z_vret (pc := 97) C E dX7_keepsPast_97 ⟨rfl, rfl⟩
def fX7_keepsPast_b51 (A : zH) (M : MS) (B : zH) : Option (MS × zH) :=
    zlet (mI M 17 ((M.1 17) - (1 : Int32))) fun M1 =>
    fX7_keepsPast_b61 A M1 B
set_option maxRecDepth 100000 in
set_option maxHeartbeats 4000000 in
theorem wfX7_keepsPast_b51 {X : zX} {A : zH} {out : MS × zH} (C : zOK X cX7_keepsPast yX7_keepsPast.cls 2 none 1 22) (E : zPost X (poV (hG A out.1 out.2))) (M : MS) (B : zH) (h : fX7_keepsPast_b51 A M B = some out) : zZ X 51 [(0, .ref A.length)] [] (hG A M B) := by
  rw [fX7_keepsPast_b51] at h
  refine z_aload_n (pc := 51) C 0 dX7_keepsPast_51 rfl rfl ?_
  refine z_dup (pc := 52) C dX7_keepsPast_52 rfl ?_
  refine z_get (pc := 53) C dX7_keepsPast_53 fl_X7_166 (hM_o A M B) rfl ?_
  refine z_iconst (pc := 56) C dX7_keepsPast_56 (v := (1 : Int32)) (by decide) ?_
  refine z_isub (pc := 57) C dX7_keepsPast_57 ?_
  obtain ⟨M1, eM1, h⟩ := zlet_eq h
  refine z_put (pc := 58) C dX7_keepsPast_58 fl_X7_166w (hM_o A M B) (fun _ => rfl) (fun _ => rfl) (Nat.le_of_ble_eq_true rfl) (hMi_17 A B eM1) ?_
  exact z_subL [0] (wfX7_keepsPast_b61 C E M1 B h) rfl
def fX7_keepsPast_b11 (A : zH) : Nat → MS → zH → Int32 → Option (MS × zH)
  | 0, _, _, _ => none
  | n + 1, M, B, x1 =>
    if (30 : Int32) ≤ x1 then (fX7_keepsPast_b51 A M B) else
    ob1 (rd 30 (M.2.2.2 15) x1) fun oq2 =>
    ob1 oq2 fun qr3 =>
    ob1 (gget (hG A M B) qr3) fun z5 =>
    ob1 (wr 30 (x1 - (1 : Int32)) (mQ M 15 (va_up (M.2.2.2 15) (x1 - (1 : Int32)).toNatClampNeg (some qr3)))) fun M4 =>
    ob1 (rd 30 (M4.2.2.2 16) x1) fun oq6 =>
    ob1 oq6 fun qr7 =>
    ob1 (gget (hG A M4 B) qr7) fun z9 =>
    ob1 (wr 30 (x1 - (1 : Int32)) (mQ M4 16 (va_up (M4.2.2.2 16) (x1 - (1 : Int32)).toNatClampNeg (some qr7)))) fun M8 =>
    zlet (x1 + (1 : Int32)) fun y10 =>
    (fX7_keepsPast_b11 A n) M8 B y10
set_option maxRecDepth 100000 in
set_option maxHeartbeats 4000000 in
theorem wfX7_keepsPast_b11 {X : zX} {A : zH} {out : MS × zH} (C : zOK X cX7_keepsPast yX7_keepsPast.cls 2 none 1 22) (E : zPost X (poV (hG A out.1 out.2))) : ∀ (n : Nat) (M : MS) (B : zH) (x1 : Int32) (h : fX7_keepsPast_b11 A n M B x1 = some out), zZ X 11 [(0, .ref A.length), (1, .int x1)] [] (hG A M B) := by
  intro n
  induction n with
  | zero => intro M B x1 h; cases h
  | succ n ih =>
    intro M B x1 h
    rw [fX7_keepsPast_b11] at h
    refine z_iload_n (pc := 11) C 1 dX7_keepsPast_11 rfl rfl ?_
    refine z_bipush (pc := 12) C dX7_keepsPast_12 (v := (30 : Int32)) (by decide) ?_
    refine z_ic_ge (pc := 14) C dX7_keepsPast_14 (tgt := 51) (by decide) (fun c1 => ?_) (fun c1 => ?_)
    · rw [if_pos c1] at h
      exact z_subL [0] (wfX7_keepsPast_b51 C E M B h) rfl
    · rw [if_neg c1] at h
      refine z_aload_n (pc := 17) C 0 dX7_keepsPast_17 rfl rfl ?_
      refine z_get (pc := 18) C dX7_keepsPast_18 fl_X7_61 (hM_o A M B) rfl ?_
      refine z_iload_n (pc := 21) C 1 dX7_keepsPast_21 rfl rfl ?_
      refine z_iconst (pc := 22) C dX7_keepsPast_22 (v := (1 : Int32)) (by decide) ?_
      refine z_isub (pc := 23) C dX7_keepsPast_23 ?_
      refine z_aload_n (pc := 24) C 0 dX7_keepsPast_24 rfl rfl ?_
      refine z_get (pc := 25) C dX7_keepsPast_25 fl_X7_61 (hM_o A M B) rfl ?_
      refine z_iload_n (pc := 28) C 1 dX7_keepsPast_28 rfl rfl ?_
      obtain ⟨oq2, eoq2, h⟩ := ob1_eq h
      obtain ⟨qr3, eqr3, h⟩ := ob1_eq h
      refine z_ald5 (pc := 29) C dX7_keepsPast_29 (hMa_15 A M B) eoq2 eqr3 ?_
      obtain ⟨z5, ez5, h⟩ := ob1_eq h
      obtain ⟨M4, eM4, h⟩ := ob1_eq h
      refine z_aast5 (pc := 30) C dX7_keepsPast_30 (hMa_15 A M B) (gget_eq ez5) (wr_eq eM4).1 (hMs_15 A B (wr_eq eM4).2) ?_
      refine z_aload_n (pc := 31) C 0 dX7_keepsPast_31 rfl rfl ?_
      refine z_get (pc := 32) C dX7_keepsPast_32 fl_X7_65 (hM_o A M4 B) rfl ?_
      refine z_iload_n (pc := 35) C 1 dX7_keepsPast_35 rfl rfl ?_
      refine z_iconst (pc := 36) C dX7_keepsPast_36 (v := (1 : Int32)) (by decide) ?_
      refine z_isub (pc := 37) C dX7_keepsPast_37 ?_
      refine z_aload_n (pc := 38) C 0 dX7_keepsPast_38 rfl rfl ?_
      refine z_get (pc := 39) C dX7_keepsPast_39 fl_X7_65 (hM_o A M4 B) rfl ?_
      refine z_iload_n (pc := 42) C 1 dX7_keepsPast_42 rfl rfl ?_
      obtain ⟨oq6, eoq6, h⟩ := ob1_eq h
      obtain ⟨qr7, eqr7, h⟩ := ob1_eq h
      refine z_ald5 (pc := 43) C dX7_keepsPast_43 (hMa_16 A M4 B) eoq6 eqr7 ?_
      obtain ⟨z9, ez9, h⟩ := ob1_eq h
      obtain ⟨M8, eM8, h⟩ := ob1_eq h
      refine z_aast5 (pc := 44) C dX7_keepsPast_44 (hMa_16 A M4 B) (gget_eq ez9) (wr_eq eM8).1 (hMs_16 A B (wr_eq eM8).2) ?_
      obtain ⟨y10, ey10, h⟩ := zlet_eq h
      refine z_iinc (pc := 45) (v := y10) C 1 dX7_keepsPast_45 rfl (by rw [ey10]; rfl) (by decide) (show zput _ _ _ = [(1, .int y10), (0, .ref A.length)] from rfl) ?_
      refine z_goto (pc := 48) C dX7_keepsPast_48 (tgt := 11) (by decide) ?_
      exact z_subL [1, 0] (ih M8 B y10 h) rfl
def fX7_keepsPast (A : zH) (M : MS) (B : zH) : Option (MS × zH) :=
    if (M.1 17) = (30 : Int32) then (fX7_keepsPast_b11 A FU M B (1 : Int32)) else
    fX7_keepsPast_b61 A M B
set_option maxRecDepth 100000 in
set_option maxHeartbeats 4000000 in
theorem wfX7_keepsPast {X : zX} {A : zH} {out : MS × zH} (C : zOK X cX7_keepsPast yX7_keepsPast.cls 2 none 1 22) (E : zPost X (poV (hG A out.1 out.2))) (M : MS) (B : zH) (h : fX7_keepsPast A M B = some out) : zZ X 0 [(0, .ref A.length)] [] (hG A M B) := by
  rw [fX7_keepsPast] at h
  refine z_aload_n (pc := 0) C 0 dX7_keepsPast_0 rfl rfl ?_
  refine z_get (pc := 1) C dX7_keepsPast_1 fl_X7_166 (hM_o A M B) rfl ?_
  refine z_bipush (pc := 4) C dX7_keepsPast_4 (v := (30 : Int32)) (by decide) ?_
  refine z_ic_ne (pc := 6) C dX7_keepsPast_6 (tgt := 61) (by decide) (fun c1 => ?_) (fun c1 => ?_)
  · rw [if_neg c1] at h
    exact z_subL [0] (wfX7_keepsPast_b61 C E M B h) rfl
  · rw [if_pos c1] at h
    refine z_iconst (pc := 9) C dX7_keepsPast_9 (v := (1 : Int32)) (by decide) ?_
    refine z_istore_n (pc := 10) C dX7_keepsPast_10 rfl (by decide) (show zput _ _ _ = [(1, .int (1 : Int32)), (0, .ref A.length)] from rfl) ?_
    exact z_subL [1, 0] (wfX7_keepsPast_b11 C E FU M B (1 : Int32) h) rfl
theorem kX7_keepsPast (l : Launch) (D : va_G) (cA : Nat → ClassId) (b : Nat) (A : zH) (M : MS) (B : zH)  (out : MS × zH) (h : fX7_keepsPast A M B  = some out) : zM l D cA b yX7_keepsPast cX7_keepsPast 2 none 1 22 [.ref A.length] (hG A M B) (poV (hG A out.1 out.2)) := z_entry rfl (Nat.le_of_ble_eq_true rfl) (fun X C E _ _ _ => wfX7_keepsPast C E M B  h)
def fX7_edits (A : zH) (M : MS) (B : zH) : Option (MS × zH) :=
    ob2 (fX7_keepsPast A M B ) fun M1 B2 =>
    zlet (mI M1 20 (0 : Int32)) fun M3 =>
    zlet (mI M3 21 (-5 : Int32)) fun M4 =>
    some (M4, B2)
set_option maxRecDepth 100000 in
set_option maxHeartbeats 4000000 in
theorem wfX7_edits {X : zX} {A : zH} {out : MS × zH} (C : zOK X cX7_edits yX7_edits.cls 1 none 2 43) (E : zPost X (poV (hG A out.1 out.2))) (M : MS) (B : zH) (h : fX7_edits A M B = some out) : zZ X 0 [(0, .ref A.length)] [] (hG A M B) := by
  rw [fX7_edits] at h
  refine z_aload_n (pc := 0) C 0 dX7_edits_0 rfl rfl ?_
  obtain ⟨M1, B2, eM1, h⟩ := ob2_eq h
  refine z_callVv (h := A.length) (As := []) (rest := []) (pc := 1) C dX7_edits_1 ml_X7_176 (kX7_keepsPast _ _ _ _ A M B  (M1, B2) eM1) (hM_o A M B) rfl rfl rfl (Nat.le_of_ble_eq_true rfl) (by decide) ?_
  refine z_aload_n (pc := 4) C 0 dX7_edits_4 rfl rfl ?_
  refine z_iconst (pc := 5) C dX7_edits_5 (v := (0 : Int32)) (by decide) ?_
  obtain ⟨M3, eM3, h⟩ := zlet_eq h
  refine z_put (pc := 6) C dX7_edits_6 fl_X7_179w (hM_o A M1 B2) (fun _ => rfl) (fun _ => rfl) (Nat.le_of_ble_eq_true rfl) (hMi_20 A B2 eM3) ?_
  refine z_aload_n (pc := 9) C 0 dX7_edits_9 rfl rfl ?_
  refine z_bipush (pc := 10) C dX7_edits_10 (v := (-5 : Int32)) (by decide) ?_
  obtain ⟨M4, eM4, h⟩ := zlet_eq h
  refine z_put (pc := 12) C dX7_edits_12 fl_X7_74w (hM_o A M3 B2) (fun _ => rfl) (fun _ => rfl) (Nat.le_of_ble_eq_true rfl) (hMi_21 A B2 eM4) ?_
  obtain rfl := Option.some.inj h
  exact z_vret (pc := 15) C E dX7_edits_15 ⟨rfl, rfl⟩
theorem kX7_edits (l : Launch) (D : va_G) (cA : Nat → ClassId) (b : Nat) (A : zH) (M : MS) (B : zH)  (out : MS × zH) (h : fX7_edits A M B  = some out) : zM l D cA b yX7_edits cX7_edits 1 none 2 43 [.ref A.length] (hG A M B) (poV (hG A out.1 out.2)) := z_entry rfl (Nat.le_of_ble_eq_true rfl) (fun X C E _ _ _ => wfX7_edits C E M B  h)
def fX7_opens_b152 (A : zH) (M : MS) (B : zH) : Option (Int32 × MS × zH) :=
    some ((M.1 11), M, B)
set_option maxRecDepth 100000 in
set_option maxHeartbeats 4000000 in
theorem wfX7_opens_b152 {X : zX} {A : zH} {out : Int32 × MS × zH} (C : zOK X cX7_opens yX7_opens.cls 4 (some .int) 2 46) (E : zPost X (poI out.1 (hG A out.2.1 out.2.2))) (M : MS) (B : zH) (h : fX7_opens_b152 A M B = some out) : zZ X 152 [(0, .ref A.length)] [] (hG A M B) := by
  rw [fX7_opens_b152] at h
  refine z_aload_n (pc := 152) C 0 dX7_opens_152 rfl rfl ?_
  refine z_get (pc := 153) C dX7_opens_153 fl_X7_123 (hM_o A M B) rfl ?_
  obtain rfl := Option.some.inj h
  exact z_iret (pc := 156) C E dX7_opens_156 ⟨rfl, rfl⟩
def fX7_opens_b134 (A : zH) : Nat → MS → zH → Int32 → Option (Int32 × MS × zH)
  | 0, _, _, _ => none
  | n + 1, M, B, x3 =>
    if (3 : Int32) ≤ x3 then (fX7_opens_b152 A M B) else
    ob1 (wr 3 x3 (mQ M 22 (va_up (M.2.2.2 22) x3.toNatClampNeg none))) fun M2 =>
    zlet (x3 + (1 : Int32)) fun y3 =>
    (fX7_opens_b134 A n) M2 B y3
set_option maxRecDepth 100000 in
set_option maxHeartbeats 4000000 in
theorem wfX7_opens_b134 {X : zX} {A : zH} {out : Int32 × MS × zH} (C : zOK X cX7_opens yX7_opens.cls 4 (some .int) 2 46) (E : zPost X (poI out.1 (hG A out.2.1 out.2.2))) : ∀ (n : Nat) (M : MS) (B : zH) (x3 : Int32) (h : fX7_opens_b134 A n M B x3 = some out), zZ X 134 [(0, .ref A.length), (3, .int x3)] [] (hG A M B) := by
  intro n
  induction n with
  | zero => intro M B x3 h; cases h
  | succ n ih =>
    intro M B x3 h
    rw [fX7_opens_b134] at h
    refine z_iload_n (pc := 134) C 1 dX7_opens_134 rfl rfl ?_
    refine z_iconst (pc := 135) C dX7_opens_135 (v := (3 : Int32)) (by decide) ?_
    refine z_ic_ge (pc := 136) C dX7_opens_136 (tgt := 152) (by decide) (fun c1 => ?_) (fun c1 => ?_)
    · rw [if_pos c1] at h
      exact z_subL [0] (wfX7_opens_b152 C E M B h) rfl
    · rw [if_neg c1] at h
      refine z_aload_n (pc := 139) C 0 dX7_opens_139 rfl rfl ?_
      refine z_get (pc := 140) C dX7_opens_140 fl_X7_77 (hM_o A M B) rfl ?_
      refine z_iload_n (pc := 143) C 1 dX7_opens_143 rfl rfl ?_
      refine z_null (pc := 144) C dX7_opens_144 ?_
      obtain ⟨M2, eM2, h⟩ := ob1_eq h
      refine z_aastN (pc := 145) C dX7_opens_145 (hMa_22 A M B) (wr_eq eM2).1 (hMs_22 A B (wr_eq eM2).2) ?_
      obtain ⟨y3, ey3, h⟩ := zlet_eq h
      refine z_iinc (pc := 146) (v := y3) C 1 dX7_opens_146 rfl (by rw [ey3]; rfl) (by decide) (show zput _ _ _ = [(3, .int y3), (0, .ref A.length)] from rfl) ?_
      refine z_goto (pc := 149) C dX7_opens_149 (tgt := 134) (by decide) ?_
      exact z_subL [1, 0] (ih M2 B y3 h) rfl
def fX7_opens_b106 (A : zH) (M : MS) (B : zH) (x1 : Int32) : Option (Int32 × MS × zH) :=
    zlet (mI M 8 (x1 * (M.1 5))) fun M1 =>
    zlet (mI M1 11 (M1.1 8)) fun M2 =>
    ob1 (fX7_unsets M2 ) fun M3 =>
    ob1 (fX7_forgetsEdits M3 ) fun M4 =>
    fX7_opens_b134 A FU M4 B (0 : Int32)
set_option maxRecDepth 100000 in
set_option maxHeartbeats 4000000 in
theorem wfX7_opens_b106 {X : zX} {A : zH} {out : Int32 × MS × zH} (C : zOK X cX7_opens yX7_opens.cls 4 (some .int) 2 46) (E : zPost X (poI out.1 (hG A out.2.1 out.2.2))) (M : MS) (B : zH) (x1 : Int32) (h : fX7_opens_b106 A M B x1 = some out) : zZ X 106 [(0, .ref A.length), (1, .int x1)] [] (hG A M B) := by
  rw [fX7_opens_b106] at h
  refine z_aload_n (pc := 106) C 0 dX7_opens_106 rfl rfl ?_
  refine z_iload_n (pc := 107) C 1 dX7_opens_107 rfl rfl ?_
  refine z_aload_n (pc := 108) C 0 dX7_opens_108 rfl rfl ?_
  refine z_get (pc := 109) C dX7_opens_109 fl_X7_25 (hM_o A M B) rfl ?_
  refine z_imul (pc := 112) C dX7_opens_112 ?_
  obtain ⟨M1, eM1, h⟩ := zlet_eq h
  refine z_put (pc := 113) C dX7_opens_113 fl_X7_30w (hM_o A M B) (fun _ => rfl) (fun _ => rfl) (Nat.le_of_ble_eq_true rfl) (hMi_8 A B eM1) ?_
  refine z_aload_n (pc := 116) C 0 dX7_opens_116 rfl rfl ?_
  refine z_aload_n (pc := 117) C 0 dX7_opens_117 rfl rfl ?_
  refine z_get (pc := 118) C dX7_opens_118 fl_X7_30 (hM_o A M1 B) rfl ?_
  obtain ⟨M2, eM2, h⟩ := zlet_eq h
  refine z_put (pc := 121) C dX7_opens_121 fl_X7_123w (hM_o A M1 B) (fun _ => rfl) (fun _ => rfl) (Nat.le_of_ble_eq_true rfl) (hMi_11 A B eM2) ?_
  refine z_aload_n (pc := 124) C 0 dX7_opens_124 rfl rfl ?_
  obtain ⟨M3, eM3, h⟩ := ob1_eq h
  refine z_callVv (h := A.length) (As := []) (rest := []) (pc := 125) C dX7_opens_125 ml_X7_105 (kX7_unsets _ _ _ _ A M2 B  M3 eM3) (hM_o A M2 B) rfl rfl rfl (Nat.le_of_ble_eq_true rfl) (by decide) ?_
  refine z_aload_n (pc := 128) C 0 dX7_opens_128 rfl rfl ?_
  obtain ⟨M4, eM4, h⟩ := ob1_eq h
  refine z_callVv (h := A.length) (As := []) (rest := []) (pc := 129) C dX7_opens_129 ml_X7_191 (kX7_forgetsEdits _ _ _ _ A M3 B  M4 eM4) (hM_o A M3 B) rfl rfl rfl (Nat.le_of_ble_eq_true rfl) (by decide) ?_
  refine z_iconst (pc := 132) C dX7_opens_132 (v := (0 : Int32)) (by decide) ?_
  refine z_istore_n (pc := 133) C dX7_opens_133 rfl (by decide) (show zput _ _ _ = [(3, .int (0 : Int32)), (0, .ref A.length), (1, .int x1)] from rfl) ?_
  exact z_subL [1, 0] (wfX7_opens_b134 C E FU M4 B (0 : Int32) h) rfl
def fX7_opens_b96 (A : zH) (k53 : MS → zH → Int32 → Int32 → Option (Int32 × MS × zH)) (M : MS) (B : zH) (x1 : Int32) (x3 : Int32) (s0 : Int32) (s1 : Int32) (s2 : Int32) (s3 : Int32) : Option (Int32 × MS × zH) :=
    ob1 (fX7_coded s2 s1 s0) fun v1 =>
    ob1 (wr 3000 s3 (mA M 10 (upd (M.2.1 10) s3.toNatClampNeg v1))) fun M2 =>
    zlet (x3 + (1 : Int32)) fun y3 =>
    k53 M2 B x1 y3
set_option maxRecDepth 100000 in
set_option maxHeartbeats 4000000 in
theorem wfX7_opens_b96 {X : zX} {A : zH} {out : Int32 × MS × zH} (C : zOK X cX7_opens yX7_opens.cls 4 (some .int) 2 46) (E : zPost X (poI out.1 (hG A out.2.1 out.2.2))) (k53 : MS → zH → Int32 → Int32 → Option (Int32 × MS × zH)) (hk53 : ∀ (M : MS) (B : zH) (x1 : Int32) (x3 : Int32), k53 M B x1 x3 = some out → zZ X 53 [(0, .ref A.length), (1, .int x1), (3, .int x3)] [] (hG A M B)) (M : MS) (B : zH) (x1 : Int32) (x3 : Int32) (s0 : Int32) (s1 : Int32) (s2 : Int32) (s3 : Int32) (h : fX7_opens_b96 A k53 M B x1 x3 s0 s1 s2 s3 = some out) : zZ X 96 [(0, .ref A.length), (1, .int x1), (3, .int x3)] [.int s0, .int s1, .int s2, .int s3, .ref (A.length + 5)] (hG A M B) := by
  rw [fX7_opens_b96] at h
  obtain ⟨v1, ev1, h⟩ := ob1_eq h
  refine z_callSi (As := [.int s2, .int s1, .int s0]) (rest := [.int s3, .ref (A.length + 5)]) (pc := 96) C dX7_opens_96 ml_X7_126 (kX7_coded _ _ _ _ (hG A M B) s2 s1 s0 v1 ev1) rfl rfl (Nat.le_of_ble_eq_true rfl) (by decide) ?_
  obtain ⟨M2, eM2, h⟩ := ob1_eq h
  refine z_iast (pc := 99) C dX7_opens_99 (hMa_10 A M B) (wr_eq eM2).1 (hMs_10 A B (wr_eq eM2).2) ?_
  obtain ⟨y3, ey3, h⟩ := zlet_eq h
  refine z_iinc (pc := 100) (v := y3) C 2 dX7_opens_100 rfl (by rw [ey3]; rfl) (by decide) (show zput _ _ _ = [(3, .int y3), (0, .ref A.length), (1, .int x1)] from rfl) ?_
  refine z_goto (pc := 103) C dX7_opens_103 (tgt := 53) (by decide) ?_
  exact z_subL [1, 2, 0] (hk53 M2 B x1 y3 h) rfl
def fX7_opens_b53 (A : zH) : Nat → MS → zH → Int32 → Int32 → Option (Int32 × MS × zH)
  | 0, _, _, _, _ => none
  | n + 1, M, B, x1, x3 =>
    if (x1 * (M.1 5)) ≤ x3 then (fX7_opens_b106 A M B x1) else
    ob1 (nz (M.1 5)) fun u2 =>
    ob1 (rd 80 (M.2.1 3) (x3 - x3 / (M.1 5) * (M.1 5))) fun v3 =>
    ob1 (wr 1600 x3 (mA M 6 (upd (M.2.1 6) x3.toNatClampNeg v3))) fun M4 =>
    if x3 = 0 then (fX7_opens_b96 A (fX7_opens_b53 A n) M4 B x1 x3 (1 : Int32) x3 (0 : Int32) x3) else
    fX7_opens_b96 A (fX7_opens_b53 A n) M4 B x1 x3 (0 : Int32) x3 (0 : Int32) x3
set_option maxRecDepth 100000 in
set_option maxHeartbeats 4000000 in
theorem wfX7_opens_b53 {X : zX} {A : zH} {out : Int32 × MS × zH} (C : zOK X cX7_opens yX7_opens.cls 4 (some .int) 2 46) (E : zPost X (poI out.1 (hG A out.2.1 out.2.2))) : ∀ (n : Nat) (M : MS) (B : zH) (x1 : Int32) (x3 : Int32) (h : fX7_opens_b53 A n M B x1 x3 = some out), zZ X 53 [(0, .ref A.length), (1, .int x1), (3, .int x3)] [] (hG A M B) := by
  intro n
  induction n with
  | zero => intro M B x1 x3 h; cases h
  | succ n ih =>
    intro M B x1 x3 h
    rw [fX7_opens_b53] at h
    refine z_iload_n (pc := 53) C 2 dX7_opens_53 rfl rfl ?_
    refine z_iload_n (pc := 54) C 1 dX7_opens_54 rfl rfl ?_
    refine z_aload_n (pc := 55) C 0 dX7_opens_55 rfl rfl ?_
    refine z_get (pc := 56) C dX7_opens_56 fl_X7_25 (hM_o A M B) rfl ?_
    refine z_imul (pc := 59) C dX7_opens_59 ?_
    refine z_ic_ge (pc := 60) C dX7_opens_60 (tgt := 106) (by decide) (fun c1 => ?_) (fun c1 => ?_)
    · rw [if_pos c1] at h
      exact z_subL [0, 1] (wfX7_opens_b106 C E M B x1 h) rfl
    · rw [if_neg c1] at h
      refine z_aload_n (pc := 63) C 0 dX7_opens_63 rfl rfl ?_
      refine z_get (pc := 64) C dX7_opens_64 fl_X7_36 (hM_o A M B) rfl ?_
      refine z_iload_n (pc := 67) C 2 dX7_opens_67 rfl rfl ?_
      refine z_aload_n (pc := 68) C 0 dX7_opens_68 rfl rfl ?_
      refine z_get (pc := 69) C dX7_opens_69 fl_X7_17 (hM_o A M B) rfl ?_
      refine z_iload_n (pc := 72) C 2 dX7_opens_72 rfl rfl ?_
      refine z_aload_n (pc := 73) C 0 dX7_opens_73 rfl rfl ?_
      refine z_get (pc := 74) C dX7_opens_74 fl_X7_25 (hM_o A M B) rfl ?_
      obtain ⟨u2, eu2, h⟩ := ob1_eq h
      refine z_irem (pc := 77) C dX7_opens_77 (nz_eq eu2) ?_
      obtain ⟨v3, ev3, h⟩ := ob1_eq h
      refine z_iald (pc := 78) C dX7_opens_78 (hMa_3 A M B) (rd_eq ev3).1 (z_topi (rd_eq ev3).2 ?_)
      obtain ⟨M4, eM4, h⟩ := ob1_eq h
      refine z_iast (pc := 79) C dX7_opens_79 (hMa_6 A M B) (wr_eq eM4).1 (hMs_6 A B (wr_eq eM4).2) ?_
      refine z_aload_n (pc := 80) C 0 dX7_opens_80 rfl rfl ?_
      refine z_get (pc := 81) C dX7_opens_81 fl_X7_48 (hM_o A M4 B) rfl ?_
      refine z_iload_n (pc := 84) C 2 dX7_opens_84 rfl rfl ?_
      refine z_iconst (pc := 85) C dX7_opens_85 (v := (0 : Int32)) (by decide) ?_
      refine z_iload_n (pc := 86) C 2 dX7_opens_86 rfl rfl ?_
      refine z_iload_n (pc := 87) C 2 dX7_opens_87 rfl rfl ?_
      refine z_if_ne (pc := 88) C dX7_opens_88 (tgt := 95) (by decide) (fun c5 => ?_) (fun c5 => ?_)
      · rw [if_neg c5] at h
        refine z_iconst (pc := 95) C dX7_opens_95 (v := (0 : Int32)) (by decide) ?_
        exact z_subL [0, 1, 2] (wfX7_opens_b96 C E (fX7_opens_b53 A n) ih M4 B x1 x3 (0 : Int32) x3 (0 : Int32) x3 h) rfl
      · rw [if_pos c5] at h
        refine z_iconst (pc := 91) C dX7_opens_91 (v := (1 : Int32)) (by decide) ?_
        refine z_goto (pc := 92) C dX7_opens_92 (tgt := 96) (by decide) ?_
        exact z_subL [0, 1, 2] (wfX7_opens_b96 C E (fX7_opens_b53 A n) ih M4 B x1 x3 (1 : Int32) x3 (0 : Int32) x3 h) rfl
def fX7_opens (A : zH) (M : MS) (B : zH) (x1 : Int32) : Option (Int32 × MS × zH) :=
    zlet (mI M 0 (0 : Int32)) fun M1 =>
    ob2 (fX7_empties M1 ) fun v3 M2 =>
    ob1 (fX7_faultOfText M2 ) fun v4 =>
    if 0 ≤ v4 then (ob1 (fX7_in x1.toInt64 (1 : Int64) (20 : Int64)) fun v6 =>
    if v6 = 0 then (some ((-100 : Int32), M2, B)) else
    zlet (mI M2 8 (0 : Int32)) fun M8 =>
    zlet (mI M8 9 (0 : Int32)) fun M9 =>
    zlet (mI M9 11 (0 : Int32)) fun M10 =>
    fX7_opens_b53 A FU M10 B x1 (0 : Int32)) else
    some (v4, M2, B)
set_option maxRecDepth 100000 in
set_option maxHeartbeats 4000000 in
theorem wfX7_opens {X : zX} {A : zH} {out : Int32 × MS × zH} (C : zOK X cX7_opens yX7_opens.cls 4 (some .int) 2 46) (E : zPost X (poI out.1 (hG A out.2.1 out.2.2))) (M : MS) (B : zH) (x1 : Int32) (h : fX7_opens A M B x1 = some out) : zZ X 0 [(0, .ref A.length), (1, .int x1)] [] (hG A M B) := by
  rw [fX7_opens] at h
  refine z_aload_n (pc := 0) C 0 dX7_opens_0 rfl rfl ?_
  refine z_iconst (pc := 1) C dX7_opens_1 (v := (0 : Int32)) (by decide) ?_
  obtain ⟨M1, eM1, h⟩ := zlet_eq h
  refine z_put (pc := 2) C dX7_opens_2 fl_X7_1w (hM_o A M B) (fun _ => rfl) (fun _ => rfl) (Nat.le_of_ble_eq_true rfl) (hMi_0 A B eM1) ?_
  refine z_aload_n (pc := 5) C 0 dX7_opens_5 rfl rfl ?_
  obtain ⟨v3, M2, ev3, h⟩ := ob2_eq h
  refine z_callVi (h := A.length) (As := []) (rest := []) (pc := 6) C dX7_opens_6 ml_X7_182 (kX7_empties _ _ _ _ A M1 B  (v3, M2) ev3) (hM_o A M1 B) rfl rfl rfl (Nat.le_of_ble_eq_true rfl) (by decide) ?_
  refine z_pop (pc := 9) C dX7_opens_9 rfl ?_
  refine z_aload_n (pc := 10) C 0 dX7_opens_10 rfl rfl ?_
  obtain ⟨v4, ev4, h⟩ := ob1_eq h
  refine z_callVi (h := A.length) (As := []) (rest := []) (pc := 11) C dX7_opens_11 ml_X7_186 (kX7_faultOfText _ _ _ _ A M2 B  v4 ev4) (hM_o A M2 B) rfl rfl rfl (Nat.le_of_ble_eq_true rfl) (by decide) ?_
  refine z_istore_n (pc := 14) C dX7_opens_14 rfl (by decide) (show zput _ _ _ = [(2, .int v4), (0, .ref A.length), (1, .int x1)] from rfl) ?_
  refine z_iload_n (pc := 15) C 0 dX7_opens_15 rfl rfl ?_
  refine z_if_ge (pc := 16) C dX7_opens_16 (tgt := 21) (by decide) (fun c5 => ?_) (fun c5 => ?_)
  · rw [if_pos c5] at h
    refine z_iload_n (pc := 21) C 2 dX7_opens_21 rfl rfl ?_
    refine z_i2l (pc := 22) C dX7_opens_22 ?_
    refine z_lconst (pc := 23) C dX7_opens_23 (v := (1 : Int64)) (by decide) ?_
    refine z_ldc2 (pc := 24) C dX7_opens_24 cn_X7_189 ?_
    obtain ⟨v6, ev6, h⟩ := ob1_eq h
    refine z_callSi (As := [.long x1.toInt64, .long (1 : Int64), .long (20 : Int64)]) (rest := []) (pc := 27) C dX7_opens_27 ml_X7_21 (kX7_in _ _ _ _ (hG A M2 B) x1.toInt64 (1 : Int64) (20 : Int64) v6 ev6) rfl rfl (Nat.le_of_ble_eq_true rfl) (by decide) ?_
    refine z_if_ne (pc := 30) C dX7_opens_30 (tgt := 36) (by decide) (fun c7 => ?_) (fun c7 => ?_)
    · rw [if_neg c7] at h
      refine z_aload_n (pc := 36) C 1 dX7_opens_36 rfl rfl ?_
      refine z_iconst (pc := 37) C dX7_opens_37 (v := (0 : Int32)) (by decide) ?_
      obtain ⟨M8, eM8, h⟩ := zlet_eq h
      refine z_put (pc := 38) C dX7_opens_38 fl_X7_30w (hM_o A M2 B) (fun _ => rfl) (fun _ => rfl) (Nat.le_of_ble_eq_true rfl) (hMi_8 A B eM8) ?_
      refine z_aload_n (pc := 41) C 1 dX7_opens_41 rfl rfl ?_
      refine z_iconst (pc := 42) C dX7_opens_42 (v := (0 : Int32)) (by decide) ?_
      obtain ⟨M9, eM9, h⟩ := zlet_eq h
      refine z_put (pc := 43) C dX7_opens_43 fl_X7_33w (hM_o A M8 B) (fun _ => rfl) (fun _ => rfl) (Nat.le_of_ble_eq_true rfl) (hMi_9 A B eM9) ?_
      refine z_aload_n (pc := 46) C 1 dX7_opens_46 rfl rfl ?_
      refine z_iconst (pc := 47) C dX7_opens_47 (v := (0 : Int32)) (by decide) ?_
      obtain ⟨M10, eM10, h⟩ := zlet_eq h
      refine z_put (pc := 48) C dX7_opens_48 fl_X7_123w (hM_o A M9 B) (fun _ => rfl) (fun _ => rfl) (Nat.le_of_ble_eq_true rfl) (hMi_11 A B eM10) ?_
      refine z_iconst (pc := 51) C dX7_opens_51 (v := (0 : Int32)) (by decide) ?_
      refine z_istore_n (pc := 52) C dX7_opens_52 rfl (by decide) (show zput _ _ _ = [(3, .int (0 : Int32)), (2, .int v4), (0, .ref A.length), (1, .int x1)] from rfl) ?_
      exact z_subL [2, 3, 0] (wfX7_opens_b53 C E FU M10 B x1 (0 : Int32) h) rfl
    · rw [if_pos c7] at h
      refine z_bipush (pc := 33) C dX7_opens_33 (v := (-100 : Int32)) (by decide) ?_
      obtain rfl := Option.some.inj h
      exact z_iret (pc := 35) C E dX7_opens_35 ⟨rfl, rfl⟩
  · rw [if_neg c5] at h
    refine z_iload_n (pc := 19) C 0 dX7_opens_19 rfl rfl ?_
    obtain rfl := Option.some.inj h
    exact z_iret (pc := 20) C E dX7_opens_20 ⟨rfl, rfl⟩
theorem kX7_opens (l : Launch) (D : va_G) (cA : Nat → ClassId) (b : Nat) (A : zH) (M : MS) (B : zH) (x1 : Int32) (out : Int32 × MS × zH) (h : fX7_opens A M B x1 = some out) : zM l D cA b yX7_opens cX7_opens 4 (some .int) 2 46 [.ref A.length, .int x1] (hG A M B) (poI out.1 (hG A out.2.1 out.2.2)) := z_entry rfl (Nat.le_of_ble_eq_true rfl) (fun X C E _ _ _ => wfX7_opens C E M B x1 h)
def fX7_inserts_b84 (A : zH) (M : MS) (B : zH) : Option (Int32 × MS × zH) :=
    some ((M.1 11), M, B)
set_option maxRecDepth 100000 in
set_option maxHeartbeats 4000000 in
theorem wfX7_inserts_b84 {X : zX} {A : zH} {out : Int32 × MS × zH} (C : zOK X cX7_inserts yX7_inserts.cls 3 (some .int) 5 112) (E : zPost X (poI out.1 (hG A out.2.1 out.2.2))) (M : MS) (B : zH) (h : fX7_inserts_b84 A M B = some out) : zZ X 84 [(0, .ref A.length)] [] (hG A M B) := by
  rw [fX7_inserts_b84] at h
  refine z_aload_n (pc := 84) C 0 dX7_inserts_84 rfl rfl ?_
  refine z_get (pc := 85) C dX7_inserts_85 fl_X7_123 (hM_o A M B) rfl ?_
  obtain rfl := Option.some.inj h
  exact z_iret (pc := 88) C E dX7_inserts_88 ⟨rfl, rfl⟩
def fX7_inserts (A : zH) (M : MS) (B : zH) (x1 : Int32) : Option (Int32 × MS × zH) :=
    zlet (mI M 0 (0 : Int32)) fun M1 =>
    ob2 (fX7_empties M1 ) fun v3 M2 =>
    ob1 (fX7_faultOfText M2 ) fun v4 =>
    if 0 ≤ v4 then (ob1 (fX7_isPlace M2 x1) fun v6 =>
    if v6 = 0 then (some ((-100 : Int32), M2, B)) else
    if ((M2.1 11) + (M2.1 5)) ≤ (3000 : Int32) then (if ((M2.1 9) + (M2.1 5)) ≤ (6000 : Int32) then (if (M2.1 5) ≤ 0 then (fX7_inserts_b84 A M2 B) else
    ob2 (fX7_edits A M2 B ) fun M11 B12 =>
    ob1 (fX7_insertsText M11 x1) fun M13 =>
    fX7_inserts_b84 A M13 B12) else
    some ((-102 : Int32), M2, B)) else
    some ((-101 : Int32), M2, B)) else
    some (v4, M2, B)
set_option maxRecDepth 100000 in
set_option maxHeartbeats 4000000 in
theorem wfX7_inserts {X : zX} {A : zH} {out : Int32 × MS × zH} (C : zOK X cX7_inserts yX7_inserts.cls 3 (some .int) 5 112) (E : zPost X (poI out.1 (hG A out.2.1 out.2.2))) (M : MS) (B : zH) (x1 : Int32) (h : fX7_inserts A M B x1 = some out) : zZ X 0 [(0, .ref A.length), (1, .int x1)] [] (hG A M B) := by
  rw [fX7_inserts] at h
  refine z_aload_n (pc := 0) C 0 dX7_inserts_0 rfl rfl ?_
  refine z_iconst (pc := 1) C dX7_inserts_1 (v := (0 : Int32)) (by decide) ?_
  obtain ⟨M1, eM1, h⟩ := zlet_eq h
  refine z_put (pc := 2) C dX7_inserts_2 fl_X7_1w (hM_o A M B) (fun _ => rfl) (fun _ => rfl) (Nat.le_of_ble_eq_true rfl) (hMi_0 A B eM1) ?_
  refine z_aload_n (pc := 5) C 0 dX7_inserts_5 rfl rfl ?_
  obtain ⟨v3, M2, ev3, h⟩ := ob2_eq h
  refine z_callVi (h := A.length) (As := []) (rest := []) (pc := 6) C dX7_inserts_6 ml_X7_182 (kX7_empties _ _ _ _ A M1 B  (v3, M2) ev3) (hM_o A M1 B) rfl rfl rfl (Nat.le_of_ble_eq_true rfl) (by decide) ?_
  refine z_pop (pc := 9) C dX7_inserts_9 rfl ?_
  refine z_aload_n (pc := 10) C 0 dX7_inserts_10 rfl rfl ?_
  obtain ⟨v4, ev4, h⟩ := ob1_eq h
  refine z_callVi (h := A.length) (As := []) (rest := []) (pc := 11) C dX7_inserts_11 ml_X7_186 (kX7_faultOfText _ _ _ _ A M2 B  v4 ev4) (hM_o A M2 B) rfl rfl rfl (Nat.le_of_ble_eq_true rfl) (by decide) ?_
  refine z_istore_n (pc := 14) C dX7_inserts_14 rfl (by decide) (show zput _ _ _ = [(2, .int v4), (0, .ref A.length), (1, .int x1)] from rfl) ?_
  refine z_iload_n (pc := 15) C 0 dX7_inserts_15 rfl rfl ?_
  refine z_if_ge (pc := 16) C dX7_inserts_16 (tgt := 21) (by decide) (fun c5 => ?_) (fun c5 => ?_)
  · rw [if_pos c5] at h
    refine z_aload_n (pc := 21) C 1 dX7_inserts_21 rfl rfl ?_
    refine z_iload_n (pc := 22) C 2 dX7_inserts_22 rfl rfl ?_
    obtain ⟨v6, ev6, h⟩ := ob1_eq h
    refine z_callVi (h := A.length) (As := [.int x1]) (rest := []) (pc := 23) C dX7_inserts_23 ml_X7_202 (kX7_isPlace _ _ _ _ A M2 B x1 v6 ev6) (hM_o A M2 B) rfl rfl rfl (Nat.le_of_ble_eq_true rfl) (by decide) ?_
    refine z_if_ne (pc := 26) C dX7_inserts_26 (tgt := 32) (by decide) (fun c7 => ?_) (fun c7 => ?_)
    · rw [if_neg c7] at h
      refine z_aload_n (pc := 32) C 1 dX7_inserts_32 rfl rfl ?_
      refine z_get (pc := 33) C dX7_inserts_33 fl_X7_123 (hM_o A M2 B) rfl ?_
      refine z_aload_n (pc := 36) C 1 dX7_inserts_36 rfl rfl ?_
      refine z_get (pc := 37) C dX7_inserts_37 fl_X7_25 (hM_o A M2 B) rfl ?_
      refine z_iadd (pc := 40) C dX7_inserts_40 ?_
      refine z_sipush (pc := 41) C dX7_inserts_41 (v := (3000 : Int32)) (by decide) ?_
      refine z_ic_le (pc := 44) C dX7_inserts_44 (tgt := 50) (by decide) (fun c8 => ?_) (fun c8 => ?_)
      · rw [if_pos c8] at h
        refine z_aload_n (pc := 50) C 1 dX7_inserts_50 rfl rfl ?_
        refine z_get (pc := 51) C dX7_inserts_51 fl_X7_33 (hM_o A M2 B) rfl ?_
        refine z_aload_n (pc := 54) C 1 dX7_inserts_54 rfl rfl ?_
        refine z_get (pc := 55) C dX7_inserts_55 fl_X7_25 (hM_o A M2 B) rfl ?_
        refine z_iadd (pc := 58) C dX7_inserts_58 ?_
        refine z_sipush (pc := 59) C dX7_inserts_59 (v := (6000 : Int32)) (by decide) ?_
        refine z_ic_le (pc := 62) C dX7_inserts_62 (tgt := 68) (by decide) (fun c9 => ?_) (fun c9 => ?_)
        · rw [if_pos c9] at h
          refine z_aload_n (pc := 68) C 1 dX7_inserts_68 rfl rfl ?_
          refine z_get (pc := 69) C dX7_inserts_69 fl_X7_25 (hM_o A M2 B) rfl ?_
          refine z_if_le (pc := 72) C dX7_inserts_72 (tgt := 84) (by decide) (fun c10 => ?_) (fun c10 => ?_)
          · rw [if_pos c10] at h
            exact z_subL [1] (wfX7_inserts_b84 C E M2 B h) rfl
          · rw [if_neg c10] at h
            refine z_aload_n (pc := 75) C 1 dX7_inserts_75 rfl rfl ?_
            obtain ⟨M11, B12, eM11, h⟩ := ob2_eq h
            refine z_callVv (h := A.length) (As := []) (rest := []) (pc := 76) C dX7_inserts_76 ml_X7_205 (kX7_edits _ _ _ _ A M2 B  (M11, B12) eM11) (hM_o A M2 B) rfl rfl rfl (Nat.le_of_ble_eq_true rfl) (by decide) ?_
            refine z_aload_n (pc := 79) C 1 dX7_inserts_79 rfl rfl ?_
            refine z_iload_n (pc := 80) C 2 dX7_inserts_80 rfl rfl ?_
            obtain ⟨M13, eM13, h⟩ := ob1_eq h
            refine z_callVv (h := A.length) (As := [.int x1]) (rest := []) (pc := 81) C dX7_inserts_81 ml_X7_208 (kX7_insertsText _ _ _ _ A M11 B12 x1 M13 eM13) (hM_o A M11 B12) rfl rfl rfl (Nat.le_of_ble_eq_true rfl) (by decide) ?_
            exact z_subL [1] (wfX7_inserts_b84 C E M13 B12 h) rfl
        · rw [if_neg c9] at h
          refine z_bipush (pc := 65) C dX7_inserts_65 (v := (-102 : Int32)) (by decide) ?_
          obtain rfl := Option.some.inj h
          exact z_iret (pc := 67) C E dX7_inserts_67 ⟨rfl, rfl⟩
      · rw [if_neg c8] at h
        refine z_bipush (pc := 47) C dX7_inserts_47 (v := (-101 : Int32)) (by decide) ?_
        obtain rfl := Option.some.inj h
        exact z_iret (pc := 49) C E dX7_inserts_49 ⟨rfl, rfl⟩
    · rw [if_pos c7] at h
      refine z_bipush (pc := 29) C dX7_inserts_29 (v := (-100 : Int32)) (by decide) ?_
      obtain rfl := Option.some.inj h
      exact z_iret (pc := 31) C E dX7_inserts_31 ⟨rfl, rfl⟩
  · rw [if_neg c5] at h
    refine z_iload_n (pc := 19) C 0 dX7_inserts_19 rfl rfl ?_
    obtain rfl := Option.some.inj h
    exact z_iret (pc := 20) C E dX7_inserts_20 ⟨rfl, rfl⟩
theorem kX7_inserts (l : Launch) (D : va_G) (cA : Nat → ClassId) (b : Nat) (A : zH) (M : MS) (B : zH) (x1 : Int32) (out : Int32 × MS × zH) (h : fX7_inserts A M B x1 = some out) : zM l D cA b yX7_inserts cX7_inserts 3 (some .int) 5 112 [.ref A.length, .int x1] (hG A M B) (poI out.1 (hG A out.2.1 out.2.2)) := z_entry rfl (Nat.le_of_ble_eq_true rfl) (fun X C E _ _ _ => wfX7_inserts C E M B x1 h)
def fX7_typesOne_b87 (A : zH) (M : MS) (B : zH) (x4 : Int32) (s0 : Int32) : Option (Int32 × MS × zH) :=
    zlet (mI M 21 s0) fun M1 =>
    some (x4, M1, B)
set_option maxRecDepth 100000 in
set_option maxHeartbeats 4000000 in
theorem wfX7_typesOne_b87 {X : zX} {A : zH} {out : Int32 × MS × zH} (C : zOK X cX7_typesOne yX7_typesOne.cls 5 (some .int) 5 111) (E : zPost X (poI out.1 (hG A out.2.1 out.2.2))) (M : MS) (B : zH) (x4 : Int32) (s0 : Int32) (h : fX7_typesOne_b87 A M B x4 s0 = some out) : zZ X 87 [(4, .int x4)] [.int s0, .ref A.length] (hG A M B) := by
  rw [fX7_typesOne_b87] at h
  obtain ⟨M1, eM1, h⟩ := zlet_eq h
  refine z_put (pc := 87) C dX7_typesOne_87 fl_X7_74w (hM_o A M B) (fun _ => rfl) (fun _ => rfl) (Nat.le_of_ble_eq_true rfl) (hMi_21 A B eM1) ?_
  refine z_iload (pc := 90) C 0 dX7_typesOne_90 rfl ?_
  obtain rfl := Option.some.inj h
  exact z_iret (pc := 92) C E dX7_typesOne_92 ⟨rfl, rfl⟩
def fX7_typesOne_b66 (A : zH) (M : MS) (B : zH) (x1 : Int32) (x2 : Int32) (x3 : Int32) : Option (Int32 × MS × zH) :=
    ob2 (fX7_typesIn M x1 x2) fun v2 M1 =>
    if x3 = 0 then (fX7_typesOne_b87 A M1 B v2 (M1.1 21)) else
    fX7_typesOne_b87 A M1 B v2 x1
set_option maxRecDepth 100000 in
set_option maxHeartbeats 4000000 in
theorem wfX7_typesOne_b66 {X : zX} {A : zH} {out : Int32 × MS × zH} (C : zOK X cX7_typesOne yX7_typesOne.cls 5 (some .int) 5 111) (E : zPost X (poI out.1 (hG A out.2.1 out.2.2))) (M : MS) (B : zH) (x1 : Int32) (x2 : Int32) (x3 : Int32) (h : fX7_typesOne_b66 A M B x1 x2 x3 = some out) : zZ X 66 [(0, .ref A.length), (1, .int x1), (2, .int x2), (3, .int x3)] [] (hG A M B) := by
  rw [fX7_typesOne_b66] at h
  refine z_aload_n (pc := 66) C 0 dX7_typesOne_66 rfl rfl ?_
  refine z_iload_n (pc := 67) C 1 dX7_typesOne_67 rfl rfl ?_
  refine z_iload_n (pc := 68) C 2 dX7_typesOne_68 rfl rfl ?_
  obtain ⟨v2, M1, ev2, h⟩ := ob2_eq h
  refine z_callVi (h := A.length) (As := [.int x1, .int x2]) (rest := []) (pc := 69) C dX7_typesOne_69 ml_X7_214 (kX7_typesIn _ _ _ _ A M B x1 x2 (v2, M1) ev2) (hM_o A M B) rfl rfl rfl (Nat.le_of_ble_eq_true rfl) (by decide) ?_
  refine z_istore (pc := 72) C dX7_typesOne_72 (by decide) (show zput _ _ _ = [(4, .int v2), (0, .ref A.length), (1, .int x1), (2, .int x2), (3, .int x3)] from rfl) ?_
  refine z_aload_n (pc := 74) C 1 dX7_typesOne_74 rfl rfl ?_
  refine z_iload_n (pc := 75) C 4 dX7_typesOne_75 rfl rfl ?_
  refine z_if_eq (pc := 76) C dX7_typesOne_76 (tgt := 83) (by decide) (fun c3 => ?_) (fun c3 => ?_)
  · rw [if_pos c3] at h
    refine z_aload_n (pc := 83) C 1 dX7_typesOne_83 rfl rfl ?_
    refine z_get (pc := 84) C dX7_typesOne_84 fl_X7_74 (hM_o A M1 B) rfl ?_
    exact z_subL [0] (wfX7_typesOne_b87 C E M1 B v2 (M1.1 21) h) rfl
  · rw [if_neg c3] at h
    refine z_iload_n (pc := 79) C 2 dX7_typesOne_79 rfl rfl ?_
    refine z_goto (pc := 80) C dX7_typesOne_80 (tgt := 87) (by decide) ?_
    exact z_subL [0] (wfX7_typesOne_b87 C E M1 B v2 x1 h) rfl
def fX7_typesOne_b47 (A : zH) (M : MS) (B : zH) (x1 : Int32) (x2 : Int32) (s0 : Int32) : Option (Int32 × MS × zH) :=
    if s0 = 0 then (fX7_typesOne_b66 A M B x1 x2 s0) else
    if x1 = ((M.1 21) + (1 : Int32)) then (fX7_typesOne_b66 A M B x1 x2 s0) else
    ob2 (fX7_edits A M B ) fun M3 B4 =>
    fX7_typesOne_b66 A M3 B4 x1 x2 s0
set_option maxRecDepth 100000 in
set_option maxHeartbeats 4000000 in
theorem wfX7_typesOne_b47 {X : zX} {A : zH} {out : Int32 × MS × zH} (C : zOK X cX7_typesOne yX7_typesOne.cls 5 (some .int) 5 111) (E : zPost X (poI out.1 (hG A out.2.1 out.2.2))) (M : MS) (B : zH) (x1 : Int32) (x2 : Int32) (s0 : Int32) (h : fX7_typesOne_b47 A M B x1 x2 s0 = some out) : zZ X 47 [(0, .ref A.length), (1, .int x1), (2, .int x2)] [.int s0] (hG A M B) := by
  rw [fX7_typesOne_b47] at h
  refine z_istore_n (pc := 47) C dX7_typesOne_47 rfl (by decide) (show zput _ _ _ = [(3, .int s0), (0, .ref A.length), (1, .int x1), (2, .int x2)] from rfl) ?_
  refine z_iload_n (pc := 48) C 0 dX7_typesOne_48 rfl rfl ?_
  refine z_if_eq (pc := 49) C dX7_typesOne_49 (tgt := 66) (by decide) (fun c1 => ?_) (fun c1 => ?_)
  · rw [if_pos c1] at h
    exact z_subL [1, 2, 3, 0] (wfX7_typesOne_b66 C E M B x1 x2 s0 h) rfl
  · rw [if_neg c1] at h
    refine z_iload_n (pc := 52) C 2 dX7_typesOne_52 rfl rfl ?_
    refine z_aload_n (pc := 53) C 1 dX7_typesOne_53 rfl rfl ?_
    refine z_get (pc := 54) C dX7_typesOne_54 fl_X7_74 (hM_o A M B) rfl ?_
    refine z_iconst (pc := 57) C dX7_typesOne_57 (v := (1 : Int32)) (by decide) ?_
    refine z_iadd (pc := 58) C dX7_typesOne_58 ?_
    refine z_ic_eq (pc := 59) C dX7_typesOne_59 (tgt := 66) (by decide) (fun c2 => ?_) (fun c2 => ?_)
    · rw [if_pos c2] at h
      exact z_subL [1, 2, 3, 0] (wfX7_typesOne_b66 C E M B x1 x2 s0 h) rfl
    · rw [if_neg c2] at h
      refine z_aload_n (pc := 62) C 1 dX7_typesOne_62 rfl rfl ?_
      obtain ⟨M3, B4, eM3, h⟩ := ob2_eq h
      refine z_callVv (h := A.length) (As := []) (rest := []) (pc := 63) C dX7_typesOne_63 ml_X7_205 (kX7_edits _ _ _ _ A M B  (M3, B4) eM3) (hM_o A M B) rfl rfl rfl (Nat.le_of_ble_eq_true rfl) (by decide) ?_
      exact z_subL [1, 2, 3, 0] (wfX7_typesOne_b66 C E M3 B4 x1 x2 s0 h) rfl
def fX7_typesOne_b46 (A : zH) (M : MS) (B : zH) (x1 : Int32) (x2 : Int32) : Option (Int32 × MS × zH) :=
    fX7_typesOne_b47 A M B x1 x2 (0 : Int32)
set_option maxRecDepth 100000 in
set_option maxHeartbeats 4000000 in
theorem wfX7_typesOne_b46 {X : zX} {A : zH} {out : Int32 × MS × zH} (C : zOK X cX7_typesOne yX7_typesOne.cls 5 (some .int) 5 111) (E : zPost X (poI out.1 (hG A out.2.1 out.2.2))) (M : MS) (B : zH) (x1 : Int32) (x2 : Int32) (h : fX7_typesOne_b46 A M B x1 x2 = some out) : zZ X 46 [(0, .ref A.length), (1, .int x1), (2, .int x2)] [] (hG A M B) := by
  rw [fX7_typesOne_b46] at h
  refine z_iconst (pc := 46) C dX7_typesOne_46 (v := (0 : Int32)) (by decide) ?_
  exact z_subL [0, 1, 2] (wfX7_typesOne_b47 C E M B x1 x2 (0 : Int32) h) rfl
def fX7_typesOne (A : zH) (M : MS) (B : zH) (x1 : Int32) (x2 : Int32) : Option (Int32 × MS × zH) :=
    ob1 (fX7_in x2.toInt64 (1 : Int64) (127 : Int64)) fun v1 =>
    if v1 = 0 then (some ((-1 : Int32), M, B)) else
    ob1 (fX7_isPlace M x1) fun v3 =>
    if v3 = 0 then (fX7_typesOne_b46 A M B x1 x2) else
    if (3000 : Int32) ≤ (M.1 11) then (fX7_typesOne_b46 A M B x1 x2) else
    if (6000 : Int32) ≤ (M.1 9) then (fX7_typesOne_b46 A M B x1 x2) else
    fX7_typesOne_b47 A M B x1 x2 (1 : Int32)
set_option maxRecDepth 100000 in
set_option maxHeartbeats 4000000 in
theorem wfX7_typesOne {X : zX} {A : zH} {out : Int32 × MS × zH} (C : zOK X cX7_typesOne yX7_typesOne.cls 5 (some .int) 5 111) (E : zPost X (poI out.1 (hG A out.2.1 out.2.2))) (M : MS) (B : zH) (x1 : Int32) (x2 : Int32) (h : fX7_typesOne A M B x1 x2 = some out) : zZ X 0 [(0, .ref A.length), (1, .int x1), (2, .int x2)] [] (hG A M B) := by
  rw [fX7_typesOne] at h
  refine z_iload_n (pc := 0) C 2 dX7_typesOne_0 rfl rfl ?_
  refine z_i2l (pc := 1) C dX7_typesOne_1 ?_
  refine z_lconst (pc := 2) C dX7_typesOne_2 (v := (1 : Int64)) (by decide) ?_
  refine z_ldc2 (pc := 3) C dX7_typesOne_3 cn_X7_28 ?_
  obtain ⟨v1, ev1, h⟩ := ob1_eq h
  refine z_callSi (As := [.long x2.toInt64, .long (1 : Int64), .long (127 : Int64)]) (rest := []) (pc := 6) C dX7_typesOne_6 ml_X7_21 (kX7_in _ _ _ _ (hG A M B) x2.toInt64 (1 : Int64) (127 : Int64) v1 ev1) rfl rfl (Nat.le_of_ble_eq_true rfl) (by decide) ?_
  refine z_if_ne (pc := 9) C dX7_typesOne_9 (tgt := 14) (by decide) (fun c2 => ?_) (fun c2 => ?_)
  · rw [if_neg c2] at h
    refine z_aload_n (pc := 14) C 0 dX7_typesOne_14 rfl rfl ?_
    refine z_iload_n (pc := 15) C 1 dX7_typesOne_15 rfl rfl ?_
    obtain ⟨v3, ev3, h⟩ := ob1_eq h
    refine z_callVi (h := A.length) (As := [.int x1]) (rest := []) (pc := 16) C dX7_typesOne_16 ml_X7_202 (kX7_isPlace _ _ _ _ A M B x1 v3 ev3) (hM_o A M B) rfl rfl rfl (Nat.le_of_ble_eq_true rfl) (by decide) ?_
    refine z_if_eq (pc := 19) C dX7_typesOne_19 (tgt := 46) (by decide) (fun c4 => ?_) (fun c4 => ?_)
    · rw [if_pos c4] at h
      exact z_subL [0, 1, 2] (wfX7_typesOne_b46 C E M B x1 x2 h) rfl
    · rw [if_neg c4] at h
      refine z_aload_n (pc := 22) C 0 dX7_typesOne_22 rfl rfl ?_
      refine z_get (pc := 23) C dX7_typesOne_23 fl_X7_123 (hM_o A M B) rfl ?_
      refine z_sipush (pc := 26) C dX7_typesOne_26 (v := (3000 : Int32)) (by decide) ?_
      refine z_ic_ge (pc := 29) C dX7_typesOne_29 (tgt := 46) (by decide) (fun c5 => ?_) (fun c5 => ?_)
      · rw [if_pos c5] at h
        exact z_subL [0, 1, 2] (wfX7_typesOne_b46 C E M B x1 x2 h) rfl
      · rw [if_neg c5] at h
        refine z_aload_n (pc := 32) C 0 dX7_typesOne_32 rfl rfl ?_
        refine z_get (pc := 33) C dX7_typesOne_33 fl_X7_33 (hM_o A M B) rfl ?_
        refine z_sipush (pc := 36) C dX7_typesOne_36 (v := (6000 : Int32)) (by decide) ?_
        refine z_ic_ge (pc := 39) C dX7_typesOne_39 (tgt := 46) (by decide) (fun c6 => ?_) (fun c6 => ?_)
        · rw [if_pos c6] at h
          exact z_subL [0, 1, 2] (wfX7_typesOne_b46 C E M B x1 x2 h) rfl
        · rw [if_neg c6] at h
          refine z_iconst (pc := 42) C dX7_typesOne_42 (v := (1 : Int32)) (by decide) ?_
          refine z_goto (pc := 43) C dX7_typesOne_43 (tgt := 47) (by decide) ?_
          exact z_subL [0, 1, 2] (wfX7_typesOne_b47 C E M B x1 x2 (1 : Int32) h) rfl
  · rw [if_pos c2] at h
    refine z_iconst (pc := 12) C dX7_typesOne_12 (v := (-1 : Int32)) (by decide) ?_
    obtain rfl := Option.some.inj h
    exact z_iret (pc := 13) C E dX7_typesOne_13 ⟨rfl, rfl⟩
theorem kX7_typesOne (l : Launch) (D : va_G) (cA : Nat → ClassId) (b : Nat) (A : zH) (M : MS) (B : zH) (x1 : Int32) (x2 : Int32) (out : Int32 × MS × zH) (h : fX7_typesOne A M B x1 x2 = some out) : zM l D cA b yX7_typesOne cX7_typesOne 5 (some .int) 5 111 [.ref A.length, .int x1, .int x2] (hG A M B) (poI out.1 (hG A out.2.1 out.2.2)) := z_entry rfl (Nat.le_of_ble_eq_true rfl) (fun X C E _ _ _ => wfX7_typesOne C E M B x1 x2 h)
def fX7_type (A : zH) (M : MS) (B : zH) (x1 : Int32) (x2 : Int32) : Option (Int32 × MS × zH) :=
    zlet (mI M 0 (0 : Int32)) fun M1 =>
    ob3 (fX7_typesOne A M1 B x1 x2) fun v4 M2 B3 =>
    some (v4, M2, B3)
set_option maxRecDepth 100000 in
set_option maxHeartbeats 4000000 in
theorem wfX7_type {X : zX} {A : zH} {out : Int32 × MS × zH} (C : zOK X cX7_type yX7_type.cls 3 (some .int) 6 135) (E : zPost X (poI out.1 (hG A out.2.1 out.2.2))) (M : MS) (B : zH) (x1 : Int32) (x2 : Int32) (h : fX7_type A M B x1 x2 = some out) : zZ X 0 [(0, .ref A.length), (1, .int x1), (2, .int x2)] [] (hG A M B) := by
  rw [fX7_type] at h
  refine z_aload_n (pc := 0) C 0 dX7_type_0 rfl rfl ?_
  refine z_iconst (pc := 1) C dX7_type_1 (v := (0 : Int32)) (by decide) ?_
  obtain ⟨M1, eM1, h⟩ := zlet_eq h
  refine z_put (pc := 2) C dX7_type_2 fl_X7_1w (hM_o A M B) (fun _ => rfl) (fun _ => rfl) (Nat.le_of_ble_eq_true rfl) (hMi_0 A B eM1) ?_
  refine z_aload_n (pc := 5) C 0 dX7_type_5 rfl rfl ?_
  refine z_iload_n (pc := 6) C 1 dX7_type_6 rfl rfl ?_
  refine z_iload_n (pc := 7) C 2 dX7_type_7 rfl rfl ?_
  obtain ⟨v4, M2, B3, ev4, h⟩ := ob3_eq h
  refine z_callVi (h := A.length) (As := [.int x1, .int x2]) (rest := []) (pc := 8) C dX7_type_8 ml_X7_211 (kX7_typesOne _ _ _ _ A M1 B x1 x2 (v4, M2, B3) ev4) (hM_o A M1 B) rfl rfl rfl (Nat.le_of_ble_eq_true rfl) (by decide) ?_
  obtain rfl := Option.some.inj h
  exact z_iret (pc := 11) C E dX7_type_11 ⟨rfl, rfl⟩
theorem kX7_type (l : Launch) (D : va_G) (cA : Nat → ClassId) (b : Nat) (A : zH) (M : MS) (B : zH) (x1 : Int32) (x2 : Int32) (out : Int32 × MS × zH) (h : fX7_type A M B x1 x2 = some out) : zM l D cA b yX7_type cX7_type 3 (some .int) 6 135 [.ref A.length, .int x1, .int x2] (hG A M B) (poI out.1 (hG A out.2.1 out.2.2)) := z_entry rfl (Nat.le_of_ble_eq_true rfl) (fun X C E _ _ _ => wfX7_type C E M B x1 x2 h)
def fX7_takesOne (A : zH) (M : MS) (B : zH) (x1 : Int32) (x2 : Int32) : Option (Int32 × MS × zH) :=
    if x2 < (1 : Int32) then (some ((-1 : Int32), M, B)) else
    if 0 ≤ x1 then (if (lg_cmp (x1.toInt64 + x2.toInt64) ((M.1 11).toInt64)) ≤ 0 then (ob2 (fX7_edits A M B ) fun M4 B5 =>
    ob2 (fX7_takesOut M4 x1 x2) fun v7 M6 =>
    some (v7, M6, B5)) else
    some ((-2 : Int32), M, B)) else
    some ((-1 : Int32), M, B)
set_option maxRecDepth 100000 in
set_option maxHeartbeats 4000000 in
theorem wfX7_takesOne {X : zX} {A : zH} {out : Int32 × MS × zH} (C : zOK X cX7_takesOne yX7_takesOne.cls 3 (some .int) 4 87) (E : zPost X (poI out.1 (hG A out.2.1 out.2.2))) (M : MS) (B : zH) (x1 : Int32) (x2 : Int32) (h : fX7_takesOne A M B x1 x2 = some out) : zZ X 0 [(0, .ref A.length), (1, .int x1), (2, .int x2)] [] (hG A M B) := by
  rw [fX7_takesOne] at h
  refine z_iload_n (pc := 0) C 2 dX7_takesOne_0 rfl rfl ?_
  refine z_iconst (pc := 1) C dX7_takesOne_1 (v := (1 : Int32)) (by decide) ?_
  refine z_ic_lt (pc := 2) C dX7_takesOne_2 (tgt := 9) (by decide) (fun c1 => ?_) (fun c1 => ?_)
  · rw [if_pos c1] at h
    refine z_iconst (pc := 9) C dX7_takesOne_9 (v := (-1 : Int32)) (by decide) ?_
    obtain rfl := Option.some.inj h
    exact z_iret (pc := 10) C E dX7_takesOne_10 ⟨rfl, rfl⟩
  · rw [if_neg c1] at h
    refine z_iload_n (pc := 5) C 1 dX7_takesOne_5 rfl rfl ?_
    refine z_if_ge (pc := 6) C dX7_takesOne_6 (tgt := 11) (by decide) (fun c2 => ?_) (fun c2 => ?_)
    · rw [if_pos c2] at h
      refine z_iload_n (pc := 11) C 1 dX7_takesOne_11 rfl rfl ?_
      refine z_i2l (pc := 12) C dX7_takesOne_12 ?_
      refine z_iload_n (pc := 13) C 2 dX7_takesOne_13 rfl rfl ?_
      refine z_i2l (pc := 14) C dX7_takesOne_14 ?_
      refine z_ladd (pc := 15) C dX7_takesOne_15 ?_
      refine z_aload_n (pc := 16) C 0 dX7_takesOne_16 rfl rfl ?_
      refine z_get (pc := 17) C dX7_takesOne_17 fl_X7_123 (hM_o A M B) rfl ?_
      refine z_i2l (pc := 20) C dX7_takesOne_20 ?_
      refine z_lcmp (pc := 21) C dX7_takesOne_21 ?_
      refine z_if_le (pc := 22) C dX7_takesOne_22 (tgt := 28) (by decide) (fun c3 => ?_) (fun c3 => ?_)
      · rw [if_pos c3] at h
        refine z_aload_n (pc := 28) C 0 dX7_takesOne_28 rfl rfl ?_
        obtain ⟨M4, B5, eM4, h⟩ := ob2_eq h
        refine z_callVv (h := A.length) (As := []) (rest := []) (pc := 29) C dX7_takesOne_29 ml_X7_205 (kX7_edits _ _ _ _ A M B  (M4, B5) eM4) (hM_o A M B) rfl rfl rfl (Nat.le_of_ble_eq_true rfl) (by decide) ?_
        refine z_aload_n (pc := 32) C 0 dX7_takesOne_32 rfl rfl ?_
        refine z_iload_n (pc := 33) C 1 dX7_takesOne_33 rfl rfl ?_
        refine z_iload_n (pc := 34) C 2 dX7_takesOne_34 rfl rfl ?_
        obtain ⟨v7, M6, ev7, h⟩ := ob2_eq h
        refine z_callVi (h := A.length) (As := [.int x1, .int x2]) (rest := []) (pc := 35) C dX7_takesOne_35 ml_X7_217 (kX7_takesOut _ _ _ _ A M4 B5 x1 x2 (v7, M6) ev7) (hM_o A M4 B5) rfl rfl rfl (Nat.le_of_ble_eq_true rfl) (by decide) ?_
        obtain rfl := Option.some.inj h
        exact z_iret (pc := 38) C E dX7_takesOne_38 ⟨rfl, rfl⟩
      · rw [if_neg c3] at h
        refine z_bipush (pc := 25) C dX7_takesOne_25 (v := (-2 : Int32)) (by decide) ?_
        obtain rfl := Option.some.inj h
        exact z_iret (pc := 27) C E dX7_takesOne_27 ⟨rfl, rfl⟩
    · rw [if_neg c2] at h
      refine z_iconst (pc := 9) C dX7_takesOne_9 (v := (-1 : Int32)) (by decide) ?_
      obtain rfl := Option.some.inj h
      exact z_iret (pc := 10) C E dX7_takesOne_10 ⟨rfl, rfl⟩
theorem kX7_takesOne (l : Launch) (D : va_G) (cA : Nat → ClassId) (b : Nat) (A : zH) (M : MS) (B : zH) (x1 : Int32) (x2 : Int32) (out : Int32 × MS × zH) (h : fX7_takesOne A M B x1 x2 = some out) : zM l D cA b yX7_takesOne cX7_takesOne 3 (some .int) 4 87 [.ref A.length, .int x1, .int x2] (hG A M B) (poI out.1 (hG A out.2.1 out.2.2)) := z_entry rfl (Nat.le_of_ble_eq_true rfl) (fun X C E _ _ _ => wfX7_takesOne C E M B x1 x2 h)
def fX7_takes (A : zH) (M : MS) (B : zH) (x1 : Int32) (x2 : Int32) : Option (Int32 × MS × zH) :=
    zlet (mI M 0 (0 : Int32)) fun M1 =>
    ob3 (fX7_takesOne A M1 B x1 x2) fun v4 M2 B3 =>
    some (v4, M2, B3)
set_option maxRecDepth 100000 in
set_option maxHeartbeats 4000000 in
theorem wfX7_takes {X : zX} {A : zH} {out : Int32 × MS × zH} (C : zOK X cX7_takes yX7_takes.cls 3 (some .int) 5 109) (E : zPost X (poI out.1 (hG A out.2.1 out.2.2))) (M : MS) (B : zH) (x1 : Int32) (x2 : Int32) (h : fX7_takes A M B x1 x2 = some out) : zZ X 0 [(0, .ref A.length), (1, .int x1), (2, .int x2)] [] (hG A M B) := by
  rw [fX7_takes] at h
  refine z_aload_n (pc := 0) C 0 dX7_takes_0 rfl rfl ?_
  refine z_iconst (pc := 1) C dX7_takes_1 (v := (0 : Int32)) (by decide) ?_
  obtain ⟨M1, eM1, h⟩ := zlet_eq h
  refine z_put (pc := 2) C dX7_takes_2 fl_X7_1w (hM_o A M B) (fun _ => rfl) (fun _ => rfl) (Nat.le_of_ble_eq_true rfl) (hMi_0 A B eM1) ?_
  refine z_aload_n (pc := 5) C 0 dX7_takes_5 rfl rfl ?_
  refine z_iload_n (pc := 6) C 1 dX7_takes_6 rfl rfl ?_
  refine z_iload_n (pc := 7) C 2 dX7_takes_7 rfl rfl ?_
  obtain ⟨v4, M2, B3, ev4, h⟩ := ob3_eq h
  refine z_callVi (h := A.length) (As := [.int x1, .int x2]) (rest := []) (pc := 8) C dX7_takes_8 ml_X7_220 (kX7_takesOne _ _ _ _ A M1 B x1 x2 (v4, M2, B3) ev4) (hM_o A M1 B) rfl rfl rfl (Nat.le_of_ble_eq_true rfl) (by decide) ?_
  obtain rfl := Option.some.inj h
  exact z_iret (pc := 11) C E dX7_takes_11 ⟨rfl, rfl⟩
theorem kX7_takes (l : Launch) (D : va_G) (cA : Nat → ClassId) (b : Nat) (A : zH) (M : MS) (B : zH) (x1 : Int32) (x2 : Int32) (out : Int32 × MS × zH) (h : fX7_takes A M B x1 x2 = some out) : zM l D cA b yX7_takes cX7_takes 3 (some .int) 5 109 [.ref A.length, .int x1, .int x2] (hG A M B) (poI out.1 (hG A out.2.1 out.2.2)) := z_entry rfl (Nat.le_of_ble_eq_true rfl) (fun X C E _ _ _ => wfX7_takes C E M B x1 x2 h)
def fX7_puts_b120 (A : zH) (M : MS) (B : zH) : Option (Int32 × MS × zH) :=
    some ((M.1 11), M, B)
set_option maxRecDepth 100000 in
set_option maxHeartbeats 4000000 in
theorem wfX7_puts_b120 {X : zX} {A : zH} {out : Int32 × MS × zH} (C : zOK X cX7_puts yX7_puts.cls 4 (some .int) 5 112) (E : zPost X (poI out.1 (hG A out.2.1 out.2.2))) (M : MS) (B : zH) (h : fX7_puts_b120 A M B = some out) : zZ X 120 [(0, .ref A.length)] [] (hG A M B) := by
  rw [fX7_puts_b120] at h
  refine z_aload_n (pc := 120) C 0 dX7_puts_120 rfl rfl ?_
  refine z_get (pc := 121) C dX7_puts_121 fl_X7_123 (hM_o A M B) rfl ?_
  obtain rfl := Option.some.inj h
  exact z_iret (pc := 124) C E dX7_puts_124 ⟨rfl, rfl⟩
def fX7_puts_b108 (A : zH) (M : MS) (B : zH) (x1 : Int32) : Option (Int32 × MS × zH) :=
    if (M.1 5) ≤ 0 then (fX7_puts_b120 A M B) else
    ob1 (fX7_insertsText M x1) fun M2 =>
    fX7_puts_b120 A M2 B
set_option maxRecDepth 100000 in
set_option maxHeartbeats 4000000 in
theorem wfX7_puts_b108 {X : zX} {A : zH} {out : Int32 × MS × zH} (C : zOK X cX7_puts yX7_puts.cls 4 (some .int) 5 112) (E : zPost X (poI out.1 (hG A out.2.1 out.2.2))) (M : MS) (B : zH) (x1 : Int32) (h : fX7_puts_b108 A M B x1 = some out) : zZ X 108 [(0, .ref A.length), (1, .int x1)] [] (hG A M B) := by
  rw [fX7_puts_b108] at h
  refine z_aload_n (pc := 108) C 0 dX7_puts_108 rfl rfl ?_
  refine z_get (pc := 109) C dX7_puts_109 fl_X7_25 (hM_o A M B) rfl ?_
  refine z_if_le (pc := 112) C dX7_puts_112 (tgt := 120) (by decide) (fun c1 => ?_) (fun c1 => ?_)
  · rw [if_pos c1] at h
    exact z_subL [0] (wfX7_puts_b120 C E M B h) rfl
  · rw [if_neg c1] at h
    refine z_aload_n (pc := 115) C 0 dX7_puts_115 rfl rfl ?_
    refine z_iload_n (pc := 116) C 1 dX7_puts_116 rfl rfl ?_
    obtain ⟨M2, eM2, h⟩ := ob1_eq h
    refine z_callVv (h := A.length) (As := [.int x1]) (rest := []) (pc := 117) C dX7_puts_117 ml_X7_208 (kX7_insertsText _ _ _ _ A M B x1 M2 eM2) (hM_o A M B) rfl rfl rfl (Nat.le_of_ble_eq_true rfl) (by decide) ?_
    exact z_subL [0] (wfX7_puts_b120 C E M2 B h) rfl
def fX7_puts (A : zH) (M : MS) (B : zH) (x1 : Int32) (x2 : Int32) : Option (Int32 × MS × zH) :=
    zlet (mI M 0 (0 : Int32)) fun M1 =>
    ob2 (fX7_empties M1 ) fun v3 M2 =>
    ob1 (fX7_faultOfText M2 ) fun v4 =>
    if 0 ≤ v4 then (if x2 < 0 then (some ((-100 : Int32), M2, B)) else
    if x1 < 0 then (some ((-100 : Int32), M2, B)) else
    if (lg_cmp (x1.toInt64 + x2.toInt64) ((M2.1 11).toInt64)) ≤ 0 then (if (((M2.1 11) - x2) + (M2.1 5)) ≤ (3000 : Int32) then (if ((M2.1 9) + (M2.1 5)) ≤ (6000 : Int32) then (if (x2 + (M2.1 5)) ≤ 0 then (fX7_puts_b120 A M2 B) else
    ob2 (fX7_edits A M2 B ) fun M12 B13 =>
    if x2 ≤ 0 then (fX7_puts_b108 A M12 B13 x1) else
    ob2 (fX7_takesOut M12 x1 x2) fun v16 M15 =>
    fX7_puts_b108 A M15 B13 x1) else
    some ((-102 : Int32), M2, B)) else
    some ((-101 : Int32), M2, B)) else
    some ((-100 : Int32), M2, B)) else
    some (v4, M2, B)
set_option maxRecDepth 100000 in
set_option maxHeartbeats 4000000 in
theorem wfX7_puts {X : zX} {A : zH} {out : Int32 × MS × zH} (C : zOK X cX7_puts yX7_puts.cls 4 (some .int) 5 112) (E : zPost X (poI out.1 (hG A out.2.1 out.2.2))) (M : MS) (B : zH) (x1 : Int32) (x2 : Int32) (h : fX7_puts A M B x1 x2 = some out) : zZ X 0 [(0, .ref A.length), (1, .int x1), (2, .int x2)] [] (hG A M B) := by
  rw [fX7_puts] at h
  refine z_aload_n (pc := 0) C 0 dX7_puts_0 rfl rfl ?_
  refine z_iconst (pc := 1) C dX7_puts_1 (v := (0 : Int32)) (by decide) ?_
  obtain ⟨M1, eM1, h⟩ := zlet_eq h
  refine z_put (pc := 2) C dX7_puts_2 fl_X7_1w (hM_o A M B) (fun _ => rfl) (fun _ => rfl) (Nat.le_of_ble_eq_true rfl) (hMi_0 A B eM1) ?_
  refine z_aload_n (pc := 5) C 0 dX7_puts_5 rfl rfl ?_
  obtain ⟨v3, M2, ev3, h⟩ := ob2_eq h
  refine z_callVi (h := A.length) (As := []) (rest := []) (pc := 6) C dX7_puts_6 ml_X7_182 (kX7_empties _ _ _ _ A M1 B  (v3, M2) ev3) (hM_o A M1 B) rfl rfl rfl (Nat.le_of_ble_eq_true rfl) (by decide) ?_
  refine z_pop (pc := 9) C dX7_puts_9 rfl ?_
  refine z_aload_n (pc := 10) C 0 dX7_puts_10 rfl rfl ?_
  obtain ⟨v4, ev4, h⟩ := ob1_eq h
  refine z_callVi (h := A.length) (As := []) (rest := []) (pc := 11) C dX7_puts_11 ml_X7_186 (kX7_faultOfText _ _ _ _ A M2 B  v4 ev4) (hM_o A M2 B) rfl rfl rfl (Nat.le_of_ble_eq_true rfl) (by decide) ?_
  refine z_istore_n (pc := 14) C dX7_puts_14 rfl (by decide) (show zput _ _ _ = [(3, .int v4), (0, .ref A.length), (1, .int x1), (2, .int x2)] from rfl) ?_
  refine z_iload_n (pc := 15) C 0 dX7_puts_15 rfl rfl ?_
  refine z_if_ge (pc := 16) C dX7_puts_16 (tgt := 21) (by decide) (fun c5 => ?_) (fun c5 => ?_)
  · rw [if_pos c5] at h
    refine z_iload_n (pc := 21) C 3 dX7_puts_21 rfl rfl ?_
    refine z_if_lt (pc := 22) C dX7_puts_22 (tgt := 43) (by decide) (fun c6 => ?_) (fun c6 => ?_)
    · rw [if_pos c6] at h
      refine z_bipush (pc := 43) C dX7_puts_43 (v := (-100 : Int32)) (by decide) ?_
      obtain rfl := Option.some.inj h
      exact z_iret (pc := 45) C E dX7_puts_45 ⟨rfl, rfl⟩
    · rw [if_neg c6] at h
      refine z_iload_n (pc := 25) C 2 dX7_puts_25 rfl rfl ?_
      refine z_if_lt (pc := 26) C dX7_puts_26 (tgt := 43) (by decide) (fun c7 => ?_) (fun c7 => ?_)
      · rw [if_pos c7] at h
        refine z_bipush (pc := 43) C dX7_puts_43 (v := (-100 : Int32)) (by decide) ?_
        obtain rfl := Option.some.inj h
        exact z_iret (pc := 45) C E dX7_puts_45 ⟨rfl, rfl⟩
      · rw [if_neg c7] at h
        refine z_iload_n (pc := 29) C 2 dX7_puts_29 rfl rfl ?_
        refine z_i2l (pc := 30) C dX7_puts_30 ?_
        refine z_iload_n (pc := 31) C 3 dX7_puts_31 rfl rfl ?_
        refine z_i2l (pc := 32) C dX7_puts_32 ?_
        refine z_ladd (pc := 33) C dX7_puts_33 ?_
        refine z_aload_n (pc := 34) C 1 dX7_puts_34 rfl rfl ?_
        refine z_get (pc := 35) C dX7_puts_35 fl_X7_123 (hM_o A M2 B) rfl ?_
        refine z_i2l (pc := 38) C dX7_puts_38 ?_
        refine z_lcmp (pc := 39) C dX7_puts_39 ?_
        refine z_if_le (pc := 40) C dX7_puts_40 (tgt := 46) (by decide) (fun c8 => ?_) (fun c8 => ?_)
        · rw [if_pos c8] at h
          refine z_aload_n (pc := 46) C 1 dX7_puts_46 rfl rfl ?_
          refine z_get (pc := 47) C dX7_puts_47 fl_X7_123 (hM_o A M2 B) rfl ?_
          refine z_iload_n (pc := 50) C 3 dX7_puts_50 rfl rfl ?_
          refine z_isub (pc := 51) C dX7_puts_51 ?_
          refine z_aload_n (pc := 52) C 1 dX7_puts_52 rfl rfl ?_
          refine z_get (pc := 53) C dX7_puts_53 fl_X7_25 (hM_o A M2 B) rfl ?_
          refine z_iadd (pc := 56) C dX7_puts_56 ?_
          refine z_sipush (pc := 57) C dX7_puts_57 (v := (3000 : Int32)) (by decide) ?_
          refine z_ic_le (pc := 60) C dX7_puts_60 (tgt := 66) (by decide) (fun c9 => ?_) (fun c9 => ?_)
          · rw [if_pos c9] at h
            refine z_aload_n (pc := 66) C 1 dX7_puts_66 rfl rfl ?_
            refine z_get (pc := 67) C dX7_puts_67 fl_X7_33 (hM_o A M2 B) rfl ?_
            refine z_aload_n (pc := 70) C 1 dX7_puts_70 rfl rfl ?_
            refine z_get (pc := 71) C dX7_puts_71 fl_X7_25 (hM_o A M2 B) rfl ?_
            refine z_iadd (pc := 74) C dX7_puts_74 ?_
            refine z_sipush (pc := 75) C dX7_puts_75 (v := (6000 : Int32)) (by decide) ?_
            refine z_ic_le (pc := 78) C dX7_puts_78 (tgt := 84) (by decide) (fun c10 => ?_) (fun c10 => ?_)
            · rw [if_pos c10] at h
              refine z_iload_n (pc := 84) C 3 dX7_puts_84 rfl rfl ?_
              refine z_aload_n (pc := 85) C 1 dX7_puts_85 rfl rfl ?_
              refine z_get (pc := 86) C dX7_puts_86 fl_X7_25 (hM_o A M2 B) rfl ?_
              refine z_iadd (pc := 89) C dX7_puts_89 ?_
              refine z_if_le (pc := 90) C dX7_puts_90 (tgt := 120) (by decide) (fun c11 => ?_) (fun c11 => ?_)
              · rw [if_pos c11] at h
                exact z_subL [1] (wfX7_puts_b120 C E M2 B h) rfl
              · rw [if_neg c11] at h
                refine z_aload_n (pc := 93) C 1 dX7_puts_93 rfl rfl ?_
                obtain ⟨M12, B13, eM12, h⟩ := ob2_eq h
                refine z_callVv (h := A.length) (As := []) (rest := []) (pc := 94) C dX7_puts_94 ml_X7_205 (kX7_edits _ _ _ _ A M2 B  (M12, B13) eM12) (hM_o A M2 B) rfl rfl rfl (Nat.le_of_ble_eq_true rfl) (by decide) ?_
                refine z_iload_n (pc := 97) C 3 dX7_puts_97 rfl rfl ?_
                refine z_if_le (pc := 98) C dX7_puts_98 (tgt := 108) (by decide) (fun c14 => ?_) (fun c14 => ?_)
                · rw [if_pos c14] at h
                  exact z_subL [1, 2] (wfX7_puts_b108 C E M12 B13 x1 h) rfl
                · rw [if_neg c14] at h
                  refine z_aload_n (pc := 101) C 1 dX7_puts_101 rfl rfl ?_
                  refine z_iload_n (pc := 102) C 2 dX7_puts_102 rfl rfl ?_
                  refine z_iload_n (pc := 103) C 3 dX7_puts_103 rfl rfl ?_
                  obtain ⟨v16, M15, ev16, h⟩ := ob2_eq h
                  refine z_callVi (h := A.length) (As := [.int x1, .int x2]) (rest := []) (pc := 104) C dX7_puts_104 ml_X7_217 (kX7_takesOut _ _ _ _ A M12 B13 x1 x2 (v16, M15) ev16) (hM_o A M12 B13) rfl rfl rfl (Nat.le_of_ble_eq_true rfl) (by decide) ?_
                  refine z_pop (pc := 107) C dX7_puts_107 rfl ?_
                  exact z_subL [1, 2] (wfX7_puts_b108 C E M15 B13 x1 h) rfl
            · rw [if_neg c10] at h
              refine z_bipush (pc := 81) C dX7_puts_81 (v := (-102 : Int32)) (by decide) ?_
              obtain rfl := Option.some.inj h
              exact z_iret (pc := 83) C E dX7_puts_83 ⟨rfl, rfl⟩
          · rw [if_neg c9] at h
            refine z_bipush (pc := 63) C dX7_puts_63 (v := (-101 : Int32)) (by decide) ?_
            obtain rfl := Option.some.inj h
            exact z_iret (pc := 65) C E dX7_puts_65 ⟨rfl, rfl⟩
        · rw [if_neg c8] at h
          refine z_bipush (pc := 43) C dX7_puts_43 (v := (-100 : Int32)) (by decide) ?_
          obtain rfl := Option.some.inj h
          exact z_iret (pc := 45) C E dX7_puts_45 ⟨rfl, rfl⟩
  · rw [if_neg c5] at h
    refine z_iload_n (pc := 19) C 0 dX7_puts_19 rfl rfl ?_
    obtain rfl := Option.some.inj h
    exact z_iret (pc := 20) C E dX7_puts_20 ⟨rfl, rfl⟩
theorem kX7_puts (l : Launch) (D : va_G) (cA : Nat → ClassId) (b : Nat) (A : zH) (M : MS) (B : zH) (x1 : Int32) (x2 : Int32) (out : Int32 × MS × zH) (h : fX7_puts A M B x1 x2 = some out) : zM l D cA b yX7_puts cX7_puts 4 (some .int) 5 112 [.ref A.length, .int x1, .int x2] (hG A M B) (poI out.1 (hG A out.2.1 out.2.2)) := z_entry rfl (Nat.le_of_ble_eq_true rfl) (fun X C E _ _ _ => wfX7_puts C E M B x1 x2 h)
def fX7_laysOne (A : zH) (M : MS) (B : zH) (x1 : Int32) (x2 : Int32) (x3 : Int32) : Option (Int32 × MS × zH) :=
    if x2 < (1 : Int32) then (some ((-1 : Int32), M, B)) else
    if x1 < 0 then (some ((-1 : Int32), M, B)) else
    if 0 ≤ x3 then (if 0 < (lg_cmp (x1.toInt64 + x2.toInt64) ((M.1 11).toInt64)) then (some ((-2 : Int32), M, B)) else
    if x3 ≤ (M.1 11) then (if ((M.1 11) + x2) ≤ (3000 : Int32) then (ob2 (fX7_edits A M B ) fun M7 B8 =>
    ob1 (fX7_laysOut M7 x1 x2) fun M9 =>
    ob1 (fX7_laysIn M9 x2 x3) fun M10 =>
    ob1 (fX7_marksCome M10 x3 x2) fun M11 =>
    some ((M11.1 11), M11, B8)) else
    some ((-3 : Int32), M, B)) else
    some ((-2 : Int32), M, B)) else
    some ((-1 : Int32), M, B)
set_option maxRecDepth 100000 in
set_option maxHeartbeats 4000000 in
theorem wfX7_laysOne {X : zX} {A : zH} {out : Int32 × MS × zH} (C : zOK X cX7_laysOne yX7_laysOne.cls 4 (some .int) 4 86) (E : zPost X (poI out.1 (hG A out.2.1 out.2.2))) (M : MS) (B : zH) (x1 : Int32) (x2 : Int32) (x3 : Int32) (h : fX7_laysOne A M B x1 x2 x3 = some out) : zZ X 0 [(0, .ref A.length), (1, .int x1), (2, .int x2), (3, .int x3)] [] (hG A M B) := by
  rw [fX7_laysOne] at h
  refine z_iload_n (pc := 0) C 2 dX7_laysOne_0 rfl rfl ?_
  refine z_iconst (pc := 1) C dX7_laysOne_1 (v := (1 : Int32)) (by decide) ?_
  refine z_ic_lt (pc := 2) C dX7_laysOne_2 (tgt := 13) (by decide) (fun c1 => ?_) (fun c1 => ?_)
  · rw [if_pos c1] at h
    refine z_iconst (pc := 13) C dX7_laysOne_13 (v := (-1 : Int32)) (by decide) ?_
    obtain rfl := Option.some.inj h
    exact z_iret (pc := 14) C E dX7_laysOne_14 ⟨rfl, rfl⟩
  · rw [if_neg c1] at h
    refine z_iload_n (pc := 5) C 1 dX7_laysOne_5 rfl rfl ?_
    refine z_if_lt (pc := 6) C dX7_laysOne_6 (tgt := 13) (by decide) (fun c2 => ?_) (fun c2 => ?_)
    · rw [if_pos c2] at h
      refine z_iconst (pc := 13) C dX7_laysOne_13 (v := (-1 : Int32)) (by decide) ?_
      obtain rfl := Option.some.inj h
      exact z_iret (pc := 14) C E dX7_laysOne_14 ⟨rfl, rfl⟩
    · rw [if_neg c2] at h
      refine z_iload_n (pc := 9) C 3 dX7_laysOne_9 rfl rfl ?_
      refine z_if_ge (pc := 10) C dX7_laysOne_10 (tgt := 15) (by decide) (fun c3 => ?_) (fun c3 => ?_)
      · rw [if_pos c3] at h
        refine z_iload_n (pc := 15) C 1 dX7_laysOne_15 rfl rfl ?_
        refine z_i2l (pc := 16) C dX7_laysOne_16 ?_
        refine z_iload_n (pc := 17) C 2 dX7_laysOne_17 rfl rfl ?_
        refine z_i2l (pc := 18) C dX7_laysOne_18 ?_
        refine z_ladd (pc := 19) C dX7_laysOne_19 ?_
        refine z_aload_n (pc := 20) C 0 dX7_laysOne_20 rfl rfl ?_
        refine z_get (pc := 21) C dX7_laysOne_21 fl_X7_123 (hM_o A M B) rfl ?_
        refine z_i2l (pc := 24) C dX7_laysOne_24 ?_
        refine z_lcmp (pc := 25) C dX7_laysOne_25 ?_
        refine z_if_gt (pc := 26) C dX7_laysOne_26 (tgt := 37) (by decide) (fun c4 => ?_) (fun c4 => ?_)
        · rw [if_pos c4] at h
          refine z_bipush (pc := 37) C dX7_laysOne_37 (v := (-2 : Int32)) (by decide) ?_
          obtain rfl := Option.some.inj h
          exact z_iret (pc := 39) C E dX7_laysOne_39 ⟨rfl, rfl⟩
        · rw [if_neg c4] at h
          refine z_iload_n (pc := 29) C 3 dX7_laysOne_29 rfl rfl ?_
          refine z_aload_n (pc := 30) C 0 dX7_laysOne_30 rfl rfl ?_
          refine z_get (pc := 31) C dX7_laysOne_31 fl_X7_123 (hM_o A M B) rfl ?_
          refine z_ic_le (pc := 34) C dX7_laysOne_34 (tgt := 40) (by decide) (fun c5 => ?_) (fun c5 => ?_)
          · rw [if_pos c5] at h
            refine z_aload_n (pc := 40) C 0 dX7_laysOne_40 rfl rfl ?_
            refine z_get (pc := 41) C dX7_laysOne_41 fl_X7_123 (hM_o A M B) rfl ?_
            refine z_iload_n (pc := 44) C 2 dX7_laysOne_44 rfl rfl ?_
            refine z_iadd (pc := 45) C dX7_laysOne_45 ?_
            refine z_sipush (pc := 46) C dX7_laysOne_46 (v := (3000 : Int32)) (by decide) ?_
            refine z_ic_le (pc := 49) C dX7_laysOne_49 (tgt := 55) (by decide) (fun c6 => ?_) (fun c6 => ?_)
            · rw [if_pos c6] at h
              refine z_aload_n (pc := 55) C 0 dX7_laysOne_55 rfl rfl ?_
              obtain ⟨M7, B8, eM7, h⟩ := ob2_eq h
              refine z_callVv (h := A.length) (As := []) (rest := []) (pc := 56) C dX7_laysOne_56 ml_X7_205 (kX7_edits _ _ _ _ A M B  (M7, B8) eM7) (hM_o A M B) rfl rfl rfl (Nat.le_of_ble_eq_true rfl) (by decide) ?_
              refine z_aload_n (pc := 59) C 0 dX7_laysOne_59 rfl rfl ?_
              refine z_iload_n (pc := 60) C 1 dX7_laysOne_60 rfl rfl ?_
              refine z_iload_n (pc := 61) C 2 dX7_laysOne_61 rfl rfl ?_
              obtain ⟨M9, eM9, h⟩ := ob1_eq h
              refine z_callVv (h := A.length) (As := [.int x1, .int x2]) (rest := []) (pc := 62) C dX7_laysOne_62 ml_X7_223 (kX7_laysOut _ _ _ _ A M7 B8 x1 x2 M9 eM9) (hM_o A M7 B8) rfl rfl rfl (Nat.le_of_ble_eq_true rfl) (by decide) ?_
              refine z_aload_n (pc := 65) C 0 dX7_laysOne_65 rfl rfl ?_
              refine z_iload_n (pc := 66) C 2 dX7_laysOne_66 rfl rfl ?_
              refine z_iload_n (pc := 67) C 3 dX7_laysOne_67 rfl rfl ?_
              obtain ⟨M10, eM10, h⟩ := ob1_eq h
              refine z_callVv (h := A.length) (As := [.int x2, .int x3]) (rest := []) (pc := 68) C dX7_laysOne_68 ml_X7_226 (kX7_laysIn _ _ _ _ A M9 B8 x2 x3 M10 eM10) (hM_o A M9 B8) rfl rfl rfl (Nat.le_of_ble_eq_true rfl) (by decide) ?_
              refine z_aload_n (pc := 71) C 0 dX7_laysOne_71 rfl rfl ?_
              refine z_iload_n (pc := 72) C 3 dX7_laysOne_72 rfl rfl ?_
              refine z_iload_n (pc := 73) C 2 dX7_laysOne_73 rfl rfl ?_
              obtain ⟨M11, eM11, h⟩ := ob1_eq h
              refine z_callVv (h := A.length) (As := [.int x3, .int x2]) (rest := []) (pc := 74) C dX7_laysOne_74 ml_X7_147 (kX7_marksCome _ _ _ _ A M10 B8 x3 x2 M11 eM11) (hM_o A M10 B8) rfl rfl rfl (Nat.le_of_ble_eq_true rfl) (by decide) ?_
              refine z_aload_n (pc := 77) C 0 dX7_laysOne_77 rfl rfl ?_
              refine z_get (pc := 78) C dX7_laysOne_78 fl_X7_123 (hM_o A M11 B8) rfl ?_
              obtain rfl := Option.some.inj h
              exact z_iret (pc := 81) C E dX7_laysOne_81 ⟨rfl, rfl⟩
            · rw [if_neg c6] at h
              refine z_bipush (pc := 52) C dX7_laysOne_52 (v := (-3 : Int32)) (by decide) ?_
              obtain rfl := Option.some.inj h
              exact z_iret (pc := 54) C E dX7_laysOne_54 ⟨rfl, rfl⟩
          · rw [if_neg c5] at h
            refine z_bipush (pc := 37) C dX7_laysOne_37 (v := (-2 : Int32)) (by decide) ?_
            obtain rfl := Option.some.inj h
            exact z_iret (pc := 39) C E dX7_laysOne_39 ⟨rfl, rfl⟩
      · rw [if_neg c3] at h
        refine z_iconst (pc := 13) C dX7_laysOne_13 (v := (-1 : Int32)) (by decide) ?_
        obtain rfl := Option.some.inj h
        exact z_iret (pc := 14) C E dX7_laysOne_14 ⟨rfl, rfl⟩
theorem kX7_laysOne (l : Launch) (D : va_G) (cA : Nat → ClassId) (b : Nat) (A : zH) (M : MS) (B : zH) (x1 : Int32) (x2 : Int32) (x3 : Int32) (out : Int32 × MS × zH) (h : fX7_laysOne A M B x1 x2 x3 = some out) : zM l D cA b yX7_laysOne cX7_laysOne 4 (some .int) 4 86 [.ref A.length, .int x1, .int x2, .int x3] (hG A M B) (poI out.1 (hG A out.2.1 out.2.2)) := z_entry rfl (Nat.le_of_ble_eq_true rfl) (fun X C E _ _ _ => wfX7_laysOne C E M B x1 x2 x3 h)
def fX7_lays (A : zH) (M : MS) (B : zH) (x1 : Int32) (x2 : Int32) (x3 : Int32) : Option (Int32 × MS × zH) :=
    zlet (mI M 0 (0 : Int32)) fun M1 =>
    ob3 (fX7_laysOne A M1 B x1 x2 x3) fun v4 M2 B3 =>
    some (v4, M2, B3)
set_option maxRecDepth 100000 in
set_option maxHeartbeats 4000000 in
theorem wfX7_lays {X : zX} {A : zH} {out : Int32 × MS × zH} (C : zOK X cX7_lays yX7_lays.cls 4 (some .int) 5 109) (E : zPost X (poI out.1 (hG A out.2.1 out.2.2))) (M : MS) (B : zH) (x1 : Int32) (x2 : Int32) (x3 : Int32) (h : fX7_lays A M B x1 x2 x3 = some out) : zZ X 0 [(0, .ref A.length), (1, .int x1), (2, .int x2), (3, .int x3)] [] (hG A M B) := by
  rw [fX7_lays] at h
  refine z_aload_n (pc := 0) C 0 dX7_lays_0 rfl rfl ?_
  refine z_iconst (pc := 1) C dX7_lays_1 (v := (0 : Int32)) (by decide) ?_
  obtain ⟨M1, eM1, h⟩ := zlet_eq h
  refine z_put (pc := 2) C dX7_lays_2 fl_X7_1w (hM_o A M B) (fun _ => rfl) (fun _ => rfl) (Nat.le_of_ble_eq_true rfl) (hMi_0 A B eM1) ?_
  refine z_aload_n (pc := 5) C 0 dX7_lays_5 rfl rfl ?_
  refine z_iload_n (pc := 6) C 1 dX7_lays_6 rfl rfl ?_
  refine z_iload_n (pc := 7) C 2 dX7_lays_7 rfl rfl ?_
  refine z_iload_n (pc := 8) C 3 dX7_lays_8 rfl rfl ?_
  obtain ⟨v4, M2, B3, ev4, h⟩ := ob3_eq h
  refine z_callVi (h := A.length) (As := [.int x1, .int x2, .int x3]) (rest := []) (pc := 9) C dX7_lays_9 ml_X7_229 (kX7_laysOne _ _ _ _ A M1 B x1 x2 x3 (v4, M2, B3) ev4) (hM_o A M1 B) rfl rfl rfl (Nat.le_of_ble_eq_true rfl) (by decide) ?_
  obtain rfl := Option.some.inj h
  exact z_iret (pc := 12) C E dX7_lays_12 ⟨rfl, rfl⟩
theorem kX7_lays (l : Launch) (D : va_G) (cA : Nat → ClassId) (b : Nat) (A : zH) (M : MS) (B : zH) (x1 : Int32) (x2 : Int32) (x3 : Int32) (out : Int32 × MS × zH) (h : fX7_lays A M B x1 x2 x3 = some out) : zM l D cA b yX7_lays cX7_lays 4 (some .int) 5 109 [.ref A.length, .int x1, .int x2, .int x3] (hG A M B) (poI out.1 (hG A out.2.1 out.2.2)) := z_entry rfl (Nat.le_of_ble_eq_true rfl) (fun X C E _ _ _ => wfX7_lays C E M B x1 x2 x3 h)
def fX7_movesOne_b199 (A : zH) (k140 : MS → zH → Int32 → Int32 → Int32 → Int32 → Option (Int32 × MS × zH)) (M : MS) (B : zH) (x1 : Int32) (x2 : Int32) (x4 : Int32) (x5 : Int32) (s0 : Int32) (s1 : Int32) : Option (Int32 × MS × zH) :=
    ob1 (wr 8 s1 (mA M 12 (upd (M.2.1 12) s1.toNatClampNeg s0))) fun M1 =>
    zlet (x5 + (1 : Int32)) fun y2 =>
    k140 M1 B x1 x2 x4 y2
set_option maxRecDepth 100000 in
set_option maxHeartbeats 4000000 in
theorem wfX7_movesOne_b199 {X : zX} {A : zH} {out : Int32 × MS × zH} (C : zOK X cX7_movesOne yX7_movesOne.cls 6 (some .int) 4 86) (E : zPost X (poI out.1 (hG A out.2.1 out.2.2))) (k140 : MS → zH → Int32 → Int32 → Int32 → Int32 → Option (Int32 × MS × zH)) (hk140 : ∀ (M : MS) (B : zH) (x1 : Int32) (x2 : Int32) (x4 : Int32) (x5 : Int32), k140 M B x1 x2 x4 x5 = some out → zZ X 140 [(0, .ref A.length), (1, .int x1), (2, .int x2), (4, .int x4), (5, .int x5)] [] (hG A M B)) (M : MS) (B : zH) (x1 : Int32) (x2 : Int32) (x4 : Int32) (x5 : Int32) (s0 : Int32) (s1 : Int32) (h : fX7_movesOne_b199 A k140 M B x1 x2 x4 x5 s0 s1 = some out) : zZ X 199 [(0, .ref A.length), (1, .int x1), (2, .int x2), (4, .int x4), (5, .int x5)] [.int s0, .int s1, .ref (A.length + 6)] (hG A M B) := by
  rw [fX7_movesOne_b199] at h
  obtain ⟨M1, eM1, h⟩ := ob1_eq h
  refine z_iast (pc := 199) C dX7_movesOne_199 (hMa_12 A M B) (wr_eq eM1).1 (hMs_12 A B (wr_eq eM1).2) ?_
  obtain ⟨y2, ey2, h⟩ := zlet_eq h
  refine z_iinc (pc := 200) (v := y2) C 4 dX7_movesOne_200 rfl (by rw [ey2]; rfl) (by decide) (show zput _ _ _ = [(5, .int y2), (0, .ref A.length), (1, .int x1), (2, .int x2), (4, .int x4)] from rfl) ?_
  refine z_goto (pc := 203) C dX7_movesOne_203 (tgt := 140) (by decide) ?_
  exact z_subL [1, 2, 3, 4, 0] (hk140 M1 B x1 x2 x4 y2 h) rfl
def fX7_movesOne_b192 (A : zH) (k140 : MS → zH → Int32 → Int32 → Int32 → Int32 → Option (Int32 × MS × zH)) (M : MS) (B : zH) (x1 : Int32) (x2 : Int32) (x4 : Int32) (x5 : Int32) (s0 : Int32) : Option (Int32 × MS × zH) :=
    ob1 (rd 8 (M.2.1 12) x5) fun v1 =>
    fX7_movesOne_b199 A k140 M B x1 x2 x4 x5 v1 s0
set_option maxRecDepth 100000 in
set_option maxHeartbeats 4000000 in
theorem wfX7_movesOne_b192 {X : zX} {A : zH} {out : Int32 × MS × zH} (C : zOK X cX7_movesOne yX7_movesOne.cls 6 (some .int) 4 86) (E : zPost X (poI out.1 (hG A out.2.1 out.2.2))) (k140 : MS → zH → Int32 → Int32 → Int32 → Int32 → Option (Int32 × MS × zH)) (hk140 : ∀ (M : MS) (B : zH) (x1 : Int32) (x2 : Int32) (x4 : Int32) (x5 : Int32), k140 M B x1 x2 x4 x5 = some out → zZ X 140 [(0, .ref A.length), (1, .int x1), (2, .int x2), (4, .int x4), (5, .int x5)] [] (hG A M B)) (M : MS) (B : zH) (x1 : Int32) (x2 : Int32) (x4 : Int32) (x5 : Int32) (s0 : Int32) (h : fX7_movesOne_b192 A k140 M B x1 x2 x4 x5 s0 = some out) : zZ X 192 [(0, .ref A.length), (1, .int x1), (2, .int x2), (4, .int x4), (5, .int x5)] [.int s0, .ref (A.length + 6)] (hG A M B) := by
  rw [fX7_movesOne_b192] at h
  refine z_aload_n (pc := 192) C 0 dX7_movesOne_192 rfl rfl ?_
  refine z_get (pc := 193) C dX7_movesOne_193 fl_X7_51 (hM_o A M B) rfl ?_
  refine z_iload (pc := 196) C 4 dX7_movesOne_196 rfl ?_
  obtain ⟨v1, ev1, h⟩ := ob1_eq h
  refine z_iald (pc := 198) C dX7_movesOne_198 (hMa_12 A M B) (rd_eq ev1).1 (z_topi (rd_eq ev1).2 ?_)
  exact z_subL [0, 1, 2, 3, 4] (wfX7_movesOne_b199 C E k140 hk140 M B x1 x2 x4 x5 v1 s0 h) rfl
def fX7_movesOne_b140 (A : zH) : Nat → MS → zH → Int32 → Int32 → Int32 → Int32 → Option (Int32 × MS × zH)
  | 0, _, _, _, _, _, _ => none
  | n + 1, M, B, x1, x2, x4, x5 =>
    if (8 : Int32) ≤ x5 then (some (x4, M, B)) else
    ob1 (rd 8 (M.2.1 24) x5) fun v2 =>
    if v2 ≤ x1 then (fX7_movesOne_b192 A (fX7_movesOne_b140 A n) M B x1 x2 x4 x5 x5) else
    ob1 (rd 8 (M.2.1 24) x5) fun v4 =>
    if (x1 + x2) ≤ v4 then (fX7_movesOne_b192 A (fX7_movesOne_b140 A n) M B x1 x2 x4 x5 x5) else
    ob1 (rd 8 (M.2.1 24) x5) fun v6 =>
    fX7_movesOne_b199 A (fX7_movesOne_b140 A n) M B x1 x2 x4 x5 ((x4 + v6) - x1) x5
set_option maxRecDepth 100000 in
set_option maxHeartbeats 4000000 in
theorem wfX7_movesOne_b140 {X : zX} {A : zH} {out : Int32 × MS × zH} (C : zOK X cX7_movesOne yX7_movesOne.cls 6 (some .int) 4 86) (E : zPost X (poI out.1 (hG A out.2.1 out.2.2))) : ∀ (n : Nat) (M : MS) (B : zH) (x1 : Int32) (x2 : Int32) (x4 : Int32) (x5 : Int32) (h : fX7_movesOne_b140 A n M B x1 x2 x4 x5 = some out), zZ X 140 [(0, .ref A.length), (1, .int x1), (2, .int x2), (4, .int x4), (5, .int x5)] [] (hG A M B) := by
  intro n
  induction n with
  | zero => intro M B x1 x2 x4 x5 h; cases h
  | succ n ih =>
    intro M B x1 x2 x4 x5 h
    rw [fX7_movesOne_b140] at h
    refine z_iload (pc := 140) C 4 dX7_movesOne_140 rfl ?_
    refine z_bipush (pc := 142) C dX7_movesOne_142 (v := (8 : Int32)) (by decide) ?_
    refine z_ic_ge (pc := 144) C dX7_movesOne_144 (tgt := 206) (by decide) (fun c1 => ?_) (fun c1 => ?_)
    · rw [if_pos c1] at h
      refine z_iload (pc := 206) C 3 dX7_movesOne_206 rfl ?_
      obtain rfl := Option.some.inj h
      exact z_iret (pc := 208) C E dX7_movesOne_208 ⟨rfl, rfl⟩
    · rw [if_neg c1] at h
      refine z_aload_n (pc := 147) C 0 dX7_movesOne_147 rfl rfl ?_
      refine z_get (pc := 148) C dX7_movesOne_148 fl_X7_51 (hM_o A M B) rfl ?_
      refine z_iload (pc := 151) C 4 dX7_movesOne_151 rfl ?_
      refine z_aload_n (pc := 153) C 0 dX7_movesOne_153 rfl rfl ?_
      refine z_get (pc := 154) C dX7_movesOne_154 fl_X7_83 (hM_o A M B) rfl ?_
      refine z_iload (pc := 157) C 4 dX7_movesOne_157 rfl ?_
      obtain ⟨v2, ev2, h⟩ := ob1_eq h
      refine z_iald (pc := 159) C dX7_movesOne_159 (hMa_24 A M B) (rd_eq ev2).1 (z_topi (rd_eq ev2).2 ?_)
      refine z_iload_n (pc := 160) C 1 dX7_movesOne_160 rfl rfl ?_
      refine z_ic_le (pc := 161) C dX7_movesOne_161 (tgt := 192) (by decide) (fun c3 => ?_) (fun c3 => ?_)
      · rw [if_pos c3] at h
        exact z_subL [0, 1, 2, 3, 4] (wfX7_movesOne_b192 C E (fX7_movesOne_b140 A n) ih M B x1 x2 x4 x5 x5 h) rfl
      · rw [if_neg c3] at h
        refine z_aload_n (pc := 164) C 0 dX7_movesOne_164 rfl rfl ?_
        refine z_get (pc := 165) C dX7_movesOne_165 fl_X7_83 (hM_o A M B) rfl ?_
        refine z_iload (pc := 168) C 4 dX7_movesOne_168 rfl ?_
        obtain ⟨v4, ev4, h⟩ := ob1_eq h
        refine z_iald (pc := 170) C dX7_movesOne_170 (hMa_24 A M B) (rd_eq ev4).1 (z_topi (rd_eq ev4).2 ?_)
        refine z_iload_n (pc := 171) C 1 dX7_movesOne_171 rfl rfl ?_
        refine z_iload_n (pc := 172) C 2 dX7_movesOne_172 rfl rfl ?_
        refine z_iadd (pc := 173) C dX7_movesOne_173 ?_
        refine z_ic_ge (pc := 174) C dX7_movesOne_174 (tgt := 192) (by decide) (fun c5 => ?_) (fun c5 => ?_)
        · rw [if_pos c5] at h
          exact z_subL [0, 1, 2, 3, 4] (wfX7_movesOne_b192 C E (fX7_movesOne_b140 A n) ih M B x1 x2 x4 x5 x5 h) rfl
        · rw [if_neg c5] at h
          refine z_iload (pc := 177) C 3 dX7_movesOne_177 rfl ?_
          refine z_aload_n (pc := 179) C 0 dX7_movesOne_179 rfl rfl ?_
          refine z_get (pc := 180) C dX7_movesOne_180 fl_X7_83 (hM_o A M B) rfl ?_
          refine z_iload (pc := 183) C 4 dX7_movesOne_183 rfl ?_
          obtain ⟨v6, ev6, h⟩ := ob1_eq h
          refine z_iald (pc := 185) C dX7_movesOne_185 (hMa_24 A M B) (rd_eq ev6).1 (z_topi (rd_eq ev6).2 ?_)
          refine z_iadd (pc := 186) C dX7_movesOne_186 ?_
          refine z_iload_n (pc := 187) C 1 dX7_movesOne_187 rfl rfl ?_
          refine z_isub (pc := 188) C dX7_movesOne_188 ?_
          refine z_goto (pc := 189) C dX7_movesOne_189 (tgt := 199) (by decide) ?_
          exact z_subL [0, 1, 2, 3, 4] (wfX7_movesOne_b199 C E (fX7_movesOne_b140 A n) ih M B x1 x2 x4 x5 ((x4 + v6) - x1) x5 h) rfl
def fX7_movesOne_b98 (A : zH) (M : MS) (B : zH) (x1 : Int32) (x2 : Int32) (s0 : Int32) : Option (Int32 × MS × zH) :=
    ob1 (fX7_laysOut M x1 x2) fun M1 =>
    ob1 (fX7_closesGap M1 x1 x2) fun M2 =>
    ob1 (fX7_partsAt M2 x1) fun M3 =>
    ob1 (fX7_marksGo M3 x1 x2) fun M4 =>
    ob1 (fX7_laysIn M4 x2 s0) fun M5 =>
    ob1 (fX7_marksCome M5 s0 x2) fun M6 =>
    fX7_movesOne_b140 A FU M6 B x1 x2 s0 (0 : Int32)
set_option maxRecDepth 100000 in
set_option maxHeartbeats 4000000 in
theorem wfX7_movesOne_b98 {X : zX} {A : zH} {out : Int32 × MS × zH} (C : zOK X cX7_movesOne yX7_movesOne.cls 6 (some .int) 4 86) (E : zPost X (poI out.1 (hG A out.2.1 out.2.2))) (M : MS) (B : zH) (x1 : Int32) (x2 : Int32) (s0 : Int32) (h : fX7_movesOne_b98 A M B x1 x2 s0 = some out) : zZ X 98 [(0, .ref A.length), (1, .int x1), (2, .int x2)] [.int s0] (hG A M B) := by
  rw [fX7_movesOne_b98] at h
  refine z_istore (pc := 98) C dX7_movesOne_98 (by decide) (show zput _ _ _ = [(4, .int s0), (0, .ref A.length), (1, .int x1), (2, .int x2)] from rfl) ?_
  refine z_aload_n (pc := 100) C 1 dX7_movesOne_100 rfl rfl ?_
  refine z_iload_n (pc := 101) C 2 dX7_movesOne_101 rfl rfl ?_
  refine z_iload_n (pc := 102) C 3 dX7_movesOne_102 rfl rfl ?_
  obtain ⟨M1, eM1, h⟩ := ob1_eq h
  refine z_callVv (h := A.length) (As := [.int x1, .int x2]) (rest := []) (pc := 103) C dX7_movesOne_103 ml_X7_223 (kX7_laysOut _ _ _ _ A M B x1 x2 M1 eM1) (hM_o A M B) rfl rfl rfl (Nat.le_of_ble_eq_true rfl) (by decide) ?_
  refine z_aload_n (pc := 106) C 1 dX7_movesOne_106 rfl rfl ?_
  refine z_iload_n (pc := 107) C 2 dX7_movesOne_107 rfl rfl ?_
  refine z_iload_n (pc := 108) C 3 dX7_movesOne_108 rfl rfl ?_
  obtain ⟨M2, eM2, h⟩ := ob1_eq h
  refine z_callVv (h := A.length) (As := [.int x1, .int x2]) (rest := []) (pc := 109) C dX7_movesOne_109 ml_X7_160 (kX7_closesGap _ _ _ _ A M1 B x1 x2 M2 eM2) (hM_o A M1 B) rfl rfl rfl (Nat.le_of_ble_eq_true rfl) (by decide) ?_
  refine z_aload_n (pc := 112) C 1 dX7_movesOne_112 rfl rfl ?_
  refine z_iload_n (pc := 113) C 2 dX7_movesOne_113 rfl rfl ?_
  obtain ⟨M3, eM3, h⟩ := ob1_eq h
  refine z_callVv (h := A.length) (As := [.int x1]) (rest := []) (pc := 114) C dX7_movesOne_114 ml_X7_143 (kX7_partsAt _ _ _ _ A M2 B x1 M3 eM3) (hM_o A M2 B) rfl rfl rfl (Nat.le_of_ble_eq_true rfl) (by decide) ?_
  refine z_aload_n (pc := 117) C 1 dX7_movesOne_117 rfl rfl ?_
  refine z_iload_n (pc := 118) C 2 dX7_movesOne_118 rfl rfl ?_
  refine z_iload_n (pc := 119) C 3 dX7_movesOne_119 rfl rfl ?_
  obtain ⟨M4, eM4, h⟩ := ob1_eq h
  refine z_callVv (h := A.length) (As := [.int x1, .int x2]) (rest := []) (pc := 120) C dX7_movesOne_120 ml_X7_163 (kX7_marksGo _ _ _ _ A M3 B x1 x2 M4 eM4) (hM_o A M3 B) rfl rfl rfl (Nat.le_of_ble_eq_true rfl) (by decide) ?_
  refine z_aload_n (pc := 123) C 1 dX7_movesOne_123 rfl rfl ?_
  refine z_iload_n (pc := 124) C 3 dX7_movesOne_124 rfl rfl ?_
  refine z_iload (pc := 125) C 0 dX7_movesOne_125 rfl ?_
  obtain ⟨M5, eM5, h⟩ := ob1_eq h
  refine z_callVv (h := A.length) (As := [.int x2, .int s0]) (rest := []) (pc := 127) C dX7_movesOne_127 ml_X7_226 (kX7_laysIn _ _ _ _ A M4 B x2 s0 M5 eM5) (hM_o A M4 B) rfl rfl rfl (Nat.le_of_ble_eq_true rfl) (by decide) ?_
  refine z_aload_n (pc := 130) C 1 dX7_movesOne_130 rfl rfl ?_
  refine z_iload (pc := 131) C 0 dX7_movesOne_131 rfl ?_
  refine z_iload_n (pc := 133) C 3 dX7_movesOne_133 rfl rfl ?_
  obtain ⟨M6, eM6, h⟩ := ob1_eq h
  refine z_callVv (h := A.length) (As := [.int s0, .int x2]) (rest := []) (pc := 134) C dX7_movesOne_134 ml_X7_147 (kX7_marksCome _ _ _ _ A M5 B s0 x2 M6 eM6) (hM_o A M5 B) rfl rfl rfl (Nat.le_of_ble_eq_true rfl) (by decide) ?_
  refine z_iconst (pc := 137) C dX7_movesOne_137 (v := (0 : Int32)) (by decide) ?_
  refine z_istore (pc := 138) C dX7_movesOne_138 (by decide) (show zput _ _ _ = [(5, .int (0 : Int32)), (4, .int s0), (0, .ref A.length), (1, .int x1), (2, .int x2)] from rfl) ?_
  exact z_subL [2, 3, 4, 1, 0] (wfX7_movesOne_b140 C E FU M6 B x1 x2 s0 (0 : Int32) h) rfl
def fX7_movesOne_b86 (A : zH) (M : MS) (B : zH) (x1 : Int32) (x2 : Int32) (x3 : Int32) : Option (Int32 × MS × zH) :=
    if x1 < x3 then (fX7_movesOne_b98 A M B x1 x2 (x3 - x2)) else
    fX7_movesOne_b98 A M B x1 x2 x3
set_option maxRecDepth 100000 in
set_option maxHeartbeats 4000000 in
theorem wfX7_movesOne_b86 {X : zX} {A : zH} {out : Int32 × MS × zH} (C : zOK X cX7_movesOne yX7_movesOne.cls 6 (some .int) 4 86) (E : zPost X (poI out.1 (hG A out.2.1 out.2.2))) (M : MS) (B : zH) (x1 : Int32) (x2 : Int32) (x3 : Int32) (h : fX7_movesOne_b86 A M B x1 x2 x3 = some out) : zZ X 86 [(0, .ref A.length), (1, .int x1), (2, .int x2), (3, .int x3)] [] (hG A M B) := by
  rw [fX7_movesOne_b86] at h
  refine z_iload_n (pc := 86) C 3 dX7_movesOne_86 rfl rfl ?_
  refine z_iload_n (pc := 87) C 1 dX7_movesOne_87 rfl rfl ?_
  refine z_ic_gt (pc := 88) C dX7_movesOne_88 (tgt := 95) (by decide) (fun c1 => ?_) (fun c1 => ?_)
  · rw [if_pos c1] at h
    refine z_iload_n (pc := 95) C 3 dX7_movesOne_95 rfl rfl ?_
    refine z_iload_n (pc := 96) C 2 dX7_movesOne_96 rfl rfl ?_
    refine z_isub (pc := 97) C dX7_movesOne_97 ?_
    exact z_subL [0, 1, 2] (wfX7_movesOne_b98 C E M B x1 x2 (x3 - x2) h) rfl
  · rw [if_neg c1] at h
    refine z_iload_n (pc := 91) C 3 dX7_movesOne_91 rfl rfl ?_
    refine z_goto (pc := 92) C dX7_movesOne_92 (tgt := 98) (by decide) ?_
    exact z_subL [0, 1, 2] (wfX7_movesOne_b98 C E M B x1 x2 x3 h) rfl
def fX7_movesOne_b59 (A : zH) : Nat → MS → zH → Int32 → Int32 → Int32 → Int32 → Option (Int32 × MS × zH)
  | 0, _, _, _, _, _, _ => none
  | n + 1, M, B, x1, x2, x3, x4 =>
    if (8 : Int32) ≤ x4 then (fX7_movesOne_b86 A M B x1 x2 x3) else
    ob1 (rd 8 (M.2.1 12) x4) fun v2 =>
    ob1 (wr 8 x4 (mA M 24 (upd (M.2.1 24) x4.toNatClampNeg v2))) fun M3 =>
    zlet (x4 + (1 : Int32)) fun y4 =>
    (fX7_movesOne_b59 A n) M3 B x1 x2 x3 y4
set_option maxRecDepth 100000 in
set_option maxHeartbeats 4000000 in
theorem wfX7_movesOne_b59 {X : zX} {A : zH} {out : Int32 × MS × zH} (C : zOK X cX7_movesOne yX7_movesOne.cls 6 (some .int) 4 86) (E : zPost X (poI out.1 (hG A out.2.1 out.2.2))) : ∀ (n : Nat) (M : MS) (B : zH) (x1 : Int32) (x2 : Int32) (x3 : Int32) (x4 : Int32) (h : fX7_movesOne_b59 A n M B x1 x2 x3 x4 = some out), zZ X 59 [(0, .ref A.length), (1, .int x1), (2, .int x2), (3, .int x3), (4, .int x4)] [] (hG A M B) := by
  intro n
  induction n with
  | zero => intro M B x1 x2 x3 x4 h; cases h
  | succ n ih =>
    intro M B x1 x2 x3 x4 h
    rw [fX7_movesOne_b59] at h
    refine z_iload (pc := 59) C 4 dX7_movesOne_59 rfl ?_
    refine z_bipush (pc := 61) C dX7_movesOne_61 (v := (8 : Int32)) (by decide) ?_
    refine z_ic_ge (pc := 63) C dX7_movesOne_63 (tgt := 86) (by decide) (fun c1 => ?_) (fun c1 => ?_)
    · rw [if_pos c1] at h
      exact z_subL [0, 1, 2, 3] (wfX7_movesOne_b86 C E M B x1 x2 x3 h) rfl
    · rw [if_neg c1] at h
      refine z_aload_n (pc := 66) C 0 dX7_movesOne_66 rfl rfl ?_
      refine z_get (pc := 67) C dX7_movesOne_67 fl_X7_83 (hM_o A M B) rfl ?_
      refine z_iload (pc := 70) C 4 dX7_movesOne_70 rfl ?_
      refine z_aload_n (pc := 72) C 0 dX7_movesOne_72 rfl rfl ?_
      refine z_get (pc := 73) C dX7_movesOne_73 fl_X7_51 (hM_o A M B) rfl ?_
      refine z_iload (pc := 76) C 4 dX7_movesOne_76 rfl ?_
      obtain ⟨v2, ev2, h⟩ := ob1_eq h
      refine z_iald (pc := 78) C dX7_movesOne_78 (hMa_12 A M B) (rd_eq ev2).1 (z_topi (rd_eq ev2).2 ?_)
      obtain ⟨M3, eM3, h⟩ := ob1_eq h
      refine z_iast (pc := 79) C dX7_movesOne_79 (hMa_24 A M B) (wr_eq eM3).1 (hMs_24 A B (wr_eq eM3).2) ?_
      obtain ⟨y4, ey4, h⟩ := zlet_eq h
      refine z_iinc (pc := 80) (v := y4) C 4 dX7_movesOne_80 rfl (by rw [ey4]; rfl) (by decide) (show zput _ _ _ = [(4, .int y4), (0, .ref A.length), (1, .int x1), (2, .int x2), (3, .int x3)] from rfl) ?_
      refine z_goto (pc := 83) C dX7_movesOne_83 (tgt := 59) (by decide) ?_
      exact z_subL [1, 2, 3, 4, 0] (ih M3 B x1 x2 x3 y4 h) rfl
def fX7_movesOne_b52 (A : zH) (M : MS) (B : zH) (x1 : Int32) (x2 : Int32) (x3 : Int32) : Option (Int32 × MS × zH) :=
    ob2 (fX7_edits A M B ) fun M1 B2 =>
    fX7_movesOne_b59 A FU M1 B2 x1 x2 x3 (0 : Int32)
set_option maxRecDepth 100000 in
set_option maxHeartbeats 4000000 in
theorem wfX7_movesOne_b52 {X : zX} {A : zH} {out : Int32 × MS × zH} (C : zOK X cX7_movesOne yX7_movesOne.cls 6 (some .int) 4 86) (E : zPost X (poI out.1 (hG A out.2.1 out.2.2))) (M : MS) (B : zH) (x1 : Int32) (x2 : Int32) (x3 : Int32) (h : fX7_movesOne_b52 A M B x1 x2 x3 = some out) : zZ X 52 [(0, .ref A.length), (1, .int x1), (2, .int x2), (3, .int x3)] [] (hG A M B) := by
  rw [fX7_movesOne_b52] at h
  refine z_aload_n (pc := 52) C 0 dX7_movesOne_52 rfl rfl ?_
  obtain ⟨M1, B2, eM1, h⟩ := ob2_eq h
  refine z_callVv (h := A.length) (As := []) (rest := []) (pc := 53) C dX7_movesOne_53 ml_X7_205 (kX7_edits _ _ _ _ A M B  (M1, B2) eM1) (hM_o A M B) rfl rfl rfl (Nat.le_of_ble_eq_true rfl) (by decide) ?_
  refine z_iconst (pc := 56) C dX7_movesOne_56 (v := (0 : Int32)) (by decide) ?_
  refine z_istore (pc := 57) C dX7_movesOne_57 (by decide) (show zput _ _ _ = [(4, .int (0 : Int32)), (0, .ref A.length), (1, .int x1), (2, .int x2), (3, .int x3)] from rfl) ?_
  exact z_subL [1, 2, 3, 4, 0] (wfX7_movesOne_b59 C E FU M1 B2 x1 x2 x3 (0 : Int32) h) rfl
def fX7_movesOne (A : zH) (M : MS) (B : zH) (x1 : Int32) (x2 : Int32) (x3 : Int32) : Option (Int32 × MS × zH) :=
    if x2 < (1 : Int32) then (some ((-1 : Int32), M, B)) else
    if x1 < 0 then (some ((-1 : Int32), M, B)) else
    if 0 ≤ x3 then (if 0 < (lg_cmp (x1.toInt64 + x2.toInt64) ((M.1 11).toInt64)) then (some ((-2 : Int32), M, B)) else
    if (M.1 11) < x3 then (some ((-2 : Int32), M, B)) else
    if x3 ≤ x1 then (fX7_movesOne_b52 A M B x1 x2 x3) else
    if (x1 + x2) ≤ x3 then (fX7_movesOne_b52 A M B x1 x2 x3) else
    some ((-2 : Int32), M, B)) else
    some ((-1 : Int32), M, B)
set_option maxRecDepth 100000 in
set_option maxHeartbeats 4000000 in
theorem wfX7_movesOne {X : zX} {A : zH} {out : Int32 × MS × zH} (C : zOK X cX7_movesOne yX7_movesOne.cls 6 (some .int) 4 86) (E : zPost X (poI out.1 (hG A out.2.1 out.2.2))) (M : MS) (B : zH) (x1 : Int32) (x2 : Int32) (x3 : Int32) (h : fX7_movesOne A M B x1 x2 x3 = some out) : zZ X 0 [(0, .ref A.length), (1, .int x1), (2, .int x2), (3, .int x3)] [] (hG A M B) := by
  rw [fX7_movesOne] at h
  refine z_iload_n (pc := 0) C 2 dX7_movesOne_0 rfl rfl ?_
  refine z_iconst (pc := 1) C dX7_movesOne_1 (v := (1 : Int32)) (by decide) ?_
  refine z_ic_lt (pc := 2) C dX7_movesOne_2 (tgt := 13) (by decide) (fun c1 => ?_) (fun c1 => ?_)
  · rw [if_pos c1] at h
    refine z_iconst (pc := 13) C dX7_movesOne_13 (v := (-1 : Int32)) (by decide) ?_
    obtain rfl := Option.some.inj h
    exact z_iret (pc := 14) C E dX7_movesOne_14 ⟨rfl, rfl⟩
  · rw [if_neg c1] at h
    refine z_iload_n (pc := 5) C 1 dX7_movesOne_5 rfl rfl ?_
    refine z_if_lt (pc := 6) C dX7_movesOne_6 (tgt := 13) (by decide) (fun c2 => ?_) (fun c2 => ?_)
    · rw [if_pos c2] at h
      refine z_iconst (pc := 13) C dX7_movesOne_13 (v := (-1 : Int32)) (by decide) ?_
      obtain rfl := Option.some.inj h
      exact z_iret (pc := 14) C E dX7_movesOne_14 ⟨rfl, rfl⟩
    · rw [if_neg c2] at h
      refine z_iload_n (pc := 9) C 3 dX7_movesOne_9 rfl rfl ?_
      refine z_if_ge (pc := 10) C dX7_movesOne_10 (tgt := 15) (by decide) (fun c3 => ?_) (fun c3 => ?_)
      · rw [if_pos c3] at h
        refine z_iload_n (pc := 15) C 1 dX7_movesOne_15 rfl rfl ?_
        refine z_i2l (pc := 16) C dX7_movesOne_16 ?_
        refine z_iload_n (pc := 17) C 2 dX7_movesOne_17 rfl rfl ?_
        refine z_i2l (pc := 18) C dX7_movesOne_18 ?_
        refine z_ladd (pc := 19) C dX7_movesOne_19 ?_
        refine z_aload_n (pc := 20) C 0 dX7_movesOne_20 rfl rfl ?_
        refine z_get (pc := 21) C dX7_movesOne_21 fl_X7_123 (hM_o A M B) rfl ?_
        refine z_i2l (pc := 24) C dX7_movesOne_24 ?_
        refine z_lcmp (pc := 25) C dX7_movesOne_25 ?_
        refine z_if_gt (pc := 26) C dX7_movesOne_26 (tgt := 49) (by decide) (fun c4 => ?_) (fun c4 => ?_)
        · rw [if_pos c4] at h
          refine z_bipush (pc := 49) C dX7_movesOne_49 (v := (-2 : Int32)) (by decide) ?_
          obtain rfl := Option.some.inj h
          exact z_iret (pc := 51) C E dX7_movesOne_51 ⟨rfl, rfl⟩
        · rw [if_neg c4] at h
          refine z_iload_n (pc := 29) C 3 dX7_movesOne_29 rfl rfl ?_
          refine z_aload_n (pc := 30) C 0 dX7_movesOne_30 rfl rfl ?_
          refine z_get (pc := 31) C dX7_movesOne_31 fl_X7_123 (hM_o A M B) rfl ?_
          refine z_ic_gt (pc := 34) C dX7_movesOne_34 (tgt := 49) (by decide) (fun c5 => ?_) (fun c5 => ?_)
          · rw [if_pos c5] at h
            refine z_bipush (pc := 49) C dX7_movesOne_49 (v := (-2 : Int32)) (by decide) ?_
            obtain rfl := Option.some.inj h
            exact z_iret (pc := 51) C E dX7_movesOne_51 ⟨rfl, rfl⟩
          · rw [if_neg c5] at h
            refine z_iload_n (pc := 37) C 3 dX7_movesOne_37 rfl rfl ?_
            refine z_iload_n (pc := 38) C 1 dX7_movesOne_38 rfl rfl ?_
            refine z_ic_le (pc := 39) C dX7_movesOne_39 (tgt := 52) (by decide) (fun c6 => ?_) (fun c6 => ?_)
            · rw [if_pos c6] at h
              exact z_subL [0, 1, 2, 3] (wfX7_movesOne_b52 C E M B x1 x2 x3 h) rfl
            · rw [if_neg c6] at h
              refine z_iload_n (pc := 42) C 3 dX7_movesOne_42 rfl rfl ?_
              refine z_iload_n (pc := 43) C 1 dX7_movesOne_43 rfl rfl ?_
              refine z_iload_n (pc := 44) C 2 dX7_movesOne_44 rfl rfl ?_
              refine z_iadd (pc := 45) C dX7_movesOne_45 ?_
              refine z_ic_ge (pc := 46) C dX7_movesOne_46 (tgt := 52) (by decide) (fun c7 => ?_) (fun c7 => ?_)
              · rw [if_pos c7] at h
                exact z_subL [0, 1, 2, 3] (wfX7_movesOne_b52 C E M B x1 x2 x3 h) rfl
              · rw [if_neg c7] at h
                refine z_bipush (pc := 49) C dX7_movesOne_49 (v := (-2 : Int32)) (by decide) ?_
                obtain rfl := Option.some.inj h
                exact z_iret (pc := 51) C E dX7_movesOne_51 ⟨rfl, rfl⟩
      · rw [if_neg c3] at h
        refine z_iconst (pc := 13) C dX7_movesOne_13 (v := (-1 : Int32)) (by decide) ?_
        obtain rfl := Option.some.inj h
        exact z_iret (pc := 14) C E dX7_movesOne_14 ⟨rfl, rfl⟩
theorem kX7_movesOne (l : Launch) (D : va_G) (cA : Nat → ClassId) (b : Nat) (A : zH) (M : MS) (B : zH) (x1 : Int32) (x2 : Int32) (x3 : Int32) (out : Int32 × MS × zH) (h : fX7_movesOne A M B x1 x2 x3 = some out) : zM l D cA b yX7_movesOne cX7_movesOne 6 (some .int) 4 86 [.ref A.length, .int x1, .int x2, .int x3] (hG A M B) (poI out.1 (hG A out.2.1 out.2.2)) := z_entry rfl (Nat.le_of_ble_eq_true rfl) (fun X C E _ _ _ => wfX7_movesOne C E M B x1 x2 x3 h)
def fX7_moves (A : zH) (M : MS) (B : zH) (x1 : Int32) (x2 : Int32) (x3 : Int32) : Option (Int32 × MS × zH) :=
    zlet (mI M 0 (0 : Int32)) fun M1 =>
    ob3 (fX7_movesOne A M1 B x1 x2 x3) fun v4 M2 B3 =>
    some (v4, M2, B3)
set_option maxRecDepth 100000 in
set_option maxHeartbeats 4000000 in
theorem wfX7_moves {X : zX} {A : zH} {out : Int32 × MS × zH} (C : zOK X cX7_moves yX7_moves.cls 4 (some .int) 5 111) (E : zPost X (poI out.1 (hG A out.2.1 out.2.2))) (M : MS) (B : zH) (x1 : Int32) (x2 : Int32) (x3 : Int32) (h : fX7_moves A M B x1 x2 x3 = some out) : zZ X 0 [(0, .ref A.length), (1, .int x1), (2, .int x2), (3, .int x3)] [] (hG A M B) := by
  rw [fX7_moves] at h
  refine z_aload_n (pc := 0) C 0 dX7_moves_0 rfl rfl ?_
  refine z_iconst (pc := 1) C dX7_moves_1 (v := (0 : Int32)) (by decide) ?_
  obtain ⟨M1, eM1, h⟩ := zlet_eq h
  refine z_put (pc := 2) C dX7_moves_2 fl_X7_1w (hM_o A M B) (fun _ => rfl) (fun _ => rfl) (Nat.le_of_ble_eq_true rfl) (hMi_0 A B eM1) ?_
  refine z_aload_n (pc := 5) C 0 dX7_moves_5 rfl rfl ?_
  refine z_iload_n (pc := 6) C 1 dX7_moves_6 rfl rfl ?_
  refine z_iload_n (pc := 7) C 2 dX7_moves_7 rfl rfl ?_
  refine z_iload_n (pc := 8) C 3 dX7_moves_8 rfl rfl ?_
  obtain ⟨v4, M2, B3, ev4, h⟩ := ob3_eq h
  refine z_callVi (h := A.length) (As := [.int x1, .int x2, .int x3]) (rest := []) (pc := 9) C dX7_moves_9 ml_X7_233 (kX7_movesOne _ _ _ _ A M1 B x1 x2 x3 (v4, M2, B3) ev4) (hM_o A M1 B) rfl rfl rfl (Nat.le_of_ble_eq_true rfl) (by decide) ?_
  obtain rfl := Option.some.inj h
  exact z_iret (pc := 12) C E dX7_moves_12 ⟨rfl, rfl⟩
theorem kX7_moves (l : Launch) (D : va_G) (cA : Nat → ClassId) (b : Nat) (A : zH) (M : MS) (B : zH) (x1 : Int32) (x2 : Int32) (x3 : Int32) (out : Int32 × MS × zH) (h : fX7_moves A M B x1 x2 x3 = some out) : zM l D cA b yX7_moves cX7_moves 4 (some .int) 5 111 [.ref A.length, .int x1, .int x2, .int x3] (hG A M B) (poI out.1 (hG A out.2.1 out.2.2)) := z_entry rfl (Nat.le_of_ble_eq_true rfl) (fun X C E _ _ _ => wfX7_moves C E M B x1 x2 x3 h)
def fX7_healsAll_b15 (A : zH) : Nat → MS → zH → Int32 → Int32 → Option (Int32 × MS × zH)
  | 0, _, _, _, _ => none
  | n + 1, M, B, x1, x2 =>
    if (M.1 11) ≤ x2 then (some (x1, M, B)) else
    ob1 (rd 3000 (M.2.1 10) x2) fun v2 =>
    ob1 (fX7_isHealable M x2) fun v3 =>
    ob1 (fX7_flag v3) fun v4 =>
    ob1 (wr 3000 x2 (mA M 10 (upd (M.2.1 10) x2.toNatClampNeg (v2 - v4)))) fun M5 =>
    zlet (x2 + (1 : Int32)) fun y6 =>
    (fX7_healsAll_b15 A n) M5 B x1 y6
set_option maxRecDepth 100000 in
set_option maxHeartbeats 4000000 in
theorem wfX7_healsAll_b15 {X : zX} {A : zH} {out : Int32 × MS × zH} (C : zOK X cX7_healsAll yX7_healsAll.cls 3 (some .int) 3 64) (E : zPost X (poI out.1 (hG A out.2.1 out.2.2))) : ∀ (n : Nat) (M : MS) (B : zH) (x1 : Int32) (x2 : Int32) (h : fX7_healsAll_b15 A n M B x1 x2 = some out), zZ X 15 [(0, .ref A.length), (1, .int x1), (2, .int x2)] [] (hG A M B) := by
  intro n
  induction n with
  | zero => intro M B x1 x2 h; cases h
  | succ n ih =>
    intro M B x1 x2 h
    rw [fX7_healsAll_b15] at h
    refine z_iload_n (pc := 15) C 2 dX7_healsAll_15 rfl rfl ?_
    refine z_aload_n (pc := 16) C 0 dX7_healsAll_16 rfl rfl ?_
    refine z_get (pc := 17) C dX7_healsAll_17 fl_X7_123 (hM_o A M B) rfl ?_
    refine z_ic_ge (pc := 20) C dX7_healsAll_20 (tgt := 46) (by decide) (fun c1 => ?_) (fun c1 => ?_)
    · rw [if_pos c1] at h
      refine z_iload_n (pc := 46) C 1 dX7_healsAll_46 rfl rfl ?_
      obtain rfl := Option.some.inj h
      exact z_iret (pc := 47) C E dX7_healsAll_47 ⟨rfl, rfl⟩
    · rw [if_neg c1] at h
      refine z_aload_n (pc := 23) C 0 dX7_healsAll_23 rfl rfl ?_
      refine z_get (pc := 24) C dX7_healsAll_24 fl_X7_48 (hM_o A M B) rfl ?_
      refine z_iload_n (pc := 27) C 2 dX7_healsAll_27 rfl rfl ?_
      refine z_dup2 (pc := 28) C dX7_healsAll_28 rfl rfl ?_
      obtain ⟨v2, ev2, h⟩ := ob1_eq h
      refine z_iald (pc := 29) C dX7_healsAll_29 (hMa_10 A M B) (rd_eq ev2).1 (z_topi (rd_eq ev2).2 ?_)
      refine z_aload_n (pc := 30) C 0 dX7_healsAll_30 rfl rfl ?_
      refine z_iload_n (pc := 31) C 2 dX7_healsAll_31 rfl rfl ?_
      obtain ⟨v3, ev3, h⟩ := ob1_eq h
      refine z_callVi (h := A.length) (As := [.int x2]) (rest := [.int v2, .int x2, .ref (A.length + 5)]) (pc := 32) C dX7_healsAll_32 ml_X7_236 (kX7_isHealable _ _ _ _ A M B x2 v3 ev3) (hM_o A M B) rfl rfl rfl (Nat.le_of_ble_eq_true rfl) (by decide) ?_
      obtain ⟨v4, ev4, h⟩ := ob1_eq h
      refine z_callSi (As := [.int v3]) (rest := [.int v2, .int x2, .ref (A.length + 5)]) (pc := 35) C dX7_healsAll_35 ml_X7_119 (kX7_flag _ _ _ _ (hG A M B) v3 v4 ev4) rfl rfl (Nat.le_of_ble_eq_true rfl) (by decide) ?_
      refine z_isub (pc := 38) C dX7_healsAll_38 ?_
      obtain ⟨M5, eM5, h⟩ := ob1_eq h
      refine z_iast (pc := 39) C dX7_healsAll_39 (hMa_10 A M B) (wr_eq eM5).1 (hMs_10 A B (wr_eq eM5).2) ?_
      obtain ⟨y6, ey6, h⟩ := zlet_eq h
      refine z_iinc (pc := 40) (v := y6) C 2 dX7_healsAll_40 rfl (by rw [ey6]; rfl) (by decide) (show zput _ _ _ = [(2, .int y6), (0, .ref A.length), (1, .int x1)] from rfl) ?_
      refine z_goto (pc := 43) C dX7_healsAll_43 (tgt := 15) (by decide) ?_
      exact z_subL [1, 2, 0] (ih M5 B x1 y6 h) rfl
def fX7_healsAll_b13 (A : zH) (M : MS) (B : zH) (x1 : Int32) : Option (Int32 × MS × zH) :=
    fX7_healsAll_b15 A FU M B x1 (0 : Int32)
set_option maxRecDepth 100000 in
set_option maxHeartbeats 4000000 in
theorem wfX7_healsAll_b13 {X : zX} {A : zH} {out : Int32 × MS × zH} (C : zOK X cX7_healsAll yX7_healsAll.cls 3 (some .int) 3 64) (E : zPost X (poI out.1 (hG A out.2.1 out.2.2))) (M : MS) (B : zH) (x1 : Int32) (h : fX7_healsAll_b13 A M B x1 = some out) : zZ X 13 [(0, .ref A.length), (1, .int x1)] [] (hG A M B) := by
  rw [fX7_healsAll_b13] at h
  refine z_iconst (pc := 13) C dX7_healsAll_13 (v := (0 : Int32)) (by decide) ?_
  refine z_istore_n (pc := 14) C dX7_healsAll_14 rfl (by decide) (show zput _ _ _ = [(2, .int (0 : Int32)), (0, .ref A.length), (1, .int x1)] from rfl) ?_
  exact z_subL [1, 2, 0] (wfX7_healsAll_b15 C E FU M B x1 (0 : Int32) h) rfl
def fX7_healsAll (A : zH) (M : MS) (B : zH) : Option (Int32 × MS × zH) :=
    ob1 (fX7_healables M ) fun v1 =>
    if v1 ≤ 0 then (fX7_healsAll_b13 A M B v1) else
    ob2 (fX7_edits A M B ) fun M3 B4 =>
    fX7_healsAll_b13 A M3 B4 v1
set_option maxRecDepth 100000 in
set_option maxHeartbeats 4000000 in
theorem wfX7_healsAll {X : zX} {A : zH} {out : Int32 × MS × zH} (C : zOK X cX7_healsAll yX7_healsAll.cls 3 (some .int) 3 64) (E : zPost X (poI out.1 (hG A out.2.1 out.2.2))) (M : MS) (B : zH) (h : fX7_healsAll A M B = some out) : zZ X 0 [(0, .ref A.length)] [] (hG A M B) := by
  rw [fX7_healsAll] at h
  refine z_aload_n (pc := 0) C 0 dX7_healsAll_0 rfl rfl ?_
  obtain ⟨v1, ev1, h⟩ := ob1_eq h
  refine z_callVi (h := A.length) (As := []) (rest := []) (pc := 1) C dX7_healsAll_1 ml_X7_239 (kX7_healables _ _ _ _ A M B  v1 ev1) (hM_o A M B) rfl rfl rfl (Nat.le_of_ble_eq_true rfl) (by decide) ?_
  refine z_istore_n (pc := 4) C dX7_healsAll_4 rfl (by decide) (show zput _ _ _ = [(1, .int v1), (0, .ref A.length)] from rfl) ?_
  refine z_iload_n (pc := 5) C 0 dX7_healsAll_5 rfl rfl ?_
  refine z_if_le (pc := 6) C dX7_healsAll_6 (tgt := 13) (by decide) (fun c2 => ?_) (fun c2 => ?_)
  · rw [if_pos c2] at h
    exact z_subL [1, 0] (wfX7_healsAll_b13 C E M B v1 h) rfl
  · rw [if_neg c2] at h
    refine z_aload_n (pc := 9) C 1 dX7_healsAll_9 rfl rfl ?_
    obtain ⟨M3, B4, eM3, h⟩ := ob2_eq h
    refine z_callVv (h := A.length) (As := []) (rest := []) (pc := 10) C dX7_healsAll_10 ml_X7_205 (kX7_edits _ _ _ _ A M B  (M3, B4) eM3) (hM_o A M B) rfl rfl rfl (Nat.le_of_ble_eq_true rfl) (by decide) ?_
    exact z_subL [1, 0] (wfX7_healsAll_b13 C E M3 B4 v1 h) rfl
theorem kX7_healsAll (l : Launch) (D : va_G) (cA : Nat → ClassId) (b : Nat) (A : zH) (M : MS) (B : zH)  (out : Int32 × MS × zH) (h : fX7_healsAll A M B  = some out) : zM l D cA b yX7_healsAll cX7_healsAll 3 (some .int) 3 64 [.ref A.length] (hG A M B) (poI out.1 (hG A out.2.1 out.2.2)) := z_entry rfl (Nat.le_of_ble_eq_true rfl) (fun X C E _ _ _ => wfX7_healsAll C E M B  h)
def fX7_heals (A : zH) (M : MS) (B : zH) : Option (Int32 × MS × zH) :=
    zlet (mI M 0 (0 : Int32)) fun M1 =>
    ob3 (fX7_healsAll A M1 B ) fun v4 M2 B3 =>
    some (v4, M2, B3)
set_option maxRecDepth 100000 in
set_option maxHeartbeats 4000000 in
theorem wfX7_heals {X : zX} {A : zH} {out : Int32 × MS × zH} (C : zOK X cX7_heals yX7_heals.cls 1 (some .int) 4 86) (E : zPost X (poI out.1 (hG A out.2.1 out.2.2))) (M : MS) (B : zH) (h : fX7_heals A M B = some out) : zZ X 0 [(0, .ref A.length)] [] (hG A M B) := by
  rw [fX7_heals] at h
  refine z_aload_n (pc := 0) C 0 dX7_heals_0 rfl rfl ?_
  refine z_iconst (pc := 1) C dX7_heals_1 (v := (0 : Int32)) (by decide) ?_
  obtain ⟨M1, eM1, h⟩ := zlet_eq h
  refine z_put (pc := 2) C dX7_heals_2 fl_X7_1w (hM_o A M B) (fun _ => rfl) (fun _ => rfl) (Nat.le_of_ble_eq_true rfl) (hMi_0 A B eM1) ?_
  refine z_aload_n (pc := 5) C 0 dX7_heals_5 rfl rfl ?_
  obtain ⟨v4, M2, B3, ev4, h⟩ := ob3_eq h
  refine z_callVi (h := A.length) (As := []) (rest := []) (pc := 6) C dX7_heals_6 ml_X7_242 (kX7_healsAll _ _ _ _ A M1 B  (v4, M2, B3) ev4) (hM_o A M1 B) rfl rfl rfl (Nat.le_of_ble_eq_true rfl) (by decide) ?_
  obtain rfl := Option.some.inj h
  exact z_iret (pc := 9) C E dX7_heals_9 ⟨rfl, rfl⟩
theorem kX7_heals (l : Launch) (D : va_G) (cA : Nat → ClassId) (b : Nat) (A : zH) (M : MS) (B : zH)  (out : Int32 × MS × zH) (h : fX7_heals A M B  = some out) : zM l D cA b yX7_heals cX7_heals 1 (some .int) 4 86 [.ref A.length] (hG A M B) (poI out.1 (hG A out.2.1 out.2.2)) := z_entry rfl (Nat.le_of_ble_eq_true rfl) (fun X C E _ _ _ => wfX7_heals C E M B  h)
def fX7_cuts_b96 (A : zH) (M : MS) (B : zH) (x5 : Int32) (s0 : Int32) : Option (Int32 × MS × zH) :=
    ob2 (fX7_edits A M B ) fun M1 B2 =>
    ob2 (fX7_takesOut M1 x5 s0) fun v4 M3 =>
    some (s0, M3, B2)
set_option maxRecDepth 100000 in
set_option maxHeartbeats 4000000 in
theorem wfX7_cuts_b96 {X : zX} {A : zH} {out : Int32 × MS × zH} (C : zOK X cX7_cuts yX7_cuts.cls 7 (some .int) 4 87) (E : zPost X (poI out.1 (hG A out.2.1 out.2.2))) (M : MS) (B : zH) (x5 : Int32) (s0 : Int32) (h : fX7_cuts_b96 A M B x5 s0 = some out) : zZ X 96 [(0, .ref A.length), (5, .int x5)] [.int s0] (hG A M B) := by
  rw [fX7_cuts_b96] at h
  refine z_istore (pc := 96) C dX7_cuts_96 (by decide) (show zput _ _ _ = [(6, .int s0), (0, .ref A.length), (5, .int x5)] from rfl) ?_
  refine z_aload_n (pc := 98) C 1 dX7_cuts_98 rfl rfl ?_
  obtain ⟨M1, B2, eM1, h⟩ := ob2_eq h
  refine z_callVv (h := A.length) (As := []) (rest := []) (pc := 99) C dX7_cuts_99 ml_X7_205 (kX7_edits _ _ _ _ A M B  (M1, B2) eM1) (hM_o A M B) rfl rfl rfl (Nat.le_of_ble_eq_true rfl) (by decide) ?_
  refine z_aload_n (pc := 102) C 1 dX7_cuts_102 rfl rfl ?_
  refine z_iload (pc := 103) C 2 dX7_cuts_103 rfl ?_
  refine z_iload (pc := 105) C 0 dX7_cuts_105 rfl ?_
  obtain ⟨v4, M3, ev4, h⟩ := ob2_eq h
  refine z_callVi (h := A.length) (As := [.int x5, .int s0]) (rest := []) (pc := 107) C dX7_cuts_107 ml_X7_217 (kX7_takesOut _ _ _ _ A M1 B2 x5 s0 (v4, M3) ev4) (hM_o A M1 B2) rfl rfl rfl (Nat.le_of_ble_eq_true rfl) (by decide) ?_
  refine z_pop (pc := 110) C dX7_cuts_110 rfl ?_
  refine z_iload (pc := 111) C 0 dX7_cuts_111 rfl ?_
  obtain rfl := Option.some.inj h
  exact z_iret (pc := 113) C E dX7_cuts_113 ⟨rfl, rfl⟩
def fX7_cuts_b76 (A : zH) (M : MS) (B : zH) (x3 : Int32) (x4 : Int32) (s0 : Int32) : Option (Int32 × MS × zH) :=
    if x4 = 0 then (fX7_cuts_b96 A M B s0 ((x3 + (1 : Int32)) - s0)) else
    fX7_cuts_b96 A M B s0 (x3 - s0)
set_option maxRecDepth 100000 in
set_option maxHeartbeats 4000000 in
theorem wfX7_cuts_b76 {X : zX} {A : zH} {out : Int32 × MS × zH} (C : zOK X cX7_cuts yX7_cuts.cls 7 (some .int) 4 87) (E : zPost X (poI out.1 (hG A out.2.1 out.2.2))) (M : MS) (B : zH) (x3 : Int32) (x4 : Int32) (s0 : Int32) (h : fX7_cuts_b76 A M B x3 x4 s0 = some out) : zZ X 76 [(0, .ref A.length), (3, .int x3), (4, .int x4)] [.int s0] (hG A M B) := by
  rw [fX7_cuts_b76] at h
  refine z_istore (pc := 76) C dX7_cuts_76 (by decide) (show zput _ _ _ = [(5, .int s0), (0, .ref A.length), (3, .int x3), (4, .int x4)] from rfl) ?_
  refine z_iload (pc := 78) C 3 dX7_cuts_78 rfl ?_
  refine z_if_eq (pc := 80) C dX7_cuts_80 (tgt := 90) (by decide) (fun c1 => ?_) (fun c1 => ?_)
  · rw [if_pos c1] at h
    refine z_iload_n (pc := 90) C 2 dX7_cuts_90 rfl rfl ?_
    refine z_iconst (pc := 91) C dX7_cuts_91 (v := (1 : Int32)) (by decide) ?_
    refine z_iadd (pc := 92) C dX7_cuts_92 ?_
    refine z_iload (pc := 93) C 0 dX7_cuts_93 rfl ?_
    refine z_isub (pc := 95) C dX7_cuts_95 ?_
    exact z_subL [1, 0] (wfX7_cuts_b96 C E M B s0 ((x3 + (1 : Int32)) - s0) h) rfl
  · rw [if_neg c1] at h
    refine z_iload_n (pc := 83) C 2 dX7_cuts_83 rfl rfl ?_
    refine z_iload (pc := 84) C 0 dX7_cuts_84 rfl ?_
    refine z_isub (pc := 86) C dX7_cuts_86 ?_
    refine z_goto (pc := 87) C dX7_cuts_87 (tgt := 96) (by decide) ?_
    exact z_subL [1, 0] (wfX7_cuts_b96 C E M B s0 (x3 - s0) h) rfl
def fX7_cuts_b75 (A : zH) (M : MS) (B : zH) (x2 : Int32) (x3 : Int32) (x4 : Int32) : Option (Int32 × MS × zH) :=
    fX7_cuts_b76 A M B x3 x4 x2
set_option maxRecDepth 100000 in
set_option maxHeartbeats 4000000 in
theorem wfX7_cuts_b75 {X : zX} {A : zH} {out : Int32 × MS × zH} (C : zOK X cX7_cuts yX7_cuts.cls 7 (some .int) 4 87) (E : zPost X (poI out.1 (hG A out.2.1 out.2.2))) (M : MS) (B : zH) (x2 : Int32) (x3 : Int32) (x4 : Int32) (h : fX7_cuts_b75 A M B x2 x3 x4 = some out) : zZ X 75 [(0, .ref A.length), (2, .int x2), (3, .int x3), (4, .int x4)] [] (hG A M B) := by
  rw [fX7_cuts_b75] at h
  refine z_iload_n (pc := 75) C 1 dX7_cuts_75 rfl rfl ?_
  exact z_subL [0, 2, 3] (wfX7_cuts_b76 C E M B x3 x4 x2 h) rfl
def fX7_cuts_b58 (A : zH) (M : MS) (B : zH) (x2 : Int32) (x3 : Int32) (s0 : Int32) : Option (Int32 × MS × zH) :=
    if s0 = 0 then (fX7_cuts_b75 A M B x2 x3 s0) else
    if x2 ≤ 0 then (fX7_cuts_b75 A M B x2 x3 s0) else
    fX7_cuts_b76 A M B x3 s0 (x2 - (1 : Int32))
set_option maxRecDepth 100000 in
set_option maxHeartbeats 4000000 in
theorem wfX7_cuts_b58 {X : zX} {A : zH} {out : Int32 × MS × zH} (C : zOK X cX7_cuts yX7_cuts.cls 7 (some .int) 4 87) (E : zPost X (poI out.1 (hG A out.2.1 out.2.2))) (M : MS) (B : zH) (x2 : Int32) (x3 : Int32) (s0 : Int32) (h : fX7_cuts_b58 A M B x2 x3 s0 = some out) : zZ X 58 [(0, .ref A.length), (2, .int x2), (3, .int x3)] [.int s0] (hG A M B) := by
  rw [fX7_cuts_b58] at h
  refine z_istore (pc := 58) C dX7_cuts_58 (by decide) (show zput _ _ _ = [(4, .int s0), (0, .ref A.length), (2, .int x2), (3, .int x3)] from rfl) ?_
  refine z_iload (pc := 60) C 0 dX7_cuts_60 rfl ?_
  refine z_if_eq (pc := 62) C dX7_cuts_62 (tgt := 75) (by decide) (fun c1 => ?_) (fun c1 => ?_)
  · rw [if_pos c1] at h
    exact z_subL [1, 2, 3, 0] (wfX7_cuts_b75 C E M B x2 x3 s0 h) rfl
  · rw [if_neg c1] at h
    refine z_iload_n (pc := 65) C 2 dX7_cuts_65 rfl rfl ?_
    refine z_if_le (pc := 66) C dX7_cuts_66 (tgt := 75) (by decide) (fun c2 => ?_) (fun c2 => ?_)
    · rw [if_pos c2] at h
      exact z_subL [1, 2, 3, 0] (wfX7_cuts_b75 C E M B x2 x3 s0 h) rfl
    · rw [if_neg c2] at h
      refine z_iload_n (pc := 69) C 2 dX7_cuts_69 rfl rfl ?_
      refine z_iconst (pc := 70) C dX7_cuts_70 (v := (1 : Int32)) (by decide) ?_
      refine z_isub (pc := 71) C dX7_cuts_71 ?_
      refine z_goto (pc := 72) C dX7_cuts_72 (tgt := 76) (by decide) ?_
      exact z_subL [1, 3, 0] (wfX7_cuts_b76 C E M B x3 s0 (x2 - (1 : Int32)) h) rfl
def fX7_cuts (A : zH) (M : MS) (B : zH) (x1 : Int32) : Option (Int32 × MS × zH) :=
    zlet (mI M 0 (0 : Int32)) fun M1 =>
    ob1 (fX7_lines M1 ) fun v2 =>
    ob1 (fX7_in x1.toInt64 (0 : Int64) ((v2 - (1 : Int32)).toInt64)) fun v3 =>
    if v3 = 0 then (some ((-1 : Int32), M1, B)) else
    if (M1.1 11) = 0 then (some ((-2 : Int32), M1, B)) else
    ob1 (fX7_startOf M1 x1) fun v6 =>
    ob1 (fX7_endFrom M1 v6) fun v7 =>
    if v7 = (M1.1 11) then (fX7_cuts_b58 A M1 B v6 v7 (1 : Int32)) else
    fX7_cuts_b58 A M1 B v6 v7 (0 : Int32)
set_option maxRecDepth 100000 in
set_option maxHeartbeats 4000000 in
theorem wfX7_cuts {X : zX} {A : zH} {out : Int32 × MS × zH} (C : zOK X cX7_cuts yX7_cuts.cls 7 (some .int) 4 87) (E : zPost X (poI out.1 (hG A out.2.1 out.2.2))) (M : MS) (B : zH) (x1 : Int32) (h : fX7_cuts A M B x1 = some out) : zZ X 0 [(0, .ref A.length), (1, .int x1)] [] (hG A M B) := by
  rw [fX7_cuts] at h
  refine z_aload_n (pc := 0) C 0 dX7_cuts_0 rfl rfl ?_
  refine z_iconst (pc := 1) C dX7_cuts_1 (v := (0 : Int32)) (by decide) ?_
  obtain ⟨M1, eM1, h⟩ := zlet_eq h
  refine z_put (pc := 2) C dX7_cuts_2 fl_X7_1w (hM_o A M B) (fun _ => rfl) (fun _ => rfl) (Nat.le_of_ble_eq_true rfl) (hMi_0 A B eM1) ?_
  refine z_iload_n (pc := 5) C 1 dX7_cuts_5 rfl rfl ?_
  refine z_i2l (pc := 6) C dX7_cuts_6 ?_
  refine z_lconst (pc := 7) C dX7_cuts_7 (v := (0 : Int64)) (by decide) ?_
  refine z_aload_n (pc := 8) C 0 dX7_cuts_8 rfl rfl ?_
  obtain ⟨v2, ev2, h⟩ := ob1_eq h
  refine z_callVi (h := A.length) (As := []) (rest := [.long (0 : Int64), .long x1.toInt64]) (pc := 9) C dX7_cuts_9 ml_X7_245 (kX7_lines _ _ _ _ A M1 B  v2 ev2) (hM_o A M1 B) rfl rfl rfl (Nat.le_of_ble_eq_true rfl) (by decide) ?_
  refine z_iconst (pc := 12) C dX7_cuts_12 (v := (1 : Int32)) (by decide) ?_
  refine z_isub (pc := 13) C dX7_cuts_13 ?_
  refine z_i2l (pc := 14) C dX7_cuts_14 ?_
  obtain ⟨v3, ev3, h⟩ := ob1_eq h
  refine z_callSi (As := [.long x1.toInt64, .long (0 : Int64), .long ((v2 - (1 : Int32)).toInt64)]) (rest := []) (pc := 15) C dX7_cuts_15 ml_X7_21 (kX7_in _ _ _ _ (hG A M1 B) x1.toInt64 (0 : Int64) ((v2 - (1 : Int32)).toInt64) v3 ev3) rfl rfl (Nat.le_of_ble_eq_true rfl) (by decide) ?_
  refine z_if_ne (pc := 18) C dX7_cuts_18 (tgt := 23) (by decide) (fun c4 => ?_) (fun c4 => ?_)
  · rw [if_neg c4] at h
    refine z_aload_n (pc := 23) C 0 dX7_cuts_23 rfl rfl ?_
    refine z_get (pc := 24) C dX7_cuts_24 fl_X7_123 (hM_o A M1 B) rfl ?_
    refine z_if_ne (pc := 27) C dX7_cuts_27 (tgt := 33) (by decide) (fun c5 => ?_) (fun c5 => ?_)
    · rw [if_neg c5] at h
      refine z_aload_n (pc := 33) C 0 dX7_cuts_33 rfl rfl ?_
      refine z_iload_n (pc := 34) C 1 dX7_cuts_34 rfl rfl ?_
      obtain ⟨v6, ev6, h⟩ := ob1_eq h
      refine z_callVi (h := A.length) (As := [.int x1]) (rest := []) (pc := 35) C dX7_cuts_35 ml_X7_248 (kX7_startOf _ _ _ _ A M1 B x1 v6 ev6) (hM_o A M1 B) rfl rfl rfl (Nat.le_of_ble_eq_true rfl) (by decide) ?_
      refine z_istore_n (pc := 38) C dX7_cuts_38 rfl (by decide) (show zput _ _ _ = [(2, .int v6), (0, .ref A.length), (1, .int x1)] from rfl) ?_
      refine z_aload_n (pc := 39) C 1 dX7_cuts_39 rfl rfl ?_
      refine z_iload_n (pc := 40) C 0 dX7_cuts_40 rfl rfl ?_
      obtain ⟨v7, ev7, h⟩ := ob1_eq h
      refine z_callVi (h := A.length) (As := [.int v6]) (rest := []) (pc := 41) C dX7_cuts_41 ml_X7_251 (kX7_endFrom _ _ _ _ A M1 B v6 v7 ev7) (hM_o A M1 B) rfl rfl rfl (Nat.le_of_ble_eq_true rfl) (by decide) ?_
      refine z_istore_n (pc := 44) C dX7_cuts_44 rfl (by decide) (show zput _ _ _ = [(3, .int v7), (2, .int v6), (0, .ref A.length), (1, .int x1)] from rfl) ?_
      refine z_iload_n (pc := 45) C 0 dX7_cuts_45 rfl rfl ?_
      refine z_aload_n (pc := 46) C 2 dX7_cuts_46 rfl rfl ?_
      refine z_get (pc := 47) C dX7_cuts_47 fl_X7_123 (hM_o A M1 B) rfl ?_
      refine z_ic_ne (pc := 50) C dX7_cuts_50 (tgt := 57) (by decide) (fun c8 => ?_) (fun c8 => ?_)
      · rw [if_neg c8] at h
        refine z_iconst (pc := 57) C dX7_cuts_57 (v := (0 : Int32)) (by decide) ?_
        exact z_subL [2, 1, 0] (wfX7_cuts_b58 C E M1 B v6 v7 (0 : Int32) h) rfl
      · rw [if_pos c8] at h
        refine z_iconst (pc := 53) C dX7_cuts_53 (v := (1 : Int32)) (by decide) ?_
        refine z_goto (pc := 54) C dX7_cuts_54 (tgt := 58) (by decide) ?_
        exact z_subL [2, 1, 0] (wfX7_cuts_b58 C E M1 B v6 v7 (1 : Int32) h) rfl
    · rw [if_pos c5] at h
      refine z_bipush (pc := 30) C dX7_cuts_30 (v := (-2 : Int32)) (by decide) ?_
      obtain rfl := Option.some.inj h
      exact z_iret (pc := 32) C E dX7_cuts_32 ⟨rfl, rfl⟩
  · rw [if_pos c4] at h
    refine z_iconst (pc := 21) C dX7_cuts_21 (v := (-1 : Int32)) (by decide) ?_
    obtain rfl := Option.some.inj h
    exact z_iret (pc := 22) C E dX7_cuts_22 ⟨rfl, rfl⟩
theorem kX7_cuts (l : Launch) (D : va_G) (cA : Nat → ClassId) (b : Nat) (A : zH) (M : MS) (B : zH) (x1 : Int32) (out : Int32 × MS × zH) (h : fX7_cuts A M B x1 = some out) : zM l D cA b yX7_cuts cX7_cuts 7 (some .int) 4 87 [.ref A.length, .int x1] (hG A M B) (poI out.1 (hG A out.2.1 out.2.2)) := z_entry rfl (Nat.le_of_ble_eq_true rfl) (fun X C E _ _ _ => wfX7_cuts C E M B x1 h)
def fX7_indents_b166 (A : zH) (M : MS) (B : zH) : Option (Int32 × MS × zH) :=
    some ((M.1 11), M, B)
set_option maxRecDepth 100000 in
set_option maxHeartbeats 4000000 in
theorem wfX7_indents_b166 {X : zX} {A : zH} {out : Int32 × MS × zH} (C : zOK X cX7_indents yX7_indents.cls 9 (some .int) 4 88) (E : zPost X (poI out.1 (hG A out.2.1 out.2.2))) (M : MS) (B : zH) (h : fX7_indents_b166 A M B = some out) : zZ X 166 [(0, .ref A.length)] [] (hG A M B) := by
  rw [fX7_indents_b166] at h
  refine z_aload_n (pc := 166) C 0 dX7_indents_166 rfl rfl ?_
  refine z_get (pc := 167) C dX7_indents_167 fl_X7_123 (hM_o A M B) rfl ?_
  obtain rfl := Option.some.inj h
  exact z_iret (pc := 170) C E dX7_indents_170 ⟨rfl, rfl⟩
def fX7_indents_b145 (A : zH) (k87 : MS → zH → Int32 → Int32 → Int32 → Option (Int32 × MS × zH)) (M : MS) (B : zH) (x1 : Int32) (x3 : Int32) (x5 : Int32) (x6 : Int32) (x7 : Int32) : Option (Int32 × MS × zH) :=
    ob1 (fX7_comesIn M x6 ((M.1 9) - x3) x3 x7) fun M1 =>
    zlet (x5 + (-1 : Int32)) fun y2 =>
    k87 M1 B x1 x3 y2
set_option maxRecDepth 100000 in
set_option maxHeartbeats 4000000 in
theorem wfX7_indents_b145 {X : zX} {A : zH} {out : Int32 × MS × zH} (C : zOK X cX7_indents yX7_indents.cls 9 (some .int) 4 88) (E : zPost X (poI out.1 (hG A out.2.1 out.2.2))) (k87 : MS → zH → Int32 → Int32 → Int32 → Option (Int32 × MS × zH)) (hk87 : ∀ (M : MS) (B : zH) (x1 : Int32) (x3 : Int32) (x5 : Int32), k87 M B x1 x3 x5 = some out → zZ X 87 [(0, .ref A.length), (1, .int x1), (3, .int x3), (5, .int x5)] [] (hG A M B)) (M : MS) (B : zH) (x1 : Int32) (x3 : Int32) (x5 : Int32) (x6 : Int32) (x7 : Int32) (h : fX7_indents_b145 A k87 M B x1 x3 x5 x6 x7 = some out) : zZ X 145 [(0, .ref A.length), (1, .int x1), (3, .int x3), (5, .int x5), (6, .int x6), (7, .int x7)] [] (hG A M B) := by
  rw [fX7_indents_b145] at h
  refine z_aload_n (pc := 145) C 0 dX7_indents_145 rfl rfl ?_
  refine z_iload (pc := 146) C 4 dX7_indents_146 rfl ?_
  refine z_aload_n (pc := 148) C 0 dX7_indents_148 rfl rfl ?_
  refine z_get (pc := 149) C dX7_indents_149 fl_X7_33 (hM_o A M B) rfl ?_
  refine z_iload_n (pc := 152) C 2 dX7_indents_152 rfl rfl ?_
  refine z_isub (pc := 153) C dX7_indents_153 ?_
  refine z_iload_n (pc := 154) C 2 dX7_indents_154 rfl rfl ?_
  refine z_iload (pc := 155) C 5 dX7_indents_155 rfl ?_
  obtain ⟨M1, eM1, h⟩ := ob1_eq h
  refine z_callVv (h := A.length) (As := [.int x6, .int ((M.1 9) - x3), .int x3, .int x7]) (rest := []) (pc := 157) C dX7_indents_157 ml_X7_153 (kX7_comesIn _ _ _ _ A M B x6 ((M.1 9) - x3) x3 x7 M1 eM1) (hM_o A M B) rfl rfl rfl (Nat.le_of_ble_eq_true rfl) (by decide) ?_
  obtain ⟨y2, ey2, h⟩ := zlet_eq h
  refine z_iinc (pc := 160) (v := y2) C 3 dX7_indents_160 rfl (by rw [ey2]; rfl) (by decide) (show zput _ _ _ = [(5, .int y2), (0, .ref A.length), (1, .int x1), (3, .int x3), (6, .int x6), (7, .int x7)] from rfl) ?_
  refine z_goto (pc := 163) C dX7_indents_163 (tgt := 87) (by decide) ?_
  exact z_subL [1, 2, 3, 0] (hk87 M1 B x1 x3 y2 h) rfl
def fX7_indents_b112 (A : zH) (k87 : MS → zH → Int32 → Int32 → Int32 → Option (Int32 × MS × zH)) : Nat → MS → zH → Int32 → Int32 → Int32 → Int32 → Int32 → Int32 → Option (Int32 × MS × zH)
  | 0, _, _, _, _, _, _, _, _ => none
  | n + 1, M, B, x1, x3, x5, x6, x7, x8 =>
    if x3 ≤ x8 then (fX7_indents_b145 A k87 M B x1 x3 x5 x6 x7) else
    ob1 (wr 6000 (M.1 9) (mA M 7 (upd (M.2.1 7) (M.1 9).toNatClampNeg (32 : Int32)))) fun M2 =>
    zlet (mI M2 9 ((M2.1 9) + (1 : Int32))) fun M3 =>
    zlet (x8 + (1 : Int32)) fun y4 =>
    (fX7_indents_b112 A k87 n) M3 B x1 x3 x5 x6 x7 y4
set_option maxRecDepth 100000 in
set_option maxHeartbeats 4000000 in
theorem wfX7_indents_b112 {X : zX} {A : zH} {out : Int32 × MS × zH} (C : zOK X cX7_indents yX7_indents.cls 9 (some .int) 4 88) (E : zPost X (poI out.1 (hG A out.2.1 out.2.2))) (k87 : MS → zH → Int32 → Int32 → Int32 → Option (Int32 × MS × zH)) (hk87 : ∀ (M : MS) (B : zH) (x1 : Int32) (x3 : Int32) (x5 : Int32), k87 M B x1 x3 x5 = some out → zZ X 87 [(0, .ref A.length), (1, .int x1), (3, .int x3), (5, .int x5)] [] (hG A M B)) : ∀ (n : Nat) (M : MS) (B : zH) (x1 : Int32) (x3 : Int32) (x5 : Int32) (x6 : Int32) (x7 : Int32) (x8 : Int32) (h : fX7_indents_b112 A k87 n M B x1 x3 x5 x6 x7 x8 = some out), zZ X 112 [(0, .ref A.length), (1, .int x1), (3, .int x3), (5, .int x5), (6, .int x6), (7, .int x7), (8, .int x8)] [] (hG A M B) := by
  intro n
  induction n with
  | zero => intro M B x1 x3 x5 x6 x7 x8 h; cases h
  | succ n ih =>
    intro M B x1 x3 x5 x6 x7 x8 h
    rw [fX7_indents_b112] at h
    refine z_iload (pc := 112) C 6 dX7_indents_112 rfl ?_
    refine z_iload_n (pc := 114) C 2 dX7_indents_114 rfl rfl ?_
    refine z_ic_ge (pc := 115) C dX7_indents_115 (tgt := 145) (by decide) (fun c1 => ?_) (fun c1 => ?_)
    · rw [if_pos c1] at h
      exact z_subL [0, 1, 2, 3, 4, 5] (wfX7_indents_b145 C E k87 hk87 M B x1 x3 x5 x6 x7 h) rfl
    · rw [if_neg c1] at h
      refine z_aload_n (pc := 118) C 0 dX7_indents_118 rfl rfl ?_
      refine z_get (pc := 119) C dX7_indents_119 fl_X7_39 (hM_o A M B) rfl ?_
      refine z_aload_n (pc := 122) C 0 dX7_indents_122 rfl rfl ?_
      refine z_get (pc := 123) C dX7_indents_123 fl_X7_33 (hM_o A M B) rfl ?_
      refine z_bipush (pc := 126) C dX7_indents_126 (v := (32 : Int32)) (by decide) ?_
      obtain ⟨M2, eM2, h⟩ := ob1_eq h
      refine z_iast (pc := 128) C dX7_indents_128 (hMa_7 A M B) (wr_eq eM2).1 (hMs_7 A B (wr_eq eM2).2) ?_
      refine z_aload_n (pc := 129) C 0 dX7_indents_129 rfl rfl ?_
      refine z_dup (pc := 130) C dX7_indents_130 rfl ?_
      refine z_get (pc := 131) C dX7_indents_131 fl_X7_33 (hM_o A M2 B) rfl ?_
      refine z_iconst (pc := 134) C dX7_indents_134 (v := (1 : Int32)) (by decide) ?_
      refine z_iadd (pc := 135) C dX7_indents_135 ?_
      obtain ⟨M3, eM3, h⟩ := zlet_eq h
      refine z_put (pc := 136) C dX7_indents_136 fl_X7_33w (hM_o A M2 B) (fun _ => rfl) (fun _ => rfl) (Nat.le_of_ble_eq_true rfl) (hMi_9 A B eM3) ?_
      obtain ⟨y4, ey4, h⟩ := zlet_eq h
      refine z_iinc (pc := 139) (v := y4) C 6 dX7_indents_139 rfl (by rw [ey4]; rfl) (by decide) (show zput _ _ _ = [(8, .int y4), (0, .ref A.length), (1, .int x1), (3, .int x3), (5, .int x5), (6, .int x6), (7, .int x7)] from rfl) ?_
      refine z_goto (pc := 142) C dX7_indents_142 (tgt := 112) (by decide) ?_
      exact z_subL [1, 2, 3, 4, 5, 6, 0] (ih M3 B x1 x3 x5 x6 x7 y4 h) rfl
def fX7_indents_b87 (A : zH) : Nat → MS → zH → Int32 → Int32 → Int32 → Option (Int32 × MS × zH)
  | 0, _, _, _, _, _ => none
  | n + 1, M, B, x1, x3, x5 =>
    if x5 < x1 then (fX7_indents_b166 A M B) else
    ob1 (fX7_startOf M x5) fun v2 =>
    ob1 (fX7_goesOn M v2) fun v3 =>
    fX7_indents_b112 A (fX7_indents_b87 A n) FU M B x1 x3 x5 v2 v3 (0 : Int32)
set_option maxRecDepth 100000 in
set_option maxHeartbeats 4000000 in
theorem wfX7_indents_b87 {X : zX} {A : zH} {out : Int32 × MS × zH} (C : zOK X cX7_indents yX7_indents.cls 9 (some .int) 4 88) (E : zPost X (poI out.1 (hG A out.2.1 out.2.2))) : ∀ (n : Nat) (M : MS) (B : zH) (x1 : Int32) (x3 : Int32) (x5 : Int32) (h : fX7_indents_b87 A n M B x1 x3 x5 = some out), zZ X 87 [(0, .ref A.length), (1, .int x1), (3, .int x3), (5, .int x5)] [] (hG A M B) := by
  intro n
  induction n with
  | zero => intro M B x1 x3 x5 h; cases h
  | succ n ih =>
    intro M B x1 x3 x5 h
    rw [fX7_indents_b87] at h
    refine z_iload (pc := 87) C 3 dX7_indents_87 rfl ?_
    refine z_iload_n (pc := 89) C 1 dX7_indents_89 rfl rfl ?_
    refine z_ic_lt (pc := 90) C dX7_indents_90 (tgt := 166) (by decide) (fun c1 => ?_) (fun c1 => ?_)
    · rw [if_pos c1] at h
      exact z_subL [0] (wfX7_indents_b166 C E M B h) rfl
    · rw [if_neg c1] at h
      refine z_aload_n (pc := 93) C 0 dX7_indents_93 rfl rfl ?_
      refine z_iload (pc := 94) C 3 dX7_indents_94 rfl ?_
      obtain ⟨v2, ev2, h⟩ := ob1_eq h
      refine z_callVi (h := A.length) (As := [.int x5]) (rest := []) (pc := 96) C dX7_indents_96 ml_X7_248 (kX7_startOf _ _ _ _ A M B x5 v2 ev2) (hM_o A M B) rfl rfl rfl (Nat.le_of_ble_eq_true rfl) (by decide) ?_
      refine z_istore (pc := 99) C dX7_indents_99 (by decide) (show zput _ _ _ = [(6, .int v2), (0, .ref A.length), (1, .int x1), (3, .int x3), (5, .int x5)] from rfl) ?_
      refine z_aload_n (pc := 101) C 1 dX7_indents_101 rfl rfl ?_
      refine z_iload (pc := 102) C 0 dX7_indents_102 rfl ?_
      obtain ⟨v3, ev3, h⟩ := ob1_eq h
      refine z_callVi (h := A.length) (As := [.int v2]) (rest := []) (pc := 104) C dX7_indents_104 ml_X7_150 (kX7_goesOn _ _ _ _ A M B v2 v3 ev3) (hM_o A M B) rfl rfl rfl (Nat.le_of_ble_eq_true rfl) (by decide) ?_
      refine z_istore (pc := 107) C dX7_indents_107 (by decide) (show zput _ _ _ = [(7, .int v3), (6, .int v2), (0, .ref A.length), (1, .int x1), (3, .int x3), (5, .int x5)] from rfl) ?_
      refine z_iconst (pc := 109) C dX7_indents_109 (v := (0 : Int32)) (by decide) ?_
      refine z_istore (pc := 110) C dX7_indents_110 (by decide) (show zput _ _ _ = [(8, .int (0 : Int32)), (7, .int v3), (6, .int v2), (0, .ref A.length), (1, .int x1), (3, .int x3), (5, .int x5)] from rfl) ?_
      exact z_subL [3, 4, 5, 6, 2, 1, 0] (wfX7_indents_b112 C E (fX7_indents_b87 A n) ih FU M B x1 x3 x5 v2 v3 (0 : Int32) h) rfl
def fX7_indents (A : zH) (M : MS) (B : zH) (x1 : Int32) (x2 : Int32) (x3 : Int32) : Option (Int32 × MS × zH) :=
    zlet (mI M 0 (0 : Int32)) fun M1 =>
    ob1 (fX7_in x3.toInt64 (1 : Int64) (8 : Int64)) fun v2 =>
    if v2 = 0 then (some ((-1 : Int32), M1, B)) else
    if x1 < 0 then (some ((-2 : Int32), M1, B)) else
    if x2 < x1 then (some ((-2 : Int32), M1, B)) else
    ob1 (fX7_lines M1 ) fun v6 =>
    if x2 < v6 then (zlet ((((x2 - x1) + (1 : Int32)) * x3)) fun y8 =>
    if ((M1.1 11) + y8) ≤ (3000 : Int32) then (if ((M1.1 9) + y8) ≤ (6000 : Int32) then (ob2 (fX7_edits A M1 B ) fun M11 B12 =>
    fX7_indents_b87 A FU M11 B12 x1 x3 x2) else
    some ((-4 : Int32), M1, B)) else
    some ((-3 : Int32), M1, B)) else
    some ((-2 : Int32), M1, B)
set_option maxRecDepth 100000 in
set_option maxHeartbeats 4000000 in
theorem wfX7_indents {X : zX} {A : zH} {out : Int32 × MS × zH} (C : zOK X cX7_indents yX7_indents.cls 9 (some .int) 4 88) (E : zPost X (poI out.1 (hG A out.2.1 out.2.2))) (M : MS) (B : zH) (x1 : Int32) (x2 : Int32) (x3 : Int32) (h : fX7_indents A M B x1 x2 x3 = some out) : zZ X 0 [(0, .ref A.length), (1, .int x1), (2, .int x2), (3, .int x3)] [] (hG A M B) := by
  rw [fX7_indents] at h
  refine z_aload_n (pc := 0) C 0 dX7_indents_0 rfl rfl ?_
  refine z_iconst (pc := 1) C dX7_indents_1 (v := (0 : Int32)) (by decide) ?_
  obtain ⟨M1, eM1, h⟩ := zlet_eq h
  refine z_put (pc := 2) C dX7_indents_2 fl_X7_1w (hM_o A M B) (fun _ => rfl) (fun _ => rfl) (Nat.le_of_ble_eq_true rfl) (hMi_0 A B eM1) ?_
  refine z_iload_n (pc := 5) C 3 dX7_indents_5 rfl rfl ?_
  refine z_i2l (pc := 6) C dX7_indents_6 ?_
  refine z_lconst (pc := 7) C dX7_indents_7 (v := (1 : Int64)) (by decide) ?_
  refine z_ldc2 (pc := 8) C dX7_indents_8 cn_X7_254 ?_
  obtain ⟨v2, ev2, h⟩ := ob1_eq h
  refine z_callSi (As := [.long x3.toInt64, .long (1 : Int64), .long (8 : Int64)]) (rest := []) (pc := 11) C dX7_indents_11 ml_X7_21 (kX7_in _ _ _ _ (hG A M1 B) x3.toInt64 (1 : Int64) (8 : Int64) v2 ev2) rfl rfl (Nat.le_of_ble_eq_true rfl) (by decide) ?_
  refine z_if_ne (pc := 14) C dX7_indents_14 (tgt := 19) (by decide) (fun c3 => ?_) (fun c3 => ?_)
  · rw [if_neg c3] at h
    refine z_iload_n (pc := 19) C 1 dX7_indents_19 rfl rfl ?_
    refine z_if_lt (pc := 20) C dX7_indents_20 (tgt := 36) (by decide) (fun c4 => ?_) (fun c4 => ?_)
    · rw [if_pos c4] at h
      refine z_bipush (pc := 36) C dX7_indents_36 (v := (-2 : Int32)) (by decide) ?_
      obtain rfl := Option.some.inj h
      exact z_iret (pc := 38) C E dX7_indents_38 ⟨rfl, rfl⟩
    · rw [if_neg c4] at h
      refine z_iload_n (pc := 23) C 2 dX7_indents_23 rfl rfl ?_
      refine z_iload_n (pc := 24) C 1 dX7_indents_24 rfl rfl ?_
      refine z_ic_lt (pc := 25) C dX7_indents_25 (tgt := 36) (by decide) (fun c5 => ?_) (fun c5 => ?_)
      · rw [if_pos c5] at h
        refine z_bipush (pc := 36) C dX7_indents_36 (v := (-2 : Int32)) (by decide) ?_
        obtain rfl := Option.some.inj h
        exact z_iret (pc := 38) C E dX7_indents_38 ⟨rfl, rfl⟩
      · rw [if_neg c5] at h
        refine z_iload_n (pc := 28) C 2 dX7_indents_28 rfl rfl ?_
        refine z_aload_n (pc := 29) C 0 dX7_indents_29 rfl rfl ?_
        obtain ⟨v6, ev6, h⟩ := ob1_eq h
        refine z_callVi (h := A.length) (As := []) (rest := [.int x2]) (pc := 30) C dX7_indents_30 ml_X7_245 (kX7_lines _ _ _ _ A M1 B  v6 ev6) (hM_o A M1 B) rfl rfl rfl (Nat.le_of_ble_eq_true rfl) (by decide) ?_
        refine z_ic_lt (pc := 33) C dX7_indents_33 (tgt := 39) (by decide) (fun c7 => ?_) (fun c7 => ?_)
        · rw [if_pos c7] at h
          refine z_iload_n (pc := 39) C 2 dX7_indents_39 rfl rfl ?_
          refine z_iload_n (pc := 40) C 1 dX7_indents_40 rfl rfl ?_
          refine z_isub (pc := 41) C dX7_indents_41 ?_
          refine z_iconst (pc := 42) C dX7_indents_42 (v := (1 : Int32)) (by decide) ?_
          refine z_iadd (pc := 43) C dX7_indents_43 ?_
          refine z_iload_n (pc := 44) C 3 dX7_indents_44 rfl rfl ?_
          refine z_imul (pc := 45) C dX7_indents_45 ?_
          obtain ⟨y8, ey8, h⟩ := zlet_eq h
          refine z_topi ey8 ?_
          refine z_istore (pc := 46) C dX7_indents_46 (by decide) (show zput _ _ _ = [(4, .int y8), (0, .ref A.length), (1, .int x1), (2, .int x2), (3, .int x3)] from rfl) ?_
          refine z_aload_n (pc := 48) C 1 dX7_indents_48 rfl rfl ?_
          refine z_get (pc := 49) C dX7_indents_49 fl_X7_123 (hM_o A M1 B) rfl ?_
          refine z_iload (pc := 52) C 0 dX7_indents_52 rfl ?_
          refine z_iadd (pc := 54) C dX7_indents_54 ?_
          refine z_sipush (pc := 55) C dX7_indents_55 (v := (3000 : Int32)) (by decide) ?_
          refine z_ic_le (pc := 58) C dX7_indents_58 (tgt := 64) (by decide) (fun c9 => ?_) (fun c9 => ?_)
          · rw [if_pos c9] at h
            refine z_aload_n (pc := 64) C 1 dX7_indents_64 rfl rfl ?_
            refine z_get (pc := 65) C dX7_indents_65 fl_X7_33 (hM_o A M1 B) rfl ?_
            refine z_iload (pc := 68) C 0 dX7_indents_68 rfl ?_
            refine z_iadd (pc := 70) C dX7_indents_70 ?_
            refine z_sipush (pc := 71) C dX7_indents_71 (v := (6000 : Int32)) (by decide) ?_
            refine z_ic_le (pc := 74) C dX7_indents_74 (tgt := 80) (by decide) (fun c10 => ?_) (fun c10 => ?_)
            · rw [if_pos c10] at h
              refine z_aload_n (pc := 80) C 1 dX7_indents_80 rfl rfl ?_
              obtain ⟨M11, B12, eM11, h⟩ := ob2_eq h
              refine z_callVv (h := A.length) (As := []) (rest := []) (pc := 81) C dX7_indents_81 ml_X7_205 (kX7_edits _ _ _ _ A M1 B  (M11, B12) eM11) (hM_o A M1 B) rfl rfl rfl (Nat.le_of_ble_eq_true rfl) (by decide) ?_
              refine z_iload_n (pc := 84) C 3 dX7_indents_84 rfl rfl ?_
              refine z_istore (pc := 85) C dX7_indents_85 (by decide) (show zput _ _ _ = [(5, .int x2), (4, .int y8), (0, .ref A.length), (1, .int x1), (2, .int x2), (3, .int x3)] from rfl) ?_
              exact z_subL [2, 3, 5, 0] (wfX7_indents_b87 C E FU M11 B12 x1 x3 x2 h) rfl
            · rw [if_neg c10] at h
              refine z_bipush (pc := 77) C dX7_indents_77 (v := (-4 : Int32)) (by decide) ?_
              obtain rfl := Option.some.inj h
              exact z_iret (pc := 79) C E dX7_indents_79 ⟨rfl, rfl⟩
          · rw [if_neg c9] at h
            refine z_bipush (pc := 61) C dX7_indents_61 (v := (-3 : Int32)) (by decide) ?_
            obtain rfl := Option.some.inj h
            exact z_iret (pc := 63) C E dX7_indents_63 ⟨rfl, rfl⟩
        · rw [if_neg c7] at h
          refine z_bipush (pc := 36) C dX7_indents_36 (v := (-2 : Int32)) (by decide) ?_
          obtain rfl := Option.some.inj h
          exact z_iret (pc := 38) C E dX7_indents_38 ⟨rfl, rfl⟩
  · rw [if_pos c3] at h
    refine z_iconst (pc := 17) C dX7_indents_17 (v := (-1 : Int32)) (by decide) ?_
    obtain rfl := Option.some.inj h
    exact z_iret (pc := 18) C E dX7_indents_18 ⟨rfl, rfl⟩
theorem kX7_indents (l : Launch) (D : va_G) (cA : Nat → ClassId) (b : Nat) (A : zH) (M : MS) (B : zH) (x1 : Int32) (x2 : Int32) (x3 : Int32) (out : Int32 × MS × zH) (h : fX7_indents A M B x1 x2 x3 = some out) : zM l D cA b yX7_indents cX7_indents 9 (some .int) 4 88 [.ref A.length, .int x1, .int x2, .int x3] (hG A M B) (poI out.1 (hG A out.2.1 out.2.2)) := z_entry rfl (Nat.le_of_ble_eq_true rfl) (fun X C E _ _ _ => wfX7_indents C E M B x1 x2 x3 h)
def fX7_undoes (A : zH) (M : MS) (B : zH) : Option (Int32 × MS × zH) :=
    if (M.1 17) = 0 then (some ((-1 : Int32), M, B)) else
    ob3 (fX7_bookCopy A M B ) fun qv4 M2 B3 =>
    ob1 (gget (hG A M2 B3) qv4) fun z6 =>
    ob1 (wr 30 (M.1 20) (mQ M2 18 (va_up (M2.2.2.2 18) (M.1 20).toNatClampNeg (some qv4)))) fun M5 =>
    ob3 (fX7_marksCopy A M5 B3 ) fun qv9 M7 B8 =>
    ob1 (gget (hG A M7 B8) qv9) fun z11 =>
    ob1 (wr 30 (M5.1 20) (mQ M7 19 (va_up (M7.2.2.2 19) (M5.1 20).toNatClampNeg (some qv9)))) fun M10 =>
    zlet (mI M10 20 ((M10.1 20) + (1 : Int32))) fun M12 =>
    zlet (mI M12 17 ((M12.1 17) - (1 : Int32))) fun M13 =>
    ob1 (rd 30 (M13.2.2.2 15) (M13.1 17)) fun oq14 =>
    ob1 oq14 fun qr15 =>
    ob1 (rd 30 (M13.2.2.2 16) (M13.1 17)) fun oq16 =>
    ob1 oq16 fun qr17 =>
    ob2 (fX7_becomes A M13 B8 qr15 qr17) fun M18 B19 =>
    zlet (mI M18 21 (-5 : Int32)) fun M20 =>
    some ((M20.1 17), M20, B19)
set_option maxRecDepth 100000 in
set_option maxHeartbeats 4000000 in
theorem wfX7_undoes {X : zX} {A : zH} {out : Int32 × MS × zH} (C : zOK X cX7_undoes yX7_undoes.cls 1 (some .int) 1 23) (E : zPost X (poI out.1 (hG A out.2.1 out.2.2))) (M : MS) (B : zH) (h : fX7_undoes A M B = some out) : zZ X 0 [(0, .ref A.length)] [] (hG A M B) := by
  rw [fX7_undoes] at h
  refine z_aload_n (pc := 0) C 0 dX7_undoes_0 rfl rfl ?_
  refine z_get (pc := 1) C dX7_undoes_1 fl_X7_166 (hM_o A M B) rfl ?_
  refine z_if_ne (pc := 4) C dX7_undoes_4 (tgt := 9) (by decide) (fun c1 => ?_) (fun c1 => ?_)
  · rw [if_neg c1] at h
    refine z_aload_n (pc := 9) C 0 dX7_undoes_9 rfl rfl ?_
    refine z_get (pc := 10) C dX7_undoes_10 fl_X7_68 (hM_o A M B) rfl ?_
    refine z_aload_n (pc := 13) C 0 dX7_undoes_13 rfl rfl ?_
    refine z_get (pc := 14) C dX7_undoes_14 fl_X7_179 (hM_o A M B) rfl ?_
    refine z_aload_n (pc := 17) C 0 dX7_undoes_17 rfl rfl ?_
    obtain ⟨qv4, M2, B3, eqv4, h⟩ := ob3_eq h
    refine z_callVr (h := A.length) (As := []) (rest := [.int (M.1 20), .ref (A.length + 11)]) (pc := 18) C dX7_undoes_18 ml_X7_169 (kX7_bookCopy _ _ _ _ A M B  (qv4, M2, B3) eqv4) (hM_o A M B) rfl rfl rfl (Nat.le_of_ble_eq_true rfl) (by decide) ?_
    obtain ⟨z6, ez6, h⟩ := ob1_eq h
    obtain ⟨M5, eM5, h⟩ := ob1_eq h
    refine z_aast5 (pc := 21) C dX7_undoes_21 (hMa_18 A M2 B3) (gget_eq ez6) (wr_eq eM5).1 (hMs_18 A B3 (wr_eq eM5).2) ?_
    refine z_aload_n (pc := 22) C 0 dX7_undoes_22 rfl rfl ?_
    refine z_get (pc := 23) C dX7_undoes_23 fl_X7_71 (hM_o A M5 B3) rfl ?_
    refine z_aload_n (pc := 26) C 0 dX7_undoes_26 rfl rfl ?_
    refine z_get (pc := 27) C dX7_undoes_27 fl_X7_179 (hM_o A M5 B3) rfl ?_
    refine z_aload_n (pc := 30) C 0 dX7_undoes_30 rfl rfl ?_
    obtain ⟨qv9, M7, B8, eqv9, h⟩ := ob3_eq h
    refine z_callVr (h := A.length) (As := []) (rest := [.int (M5.1 20), .ref (A.length + 12)]) (pc := 31) C dX7_undoes_31 ml_X7_173 (kX7_marksCopy _ _ _ _ A M5 B3  (qv9, M7, B8) eqv9) (hM_o A M5 B3) rfl rfl rfl (Nat.le_of_ble_eq_true rfl) (by decide) ?_
    obtain ⟨z11, ez11, h⟩ := ob1_eq h
    obtain ⟨M10, eM10, h⟩ := ob1_eq h
    refine z_aast5 (pc := 34) C dX7_undoes_34 (hMa_19 A M7 B8) (gget_eq ez11) (wr_eq eM10).1 (hMs_19 A B8 (wr_eq eM10).2) ?_
    refine z_aload_n (pc := 35) C 0 dX7_undoes_35 rfl rfl ?_
    refine z_dup (pc := 36) C dX7_undoes_36 rfl ?_
    refine z_get (pc := 37) C dX7_undoes_37 fl_X7_179 (hM_o A M10 B8) rfl ?_
    refine z_iconst (pc := 40) C dX7_undoes_40 (v := (1 : Int32)) (by decide) ?_
    refine z_iadd (pc := 41) C dX7_undoes_41 ?_
    obtain ⟨M12, eM12, h⟩ := zlet_eq h
    refine z_put (pc := 42) C dX7_undoes_42 fl_X7_179w (hM_o A M10 B8) (fun _ => rfl) (fun _ => rfl) (Nat.le_of_ble_eq_true rfl) (hMi_20 A B8 eM12) ?_
    refine z_aload_n (pc := 45) C 0 dX7_undoes_45 rfl rfl ?_
    refine z_dup (pc := 46) C dX7_undoes_46 rfl ?_
    refine z_get (pc := 47) C dX7_undoes_47 fl_X7_166 (hM_o A M12 B8) rfl ?_
    refine z_iconst (pc := 50) C dX7_undoes_50 (v := (1 : Int32)) (by decide) ?_
    refine z_isub (pc := 51) C dX7_undoes_51 ?_
    obtain ⟨M13, eM13, h⟩ := zlet_eq h
    refine z_put (pc := 52) C dX7_undoes_52 fl_X7_166w (hM_o A M12 B8) (fun _ => rfl) (fun _ => rfl) (Nat.le_of_ble_eq_true rfl) (hMi_17 A B8 eM13) ?_
    refine z_aload_n (pc := 55) C 0 dX7_undoes_55 rfl rfl ?_
    refine z_aload_n (pc := 56) C 0 dX7_undoes_56 rfl rfl ?_
    refine z_get (pc := 57) C dX7_undoes_57 fl_X7_61 (hM_o A M13 B8) rfl ?_
    refine z_aload_n (pc := 60) C 0 dX7_undoes_60 rfl rfl ?_
    refine z_get (pc := 61) C dX7_undoes_61 fl_X7_166 (hM_o A M13 B8) rfl ?_
    obtain ⟨oq14, eoq14, h⟩ := ob1_eq h
    obtain ⟨qr15, eqr15, h⟩ := ob1_eq h
    refine z_ald5 (pc := 64) C dX7_undoes_64 (hMa_15 A M13 B8) eoq14 eqr15 ?_
    refine z_aload_n (pc := 65) C 0 dX7_undoes_65 rfl rfl ?_
    refine z_get (pc := 66) C dX7_undoes_66 fl_X7_65 (hM_o A M13 B8) rfl ?_
    refine z_aload_n (pc := 69) C 0 dX7_undoes_69 rfl rfl ?_
    refine z_get (pc := 70) C dX7_undoes_70 fl_X7_166 (hM_o A M13 B8) rfl ?_
    obtain ⟨oq16, eoq16, h⟩ := ob1_eq h
    obtain ⟨qr17, eqr17, h⟩ := ob1_eq h
    refine z_ald5 (pc := 73) C dX7_undoes_73 (hMa_16 A M13 B8) eoq16 eqr17 ?_
    obtain ⟨M18, B19, eM18, h⟩ := ob2_eq h
    refine z_callVv (h := A.length) (As := [.ref qr15, .ref qr17]) (rest := []) (pc := 74) C dX7_undoes_74 ml_X7_258 (kX7_becomes _ _ _ _ A M13 B8 qr15 qr17 (M18, B19) eM18) (hM_o A M13 B8) rfl rfl rfl (Nat.le_of_ble_eq_true rfl) (by decide) ?_
    refine z_aload_n (pc := 77) C 0 dX7_undoes_77 rfl rfl ?_
    refine z_bipush (pc := 78) C dX7_undoes_78 (v := (-5 : Int32)) (by decide) ?_
    obtain ⟨M20, eM20, h⟩ := zlet_eq h
    refine z_put (pc := 80) C dX7_undoes_80 fl_X7_74w (hM_o A M18 B19) (fun _ => rfl) (fun _ => rfl) (Nat.le_of_ble_eq_true rfl) (hMi_21 A B19 eM20) ?_
    refine z_aload_n (pc := 83) C 0 dX7_undoes_83 rfl rfl ?_
    refine z_get (pc := 84) C dX7_undoes_84 fl_X7_166 (hM_o A M20 B19) rfl ?_
    obtain rfl := Option.some.inj h
    exact z_iret (pc := 87) C E dX7_undoes_87 ⟨rfl, rfl⟩
  · rw [if_pos c1] at h
    refine z_iconst (pc := 7) C dX7_undoes_7 (v := (-1 : Int32)) (by decide) ?_
    obtain rfl := Option.some.inj h
    exact z_iret (pc := 8) C E dX7_undoes_8 ⟨rfl, rfl⟩
theorem kX7_undoes (l : Launch) (D : va_G) (cA : Nat → ClassId) (b : Nat) (A : zH) (M : MS) (B : zH)  (out : Int32 × MS × zH) (h : fX7_undoes A M B  = some out) : zM l D cA b yX7_undoes cX7_undoes 1 (some .int) 1 23 [.ref A.length] (hG A M B) (poI out.1 (hG A out.2.1 out.2.2)) := z_entry rfl (Nat.le_of_ble_eq_true rfl) (fun X C E _ _ _ => wfX7_undoes C E M B  h)
def fX7_redoes (A : zH) (M : MS) (B : zH) : Option (Int32 × MS × zH) :=
    if (M.1 20) = 0 then (some ((-1 : Int32), M, B)) else
    ob2 (fX7_keepsPast A M B ) fun M2 B3 =>
    zlet (mI M2 20 ((M2.1 20) - (1 : Int32))) fun M4 =>
    ob1 (rd 30 (M4.2.2.2 18) (M4.1 20)) fun oq5 =>
    ob1 oq5 fun qr6 =>
    ob1 (rd 30 (M4.2.2.2 19) (M4.1 20)) fun oq7 =>
    ob1 oq7 fun qr8 =>
    ob2 (fX7_becomes A M4 B3 qr6 qr8) fun M9 B10 =>
    zlet (mI M9 21 (-5 : Int32)) fun M11 =>
    some ((M11.1 20), M11, B10)
set_option maxRecDepth 100000 in
set_option maxHeartbeats 4000000 in
theorem wfX7_redoes {X : zX} {A : zH} {out : Int32 × MS × zH} (C : zOK X cX7_redoes yX7_redoes.cls 1 (some .int) 2 43) (E : zPost X (poI out.1 (hG A out.2.1 out.2.2))) (M : MS) (B : zH) (h : fX7_redoes A M B = some out) : zZ X 0 [(0, .ref A.length)] [] (hG A M B) := by
  rw [fX7_redoes] at h
  refine z_aload_n (pc := 0) C 0 dX7_redoes_0 rfl rfl ?_
  refine z_get (pc := 1) C dX7_redoes_1 fl_X7_179 (hM_o A M B) rfl ?_
  refine z_if_ne (pc := 4) C dX7_redoes_4 (tgt := 9) (by decide) (fun c1 => ?_) (fun c1 => ?_)
  · rw [if_neg c1] at h
    refine z_aload_n (pc := 9) C 0 dX7_redoes_9 rfl rfl ?_
    obtain ⟨M2, B3, eM2, h⟩ := ob2_eq h
    refine z_callVv (h := A.length) (As := []) (rest := []) (pc := 10) C dX7_redoes_10 ml_X7_176 (kX7_keepsPast _ _ _ _ A M B  (M2, B3) eM2) (hM_o A M B) rfl rfl rfl (Nat.le_of_ble_eq_true rfl) (by decide) ?_
    refine z_aload_n (pc := 13) C 0 dX7_redoes_13 rfl rfl ?_
    refine z_dup (pc := 14) C dX7_redoes_14 rfl ?_
    refine z_get (pc := 15) C dX7_redoes_15 fl_X7_179 (hM_o A M2 B3) rfl ?_
    refine z_iconst (pc := 18) C dX7_redoes_18 (v := (1 : Int32)) (by decide) ?_
    refine z_isub (pc := 19) C dX7_redoes_19 ?_
    obtain ⟨M4, eM4, h⟩ := zlet_eq h
    refine z_put (pc := 20) C dX7_redoes_20 fl_X7_179w (hM_o A M2 B3) (fun _ => rfl) (fun _ => rfl) (Nat.le_of_ble_eq_true rfl) (hMi_20 A B3 eM4) ?_
    refine z_aload_n (pc := 23) C 0 dX7_redoes_23 rfl rfl ?_
    refine z_aload_n (pc := 24) C 0 dX7_redoes_24 rfl rfl ?_
    refine z_get (pc := 25) C dX7_redoes_25 fl_X7_68 (hM_o A M4 B3) rfl ?_
    refine z_aload_n (pc := 28) C 0 dX7_redoes_28 rfl rfl ?_
    refine z_get (pc := 29) C dX7_redoes_29 fl_X7_179 (hM_o A M4 B3) rfl ?_
    obtain ⟨oq5, eoq5, h⟩ := ob1_eq h
    obtain ⟨qr6, eqr6, h⟩ := ob1_eq h
    refine z_ald5 (pc := 32) C dX7_redoes_32 (hMa_18 A M4 B3) eoq5 eqr6 ?_
    refine z_aload_n (pc := 33) C 0 dX7_redoes_33 rfl rfl ?_
    refine z_get (pc := 34) C dX7_redoes_34 fl_X7_71 (hM_o A M4 B3) rfl ?_
    refine z_aload_n (pc := 37) C 0 dX7_redoes_37 rfl rfl ?_
    refine z_get (pc := 38) C dX7_redoes_38 fl_X7_179 (hM_o A M4 B3) rfl ?_
    obtain ⟨oq7, eoq7, h⟩ := ob1_eq h
    obtain ⟨qr8, eqr8, h⟩ := ob1_eq h
    refine z_ald5 (pc := 41) C dX7_redoes_41 (hMa_19 A M4 B3) eoq7 eqr8 ?_
    obtain ⟨M9, B10, eM9, h⟩ := ob2_eq h
    refine z_callVv (h := A.length) (As := [.ref qr6, .ref qr8]) (rest := []) (pc := 42) C dX7_redoes_42 ml_X7_258 (kX7_becomes _ _ _ _ A M4 B3 qr6 qr8 (M9, B10) eM9) (hM_o A M4 B3) rfl rfl rfl (Nat.le_of_ble_eq_true rfl) (by decide) ?_
    refine z_aload_n (pc := 45) C 0 dX7_redoes_45 rfl rfl ?_
    refine z_bipush (pc := 46) C dX7_redoes_46 (v := (-5 : Int32)) (by decide) ?_
    obtain ⟨M11, eM11, h⟩ := zlet_eq h
    refine z_put (pc := 48) C dX7_redoes_48 fl_X7_74w (hM_o A M9 B10) (fun _ => rfl) (fun _ => rfl) (Nat.le_of_ble_eq_true rfl) (hMi_21 A B10 eM11) ?_
    refine z_aload_n (pc := 51) C 0 dX7_redoes_51 rfl rfl ?_
    refine z_get (pc := 52) C dX7_redoes_52 fl_X7_179 (hM_o A M11 B10) rfl ?_
    obtain rfl := Option.some.inj h
    exact z_iret (pc := 55) C E dX7_redoes_55 ⟨rfl, rfl⟩
  · rw [if_pos c1] at h
    refine z_iconst (pc := 7) C dX7_redoes_7 (v := (-1 : Int32)) (by decide) ?_
    obtain rfl := Option.some.inj h
    exact z_iret (pc := 8) C E dX7_redoes_8 ⟨rfl, rfl⟩
theorem kX7_redoes (l : Launch) (D : va_G) (cA : Nat → ClassId) (b : Nat) (A : zH) (M : MS) (B : zH)  (out : Int32 × MS × zH) (h : fX7_redoes A M B  = some out) : zM l D cA b yX7_redoes cX7_redoes 1 (some .int) 2 43 [.ref A.length] (hG A M B) (poI out.1 (hG A out.2.1 out.2.2)) := z_entry rfl (Nat.le_of_ble_eq_true rfl) (fun X C E _ _ _ => wfX7_redoes C E M B  h)
def fX7_undo (A : zH) (M : MS) (B : zH) : Option (Int32 × MS × zH) :=
    zlet (mI M 0 (0 : Int32)) fun M1 =>
    ob3 (fX7_undoes A M1 B ) fun v4 M2 B3 =>
    some (v4, M2, B3)
set_option maxRecDepth 100000 in
set_option maxHeartbeats 4000000 in
theorem wfX7_undo {X : zX} {A : zH} {out : Int32 × MS × zH} (C : zOK X cX7_undo yX7_undo.cls 1 (some .int) 2 43) (E : zPost X (poI out.1 (hG A out.2.1 out.2.2))) (M : MS) (B : zH) (h : fX7_undo A M B = some out) : zZ X 0 [(0, .ref A.length)] [] (hG A M B) := by
  rw [fX7_undo] at h
  refine z_aload_n (pc := 0) C 0 dX7_undo_0 rfl rfl ?_
  refine z_iconst (pc := 1) C dX7_undo_1 (v := (0 : Int32)) (by decide) ?_
  obtain ⟨M1, eM1, h⟩ := zlet_eq h
  refine z_put (pc := 2) C dX7_undo_2 fl_X7_1w (hM_o A M B) (fun _ => rfl) (fun _ => rfl) (Nat.le_of_ble_eq_true rfl) (hMi_0 A B eM1) ?_
  refine z_aload_n (pc := 5) C 0 dX7_undo_5 rfl rfl ?_
  obtain ⟨v4, M2, B3, ev4, h⟩ := ob3_eq h
  refine z_callVi (h := A.length) (As := []) (rest := []) (pc := 6) C dX7_undo_6 ml_X7_262 (kX7_undoes _ _ _ _ A M1 B  (v4, M2, B3) ev4) (hM_o A M1 B) rfl rfl rfl (Nat.le_of_ble_eq_true rfl) (by decide) ?_
  obtain rfl := Option.some.inj h
  exact z_iret (pc := 9) C E dX7_undo_9 ⟨rfl, rfl⟩
theorem kX7_undo (l : Launch) (D : va_G) (cA : Nat → ClassId) (b : Nat) (A : zH) (M : MS) (B : zH)  (out : Int32 × MS × zH) (h : fX7_undo A M B  = some out) : zM l D cA b yX7_undo cX7_undo 1 (some .int) 2 43 [.ref A.length] (hG A M B) (poI out.1 (hG A out.2.1 out.2.2)) := z_entry rfl (Nat.le_of_ble_eq_true rfl) (fun X C E _ _ _ => wfX7_undo C E M B  h)
def fX7_redo (A : zH) (M : MS) (B : zH) : Option (Int32 × MS × zH) :=
    zlet (mI M 0 (0 : Int32)) fun M1 =>
    ob3 (fX7_redoes A M1 B ) fun v4 M2 B3 =>
    some (v4, M2, B3)
set_option maxRecDepth 100000 in
set_option maxHeartbeats 4000000 in
theorem wfX7_redo {X : zX} {A : zH} {out : Int32 × MS × zH} (C : zOK X cX7_redo yX7_redo.cls 1 (some .int) 3 63) (E : zPost X (poI out.1 (hG A out.2.1 out.2.2))) (M : MS) (B : zH) (h : fX7_redo A M B = some out) : zZ X 0 [(0, .ref A.length)] [] (hG A M B) := by
  rw [fX7_redo] at h
  refine z_aload_n (pc := 0) C 0 dX7_redo_0 rfl rfl ?_
  refine z_iconst (pc := 1) C dX7_redo_1 (v := (0 : Int32)) (by decide) ?_
  obtain ⟨M1, eM1, h⟩ := zlet_eq h
  refine z_put (pc := 2) C dX7_redo_2 fl_X7_1w (hM_o A M B) (fun _ => rfl) (fun _ => rfl) (Nat.le_of_ble_eq_true rfl) (hMi_0 A B eM1) ?_
  refine z_aload_n (pc := 5) C 0 dX7_redo_5 rfl rfl ?_
  obtain ⟨v4, M2, B3, ev4, h⟩ := ob3_eq h
  refine z_callVi (h := A.length) (As := []) (rest := []) (pc := 6) C dX7_redo_6 ml_X7_265 (kX7_redoes _ _ _ _ A M1 B  (v4, M2, B3) ev4) (hM_o A M1 B) rfl rfl rfl (Nat.le_of_ble_eq_true rfl) (by decide) ?_
  obtain rfl := Option.some.inj h
  exact z_iret (pc := 9) C E dX7_redo_9 ⟨rfl, rfl⟩
theorem kX7_redo (l : Launch) (D : va_G) (cA : Nat → ClassId) (b : Nat) (A : zH) (M : MS) (B : zH)  (out : Int32 × MS × zH) (h : fX7_redo A M B  = some out) : zM l D cA b yX7_redo cX7_redo 1 (some .int) 3 63 [.ref A.length] (hG A M B) (poI out.1 (hG A out.2.1 out.2.2)) := z_entry rfl (Nat.le_of_ble_eq_true rfl) (fun X C E _ _ _ => wfX7_redo C E M B  h)
def fX7_does (A : zH) (M : MS) (B : zH) (x1 : Int32) : Option (Int32 × MS × zH) :=
    ob1 (rd 80 (M.2.1 25) x1) fun v1 =>
    if v1 = (100 : Int32) then (ob1 (rd 80 (M.2.1 26) x1) fun v3 =>
    ob1 (rd 80 (M.2.1 27) x1) fun v4 =>
    ob3 (fX7_takesOne A M B v3 v4) fun v7 M5 B6 =>
    some (v7, M5, B6)) else
    if v1 = (101 : Int32) then (ob3 (fX7_redoes A M B ) fun v11 M9 B10 =>
    some (v11, M9, B10)) else
    if v1 = (102 : Int32) then (ob3 (fX7_redoes A M B ) fun v15 M13 B14 =>
    some (v15, M13, B14)) else
    if v1 = (103 : Int32) then (ob3 (fX7_redoes A M B ) fun v19 M17 B18 =>
    some (v19, M17, B18)) else
    if v1 = (104 : Int32) then (ob3 (fX7_healsAll A M B ) fun v23 M21 B22 =>
    some (v23, M21, B22)) else
    if v1 = (105 : Int32) then (ob1 (rd 80 (M.2.1 26) x1) fun v25 =>
    ob1 (rd 80 (M.2.1 27) x1) fun v26 =>
    ob3 (fX7_typesOne A M B v25 v26) fun v29 M27 B28 =>
    some (v29, M27, B28)) else
    if v1 = (106 : Int32) then (ob3 (fX7_redoes A M B ) fun v33 M31 B32 =>
    some (v33, M31, B32)) else
    if v1 = (107 : Int32) then (ob3 (fX7_redoes A M B ) fun v37 M35 B36 =>
    some (v37, M35, B36)) else
    if v1 = (108 : Int32) then (ob1 (rd 80 (M.2.1 26) x1) fun v39 =>
    ob1 (rd 80 (M.2.1 27) x1) fun v40 =>
    ob1 (rd 80 (M.2.1 28) x1) fun v41 =>
    ob3 (fX7_laysOne A M B v39 v40 v41) fun v44 M42 B43 =>
    some (v44, M42, B43)) else
    if v1 = (109 : Int32) then (ob1 (rd 80 (M.2.1 26) x1) fun v46 =>
    ob1 (rd 80 (M.2.1 27) x1) fun v47 =>
    ob1 (rd 80 (M.2.1 28) x1) fun v48 =>
    ob3 (fX7_movesOne A M B v46 v47 v48) fun v51 M49 B50 =>
    some (v51, M49, B50)) else
    if v1 = (110 : Int32) then (ob3 (fX7_redoes A M B ) fun v55 M53 B54 =>
    some (v55, M53, B54)) else
    if v1 = (111 : Int32) then (ob3 (fX7_redoes A M B ) fun v59 M57 B58 =>
    some (v59, M57, B58)) else
    if v1 = (112 : Int32) then (ob3 (fX7_redoes A M B ) fun v63 M61 B62 =>
    some (v63, M61, B62)) else
    if v1 = (113 : Int32) then (ob3 (fX7_redoes A M B ) fun v67 M65 B66 =>
    some (v67, M65, B66)) else
    if v1 = (114 : Int32) then (ob3 (fX7_redoes A M B ) fun v71 M69 B70 =>
    some (v71, M69, B70)) else
    if v1 = (115 : Int32) then (ob3 (fX7_redoes A M B ) fun v75 M73 B74 =>
    some (v75, M73, B74)) else
    if v1 = (116 : Int32) then (ob3 (fX7_redoes A M B ) fun v79 M77 B78 =>
    some (v79, M77, B78)) else
    if v1 = (117 : Int32) then (ob3 (fX7_undoes A M B ) fun v83 M81 B82 =>
    some (v83, M81, B82)) else
    if v1.toInt < 100 ∨ 117 < v1.toInt then (ob3 (fX7_redoes A M B ) fun v87 M85 B86 =>
    some (v87, M85, B86)) else none
set_option maxRecDepth 100000 in
set_option maxHeartbeats 4000000 in
theorem wfX7_does {X : zX} {A : zH} {out : Int32 × MS × zH} (C : zOK X cX7_does yX7_does.cls 2 (some .int) 6 135) (E : zPost X (poI out.1 (hG A out.2.1 out.2.2))) (M : MS) (B : zH) (x1 : Int32) (h : fX7_does A M B x1 = some out) : zZ X 0 [(0, .ref A.length), (1, .int x1)] [] (hG A M B) := by
  rw [fX7_does] at h
  refine z_aload_n (pc := 0) C 0 dX7_does_0 rfl rfl ?_
  refine z_get (pc := 1) C dX7_does_1 fl_X7_86 (hM_o A M B) rfl ?_
  refine z_iload_n (pc := 4) C 1 dX7_does_4 rfl rfl ?_
  obtain ⟨v1, ev1, h⟩ := ob1_eq h
  refine z_iald (pc := 5) C dX7_does_5 (hMa_25 A M B) (rd_eq ev1).1 (z_topi (rd_eq ev1).2 ?_)
  by_cases c2 : v1 = (100 : Int32)
  · rw [if_pos c2] at h
    refine z_tableIn (pc := 6) (tgt := 109) (off := 103) C dX7_does_6 (by rw [c2]; decide) (by rw [c2]; decide) (by rw [c2]; decide) (by decide) ?_
    refine z_aload_n (pc := 109) C 0 dX7_does_109 rfl rfl ?_
    refine z_aload_n (pc := 110) C 0 dX7_does_110 rfl rfl ?_
    refine z_get (pc := 111) C dX7_does_111 fl_X7_89 (hM_o A M B) rfl ?_
    refine z_iload_n (pc := 114) C 1 dX7_does_114 rfl rfl ?_
    obtain ⟨v3, ev3, h⟩ := ob1_eq h
    refine z_iald (pc := 115) C dX7_does_115 (hMa_26 A M B) (rd_eq ev3).1 (z_topi (rd_eq ev3).2 ?_)
    refine z_aload_n (pc := 116) C 0 dX7_does_116 rfl rfl ?_
    refine z_get (pc := 117) C dX7_does_117 fl_X7_92 (hM_o A M B) rfl ?_
    refine z_iload_n (pc := 120) C 1 dX7_does_120 rfl rfl ?_
    obtain ⟨v4, ev4, h⟩ := ob1_eq h
    refine z_iald (pc := 121) C dX7_does_121 (hMa_27 A M B) (rd_eq ev4).1 (z_topi (rd_eq ev4).2 ?_)
    obtain ⟨v7, M5, B6, ev7, h⟩ := ob3_eq h
    refine z_callVi (h := A.length) (As := [.int v3, .int v4]) (rest := []) (pc := 122) C dX7_does_122 ml_X7_220 (kX7_takesOne _ _ _ _ A M B v3 v4 (v7, M5, B6) ev7) (hM_o A M B) rfl rfl rfl (Nat.le_of_ble_eq_true rfl) (by decide) ?_
    obtain rfl := Option.some.inj h
    exact z_iret (pc := 125) C E dX7_does_125 ⟨rfl, rfl⟩
  rw [if_neg c2] at h
  by_cases c8 : v1 = (101 : Int32)
  · rw [if_pos c8] at h
    refine z_tableIn (pc := 6) (tgt := 182) (off := 176) C dX7_does_6 (by rw [c8]; decide) (by rw [c8]; decide) (by rw [c8]; decide) (by decide) ?_
    refine z_aload_n (pc := 182) C 0 dX7_does_182 rfl rfl ?_
    obtain ⟨v11, M9, B10, ev11, h⟩ := ob3_eq h
    refine z_callVi (h := A.length) (As := []) (rest := []) (pc := 183) C dX7_does_183 ml_X7_265 (kX7_redoes _ _ _ _ A M B  (v11, M9, B10) ev11) (hM_o A M B) rfl rfl rfl (Nat.le_of_ble_eq_true rfl) (by decide) ?_
    obtain rfl := Option.some.inj h
    exact z_iret (pc := 186) C E dX7_does_186 ⟨rfl, rfl⟩
  rw [if_neg c8] at h
  by_cases c12 : v1 = (102 : Int32)
  · rw [if_pos c12] at h
    refine z_tableIn (pc := 6) (tgt := 182) (off := 176) C dX7_does_6 (by rw [c12]; decide) (by rw [c12]; decide) (by rw [c12]; decide) (by decide) ?_
    refine z_aload_n (pc := 182) C 0 dX7_does_182 rfl rfl ?_
    obtain ⟨v15, M13, B14, ev15, h⟩ := ob3_eq h
    refine z_callVi (h := A.length) (As := []) (rest := []) (pc := 183) C dX7_does_183 ml_X7_265 (kX7_redoes _ _ _ _ A M B  (v15, M13, B14) ev15) (hM_o A M B) rfl rfl rfl (Nat.le_of_ble_eq_true rfl) (by decide) ?_
    obtain rfl := Option.some.inj h
    exact z_iret (pc := 186) C E dX7_does_186 ⟨rfl, rfl⟩
  rw [if_neg c12] at h
  by_cases c16 : v1 = (103 : Int32)
  · rw [if_pos c16] at h
    refine z_tableIn (pc := 6) (tgt := 182) (off := 176) C dX7_does_6 (by rw [c16]; decide) (by rw [c16]; decide) (by rw [c16]; decide) (by decide) ?_
    refine z_aload_n (pc := 182) C 0 dX7_does_182 rfl rfl ?_
    obtain ⟨v19, M17, B18, ev19, h⟩ := ob3_eq h
    refine z_callVi (h := A.length) (As := []) (rest := []) (pc := 183) C dX7_does_183 ml_X7_265 (kX7_redoes _ _ _ _ A M B  (v19, M17, B18) ev19) (hM_o A M B) rfl rfl rfl (Nat.le_of_ble_eq_true rfl) (by decide) ?_
    obtain rfl := Option.some.inj h
    exact z_iret (pc := 186) C E dX7_does_186 ⟨rfl, rfl⟩
  rw [if_neg c16] at h
  by_cases c20 : v1 = (104 : Int32)
  · rw [if_pos c20] at h
    refine z_tableIn (pc := 6) (tgt := 172) (off := 166) C dX7_does_6 (by rw [c20]; decide) (by rw [c20]; decide) (by rw [c20]; decide) (by decide) ?_
    refine z_aload_n (pc := 172) C 0 dX7_does_172 rfl rfl ?_
    obtain ⟨v23, M21, B22, ev23, h⟩ := ob3_eq h
    refine z_callVi (h := A.length) (As := []) (rest := []) (pc := 173) C dX7_does_173 ml_X7_242 (kX7_healsAll _ _ _ _ A M B  (v23, M21, B22) ev23) (hM_o A M B) rfl rfl rfl (Nat.le_of_ble_eq_true rfl) (by decide) ?_
    obtain rfl := Option.some.inj h
    exact z_iret (pc := 176) C E dX7_does_176 ⟨rfl, rfl⟩
  rw [if_neg c20] at h
  by_cases c24 : v1 = (105 : Int32)
  · rw [if_pos c24] at h
    refine z_tableIn (pc := 6) (tgt := 92) (off := 86) C dX7_does_6 (by rw [c24]; decide) (by rw [c24]; decide) (by rw [c24]; decide) (by decide) ?_
    refine z_aload_n (pc := 92) C 0 dX7_does_92 rfl rfl ?_
    refine z_aload_n (pc := 93) C 0 dX7_does_93 rfl rfl ?_
    refine z_get (pc := 94) C dX7_does_94 fl_X7_89 (hM_o A M B) rfl ?_
    refine z_iload_n (pc := 97) C 1 dX7_does_97 rfl rfl ?_
    obtain ⟨v25, ev25, h⟩ := ob1_eq h
    refine z_iald (pc := 98) C dX7_does_98 (hMa_26 A M B) (rd_eq ev25).1 (z_topi (rd_eq ev25).2 ?_)
    refine z_aload_n (pc := 99) C 0 dX7_does_99 rfl rfl ?_
    refine z_get (pc := 100) C dX7_does_100 fl_X7_92 (hM_o A M B) rfl ?_
    refine z_iload_n (pc := 103) C 1 dX7_does_103 rfl rfl ?_
    obtain ⟨v26, ev26, h⟩ := ob1_eq h
    refine z_iald (pc := 104) C dX7_does_104 (hMa_27 A M B) (rd_eq ev26).1 (z_topi (rd_eq ev26).2 ?_)
    obtain ⟨v29, M27, B28, ev29, h⟩ := ob3_eq h
    refine z_callVi (h := A.length) (As := [.int v25, .int v26]) (rest := []) (pc := 105) C dX7_does_105 ml_X7_211 (kX7_typesOne _ _ _ _ A M B v25 v26 (v29, M27, B28) ev29) (hM_o A M B) rfl rfl rfl (Nat.le_of_ble_eq_true rfl) (by decide) ?_
    obtain rfl := Option.some.inj h
    exact z_iret (pc := 108) C E dX7_does_108 ⟨rfl, rfl⟩
  rw [if_neg c24] at h
  by_cases c30 : v1 = (106 : Int32)
  · rw [if_pos c30] at h
    refine z_tableIn (pc := 6) (tgt := 182) (off := 176) C dX7_does_6 (by rw [c30]; decide) (by rw [c30]; decide) (by rw [c30]; decide) (by decide) ?_
    refine z_aload_n (pc := 182) C 0 dX7_does_182 rfl rfl ?_
    obtain ⟨v33, M31, B32, ev33, h⟩ := ob3_eq h
    refine z_callVi (h := A.length) (As := []) (rest := []) (pc := 183) C dX7_does_183 ml_X7_265 (kX7_redoes _ _ _ _ A M B  (v33, M31, B32) ev33) (hM_o A M B) rfl rfl rfl (Nat.le_of_ble_eq_true rfl) (by decide) ?_
    obtain rfl := Option.some.inj h
    exact z_iret (pc := 186) C E dX7_does_186 ⟨rfl, rfl⟩
  rw [if_neg c30] at h
  by_cases c34 : v1 = (107 : Int32)
  · rw [if_pos c34] at h
    refine z_tableIn (pc := 6) (tgt := 182) (off := 176) C dX7_does_6 (by rw [c34]; decide) (by rw [c34]; decide) (by rw [c34]; decide) (by decide) ?_
    refine z_aload_n (pc := 182) C 0 dX7_does_182 rfl rfl ?_
    obtain ⟨v37, M35, B36, ev37, h⟩ := ob3_eq h
    refine z_callVi (h := A.length) (As := []) (rest := []) (pc := 183) C dX7_does_183 ml_X7_265 (kX7_redoes _ _ _ _ A M B  (v37, M35, B36) ev37) (hM_o A M B) rfl rfl rfl (Nat.le_of_ble_eq_true rfl) (by decide) ?_
    obtain rfl := Option.some.inj h
    exact z_iret (pc := 186) C E dX7_does_186 ⟨rfl, rfl⟩
  rw [if_neg c34] at h
  by_cases c38 : v1 = (108 : Int32)
  · rw [if_pos c38] at h
    refine z_tableIn (pc := 6) (tgt := 126) (off := 120) C dX7_does_6 (by rw [c38]; decide) (by rw [c38]; decide) (by rw [c38]; decide) (by decide) ?_
    refine z_aload_n (pc := 126) C 0 dX7_does_126 rfl rfl ?_
    refine z_aload_n (pc := 127) C 0 dX7_does_127 rfl rfl ?_
    refine z_get (pc := 128) C dX7_does_128 fl_X7_89 (hM_o A M B) rfl ?_
    refine z_iload_n (pc := 131) C 1 dX7_does_131 rfl rfl ?_
    obtain ⟨v39, ev39, h⟩ := ob1_eq h
    refine z_iald (pc := 132) C dX7_does_132 (hMa_26 A M B) (rd_eq ev39).1 (z_topi (rd_eq ev39).2 ?_)
    refine z_aload_n (pc := 133) C 0 dX7_does_133 rfl rfl ?_
    refine z_get (pc := 134) C dX7_does_134 fl_X7_92 (hM_o A M B) rfl ?_
    refine z_iload_n (pc := 137) C 1 dX7_does_137 rfl rfl ?_
    obtain ⟨v40, ev40, h⟩ := ob1_eq h
    refine z_iald (pc := 138) C dX7_does_138 (hMa_27 A M B) (rd_eq ev40).1 (z_topi (rd_eq ev40).2 ?_)
    refine z_aload_n (pc := 139) C 0 dX7_does_139 rfl rfl ?_
    refine z_get (pc := 140) C dX7_does_140 fl_X7_95 (hM_o A M B) rfl ?_
    refine z_iload_n (pc := 143) C 1 dX7_does_143 rfl rfl ?_
    obtain ⟨v41, ev41, h⟩ := ob1_eq h
    refine z_iald (pc := 144) C dX7_does_144 (hMa_28 A M B) (rd_eq ev41).1 (z_topi (rd_eq ev41).2 ?_)
    obtain ⟨v44, M42, B43, ev44, h⟩ := ob3_eq h
    refine z_callVi (h := A.length) (As := [.int v39, .int v40, .int v41]) (rest := []) (pc := 145) C dX7_does_145 ml_X7_229 (kX7_laysOne _ _ _ _ A M B v39 v40 v41 (v44, M42, B43) ev44) (hM_o A M B) rfl rfl rfl (Nat.le_of_ble_eq_true rfl) (by decide) ?_
    obtain rfl := Option.some.inj h
    exact z_iret (pc := 148) C E dX7_does_148 ⟨rfl, rfl⟩
  rw [if_neg c38] at h
  by_cases c45 : v1 = (109 : Int32)
  · rw [if_pos c45] at h
    refine z_tableIn (pc := 6) (tgt := 149) (off := 143) C dX7_does_6 (by rw [c45]; decide) (by rw [c45]; decide) (by rw [c45]; decide) (by decide) ?_
    refine z_aload_n (pc := 149) C 0 dX7_does_149 rfl rfl ?_
    refine z_aload_n (pc := 150) C 0 dX7_does_150 rfl rfl ?_
    refine z_get (pc := 151) C dX7_does_151 fl_X7_89 (hM_o A M B) rfl ?_
    refine z_iload_n (pc := 154) C 1 dX7_does_154 rfl rfl ?_
    obtain ⟨v46, ev46, h⟩ := ob1_eq h
    refine z_iald (pc := 155) C dX7_does_155 (hMa_26 A M B) (rd_eq ev46).1 (z_topi (rd_eq ev46).2 ?_)
    refine z_aload_n (pc := 156) C 0 dX7_does_156 rfl rfl ?_
    refine z_get (pc := 157) C dX7_does_157 fl_X7_92 (hM_o A M B) rfl ?_
    refine z_iload_n (pc := 160) C 1 dX7_does_160 rfl rfl ?_
    obtain ⟨v47, ev47, h⟩ := ob1_eq h
    refine z_iald (pc := 161) C dX7_does_161 (hMa_27 A M B) (rd_eq ev47).1 (z_topi (rd_eq ev47).2 ?_)
    refine z_aload_n (pc := 162) C 0 dX7_does_162 rfl rfl ?_
    refine z_get (pc := 163) C dX7_does_163 fl_X7_95 (hM_o A M B) rfl ?_
    refine z_iload_n (pc := 166) C 1 dX7_does_166 rfl rfl ?_
    obtain ⟨v48, ev48, h⟩ := ob1_eq h
    refine z_iald (pc := 167) C dX7_does_167 (hMa_28 A M B) (rd_eq ev48).1 (z_topi (rd_eq ev48).2 ?_)
    obtain ⟨v51, M49, B50, ev51, h⟩ := ob3_eq h
    refine z_callVi (h := A.length) (As := [.int v46, .int v47, .int v48]) (rest := []) (pc := 168) C dX7_does_168 ml_X7_233 (kX7_movesOne _ _ _ _ A M B v46 v47 v48 (v51, M49, B50) ev51) (hM_o A M B) rfl rfl rfl (Nat.le_of_ble_eq_true rfl) (by decide) ?_
    obtain rfl := Option.some.inj h
    exact z_iret (pc := 171) C E dX7_does_171 ⟨rfl, rfl⟩
  rw [if_neg c45] at h
  by_cases c52 : v1 = (110 : Int32)
  · rw [if_pos c52] at h
    refine z_tableIn (pc := 6) (tgt := 182) (off := 176) C dX7_does_6 (by rw [c52]; decide) (by rw [c52]; decide) (by rw [c52]; decide) (by decide) ?_
    refine z_aload_n (pc := 182) C 0 dX7_does_182 rfl rfl ?_
    obtain ⟨v55, M53, B54, ev55, h⟩ := ob3_eq h
    refine z_callVi (h := A.length) (As := []) (rest := []) (pc := 183) C dX7_does_183 ml_X7_265 (kX7_redoes _ _ _ _ A M B  (v55, M53, B54) ev55) (hM_o A M B) rfl rfl rfl (Nat.le_of_ble_eq_true rfl) (by decide) ?_
    obtain rfl := Option.some.inj h
    exact z_iret (pc := 186) C E dX7_does_186 ⟨rfl, rfl⟩
  rw [if_neg c52] at h
  by_cases c56 : v1 = (111 : Int32)
  · rw [if_pos c56] at h
    refine z_tableIn (pc := 6) (tgt := 182) (off := 176) C dX7_does_6 (by rw [c56]; decide) (by rw [c56]; decide) (by rw [c56]; decide) (by decide) ?_
    refine z_aload_n (pc := 182) C 0 dX7_does_182 rfl rfl ?_
    obtain ⟨v59, M57, B58, ev59, h⟩ := ob3_eq h
    refine z_callVi (h := A.length) (As := []) (rest := []) (pc := 183) C dX7_does_183 ml_X7_265 (kX7_redoes _ _ _ _ A M B  (v59, M57, B58) ev59) (hM_o A M B) rfl rfl rfl (Nat.le_of_ble_eq_true rfl) (by decide) ?_
    obtain rfl := Option.some.inj h
    exact z_iret (pc := 186) C E dX7_does_186 ⟨rfl, rfl⟩
  rw [if_neg c56] at h
  by_cases c60 : v1 = (112 : Int32)
  · rw [if_pos c60] at h
    refine z_tableIn (pc := 6) (tgt := 182) (off := 176) C dX7_does_6 (by rw [c60]; decide) (by rw [c60]; decide) (by rw [c60]; decide) (by decide) ?_
    refine z_aload_n (pc := 182) C 0 dX7_does_182 rfl rfl ?_
    obtain ⟨v63, M61, B62, ev63, h⟩ := ob3_eq h
    refine z_callVi (h := A.length) (As := []) (rest := []) (pc := 183) C dX7_does_183 ml_X7_265 (kX7_redoes _ _ _ _ A M B  (v63, M61, B62) ev63) (hM_o A M B) rfl rfl rfl (Nat.le_of_ble_eq_true rfl) (by decide) ?_
    obtain rfl := Option.some.inj h
    exact z_iret (pc := 186) C E dX7_does_186 ⟨rfl, rfl⟩
  rw [if_neg c60] at h
  by_cases c64 : v1 = (113 : Int32)
  · rw [if_pos c64] at h
    refine z_tableIn (pc := 6) (tgt := 182) (off := 176) C dX7_does_6 (by rw [c64]; decide) (by rw [c64]; decide) (by rw [c64]; decide) (by decide) ?_
    refine z_aload_n (pc := 182) C 0 dX7_does_182 rfl rfl ?_
    obtain ⟨v67, M65, B66, ev67, h⟩ := ob3_eq h
    refine z_callVi (h := A.length) (As := []) (rest := []) (pc := 183) C dX7_does_183 ml_X7_265 (kX7_redoes _ _ _ _ A M B  (v67, M65, B66) ev67) (hM_o A M B) rfl rfl rfl (Nat.le_of_ble_eq_true rfl) (by decide) ?_
    obtain rfl := Option.some.inj h
    exact z_iret (pc := 186) C E dX7_does_186 ⟨rfl, rfl⟩
  rw [if_neg c64] at h
  by_cases c68 : v1 = (114 : Int32)
  · rw [if_pos c68] at h
    refine z_tableIn (pc := 6) (tgt := 182) (off := 176) C dX7_does_6 (by rw [c68]; decide) (by rw [c68]; decide) (by rw [c68]; decide) (by decide) ?_
    refine z_aload_n (pc := 182) C 0 dX7_does_182 rfl rfl ?_
    obtain ⟨v71, M69, B70, ev71, h⟩ := ob3_eq h
    refine z_callVi (h := A.length) (As := []) (rest := []) (pc := 183) C dX7_does_183 ml_X7_265 (kX7_redoes _ _ _ _ A M B  (v71, M69, B70) ev71) (hM_o A M B) rfl rfl rfl (Nat.le_of_ble_eq_true rfl) (by decide) ?_
    obtain rfl := Option.some.inj h
    exact z_iret (pc := 186) C E dX7_does_186 ⟨rfl, rfl⟩
  rw [if_neg c68] at h
  by_cases c72 : v1 = (115 : Int32)
  · rw [if_pos c72] at h
    refine z_tableIn (pc := 6) (tgt := 182) (off := 176) C dX7_does_6 (by rw [c72]; decide) (by rw [c72]; decide) (by rw [c72]; decide) (by decide) ?_
    refine z_aload_n (pc := 182) C 0 dX7_does_182 rfl rfl ?_
    obtain ⟨v75, M73, B74, ev75, h⟩ := ob3_eq h
    refine z_callVi (h := A.length) (As := []) (rest := []) (pc := 183) C dX7_does_183 ml_X7_265 (kX7_redoes _ _ _ _ A M B  (v75, M73, B74) ev75) (hM_o A M B) rfl rfl rfl (Nat.le_of_ble_eq_true rfl) (by decide) ?_
    obtain rfl := Option.some.inj h
    exact z_iret (pc := 186) C E dX7_does_186 ⟨rfl, rfl⟩
  rw [if_neg c72] at h
  by_cases c76 : v1 = (116 : Int32)
  · rw [if_pos c76] at h
    refine z_tableIn (pc := 6) (tgt := 182) (off := 176) C dX7_does_6 (by rw [c76]; decide) (by rw [c76]; decide) (by rw [c76]; decide) (by decide) ?_
    refine z_aload_n (pc := 182) C 0 dX7_does_182 rfl rfl ?_
    obtain ⟨v79, M77, B78, ev79, h⟩ := ob3_eq h
    refine z_callVi (h := A.length) (As := []) (rest := []) (pc := 183) C dX7_does_183 ml_X7_265 (kX7_redoes _ _ _ _ A M B  (v79, M77, B78) ev79) (hM_o A M B) rfl rfl rfl (Nat.le_of_ble_eq_true rfl) (by decide) ?_
    obtain rfl := Option.some.inj h
    exact z_iret (pc := 186) C E dX7_does_186 ⟨rfl, rfl⟩
  rw [if_neg c76] at h
  by_cases c80 : v1 = (117 : Int32)
  · rw [if_pos c80] at h
    refine z_tableIn (pc := 6) (tgt := 177) (off := 171) C dX7_does_6 (by rw [c80]; decide) (by rw [c80]; decide) (by rw [c80]; decide) (by decide) ?_
    refine z_aload_n (pc := 177) C 0 dX7_does_177 rfl rfl ?_
    obtain ⟨v83, M81, B82, ev83, h⟩ := ob3_eq h
    refine z_callVi (h := A.length) (As := []) (rest := []) (pc := 178) C dX7_does_178 ml_X7_262 (kX7_undoes _ _ _ _ A M B  (v83, M81, B82) ev83) (hM_o A M B) rfl rfl rfl (Nat.le_of_ble_eq_true rfl) (by decide) ?_
    obtain rfl := Option.some.inj h
    exact z_iret (pc := 181) C E dX7_does_181 ⟨rfl, rfl⟩
  rw [if_neg c80] at h
  by_cases c84 : v1.toInt < 100 ∨ 117 < v1.toInt
  · rw [if_pos c84] at h
    refine z_tableOut (pc := 6) (tgt := 182) C dX7_does_6 c84 (by decide) ?_
    refine z_aload_n (pc := 182) C 0 dX7_does_182 rfl rfl ?_
    obtain ⟨v87, M85, B86, ev87, h⟩ := ob3_eq h
    refine z_callVi (h := A.length) (As := []) (rest := []) (pc := 183) C dX7_does_183 ml_X7_265 (kX7_redoes _ _ _ _ A M B  (v87, M85, B86) ev87) (hM_o A M B) rfl rfl rfl (Nat.le_of_ble_eq_true rfl) (by decide) ?_
    obtain rfl := Option.some.inj h
    exact z_iret (pc := 186) C E dX7_does_186 ⟨rfl, rfl⟩
  · rw [if_neg c84] at h
    cases h
theorem kX7_does (l : Launch) (D : va_G) (cA : Nat → ClassId) (b : Nat) (A : zH) (M : MS) (B : zH) (x1 : Int32) (out : Int32 × MS × zH) (h : fX7_does A M B x1 = some out) : zM l D cA b yX7_does cX7_does 2 (some .int) 6 135 [.ref A.length, .int x1] (hG A M B) (poI out.1 (hG A out.2.1 out.2.2)) := z_entry rfl (Nat.le_of_ble_eq_true rfl) (fun X C E _ _ _ => wfX7_does C E M B x1 h)
def fX7_day_b88 (A : zH) (M : MS) (B : zH) (x1 : Int32) (s0 : Int32) : Option (Int32 × MS × zH) :=
    ob1 (fX7_flag s0) fun v1 =>
    ob1 (fX7_enters M v1.toInt64) fun M2 =>
    ob1 (fX7_enters M2 ((M2.1 11).toInt64)) fun M3 =>
    some (x1, M3, B)
set_option maxRecDepth 100000 in
set_option maxHeartbeats 4000000 in
theorem wfX7_day_b88 {X : zX} {A : zH} {out : Int32 × MS × zH} (C : zOK X cX7_day yX7_day.cls 2 (some .int) 7 156) (E : zPost X (poI out.1 (hG A out.2.1 out.2.2))) (M : MS) (B : zH) (x1 : Int32) (s0 : Int32) (h : fX7_day_b88 A M B x1 s0 = some out) : zZ X 88 [(0, .ref A.length), (1, .int x1)] [.int s0, .ref A.length] (hG A M B) := by
  rw [fX7_day_b88] at h
  obtain ⟨v1, ev1, h⟩ := ob1_eq h
  refine z_callSi (As := [.int s0]) (rest := [.ref A.length]) (pc := 88) C dX7_day_88 ml_X7_119 (kX7_flag _ _ _ _ (hG A M B) s0 v1 ev1) rfl rfl (Nat.le_of_ble_eq_true rfl) (by decide) ?_
  refine z_i2l (pc := 91) C dX7_day_91 ?_
  obtain ⟨M2, eM2, h⟩ := ob1_eq h
  refine z_callVv (h := A.length) (As := [.long v1.toInt64]) (rest := []) (pc := 92) C dX7_day_92 ml_X7_295 (kX7_enters _ _ _ _ A M B v1.toInt64 M2 eM2) (hM_o A M B) rfl rfl rfl (Nat.le_of_ble_eq_true rfl) (by decide) ?_
  refine z_aload_n (pc := 95) C 0 dX7_day_95 rfl rfl ?_
  refine z_aload_n (pc := 96) C 0 dX7_day_96 rfl rfl ?_
  refine z_get (pc := 97) C dX7_day_97 fl_X7_123 (hM_o A M2 B) rfl ?_
  refine z_i2l (pc := 100) C dX7_day_100 ?_
  obtain ⟨M3, eM3, h⟩ := ob1_eq h
  refine z_callVv (h := A.length) (As := [.long ((M2.1 11).toInt64)]) (rest := []) (pc := 101) C dX7_day_101 ml_X7_295 (kX7_enters _ _ _ _ A M2 B ((M2.1 11).toInt64) M3 eM3) (hM_o A M2 B) rfl rfl rfl (Nat.le_of_ble_eq_true rfl) (by decide) ?_
  refine z_iload_n (pc := 104) C 1 dX7_day_104 rfl rfl ?_
  obtain rfl := Option.some.inj h
  exact z_iret (pc := 105) C E dX7_day_105 ⟨rfl, rfl⟩
def fX7_day_b69 (A : zH) (M : MS) (B : zH) (x1 : Int32) : Option (Int32 × MS × zH) :=
    zlet (mI M 1 (0 : Int32)) fun M1 =>
    if (M1.1 29) ≤ x1 then (fX7_day_b88 A M1 B x1 (0 : Int32)) else
    fX7_day_b88 A M1 B x1 (1 : Int32)
set_option maxRecDepth 100000 in
set_option maxHeartbeats 4000000 in
theorem wfX7_day_b69 {X : zX} {A : zH} {out : Int32 × MS × zH} (C : zOK X cX7_day yX7_day.cls 2 (some .int) 7 156) (E : zPost X (poI out.1 (hG A out.2.1 out.2.2))) (M : MS) (B : zH) (x1 : Int32) (h : fX7_day_b69 A M B x1 = some out) : zZ X 69 [(0, .ref A.length), (1, .int x1)] [] (hG A M B) := by
  rw [fX7_day_b69] at h
  refine z_aload_n (pc := 69) C 0 dX7_day_69 rfl rfl ?_
  refine z_iconst (pc := 70) C dX7_day_70 (v := (0 : Int32)) (by decide) ?_
  obtain ⟨M1, eM1, h⟩ := zlet_eq h
  refine z_put (pc := 71) C dX7_day_71 fl_X7_11w (hM_o A M B) (fun _ => rfl) (fun _ => rfl) (Nat.le_of_ble_eq_true rfl) (hMi_1 A B eM1) ?_
  refine z_aload_n (pc := 74) C 0 dX7_day_74 rfl rfl ?_
  refine z_iload_n (pc := 75) C 1 dX7_day_75 rfl rfl ?_
  refine z_aload_n (pc := 76) C 0 dX7_day_76 rfl rfl ?_
  refine z_get (pc := 77) C dX7_day_77 fl_X7_279 (hM_o A M1 B) rfl ?_
  refine z_ic_ge (pc := 80) C dX7_day_80 (tgt := 87) (by decide) (fun c2 => ?_) (fun c2 => ?_)
  · rw [if_pos c2] at h
    refine z_iconst (pc := 87) C dX7_day_87 (v := (0 : Int32)) (by decide) ?_
    exact z_subL [0, 1] (wfX7_day_b88 C E M1 B x1 (0 : Int32) h) rfl
  · rw [if_neg c2] at h
    refine z_iconst (pc := 83) C dX7_day_83 (v := (1 : Int32)) (by decide) ?_
    refine z_goto (pc := 84) C dX7_day_84 (tgt := 88) (by decide) ?_
    exact z_subL [0, 1] (wfX7_day_b88 C E M1 B x1 (1 : Int32) h) rfl
def fX7_day_b47 (A : zH) : Nat → MS → zH → Int32 → Option (Int32 × MS × zH)
  | 0, _, _, _ => none
  | n + 1, M, B, x1 =>
    if (M.1 29) ≤ x1 then (fX7_day_b69 A M B x1) else
    ob3 (fX7_does A M B x1) fun v4 M2 B3 =>
    if v4 < 0 then (fX7_day_b69 A M2 B3 x1) else
    zlet (x1 + (1 : Int32)) fun y6 =>
    (fX7_day_b47 A n) M2 B3 y6
set_option maxRecDepth 100000 in
set_option maxHeartbeats 4000000 in
theorem wfX7_day_b47 {X : zX} {A : zH} {out : Int32 × MS × zH} (C : zOK X cX7_day yX7_day.cls 2 (some .int) 7 156) (E : zPost X (poI out.1 (hG A out.2.1 out.2.2))) : ∀ (n : Nat) (M : MS) (B : zH) (x1 : Int32) (h : fX7_day_b47 A n M B x1 = some out), zZ X 47 [(0, .ref A.length), (1, .int x1)] [] (hG A M B) := by
  intro n
  induction n with
  | zero => intro M B x1 h; cases h
  | succ n ih =>
    intro M B x1 h
    rw [fX7_day_b47] at h
    refine z_iload_n (pc := 47) C 1 dX7_day_47 rfl rfl ?_
    refine z_aload_n (pc := 48) C 0 dX7_day_48 rfl rfl ?_
    refine z_get (pc := 49) C dX7_day_49 fl_X7_279 (hM_o A M B) rfl ?_
    refine z_ic_ge (pc := 52) C dX7_day_52 (tgt := 69) (by decide) (fun c1 => ?_) (fun c1 => ?_)
    · rw [if_pos c1] at h
      exact z_subL [0, 1] (wfX7_day_b69 C E M B x1 h) rfl
    · rw [if_neg c1] at h
      refine z_aload_n (pc := 55) C 0 dX7_day_55 rfl rfl ?_
      refine z_iload_n (pc := 56) C 1 dX7_day_56 rfl rfl ?_
      obtain ⟨v4, M2, B3, ev4, h⟩ := ob3_eq h
      refine z_callVi (h := A.length) (As := [.int x1]) (rest := []) (pc := 57) C dX7_day_57 ml_X7_292 (kX7_does _ _ _ _ A M B x1 (v4, M2, B3) ev4) (hM_o A M B) rfl rfl rfl (Nat.le_of_ble_eq_true rfl) (by decide) ?_
      refine z_if_lt (pc := 60) C dX7_day_60 (tgt := 69) (by decide) (fun c5 => ?_) (fun c5 => ?_)
      · rw [if_pos c5] at h
        exact z_subL [0, 1] (wfX7_day_b69 C E M2 B3 x1 h) rfl
      · rw [if_neg c5] at h
        obtain ⟨y6, ey6, h⟩ := zlet_eq h
        refine z_iinc (pc := 63) (v := y6) C 1 dX7_day_63 rfl (by rw [ey6]; rfl) (by decide) (show zput _ _ _ = [(1, .int y6), (0, .ref A.length)] from rfl) ?_
        refine z_goto (pc := 66) C dX7_day_66 (tgt := 47) (by decide) ?_
        exact z_subL [1, 0] (ih M2 B3 y6 h) rfl
def fX7_day_b45 (A : zH) (M : MS) (B : zH) : Option (Int32 × MS × zH) :=
    fX7_day_b47 A FU M B (0 : Int32)
set_option maxRecDepth 100000 in
set_option maxHeartbeats 4000000 in
theorem wfX7_day_b45 {X : zX} {A : zH} {out : Int32 × MS × zH} (C : zOK X cX7_day yX7_day.cls 2 (some .int) 7 156) (E : zPost X (poI out.1 (hG A out.2.1 out.2.2))) (M : MS) (B : zH) (h : fX7_day_b45 A M B = some out) : zZ X 45 [(0, .ref A.length)] [] (hG A M B) := by
  rw [fX7_day_b45] at h
  refine z_iconst (pc := 45) C dX7_day_45 (v := (0 : Int32)) (by decide) ?_
  refine z_istore_n (pc := 46) C dX7_day_46 rfl (by decide) (show zput _ _ _ = [(1, .int (0 : Int32)), (0, .ref A.length)] from rfl) ?_
  exact z_subL [1, 0] (wfX7_day_b47 C E FU M B (0 : Int32) h) rfl
def fX7_day_b38 (A : zH) (M : MS) (B : zH) : Option (Int32 × MS × zH) :=
    some (((-1 : Int32) - (M.1 30)), M, B)
set_option maxRecDepth 100000 in
set_option maxHeartbeats 4000000 in
theorem wfX7_day_b38 {X : zX} {A : zH} {out : Int32 × MS × zH} (C : zOK X cX7_day yX7_day.cls 2 (some .int) 7 156) (E : zPost X (poI out.1 (hG A out.2.1 out.2.2))) (M : MS) (B : zH) (h : fX7_day_b38 A M B = some out) : zZ X 38 [(0, .ref A.length)] [] (hG A M B) := by
  rw [fX7_day_b38] at h
  refine z_iconst (pc := 38) C dX7_day_38 (v := (-1 : Int32)) (by decide) ?_
  refine z_aload_n (pc := 39) C 0 dX7_day_39 rfl rfl ?_
  refine z_get (pc := 40) C dX7_day_40 fl_X7_268 (hM_o A M B) rfl ?_
  refine z_isub (pc := 43) C dX7_day_43 ?_
  obtain rfl := Option.some.inj h
  exact z_iret (pc := 44) C E dX7_day_44 ⟨rfl, rfl⟩
def fX7_day_b20 (A : zH) : Nat → MS → zH → Option (Int32 × MS × zH)
  | 0, _, _ => none
  | n + 1, M, B =>
    if (M.1 5) ≤ (M.1 30) then (fX7_day_b45 A M B) else
    ob2 (fX7_readsAct M ) fun v3 M2 =>
    if v3 = 0 then (fX7_day_b38 A M2 B) else
    (fX7_day_b20 A n) M2 B
set_option maxRecDepth 100000 in
set_option maxHeartbeats 4000000 in
theorem wfX7_day_b20 {X : zX} {A : zH} {out : Int32 × MS × zH} (C : zOK X cX7_day yX7_day.cls 2 (some .int) 7 156) (E : zPost X (poI out.1 (hG A out.2.1 out.2.2))) : ∀ (n : Nat) (M : MS) (B : zH) (h : fX7_day_b20 A n M B = some out), zZ X 20 [(0, .ref A.length)] [] (hG A M B) := by
  intro n
  induction n with
  | zero => intro M B h; cases h
  | succ n ih =>
    intro M B h
    rw [fX7_day_b20] at h
    refine z_aload_n (pc := 20) C 0 dX7_day_20 rfl rfl ?_
    refine z_get (pc := 21) C dX7_day_21 fl_X7_268 (hM_o A M B) rfl ?_
    refine z_aload_n (pc := 24) C 0 dX7_day_24 rfl rfl ?_
    refine z_get (pc := 25) C dX7_day_25 fl_X7_25 (hM_o A M B) rfl ?_
    refine z_ic_ge (pc := 28) C dX7_day_28 (tgt := 45) (by decide) (fun c1 => ?_) (fun c1 => ?_)
    · rw [if_pos c1] at h
      exact z_subL [0] (wfX7_day_b45 C E M B h) rfl
    · rw [if_neg c1] at h
      refine z_aload_n (pc := 31) C 0 dX7_day_31 rfl rfl ?_
      obtain ⟨v3, M2, ev3, h⟩ := ob2_eq h
      refine z_callVi (h := A.length) (As := []) (rest := []) (pc := 32) C dX7_day_32 ml_X7_288 (kX7_readsAct _ _ _ _ A M B  (v3, M2) ev3) (hM_o A M B) rfl rfl rfl (Nat.le_of_ble_eq_true rfl) (by decide) ?_
      refine z_if_ne (pc := 35) C dX7_day_35 (tgt := 20) (by decide) (fun c4 => ?_) (fun c4 => ?_)
      · rw [if_neg c4] at h
        exact z_subL [0] (ih M2 B h) rfl
      · rw [if_pos c4] at h
        exact z_subL [0] (wfX7_day_b38 C E M2 B h) rfl
def fX7_day (A : zH) (M : MS) (B : zH) : Option (Int32 × MS × zH) :=
    zlet (mI M 0 (0 : Int32)) fun M1 =>
    ob2 (fX7_empties M1 ) fun v3 M2 =>
    zlet (mI M2 29 (0 : Int32)) fun M4 =>
    zlet (mI M4 30 (0 : Int32)) fun M5 =>
    fX7_day_b20 A FU M5 B
set_option maxRecDepth 100000 in
set_option maxHeartbeats 4000000 in
theorem wfX7_day {X : zX} {A : zH} {out : Int32 × MS × zH} (C : zOK X cX7_day yX7_day.cls 2 (some .int) 7 156) (E : zPost X (poI out.1 (hG A out.2.1 out.2.2))) (M : MS) (B : zH) (h : fX7_day A M B = some out) : zZ X 0 [(0, .ref A.length)] [] (hG A M B) := by
  rw [fX7_day] at h
  refine z_aload_n (pc := 0) C 0 dX7_day_0 rfl rfl ?_
  refine z_iconst (pc := 1) C dX7_day_1 (v := (0 : Int32)) (by decide) ?_
  obtain ⟨M1, eM1, h⟩ := zlet_eq h
  refine z_put (pc := 2) C dX7_day_2 fl_X7_1w (hM_o A M B) (fun _ => rfl) (fun _ => rfl) (Nat.le_of_ble_eq_true rfl) (hMi_0 A B eM1) ?_
  refine z_aload_n (pc := 5) C 0 dX7_day_5 rfl rfl ?_
  obtain ⟨v3, M2, ev3, h⟩ := ob2_eq h
  refine z_callVi (h := A.length) (As := []) (rest := []) (pc := 6) C dX7_day_6 ml_X7_182 (kX7_empties _ _ _ _ A M1 B  (v3, M2) ev3) (hM_o A M1 B) rfl rfl rfl (Nat.le_of_ble_eq_true rfl) (by decide) ?_
  refine z_pop (pc := 9) C dX7_day_9 rfl ?_
  refine z_aload_n (pc := 10) C 0 dX7_day_10 rfl rfl ?_
  refine z_iconst (pc := 11) C dX7_day_11 (v := (0 : Int32)) (by decide) ?_
  obtain ⟨M4, eM4, h⟩ := zlet_eq h
  refine z_put (pc := 12) C dX7_day_12 fl_X7_279w (hM_o A M2 B) (fun _ => rfl) (fun _ => rfl) (Nat.le_of_ble_eq_true rfl) (hMi_29 A B eM4) ?_
  refine z_aload_n (pc := 15) C 0 dX7_day_15 rfl rfl ?_
  refine z_iconst (pc := 16) C dX7_day_16 (v := (0 : Int32)) (by decide) ?_
  obtain ⟨M5, eM5, h⟩ := zlet_eq h
  refine z_put (pc := 17) C dX7_day_17 fl_X7_268w (hM_o A M4 B) (fun _ => rfl) (fun _ => rfl) (Nat.le_of_ble_eq_true rfl) (hMi_30 A B eM5) ?_
  exact z_subL [0] (wfX7_day_b20 C E FU M5 B h) rfl
theorem kX7_day (l : Launch) (D : va_G) (cA : Nat → ClassId) (b : Nat) (A : zH) (M : MS) (B : zH)  (out : Int32 × MS × zH) (h : fX7_day A M B  = some out) : zM l D cA b yX7_day cX7_day 2 (some .int) 7 156 [.ref A.length] (hG A M B) (poI out.1 (hG A out.2.1 out.2.2)) := z_entry rfl (Nat.le_of_ble_eq_true rfl) (fun X C E _ _ _ => wfX7_day C E M B  h)
def fX7_differs_b148 (A : zH) (M : MS) (B : zH) (x3 : Int32) (x5 : Int32) (x6 : Int32) : Option (Int32 × MS × zH) :=
    zlet (mI M 1 (0 : Int32)) fun M1 =>
    ob1 (fX7_enters M1 ((((M1.1 11) - x5) - x6).toInt64)) fun M2 =>
    ob1 (fX7_enters M2 (((x3 - x5) - x6).toInt64)) fun M3 =>
    some (x5, M3, B)
set_option maxRecDepth 100000 in
set_option maxHeartbeats 4000000 in
theorem wfX7_differs_b148 {X : zX} {A : zH} {out : Int32 × MS × zH} (C : zOK X cX7_differs yX7_differs.cls 7 (some .int) 2 43) (E : zPost X (poI out.1 (hG A out.2.1 out.2.2))) (M : MS) (B : zH) (x3 : Int32) (x5 : Int32) (x6 : Int32) (h : fX7_differs_b148 A M B x3 x5 x6 = some out) : zZ X 148 [(0, .ref A.length), (3, .int x3), (5, .int x5), (6, .int x6)] [] (hG A M B) := by
  rw [fX7_differs_b148] at h
  refine z_aload_n (pc := 148) C 0 dX7_differs_148 rfl rfl ?_
  refine z_iconst (pc := 149) C dX7_differs_149 (v := (0 : Int32)) (by decide) ?_
  obtain ⟨M1, eM1, h⟩ := zlet_eq h
  refine z_put (pc := 150) C dX7_differs_150 fl_X7_11w (hM_o A M B) (fun _ => rfl) (fun _ => rfl) (Nat.le_of_ble_eq_true rfl) (hMi_1 A B eM1) ?_
  refine z_aload_n (pc := 153) C 0 dX7_differs_153 rfl rfl ?_
  refine z_aload_n (pc := 154) C 0 dX7_differs_154 rfl rfl ?_
  refine z_get (pc := 155) C dX7_differs_155 fl_X7_123 (hM_o A M1 B) rfl ?_
  refine z_iload (pc := 158) C 2 dX7_differs_158 rfl ?_
  refine z_isub (pc := 160) C dX7_differs_160 ?_
  refine z_iload (pc := 161) C 3 dX7_differs_161 rfl ?_
  refine z_isub (pc := 163) C dX7_differs_163 ?_
  refine z_i2l (pc := 164) C dX7_differs_164 ?_
  obtain ⟨M2, eM2, h⟩ := ob1_eq h
  refine z_callVv (h := A.length) (As := [.long ((((M1.1 11) - x5) - x6).toInt64)]) (rest := []) (pc := 165) C dX7_differs_165 ml_X7_295 (kX7_enters _ _ _ _ A M1 B ((((M1.1 11) - x5) - x6).toInt64) M2 eM2) (hM_o A M1 B) rfl rfl rfl (Nat.le_of_ble_eq_true rfl) (by decide) ?_
  refine z_aload_n (pc := 168) C 0 dX7_differs_168 rfl rfl ?_
  refine z_iload_n (pc := 169) C 1 dX7_differs_169 rfl rfl ?_
  refine z_iload (pc := 170) C 2 dX7_differs_170 rfl ?_
  refine z_isub (pc := 172) C dX7_differs_172 ?_
  refine z_iload (pc := 173) C 3 dX7_differs_173 rfl ?_
  refine z_isub (pc := 175) C dX7_differs_175 ?_
  refine z_i2l (pc := 176) C dX7_differs_176 ?_
  obtain ⟨M3, eM3, h⟩ := ob1_eq h
  refine z_callVv (h := A.length) (As := [.long (((x3 - x5) - x6).toInt64)]) (rest := []) (pc := 177) C dX7_differs_177 ml_X7_295 (kX7_enters _ _ _ _ A M2 B (((x3 - x5) - x6).toInt64) M3 eM3) (hM_o A M2 B) rfl rfl rfl (Nat.le_of_ble_eq_true rfl) (by decide) ?_
  refine z_iload (pc := 180) C 2 dX7_differs_180 rfl ?_
  obtain rfl := Option.some.inj h
  exact z_iret (pc := 182) C E dX7_differs_182 ⟨rfl, rfl⟩
def fX7_differs_b104 (A : zH) : Nat → MS → zH → Nat → Int32 → Int32 → Int32 → Int32 → Option (Int32 × MS × zH)
  | 0, _, _, _, _, _, _, _ => none
  | n + 1, M, B, r2, x3, x4, x5, x6 =>
    if x4 ≤ (x5 + x6) then (fX7_differs_b148 A M B x3 x5 x6) else
    ob1 (fX7_signAt M (((M.1 11) - (1 : Int32)) - x6)) fun v2 =>
    ob1 (grd (hG A M B) r2 ((x3 - (1 : Int32)) - x6)) fun v3 =>
    ob1 (fX7_signOf M v3) fun v4 =>
    if v2 = v4 then (zlet (x6 + (1 : Int32)) fun y6 =>
    (fX7_differs_b104 A n) M B r2 x3 x4 x5 y6) else
    fX7_differs_b148 A M B x3 x5 x6
set_option maxRecDepth 100000 in
set_option maxHeartbeats 4000000 in
theorem wfX7_differs_b104 {X : zX} {A : zH} {out : Int32 × MS × zH} (C : zOK X cX7_differs yX7_differs.cls 7 (some .int) 2 43) (E : zPost X (poI out.1 (hG A out.2.1 out.2.2))) : ∀ (n : Nat) (M : MS) (B : zH) (r2 : Nat) (x3 : Int32) (x4 : Int32) (x5 : Int32) (x6 : Int32) (h : fX7_differs_b104 A n M B r2 x3 x4 x5 x6 = some out), zZ X 104 [(0, .ref A.length), (2, .ref r2), (3, .int x3), (4, .int x4), (5, .int x5), (6, .int x6)] [] (hG A M B) := by
  intro n
  induction n with
  | zero => intro M B r2 x3 x4 x5 x6 h; cases h
  | succ n ih =>
    intro M B r2 x3 x4 x5 x6 h
    rw [fX7_differs_b104] at h
    refine z_iload (pc := 104) C 4 dX7_differs_104 rfl ?_
    refine z_iload (pc := 106) C 5 dX7_differs_106 rfl ?_
    refine z_iadd (pc := 108) C dX7_differs_108 ?_
    refine z_iload (pc := 109) C 3 dX7_differs_109 rfl ?_
    refine z_ic_ge (pc := 111) C dX7_differs_111 (tgt := 148) (by decide) (fun c1 => ?_) (fun c1 => ?_)
    · rw [if_pos c1] at h
      exact z_subL [0, 2, 4, 5] (wfX7_differs_b148 C E M B x3 x5 x6 h) rfl
    · rw [if_neg c1] at h
      refine z_aload_n (pc := 114) C 0 dX7_differs_114 rfl rfl ?_
      refine z_aload_n (pc := 115) C 0 dX7_differs_115 rfl rfl ?_
      refine z_get (pc := 116) C dX7_differs_116 fl_X7_123 (hM_o A M B) rfl ?_
      refine z_iconst (pc := 119) C dX7_differs_119 (v := (1 : Int32)) (by decide) ?_
      refine z_isub (pc := 120) C dX7_differs_120 ?_
      refine z_iload (pc := 121) C 5 dX7_differs_121 rfl ?_
      refine z_isub (pc := 123) C dX7_differs_123 ?_
      obtain ⟨v2, ev2, h⟩ := ob1_eq h
      refine z_callVi (h := A.length) (As := [.int (((M.1 11) - (1 : Int32)) - x6)]) (rest := []) (pc := 124) C dX7_differs_124 ml_X7_157 (kX7_signAt _ _ _ _ A M B (((M.1 11) - (1 : Int32)) - x6) v2 ev2) (hM_o A M B) rfl rfl rfl (Nat.le_of_ble_eq_true rfl) (by decide) ?_
      refine z_aload_n (pc := 127) C 0 dX7_differs_127 rfl rfl ?_
      refine z_aload_n (pc := 128) C 1 dX7_differs_128 rfl rfl ?_
      refine z_iload_n (pc := 129) C 2 dX7_differs_129 rfl rfl ?_
      refine z_iconst (pc := 130) C dX7_differs_130 (v := (1 : Int32)) (by decide) ?_
      refine z_isub (pc := 131) C dX7_differs_131 ?_
      refine z_iload (pc := 132) C 5 dX7_differs_132 rfl ?_
      refine z_isub (pc := 134) C dX7_differs_134 ?_
      obtain ⟨v3, ev3, h⟩ := ob1_eq h
      refine z_grd (pc := 135) C dX7_differs_135 ev3 ?_
      obtain ⟨v4, ev4, h⟩ := ob1_eq h
      refine z_callVi (h := A.length) (As := [.int v3]) (rest := [.int v2]) (pc := 136) C dX7_differs_136 ml_X7_370 (kX7_signOf _ _ _ _ A M B v3 v4 ev4) (hM_o A M B) rfl rfl rfl (Nat.le_of_ble_eq_true rfl) (by decide) ?_
      refine z_ic_ne (pc := 139) C dX7_differs_139 (tgt := 148) (by decide) (fun c5 => ?_) (fun c5 => ?_)
      · rw [if_neg c5] at h
        exact z_subL [0, 2, 4, 5] (wfX7_differs_b148 C E M B x3 x5 x6 h) rfl
      · rw [if_pos c5] at h
        obtain ⟨y6, ey6, h⟩ := zlet_eq h
        refine z_iinc (pc := 142) (v := y6) C 5 dX7_differs_142 rfl (by rw [ey6]; rfl) (by decide) (show zput _ _ _ = [(6, .int y6), (0, .ref A.length), (2, .ref r2), (3, .int x3), (4, .int x4), (5, .int x5)] from rfl) ?_
        refine z_goto (pc := 145) C dX7_differs_145 (tgt := 104) (by decide) ?_
        exact z_subL [1, 2, 3, 4, 5, 0] (ih M B r2 x3 x4 x5 y6 h) rfl
def fX7_differs_b101 (A : zH) (M : MS) (B : zH) (r2 : Nat) (x3 : Int32) (x4 : Int32) (x5 : Int32) : Option (Int32 × MS × zH) :=
    fX7_differs_b104 A FU M B r2 x3 x4 x5 (0 : Int32)
set_option maxRecDepth 100000 in
set_option maxHeartbeats 4000000 in
theorem wfX7_differs_b101 {X : zX} {A : zH} {out : Int32 × MS × zH} (C : zOK X cX7_differs yX7_differs.cls 7 (some .int) 2 43) (E : zPost X (poI out.1 (hG A out.2.1 out.2.2))) (M : MS) (B : zH) (r2 : Nat) (x3 : Int32) (x4 : Int32) (x5 : Int32) (h : fX7_differs_b101 A M B r2 x3 x4 x5 = some out) : zZ X 101 [(0, .ref A.length), (2, .ref r2), (3, .int x3), (4, .int x4), (5, .int x5)] [] (hG A M B) := by
  rw [fX7_differs_b101] at h
  refine z_iconst (pc := 101) C dX7_differs_101 (v := (0 : Int32)) (by decide) ?_
  refine z_istore (pc := 102) C dX7_differs_102 (by decide) (show zput _ _ _ = [(6, .int (0 : Int32)), (0, .ref A.length), (2, .ref r2), (3, .int x3), (4, .int x4), (5, .int x5)] from rfl) ?_
  exact z_subL [1, 2, 3, 4, 5, 0] (wfX7_differs_b104 C E FU M B r2 x3 x4 x5 (0 : Int32) h) rfl
def fX7_differs_b71 (A : zH) : Nat → MS → zH → Nat → Int32 → Int32 → Int32 → Option (Int32 × MS × zH)
  | 0, _, _, _, _, _, _ => none
  | n + 1, M, B, r2, x3, x4, x5 =>
    if x4 ≤ x5 then (fX7_differs_b101 A M B r2 x3 x4 x5) else
    ob1 (fX7_signAt M x5) fun v2 =>
    ob1 (grd (hG A M B) r2 x5) fun v3 =>
    ob1 (fX7_signOf M v3) fun v4 =>
    if v2 = v4 then (zlet (x5 + (1 : Int32)) fun y6 =>
    (fX7_differs_b71 A n) M B r2 x3 x4 y6) else
    fX7_differs_b101 A M B r2 x3 x4 x5
set_option maxRecDepth 100000 in
set_option maxHeartbeats 4000000 in
theorem wfX7_differs_b71 {X : zX} {A : zH} {out : Int32 × MS × zH} (C : zOK X cX7_differs yX7_differs.cls 7 (some .int) 2 43) (E : zPost X (poI out.1 (hG A out.2.1 out.2.2))) : ∀ (n : Nat) (M : MS) (B : zH) (r2 : Nat) (x3 : Int32) (x4 : Int32) (x5 : Int32) (h : fX7_differs_b71 A n M B r2 x3 x4 x5 = some out), zZ X 71 [(0, .ref A.length), (2, .ref r2), (3, .int x3), (4, .int x4), (5, .int x5)] [] (hG A M B) := by
  intro n
  induction n with
  | zero => intro M B r2 x3 x4 x5 h; cases h
  | succ n ih =>
    intro M B r2 x3 x4 x5 h
    rw [fX7_differs_b71] at h
    refine z_iload (pc := 71) C 4 dX7_differs_71 rfl ?_
    refine z_iload (pc := 73) C 3 dX7_differs_73 rfl ?_
    refine z_ic_ge (pc := 75) C dX7_differs_75 (tgt := 101) (by decide) (fun c1 => ?_) (fun c1 => ?_)
    · rw [if_pos c1] at h
      exact z_subL [0, 1, 2, 3, 4] (wfX7_differs_b101 C E M B r2 x3 x4 x5 h) rfl
    · rw [if_neg c1] at h
      refine z_aload_n (pc := 78) C 0 dX7_differs_78 rfl rfl ?_
      refine z_iload (pc := 79) C 4 dX7_differs_79 rfl ?_
      obtain ⟨v2, ev2, h⟩ := ob1_eq h
      refine z_callVi (h := A.length) (As := [.int x5]) (rest := []) (pc := 81) C dX7_differs_81 ml_X7_157 (kX7_signAt _ _ _ _ A M B x5 v2 ev2) (hM_o A M B) rfl rfl rfl (Nat.le_of_ble_eq_true rfl) (by decide) ?_
      refine z_aload_n (pc := 84) C 0 dX7_differs_84 rfl rfl ?_
      refine z_aload_n (pc := 85) C 1 dX7_differs_85 rfl rfl ?_
      refine z_iload (pc := 86) C 4 dX7_differs_86 rfl ?_
      obtain ⟨v3, ev3, h⟩ := ob1_eq h
      refine z_grd (pc := 88) C dX7_differs_88 ev3 ?_
      obtain ⟨v4, ev4, h⟩ := ob1_eq h
      refine z_callVi (h := A.length) (As := [.int v3]) (rest := [.int v2]) (pc := 89) C dX7_differs_89 ml_X7_370 (kX7_signOf _ _ _ _ A M B v3 v4 ev4) (hM_o A M B) rfl rfl rfl (Nat.le_of_ble_eq_true rfl) (by decide) ?_
      refine z_ic_ne (pc := 92) C dX7_differs_92 (tgt := 101) (by decide) (fun c5 => ?_) (fun c5 => ?_)
      · rw [if_neg c5] at h
        exact z_subL [0, 1, 2, 3, 4] (wfX7_differs_b101 C E M B r2 x3 x4 x5 h) rfl
      · rw [if_pos c5] at h
        obtain ⟨y6, ey6, h⟩ := zlet_eq h
        refine z_iinc (pc := 95) (v := y6) C 4 dX7_differs_95 rfl (by rw [ey6]; rfl) (by decide) (show zput _ _ _ = [(5, .int y6), (0, .ref A.length), (2, .ref r2), (3, .int x3), (4, .int x4)] from rfl) ?_
        refine z_goto (pc := 98) C dX7_differs_98 (tgt := 71) (by decide) ?_
        exact z_subL [1, 2, 3, 4, 0] (ih M B r2 x3 x4 y6 h) rfl
def fX7_differs_b57 (A : zH) (M : MS) (B : zH) (r2 : Nat) (s0 : Int32) : Option (Int32 × MS × zH) :=
    zlet ((if s0 < (M.1 11) then s0 else (M.1 11))) fun y1 =>
    fX7_differs_b71 A FU M B r2 s0 y1 (0 : Int32)
set_option maxRecDepth 100000 in
set_option maxHeartbeats 4000000 in
theorem wfX7_differs_b57 {X : zX} {A : zH} {out : Int32 × MS × zH} (C : zOK X cX7_differs yX7_differs.cls 7 (some .int) 2 43) (E : zPost X (poI out.1 (hG A out.2.1 out.2.2))) (M : MS) (B : zH) (r2 : Nat) (s0 : Int32) (h : fX7_differs_b57 A M B r2 s0 = some out) : zZ X 57 [(0, .ref A.length), (2, .ref r2)] [.int s0] (hG A M B) := by
  rw [fX7_differs_b57] at h
  refine z_istore_n (pc := 57) C dX7_differs_57 rfl (by decide) (show zput _ _ _ = [(3, .int s0), (0, .ref A.length), (2, .ref r2)] from rfl) ?_
  refine z_aload_n (pc := 58) C 1 dX7_differs_58 rfl rfl ?_
  refine z_get (pc := 59) C dX7_differs_59 fl_X7_123 (hM_o A M B) rfl ?_
  refine z_iload_n (pc := 62) C 0 dX7_differs_62 rfl rfl ?_
  refine z_mmin (pc := 63) C dX7_differs_63 ml_X7_134 w_min1 w_math w_min2 (Nat.le_of_ble_eq_true rfl) (by decide) ?_
  obtain ⟨y1, ey1, h⟩ := zlet_eq h
  refine z_topi ey1 ?_
  refine z_istore (pc := 66) C dX7_differs_66 (by decide) (show zput _ _ _ = [(4, .int y1), (3, .int s0), (0, .ref A.length), (2, .ref r2)] from rfl) ?_
  refine z_iconst (pc := 68) C dX7_differs_68 (v := (0 : Int32)) (by decide) ?_
  refine z_istore (pc := 69) C dX7_differs_69 (by decide) (show zput _ _ _ = [(5, .int (0 : Int32)), (4, .int y1), (3, .int s0), (0, .ref A.length), (2, .ref r2)] from rfl) ?_
  exact z_subL [3, 4, 2, 1, 0] (wfX7_differs_b71 C E FU M B r2 s0 y1 (0 : Int32) h) rfl
def fX7_differs_b43 (A : zH) (M : MS) (B : zH) (x1 : Int32) (s0 : Nat) : Option (Int32 × MS × zH) :=
    if x1 = 0 then (fX7_differs_b57 A M B s0 (M.1 11)) else
    ob1 (glen (hG A M B) s0) fun v2 =>
    fX7_differs_b57 A M B s0 v2
set_option maxRecDepth 100000 in
set_option maxHeartbeats 4000000 in
theorem wfX7_differs_b43 {X : zX} {A : zH} {out : Int32 × MS × zH} (C : zOK X cX7_differs yX7_differs.cls 7 (some .int) 2 43) (E : zPost X (poI out.1 (hG A out.2.1 out.2.2))) (M : MS) (B : zH) (x1 : Int32) (s0 : Nat) (h : fX7_differs_b43 A M B x1 s0 = some out) : zZ X 43 [(0, .ref A.length), (1, .int x1)] [.ref s0] (hG A M B) := by
  rw [fX7_differs_b43] at h
  refine z_astore_n (pc := 43) C dX7_differs_43 rfl (by decide) (show zput _ _ _ = [(2, .ref s0), (0, .ref A.length), (1, .int x1)] from rfl) ?_
  refine z_iload_n (pc := 44) C 2 dX7_differs_44 rfl rfl ?_
  refine z_if_ne (pc := 45) C dX7_differs_45 (tgt := 55) (by decide) (fun c1 => ?_) (fun c1 => ?_)
  · rw [if_neg c1] at h
    refine z_aload_n (pc := 55) C 0 dX7_differs_55 rfl rfl ?_
    obtain ⟨v2, ev2, h⟩ := ob1_eq h
    refine z_glen (pc := 56) C dX7_differs_56 ev2 ?_
    exact z_subL [1, 0] (wfX7_differs_b57 C E M B s0 v2 h) rfl
  · rw [if_pos c1] at h
    refine z_aload_n (pc := 48) C 1 dX7_differs_48 rfl rfl ?_
    refine z_get (pc := 49) C dX7_differs_49 fl_X7_123 (hM_o A M B) rfl ?_
    refine z_goto (pc := 52) C dX7_differs_52 (tgt := 57) (by decide) ?_
    exact z_subL [1, 0] (wfX7_differs_b57 C E M B s0 (M.1 11) h) rfl
def fX7_differs (A : zH) (M : MS) (B : zH) (x1 : Int32) : Option (Int32 × MS × zH) :=
    zlet (mI M 0 (0 : Int32)) fun M1 =>
    ob1 (fX7_in x1.toInt64 (0 : Int64) ((M1.1 17).toInt64)) fun v2 =>
    if v2 = 0 then (some ((-1 : Int32), M1, B)) else
    if x1 = 0 then (fX7_differs_b43 A M1 B x1 (A.length + 5)) else
    ob1 (rd 30 (M1.2.2.2 15) ((M1.1 17) - x1)) fun oq5 =>
    ob1 oq5 fun qr6 =>
    fX7_differs_b43 A M1 B x1 qr6
set_option maxRecDepth 100000 in
set_option maxHeartbeats 4000000 in
theorem wfX7_differs {X : zX} {A : zH} {out : Int32 × MS × zH} (C : zOK X cX7_differs yX7_differs.cls 7 (some .int) 2 43) (E : zPost X (poI out.1 (hG A out.2.1 out.2.2))) (M : MS) (B : zH) (x1 : Int32) (h : fX7_differs A M B x1 = some out) : zZ X 0 [(0, .ref A.length), (1, .int x1)] [] (hG A M B) := by
  rw [fX7_differs] at h
  refine z_aload_n (pc := 0) C 0 dX7_differs_0 rfl rfl ?_
  refine z_iconst (pc := 1) C dX7_differs_1 (v := (0 : Int32)) (by decide) ?_
  obtain ⟨M1, eM1, h⟩ := zlet_eq h
  refine z_put (pc := 2) C dX7_differs_2 fl_X7_1w (hM_o A M B) (fun _ => rfl) (fun _ => rfl) (Nat.le_of_ble_eq_true rfl) (hMi_0 A B eM1) ?_
  refine z_iload_n (pc := 5) C 1 dX7_differs_5 rfl rfl ?_
  refine z_i2l (pc := 6) C dX7_differs_6 ?_
  refine z_lconst (pc := 7) C dX7_differs_7 (v := (0 : Int64)) (by decide) ?_
  refine z_aload_n (pc := 8) C 0 dX7_differs_8 rfl rfl ?_
  refine z_get (pc := 9) C dX7_differs_9 fl_X7_166 (hM_o A M1 B) rfl ?_
  refine z_i2l (pc := 12) C dX7_differs_12 ?_
  obtain ⟨v2, ev2, h⟩ := ob1_eq h
  refine z_callSi (As := [.long x1.toInt64, .long (0 : Int64), .long ((M1.1 17).toInt64)]) (rest := []) (pc := 13) C dX7_differs_13 ml_X7_21 (kX7_in _ _ _ _ (hG A M1 B) x1.toInt64 (0 : Int64) ((M1.1 17).toInt64) v2 ev2) rfl rfl (Nat.le_of_ble_eq_true rfl) (by decide) ?_
  refine z_if_ne (pc := 16) C dX7_differs_16 (tgt := 21) (by decide) (fun c3 => ?_) (fun c3 => ?_)
  · rw [if_neg c3] at h
    refine z_iload_n (pc := 21) C 1 dX7_differs_21 rfl rfl ?_
    refine z_if_ne (pc := 22) C dX7_differs_22 (tgt := 32) (by decide) (fun c4 => ?_) (fun c4 => ?_)
    · rw [if_neg c4] at h
      refine z_aload_n (pc := 32) C 0 dX7_differs_32 rfl rfl ?_
      refine z_get (pc := 33) C dX7_differs_33 fl_X7_61 (hM_o A M1 B) rfl ?_
      refine z_aload_n (pc := 36) C 0 dX7_differs_36 rfl rfl ?_
      refine z_get (pc := 37) C dX7_differs_37 fl_X7_166 (hM_o A M1 B) rfl ?_
      refine z_iload_n (pc := 40) C 1 dX7_differs_40 rfl rfl ?_
      refine z_isub (pc := 41) C dX7_differs_41 ?_
      obtain ⟨oq5, eoq5, h⟩ := ob1_eq h
      obtain ⟨qr6, eqr6, h⟩ := ob1_eq h
      refine z_ald5 (pc := 42) C dX7_differs_42 (hMa_15 A M1 B) eoq5 eqr6 ?_
      exact z_subL [0, 1] (wfX7_differs_b43 C E M1 B x1 qr6 h) rfl
    · rw [if_pos c4] at h
      refine z_aload_n (pc := 25) C 0 dX7_differs_25 rfl rfl ?_
      refine z_get (pc := 26) C dX7_differs_26 fl_X7_48 (hM_o A M1 B) rfl ?_
      refine z_goto (pc := 29) C dX7_differs_29 (tgt := 43) (by decide) ?_
      exact z_subL [0, 1] (wfX7_differs_b43 C E M1 B x1 (A.length + 5) h) rfl
  · rw [if_pos c3] at h
    refine z_iconst (pc := 19) C dX7_differs_19 (v := (-1 : Int32)) (by decide) ?_
    obtain rfl := Option.some.inj h
    exact z_iret (pc := 20) C E dX7_differs_20 ⟨rfl, rfl⟩
theorem kX7_differs (l : Launch) (D : va_G) (cA : Nat → ClassId) (b : Nat) (A : zH) (M : MS) (B : zH) (x1 : Int32) (out : Int32 × MS × zH) (h : fX7_differs A M B x1 = some out) : zM l D cA b yX7_differs cX7_differs 7 (some .int) 2 43 [.ref A.length, .int x1] (hG A M B) (poI out.1 (hG A out.2.1 out.2.2)) := z_entry rfl (Nat.le_of_ble_eq_true rfl) (fun X C E _ _ _ => wfX7_differs C E M B x1 h)
def fX7_years_b60 (A : zH) (M : MS) (B : zH) (r3 : Nat) (r4 : Nat) (x5 : Int32) : Option (Int32 × MS × zH) :=
    zlet ((M.1 11)) fun y1 =>
    zlet (mI M 1 (0 : Int32)) fun M2 =>
    ob1 (fX7_sumOf M2 (0 : Int32) (M2.1 11)) fun v3 =>
    ob1 (fX7_enters M2 v3.toInt64) fun M4 =>
    ob1 (fX7_pieces M4 ) fun v5 =>
    ob1 (fX7_enters M4 v5.toInt64) fun M6 =>
    ob1 (fX7_enters M6 ((M6.1 9).toInt64)) fun M7 =>
    ob2 (fX7_becomes A M7 B r3 r4) fun M8 B9 =>
    zlet (mI M8 9 x5) fun M10 =>
    some (y1, M10, B9)
set_option maxRecDepth 100000 in
set_option maxHeartbeats 4000000 in
theorem wfX7_years_b60 {X : zX} {A : zH} {out : Int32 × MS × zH} (C : zOK X cX7_years yX7_years.cls 7 (some .int) 6 133) (E : zPost X (poI out.1 (hG A out.2.1 out.2.2))) (M : MS) (B : zH) (r3 : Nat) (r4 : Nat) (x5 : Int32) (h : fX7_years_b60 A M B r3 r4 x5 = some out) : zZ X 60 [(0, .ref A.length), (3, .ref r3), (4, .ref r4), (5, .int x5)] [] (hG A M B) := by
  rw [fX7_years_b60] at h
  refine z_aload_n (pc := 60) C 0 dX7_years_60 rfl rfl ?_
  refine z_get (pc := 61) C dX7_years_61 fl_X7_123 (hM_o A M B) rfl ?_
  obtain ⟨y1, ey1, h⟩ := zlet_eq h
  refine z_topi ey1 ?_
  refine z_istore (pc := 64) C dX7_years_64 (by decide) (show zput _ _ _ = [(6, .int y1), (0, .ref A.length), (3, .ref r3), (4, .ref r4), (5, .int x5)] from rfl) ?_
  refine z_aload_n (pc := 66) C 1 dX7_years_66 rfl rfl ?_
  refine z_iconst (pc := 67) C dX7_years_67 (v := (0 : Int32)) (by decide) ?_
  obtain ⟨M2, eM2, h⟩ := zlet_eq h
  refine z_put (pc := 68) C dX7_years_68 fl_X7_11w (hM_o A M B) (fun _ => rfl) (fun _ => rfl) (Nat.le_of_ble_eq_true rfl) (hMi_1 A B eM2) ?_
  refine z_aload_n (pc := 71) C 1 dX7_years_71 rfl rfl ?_
  refine z_aload_n (pc := 72) C 1 dX7_years_72 rfl rfl ?_
  refine z_iconst (pc := 73) C dX7_years_73 (v := (0 : Int32)) (by decide) ?_
  refine z_aload_n (pc := 74) C 1 dX7_years_74 rfl rfl ?_
  refine z_get (pc := 75) C dX7_years_75 fl_X7_123 (hM_o A M2 B) rfl ?_
  obtain ⟨v3, ev3, h⟩ := ob1_eq h
  refine z_callVi (h := A.length) (As := [.int (0 : Int32), .int (M2.1 11)]) (rest := [.ref A.length]) (pc := 78) C dX7_years_78 ml_X7_367 (kX7_sumOf _ _ _ _ A M2 B (0 : Int32) (M2.1 11) v3 ev3) (hM_o A M2 B) rfl rfl rfl (Nat.le_of_ble_eq_true rfl) (by decide) ?_
  refine z_i2l (pc := 81) C dX7_years_81 ?_
  obtain ⟨M4, eM4, h⟩ := ob1_eq h
  refine z_callVv (h := A.length) (As := [.long v3.toInt64]) (rest := []) (pc := 82) C dX7_years_82 ml_X7_295 (kX7_enters _ _ _ _ A M2 B v3.toInt64 M4 eM4) (hM_o A M2 B) rfl rfl rfl (Nat.le_of_ble_eq_true rfl) (by decide) ?_
  refine z_aload_n (pc := 85) C 1 dX7_years_85 rfl rfl ?_
  refine z_aload_n (pc := 86) C 1 dX7_years_86 rfl rfl ?_
  obtain ⟨v5, ev5, h⟩ := ob1_eq h
  refine z_callVi (h := A.length) (As := []) (rest := [.ref A.length]) (pc := 87) C dX7_years_87 ml_X7_315 (kX7_pieces _ _ _ _ A M4 B  v5 ev5) (hM_o A M4 B) rfl rfl rfl (Nat.le_of_ble_eq_true rfl) (by decide) ?_
  refine z_i2l (pc := 90) C dX7_years_90 ?_
  obtain ⟨M6, eM6, h⟩ := ob1_eq h
  refine z_callVv (h := A.length) (As := [.long v5.toInt64]) (rest := []) (pc := 91) C dX7_years_91 ml_X7_295 (kX7_enters _ _ _ _ A M4 B v5.toInt64 M6 eM6) (hM_o A M4 B) rfl rfl rfl (Nat.le_of_ble_eq_true rfl) (by decide) ?_
  refine z_aload_n (pc := 94) C 1 dX7_years_94 rfl rfl ?_
  refine z_aload_n (pc := 95) C 1 dX7_years_95 rfl rfl ?_
  refine z_get (pc := 96) C dX7_years_96 fl_X7_33 (hM_o A M6 B) rfl ?_
  refine z_i2l (pc := 99) C dX7_years_99 ?_
  obtain ⟨M7, eM7, h⟩ := ob1_eq h
  refine z_callVv (h := A.length) (As := [.long ((M6.1 9).toInt64)]) (rest := []) (pc := 100) C dX7_years_100 ml_X7_295 (kX7_enters _ _ _ _ A M6 B ((M6.1 9).toInt64) M7 eM7) (hM_o A M6 B) rfl rfl rfl (Nat.le_of_ble_eq_true rfl) (by decide) ?_
  refine z_aload_n (pc := 103) C 1 dX7_years_103 rfl rfl ?_
  refine z_aload_n (pc := 104) C 2 dX7_years_104 rfl rfl ?_
  refine z_aload (pc := 105) C 3 dX7_years_105 rfl ?_
  obtain ⟨M8, B9, eM8, h⟩ := ob2_eq h
  refine z_callVv (h := A.length) (As := [.ref r3, .ref r4]) (rest := []) (pc := 107) C dX7_years_107 ml_X7_258 (kX7_becomes _ _ _ _ A M7 B r3 r4 (M8, B9) eM8) (hM_o A M7 B) rfl rfl rfl (Nat.le_of_ble_eq_true rfl) (by decide) ?_
  refine z_aload_n (pc := 110) C 1 dX7_years_110 rfl rfl ?_
  refine z_iload (pc := 111) C 4 dX7_years_111 rfl ?_
  obtain ⟨M10, eM10, h⟩ := zlet_eq h
  refine z_put (pc := 113) C dX7_years_113 fl_X7_33w (hM_o A M8 B9) (fun _ => rfl) (fun _ => rfl) (Nat.le_of_ble_eq_true rfl) (hMi_9 A B9 eM10) ?_
  refine z_iload (pc := 116) C 0 dX7_years_116 rfl ?_
  obtain rfl := Option.some.inj h
  exact z_iret (pc := 118) C E dX7_years_118 ⟨rfl, rfl⟩
def fX7_years_b44 (A : zH) : Nat → MS → zH → Int32 → Nat → Nat → Int32 → Int32 → Option (Int32 × MS × zH)
  | 0, _, _, _, _, _, _, _ => none
  | n + 1, M, B, x2, r3, r4, x5, x6 =>
    if x2 ≤ x6 then (fX7_years_b60 A M B r3 r4 x5) else
    ob1 (fX7_drawnEdit M ) fun M2 =>
    zlet (x6 + (1 : Int32)) fun y3 =>
    (fX7_years_b44 A n) M2 B x2 r3 r4 x5 y3
set_option maxRecDepth 100000 in
set_option maxHeartbeats 4000000 in
theorem wfX7_years_b44 {X : zX} {A : zH} {out : Int32 × MS × zH} (C : zOK X cX7_years yX7_years.cls 7 (some .int) 6 133) (E : zPost X (poI out.1 (hG A out.2.1 out.2.2))) : ∀ (n : Nat) (M : MS) (B : zH) (x2 : Int32) (r3 : Nat) (r4 : Nat) (x5 : Int32) (x6 : Int32) (h : fX7_years_b44 A n M B x2 r3 r4 x5 x6 = some out), zZ X 44 [(0, .ref A.length), (2, .int x2), (3, .ref r3), (4, .ref r4), (5, .int x5), (6, .int x6)] [] (hG A M B) := by
  intro n
  induction n with
  | zero => intro M B x2 r3 r4 x5 x6 h; cases h
  | succ n ih =>
    intro M B x2 r3 r4 x5 x6 h
    rw [fX7_years_b44] at h
    refine z_iload (pc := 44) C 5 dX7_years_44 rfl ?_
    refine z_iload_n (pc := 46) C 1 dX7_years_46 rfl rfl ?_
    refine z_ic_ge (pc := 47) C dX7_years_47 (tgt := 60) (by decide) (fun c1 => ?_) (fun c1 => ?_)
    · rw [if_pos c1] at h
      exact z_subL [0, 2, 3, 4] (wfX7_years_b60 C E M B r3 r4 x5 h) rfl
    · rw [if_neg c1] at h
      refine z_aload_n (pc := 50) C 0 dX7_years_50 rfl rfl ?_
      obtain ⟨M2, eM2, h⟩ := ob1_eq h
      refine z_callVv (h := A.length) (As := []) (rest := []) (pc := 51) C dX7_years_51 ml_X7_382 (kX7_drawnEdit _ _ _ _ A M B  M2 eM2) (hM_o A M B) rfl rfl rfl (Nat.le_of_ble_eq_true rfl) (by decide) ?_
      obtain ⟨y3, ey3, h⟩ := zlet_eq h
      refine z_iinc (pc := 54) (v := y3) C 5 dX7_years_54 rfl (by rw [ey3]; rfl) (by decide) (show zput _ _ _ = [(6, .int y3), (0, .ref A.length), (2, .int x2), (3, .ref r3), (4, .ref r4), (5, .int x5)] from rfl) ?_
      refine z_goto (pc := 57) C dX7_years_57 (tgt := 44) (by decide) ?_
      exact z_subL [1, 2, 3, 4, 5, 0] (ih M2 B x2 r3 r4 x5 y3 h) rfl
def fX7_years (A : zH) (M : MS) (B : zH) (x1 : Int32) (x2 : Int32) : Option (Int32 × MS × zH) :=
    zlet (mI M 0 (0 : Int32)) fun M1 =>
    ob1 (fX7_in x2.toInt64 (1 : Int64) (40 : Int64)) fun v2 =>
    if v2 = 0 then (some ((-1 : Int32), M1, B)) else
    ob3 (fX7_bookCopy A M1 B ) fun qv6 M4 B5 =>
    ob3 (fX7_marksCopy A M4 B5 ) fun qv9 M7 B8 =>
    zlet ((M7.1 9)) fun y10 =>
    zlet (mI M7 33 x1) fun M11 =>
    fX7_years_b44 A FU M11 B8 x2 qv6 qv9 y10 (0 : Int32)
set_option maxRecDepth 100000 in
set_option maxHeartbeats 4000000 in
theorem wfX7_years {X : zX} {A : zH} {out : Int32 × MS × zH} (C : zOK X cX7_years yX7_years.cls 7 (some .int) 6 133) (E : zPost X (poI out.1 (hG A out.2.1 out.2.2))) (M : MS) (B : zH) (x1 : Int32) (x2 : Int32) (h : fX7_years A M B x1 x2 = some out) : zZ X 0 [(0, .ref A.length), (1, .int x1), (2, .int x2)] [] (hG A M B) := by
  rw [fX7_years] at h
  refine z_aload_n (pc := 0) C 0 dX7_years_0 rfl rfl ?_
  refine z_iconst (pc := 1) C dX7_years_1 (v := (0 : Int32)) (by decide) ?_
  obtain ⟨M1, eM1, h⟩ := zlet_eq h
  refine z_put (pc := 2) C dX7_years_2 fl_X7_1w (hM_o A M B) (fun _ => rfl) (fun _ => rfl) (Nat.le_of_ble_eq_true rfl) (hMi_0 A B eM1) ?_
  refine z_iload_n (pc := 5) C 2 dX7_years_5 rfl rfl ?_
  refine z_i2l (pc := 6) C dX7_years_6 ?_
  refine z_lconst (pc := 7) C dX7_years_7 (v := (1 : Int64)) (by decide) ?_
  refine z_ldc2 (pc := 8) C dX7_years_8 cn_X7_380 ?_
  obtain ⟨v2, ev2, h⟩ := ob1_eq h
  refine z_callSi (As := [.long x2.toInt64, .long (1 : Int64), .long (40 : Int64)]) (rest := []) (pc := 11) C dX7_years_11 ml_X7_21 (kX7_in _ _ _ _ (hG A M1 B) x2.toInt64 (1 : Int64) (40 : Int64) v2 ev2) rfl rfl (Nat.le_of_ble_eq_true rfl) (by decide) ?_
  refine z_if_ne (pc := 14) C dX7_years_14 (tgt := 19) (by decide) (fun c3 => ?_) (fun c3 => ?_)
  · rw [if_neg c3] at h
    refine z_aload_n (pc := 19) C 0 dX7_years_19 rfl rfl ?_
    obtain ⟨qv6, M4, B5, eqv6, h⟩ := ob3_eq h
    refine z_callVr (h := A.length) (As := []) (rest := []) (pc := 20) C dX7_years_20 ml_X7_169 (kX7_bookCopy _ _ _ _ A M1 B  (qv6, M4, B5) eqv6) (hM_o A M1 B) rfl rfl rfl (Nat.le_of_ble_eq_true rfl) (by decide) ?_
    refine z_astore_n (pc := 23) C dX7_years_23 rfl (by decide) (show zput _ _ _ = [(3, .ref qv6), (0, .ref A.length), (1, .int x1), (2, .int x2)] from rfl) ?_
    refine z_aload_n (pc := 24) C 1 dX7_years_24 rfl rfl ?_
    obtain ⟨qv9, M7, B8, eqv9, h⟩ := ob3_eq h
    refine z_callVr (h := A.length) (As := []) (rest := []) (pc := 25) C dX7_years_25 ml_X7_173 (kX7_marksCopy _ _ _ _ A M4 B5  (qv9, M7, B8) eqv9) (hM_o A M4 B5) rfl rfl rfl (Nat.le_of_ble_eq_true rfl) (by decide) ?_
    refine z_astore (pc := 28) C dX7_years_28 (by decide) (show zput _ _ _ = [(4, .ref qv9), (3, .ref qv6), (0, .ref A.length), (1, .int x1), (2, .int x2)] from rfl) ?_
    refine z_aload_n (pc := 30) C 2 dX7_years_30 rfl rfl ?_
    refine z_get (pc := 31) C dX7_years_31 fl_X7_33 (hM_o A M7 B8) rfl ?_
    obtain ⟨y10, ey10, h⟩ := zlet_eq h
    refine z_topi ey10 ?_
    refine z_istore (pc := 34) C dX7_years_34 (by decide) (show zput _ _ _ = [(5, .int y10), (4, .ref qv9), (3, .ref qv6), (0, .ref A.length), (1, .int x1), (2, .int x2)] from rfl) ?_
    refine z_aload_n (pc := 36) C 3 dX7_years_36 rfl rfl ?_
    refine z_iload_n (pc := 37) C 4 dX7_years_37 rfl rfl ?_
    obtain ⟨M11, eM11, h⟩ := zlet_eq h
    refine z_put (pc := 38) C dX7_years_38 fl_X7_373w (hM_o A M7 B8) (fun _ => rfl) (fun _ => rfl) (Nat.le_of_ble_eq_true rfl) (hMi_33 A B8 eM11) ?_
    refine z_iconst (pc := 41) C dX7_years_41 (v := (0 : Int32)) (by decide) ?_
    refine z_istore (pc := 42) C dX7_years_42 (by decide) (show zput _ _ _ = [(6, .int (0 : Int32)), (5, .int y10), (4, .ref qv9), (3, .ref qv6), (0, .ref A.length), (1, .int x1), (2, .int x2)] from rfl) ?_
    exact z_subL [4, 6, 3, 2, 1, 0] (wfX7_years_b44 C E FU M11 B8 x2 qv6 qv9 y10 (0 : Int32) h) rfl
  · rw [if_pos c3] at h
    refine z_iconst (pc := 17) C dX7_years_17 (v := (-1 : Int32)) (by decide) ?_
    obtain rfl := Option.some.inj h
    exact z_iret (pc := 18) C E dX7_years_18 ⟨rfl, rfl⟩
theorem kX7_years (l : Launch) (D : va_G) (cA : Nat → ClassId) (b : Nat) (A : zH) (M : MS) (B : zH) (x1 : Int32) (x2 : Int32) (out : Int32 × MS × zH) (h : fX7_years A M B x1 x2 = some out) : zM l D cA b yX7_years cX7_years 7 (some .int) 6 133 [.ref A.length, .int x1, .int x2] (hG A M B) (poI out.1 (hG A out.2.1 out.2.2)) := z_entry rfl (Nat.le_of_ble_eq_true rfl) (fun X C E _ _ _ => wfX7_years C E M B x1 x2 h)
def fX7_keep (A : zH) (M : MS) (B : zH) (x1 : Int32) : Option (Int32 × MS × zH) :=
    zlet (mI M 0 (0 : Int32)) fun M1 =>
    ob1 (fX7_in x1.toInt64 (0 : Int64) (2 : Int64)) fun v2 =>
    if v2 = 0 then (some ((0 : Int32), M1, B)) else
    ob3 (fX7_bookCopy A M1 B ) fun qv6 M4 B5 =>
    ob1 (gget (hG A M4 B5) qv6) fun z8 =>
    ob1 (wr 3 x1 (mQ M4 22 (va_up (M4.2.2.2 22) x1.toNatClampNeg (some qv6)))) fun M7 =>
    ob3 (fX7_marksCopy A M7 B5 ) fun qv11 M9 B10 =>
    ob1 (gget (hG A M9 B10) qv11) fun z13 =>
    ob1 (wr 3 x1 (mQ M9 23 (va_up (M9.2.2.2 23) x1.toNatClampNeg (some qv11)))) fun M12 =>
    some ((1 : Int32), M12, B10)
set_option maxRecDepth 100000 in
set_option maxHeartbeats 4000000 in
theorem wfX7_keep {X : zX} {A : zH} {out : Int32 × MS × zH} (C : zOK X cX7_keep yX7_keep.cls 2 (some .boolean) 1 25) (E : zPost X (poI out.1 (hG A out.2.1 out.2.2))) (M : MS) (B : zH) (x1 : Int32) (h : fX7_keep A M B x1 = some out) : zZ X 0 [(0, .ref A.length), (1, .int x1)] [] (hG A M B) := by
  rw [fX7_keep] at h
  refine z_aload_n (pc := 0) C 0 dX7_keep_0 rfl rfl ?_
  refine z_iconst (pc := 1) C dX7_keep_1 (v := (0 : Int32)) (by decide) ?_
  obtain ⟨M1, eM1, h⟩ := zlet_eq h
  refine z_put (pc := 2) C dX7_keep_2 fl_X7_1w (hM_o A M B) (fun _ => rfl) (fun _ => rfl) (Nat.le_of_ble_eq_true rfl) (hMi_0 A B eM1) ?_
  refine z_iload_n (pc := 5) C 1 dX7_keep_5 rfl rfl ?_
  refine z_i2l (pc := 6) C dX7_keep_6 ?_
  refine z_lconst (pc := 7) C dX7_keep_7 (v := (0 : Int64)) (by decide) ?_
  refine z_ldc2 (pc := 8) C dX7_keep_8 cn_X7_194 ?_
  obtain ⟨v2, ev2, h⟩ := ob1_eq h
  refine z_callSi (As := [.long x1.toInt64, .long (0 : Int64), .long (2 : Int64)]) (rest := []) (pc := 11) C dX7_keep_11 ml_X7_21 (kX7_in _ _ _ _ (hG A M1 B) x1.toInt64 (0 : Int64) (2 : Int64) v2 ev2) rfl rfl (Nat.le_of_ble_eq_true rfl) (by decide) ?_
  refine z_if_ne (pc := 14) C dX7_keep_14 (tgt := 19) (by decide) (fun c3 => ?_) (fun c3 => ?_)
  · rw [if_neg c3] at h
    refine z_aload_n (pc := 19) C 0 dX7_keep_19 rfl rfl ?_
    refine z_get (pc := 20) C dX7_keep_20 fl_X7_77 (hM_o A M1 B) rfl ?_
    refine z_iload_n (pc := 23) C 1 dX7_keep_23 rfl rfl ?_
    refine z_aload_n (pc := 24) C 0 dX7_keep_24 rfl rfl ?_
    obtain ⟨qv6, M4, B5, eqv6, h⟩ := ob3_eq h
    refine z_callVr (h := A.length) (As := []) (rest := [.int x1, .ref (A.length + 13)]) (pc := 25) C dX7_keep_25 ml_X7_169 (kX7_bookCopy _ _ _ _ A M1 B  (qv6, M4, B5) eqv6) (hM_o A M1 B) rfl rfl rfl (Nat.le_of_ble_eq_true rfl) (by decide) ?_
    obtain ⟨z8, ez8, h⟩ := ob1_eq h
    obtain ⟨M7, eM7, h⟩ := ob1_eq h
    refine z_aast5 (pc := 28) C dX7_keep_28 (hMa_22 A M4 B5) (gget_eq ez8) (wr_eq eM7).1 (hMs_22 A B5 (wr_eq eM7).2) ?_
    refine z_aload_n (pc := 29) C 0 dX7_keep_29 rfl rfl ?_
    refine z_get (pc := 30) C dX7_keep_30 fl_X7_80 (hM_o A M7 B5) rfl ?_
    refine z_iload_n (pc := 33) C 1 dX7_keep_33 rfl rfl ?_
    refine z_aload_n (pc := 34) C 0 dX7_keep_34 rfl rfl ?_
    obtain ⟨qv11, M9, B10, eqv11, h⟩ := ob3_eq h
    refine z_callVr (h := A.length) (As := []) (rest := [.int x1, .ref (A.length + 14)]) (pc := 35) C dX7_keep_35 ml_X7_173 (kX7_marksCopy _ _ _ _ A M7 B5  (qv11, M9, B10) eqv11) (hM_o A M7 B5) rfl rfl rfl (Nat.le_of_ble_eq_true rfl) (by decide) ?_
    obtain ⟨z13, ez13, h⟩ := ob1_eq h
    obtain ⟨M12, eM12, h⟩ := ob1_eq h
    refine z_aast5 (pc := 38) C dX7_keep_38 (hMa_23 A M9 B10) (gget_eq ez13) (wr_eq eM12).1 (hMs_23 A B10 (wr_eq eM12).2) ?_
    refine z_iconst (pc := 39) C dX7_keep_39 (v := (1 : Int32)) (by decide) ?_
    obtain rfl := Option.some.inj h
    exact z_zret (pc := 40) C E dX7_keep_40 rfl ⟨rfl, rfl⟩
  · rw [if_pos c3] at h
    refine z_iconst (pc := 17) C dX7_keep_17 (v := (0 : Int32)) (by decide) ?_
    obtain rfl := Option.some.inj h
    exact z_zret (pc := 18) C E dX7_keep_18 rfl ⟨rfl, rfl⟩
theorem kX7_keep (l : Launch) (D : va_G) (cA : Nat → ClassId) (b : Nat) (A : zH) (M : MS) (B : zH) (x1 : Int32) (out : Int32 × MS × zH) (h : fX7_keep A M B x1 = some out) : zM l D cA b yX7_keep cX7_keep 2 (some .boolean) 1 25 [.ref A.length, .int x1] (hG A M B) (poI out.1 (hG A out.2.1 out.2.2)) := z_entry rfl (Nat.le_of_ble_eq_true rfl) (fun X C E _ _ _ => wfX7_keep C E M B x1 h)
def fX7_again (A : zH) (M : MS) (B : zH) (x1 : Int32) : Option (Int32 × MS × zH) :=
    zlet (mI M 0 (0 : Int32)) fun M1 =>
    ob1 (fX7_in x1.toInt64 (0 : Int64) (2 : Int64)) fun v2 =>
    if v2 = 0 then (some ((0 : Int32), M1, B)) else
    ob1 (rd 3 (M1.2.2.2 22) x1) fun oq4 =>
    if oq4 = none then (some ((0 : Int32), M1, B)) else
    ob1 (rd 3 (M1.2.2.2 22) x1) fun oq6 =>
    ob1 oq6 fun qr7 =>
    ob1 (rd 3 (M1.2.2.2 23) x1) fun oq8 =>
    ob1 oq8 fun qr9 =>
    ob2 (fX7_becomes A M1 B qr7 qr9) fun M10 B11 =>
    ob1 (fX7_forgetsEdits M10 ) fun M12 =>
    some ((1 : Int32), M12, B11)
set_option maxRecDepth 100000 in
set_option maxHeartbeats 4000000 in
theorem wfX7_again {X : zX} {A : zH} {out : Int32 × MS × zH} (C : zOK X cX7_again yX7_again.cls 2 (some .boolean) 1 25) (E : zPost X (poI out.1 (hG A out.2.1 out.2.2))) (M : MS) (B : zH) (x1 : Int32) (h : fX7_again A M B x1 = some out) : zZ X 0 [(0, .ref A.length), (1, .int x1)] [] (hG A M B) := by
  rw [fX7_again] at h
  refine z_aload_n (pc := 0) C 0 dX7_again_0 rfl rfl ?_
  refine z_iconst (pc := 1) C dX7_again_1 (v := (0 : Int32)) (by decide) ?_
  obtain ⟨M1, eM1, h⟩ := zlet_eq h
  refine z_put (pc := 2) C dX7_again_2 fl_X7_1w (hM_o A M B) (fun _ => rfl) (fun _ => rfl) (Nat.le_of_ble_eq_true rfl) (hMi_0 A B eM1) ?_
  refine z_iload_n (pc := 5) C 1 dX7_again_5 rfl rfl ?_
  refine z_i2l (pc := 6) C dX7_again_6 ?_
  refine z_lconst (pc := 7) C dX7_again_7 (v := (0 : Int64)) (by decide) ?_
  refine z_ldc2 (pc := 8) C dX7_again_8 cn_X7_194 ?_
  obtain ⟨v2, ev2, h⟩ := ob1_eq h
  refine z_callSi (As := [.long x1.toInt64, .long (0 : Int64), .long (2 : Int64)]) (rest := []) (pc := 11) C dX7_again_11 ml_X7_21 (kX7_in _ _ _ _ (hG A M1 B) x1.toInt64 (0 : Int64) (2 : Int64) v2 ev2) rfl rfl (Nat.le_of_ble_eq_true rfl) (by decide) ?_
  refine z_if_eq (pc := 14) C dX7_again_14 (tgt := 26) (by decide) (fun c3 => ?_) (fun c3 => ?_)
  · rw [if_pos c3] at h
    refine z_iconst (pc := 26) C dX7_again_26 (v := (0 : Int32)) (by decide) ?_
    obtain rfl := Option.some.inj h
    exact z_zret (pc := 27) C E dX7_again_27 rfl ⟨rfl, rfl⟩
  · rw [if_neg c3] at h
    refine z_aload_n (pc := 17) C 0 dX7_again_17 rfl rfl ?_
    refine z_get (pc := 18) C dX7_again_18 fl_X7_77 (hM_o A M1 B) rfl ?_
    refine z_iload_n (pc := 21) C 1 dX7_again_21 rfl rfl ?_
    obtain ⟨oq4, eoq4, h⟩ := ob1_eq h
    refine z_ald5n (pc := 22) C dX7_again_22 (hMa_22 A M1 B) eoq4 ?_
    refine z_nonnullq (pc := 23) C dX7_again_23 (tgt := 28) (by decide) (fun c5 => ?_) (fun c5 => ?_)
    · rw [if_neg c5] at h
      refine z_aload_n (pc := 28) C 0 dX7_again_28 rfl rfl ?_
      refine z_aload_n (pc := 29) C 0 dX7_again_29 rfl rfl ?_
      refine z_get (pc := 30) C dX7_again_30 fl_X7_77 (hM_o A M1 B) rfl ?_
      refine z_iload_n (pc := 33) C 1 dX7_again_33 rfl rfl ?_
      obtain ⟨oq6, eoq6, h⟩ := ob1_eq h
      obtain ⟨qr7, eqr7, h⟩ := ob1_eq h
      refine z_ald5 (pc := 34) C dX7_again_34 (hMa_22 A M1 B) eoq6 eqr7 ?_
      refine z_aload_n (pc := 35) C 0 dX7_again_35 rfl rfl ?_
      refine z_get (pc := 36) C dX7_again_36 fl_X7_80 (hM_o A M1 B) rfl ?_
      refine z_iload_n (pc := 39) C 1 dX7_again_39 rfl rfl ?_
      obtain ⟨oq8, eoq8, h⟩ := ob1_eq h
      obtain ⟨qr9, eqr9, h⟩ := ob1_eq h
      refine z_ald5 (pc := 40) C dX7_again_40 (hMa_23 A M1 B) eoq8 eqr9 ?_
      obtain ⟨M10, B11, eM10, h⟩ := ob2_eq h
      refine z_callVv (h := A.length) (As := [.ref qr7, .ref qr9]) (rest := []) (pc := 41) C dX7_again_41 ml_X7_258 (kX7_becomes _ _ _ _ A M1 B qr7 qr9 (M10, B11) eM10) (hM_o A M1 B) rfl rfl rfl (Nat.le_of_ble_eq_true rfl) (by decide) ?_
      refine z_aload_n (pc := 44) C 0 dX7_again_44 rfl rfl ?_
      obtain ⟨M12, eM12, h⟩ := ob1_eq h
      refine z_callVv (h := A.length) (As := []) (rest := []) (pc := 45) C dX7_again_45 ml_X7_191 (kX7_forgetsEdits _ _ _ _ A M10 B11  M12 eM12) (hM_o A M10 B11) rfl rfl rfl (Nat.le_of_ble_eq_true rfl) (by decide) ?_
      refine z_iconst (pc := 48) C dX7_again_48 (v := (1 : Int32)) (by decide) ?_
      obtain rfl := Option.some.inj h
      exact z_zret (pc := 49) C E dX7_again_49 rfl ⟨rfl, rfl⟩
    · rw [if_pos c5] at h
      refine z_iconst (pc := 26) C dX7_again_26 (v := (0 : Int32)) (by decide) ?_
      obtain rfl := Option.some.inj h
      exact z_zret (pc := 27) C E dX7_again_27 rfl ⟨rfl, rfl⟩
theorem kX7_again (l : Launch) (D : va_G) (cA : Nat → ClassId) (b : Nat) (A : zH) (M : MS) (B : zH) (x1 : Int32) (out : Int32 × MS × zH) (h : fX7_again A M B x1 = some out) : zM l D cA b yX7_again cX7_again 2 (some .boolean) 1 25 [.ref A.length, .int x1] (hG A M B) (poI out.1 (hG A out.2.1 out.2.2)) := z_entry rfl (Nat.le_of_ble_eq_true rfl) (fun X C E _ _ _ => wfX7_again C E M B x1 h)
