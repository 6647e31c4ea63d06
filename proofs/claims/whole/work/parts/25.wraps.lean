/-! the contracts of the three -/
def poX (r : Int32) (G1 : zH) : Option Value → zH → Prop := fun v G => v = some (.int r) ∧ ∃ O : zH, zO1 O ∧ G = G1 ++ O
theorem zs_app : ∀ (A B : zH), zs (A ++ B) = zs A + zs B
  | [], B => by show zs B = 0 + zs B; omega
  | e :: A, B => by show zsz e + zs (A ++ B) = zsz e + zs A + zs B; rw [zs_app A B]; omega
theorem zL_made {G1 O : zH} (hO : zO1 O) (hg : G1.length + 1 ≤ zGL) (hk : zs G1 + 6 ≤ zKL) : zL (G1 ++ O) := by
  obtain ⟨a, b, -⟩ := hO
  refine ⟨?_, ?_⟩
  · rw [List.length_append]; omega
  · rw [zs_app]; omega
theorem kL_store (l : Launch) (D : va_G) (cA : Nat → ClassId) (b : Nat) (G : zH) (r0 ro : Nat) (x1 x2 r : Int32) (G1 G2 : zH) {fs : List Value} (he : G[r0]? = some (.inr (6, fs))) (h : fX6_store G r0 x1 x2 = some (r, G1)) (hw : jW G1 ro 0 r.toInt64 = some G2) : zMW l D cA b yL_store cL_store 5 (some .int) [(0, 10, 13, 13)] 9 209 [.ref r0, .int x1, .int x2, .ref ro] G (poI 0 G2) :=
  z_entryW rfl (Nat.le_of_ble_eq_true rfl) (fun X C E el eD eA eb h3 ht => by
    refine z_aload_n C 3 dL_store_0 rfl rfl ?_
    refine z_iconst (v := 0) C dL_store_1 rfl ?_
    refine z_aload_n C 0 dL_store_2 rfl rfl ?_
    refine z_iload_n C 1 dL_store_3 rfl rfl ?_
    refine z_iload_n C 2 dL_store_4 rfl rfl ?_
    refine z_callVi (h := r0) (As := [.int x1, .int x2]) (rest := [.int 0, .ref ro]) C dL_store_5 ml_L_7 (kX6_store _ _ _ _ G r0 x1 x2 (r, G1) h) he rfl rfl rfl (Nat.le_of_ble_eq_true rfl) (by decide) ?_
    refine z_i2l C dL_store_8 ?_
    refine z_jW C dL_store_9 hw ?_
    refine z_goto (tgt := 17) C dL_store_10 rfl ?_
    refine z_iconst (v := 0) C dL_store_17 rfl ?_
    exact z_iret C E dL_store_18 ⟨rfl, rfl⟩)
theorem xL_store (l : Launch) (hl : l.stackTraces = false) (D : va_G) (cA : Nat → ClassId) (b : Nat) (G : zH) (r0 ro : Nat) (x1 x2 : Int32) (G1 : zH) {fs : List Value} (he : G[r0]? = some (.inr (6, fs))) (h : tX6_store G r0 x1 x2 = some G1) (hg : G1.length + 1 ≤ zGL) (hk : zs G1 + 6 ≤ zKL) : zMW l D cA b yL_store cL_store 5 (some .int) [(0, 10, 13, 13)] 9 209 [.ref r0, .int x1, .int x2, .ref ro] G (poX 1 G1) :=
  z_entryW rfl (Nat.le_of_ble_eq_true rfl) (fun X C E el eD eA eb h3 ht => by
    refine z_aload_n C 3 dL_store_0 rfl rfl ?_
    refine z_iconst (v := 0) C dL_store_1 rfl ?_
    refine z_aload_n C 0 dL_store_2 rfl rfl ?_
    refine z_iload_n C 1 dL_store_3 rfl rfl ?_
    refine z_iload_n C 2 dL_store_4 rfl rfl ?_
    refine z_callVX (h := r0) (As := [.int x1, .int x2]) (rest := [.int 0, .ref ro]) C h3 dL_store_5 ml_L_7 (tkX6_store _ (by rw [el]; exact hl) _ _ _ G r0 x1 x2 G1 h hg hk) he rfl rfl rfl (Nat.le_of_ble_eq_true rfl) (by decide) ⟨0, 10, 13, 13⟩ ht rfl (by decide) ck_L_13 (fun O hO => ?_)
    refine z_hd C dL_store_13 (by decide) (zL_made hO hg hk) ?_
    refine z_iconst (v := 1) C dL_store_15 rfl ?_
    exact z_iret C E dL_store_16 ⟨rfl, O, hO, rfl⟩)
theorem kL_piece (l : Launch) (D : va_G) (cA : Nat → ClassId) (b : Nat) (G : zH) (r0 ro : Nat) (x1 x2 r : Int32) (G1 G2 : zH) {fs : List Value} (he : G[r0]? = some (.inr (6, fs))) (h : fX6_piece G r0 x1 x2 = some (r, G1)) (hw : jW G1 ro 0 r.toInt64 = some G2) : zMW l D cA b yL_piece cL_piece 5 (some .int) [(0, 10, 13, 13)] 9 209 [.ref r0, .int x1, .int x2, .ref ro] G (poI 0 G2) :=
  z_entryW rfl (Nat.le_of_ble_eq_true rfl) (fun X C E el eD eA eb h3 ht => by
    refine z_aload_n C 3 dL_piece_0 rfl rfl ?_
    refine z_iconst (v := 0) C dL_piece_1 rfl ?_
    refine z_aload_n C 0 dL_piece_2 rfl rfl ?_
    refine z_iload_n C 1 dL_piece_3 rfl rfl ?_
    refine z_iload_n C 2 dL_piece_4 rfl rfl ?_
    refine z_callVi (h := r0) (As := [.int x1, .int x2]) (rest := [.int 0, .ref ro]) C dL_piece_5 ml_L_15 (kX6_piece _ _ _ _ G r0 x1 x2 (r, G1) h) he rfl rfl rfl (Nat.le_of_ble_eq_true rfl) (by decide) ?_
    refine z_i2l C dL_piece_8 ?_
    refine z_jW C dL_piece_9 hw ?_
    refine z_goto (tgt := 17) C dL_piece_10 rfl ?_
    refine z_iconst (v := 0) C dL_piece_17 rfl ?_
    exact z_iret C E dL_piece_18 ⟨rfl, rfl⟩)
theorem xL_piece (l : Launch) (hl : l.stackTraces = false) (D : va_G) (cA : Nat → ClassId) (b : Nat) (G : zH) (r0 ro : Nat) (x1 x2 : Int32) (G1 : zH) {fs : List Value} (he : G[r0]? = some (.inr (6, fs))) (h : tX6_piece G r0 x1 x2 = some G1) (hg : G1.length + 1 ≤ zGL) (hk : zs G1 + 6 ≤ zKL) : zMW l D cA b yL_piece cL_piece 5 (some .int) [(0, 10, 13, 13)] 9 209 [.ref r0, .int x1, .int x2, .ref ro] G (poX 1 G1) :=
  z_entryW rfl (Nat.le_of_ble_eq_true rfl) (fun X C E el eD eA eb h3 ht => by
    refine z_aload_n C 3 dL_piece_0 rfl rfl ?_
    refine z_iconst (v := 0) C dL_piece_1 rfl ?_
    refine z_aload_n C 0 dL_piece_2 rfl rfl ?_
    refine z_iload_n C 1 dL_piece_3 rfl rfl ?_
    refine z_iload_n C 2 dL_piece_4 rfl rfl ?_
    refine z_callVX (h := r0) (As := [.int x1, .int x2]) (rest := [.int 0, .ref ro]) C h3 dL_piece_5 ml_L_15 (tkX6_piece _ (by rw [el]; exact hl) _ _ _ G r0 x1 x2 G1 h hg hk) he rfl rfl rfl (Nat.le_of_ble_eq_true rfl) (by decide) ⟨0, 10, 13, 13⟩ ht rfl (by decide) ck_L_13 (fun O hO => ?_)
    refine z_hd C dL_piece_13 (by decide) (zL_made hO hg hk) ?_
    refine z_iconst (v := 1) C dL_piece_15 rfl ?_
    exact z_iret C E dL_piece_16 ⟨rfl, O, hO, rfl⟩)
theorem kL_row (l : Launch) (D : va_G) (cA : Nat → ClassId) (b : Nat) (G : zH) (r0 ro : Nat) (x1 : Int32) (r : Int64) (G2 : zH) {fs : List Value} (he : G[r0]? = some (.inr (6, fs))) (h : fX6_row G r0 x1 = some r) (hw : jW G ro 0 r = some G2) : zMW l D cA b yL_row cL_row 4 (some .int) [(0, 8, 11, 13)] 9 209 [.ref r0, .int x1, .ref ro] G (poI 0 G2) :=
  z_entryW rfl (Nat.le_of_ble_eq_true rfl) (fun X C E el eD eA eb h3 ht => by
    refine z_aload_n C 2 dL_row_0 rfl rfl ?_
    refine z_iconst (v := 0) C dL_row_1 rfl ?_
    refine z_aload_n C 0 dL_row_2 rfl rfl ?_
    refine z_iload_n C 1 dL_row_3 rfl rfl ?_
    refine z_callVl (h := r0) (As := [.int x1]) (rest := [.int 0, .ref ro]) C dL_row_4 ml_L_18 (kX6_row _ _ _ _ G r0 x1 r h) he rfl rfl rfl (Nat.le_of_ble_eq_true rfl) (by decide) ?_
    refine z_jW C dL_row_7 hw ?_
    refine z_goto (tgt := 14) C dL_row_8 rfl ?_
    refine z_iconst (v := 0) C dL_row_14 rfl ?_
    exact z_iret C E dL_row_15 ⟨rfl, rfl⟩)
theorem xL_row (l : Launch) (hl : l.stackTraces = false) (D : va_G) (cA : Nat → ClassId) (b : Nat) (G : zH) (r0 ro : Nat) (x1 : Int32) (G1 : zH) {fs : List Value} (he : G[r0]? = some (.inr (6, fs))) (h : tX6_row G r0 x1 = some G1) (hg : G1.length + 1 ≤ zGL) (hk : zs G1 + 6 ≤ zKL) : zMW l D cA b yL_row cL_row 4 (some .int) [(0, 8, 11, 13)] 9 209 [.ref r0, .int x1, .ref ro] G (poX 1 G1) :=
  z_entryW rfl (Nat.le_of_ble_eq_true rfl) (fun X C E el eD eA eb h3 ht => by
    refine z_aload_n C 2 dL_row_0 rfl rfl ?_
    refine z_iconst (v := 0) C dL_row_1 rfl ?_
    refine z_aload_n C 0 dL_row_2 rfl rfl ?_
    refine z_iload_n C 1 dL_row_3 rfl rfl ?_
    refine z_callVX (h := r0) (As := [.int x1]) (rest := [.int 0, .ref ro]) C h3 dL_row_4 ml_L_18 (tkX6_row _ (by rw [el]; exact hl) _ _ _ G r0 x1 G1 h hg hk) he rfl rfl rfl (Nat.le_of_ble_eq_true rfl) (by decide) ⟨0, 8, 11, 13⟩ ht rfl (by decide) ck_L_13 (fun O hO => ?_)
    refine z_hd_n C dL_row_11 rfl (by decide) (zL_made hO hg hk) ?_
    refine z_iconst (v := 1) C dL_row_12 rfl ?_
    exact z_iret C E dL_row_13 ⟨rfl, O, hO, rfl⟩)
