/-! the law's loop out of the operations alone -/
theorem law_run {X : zX} {b0 L : Nat} {xs : Nat → Int32} {Inv : Nat → zH → Prop} (C : LC X) (hl : X.1.2.1.stackTraces = false) (h30 : zX3 X.2.2.1.2.2.1 X.1.2.2.2.2) (hX : va_X b0 L xs X.1.2.2.2.2 X.1.2.2.2.2.heap) (hbl : b0 < X.1.2.2.2.2.heap.size) (hbA : b0 < X.2.2.1.2.2.1) (hL : L ≤ 2048) (hobj : ∀ k G, Inv k G → ∃ fs, G[0]? = some (.inr (6, fs))) (hmono : ∀ k G, Inv (k + 1) G → Inv k G) (ops : Ops Inv) (hend : ∀ lv G, yZ X b0 1732 lv [] G) (G : zH) (hI : Inv (L / 4) G) : yZ X b0 23 (LV 0) [] G := by
  have o_store := ops.2.2.2.1
  have o_piece : Op_piece Inv := by
    obtain ⟨-, -, -, -, -, -, -, -, -, -, -, -, -, -, -, -, -, -, -, -, -, -, -, -, -, h, -⟩ := ops
    exact h
  have o_row : Op_row Inv := by
    obtain ⟨-, -, -, -, -, -, -, -, -, -, -, -, -, -, -, -, -, -, -, -, -, -, -, -, -, -, -, -, -, -, -, -, -, -, -, -, -, -, -, -, -, -, -, -, -, -, -, -, -, h⟩ := ops
    exact h
  exact law_loop C hX hbl hbA hL hobj hmono ops (fun k G i a v0 v1 v2 v3 hn => hl_store C hl h30 hX hbl hbA hobj o_store k G i a v0 v1 v2 v3 hn) (fun k G i a v0 v1 v2 v3 hn => hl_piece C hl h30 hX hbl hbA hobj o_piece k G i a v0 v1 v2 v3 hn) (fun k G i a v0 v1 v2 v3 hn => hl_row C hl h30 hX hbl hbA hobj o_row k G i a v0 v1 v2 v3 hn) hend (L / 4) 0 G (by simp) (by decide) hI
