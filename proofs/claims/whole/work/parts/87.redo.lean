/-! redo -/
theorem redoes_sp {A B : zH} {M : MS} {v w : LVa} {u f r1 r2 : Nat} {q q' : Nat → Int32} (h : RBk M v.1) (hm : RMk M v) (h17 : M.1 17 = nn u) (h20 : M.1 20 = nn f) (hf : 1 ≤ f) (hu : u < 30) (hf2 : f ≤ 30) (p1 : M.2.2.2 18 (f - 1) = some r1) (p2 : M.2.2.2 19 (f - 1) = some r2) (c1 : ∀ (M' : MS) (K : zH), (hG A M' (B ++ K))[r1]? = some (.inl (0, (sz w.1, .inl q)))) (c2 : ∀ (M' : MS) (K : zH), (hG A M' (B ++ K))[r2]? = some (.inl (0, (16, .inl q')))) (hq : ∀ p, p < sz w.1 → q p = nn (cod w.1 p)) (hq' : ∀ k, k < 8 → q' k = ii (w.2.1 k) ∧ q' (8 + k) = nn (w.2.2 k)) (hw : sz w.1 ≤ 3000) (h1 : (hG A M B).length + 2 ≤ zGL) (h2 : zs (hG A M B) + 3016 ≤ zKL) : ∃ M1 g g', fX7_redoes A M B = some (nn (f - 1), M1, B ++ [KB v.1 g, KM g']) ∧ (∀ p, p < sz v.1 → g p = nn (cod v.1 p)) ∧ (∀ k, k < 8 → g' k = ii (v.2.1 k) ∧ g' (8 + k) = nn (v.2.2 k)) ∧ RBk M1 w.1 ∧ RMk M1 w ∧ M1.1 17 = nn (u + 1) ∧ M1.1 20 = nn (f - 1) ∧ M1.1 21 = -5 ∧ (∀ j, j ≠ 11 → j ≠ 17 → j ≠ 20 → j ≠ 21 → M1.1 j = M.1 j) ∧ (∀ j, j ≠ 10 → j ≠ 12 → j ≠ 13 → M1.2.1 j = M.2.1 j) ∧ M1.2.2.1 = M.2.2.1 ∧ M1.2.2.2 15 = va_up (M.2.2.2 15) u (some (hG A M B).length) ∧ M1.2.2.2 16 = va_up (M.2.2.2 16) u (some ((hG A M B).length + 1)) ∧ ∀ j, j ≠ 15 → j ≠ 16 → M1.2.2.2 j = M.2.2.2 j := by
  have hz := h.2.1
  obtain ⟨M2, g, g', a1, a2, a3, a4, a5, a6, a7⟩ := keeps61 (A := A) (B := B) h hm h17 hu h1 (by omega)
  obtain ⟨M1, b1, b2, b3, b4⟩ := becomes_sp (A := A) (B := B ++ [KB v.1 g, KM g']) (M := mI M2 20 (nn (f - 1))) (fun M' => c1 M' _) (fun M' => c2 M' _) hq hq' hw
  have h20' : M2.1 20 = nn f := (a4.1 20 (by decide)).trans h20
  have i1 : M1.1 20 = nn (f - 1) := b4.1 20 (by decide)
  have p1' : (mI M2 20 (nn (f - 1))).2.2.2 18 (f - 1) = some r1 := by
    show M2.2.2.2 18 (f - 1) = _
    rw [a4.2.2.2 18 (by decide) (by decide)]
    exact p1
  have p2' : (mI M2 20 (nn (f - 1))).2.2.2 19 (f - 1) = some r2 := by
    show M2.2.2.2 19 (f - 1) = _
    rw [a4.2.2.2 19 (by decide) (by decide)]
    exact p2
  refine ⟨mI M1 21 (-5), g, g', ?_, a2, a3, b2.cg rfl rfl, b3, ?_, i1, rfl, fun j a b c d => ?_, fun j a b c => ?_, ?_, ?_, ?_, fun j a b => ?_⟩
  · have h20t : (mI M2 20 (nn (f - 1))).1 20 = nn (f - 1) := rfl
    unfold fX7_redoes fX7_keepsPast
    rw [if_neg (by rw [h20, q0, nn_eq (by omega) (by omega)]; omega), if_neg (by rw [h17, q30, nn_eq (by omega) (by omega)]; omega), a1, ob2_some, h20', q1, nn_sub hf, zlt, h20t, rd_nn (show f - 1 < 30 by omega) (by omega), ob1_some, p1', ob1_some, rd_nn (show f - 1 < 30 by omega) (by omega), ob1_some, p2', ob1_some, b1, ob2_some, zlt]
    show some (M1.1 20, _, _) = _
    rw [i1]
  · show M1.1 17 = _
    rw [b4.1 17 (by decide)]
    exact a5
  · show upd M1.1 21 (-5) j = _
    rw [upd_ne _ _ d, b4.1 j a]
    exact (upd_ne _ _ c).trans (a4.1 j b)
  · show M1.2.1 j = _
    rw [b4.2.1 j a b c]
    show M2.2.1 j = _
    rw [a4.2.1]
  · show M1.2.2.1 = _
    rw [b4.2.2]
    exact a4.2.2.1
  · show M1.2.2.2 15 = _
    rw [b4.2.2]
    exact a6
  · show M1.2.2.2 16 = _
    rw [b4.2.2]
    exact a7
  · show M1.2.2.2 j = _
    rw [b4.2.2]
    exact a4.2.2.2 j a b
