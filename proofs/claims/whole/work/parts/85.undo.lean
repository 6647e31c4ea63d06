/-! undo -/
theorem undoes_sp {A B : zH} {M : MS} {v w : LVa} {u f r1 r2 : Nat} {q q' : Nat → Int32} (h : RBk M v.1) (hm : RMk M v) (h17 : M.1 17 = nn u) (h20 : M.1 20 = nn f) (hu : 1 ≤ u) (hu2 : u ≤ 30) (hf : f < 30) (p1 : M.2.2.2 15 (u - 1) = some r1) (p2 : M.2.2.2 16 (u - 1) = some r2) (c1 : ∀ (M' : MS) (K : zH), (hG A M' (B ++ K))[r1]? = some (.inl (0, (sz w.1, .inl q)))) (c2 : ∀ (M' : MS) (K : zH), (hG A M' (B ++ K))[r2]? = some (.inl (0, (16, .inl q')))) (hq : ∀ p, p < sz w.1 → q p = nn (cod w.1 p)) (hq' : ∀ k, k < 8 → q' k = ii (w.2.1 k) ∧ q' (8 + k) = nn (w.2.2 k)) (hw : sz w.1 ≤ 3000) (h1 : (hG A M B).length + 2 ≤ zGL) (h2 : zs (hG A M B) + 3016 ≤ zKL) : ∃ M1 g g', fX7_undoes A M B = some (nn (u - 1), M1, B ++ [KB v.1 g, KM g']) ∧ (∀ p, p < sz v.1 → g p = nn (cod v.1 p)) ∧ (∀ k, k < 8 → g' k = ii (v.2.1 k) ∧ g' (8 + k) = nn (v.2.2 k)) ∧ RBk M1 w.1 ∧ RMk M1 w ∧ M1.1 17 = nn (u - 1) ∧ M1.1 20 = nn (f + 1) ∧ M1.1 21 = -5 ∧ (∀ j, j ≠ 11 → j ≠ 17 → j ≠ 20 → j ≠ 21 → M1.1 j = M.1 j) ∧ (∀ j, j ≠ 10 → j ≠ 12 → j ≠ 13 → M1.2.1 j = M.2.1 j) ∧ M1.2.2.1 = M.2.2.1 ∧ M1.2.2.2 18 = va_up (M.2.2.2 18) f (some (hG A M B).length) ∧ M1.2.2.2 19 = va_up (M.2.2.2 19) f (some ((hG A M B).length + 1)) ∧ ∀ j, j ≠ 18 → j ≠ 19 → M1.2.2.2 j = M.2.2.2 j := by
  have hz := h.2.1
  have hl := hG_len A M B
  obtain ⟨g, e1, e2⟩ := bookCopy_sp (A := A) (B := B) h (by omega) (by omega)
  have hl2 : (hG A (mQ M 18 (va_up (M.2.2.2 18) f (some (hG A M B).length))) (B ++ [KB v.1 g])).length = (hG A M B).length + 1 := by
    rw [hG_len, hl, List.length_append]
    show A.length + 22 + (B.length + 1) = _
    omega
  have hzs := hG_zs A B [KB v.1 g] M (mQ M 18 (va_up (M.2.2.2 18) f (some (hG A M B).length)))
  have hz1 : zs [KB v.1 g] = sz v.1 := by
    show sz v.1 + 0 = _
    omega
  obtain ⟨g', e3, e4⟩ := marksCopy_sp (A := A) (B := B ++ [KB v.1 g]) (M := mQ M 18 (va_up (M.2.2.2 18) f (some (hG A M B).length))) (v := v) hm (by omega) (by omega)
  have c1' : ∀ M' : MS, (hG A M' ((B ++ [KB v.1 g]) ++ [KM g']))[r1]? = some (.inl (0, (sz w.1, .inl q))) := fun M' => by rw [List.append_assoc]; exact c1 M' _
  have c2' : ∀ M' : MS, (hG A M' ((B ++ [KB v.1 g]) ++ [KM g']))[r2]? = some (.inl (0, (16, .inl q'))) := fun M' => by rw [List.append_assoc]; exact c2 M' _
  obtain ⟨M1, b1, b2, b3, b4⟩ := becomes_sp (A := A) (B := (B ++ [KB v.1 g]) ++ [KM g']) (M := mI (mI (mQ (mQ M 18 (va_up (M.2.2.2 18) f (some (hG A M B).length))) 19 (va_up (M.2.2.2 19) f (some ((hG A M B).length + 1)))) 20 (nn (f + 1))) 17 (nn (u - 1))) c1' c2' hq hq' hw
  have i1 : M1.1 17 = nn (u - 1) := b4.1 17 (by decide)
  refine ⟨mI M1 21 (-5), g, g', ?_, e2, e4, b2.cg rfl rfl, b3, i1, b4.1 20 (by decide), rfl, fun j a b c d => ?_, b4.2.1, ?_, ?_, ?_, fun j a b => ?_⟩
  · unfold fX7_undoes
    have g1 : gget (hG A M (B ++ [KB v.1 g])) (hG A M B).length = some (sz v.1, g) := gget_at (hG_at0 hl)
    have g2 : gget (hG A (mQ M 18 (va_up (M.2.2.2 18) f (some (hG A M B).length))) ((B ++ [KB v.1 g]) ++ [KM g'])) ((hG A M B).length + 1) = some (16, g') := gget_at (hG_at0 (by rw [hl]; simp only [List.length_append, List.length_cons, List.length_nil]; omega))
    have h20' : (mQ M 18 (va_up (M.2.2.2 18) f (some (hG A M B).length))).1 20 = nn f := h20
    have h20'' : (mQ (mQ M 18 (va_up (M.2.2.2 18) f (some (hG A M B).length))) 19 (va_up (M.2.2.2 19) f (some ((hG A M B).length + 1)))).1 20 = nn f := h20
    have h17'' : (mI (mQ (mQ M 18 (va_up (M.2.2.2 18) f (some (hG A M B).length))) 19 (va_up (M.2.2.2 19) f (some ((hG A M B).length + 1)))) 20 (nn (f + 1))).1 17 = nn u := h17
    have h17t : (mI (mI (mQ (mQ M 18 (va_up (M.2.2.2 18) f (some (hG A M B).length))) 19 (va_up (M.2.2.2 19) f (some ((hG A M B).length + 1)))) 20 (nn (f + 1))) 17 (nn (u - 1))).1 17 = nn (u - 1) := rfl
    rw [if_neg (by rw [h17, q0, nn_eq (by omega) (by omega)]; omega), e1, ob3_some]
    change ob1 (gget (hG A M (B ++ [KB v.1 g])) (hG A M B).length) _ = _
    rw [g1, ob1_some, h20, wr_nn hf (by omega), ob1_some, nn_tn (by omega)]
    change ob3 (fX7_marksCopy A (mQ M 18 (va_up (M.2.2.2 18) f (some (hG A M B).length))) (B ++ [KB v.1 g])) _ = _
    rw [e3, ob3_some, hl2]
    change ob1 (gget (hG A (mQ M 18 (va_up (M.2.2.2 18) f (some (hG A M B).length))) ((B ++ [KB v.1 g]) ++ [KM g'])) ((hG A M B).length + 1)) _ = _
    rw [g2, ob1_some, h20', wr_nn hf (by omega), ob1_some, nn_tn (by omega)]
    change zlet (mI (mQ (mQ M 18 (va_up (M.2.2.2 18) f (some (hG A M B).length))) 19 (va_up (M.2.2.2 19) f (some ((hG A M B).length + 1)))) 20 ((mQ (mQ M 18 (va_up (M.2.2.2 18) f (some (hG A M B).length))) 19 (va_up (M.2.2.2 19) f (some ((hG A M B).length + 1)))).1 20 + 1)) _ = _
    rw [h20'', q1, nn_add, zlt, h17'', nn_sub hu, zlt, h17t, rd_nn (show u - 1 < 30 by omega) (by omega), ob1_some]
    change ob1 (M.2.2.2 15 (u - 1)) _ = _
    rw [p1, ob1_some, rd_nn (show u - 1 < 30 by omega) (by omega), ob1_some]
    change ob1 (M.2.2.2 16 (u - 1)) _ = _
    rw [p2, ob1_some]
    change ob2 (fX7_becomes A _ ((B ++ [KB v.1 g]) ++ [KM g']) r1 r2) _ = _
    rw [b1, ob2_some, zlt, List.append_assoc]
    show some (M1.1 17, _, _) = _
    rw [i1]
    rfl
  · show upd M1.1 21 (-5) j = _
    rw [upd_ne _ _ d, b4.1 j a]
    exact (upd_ne _ _ b).trans (upd_ne _ _ c)
  · show M1.2.2.1 = _
    rw [b4.2.2]
    rfl
  · show M1.2.2.2 18 = _
    rw [b4.2.2]
    rfl
  · show M1.2.2.2 19 = _
    rw [b4.2.2]
    rfl
  · show M1.2.2.2 j = _
    rw [b4.2.2]
    exact (if_neg b).trans (if_neg a)
