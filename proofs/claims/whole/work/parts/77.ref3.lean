/-! the past is kept -/
theorem gget_at {G : zH} {r n : Nat} {f : Nat → Int32} (h : G[r]? = some (.inl (0, (n, .inl f)))) : gget G r = some (n, f) := by
  unfold gget
  rw [h]
  rfl
theorem hG_at0 {A B K : zH} {M : MS} {x : zE} {r : Nat} (hr : r = A.length + 22 + B.length) : (hG A M (B ++ x :: K))[r]? = some x := by
  rw [hG, List.getElem?_append_right (by omega), List.getElem?_append_right (by rw [hM_len]; omega), hM_len, List.getElem?_append_right (by omega), show r - A.length - 22 - B.length = 0 by omega]
  rfl
def Mh (M M1 : MS) : Prop := (∀ j, j ≠ 17 → M1.1 j = M.1 j) ∧ M1.2.1 = M.2.1 ∧ M1.2.2.1 = M.2.2.1 ∧ ∀ j, j ≠ 15 → j ≠ 16 → M1.2.2.2 j = M.2.2.2 j
theorem Mh.trans {M M1 M2 : MS} (h : Mh M M1) (h2 : Mh M1 M2) : Mh M M2 := ⟨fun j hj => (h2.1 j hj).trans (h.1 j hj), h2.2.1.trans h.2.1, h2.2.2.1.trans h.2.2.1, fun j h3 h4 => (h2.2.2.2 j h3 h4).trans (h.2.2.2 j h3 h4)⟩
def KB (P : PC) (g : Nat → Int32) : zE := .inl (0, (sz P, .inl g))
def KM (g : Nat → Int32) : zE := .inl (0, (16, .inl g))
theorem keeps61 {A B : zH} {M : MS} {v : LVa} {u : Nat} (h : RBk M v.1) (hm : RMk M v) (h17 : M.1 17 = nn u) (hu : u < 30) (h1 : (hG A M B).length + 2 ≤ zGL) (h2 : zs (hG A M B) + sz v.1 + 16 ≤ zKL) : ∃ M1 g g', fX7_keepsPast_b61 A M B = some (M1, B ++ [KB v.1 g, KM g']) ∧ (∀ p, p < sz v.1 → g p = nn (cod v.1 p)) ∧ (∀ k, k < 8 → g' k = ii (v.2.1 k) ∧ g' (8 + k) = nn (v.2.2 k)) ∧ Mh M M1 ∧ M1.1 17 = nn (u + 1) ∧ M1.2.2.2 15 = va_up (M.2.2.2 15) u (some (hG A M B).length) ∧ M1.2.2.2 16 = va_up (M.2.2.2 16) u (some ((hG A M B).length + 1)) := by
  have hz := h.2.1
  have hl := hG_len A M B
  obtain ⟨g, e1, e2⟩ := bookCopy_sp (A := A) (B := B) h (by omega) (by omega)
  have hl2 : (hG A (mQ M 15 (va_up (M.2.2.2 15) u (some (hG A M B).length))) (B ++ [KB v.1 g])).length = (hG A M B).length + 1 := by
    rw [hG_len, hl, List.length_append]
    show A.length + 22 + (B.length + 1) = _
    omega
  have hzs := hG_zs A B [KB v.1 g] M (mQ M 15 (va_up (M.2.2.2 15) u (some (hG A M B).length)))
  have hz1 : zs [KB v.1 g] = sz v.1 := by
    show sz v.1 + 0 = _
    omega
  obtain ⟨g', e3, e4⟩ := marksCopy_sp (A := A) (B := B ++ [KB v.1 g]) (M := mQ M 15 (va_up (M.2.2.2 15) u (some (hG A M B).length))) (v := v) hm (by omega) (by omega)
  refine ⟨mI (mQ (mQ M 15 (va_up (M.2.2.2 15) u (some (hG A M B).length))) 16 (va_up (M.2.2.2 16) u (some ((hG A M B).length + 1)))) 17 (nn (u + 1)), g, g', ?_, e2, e4, ?_, rfl, rfl, rfl⟩
  · unfold fX7_keepsPast_b61
    have g1 : gget (hG A M (B ++ [KB v.1 g])) (hG A M B).length = some (sz v.1, g) := gget_at (hG_at0 hl)
    have g2 : gget (hG A (mQ M 15 (va_up (M.2.2.2 15) u (some (hG A M B).length))) ((B ++ [KB v.1 g]) ++ [KM g'])) ((hG A M B).length + 1) = some (16, g') := gget_at (hG_at0 (by rw [hl]; simp only [List.length_append, List.length_cons, List.length_nil]; omega))
    have h17' : (mQ M 15 (va_up (M.2.2.2 15) u (some (hG A M B).length))).1 17 = nn u := h17
    rw [e1, ob3_some]
    change ob1 (gget (hG A M (B ++ [KB v.1 g])) (hG A M B).length) _ = _
    rw [g1, ob1_some, h17, wr_nn hu (by omega), ob1_some, nn_tn (by omega)]
    change ob3 (fX7_marksCopy A (mQ M 15 (va_up (M.2.2.2 15) u (some (hG A M B).length))) (B ++ [KB v.1 g])) _ = _
    rw [e3, ob3_some, hl2]
    change ob1 (gget (hG A (mQ M 15 (va_up (M.2.2.2 15) u (some (hG A M B).length))) ((B ++ [KB v.1 g]) ++ [KM g'])) ((hG A M B).length + 1)) _ = _
    rw [g2, ob1_some, h17', wr_nn hu (by omega), ob1_some, nn_tn (by omega), zlt, List.append_assoc]
    have h17'' : (mQ (mQ M 15 (va_up (M.2.2.2 15) u (some (hG A M B).length))) 16 (va_up ((mQ M 15 (va_up (M.2.2.2 15) u (some (hG A M B).length))).2.2.2 16) u (some ((hG A M B).length + 1)))).1 17 = nn u := h17
    rw [h17'', q1, nn_add]
    rfl
  · refine ⟨fun j hj => ?_, rfl, rfl, fun j h3 h4 => ?_⟩
    · exact upd_ne _ _ hj
    · show va_up (va_up M.2.2.2 15 _) 16 _ j = _
      rw [show va_up (va_up M.2.2.2 15 _) 16 _ j = va_up M.2.2.2 15 _ j from if_neg h4]
      exact if_neg h3
theorem keeps11 {A B : zH} {M0 : MS} {v : LVa} (hold : ∀ k, k < 30 → ∃ r r' z z', M0.2.2.2 15 k = some r ∧ M0.2.2.2 16 k = some r' ∧ (∀ M' : MS, gget (hG A M' B) r = some z) ∧ ∀ M' : MS, gget (hG A M' B) r' = some z') : ∀ fu k M, 1 ≤ k → k ≤ 30 → 30 - k < fu → Mh M0 M → M.1 17 = M0.1 17 → (∀ j, j < 30 → M.2.2.2 15 j = (if j + 1 < k then M0.2.2.2 15 (j + 1) else M0.2.2.2 15 j) ∧ M.2.2.2 16 j = (if j + 1 < k then M0.2.2.2 16 (j + 1) else M0.2.2.2 16 j)) → ∃ M1, fX7_keepsPast_b11 A fu M B (nn k) = fX7_keepsPast_b51 A M1 B ∧ Mh M0 M1 ∧ M1.1 17 = M0.1 17 ∧ ∀ j, j < 29 → M1.2.2.2 15 j = M0.2.2.2 15 (j + 1) ∧ M1.2.2.2 16 j = M0.2.2.2 16 (j + 1) := by
  intro fu
  induction fu with
  | zero => intro k M _ _ h; omega
  | succ fu ih =>
    intro k M hk1 hk hfu hM h17 hj
    unfold fX7_keepsPast_b11
    rw [q30, if_le (by omega) (by omega)]
    by_cases e : 30 ≤ k
    · rw [if_pos e]
      refine ⟨M, rfl, hM, h17, fun j h3 => ?_⟩
      have := hj j (by omega)
      rw [if_pos (by omega), if_pos (by omega)] at this
      exact this
    · obtain ⟨r, r', z, z', a1, a2, a3, a4⟩ := hold k (by omega)
      have hk15 := (hj k (by omega)).1
      have hk16 := (hj k (by omega)).2
      rw [if_neg (by omega)] at hk15 hk16
      have hk16' : (mQ M 15 (va_up (M.2.2.2 15) (k - 1) (some r))).2.2.2 16 k = some r' := by rw [← a2, ← hk16]; rfl
      rw [if_neg e, rd_nn (show k < 30 by omega) (by omega), ob1_some, hk15, a1, ob1_some, a3, ob1_some, q1, nn_sub (by omega), wr_nn (show k - 1 < 30 by omega) (by omega), ob1_some, nn_tn (by omega), rd_nn (show k < 30 by omega) (by omega), ob1_some, hk16', ob1_some, a4, ob1_some, wr_nn (show k - 1 < 30 by omega) (by omega), ob1_some, nn_add, zlt]
      refine ih (k + 1) _ (by omega) (by omega) (by omega) (hM.trans ⟨fun j _ => rfl, rfl, rfl, fun j h3 h4 => ?_⟩) h17 (fun j h3 => ?_)
      · show va_up (va_up M.2.2.2 15 _) 16 _ j = _
        rw [show va_up (va_up M.2.2.2 15 _) 16 _ j = va_up M.2.2.2 15 _ j from if_neg h4]
        exact if_neg h3
      · show va_up (M.2.2.2 15) (k - 1) (some r) j = _ ∧ va_up (M.2.2.2 16) (k - 1) (some r') j = _
        have hjj := hj j h3
        by_cases ej : j = k - 1
        · subst ej
          rw [va_up_same, va_up_same, if_pos (by omega), if_pos (by omega), show k - 1 + 1 = k by omega, a1, a2]
          exact ⟨rfl, rfl⟩
        · rw [show va_up (M.2.2.2 15) (k - 1) (some r) j = M.2.2.2 15 j from if_neg ej, show va_up (M.2.2.2 16) (k - 1) (some r') j = M.2.2.2 16 j from if_neg ej]
          by_cases e2 : j + 1 < k
          · rw [if_pos e2, if_pos e2] at hjj
            rw [if_pos (by omega), if_pos (by omega)]
            exact hjj
          · rw [if_neg e2, if_neg e2] at hjj
            rw [if_neg (by omega), if_neg (by omega)]
            exact hjj
/-- what is kept of the past: the copies before, one place down if there were thirty, and the new one -/
theorem keepsPast_sp {A B : zH} {M : MS} {v : LVa} {u : Nat} (h : RBk M v.1) (hm : RMk M v) (h17 : M.1 17 = nn u) (hu : u ≤ 30) (hold : u = 30 → ∀ k, k < 30 → ∃ r r' z z', M.2.2.2 15 k = some r ∧ M.2.2.2 16 k = some r' ∧ (∀ M' : MS, gget (hG A M' B) r = some z) ∧ ∀ M' : MS, gget (hG A M' B) r' = some z') (h1 : (hG A M B).length + 2 ≤ zGL) (h2 : zs (hG A M B) + sz v.1 + 16 ≤ zKL) : ∃ M1 g g', fX7_keepsPast A M B = some (M1, B ++ [KB v.1 g, KM g']) ∧ (∀ p, p < sz v.1 → g p = nn (cod v.1 p)) ∧ (∀ k, k < 8 → g' k = ii (v.2.1 k) ∧ g' (8 + k) = nn (v.2.2 k)) ∧ Mh M M1 ∧ M1.1 17 = nn (min (u + 1) 30) ∧ (∀ k, k + 1 < min (u + 1) 30 → M1.2.2.2 15 k = M.2.2.2 15 (k + (u + 1 - min (u + 1) 30)) ∧ M1.2.2.2 16 k = M.2.2.2 16 (k + (u + 1 - min (u + 1) 30))) ∧ M1.2.2.2 15 (min (u + 1) 30 - 1) = some (hG A M B).length ∧ M1.2.2.2 16 (min (u + 1) 30 - 1) = some ((hG A M B).length + 1) := by
  unfold fX7_keepsPast
  rw [h17, q30, if_eq (by omega) (by omega)]
  by_cases e : u = 30
  · subst e
    rw [if_pos rfl, q1]
    obtain ⟨M1, a1, a2, a3, a4⟩ := keeps11 (v := v) (M0 := M) (hold rfl) FU 1 M (by omega) (by omega) (by rw [FU_eq]; omega) ⟨fun _ _ => rfl, rfl, rfl, fun _ _ _ => rfl⟩ rfl (fun j _ => by rw [if_neg (by omega), if_neg (by omega)]; exact ⟨rfl, rfl⟩)
    rw [a1]
    unfold fX7_keepsPast_b51
    rw [a3, h17, q1, nn_sub (by omega), zlt]
    have hB : RBk (mI M1 17 (nn (30 - 1))) v.1 := h.cg (by show M1.1 11 = _; exact a2.1 11 (by decide)) (by show M1.2.1 10 = _; rw [a2.2.1])
    have hK : RMk (mI M1 17 (nn (30 - 1))) v := fun k hk => by show M1.2.1 12 k = _ ∧ M1.2.1 13 k = _; rw [a2.2.1]; exact hm k hk
    have hl : (hG A (mI M1 17 (nn (30 - 1))) B).length = (hG A M B).length := by rw [hG_len, hG_len]
    have hzs := hG_zs A B [] M (mI M1 17 (nn (30 - 1)))
    rw [List.append_nil] at hzs
    have hz0 : zs ([] : zH) = 0 := rfl
    obtain ⟨M2, g, g', b1, b2, b3, b4, b5, b6, b7⟩ := keeps61 (A := A) (B := B) (u := 29) hB hK rfl (by omega) (by omega) (by omega)
    refine ⟨M2, g, g', b1, b2, b3, ?_, b5, fun k hk => ?_, ?_, ?_⟩
    · have b0 : Mh M1 (mI M1 17 (nn (30 - 1))) := ⟨fun j hj => upd_ne _ _ hj, rfl, rfl, fun _ _ _ => rfl⟩
      exact a2.trans (b0.trans b4)
    · rw [b6, b7]
      have := a4 k (by omega)
      show va_up (M1.2.2.2 15) 29 _ k = _ ∧ va_up (M1.2.2.2 16) 29 _ k = _
      rw [show ∀ x, va_up (M1.2.2.2 15) 29 x k = M1.2.2.2 15 k from fun x => if_neg (by omega), show ∀ x, va_up (M1.2.2.2 16) 29 x k = M1.2.2.2 16 k from fun x => if_neg (by omega)]
      exact this
    · rw [b6, hl]
      exact va_up_same _ _ _
    · rw [b7, hl]
      exact va_up_same _ _ _
  · rw [if_neg e]
    obtain ⟨M2, g, g', b1, b2, b3, b4, b5, b6, b7⟩ := keeps61 (A := A) (B := B) (u := u) h hm h17 (by omega) h1 h2
    have hmin : min (u + 1) 30 = u + 1 := by omega
    rw [hmin]
    refine ⟨M2, g, g', b1, b2, b3, b4, b5, fun k hk => ?_, ?_, ?_⟩
    · rw [b6, b7, show k + (u + 1 - (u + 1)) = k by omega]
      exact ⟨if_neg (by omega), if_neg (by omega)⟩
    · rw [b6, Nat.add_sub_cancel]
      exact va_up_same _ _ _
    · rw [b7, Nat.add_sub_cancel]
      exact va_up_same _ _ _
