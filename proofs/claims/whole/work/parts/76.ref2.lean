/-! the reference's copies -/
theorem hG_len (A : zH) (M : MS) (B : zH) : (hG A M B).length = A.length + 22 + B.length := by
  rw [hG, List.length_append, List.length_append, hM_len]
  omega
theorem dwr_last {A B : zH} {N i r : Nat} {g : Nat → Int32} {x : Int32} (hr : r = A.length + 22 + B.length) (hi : i < N) (hN : N ≤ 100000) : dwr A 22 (B ++ [.inl (0, (N, .inl g))]) r (nn i) x = some (B ++ [.inl (0, (N, .inl (upd g i x)))]) := by
  unfold dwr
  have e1 : r - (A.length + 22) = B.length := by omega
  have e2 : (B ++ [(.inl (0, (N, .inl g)) : zE)])[B.length]? = some (.inl (0, (N, .inl g))) := by
    rw [List.getElem?_append_right (Nat.le_refl _), Nat.sub_self]
    rfl
  have e3 : gget (B ++ [(.inl (0, (N, .inl g)) : zE)]) B.length = some (N, g) := by
    unfold gget
    rw [e2]
    rfl
  rw [if_neg (by omega), e1, e3, ob1_some, rd_nn hi (by omega), ob1_some, nn_tn (by omega), List.set_append_right _ _ (Nat.le_refl _), Nat.sub_self]
  rfl
theorem dnew_sp {G : zH} {n : Nat} (hn : n ≤ 100000) (h1 : G.length + 1 ≤ zGL) (h2 : zs G + n ≤ zKL) : dnew G (nn n) = some n := by
  unfold dnew
  rw [nn_tn (by omega), if_neg]
  rintro (h | h | h | h)
  · rw [nn_neg (by omega)] at h
    exact h
  · omega
  · omega
  · omega
theorem bookCopy_sp {A B : zH} {M : MS} {P : PC} (h : RBk M P) (h1 : (hG A M B).length + 1 ≤ zGL) (h2 : zs (hG A M B) + sz P ≤ zKL) : ∃ g, fX7_bookCopy A M B = some ((hG A M B).length, M, B ++ [.inl (0, (sz P, .inl g))]) ∧ ∀ p, p < sz P → g p = nn (cod P p) := by
  obtain ⟨v1, v2, v3⟩ := h
  unfold fX7_bookCopy
  rw [v1, dnew_sp (by omega) h1 h2, ob1_some, zlt, zlt, q0]
  have hl := hG_len A M B
  have key : ∀ fu k g, k ≤ sz P → sz P - k < fu → (∀ p, p < k → g p = nn (cod P p)) → ∃ g', fX7_bookCopy_b9 A fu M (B ++ [.inl (0, (sz P, .inl g))]) (hG A M B).length (nn k) = some ((hG A M B).length, M, B ++ [.inl (0, (sz P, .inl g'))]) ∧ ∀ p, p < sz P → g' p = nn (cod P p) := by
    intro fu
    induction fu with
    | zero => intro k g _ h; omega
    | succ fu ih =>
      intro k g hk hfu hg
      unfold fX7_bookCopy_b9
      rw [v1, if_le (by omega) (by omega)]
      by_cases e : sz P ≤ k
      · rw [if_pos e]
        exact ⟨g, rfl, fun p hp => hg p (by omega)⟩
      · rw [if_neg e, rd_nn (show k < 3000 by omega) (by omega), ob1_some, dwr_last hl (by omega) (by omega), ob1_some, q1, nn_add, zlt]
        refine ih (k + 1) _ (by omega) (by omega) (fun p hp => ?_)
        by_cases ep : p = k
        · subst ep
          rw [upd_same]
          exact v3 p (by omega)
        · rw [upd_ne _ _ ep]
          exact hg p (by omega)
  exact key FU 0 _ (by omega) (by rw [FU_eq]; omega) (fun p hp => by omega)
theorem marksCopy_sp {A B : zH} {M : MS} {v : LVa} (h : RMk M v) (h1 : (hG A M B).length + 1 ≤ zGL) (h2 : zs (hG A M B) + 16 ≤ zKL) : ∃ g, fX7_marksCopy A M B = some ((hG A M B).length, M, B ++ [.inl (0, (16, .inl g))]) ∧ ∀ k, k < 8 → g k = ii (v.2.1 k) ∧ g (8 + k) = nn (v.2.2 k) := by
  unfold fX7_marksCopy
  rw [q16, dnew_sp (by omega) h1 h2, ob1_some, zlt, zlt, q0]
  have hl := hG_len A M B
  have key : ∀ fu k g, k ≤ 8 → 8 - k < fu → (∀ p, p < k → g p = ii (v.2.1 p) ∧ g (8 + p) = nn (v.2.2 p)) → ∃ g', fX7_marksCopy_b7 A fu M (B ++ [.inl (0, (16, .inl g))]) (hG A M B).length (nn k) = some ((hG A M B).length, M, B ++ [.inl (0, (16, .inl g'))]) ∧ ∀ p, p < 8 → g' p = ii (v.2.1 p) ∧ g' (8 + p) = nn (v.2.2 p) := by
    intro fu
    induction fu with
    | zero => intro k g _ h; omega
    | succ fu ih =>
      intro k g hk hfu hg
      unfold fX7_marksCopy_b7
      rw [q8, if_le (by omega) (by omega)]
      by_cases e : 8 ≤ k
      · rw [if_pos e]
        exact ⟨g, rfl, fun p hp => hg p (by omega)⟩
      · rw [if_neg e, rd_nn (show k < 8 by omega) (by omega), ob1_some, dwr_last hl (by omega) (by omega), ob1_some, rd_nn (show k < 8 by omega) (by omega), ob1_some, nn_add, dwr_last hl (by omega) (by omega), ob1_some, q1, nn_add, zlt]
        refine ih (k + 1) _ (by omega) (by omega) (fun p hp => ?_)
        by_cases ep : p = k
        · subst ep
          rw [upd_same, upd_ne _ _ (show p ≠ 8 + p by omega), upd_same]
          exact h p (by omega)
        · rw [upd_ne _ _ (show p ≠ 8 + k by omega), upd_ne _ _ ep, upd_ne _ _ (show 8 + p ≠ 8 + k by omega), upd_ne _ _ (show 8 + p ≠ k by omega)]
          exact hg p (by omega)
  exact key FU 0 _ (by omega) (by rw [FU_eq]; omega) (fun p hp => by omega)
