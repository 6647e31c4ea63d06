/-! what comes in -/
theorem opensGap_sp7 {M : MS} {N x n : Nat} (h : M.1 11 = nn N) (hN : N + n ≤ 3000) (hx : x ≤ N) : ∃ M1, fX7_opensGap M (nn x) (nn n) = some M1 ∧ M1.1 11 = nn (N + n) ∧ (∀ p, p < x → M1.2.1 10 p = M.2.1 10 p) ∧ (∀ p, x ≤ p → p < N → M1.2.1 10 (p + n) = M.2.1 10 p) ∧ Fb M M1 := by
  unfold fX7_opensGap
  have key : ∀ fu k M', x ≤ k → k ≤ N → k - x < fu → M'.1 11 = nn N → Fb M M' → (∀ p, p < k → M'.2.1 10 p = M.2.1 10 p) → (∀ p, k ≤ p → p < N → M'.2.1 10 (p + n) = M.2.1 10 p) → ∃ M1, fX7_opensGap_b7 fu M' (nn x) (nn n) (pre k) = some M1 ∧ M1.1 11 = nn (N + n) ∧ (∀ p, p < x → M1.2.1 10 p = M.2.1 10 p) ∧ (∀ p, x ≤ p → p < N → M1.2.1 10 (p + n) = M.2.1 10 p) ∧ Fb M M1 := by
    intro fu
    induction fu with
    | zero => intro k M' _ _ h; omega
    | succ fu ih =>
      intro k M' hk1 hk hfu h11 hF h1 h2
      unfold fX7_opensGap_b7
      by_cases e : k = x
      · subst e
        rw [if_pos (show pre k < nn k by unfold pre; rw [ii_lt_nn (by omega) (by omega)]; omega)]
        unfold fX7_opensGap_b32
        rw [h11, nn_add, zlt]
        exact ⟨_, rfl, rfl, h1, h2, hF.trans (Fb.i11 _ _)⟩
      · obtain ⟨k', rfl⟩ : ∃ k', k = k' + 1 := ⟨k - 1, by omega⟩
        rw [pre_s, if_neg (by rw [nn_lt (by omega) (by omega)]; omega), rd_nn (show k' < 3000 by omega) (by omega), ob1_some, nn_add, wr_nn (show k' + n < 3000 by omega) (by omega), ob1_some, nn_tn (by omega), pre_d, zlt]
        refine ih k' _ (by omega) (by omega) (by omega) h11 (hF.trans (Fb.a10 _ _)) (fun p hp => ?_) (fun p hp1 hp2 => ?_)
        · show upd (M'.2.1 10) (k' + n) _ p = _
          rw [upd_ne _ _ (by omega)]
          exact h1 p (by omega)
        · show upd (M'.2.1 10) (k' + n) (M'.2.1 10 k') (p + n) = _
          by_cases ep : p = k'
          · subst ep
            rw [upd_same]
            exact h1 p (by omega)
          · rw [upd_ne _ _ (by omega)]
            exact h2 p (by omega) hp2
  have hpre : nn N - 1 = pre N := by
    unfold pre
    rw [q1, nn_subi]
    rfl
  rw [h, hpre, zlt]
  exact key FU N M hx (Nat.le_refl _) (by rw [FU_eq]; omega) h (Fb.refl _) (fun _ _ => rfl) (fun p h1 h2 => by omega)
theorem marksCome7_sp {M : MS} {mk : Nat → Int} {st : Nat → Nat} {x n : Nat} (h : ∀ k, k < 8 → M.2.1 12 k = ii (mk k) ∧ M.2.1 13 k = nn (st k)) (hm : ∀ k, k < 8 → -1 ≤ mk k ∧ mk k ≤ 3000 ∧ st k ≤ 1) (hx : x + n ≤ 6000) : ∃ M1, fX7_marksCome M (nn x) (nn n) = some M1 ∧ (∀ k, k < 8 → M1.2.1 12 k = ii (comeM x n mk st k)) ∧ Fm M M1 := by
  unfold fX7_marksCome
  rw [q0]
  have key : ∀ fu k M', k ≤ 8 → 8 - k < fu → Fm M M' → (∀ j, j < 8 → M'.2.1 12 j = ii (if j < k then comeM x n mk st j else mk j)) → ∃ M1, fX7_marksCome_b2 fu M' (nn x) (nn n) (nn k) = some M1 ∧ (∀ k, k < 8 → M1.2.1 12 k = ii (comeM x n mk st k)) ∧ Fm M M1 := by
    intro fu
    induction fu with
    | zero => intro k M' _ h; omega
    | succ fu ih =>
      intro k M' hk hfu hF hj
      unfold fX7_marksCome_b2
      rw [q8, if_le (by omega) (by omega)]
      by_cases e : 8 ≤ k
      · rw [if_pos e]
        exact ⟨M', rfl, fun j h1 => by rw [hj j h1, if_pos (by omega)], hF⟩
      · have hk' := hj k (by omega)
        rw [if_neg (by omega)] at hk'
        have hmk := hm k (by omega)
        have hst : M'.2.1 13 k = nn (st k) := by rw [hF.2.1 13 (by decide)]; exact (h k (by omega)).2
        have step : ∀ v, ii (mk k) + v = ii (comeM x n mk st k) → ∃ M1, fX7_marksCome_b50 (fX7_marksCome_b2 fu) M' (nn x) (nn n) (nn k) v (ii (mk k)) (nn k) = some M1 ∧ (∀ k, k < 8 → M1.2.1 12 k = ii (comeM x n mk st k)) ∧ Fm M M1 := by
          intro v hv
          unfold fX7_marksCome_b50
          rw [wr_nn (show k < 8 by omega) (by omega), ob1_some, nn_tn (by omega), q1, nn_add, zlt]
          refine ih (k + 1) _ (by omega) (by omega) ⟨hF.1, fun j h1 => ?_, hF.2.2⟩ (mix_step hj hv)
          show va_up M'.2.1 12 _ j = _
          rw [show ∀ y, va_up M'.2.1 12 y j = M'.2.1 j from fun y => if_neg h1]
          exact hF.2.1 j h1
        have yes : ((x : Int) < mk k ∨ (mk k = x ∧ st k ≠ 0)) → ii (mk k) + nn n = ii (comeM x n mk st k) := by
          intro hh
          unfold comeM
          rw [if_pos hh, ii_add_nn]
        have no : ¬ ((x : Int) < mk k ∨ (mk k = x ∧ st k ≠ 0)) → ii (mk k) + 0 = ii (comeM x n mk st k) := by
          intro hh
          unfold comeM
          rw [if_neg hh]
          exact Int32.add_zero _
        rw [if_neg e, rd_nn (show k < 8 by omega) (by omega), ob1_some, ob1_some, ob1_some, hk']
        unfold fX7_marksCome_b45 fX7_marksCome_b49
        by_cases e1 : (x : Int) < mk k
        · rw [if_pos (show nn x < ii (mk k) by rw [nn_lt_ii (by omega) (by omega)]; exact e1)]
          exact step _ (yes (Or.inl e1))
        · rw [if_neg (show ¬ nn x < ii (mk k) by rw [nn_lt_ii (by omega) (by omega)]; exact e1)]
          by_cases e2 : mk k = x
          · rw [if_pos (show ii (mk k) = nn x by rw [e2, ii_nn]), rd_nn (show k < 8 by omega) (by omega), ob1_some, hst, q1, if_eq (by omega) (by omega)]
            by_cases e3 : st k = 1
            · rw [if_pos e3]
              exact step _ (yes (Or.inr ⟨e2, by omega⟩))
            · rw [if_neg e3]
              exact step _ (no (by rintro (h | ⟨-, h⟩); exact e1 h; omega))
          · rw [if_neg (show ¬ ii (mk k) = nn x by rw [ii_eq_nn (by omega) (by omega)]; exact e2)]
            exact step _ (no (by rintro (h | ⟨h, -⟩); exact e1 h; exact e2 h))
  exact key FU 0 M (by omega) (by rw [FU_eq]; omega) ⟨rfl, fun _ _ => rfl, rfl⟩ (fun j h1 => by rw [if_neg (by omega)]; exact (h j h1).1)
