/-! the reference's book: what goes out -/
def Fb (M M1 : MS) : Prop := (∀ j, j ≠ 11 → M1.1 j = M.1 j) ∧ (∀ j, j ≠ 10 → M1.2.1 j = M.2.1 j) ∧ M1.2.2 = M.2.2
theorem Fb.refl (M : MS) : Fb M M := ⟨fun _ _ => rfl, fun _ _ => rfl, rfl⟩
theorem Fb.trans {M M1 M2 : MS} (h : Fb M M1) (h2 : Fb M1 M2) : Fb M M2 := ⟨fun j hj => (h2.1 j hj).trans (h.1 j hj), fun j hj => (h2.2.1 j hj).trans (h.2.1 j hj), h2.2.2.trans h.2.2⟩
theorem Fb.i11 (M : MS) (v : Int32) : Fb M (mI M 11 v) := ⟨fun _ hj => upd_ne _ _ hj, fun _ _ => rfl, rfl⟩
theorem Fb.a10 (M : MS) (g : Nat → Int32) : Fb M (mA M 10 g) := ⟨fun _ _ => rfl, fun _ hj => if_neg hj, rfl⟩
theorem closesGap_sp {M : MS} {N x n : Nat} (h : M.1 11 = nn N) (hN : N ≤ 3000) (hx : x + n ≤ N) : ∃ M1, fX7_closesGap M (nn x) (nn n) = some M1 ∧ M1.1 11 = nn (N - n) ∧ (∀ p, p < x → M1.2.1 10 p = M.2.1 10 p) ∧ (∀ p, x ≤ p → p + n < N → M1.2.1 10 p = M.2.1 10 (p + n)) ∧ Fb M M1 := by
  unfold fX7_closesGap
  rw [nn_add, zlt]
  have key : ∀ fu k M', x + n ≤ k → k ≤ N → N - k < fu → M'.1 11 = nn N → Fb M M' → (∀ p, p < x → M'.2.1 10 p = M.2.1 10 p) → (∀ p, x ≤ p → p + n < k → M'.2.1 10 p = M.2.1 10 (p + n)) → (∀ p, k ≤ p + n → M'.2.1 10 p = M.2.1 10 p) → ∃ M1, fX7_closesGap_b4 fu M' (nn n) (nn k) = some M1 ∧ M1.1 11 = nn (N - n) ∧ (∀ p, p < x → M1.2.1 10 p = M.2.1 10 p) ∧ (∀ p, x ≤ p → p + n < N → M1.2.1 10 p = M.2.1 10 (p + n)) ∧ Fb M M1 := by
    intro fu
    induction fu with
    | zero => intro k M' _ _ h; omega
    | succ fu ih =>
      intro k M' hk1 hk hfu h11 hF h1 h2 h3
      unfold fX7_closesGap_b4
      rw [h11, if_le (by omega) (by omega)]
      by_cases e : N ≤ k
      · rw [if_pos e]
        unfold fX7_closesGap_b32
        rw [h11, nn_sub (by omega), zlt]
        exact ⟨_, rfl, rfl, h1, fun p hp1 hp2 => h2 p hp1 (by omega), hF.trans (Fb.i11 _ _)⟩
      · rw [if_neg e, rd_nn (show k < 3000 by omega) (by omega), ob1_some, nn_sub (by omega), wr_nn (show k - n < 3000 by omega) (by omega), ob1_some, nn_tn (by omega), q1, nn_add, zlt]
        refine ih (k + 1) _ (by omega) (by omega) (by omega) h11 (hF.trans (Fb.a10 _ _)) (fun p hp => ?_) (fun p hp1 hp2 => ?_) (fun p hp => ?_)
        · show upd (M'.2.1 10) (k - n) _ p = _
          rw [upd_ne _ _ (by omega)]
          exact h1 p hp
        · show upd (M'.2.1 10) (k - n) (M'.2.1 10 k) p = _
          by_cases ep : p = k - n
          · rw [ep, upd_same, show k - n + n = k by omega]
            exact h3 k (by omega)
          · rw [upd_ne _ _ ep]
            exact h2 p hp1 (by omega)
        · show upd (M'.2.1 10) (k - n) _ p = _
          rw [upd_ne _ _ (by omega)]
          exact h3 p (by omega)
  refine key FU (x + n) M (Nat.le_refl _) hx (by rw [FU_eq]; omega) h (Fb.refl _) (fun _ _ => rfl) (fun p h1 h2 => by omega) (fun _ _ => rfl)
theorem partsAt_sp {M : MS} {N x cv : Nat} (h : M.1 11 = nn N) (hN : N ≤ 3000) (hx : x ≤ N) (hc : x < N → M.2.1 10 x = nn cv ∧ cv < 100000) : ∃ M1, fX7_partsAt M (nn x) = some M1 ∧ M1.1 11 = nn N ∧ (∀ p, p ≠ x → M1.2.1 10 p = M.2.1 10 p) ∧ (x < N → M1.2.1 10 x = nn (2 * (cv / 2) + 1)) ∧ Fb M M1 := by
  unfold fX7_partsAt
  rw [h, if_le (by omega) (by omega)]
  by_cases e : N ≤ x
  · rw [if_pos e]
    exact ⟨M, rfl, h, fun _ _ => rfl, fun hh => by omega, Fb.refl _⟩
  · obtain ⟨c1, c2⟩ := hc (by omega)
    have s1 : fX7_storeAt M (nn x) = some (nn (cv / 2 / 8192)) := by
      unfold fX7_storeAt
      rw [rd_nn (show x < 3000 by omega) (by omega), ob1_some, c1, q2, q8192, nn_div (by omega) (by omega), nn_div (by omega) (by omega)]
    have s2 : fX7_placeAt M (nn x) = some (nn (cv / 2 - cv / 2 / 8192 * 8192)) := by
      unfold fX7_placeAt
      rw [rd_nn (show x < 3000 by omega) (by omega), ob1_some, c1, q2, q8192, nn_div (by omega) (by omega), nn_div (by omega) (by omega), nn_mul, nn_sub (by omega)]
    have s3 : fX7_coded (nn (cv / 2 / 8192)) (nn (cv / 2 - cv / 2 / 8192 * 8192)) 1 = some (nn (2 * (8192 * (cv / 2 / 8192) + (cv / 2 - cv / 2 / 8192 * 8192)) + 1)) := by
      unfold fX7_coded
      rw [q1, flag_nn (by omega), ob1_some, q2, q8192, nn_mul, nn_add, nn_mul, nn_add]
    rw [if_neg e, s1, ob1_some, s2, ob1_some, s3, ob1_some, wr_nn (show x < 3000 by omega) (by omega), ob1_some, nn_tn (by omega)]
    refine ⟨_, rfl, h, fun p hp => ?_, fun _ => ?_, Fb.a10 _ _⟩
    · show upd (M.2.1 10) x _ p = _
      exact upd_ne _ _ hp
    · show upd (M.2.1 10) x _ x = _
      rw [upd_same]
      congr 1
      omega
def Fm (M M1 : MS) : Prop := M1.1 = M.1 ∧ (∀ j, j ≠ 12 → M1.2.1 j = M.2.1 j) ∧ M1.2.2 = M.2.2
theorem marksGo7_sp {M : MS} {mk : Nat → Int} {x n : Nat} (h : ∀ k, k < 8 → M.2.1 12 k = ii (mk k)) (hm : ∀ k, k < 8 → -1 ≤ mk k ∧ mk k ≤ 3000) (hx : x + n ≤ 6000) : ∃ M1, fX7_marksGo M (nn x) (nn n) = some M1 ∧ (∀ k, k < 8 → M1.2.1 12 k = ii (goM x n mk k)) ∧ Fm M M1 := by
  unfold fX7_marksGo
  rw [q0]
  have key : ∀ fu k M', k ≤ 8 → 8 - k < fu → Fm M M' → (∀ j, j < 8 → M'.2.1 12 j = ii (if j < k then goM x n mk j else mk j)) → ∃ M1, fX7_marksGo_b2 fu M' (nn x) (nn n) (nn k) = some M1 ∧ (∀ k, k < 8 → M1.2.1 12 k = ii (goM x n mk k)) ∧ Fm M M1 := by
    intro fu
    induction fu with
    | zero => intro k M' _ h; omega
    | succ fu ih =>
      intro k M' hk hfu hF hj
      unfold fX7_marksGo_b2
      rw [q8, if_le (by omega) (by omega)]
      by_cases e : 8 ≤ k
      · rw [if_pos e]
        exact ⟨M', rfl, fun j h1 => by rw [hj j h1, if_pos (by omega)], hF⟩
      · have hk' := hj k (by omega)
        rw [if_neg (by omega)] at hk'
        have hmk := hm k (by omega)
        have hgo : goM x n mk k = if (x : Int) + n ≤ mk k then mk k - n else if (x : Int) < mk k then x else mk k := rfl
        have step : ∀ v, v = ii (goM x n mk k) → ∃ M1, fX7_marksGo_b46 (fX7_marksGo_b2 fu) M' (nn x) (nn n) (nn k) v (nn k) = some M1 ∧ (∀ k, k < 8 → M1.2.1 12 k = ii (goM x n mk k)) ∧ Fm M M1 := by
          intro v hv
          unfold fX7_marksGo_b46
          rw [wr_nn (show k < 8 by omega) (by omega), ob1_some, nn_tn (by omega), q1, nn_add, zlt]
          refine ih (k + 1) _ (by omega) (by omega) ⟨hF.1, fun j h1 => ?_, hF.2.2⟩ (mix_step hj hv)
          show va_up M'.2.1 12 _ j = _
          rw [show ∀ y, va_up M'.2.1 12 y j = M'.2.1 j from fun y => if_neg h1]
          exact hF.2.1 j h1
        rw [if_neg e, rd_nn (show k < 8 by omega) (by omega), ob1_some, ob1_some, ob1_some, hk', nn_add]
        by_cases e1 : (x : Int) + n ≤ mk k
        · rw [if_neg (show ¬ ii (mk k) < nn (x + n) by rw [ii_lt_nn (by omega) (by omega)]; omega)]
          rw [if_pos e1] at hgo
          exact step _ (by rw [hgo, ii_sub_nn])
        · rw [if_pos (show ii (mk k) < nn (x + n) by rw [ii_lt_nn (by omega) (by omega)]; omega)]
          rw [if_neg e1] at hgo
          refine step _ ?_
          by_cases e2 : (x : Int) < mk k
          · rw [if_pos e2] at hgo
            rw [hgo, if_pos (by rw [nn_lt_ii (by omega) (by omega)]; exact e2), ii_nn]
          · rw [if_neg e2] at hgo
            rw [hgo, if_neg (by rw [nn_lt_ii (by omega) (by omega)]; exact e2)]
  exact key FU 0 M (by omega) (by rw [FU_eq]; omega) ⟨rfl, fun _ _ => rfl, rfl⟩ (fun j h1 => by rw [if_neg (by omega)]; exact h j h1)
