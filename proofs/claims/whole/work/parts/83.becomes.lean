/-! the reference becomes a copy -/
def Fc (M M1 : MS) : Prop := (∀ j, j ≠ 11 → M1.1 j = M.1 j) ∧ (∀ j, j ≠ 10 → j ≠ 12 → j ≠ 13 → M1.2.1 j = M.2.1 j) ∧ M1.2.2 = M.2.2
theorem Fc.trans {M M1 M2 : MS} (h : Fc M M1) (h2 : Fc M1 M2) : Fc M M2 := ⟨fun j hj => (h2.1 j hj).trans (h.1 j hj), fun j a b c => (h2.2.1 j a b c).trans (h.2.1 j a b c), h2.2.2.trans h.2.2⟩
theorem grd_at {G : zH} {r n i : Nat} {f : Nat → Int32} (h : G[r]? = some (.inl (0, (n, .inl f)))) (hi : i < n) (hn : n ≤ 100000) : grd G r (nn i) = some (f i) := by
  unfold grd
  rw [gget_at h, ob1_some, rd_nn hi (by omega)]
theorem becomes_sp {A B : zH} {M : MS} {v : LVa} {r1 r2 : Nat} {g g' : Nat → Int32} (c1 : ∀ M' : MS, (hG A M' B)[r1]? = some (.inl (0, (sz v.1, .inl g)))) (c2 : ∀ M' : MS, (hG A M' B)[r2]? = some (.inl (0, (16, .inl g')))) (hg : ∀ p, p < sz v.1 → g p = nn (cod v.1 p)) (hg' : ∀ k, k < 8 → g' k = ii (v.2.1 k) ∧ g' (8 + k) = nn (v.2.2 k)) (hz : sz v.1 ≤ 3000) : ∃ M1, fX7_becomes A M B r1 r2 = some (M1, B) ∧ RBk M1 v.1 ∧ RMk M1 v ∧ Fc M M1 := by
  have k33 : ∀ fu k M', k ≤ 8 → 8 - k < fu → RBk M' v.1 → Fc M M' → (∀ j, j < k → M'.2.1 12 j = ii (v.2.1 j) ∧ M'.2.1 13 j = nn (v.2.2 j)) → ∃ M1, fX7_becomes_b33 A fu M' B r2 (nn k) = some (M1, B) ∧ RBk M1 v.1 ∧ RMk M1 v ∧ Fc M M1 := by
    intro fu
    induction fu with
    | zero => intro k M' _ h; omega
    | succ fu ih =>
      intro k M' hk hfu hB hF hj
      unfold fX7_becomes_b33
      rw [q8, if_le (by omega) (by omega)]
      by_cases e : 8 ≤ k
      · rw [if_pos e]
        exact ⟨M', rfl, hB, fun j h => hj j (by omega), hF⟩
      · rw [if_neg e, grd_at (c2 M') (by omega) (by omega), ob1_some, wr_nn (show k < 8 by omega) (by omega), ob1_some, nn_add, grd_at (c2 _) (by omega) (by omega), ob1_some, wr_nn (show k < 8 by omega) (by omega), ob1_some, nn_tn (by omega), q1, nn_add, zlt]
        refine ih (k + 1) _ (by omega) (by omega) (hB.cg rfl rfl) (hF.trans ⟨fun _ _ => rfl, fun j a b c => ?_, rfl⟩) (fun j h => ?_)
        · show va_up (va_up M'.2.1 12 _) 13 _ j = _
          exact (if_neg c).trans (if_neg b)
        · show upd (M'.2.1 12) k (g' k) j = _ ∧ upd (M'.2.1 13) k (g' (8 + k)) j = _
          by_cases ej : j = k
          · subst ej
            rw [upd_same, upd_same]
            exact hg' j (by omega)
          · rw [upd_ne _ _ ej, upd_ne _ _ ej]
            exact hj j (by omega)
  have k8 : ∀ fu k M', k ≤ sz v.1 → sz v.1 - k < fu → M'.1 11 = nn (sz v.1) → Fc M M' → (∀ p, p < k → M'.2.1 10 p = nn (cod v.1 p)) → ∃ M1, fX7_becomes_b8 A fu M' B r1 r2 (nn k) = some (M1, B) ∧ RBk M1 v.1 ∧ RMk M1 v ∧ Fc M M1 := by
    intro fu
    induction fu with
    | zero => intro k M' _ h; omega
    | succ fu ih =>
      intro k M' hk hfu h11 hF hj
      unfold fX7_becomes_b8
      rw [h11, if_le (by omega) (by omega)]
      by_cases e : sz v.1 ≤ k
      · rw [if_pos e]
        unfold fX7_becomes_b31
        rw [q0]
        exact k33 FU 0 M' (by omega) (by rw [FU_eq]; omega) ⟨h11, hz, fun p hp => hj p (by omega)⟩ hF (fun j h => by omega)
      · rw [if_neg e, grd_at (c1 M') (by omega) (by omega), ob1_some, wr_nn (show k < 3000 by omega) (by omega), ob1_some, nn_tn (by omega), q1, nn_add, zlt]
        refine ih (k + 1) _ (by omega) (by omega) h11 (hF.trans ⟨fun _ _ => rfl, fun j a b c => if_neg a, rfl⟩) (fun p hp => ?_)
        show upd (M'.2.1 10) k (g k) p = _
        by_cases ep : p = k
        · subst ep
          rw [upd_same]
          exact hg p (by omega)
        · rw [upd_ne _ _ ep]
          exact hj p (by omega)
  unfold fX7_becomes glen
  rw [gget_at (c1 M), ob1_some, ob1_some, zlt, q0]
  exact k8 FU 0 _ (by omega) (by rw [FU_eq]; omega) rfl ⟨fun j hj => upd_ne _ _ hj, fun _ _ _ _ => rfl, rfl⟩ (fun p hp => by omega)
