/-! what is taken out -/
theorem cod_half (P : PC) (p : Nat) : cod P p / 2 = pl (srcAt P p) := by
  have := bgAt_le P p
  unfold cod
  omega
theorem cod_takP {P : PC} {x n p : Nat} (hw : wfP P) (h : x + n ≤ sz P) (hp : p < sz P - n) : cod (takP P x n) p = if p < x then cod P p else if p = x then 2 * (cod P (x + n) / 2) + 1 else cod P (p + n) := by
  rw [cod_half]
  unfold takP
  by_cases e : p < x
  · rw [if_pos e]
    unfold cod
    rw [srcAt_app, bgAt_app, sz_cutL (by omega), if_pos e, if_pos e, srcAt_cutL (by omega) e, bgAt_cutL (by omega) e]
  · have e1 := srcAt_cutR (P := P) (p := x + n) (i := p - x) (by omega)
    have e2 := bgAt_cutR (P := P) (p := x + n) (i := p - x) hw (by omega)
    rw [show x + n + (p - x) = p + n by omega] at e1 e2
    rw [if_neg e]
    unfold cod
    rw [srcAt_app, bgAt_app, sz_cutL (by omega), if_neg e, if_neg e, e1, e2]
    by_cases e3 : p = x
    · subst e3
      rw [if_pos (by omega), if_pos rfl]
    · rw [if_neg (by omega), if_neg e3]
def Ft (M M1 : MS) : Prop := (∀ j, j ≠ 11 → M1.1 j = M.1 j) ∧ (∀ j, j ≠ 10 → j ≠ 12 → M1.2.1 j = M.2.1 j) ∧ M1.2.2 = M.2.2
theorem cod_small {P : PC} {on an p : Nat} (hk : okP on an P) (hon : on ≤ 1600) (han : an ≤ 6000) (hp : p < sz P) : cod P p < 100000 := by
  have := src_lt hk hon han hp
  have hb := bgAt_le P p
  unfold cod pl
  split <;> omega
theorem takesOut7 {M : MS} {P : PC} {St : Nat → Nat} {on an x n : Nat} {mk : Nat → Int} {st : Nat → Nat} (hB : RBk M P) (hS : RSt M St on an) (hk : okP on an P) (ht : ∀ p, p < sz P → 1 ≤ St (srcAt P p) ∧ St (srcAt P p) ≤ 127) (hm : RMk M (P, mk, st)) (hbd : bdM mk st (sz P)) (hx : x + n ≤ sz P) : ∃ M1, fX7_takesOut M (nn x) (nn n) = some (nn (cntB (fun p => St (srcAt P p)) x n), M1) ∧ RBk M1 (takP P x n) ∧ RMk M1 (takP P x n, goM x n mk, st) ∧ Ft M M1 := by
  have hw := okP_wf hk
  have hz := hB.2.1
  have hon := hS.2.2.1
  have han := hS.2.2.2.1
  have hRV := RV_of hB hS hk ht
  have hsz := sz_takP hx
  have b41 : ∃ M1, fX7_takesOut_b41 M (nn x) (nn n) (nn (cntB (fun p => St (srcAt P p)) x n)) = some (nn (cntB (fun p => St (srcAt P p)) x n), M1) ∧ RBk M1 (takP P x n) ∧ RMk M1 (takP P x n, goM x n mk, st) ∧ Ft M M1 := by
    obtain ⟨M1, a1, a2, a3, a4, a5⟩ := closesGap_sp hB.1 hz hx
    obtain ⟨M2, b1, b2, b3, b4, b5⟩ := partsAt_sp (x := x) (cv := cod P (x + n)) a2 (by omega) (by omega) (fun hh => ⟨by rw [a4 x (Nat.le_refl _) (by omega)]; exact hB.2.2 _ (by omega), cod_small hk hon han (by omega)⟩)
    have hm2 : ∀ k, k < 8 → M2.2.1 12 k = ii (mk k) := fun k hk => by rw [b5.2.1 12 (by decide), a5.2.1 12 (by decide)]; exact (hm k hk).1
    obtain ⟨M3, c1, c2, c3⟩ := marksGo7_sp (x := x) (n := n) hm2 (fun k hk => by have := hbd k hk; omega) (by omega)
    refine ⟨M3, ?_, ⟨?_, by omega, fun p hp => ?_⟩, fun k hk => ⟨c2 k hk, ?_⟩, ⟨fun j hj => ?_, fun j h1 h2 => ?_, ?_⟩⟩
    · unfold fX7_takesOut_b41
      rw [a1, ob1_some, b1, ob1_some, c1, ob1_some]
    · rw [c3.1, b2, hsz]
    · rw [c3.2.1 10 (by decide), cod_takP hw hx (by omega)]
      by_cases e : p < x
      · rw [if_pos e, b3 p (by omega), a3 p e]
        exact hB.2.2 p (by omega)
      · rw [if_neg e]
        by_cases e3 : p = x
        · subst e3
          rw [if_pos rfl]
          exact b4 (by omega)
        · rw [if_neg e3, b3 p e3, a4 p (by omega) (by omega)]
          exact hB.2.2 _ (by omega)
    · rw [c3.2.1 13 (by decide), b5.2.1 13 (by decide), a5.2.1 13 (by decide)]
      exact (hm k hk).2
    · rw [c3.1, b5.1 j hj, a5.1 j hj]
    · rw [c3.2.1 j h2, b5.2.1 j h1, a5.2.1 j h1]
    · rw [c3.2.2, b5.2.2, a5.2.2]
  have hcb : ∀ j, cntB (fun p => St (srcAt P p)) x j ≤ j := by
    intro j
    induction j with
    | zero => exact Nat.le_refl _
    | succ j ih =>
      show cntB (fun p => St (srcAt P p)) x j + (if St (srcAt P (x + j)) = 10 then 1 else 0) ≤ j + 1
      split <;> omega
  have key : ∀ fu j, j ≤ n → n - j < fu → fX7_takesOut_b5 fu M (nn x) (nn n) (nn (cntB (fun p => St (srcAt P p)) x j)) (nn (x + j)) = fX7_takesOut_b41 M (nn x) (nn n) (nn (cntB (fun p => St (srcAt P p)) x n)) := by
    intro fu
    induction fu with
    | zero => intro j _ h; omega
    | succ fu ih =>
      intro j hj hfu
      unfold fX7_takesOut_b5
      rw [nn_add, if_le (by omega) (by omega)]
      by_cases e : x + n ≤ x + j
      · rw [if_pos e, show j = n by omega]
      · have h7 := ht (x + j) (by omega)
        have hs := hRV.2.1 (x + j) (by omega)
        change fX7_signAt M (nn (x + j)) = some (nn (St (srcAt P (x + j)))) at hs
        have hih := ih (j + 1) (by omega) (by omega)
        have hc1 : cntB (fun p => St (srcAt P p)) x (j + 1) = cntB (fun p => St (srcAt P p)) x j + if St (srcAt P (x + j)) = 10 then 1 else 0 := rfl
        rw [if_neg e, hs, ob1_some, q10, if_eq (by omega) (by omega)]
        unfold fX7_takesOut_b30
        by_cases e1 : St (srcAt P (x + j)) = 10
        · rw [if_pos e1] at hc1
          rw [if_pos e1, q1, flag_nn (by omega), ob1_some, nn_add, nn_add, zlt, zlt, ← hc1]
          exact hih
        · rw [if_neg e1] at hc1
          rw [if_neg e1, q0, flag_nn (by omega), ob1_some, nn_add, q1, nn_add, zlt, zlt, ← hc1]
          exact hih
  unfold fX7_takesOut
  rw [q0]
  have := key FU 0 (by omega) (by rw [FU_eq]; omega)
  rw [Nat.add_zero] at this
  change fX7_takesOut_b5 FU M (nn x) (nn n) (nn 0) (nn x) = _ at this
  rw [this]
  exact b41
