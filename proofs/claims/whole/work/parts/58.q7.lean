/-! questions: words, rows -/
abbrev wst (t : Nat → Nat) (k : Nat) : Prop := wc (t k) ∧ (k = 0 ∨ ¬ wc (t (k - 1)))
def wdF (t : Nat → Nat) (n : Nat) : Nat → Nat × Nat × Nat
  | 0 => (0, 0, 0)
  | k + 1 => if wst t k then ((wdF t n k).1 + 1, max (wdF t n k).2.1 (fstF (nw t) k (n - k) - k), if (wdF t n k).2.1 < fstF (nw t) k (n - k) - k then k else (wdF t n k).2.2) else wdF t n k
theorem wdF_le (t : Nat → Nat) (n k : Nat) (hk : k ≤ n) : (wdF t n k).1 ≤ k ∧ (wdF t n k).2.1 ≤ n ∧ (wdF t n k).2.2 ≤ n := by
  induction k with
  | zero => simp [wdF]
  | succ k ih =>
    have := ih (by omega)
    have hf := fstF_le (nw t) k (n - k)
    simp only [wdF]
    split
    · refine ⟨?_, ?_, ?_⟩
      · show (wdF t n k).1 + 1 ≤ k + 1
        omega
      · show max (wdF t n k).2.1 _ ≤ n
        omega
      · show (if _ then k else (wdF t n k).2.2) ≤ n
        split <;> omega
    · omega
theorem wdF_const {t : Nat → Nat} {n p j : Nat} (hp : wc (t p)) (h1 : p + 1 ≤ j) (h2 : j ≤ fstF (nw t) p (n - p) + 1) (h3 : j ≤ n) : wdF t n j = wdF t n (p + 1) := by
  induction j with
  | zero => omega
  | succ j ih =>
    by_cases e : j = p
    · subst e; rfl
    · rw [← ih (by omega) (by omega) (by omega)]
      have hw1 : wc (t (j - 1)) := by
        by_cases e2 : j - 1 = p
        · rw [e2]; exact hp
        · have := fstF_no (b := nw t) (p := p) (d := n - p) (k := j - 1) (by omega) (by omega)
          rw [nw_f] at this
          exact this
      have hns : ¬ wst t j := by
        rintro ⟨-, h | h⟩
        · omega
        · exact h hw1
      show (if wst t j then _ else wdF t n j) = _
      rw [if_neg hns]
theorem words6 {G : zH} {n : Nat} {t w : Nat → Nat} (h : PV G n t w) : ∀ fu p q, p ≤ n + 1 → q = min p n → n + 1 - p < fu → (p = 0 ∨ n < p ∨ ¬ wc (t (p - 1))) → fX6_words_b15 fu G 0 20 (nn (wdF t n q).1) (nn (wdF t n q).2.1) (nn (wdF t n q).2.2) (nn p) = fX6_words_b71 G 0 (nn (wdF t n n).1) (nn (wdF t n n).2.1) (nn (wdF t n n).2.2) := by
  have hPV := h
  obtain ⟨v1, v2, v3, v4, v5, v6, v7⟩ := h
  intro fu
  induction fu with
  | zero => intro p q _ _ h; omega
  | succ fu ih =>
    intro p q hp hq hfu hpre
    unfold fX6_words_b15
    rw [v2, ob1_some, if_le (by omega) (by omega)]
    by_cases e : n ≤ p
    · rw [if_pos e, show q = n by omega]
    · have hqp : q = p := by omega
      subst hqp
      have hwl := wdF_le t n q (by omega)
      have hf := fstF_le (nw t) q (n - q)
      rw [if_neg e, v1, ob1_some, wordEnd6 hPV (by omega), ob1_some, if_le (by omega) (by omega)]
      by_cases e1 : wc (t q)
      · have hst : wst t q := ⟨e1, by omega⟩
        have hgt : q < fstF (nw t) q (n - q) := by
          by_cases e2 : q = fstF (nw t) q (n - q)
          · have := fstF_at (b := nw t) (p := q) (d := n - q) (by omega)
            rw [← e2, nw_t] at this
            exact absurd e1 this
          · omega
        have hd : wdF t n (q + 1) = ((wdF t n q).1 + 1, max (wdF t n q).2.1 (fstF (nw t) q (n - q) - q), if (wdF t n q).2.1 < fstF (nw t) q (n - q) - q then q else (wdF t n q).2.2) := by
          show (if wst t q then _ else _) = _
          rw [if_pos hst]
        have hco := wdF_const (t := t) (n := n) (p := q) (j := min (fstF (nw t) q (n - q) + 1) n) e1 (by omega) (by omega) (by omega)
        have hih := ih (fstF (nw t) q (n - q) + 1) (min (fstF (nw t) q (n - q) + 1) n) (by omega) rfl (by omega) (by
          by_cases e2 : fstF (nw t) q (n - q) < n
          · right; right
            have := fstF_at (b := nw t) (p := q) (d := n - q) (by omega)
            rw [nw_t] at this
            rw [Nat.add_sub_cancel]
            exact this
          · right; left
            omega)
        rw [hco, hd] at hih
        rw [if_neg (by omega), q1, nn_add, zlt, nn_sub (by omega), if_le (by omega) (by omega)]
        unfold fX6_words_b61 fX6_words_b65
        by_cases e3 : fstF (nw t) q (n - q) - q ≤ (wdF t n q).2.1
        · rw [if_pos e3, zlt, q1, nn_add]
          rw [if_neg (by omega), show max (wdF t n q).2.1 (fstF (nw t) q (n - q) - q) = (wdF t n q).2.1 by omega] at hih
          exact hih
        · rw [if_neg e3, zlt, zlt, q1, nn_add]
          rw [if_pos (by omega), show max (wdF t n q).2.1 (fstF (nw t) q (n - q) - q) = fstF (nw t) q (n - q) - q by omega] at hih
          exact hih
      · have heq : fstF (nw t) q (n - q) = q := by
          rw [show n - q = (n - (q + 1)) + 1 by omega]
          simp only [fstF]
          rw [if_pos (by rw [nw_t]; exact e1)]
        rw [if_pos (by omega)]
        unfold fX6_words_b65
        rw [zlt, q1, nn_add]
        have hd : wdF t n (q + 1) = wdF t n q := by
          show (if wst t q then _ else wdF t n q) = _
          rw [if_neg (fun x => e1 x.1)]
        have hih := ih (q + 1) (q + 1) (by omega) (by omega) (by omega) (by right; right; rw [Nat.add_sub_cancel]; exact e1)
        rw [hd] at hih
        exact hih
def bI (m b : Nat) : Int32 := if m = 0 then -1 else nn b
theorem words7 {M : MS} {P : PC} {n : Nat} {t : Nat → Nat} (h : RV M n t) (hB : RBk M P) (hn : n = sz P) : ∀ fu k, k ≤ n → n - k < fu → fX7_words_b14 fu M (nn (wdF t n k).1) (bI (wdF t n k).1 (wdF t n k).2.2) (nn (wdF t n k).2.1) (nn k) = fX7_words_b83 M (nn (wdF t n n).1) (bI (wdF t n n).1 (wdF t n n).2.2) (nn (wdF t n n).2.1) := by
  have hRV := h
  obtain ⟨v1, v3, v6, v7⟩ := h
  intro fu
  induction fu with
  | zero => intro k _ h; omega
  | succ fu ih =>
    intro k hk hfu
    unfold fX7_words_b14
    have hwl := wdF_le t n k hk
    have hf := fstF_le (nw t) k (n - k)
    rw [v1, if_le (by omega) (by omega)]
    by_cases e : n ≤ k
    · rw [if_pos e, show k = n by omega]
    · rw [if_neg e, isOfWord7 hRV hB hn (by omega), ob1_some]
      have hih := ih (k + 1) (by omega) (by omega)
      have skip : ¬ wst t k → fX7_words_b77 (fX7_words_b14 fu) M (nn (wdF t n k).1) (bI (wdF t n k).1 (wdF t n k).2.2) (nn (wdF t n k).2.1) (nn k) = fX7_words_b83 M (nn (wdF t n n).1) (bI (wdF t n n).1 (wdF t n n).2.2) (nn (wdF t n n).2.1) := by
        intro hns
        have hd : wdF t n (k + 1) = wdF t n k := by
          show (if wst t k then _ else wdF t n k) = _
          rw [if_neg hns]
        rw [hd] at hih
        unfold fX7_words_b77
        rw [zlt, q1, nn_add]
        exact hih
      by_cases e1 : wc (t k)
      · rw [if_neg (by rw [if_pos ⟨by omega, e1⟩]; decide)]
        by_cases e2 : k = 0 ∨ ¬ wc (t (k - 1))
        · have hz : ∀ {x y : Option (Int32 × MS)}, (ob1 (fX7_isOfWord M (nn k - 1)) fun v4 => if v4 = 0 then x else y) = x := by
            intro x y
            by_cases e3 : k = 0
            · subst e3
              rw [isOfWord7_neg (by decide), ob1_some, if_pos n00]
            · rw [q1, nn_sub (by omega), isOfWord7 hRV hB hn (by omega), ob1_some, if_pos (by rw [if_neg (by rintro ⟨-, hh⟩; rcases e2 with h | h; exact e3 h; exact h hh)]; rfl)]
          rw [hz]
          have hd : wdF t n (k + 1) = ((wdF t n k).1 + 1, max (wdF t n k).2.1 (fstF (nw t) k (n - k) - k), if (wdF t n k).2.1 < fstF (nw t) k (n - k) - k then k else (wdF t n k).2.2) := by
            show (if wst t k then _ else _) = _
            rw [if_pos ⟨e1, e2⟩]
          rw [hd] at hih
          have hgt : k < fstF (nw t) k (n - k) := by
            by_cases e4 : k = fstF (nw t) k (n - k)
            · have := fstF_at (b := nw t) (p := k) (d := n - k) (by omega)
              rw [← e4, nw_t] at this
              exact absurd e1 this
            · omega
          rw [q1, nn_add, zlt, endOfWord7 hRV hB hn (by omega), ob1_some, nn_sub (by omega), zlt, if_le (by omega) (by omega)]
          have b69 : ∀ y, fX7_words_b69 (fX7_words_b14 fu) M (nn ((wdF t n k).1 + 1)) (nn (wdF t n k).2.1) (nn k) (nn (fstF (nw t) k (n - k) - k)) y = fX7_words_b14 fu M (nn ((wdF t n k).1 + 1)) y (nn (max (wdF t n k).2.1 (fstF (nw t) k (n - k) - k))) (nn (k + 1)) := by
            intro y
            unfold fX7_words_b69 fX7_words_b77
            rw [if_lt (by omega) (by omega), nn_if, zlt, zlt, q1, nn_add, show (if (wdF t n k).2.1 < fstF (nw t) k (n - k) - k then fstF (nw t) k (n - k) - k else (wdF t n k).2.1) = max (wdF t n k).2.1 (fstF (nw t) k (n - k) - k) by split <;> omega]
          have hb1 : bI ((wdF t n k).1 + 1) (if (wdF t n k).2.1 < fstF (nw t) k (n - k) - k then k else (wdF t n k).2.2) = nn (if (wdF t n k).2.1 < fstF (nw t) k (n - k) - k then k else (wdF t n k).2.2) := if_neg (by omega)
          change fX7_words_b14 fu M (nn ((wdF t n k).1 + 1)) (bI ((wdF t n k).1 + 1) (if (wdF t n k).2.1 < fstF (nw t) k (n - k) - k then k else (wdF t n k).2.2)) (nn (max (wdF t n k).2.1 (fstF (nw t) k (n - k) - k))) (nn (k + 1)) = _ at hih
          rw [hb1] at hih
          by_cases e5 : fstF (nw t) k (n - k) - k ≤ (wdF t n k).2.1
          · have hpos : ¬ (wdF t n k).1 = 0 := by
              intro h0
              have : (wdF t n k).2.1 = 0 := by
                have key : ∀ j, (wdF t n j).1 = 0 → (wdF t n j).2.1 = 0 := by
                  intro j
                  induction j with
                  | zero => intro _; rfl
                  | succ j ihj =>
                    intro hj
                    simp only [wdF] at hj ⊢
                    by_cases ew : wst t j
                    · rw [if_pos ew] at hj
                      exact absurd hj (by show ¬ (wdF t n j).1 + 1 = 0; omega)
                    · rw [if_neg ew] at hj ⊢
                      exact ihj hj
                exact key k h0
              omega
            rw [if_pos e5, b69, show bI (wdF t n k).1 (wdF t n k).2.2 = nn (wdF t n k).2.2 from if_neg hpos]
            rw [if_neg (by omega)] at hih
            exact hih
          · rw [if_neg e5, b69]
            rw [if_pos (by omega)] at hih
            exact hih
        · have e2' : ¬ k = 0 ∧ wc (t (k - 1)) := ⟨fun h => e2 (Or.inl h), Classical.byContradiction fun h => e2 (Or.inr h)⟩
          rw [q1, nn_sub (by omega), isOfWord7 hRV hB hn (by omega), ob1_some, if_neg (by rw [if_pos ⟨by omega, e2'.2⟩]; decide)]
          exact skip (fun x => e2 x.2)
      · rw [if_pos (by rw [if_neg (fun x => e1 x.2)]; rfl)]
        exact skip (fun x => e1 x.1)
theorem op_words : Op_words Inv := by
  intro k G  hI
  refine op_fin (f6 := fX6_words G 0) (f7 := fun M => fX7_words M) hI ?_
  intro c bu a ro st s u f lv ke pg qg sc W M T St kd h1 h5 h6
  obtain ⟨hv, ht⟩ := h5.cur
  have hRB : RBk (mI M 0 0) (W s).1 := h6.2.2.2.1.cg rfl rfl
  have hRV := RV_of hRB (h6.2.2.1.cg rfl rfl rfl rfl : RSt (mI M 0 0) St st.1 st.2.1) hv.1 ht
  have hRV2 : RV (mI (mI M 0 0) 1 0) (sz (W s).1) (fun p => St (srcAt (W s).1 p)) := hRV
  have hs : s < 31 := h5.2.2.2.1.1
  have hz := hv.2.1
  have hmk : RMk M (W s) := h6.2.2.2.2.1
  have hwl := wdF_le (fun p => St (srcAt (W s).1 p)) (sz (W s).1) (sz (W s).1) (Nat.le_refl _)
  have hc6 := fun {G : zH} {w : Nat → Nat} (hP : PV G (sz (W s).1) (fun p => St (srcAt (W s).1 p)) w) => words6 hP FU 0 0 (by omega) (by omega) (by rw [FU_eq]; omega) (Or.inl rfl)
  have hc7 := words7 hRV hRB rfl FU 0 (by omega) (by rw [FU_eq]; omega)
  by_cases e0 : (wdF (fun p => St (srcAt (W s).1 p)) (sz (W s).1) (sz (W s).1)).1 = 0
  · refine finE (nn (wdF (fun p => St (srcAt (W s).1 p)) (sz (W s).1) (sz (W s).1)).1) h6 ?_ ?_
    · unfold fX6_words
      refine sa1 h1.1.io0 ?_
      refine page_open h1 h5 (Fo.refl _ _) ?_
      intro G2 c2 b2 lv2 pg2 z1 z2 z3 hPV
      rw [q0]
      refine ok_of (hc6 hPV) ?_
      unfold fX6_words_b71
      refine sa1 z1.1.r0_2 ?_
      refine sa1 z1.1.io2 ?_
      refine ca1 (clear5_sp z1.1 z1.2.2.1 0) ?_
      rintro G3 ⟨g1, g2⟩
      refine ift (by rw [e0]; decide) ?_
      exact CQ_ret (z1.fx g1 g2 rfl rfl) (z3.trans (g2.1.fo (by omega))) (by omega) (fun _ => z2)
    · show fX7_words M = _
      unfold fX7_words
      rw [zlt]
      refine hc7.trans ?_
      unfold fX7_words_b83
      rw [zlt, if_pos (by rw [e0]; decide)]
  · refine fin2 (nn (wdF (fun p => St (srcAt (W s).1 p)) (sz (W s).1) (sz (W s).1)).1) (nn (wdF (fun p => St (srcAt (W s).1 p)) (sz (W s).1) (sz (W s).1)).2.1).toInt64 (nn (wdF (fun p => St (srcAt (W s).1 p)) (sz (W s).1) (sz (W s).1)).2.2).toInt64 h6 ?_ ?_
    · unfold fX6_words
      refine sa1 h1.1.io0 ?_
      refine page_open h1 h5 (Fo.refl _ _) ?_
      intro G2 c2 b2 lv2 pg2 z1 z2 z3 hPV
      rw [q0]
      refine ok_of (hc6 hPV) ?_
      unfold fX6_words_b71
      refine sa1 z1.1.r0_2 ?_
      refine sa1 z1.1.io2 ?_
      refine ca1 (clear5_sp z1.1 z1.2.2.1 0) ?_
      rintro G3 ⟨g1, g2⟩
      have z4 := z1.fx g1 g2 rfl rfl
      refine ifn (by rw [q0, nn_le (by omega) (by omega)]; omega) ?_
      refine sa1 z4.1.r0_2 ?_
      refine sa1 z4.1.io2 ?_
      exact CQ_t2 z4 (z3.trans (g2.1.fo (by omega))) (by omega) (fun _ => z2) _ _
    · show fX7_words M = _
      unfold fX7_words
      rw [zlt]
      refine hc7.trans ?_
      unfold fX7_words_b83
      rw [zlt, if_neg (by rw [q0, nn_le (by omega) (by omega)]; omega), tl1_sp, ob1_some, show bI (wdF (fun p => St (srcAt (W s).1 p)) (sz (W s).1) (sz (W s).1)).1 (wdF (fun p => St (srcAt (W s).1 p)) (sz (W s).1) (sz (W s).1)).2.2 = nn (wdF (fun p => St (srcAt (W s).1 p)) (sz (W s).1) (sz (W s).1)).2.2 from if_neg e0, tl2_sp, ob1_some]
