/-! questions: word, words, rows -/
theorem n00 : nn 0 = (0 : Int32) := rfl
abbrev wc (v : Nat) : Prop := (97 ≤ v ∧ v ≤ 122) ∨ (65 ≤ v ∧ v ≤ 90) ∨ (48 ≤ v ∧ v ≤ 57)
def nw (t : Nat → Nat) : Nat → Bool := fun k => decide (¬ wc (t k))
theorem nw_t {t : Nat → Nat} {k : Nat} : (nw t k = true) = ¬ wc (t k) := by
  unfold nw
  exact propext ⟨of_decide_eq_true, decide_eq_true⟩
theorem nw_f {t : Nat → Nat} {k : Nat} : (nw t k = false) = wc (t k) := by
  unfold nw
  rw [decide_eq_false_iff_not]
  exact propext ⟨fun h => Classical.byContradiction h, fun h h2 => h2 h⟩
theorem isSmall6 {v : Nat} (h : v ≤ 255) : fX6_isSmall (nn v) = some (nn (if 97 ≤ v ∧ v ≤ 122 then 1 else 0)) := by
  unfold fX6_isSmall
  rw [q97, q122, if_lt (by omega) (by omega)]
  by_cases e : v < 97
  · rw [if_pos e, if_neg (by omega)]
    rfl
  · rw [if_neg e, if_lt (by omega) (by omega)]
    by_cases e2 : 122 < v
    · rw [if_pos e2, if_neg (by omega)]
      rfl
    · rw [if_neg e2, if_pos (by omega)]
      rfl
theorem isCapital6 {v : Nat} (h : v ≤ 255) : fX6_isCapital (nn v) = some (nn (if 65 ≤ v ∧ v ≤ 90 then 1 else 0)) := by
  unfold fX6_isCapital
  rw [q65, q90, if_lt (by omega) (by omega)]
  by_cases e : v < 65
  · rw [if_pos e, if_neg (by omega)]
    rfl
  · rw [if_neg e, if_lt (by omega) (by omega)]
    by_cases e2 : 90 < v
    · rw [if_pos e2, if_neg (by omega)]
      rfl
    · rw [if_neg e2, if_pos (by omega)]
      rfl
theorem isDigit6 {v : Nat} (h : v ≤ 255) : fX6_isDigit (nn v) = some (nn (if 48 ≤ v ∧ v ≤ 57 then 1 else 0)) := by
  unfold fX6_isDigit
  rw [q48, q57, if_lt (by omega) (by omega)]
  by_cases e : v < 48
  · rw [if_pos e, if_neg (by omega)]
    rfl
  · rw [if_neg e, if_lt (by omega) (by omega)]
    by_cases e2 : 57 < v
    · rw [if_pos e2, if_neg (by omega)]
      rfl
    · rw [if_neg e2, if_pos (by omega)]
      rfl
theorem isOfWord6 {v : Nat} (h : v ≤ 255) : fX6_isOfWord (nn v) = some (nn (if wc v then 1 else 0)) := by
  unfold fX6_isOfWord fX6_isOfWord_b21
  rw [isSmall6 h, ob1_some, q0]
  by_cases e1 : 97 ≤ v ∧ v ≤ 122
  · rw [if_pos e1, if_neg (by decide), if_pos (Or.inl e1)]
    rfl
  · rw [if_neg e1, if_pos rfl, isCapital6 h, ob1_some]
    by_cases e2 : 65 ≤ v ∧ v ≤ 90
    · rw [if_pos e2, if_neg (by decide), if_pos (Or.inr (Or.inl e2))]
      rfl
    · rw [if_neg e2, if_pos rfl, isDigit6 h, ob1_some]
      by_cases e3 : 48 ≤ v ∧ v ≤ 57
      · rw [if_pos e3, if_neg (by decide), if_pos (Or.inr (Or.inr e3))]
        rfl
      · rw [if_neg e3, if_pos rfl, if_neg (by rintro (h | h | h) <;> contradiction)]
def sml (v : Nat) : Nat := if 65 ≤ v ∧ v ≤ 90 then v + 32 else v
theorem small7 {v : Nat} (h : v ≤ 255) : fX7_small (nn v) = some (nn (sml v)) := by
  unfold fX7_small sml
  rw [in_c (lo := 65) (hi := 90) (by omega) rfl rfl, ob1_some]
  by_cases e : 65 ≤ v ∧ v ≤ 90
  · rw [if_pos e, if_pos e, if_neg (by decide), q97, q65, nn_add, nn_sub (by omega), show v + 97 - 65 = v + 32 by omega]
  · rw [if_neg e, if_neg e, if_pos n00]
theorem isOfWord7 {M : MS} {P : PC} {n p : Nat} {t : Nat → Nat} (h : RV M n t) (hB : RBk M P) (hn : n = sz P) (hp : p < 2147483648) : fX7_isOfWord M (nn p) = some (nn (if p < n ∧ wc (t p) then 1 else 0)) := by
  unfold fX7_isOfWord fX7_isOfWord_b47
  rw [isSign7_sp hB hp, ob1_some, ← hn]
  by_cases e : p < n
  · have h7 := h.2.2.2 p e
    have hs : sml (t p) ≤ 255 := by unfold sml; split <;> omega
    rw [if_pos e, if_neg (by decide), h.2.1 p e, ob1_some, small7 (by omega), ob1_some, in_c (lo := 97) (hi := 122) (by omega) rfl rfl, ob1_some, q0]
    by_cases e1 : 97 ≤ sml (t p) ∧ sml (t p) ≤ 122
    · rw [if_pos e1, if_neg (by decide), if_pos ⟨e, by unfold sml at e1; split at e1 <;> omega⟩]
      rfl
    · rw [if_neg e1, if_pos rfl, in_c (lo := 48) (hi := 57) (by omega) rfl rfl, ob1_some]
      by_cases e2 : 48 ≤ sml (t p) ∧ sml (t p) ≤ 57
      · rw [if_pos e2, if_neg (by decide), if_pos ⟨e, by unfold sml at e2; split at e2 <;> omega⟩]
        rfl
      · rw [if_neg e2, if_pos rfl, if_neg (by
          rintro ⟨-, hw⟩
          unfold sml at e1 e2
          by_cases h65 : 65 ≤ t p ∧ t p ≤ 90
          · rw [if_pos h65] at e1 e2
            omega
          · rw [if_neg h65] at e1 e2
            omega)]
  · rw [if_neg e, if_pos n00, if_neg (fun x => e x.1)]
    rfl
theorem isOfWord7_neg {M : MS} {x : Int32} (hx : x < 0) : fX7_isOfWord M x = some (nn 0) := by
  unfold fX7_isOfWord
  rw [isSign7_neg hx]
  rfl
theorem wordEnd6 {G : zH} {n p : Nat} {t w : Nat → Nat} (h : PV G n t w) (hp : p ≤ 6000) : fX3_wordEnd G 20 (nn p) = some (nn (fstF (nw t) p (n - p))) := by
  obtain ⟨v1, v2, v3, v4, v5, v6, v7⟩ := h
  unfold fX3_wordEnd
  have key : ∀ fu p, p ≤ 6000 → 6000 + n - p < fu → fX3_wordEnd_b2 G fu 20 (nn p) = some (nn (fstF (nw t) p (n - p))) := by
    intro fu
    induction fu with
    | zero => intro p _ h; omega
    | succ fu ih =>
      intro p hp hfu
      unfold fX3_wordEnd_b2
      rw [v2, ob1_some, if_le (by omega) (by omega)]
      by_cases e : n ≤ p
      · rw [if_pos e, show n - p = 0 by omega]
        rfl
      · have := v7 p (by omega)
        rw [if_neg e, v1, ob1_some, v3 p (by omega), ob1_some, isOfWord6 (by omega), ob1_some, show n - p = (n - (p + 1)) + 1 by omega]
        simp only [fstF]
        by_cases e2 : wc (t p)
        · rw [if_pos e2, if_neg (by decide), if_neg (by rw [nw_t]; exact fun x => x e2), zlt, q1, nn_add]
          exact ih (p + 1) (by omega) (by omega)
        · rw [if_neg e2, if_pos n00, if_pos (by rw [nw_t]; exact e2)]
  exact key FU p hp (by rw [FU_eq]; omega)
theorem endOfWord7 {M : MS} {P : PC} {n p : Nat} {t : Nat → Nat} (h : RV M n t) (hB : RBk M P) (hn : n = sz P) (hp : p ≤ 6000) : fX7_endOfWord M (nn p) = some (nn (fstF (nw t) p (n - p))) := by
  have hn3 := h.2.2.1
  unfold fX7_endOfWord
  have key : ∀ fu p, p ≤ 6000 → 6000 + n - p < fu → fX7_endOfWord_b2 M fu (nn p) = some (nn (fstF (nw t) p (n - p))) := by
    intro fu
    induction fu with
    | zero => intro p _ h; omega
    | succ fu ih =>
      intro p hp hfu
      unfold fX7_endOfWord_b2
      rw [isOfWord7 h hB hn (by omega), ob1_some]
      by_cases e : n ≤ p
      · rw [if_pos (by rw [if_neg (fun x => absurd x.1 (by omega))]; rfl), show n - p = 0 by omega]
        rfl
      · rw [show n - p = (n - (p + 1)) + 1 by omega]
        simp only [fstF]
        by_cases e2 : wc (t p)
        · rw [if_neg (by rw [if_pos ⟨by omega, e2⟩]; decide), if_neg (by rw [nw_t]; exact fun x => x e2), zlt, q1, nn_add]
          exact ih (p + 1) (by omega) (by omega)
        · rw [if_pos (by rw [if_neg (fun x => e2 x.2)]; rfl), if_pos (by rw [nw_t]; exact e2)]
  exact key FU p hp (by rw [FU_eq]; omega)
/-- the word at a place inside -/
theorem word_b51 {G : zH} {n i : Nat} {t w : Nat → Nat} (h : PV G n t w) : ∀ fu p, p ≤ n → p < fu → fX6_word_b51 fu G 0 20 (nn i) (nn p) = fX6_word_b76 G 0 20 (nn i) (nn (lstF (nw t) p)) := by
  obtain ⟨v1, v2, v3, v4, v5, v6, v7⟩ := h
  intro fu
  induction fu with
  | zero => intro p _ h; omega
  | succ fu ih =>
    intro p hp hfu
    unfold fX6_word_b51
    rw [q0, if_le (by omega) (by omega)]
    by_cases e : p ≤ 0
    · rw [if_pos e, show p = 0 by omega]
      rfl
    · obtain ⟨j, rfl⟩ : ∃ j, p = j + 1 := ⟨p - 1, by omega⟩
      have := v7 j (by omega)
      rw [if_neg e, v1, ob1_some, q1, nn_sub (by omega), Nat.add_sub_cancel, v3 j (by omega), ob1_some, isOfWord6 (by omega), ob1_some]
      simp only [lstF]
      by_cases e2 : wc (t j)
      · rw [if_pos e2, if_neg (by decide), if_neg (by rw [nw_t]; exact fun x => x e2), zlt, nn_dec1 (by omega), Nat.add_sub_cancel]
        exact ih j (by omega) (by omega)
      · rw [if_neg e2, if_pos rfl, if_pos (by rw [nw_t]; exact e2)]
theorem word_b42 {M : MS} {P : PC} {n : Nat} {t : Nat → Nat} (h : RV M n t) (hB : RBk M P) (hn : n = sz P) : ∀ fu p, p < n → p < fu → fX7_word_b42 fu M (nn p) = fX7_word_b58 M (nn (lstF (nw t) p)) := by
  have hn3 := h.2.2.1
  intro fu
  induction fu with
  | zero => intro p _ h; omega
  | succ fu ih =>
    intro p hp hfu
    unfold fX7_word_b42
    by_cases e : p = 0
    · subst e
      rw [isOfWord7_neg (by decide), ob1_some, if_pos n00]
      rfl
    · obtain ⟨j, rfl⟩ : ∃ j, p = j + 1 := ⟨p - 1, by omega⟩
      rw [q1, nn_sub (by omega), Nat.add_sub_cancel, isOfWord7 h hB hn (by omega), ob1_some]
      simp only [lstF]
      by_cases e2 : wc (t j)
      · rw [if_neg (by rw [if_pos ⟨by omega, e2⟩]; decide), if_neg (by rw [nw_t]; exact fun x => x e2), zlt, nn_dec1 (by omega), Nat.add_sub_cancel]
        exact ih j (by omega) (by omega)
      · rw [if_pos (by rw [if_neg (fun x => e2 x.2)]; rfl), if_pos (by rw [nw_t]; exact e2)]
theorem word_same {t : Nat → Nat} {n i : Nat} (hi : i ≤ n) : fstF (nw t) (lstF (nw t) i) (n - lstF (nw t) i) = fstF (nw t) i (n - i) := by
  have h1 := lstF_le (nw t) i
  have h2 := fstF_le (nw t) i (n - i)
  refine fstF_eq (by omega) (by omega) ?_ ?_
  · intro k k1 k2
    by_cases e : k < i
    · exact lstF_no k1 e
    · exact fstF_no (by omega) k2
  · intro hm
    exact fstF_at (by omega)
theorem op_word : Op_word Inv := by
  intro k G x hI
  refine op_fin (f6 := fX6_word G 0 x) (f7 := fun M => fX7_word M x) hI ?_
  intro c bu a ro st s u f lv ke pg qg sc W M T St kd h1 h5 h6
  obtain ⟨hv, ht⟩ := h5.cur
  have hRB : RBk (mI M 0 0) (W s).1 := h6.2.2.2.1.cg rfl rfl
  have hRV := RV_of hRB (h6.2.2.1.cg rfl rfl rfl rfl : RSt (mI M 0 0) St st.1 st.2.1) hv.1 ht
  have hRV2 : RV (mI (mI M 0 0) 1 0) (sz (W s).1) (fun p => St (srcAt (W s).1 p)) := hRV
  have hs : s < 31 := h5.2.2.2.1.1
  have hz := hv.2.1
  have hmk : RMk M (W s) := h6.2.2.2.2.1
  have hRB2 : RBk (mI (mI M 0 0) 1 0) (W s).1 := hRB.cg rfl rfl
  have refuse6 : ∀ {G1 c1 b1 lv1}, Cl G1 c1 b1 (3016 * (4 * (k + 1) + a.2.1)) a ro st (s, u, f, lv1) ke pg qg sc W → Fo G c G1 c1 → ok (some ((-1 : Int32), G1)) (CQ G c (3016 * (4 * (k + 1) + a.2.1)) a a.2.1 ro st s u f ke W St (-1)) := fun y2 y3 => CQ_ret (old := a.2.2.1) y2 y3 h5.2.1.2.1 h5.2.2.2.2.2.2
  rcases nn_or x with hx | ⟨p, hp, rfl⟩
  · refine fin0 (-1) h5 h6 ?_ ?_
    · unfold fX6_word
      refine sa1 h1.1.io0 ?_
      refine sa2 (isPlace6_neg hx) ?_
      refine ift rfl ?_
      exact ret0 h1 h5
    · unfold fX7_word
      rw [zlt, isPlace7_neg hx]
      rfl
  · by_cases e : p ≤ sz (W s).1
    · have sg : ∀ {G2 : zH} {w : Nat → Nat}, PV G2 (sz (W s).1) (fun p => St (srcAt (W s).1 p)) w → ∀ j, j ≤ sz (W s).1 → ob1 (fX3_signAt G2 20 (nn j)) (fun v => fX6_isOfWord v) = some (nn (if j < sz (W s).1 ∧ wc (St (srcAt (W s).1 j)) then 1 else 0)) := by
        intro G2 w hPV j hj
        by_cases ej : j < sz (W s).1
        · rw [hPV.2.2.1 j ej, ob1_some, isOfWord6 (by have := ht j ej; show St (srcAt (W s).1 j) ≤ 255; omega)]
          by_cases ew : wc (St (srcAt (W s).1 j))
          · rw [if_pos ew, if_pos ⟨ej, ew⟩]
          · rw [if_neg ew, if_neg (fun x => ew x.2)]
        · rw [hPV.2.2.2.1 j (by omega) (by omega), ob1_some, isOfWord6 (by omega), if_neg (by decide), if_neg (fun x => ej x.1)]
      have sg' : ∀ {G2 : zH} {w : Nat → Nat}, PV G2 (sz (W s).1) (fun p => St (srcAt (W s).1 p)) w → ∀ j, j ≤ sz (W s).1 → ∃ v, fX3_signAt G2 20 (nn j) = some v ∧ fX6_isOfWord v = some (nn (if j < sz (W s).1 ∧ wc (St (srcAt (W s).1 j)) then 1 else 0)) := by
        intro G2 w hPV j hj
        exact ob1_eq (sg hPV j hj)
      -- inside: none, or a place i with a sign of a word
      have cls : ∀ i, i < sz (W s).1 → wc (St (srcAt (W s).1 i)) → (i = p ∨ (i + 1 = p ∧ ¬ (p < sz (W s).1 ∧ wc (St (srcAt (W s).1 p))))) → ok (fX6_word G 0 (nn p)) (CQ G c (3016 * (4 * (k + 1) + a.2.1)) a a.2.1 (1, vp_updL ro.2 0 (nn (fstF (nw (fun p => St (srcAt (W s).1 p))) i (sz (W s).1 - i))).toInt64) st s u f ke W St (nn (lstF (nw (fun p => St (srcAt (W s).1 p))) i))) := by
        intro i hi hwi hip
        unfold fX6_word
        refine sa1 h1.1.io0 ?_
        refine ca2 (isPlace6_sp h1 hs hz hp) ?_
        rintro v G1 ⟨y1, c1, b1, lv1, y2, y3, -⟩
        change v = _ at y1
        subst y1
        refine ifn (by rw [if_pos e]; decide) ?_
        refine sa1 y2.1.io0 ?_
        refine page_open y2 h5.lv' y3 ?_
        intro G2 c2 b2 lv2 pg2 z1 z2 z3 hPV
        refine sa1 hPV.1 ?_
        obtain ⟨v1, e1, e2⟩ := sg' hPV p e
        refine sa1 e1 ?_
        refine sa1 e2 ?_
        have b33 : ok (fX6_word_b33 G2 0 20 (nn i)) (CQ G c (3016 * (4 * (k + 1) + a.2.1)) a a.2.1 (1, vp_updL ro.2 0 (nn (fstF (nw (fun p => St (srcAt (W s).1 p))) i (sz (W s).1 - i))).toInt64) st s u f ke W St (nn (lstF (nw (fun p => St (srcAt (W s).1 p))) i))) := by
          unfold fX6_word_b33
          refine sa1 hPV.1 ?_
          refine sa1 (hPV.2.2.1 i hi) ?_
          refine sa1 (isOfWord6 (by have := ht i hi; show St (srcAt (W s).1 i) ≤ 255; omega)) ?_
          refine ifn (by rw [if_pos hwi]; decide) ?_
          refine ok_of (word_b51 hPV FU i (by omega) (by rw [FU_eq]; omega)) ?_
          unfold fX6_word_b76
          refine sa1 z1.1.r0_2 ?_
          refine sa1 hPV.1 ?_
          refine sa1 (wordEnd6 hPV (by omega)) ?_
          refine sa1 z1.1.io2 ?_
          exact CQ_t1 z1 z3 (by omega) (fun _ => z2) _
        rcases hip with rfl | ⟨rfl, hnp⟩
        · refine ifn (by rw [if_pos ⟨hi, hwi⟩]; decide) ?_
          exact b33
        · refine ift (by rw [if_neg hnp]; rfl) ?_
          rw [q1, nn_sub (by omega), Nat.add_sub_cancel]
          exact b33
      have ref : ∀ i, i < sz (W s).1 → wc (St (srcAt (W s).1 i)) → (i = p ∨ (i + 1 = p ∧ ¬ (p < sz (W s).1 ∧ wc (St (srcAt (W s).1 p))))) → fX7_word M (nn p) = some (nn (lstF (nw (fun p => St (srcAt (W s).1 p))) i), tl1 (mI M 0 0) (nn (fstF (nw (fun p => St (srcAt (W s).1 p))) i (sz (W s).1 - i))).toInt64) := by
        intro i hi hwi hip
        have b30 : fX7_word_b30 (mI M 0 0) (nn i) = some (nn (lstF (nw (fun p => St (srcAt (W s).1 p))) i), tl1 (mI M 0 0) (nn (fstF (nw (fun p => St (srcAt (W s).1 p))) i (sz (W s).1 - i))).toInt64) := by
          have hll := lstF_le (nw (fun p => St (srcAt (W s).1 p))) i
          unfold fX7_word_b30
          rw [isOfWord7 hRV hRB rfl (by omega), ob1_some, if_neg (by rw [if_pos ⟨hi, hwi⟩]; decide)]
          refine (word_b42 hRV hRB rfl FU i hi (by rw [FU_eq]; omega)).trans ?_
          unfold fX7_word_b58
          rw [zlt, endOfWord7 hRV2 hRB2 rfl (by omega), ob1_some, word_same (by omega), tl1_sp, ob1_some]
        unfold fX7_word
        rw [zlt, isPlace7_sp hRB hp, ob1_some, if_neg (by rw [if_pos e]; decide), isOfWord7 hRV hRB rfl hp, ob1_some]
        rcases hip with rfl | ⟨rfl, hnp⟩
        · rw [if_neg (by rw [if_pos ⟨hi, hwi⟩]; decide), b30]
        · rw [if_pos (by rw [if_neg hnp]; rfl), q1, nn_sub (by omega), Nat.add_sub_cancel, b30]
      by_cases e1 : p < sz (W s).1 ∧ wc (St (srcAt (W s).1 p))
      · exact fin1 _ _ h6 (cls p e1.1 e1.2 (Or.inl rfl)) (ref p e1.1 e1.2 (Or.inl rfl))
      · by_cases e2 : 1 ≤ p ∧ wc (St (srcAt (W s).1 (p - 1)))
        · exact fin1 _ _ h6 (cls (p - 1) (by omega) e2.2 (Or.inr ⟨by omega, e1⟩)) (ref (p - 1) (by omega) e2.2 (Or.inr ⟨by omega, e1⟩))
        · refine fin0 (-2) h5 h6 ?_ ?_
          · unfold fX6_word
            refine sa1 h1.1.io0 ?_
            refine ca2 (isPlace6_sp h1 hs hz hp) ?_
            rintro v G1 ⟨y1, c1, b1, lv1, y2, y3, -⟩
            change v = _ at y1
            subst y1
            refine ifn (by rw [if_pos e]; decide) ?_
            refine sa1 y2.1.io0 ?_
            refine page_open y2 h5.lv' y3 ?_
            intro G2 c2 b2 lv2 pg2 z1 z2 z3 hPV
            refine sa1 hPV.1 ?_
            obtain ⟨v1, g1, g2⟩ := sg' hPV p e
            refine sa1 g1 ?_
            refine sa1 g2 ?_
            refine ift (by rw [if_neg e1]; rfl) ?_
            unfold fX6_word_b33
            refine sa1 hPV.1 ?_
            by_cases e3 : p = 0
            · subst e3
              refine sa1 (PV.neg (by decide)) ?_
              refine sa1 (isOfWord6 (by omega)) ?_
              refine ift (by decide) ?_
              exact CQ_ret z1 z3 (by omega) (fun _ => z2)
            · rw [q1, nn_sub (by omega)]
              refine sa1 (hPV.2.2.1 (p - 1) (by omega)) ?_
              refine sa1 (isOfWord6 (by have := ht (p - 1) (by omega); show St (srcAt (W s).1 (p - 1)) ≤ 255; omega)) ?_
              refine ift (by rw [if_neg (fun x => e2 ⟨by omega, x⟩)]; rfl) ?_
              exact CQ_ret z1 z3 (by omega) (fun _ => z2)
          · unfold fX7_word
            rw [zlt, isPlace7_sp hRB hp, ob1_some, if_neg (by rw [if_pos e]; decide), isOfWord7 hRV hRB rfl hp, ob1_some, if_pos (by rw [if_neg e1]; rfl)]
            unfold fX7_word_b30
            by_cases e3 : p = 0
            · subst e3
              rw [isOfWord7_neg (by decide)]
              rfl
            · rw [q1, nn_sub (by omega), isOfWord7 hRV hRB rfl (by omega), ob1_some, if_pos (by rw [if_neg (fun x => e2 ⟨by omega, x.2⟩)]; rfl)]
    · refine fin0 (-1) h5 h6 ?_ ?_
      · unfold fX6_word
        refine sa1 h1.1.io0 ?_
        refine ca2 (isPlace6_sp h1 hs hz hp) ?_
        rintro v G1 ⟨y1, c1, b1, lv1, y2, y3, -⟩
        change v = _ at y1
        subst y1
        refine ift (by rw [if_neg e]; rfl) ?_
        exact refuse6 y2 y3
      · unfold fX7_word
        rw [zlt, isPlace7_sp hRB hp, ob1_some, if_pos (by rw [if_neg e]; rfl)]
