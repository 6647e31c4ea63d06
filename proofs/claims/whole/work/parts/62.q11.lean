/-! pieces: the reference's beginnings -/
def bgC (P : PC) : Nat → Nat
  | 0 => 0
  | k + 1 => bgC P k + bgAt P k
theorem bgC_le (P : PC) (k : Nat) : bgC P k ≤ k := by
  induction k with
  | zero => simp [bgC]
  | succ k ih =>
    have := bgAt_le P k
    simp only [bgC]
    omega
theorem bgC_mono (P : PC) {j k : Nat} (h : j ≤ k) : bgC P j ≤ bgC P k := by
  induction k with
  | zero => have : j = 0 := by omega
            subst this; exact Nat.le_refl _
  | succ k ih =>
    by_cases e : j = k + 1
    · subst e; exact Nat.le_refl _
    · have := ih (by omega)
      simp only [bgC]
      omega
theorem sz_take_in {P : PC} {i : Nat} {q : Nat × Nat} (hq : P[i]? = some q) : sz (P.take (i + 1)) = sz (P.take i) + q.2 := by
  rw [List.take_succ, hq]
  show sz (P.take i ++ [q]) = _
  rw [sz_app, sz_cons, sz_nil]
  omega
theorem bgC_take {P : PC} (hw : wfP P) : ∀ i, i ≤ P.length → bgC P (sz (P.take i)) = i := by
  intro i
  induction i with
  | zero => intro _; simp [sz, bgC]
  | succ i ih =>
    intro hi
    obtain ⟨q, hq⟩ : ∃ q, P[i]? = some q := ⟨P[i], List.getElem?_eq_getElem (by omega)⟩
    have hq2 : 1 ≤ q.2 := hw q (List.mem_of_getElem? hq)
    have h0 := ih (by omega)
    have key : ∀ j, 1 ≤ j → j ≤ q.2 → bgC P (sz (P.take i) + j) = i + 1 := by
      intro j
      induction j with
      | zero => omega
      | succ j ihj =>
        intro _ hj
        show bgC P (sz (P.take i) + j) + bgAt P (sz (P.take i) + j) = _
        rw [bgAt_in hq (by omega)]
        by_cases e : j = 0
        · subst e
          rw [if_pos rfl]
          exact congrArg (· + 1) h0
        · rw [if_neg e, ihj (by omega) (by omega)]
    rw [sz_take_in hq]
    exact key q.2 hq2 (Nat.le_refl _)
theorem bgC_at {P : PC} (hw : wfP P) {p : Nat} (hp : p < sz P) : bgC P (p + 1) = pcAt P p + 1 := by
  obtain ⟨i, q, j, h1, h2, h3⟩ := in_piece hp
  have hil := (List.getElem?_eq_some_iff.mp h1).1
  subst h3
  rw [pcAt_in h1 h2]
  have hb := bgC_take hw i (by omega)
  have hb2 := bgC_take hw (i + 1) (by omega)
  rw [sz_take_in h1] at hb2
  have m1 := bgC_mono P (show sz (P.take i) + j + 1 ≤ sz (P.take i) + q.2 by omega)
  have m2 : bgC P (sz (P.take i) + 1) = i + 1 := by
    show bgC P (sz (P.take i)) + bgAt P (sz (P.take i)) = _
    have := bgAt_in h1 (j := 0) (by omega)
    rw [Nat.add_zero] at this
    rw [this, hb, if_pos rfl]
  have m3 := bgC_mono P (show sz (P.take i) + 1 ≤ sz (P.take i) + j + 1 by omega)
  omega
theorem pcAt_le {P : PC} {p q : Nat} (hw : wfP P) (h : p ≤ q) (hq : q < sz P) : pcAt P p ≤ pcAt P q := by
  have h1 := bgC_at hw (p := p) (by omega)
  have h2 := bgC_at hw hq
  have := bgC_mono P (show p + 1 ≤ q + 1 by omega)
  omega
def RG (M : MS) (P : PC) : Prop := M.1 11 = nn (sz P) ∧ sz P ≤ 3000 ∧ ∀ p, p < sz P → fX7_begins M (nn p) = some (nn (bgAt P p))
theorem RG_of {M : MS} {P : PC} {on an : Nat} (h : RBk M P) (hk : okP on an P) (hon : on ≤ 1600) (han : an ≤ 6000) : RG M P := ⟨h.1, h.2.1, fun _ hp => begins_sp h hk hon han hp⟩
section Beg
variable {M : MS} {P : PC}
theorem pieces7 (h : RG M P) (hw : wfP P) : fX7_pieces M = some (nn P.length) := by
  obtain ⟨v1, v2, v3⟩ := h
  have hl := bgC_take hw P.length (Nat.le_refl _)
  rw [List.take_length] at hl
  unfold fX7_pieces
  rw [q0]
  have key : ∀ fu k, k ≤ sz P → sz P - k < fu → fX7_pieces_b4 M fu (nn (bgC P k)) (nn k) = some (nn P.length) := by
    intro fu
    induction fu with
    | zero => intro k _ h; omega
    | succ fu ih =>
      intro k hk hfu
      unfold fX7_pieces_b4
      rw [v1, if_le (by omega) (by omega)]
      by_cases e : sz P ≤ k
      · rw [if_pos e, show k = sz P by omega, hl]
      · rw [if_neg e, v3 k (by omega), ob1_some, flag_nn (bgAt_le _ _), ob1_some, nn_add, zlt, zlt, q1, nn_add]
        exact ih (k + 1) (by omega) (by omega)
  exact key FU 0 (by omega) (by rw [FU_eq]; omega)
theorem beginningsTo7 (h : RG M P) (hw : wfP P) {p : Nat} (hp : p < sz P) : fX7_beginningsTo M (nn p) = some (nn (pcAt P p + 1)) := by
  obtain ⟨v1, v2, v3⟩ := h
  unfold fX7_beginningsTo
  rw [q0]
  have key : ∀ fu k, k ≤ p + 1 → p + 1 - k < fu → fX7_beginningsTo_b4 M fu (nn p) (nn (bgC P k)) (nn k) = some (nn (pcAt P p + 1)) := by
    intro fu
    induction fu with
    | zero => intro k _ h; omega
    | succ fu ih =>
      intro k hk hfu
      unfold fX7_beginningsTo_b4
      rw [if_lt (by omega) (by omega)]
      by_cases e : p < k
      · rw [if_pos e, show k = p + 1 by omega, bgC_at hw hp]
      · rw [if_neg e, v3 k (by omega), ob1_some, flag_nn (bgAt_le _ _), ob1_some, nn_add, zlt, zlt, q1, nn_add]
        exact ih (k + 1) (by omega) (by omega)
  exact key FU 0 (by omega) (by rw [FU_eq]; omega)
theorem beginOf7 (h : RG M P) (hw : wfP P) {i : Nat} (hi : i < P.length) : fX7_beginOf M (nn i) = some (nn (sz (P.take i))) := by
  obtain ⟨v1, v2, v3⟩ := h
  obtain ⟨q, hq⟩ : ∃ q, P[i]? = some q := ⟨P[i], List.getElem?_eq_getElem hi⟩
  have hq2 : 1 ≤ q.2 := hw q (List.mem_of_getElem? hq)
  have hst := sz_take_in hq
  have hsl := sz_take_le P (i + 1)
  have hbt := bgC_take hw i (by omega)
  have hlen := len_le_sz hw
  unfold fX7_beginOf
  rw [q0]
  have key : ∀ fu k, k ≤ sz (P.take i) → sz (P.take i) - k < fu → fX7_beginOf_b4 M fu (nn k) (nn (i - bgC P k)) = some (nn (sz (P.take i))) := by
    intro fu
    induction fu with
    | zero => intro k _ h; omega
    | succ fu ih =>
      intro k hk hfu
      have hm := bgC_mono P hk
      unfold fX7_beginOf_b4
      have hbk := bgAt_le P k
      have b16 : k < sz (P.take i) → fX7_beginOf_b16 M (fX7_beginOf_b4 M fu) (nn k) (nn (i - bgC P k)) = some (nn (sz (P.take i))) := by
        intro hlt
        have hm2 := bgC_mono P (show k + 1 ≤ sz (P.take i) by omega)
        have hb1 : bgC P (k + 1) = bgC P k + bgAt P k := rfl
        unfold fX7_beginOf_b16
        rw [v3 k (by omega), ob1_some, flag_nn hbk, ob1_some, nn_sub (by omega), zlt, zlt, q1, nn_add, show i - bgC P k - bgAt P k = i - bgC P (k + 1) by omega]
        exact ih (k + 1) (by omega) (by omega)
      rw [q0, if_lt (by omega) (by omega)]
      by_cases e : 0 < i - bgC P k
      · rw [if_pos e]
        refine b16 ?_
        by_cases e2 : k = sz (P.take i)
        · rw [e2, hbt] at e
          omega
        · omega
      · rw [if_neg e, v3 k (by omega), ob1_some]
        by_cases e2 : k = sz (P.take i)
        · have := bgAt_in hq (j := 0) (by omega)
          rw [Nat.add_zero, if_pos rfl] at this
          rw [e2, this, if_neg (by decide)]
        · have hm2 := bgC_mono P (show k + 1 ≤ sz (P.take i) by omega)
          have hb1 : bgC P (k + 1) = bgC P k + bgAt P k := rfl
          rw [show bgAt P k = 0 by omega, if_pos rfl]
          exact b16 (by omega)
  have := key FU 0 (by omega) (by rw [FU_eq]; omega)
  exact this
theorem endOf7 (h : RG M P) (hw : wfP P) {i : Nat} {q : Nat × Nat} (hq : P[i]? = some q) : fX7_endOf M (nn (sz (P.take i))) = some (nn (sz (P.take i) + q.2)) := by
  obtain ⟨v1, v2, v3⟩ := h
  have hq2 : 1 ≤ q.2 := hw q (List.mem_of_getElem? hq)
  have hil := (List.getElem?_eq_some_iff.mp hq).1
  have hst := sz_take_in hq
  have hsl := sz_take_le P (i + 1)
  unfold fX7_endOf
  rw [q1, nn_add, zlt]
  have key : ∀ fu j, 1 ≤ j → j ≤ q.2 → q.2 - j < fu → fX7_endOf_b4 M fu (nn (sz (P.take i) + j)) = some (nn (sz (P.take i) + q.2)) := by
    intro fu
    induction fu with
    | zero => intro j _ _ h; omega
    | succ fu ih =>
      intro j h1 h2 hfu
      unfold fX7_endOf_b4
      rw [v1, if_le (by omega) (by omega)]
      by_cases e : sz P ≤ sz (P.take i) + j
      · rw [if_pos e, show j = q.2 by omega]
      · rw [if_neg e]
        by_cases e2 : j = q.2
        · subst e2
          rw [← hst] at e ⊢
          rw [v3 _ (by omega), ob1_some]
          have hl2 : i + 1 < P.length := by
            by_cases el : i + 1 < P.length
            · exact el
            · rw [List.take_of_length_le (by omega)] at e
              omega
          obtain ⟨q', hq'⟩ : ∃ q, P[i + 1]? = some q := ⟨P[i + 1], List.getElem?_eq_getElem hl2⟩
          have hq3 : 1 ≤ q'.2 := hw q' (List.mem_of_getElem? hq')
          have := bgAt_in hq' (j := 0) (by omega)
          rw [Nat.add_zero, if_pos rfl] at this
          rw [this, if_neg (by decide)]
        · rw [v3 _ (by omega), ob1_some, bgAt_in hq (by omega), if_neg (show ¬ j = 0 by omega), if_pos n00, zlt, q1, nn_add]
          exact ih (j + 1) (by omega) (by omega) (by omega)
  exact key FU 1 (by omega) hq2 (by rw [FU_eq]; omega)
end Beg
/-! count -/
theorem count_b9 {M : MS} {mk : Nat → Int} {x : Int32} {z : Nat} (hm : ∀ k, k < 8 → M.2.1 12 k = ii (mk k)) (hb : ∀ k, k < 8 → -1 ≤ mk k ∧ mk k ≤ z) (hz : z ≤ 3000) : ∀ fu k, k ≤ 8 → 8 - k < fu → fX7_count_b9 fu M x (mbits mk 0 z k) (nn k) = fX7_count_b41 M x (mbits mk 0 z 8) := by
  intro fu
  induction fu with
  | zero => intro k _ h; omega
  | succ fu ih =>
    intro k hk hfu
    unfold fX7_count_b9
    rw [q8, if_le (by omega) (by omega)]
    by_cases e : 8 ≤ k
    · rw [if_pos e, show k = 8 by omega]
    · have hbk := hb k (by omega)
      rw [if_neg e, rd_nn (by omega) (by omega), ob1_some, hm k (by omega)]
      unfold fX7_count_b33
      by_cases e2 : mk k = -1
      · rw [if_pos (by rw [e2]; rfl), zlt, zlt, q1, nn_add, Int32.or_zero]
        have : mbits mk 0 z k = mbits mk 0 z (k + 1) := by
          rw [mbits, if_neg (fun x => x.1 e2)]
        rw [this]
        exact ih (k + 1) (by omega) (by omega)
      · rw [if_neg (by rw [im1, ii_eq (by omega) (by omega)]; exact e2), zlt, zlt, q1, nn_add]
        have : mbits mk 0 z (k + 1) = mbits mk 0 z k ||| ((1 : Int32) <<< (nn k &&& 31)) := by
          rw [mbits, if_pos ⟨e2, by omega, by omega⟩]
        rw [← q1, ← this]
        exact ih (k + 1) (by omega) (by omega)
theorem op_count : Op_count Inv := by
  intro k G x hI
  refine op_fin (f6 := fX6_count G 0 x) (f7 := fun M => fX7_count M x) hI ?_
  intro c bu a ro st s u f lv ke pg qg sc W M T St kd h1 h5 h6
  obtain ⟨hv, ht⟩ := h5.cur
  have hRB : RBk (mI M 0 0) (W s).1 := h6.2.2.2.1.cg rfl rfl
  have hRV := RV_of hRB (h6.2.2.1.cg rfl rfl rfl rfl : RSt (mI M 0 0) St st.1 st.2.1) hv.1 ht
  have hRV2 : RV (mI (mI M 0 0) 1 0) (sz (W s).1) (fun p => St (srcAt (W s).1 p)) := hRV
  have hs : s < 31 := h5.2.2.2.1.1
  have hz := hv.2.1
  have hmk : RMk M (W s) := h6.2.2.2.2.1
  have hw := okP_wf hv.1
  have hRG := RG_of hRB hv.1 h5.2.2.1.2.1 h5.2.2.1.2.2
  have cls : ∀ r, (∀ G1 c1 b1 lv1 r', lv1 s = some r' → Cl G1 c1 b1 (3016 * (4 * (k + 1) + a.2.1)) a ro st (s, u, f, lv1) ke pg qg sc W → Fo G c G1 c1 → ok (if x = (0 : Int32) then (ob1 (fi G1 r' 2 3) fun v7 => some (v7, G1)) else if x = (1 : Int32) then (ob1 (isO G1 0 6) fun u9 => ob2 (fX6_shownPage G1 0) fun qv12 G11 => ob1 (fi G11 r' 2 3) fun v13 => ob1 (isO G11 qv12 3) fun u14 => ob1 (fX3_breaksIn G11 qv12 (0 : Int32) v13) fun v16 => some ((v16 + (1 : Int32)), G11)) else if x = (2 : Int32) then (ob1 (fi G1 r' 2 2) fun v18 => some (v18, G1)) else if x = (3 : Int32) then (ob1 (frf G1 0 6 3) fun qv20 => ob1 (fi G1 qv20 4 2) fun v21 => some (v21, G1)) else if x = (4 : Int32) then (ob1 (frf G1 0 6 4) fun qv23 => ob1 (fi G1 qv23 1 2) fun v24 => some (v24, G1)) else if x = (5 : Int32) then (ob1 (frf G1 0 6 4) fun qv26 => ob1 (fi G1 qv26 1 3) fun v27 => some (v27, G1)) else if x = (6 : Int32) then (ob1 (fi G1 r' 2 3) fun v29 => ob1 (isO G1 r' 2) fun u30 => ob1 (fX2_marksFrom G1 r' (0 : Int32) v29) fun v32 => some (v32, G1)) else if x = (7 : Int32) then (ob1 (frf G1 0 6 2) fun qv34 => ob1 (fi G1 qv34 5 1) fun v35 => some (v35, G1)) else if x = (8 : Int32) then (ob1 (fi G1 0 6 1) fun v37 => some (v37, G1)) else if x.toInt < 0 ∨ 8 < x.toInt then (some ((-100 : Int32), G1)) else none) (CQ G c (3016 * (4 * (k + 1) + a.2.1)) a a.2.1 ro st s u f ke W St r)) → ok (fX6_count G 0 x) (CQ G c (3016 * (4 * (k + 1) + a.2.1)) a a.2.1 ro st s u f ke W St r) := by
    intro r H
    unfold fX6_count
    refine sa1 h1.1.r0_4 ?_
    refine sa1 h1.1.io6 ?_
    refine ca2 (current_sp h1 hs) ?_
    rintro r' G1 ⟨c1, b1, lv1, x1, x2, x3, x4⟩
    exact H G1 c1 b1 lv1 r' x1 x2 x3
  have ref : fX7_count M x = fX7_count_b41 (mI M 0 0) x (mbits (W s).2.1 0 (sz (W s).1) 8) := by
    unfold fX7_count
    rw [zlt]
    exact count_b9 (M := mI M 0 0) (mk := (W s).2.1) (fun k hk => (hmk k hk).1) (fun k hk => ⟨(hv.2.2 k hk).1, (hv.2.2 k hk).2.1⟩) hz FU 0 (by omega) (by rw [FU_eq]; omega)
  have other : ∀ y : Int32, y = x → (y.toInt < 0 ∨ 8 < y.toInt) → FinG (fX6_count G 0 x) (fX7_count M x) G c (3016 * (4 * (k + 1) + a.2.1)) a st s u f ke W M St := by
    intro y hy hh
    subst hy
    have hne : ∀ j : Nat, j ≤ 8 → ¬ y = nn j := by
      intro j hj e
      rw [e, nn_toInt (by omega)] at hh
      omega
    refine fin0 (-100) h5 h6 (cls _ ?_) (ref.trans ?_)
    · intro G1 c1 b1 lv1 r' x1 x2 x3
      refine ifn (hne 0 (by omega)) ?_
      refine ifn (hne 1 (by omega)) ?_
      refine ifn (hne 2 (by omega)) ?_
      refine ifn (hne 3 (by omega)) ?_
      refine ifn (hne 4 (by omega)) ?_
      refine ifn (hne 5 (by omega)) ?_
      refine ifn (hne 6 (by omega)) ?_
      refine ifn (hne 7 (by omega)) ?_
      refine ifn (hne 8 (by omega)) ?_
      refine ift hh ?_
      exact CQ_ret (old := a.2.2.1) x2 x3 h5.2.1.2.1 h5.2.2.2.2.2.2
    · unfold fX7_count_b41
      rw [q0, q1, q2, q3, q4, q5, q6, q7, q8, if_neg (hne 0 (by omega)), if_neg (hne 1 (by omega)), if_neg (hne 2 (by omega)), if_neg (hne 3 (by omega)), if_neg (hne 4 (by omega)), if_neg (hne 5 (by omega)), if_neg (hne 6 (by omega)), if_neg (hne 7 (by omega)), if_neg (hne 8 (by omega)), if_pos hh]
  rcases nn_or x with hx | ⟨p, hp, rfl⟩
  · refine other x rfl (Or.inl ?_)
    rw [Int32.lt_iff_toInt_lt] at hx
    exact hx
  · skip
    by_cases e0 : p = 0
    · subst e0
      refine fin0 (nn (sz (W s).1)) h5 h6 (cls _ ?_) (ref.trans ?_)
      · intro G1 c1 b1 lv1 r' x1 x2 x3
        have hL := x2.lf hs x1
        refine ift (by decide) ?_
        refine sa1 hL.n3 ?_
        exact CQ_ret (old := a.2.2.1) x2 x3 h5.2.1.2.1 h5.2.2.2.2.2.2
      · unfold fX7_count_b41
        rw [if_pos (by decide)]
        rw [hRV.1]
    by_cases e1 : p = 1
    · subst e1
      refine fin0 (nn (cntB (fun p => St (srcAt (W s).1 p)) 0 (sz (W s).1) + 1)) h5 h6 (cls _ ?_) (ref.trans ?_)
      · intro G1 c1 b1 lv1 r' x1 x2 x3
        have hL := x2.lf hs x1
        refine ifn (by decide) ?_
        refine ift (by decide) ?_
        refine sa1 x2.1.io0 ?_
        refine ca2 (shownPage_sp x2 h5.lv') ?_
        rintro r2 G2 ⟨hr2, c2, b2, lv2, pg2, z1, z2, z3, z4⟩
        change r2 = 20 at hr2
        subst hr2
        change Cl G2 c2 b2 _ (a.1, a.2.1, 0, a.2.2.2) ro st (s, u, f, lv2) ke pg2 qg sc W at z1
        have hPV := PV_of z1.1 z2 hz ht
        have hL2 := z1.lf hs (z4 s r' x1)
        refine sa1 hL2.n3 ?_
        refine sa1 hPV.1 ?_
        have hbr := breaksIn6 hPV (lo := 0) (m := sz (W s).1) (by omega)
        rw [Nat.zero_add] at hbr
        rw [q0]
        refine sa1 hbr ?_
        rw [q1, nn_add]
        exact CQ_ret z1 (x3.trans z3) (by omega) (fun _ => z2)
      · unfold fX7_count_b41
        rw [if_neg (by decide), if_pos (by decide)]
        rw [lines7 hRV, ob1_some]
    by_cases e2 : p = 2
    · subst e2
      refine fin0 (nn (W s).1.length) h5 h6 (cls _ ?_) (ref.trans ?_)
      · intro G1 c1 b1 lv1 r' x1 x2 x3
        have hL := x2.lf hs x1
        refine ifn (by decide) ?_
        refine ifn (by decide) ?_
        refine ift (by decide) ?_
        refine sa1 hL.n2 ?_
        exact CQ_ret (old := a.2.2.1) x2 x3 h5.2.1.2.1 h5.2.2.2.2.2.2
      · unfold fX7_count_b41
        rw [if_neg (by decide), if_neg (by decide), if_pos (by decide)]
        rw [pieces7 hRG hw, ob1_some]
    by_cases e3 : p = 3
    · subst e3
      refine fin0 (nn st.2.1) h5 h6 (cls _ ?_) (ref.trans ?_)
      · intro G1 c1 b1 lv1 r' x1 x2 x3
        have hL := x2.lf hs x1
        refine ifn (by decide) ?_
        refine ifn (by decide) ?_
        refine ifn (by decide) ?_
        refine ift (by decide) ?_
        refine sa1 x2.1.r0_3 ?_
        refine sa1 (fi_at (v := nn st.2.1) x2.1.g4 rfl) ?_
        exact CQ_ret (old := a.2.2.1) x2 x3 h5.2.1.2.1 h5.2.2.2.2.2.2
      · unfold fX7_count_b41
        rw [if_neg (by decide), if_neg (by decide), if_neg (by decide), if_pos (by decide)]
        have : (mI M 0 0).1 9 = nn st.2.1 := h6.2.2.1.2.1
        rw [this]
    by_cases e4 : p = 4
    · subst e4
      refine fin0 (nn u) h5 h6 (cls _ ?_) (ref.trans ?_)
      · intro G1 c1 b1 lv1 r' x1 x2 x3
        have hL := x2.lf hs x1
        refine ifn (by decide) ?_
        refine ifn (by decide) ?_
        refine ifn (by decide) ?_
        refine ifn (by decide) ?_
        refine ift (by decide) ?_
        refine sa1 x2.1.r0_4 ?_
        refine sa1 (fi_at (v := nn u) x2.1.g6 rfl) ?_
        exact CQ_ret (old := a.2.2.1) x2 x3 h5.2.1.2.1 h5.2.2.2.2.2.2
      · unfold fX7_count_b41
        rw [if_neg (by decide), if_neg (by decide), if_neg (by decide), if_neg (by decide), if_pos (by decide)]
        have : (mI M 0 0).1 17 = nn u := h6.2.2.2.2.2.1.1
        rw [this]
    by_cases e5 : p = 5
    · subst e5
      refine fin0 (nn f) h5 h6 (cls _ ?_) (ref.trans ?_)
      · intro G1 c1 b1 lv1 r' x1 x2 x3
        have hL := x2.lf hs x1
        refine ifn (by decide) ?_
        refine ifn (by decide) ?_
        refine ifn (by decide) ?_
        refine ifn (by decide) ?_
        refine ifn (by decide) ?_
        refine ift (by decide) ?_
        refine sa1 x2.1.r0_4 ?_
        refine sa1 (fi_at (v := nn f) x2.1.g6 rfl) ?_
        exact CQ_ret (old := a.2.2.1) x2 x3 h5.2.1.2.1 h5.2.2.2.2.2.2
      · unfold fX7_count_b41
        rw [if_neg (by decide), if_neg (by decide), if_neg (by decide), if_neg (by decide), if_neg (by decide), if_pos (by decide)]
        have : (mI M 0 0).1 20 = nn f := h6.2.2.2.2.2.1.2.1
        rw [this]
    by_cases e6 : p = 6
    · subst e6
      refine fin0 (mbits (W s).2.1 0 (sz (W s).1) 8) h5 h6 (cls _ ?_) (ref.trans ?_)
      · intro G1 c1 b1 lv1 r' x1 x2 x3
        have hL := x2.lf hs x1
        refine ifn (by decide) ?_
        refine ifn (by decide) ?_
        refine ifn (by decide) ?_
        refine ifn (by decide) ?_
        refine ifn (by decide) ?_
        refine ifn (by decide) ?_
        refine ift (by decide) ?_
        refine sa1 hL.n3 ?_
        refine sa1 hL.io ?_
        have hmf := marksFrom_sp (lo := 0) (hi := (sz (W s).1 : Int)) hv.2.2 hz (by omega) (by omega) hL
        rw [ii_nn] at hmf
        refine sa1 hmf ?_
        exact CQ_ret (old := a.2.2.1) x2 x3 h5.2.1.2.1 h5.2.2.2.2.2.2
      · unfold fX7_count_b41
        rw [if_neg (by decide), if_neg (by decide), if_neg (by decide), if_neg (by decide), if_neg (by decide), if_neg (by decide), if_pos (by decide)]
    by_cases e7 : p = 7
    · subst e7
      refine fin0 (nn ro.1) h5 h6 (cls _ ?_) (ref.trans ?_)
      · intro G1 c1 b1 lv1 r' x1 x2 x3
        have hL := x2.lf hs x1
        refine ifn (by decide) ?_
        refine ifn (by decide) ?_
        refine ifn (by decide) ?_
        refine ifn (by decide) ?_
        refine ifn (by decide) ?_
        refine ifn (by decide) ?_
        refine ifn (by decide) ?_
        refine ift (by decide) ?_
        refine sa1 x2.1.r0_2 ?_
        refine sa1 (fi_at (v := nn ro.1) x2.1.g2 rfl) ?_
        exact CQ_ret (old := a.2.2.1) x2 x3 h5.2.1.2.1 h5.2.2.2.2.2.2
      · unfold fX7_count_b41
        rw [if_neg (by decide), if_neg (by decide), if_neg (by decide), if_neg (by decide), if_neg (by decide), if_neg (by decide), if_neg (by decide), if_pos (by decide)]
        have : (mI M 0 0).1 1 = nn ro.1 := h6.2.1.1
        rw [this]
    by_cases e8 : p = 8
    · subst e8
      refine fin0 (nn a.2.1) h5 h6 (cls _ ?_) (ref.trans ?_)
      · intro G1 c1 b1 lv1 r' x1 x2 x3
        have hL := x2.lf hs x1
        refine ifn (by decide) ?_
        refine ifn (by decide) ?_
        refine ifn (by decide) ?_
        refine ifn (by decide) ?_
        refine ifn (by decide) ?_
        refine ifn (by decide) ?_
        refine ifn (by decide) ?_
        refine ifn (by decide) ?_
        refine ift (by decide) ?_
        refine sa1 x2.1.i0_1 ?_
        exact CQ_ret (old := a.2.2.1) x2 x3 h5.2.1.2.1 h5.2.2.2.2.2.2
      · unfold fX7_count_b41
        rw [if_neg (by decide), if_neg (by decide), if_neg (by decide), if_neg (by decide), if_neg (by decide), if_neg (by decide), if_neg (by decide), if_neg (by decide), if_pos (by decide)]
        have : (mI M 0 0).1 4 = nn a.2.1 := h6.1.2
        rw [this]
    exact other (nn p) rfl (Or.inr (by rw [nn_toInt hp]; omega))
