/-! questions: between, tally, sum, alike, reads -/
def bcv (x : Int32) : Int32 := (fJ6_bitCount_0f7a4 x).getD 0
theorem bcv_sp (x : Int32) : fJ6_bitCount_0f7a4 x = some (bcv x) := rfl
theorem mbits_lo (mk : Nat → Int) (lo hi : Int) (h : ∀ k, k < 8 → -1 ≤ mk k) : ∀ j, j ≤ 8 → mbits mk (if lo < 0 then 0 else lo) hi j = mbits mk lo hi j := by
  intro j
  induction j with
  | zero => intro _; rfl
  | succ j ih =>
    intro hj
    have := h j (by omega)
    simp only [mbits]
    rw [ih (by omega)]
    by_cases e : mk j ≠ -1 ∧ lo ≤ mk j ∧ mk j ≤ hi
    · rw [if_pos e, if_pos (by split <;> omega)]
    · rw [if_neg e, if_neg (by split <;> omega)]
theorem between_b17 {M : MS} {mk : Nat → Int} {lo hi : Int} (hm : ∀ k, k < 8 → M.2.1 12 k = ii (mk k)) (hb : ∀ k, k < 8 → -1 ≤ mk k ∧ mk k ≤ 3000) (hlo : -2147483648 ≤ lo ∧ lo < 2147483648) (hhi : -2147483648 ≤ hi ∧ hi < 2147483648) : ∀ fu k, k ≤ 8 → 8 - k < fu → fX7_between_b17 fu M (ii lo) (ii hi) (mbits mk lo hi k) (nn k) = fX7_between_b70 M (mbits mk lo hi 8) := by
  intro fu
  induction fu with
  | zero => intro k _ h; omega
  | succ fu ih =>
    intro k hk hfu
    unfold fX7_between_b17
    rw [q8, if_le (by omega) (by omega)]
    by_cases e : 8 ≤ k
    · rw [if_pos e, show k = 8 by omega]
    · have hbk := hb k (by omega)
      have skip : ¬ (mk k ≠ -1 ∧ lo ≤ mk k ∧ mk k ≤ hi) → fX7_between_b61 (fX7_between_b17 fu) M (ii lo) (ii hi) (nn k) (mbits mk lo hi k) = fX7_between_b70 M (mbits mk lo hi 8) := by
        intro hc
        unfold fX7_between_b61 fX7_between_b62
        rw [zlt, zlt, q1, nn_add, Int32.or_zero]
        have : mbits mk lo hi k = mbits mk lo hi (k + 1) := by
          rw [mbits, if_neg hc]
        rw [this]
        exact ih (k + 1) (by omega) (by omega)
      rw [if_neg e, rd_nn (by omega) (by omega), ob1_some, hm k (by omega)]
      by_cases e2 : mk k = -1
      · rw [if_pos (by rw [e2]; rfl)]
        exact skip (fun x => x.1 e2)
      · rw [if_neg (by rw [im1, ii_eq (by omega) (by omega)]; exact e2), ob1_some, in_sp, ii64 (m := mk k) (by omega) (by omega), ii64 hlo.1 hlo.2, ii64 hhi.1 hhi.2, ob1_some]
        by_cases e3 : lo ≤ mk k ∧ mk k ≤ hi
        · rw [if_neg (by rw [if_pos e3]; decide)]
          unfold fX7_between_b62
          rw [zlt, zlt, q1, nn_add]
          have : mbits mk lo hi (k + 1) = mbits mk lo hi k ||| ((1 : Int32) <<< (nn k &&& 31)) := by
            rw [mbits, if_pos ⟨e2, e3⟩]
          rw [← q1, ← this]
          exact ih (k + 1) (by omega) (by omega)
        · rw [if_pos (by rw [if_neg e3]; rfl)]
          exact skip (fun x => e3 x.2)
theorem op_between : Op_between Inv := by
  intro k G x y hI
  refine op_fin (f6 := fX6_between G 0 x y) (f7 := fun M => fX7_between M x y) hI ?_
  intro c bu a ro st s u f lv ke pg qg sc W M T St kd h1 h5 h6
  obtain ⟨hv, ht⟩ := h5.cur
  have hRB : RBk (mI M 0 0) (W s).1 := h6.2.2.2.1.cg rfl rfl
  have hRV := RV_of hRB (h6.2.2.1.cg rfl rfl rfl rfl : RSt (mI M 0 0) St st.1 st.2.1) hv.1 ht
  have hRV2 : RV (mI (mI M 0 0) 1 0) (sz (W s).1) (fun p => St (srcAt (W s).1 p)) := hRV
  have hs : s < 31 := h5.2.2.2.1.1
  have hz := hv.2.1
  have hmk : RMk M (W s) := h6.2.2.2.2.1
  obtain ⟨lo, l1, l2, rfl⟩ := ii_of x
  obtain ⟨hi, g1, g2, rfl⟩ := ii_of y
  have hb8 : ∀ k, k < 8 → -1 ≤ (W s).2.1 k ∧ (W s).2.1 k ≤ 3000 := fun k hk => by have := hv.2.2 k hk; omega
  by_cases e : lo ≤ hi
  · refine fin1 (mbits (W s).2.1 lo hi 8) (bcv (mbits (W s).2.1 lo hi 8)).toInt64 h6 ?_ ?_
    · unfold fX6_between
      refine ift (by rw [ii_le ⟨l1, l2⟩ ⟨g1, g2⟩]; exact e) ?_
      refine sa1 h1.1.r0_4 ?_
      refine sa1 h1.1.io6 ?_
      refine ca2 (current_sp h1 hs) ?_
      rintro r' G1 ⟨c1, b1, lv1, x1, x2, x3, x4⟩
      change Cl G1 c1 b1 _ a ro st (s, u, f, lv1) ke pg qg sc W at x2
      have hL := x2.lf hs x1
      refine sa1 hL.io ?_
      have hlo : (if ii lo < (0 : Int32) then (0 : Int32) else ii lo) = ii (if lo < 0 then 0 else lo) := by
        by_cases e2 : lo < 0
        · rw [if_pos e2, if_pos (by rw [q0, ii_lt_nn (by omega) ⟨l1, l2⟩]; exact e2)]
          rfl
        · rw [if_neg e2, if_neg (by rw [q0, ii_lt_nn (by omega) ⟨l1, l2⟩]; exact e2)]
      rw [hlo]
      have := marksFrom_sp (lo := if lo < 0 then 0 else lo) (hi := hi) hv.2.2 hz (by split <;> omega) ⟨g1, g2⟩ hL
      rw [mbits_lo _ _ _ (fun k hk => (hb8 k hk).1) 8 (by omega)] at this
      refine sa1 this ?_
      refine sa1 x2.1.r0_2 ?_
      refine sa1 (bcv_sp _) ?_
      refine sa1 x2.1.io2 ?_
      exact CQ_t1 (old := a.2.2.1) x2 x3 h5.2.1.2.1 h5.2.2.2.2.2.2 _
    · show fX7_between M (ii lo) (ii hi) = _
      unfold fX7_between
      rw [zlt, if_pos (by rw [ii_le ⟨l1, l2⟩ ⟨g1, g2⟩]; exact e)]
      have := between_b17 (M := mI M 0 0) (mk := (W s).2.1) (fun k hk => (hmk k hk).1) hb8 ⟨l1, l2⟩ ⟨g1, g2⟩ FU 0 (by omega) (by rw [FU_eq]; omega)
      refine this.trans ?_
      unfold fX7_between_b70
      rw [zlt, bcv_sp, ob1_some]
      show ob1 (fX7_enters (mI (mI M 0 0) 1 0) _) _ = _
      rw [tl1_sp, ob1_some]
  · refine fin0 (-1) h5 h6 ?_ ?_
    · unfold fX6_between
      refine ifn (by rw [ii_le ⟨l1, l2⟩ ⟨g1, g2⟩]; exact e) ?_
      exact ret0 h1 h5
    · show fX7_between M (ii lo) (ii hi) = _
      unfold fX7_between
      rw [zlt, if_neg (by rw [ii_le ⟨l1, l2⟩ ⟨g1, g2⟩]; exact e)]
/-- tally: how many, the first, the last -/
def tyF (t : Nat → Nat) (v : Nat) : Nat → Nat × Nat × Nat
  | 0 => (0, 0, 0)
  | k + 1 => if t k = v then ((tyF t v k).1 + 1, (if (tyF t v k).1 = 0 then k else (tyF t v k).2.1), k) else tyF t v k
theorem tyF_le (t : Nat → Nat) (v k : Nat) : (tyF t v k).1 ≤ k ∧ (tyF t v k).2.1 ≤ k ∧ (tyF t v k).2.2 ≤ k := by
  induction k with
  | zero => simp [tyF]
  | succ k ih =>
    simp only [tyF]
    split
    · refine ⟨?_, ?_, ?_⟩
      · show (tyF t v k).1 + 1 ≤ k + 1
        omega
      · show (if (tyF t v k).1 = 0 then k else (tyF t v k).2.1) ≤ k + 1
        split <;> omega
      · show k ≤ k + 1
        omega
    · omega
theorem tally_b25 {G : zH} {n v : Nat} {t w : Nat → Nat} (h : PV G n t w) (hv : v ≤ 127) : ∀ fu k, k ≤ n → n - k < fu → fX6_tally_b25 fu G 0 (nn v) 20 (nn (tyF t v k).1) (nn (tyF t v k).2.1) (nn (tyF t v k).2.2) (nn k) = fX6_tally_b70 G 0 (nn (tyF t v n).1) (nn (tyF t v n).2.1) (nn (tyF t v n).2.2) := by
  obtain ⟨v1, v2, v3, v4, v5, v6, v7⟩ := h
  intro fu
  induction fu with
  | zero => intro k _ h; omega
  | succ fu ih =>
    intro k hk hfu
    unfold fX6_tally_b25
    have hl := tyF_le t v k
    rw [v2, ob1_some, if_le (by omega) (by omega)]
    by_cases e : n ≤ k
    · rw [if_pos e, show k = n by omega]
    · have := v7 k (by omega)
      rw [if_neg e, v1, ob1_some, v3 k (by omega), ob1_some, if_eq (by omega) (by omega)]
      have hst : tyF t v (k + 1) = if t k = v then ((tyF t v k).1 + 1, (if (tyF t v k).1 = 0 then k else (tyF t v k).2.1), k) else tyF t v k := rfl
      by_cases e2 : t k = v
      · rw [if_pos e2] at hst ⊢
        have := ih (k + 1) (by omega) (by omega)
        rw [hst] at this
        rw [q0, if_eq (by omega) (by omega)]
        unfold fX6_tally_b55 fX6_tally_b64
        by_cases e3 : (tyF t v k).1 = 0
        · rw [if_pos e3, zlt, zlt, q1, nn_add, nn_add]
          rw [if_pos e3] at this
          exact this
        · rw [if_neg e3, zlt, zlt, q1, nn_add, nn_add]
          rw [if_neg e3] at this
          exact this
      · rw [if_neg e2] at hst ⊢
        have := ih (k + 1) (by omega) (by omega)
        rw [hst] at this
        unfold fX6_tally_b64
        rw [zlt, q1, nn_add]
        exact this
theorem tally_b29 {M : MS} {n v : Nat} {t : Nat → Nat} (h : RV M n t) (hv : v ≤ 127) : ∀ fu k, k ≤ n → n - k < fu → fX7_tally_b29 fu M (nn v) (nn (tyF t v k).1) (nn (tyF t v k).2.1) (nn (tyF t v k).2.2) (nn k) = fX7_tally_b99 M (nn (tyF t v n).1) (nn (tyF t v n).2.1) (nn (tyF t v n).2.2) := by
  obtain ⟨v1, v3, v6, v7⟩ := h
  intro fu
  induction fu with
  | zero => intro k _ h; omega
  | succ fu ih =>
    intro k hk hfu
    unfold fX7_tally_b29
    have hl := tyF_le t v k
    rw [v1, if_le (by omega) (by omega)]
    by_cases e : n ≤ k
    · rw [if_pos e, show k = n by omega]
    · have := v7 k (by omega)
      rw [if_neg e, v3 k (by omega), ob1_some, if_eq (by omega) (by omega)]
      have hst : tyF t v (k + 1) = if t k = v then ((tyF t v k).1 + 1, (if (tyF t v k).1 = 0 then k else (tyF t v k).2.1), k) else tyF t v k := rfl
      have := ih (k + 1) (by omega) (by omega)
      by_cases e2 : t k = v
      · rw [if_pos e2] at hst ⊢
        rw [hst] at this
        unfold fX7_tally_b53
        rw [if_neg (by decide), q0, if_eq (by omega) (by omega)]
        by_cases e3 : (tyF t v k).1 = 0
        · rw [if_pos e3]
          rw [if_pos e3] at this
          unfold fX7_tally_b70
          rw [if_neg (by decide)]
          unfold fX7_tally_b83
          rw [q1, flag_nn (by omega), ob1_some, zlt, zlt, nn_add, nn_add]
          exact this
        · rw [if_neg e3]
          rw [if_neg e3] at this
          unfold fX7_tally_b69 fX7_tally_b70
          rw [if_neg (by decide)]
          unfold fX7_tally_b83
          rw [q1, flag_nn (by omega), ob1_some, zlt, zlt, nn_add, nn_add]
          exact this
      · rw [if_neg e2] at hst ⊢
        rw [hst] at this
        unfold fX7_tally_b53
        rw [if_pos rfl]
        unfold fX7_tally_b69 fX7_tally_b70
        rw [if_pos rfl]
        unfold fX7_tally_b83
        rw [q0, flag_nn (by omega), ob1_some, zlt, zlt, nn_add, q1, nn_add, Nat.add_zero]
        exact this
theorem op_tally : Op_tally Inv := by
  intro k G x hI
  refine op_fin (f6 := fX6_tally G 0 x) (f7 := fun M => fX7_tally M x) hI ?_
  intro c bu a ro st s u f lv ke pg qg sc W M T St kd h1 h5 h6
  obtain ⟨hv, ht⟩ := h5.cur
  have hRB : RBk (mI M 0 0) (W s).1 := h6.2.2.2.1.cg rfl rfl
  have hRV := RV_of hRB (h6.2.2.1.cg rfl rfl rfl rfl : RSt (mI M 0 0) St st.1 st.2.1) hv.1 ht
  have hRV2 : RV (mI (mI M 0 0) 1 0) (sz (W s).1) (fun p => St (srcAt (W s).1 p)) := hRV
  have hs : s < 31 := h5.2.2.2.1.1
  have hz := hv.2.1
  have hmk : RMk M (W s) := h6.2.2.2.2.1
  have m1 : (1 : Int64).toInt = (1 : Nat) := rfl
  have m127 : (127 : Int64).toInt = (127 : Nat) := rfl
  rcases nn_or x with hx | ⟨p, hp, rfl⟩
  · refine fin0 (-1) h5 h6 ?_ ?_
    · unfold fX6_tally
      refine sa1 (isSign6_neg hx) ?_
      refine ift rfl ?_
      exact ret0 h1 h5
    · unfold fX7_tally
      rw [zlt, in_cn hx m1]
      rfl
  · by_cases e : 1 ≤ p ∧ p ≤ 127
    · have hl := tyF_le (fun p => St (srcAt (W s).1 p)) p (sz (W s).1)
      have hc6 := fun {G : zH} {w : Nat → Nat} (hP : PV G (sz (W s).1) (fun p => St (srcAt (W s).1 p)) w) => tally_b25 hP e.2 FU 0 (by omega) (by rw [FU_eq]; omega)
      have hc7 := tally_b29 hRV e.2 FU 0 (by omega) (by rw [FU_eq]; omega)
      by_cases e0 : (tyF (fun p => St (srcAt (W s).1 p)) p (sz (W s).1)).1 = 0
      · refine finE (nn (tyF (fun p => St (srcAt (W s).1 p)) p (sz (W s).1)).1) h6 ?_ ?_
        · unfold fX6_tally
          refine sa1 (isSign6_sp hp) ?_
          refine ifn (by rw [if_pos e]; decide) ?_
          refine sa1 h1.1.io0 ?_
          refine page_open h1 h5 (Fo.refl _ _) ?_
          intro G2 c2 b2 lv2 pg2 z1 z2 z3 hPV
          rw [q0]
          refine ok_of (hc6 hPV) ?_
          unfold fX6_tally_b70
          refine sa1 z1.1.r0_2 ?_
          refine sa1 z1.1.io2 ?_
          refine ca1 (clear5_sp z1.1 z1.2.2.1 0) ?_
          rintro G3 ⟨g1, g2⟩
          refine ift (by rw [e0]; decide) ?_
          exact CQ_ret (z1.fx g1 g2 rfl rfl) (z3.trans (g2.1.fo (by omega))) (by omega) (fun _ => z2)
        · show fX7_tally M (nn p) = _
          unfold fX7_tally
          rw [zlt, in_c hp m1 m127, ob1_some, if_neg (by rw [if_pos e]; decide)]
          refine hc7.trans ?_
          unfold fX7_tally_b99
          rw [zlt, if_pos (by rw [e0]; decide)]
      · refine fin2 (nn (tyF (fun p => St (srcAt (W s).1 p)) p (sz (W s).1)).1) (nn (tyF (fun p => St (srcAt (W s).1 p)) p (sz (W s).1)).2.1).toInt64 (nn (tyF (fun p => St (srcAt (W s).1 p)) p (sz (W s).1)).2.2).toInt64 h6 ?_ ?_
        · unfold fX6_tally
          refine sa1 (isSign6_sp hp) ?_
          refine ifn (by rw [if_pos e]; decide) ?_
          refine sa1 h1.1.io0 ?_
          refine page_open h1 h5 (Fo.refl _ _) ?_
          intro G2 c2 b2 lv2 pg2 z1 z2 z3 hPV
          rw [q0]
          refine ok_of (hc6 hPV) ?_
          unfold fX6_tally_b70
          refine sa1 z1.1.r0_2 ?_
          refine sa1 z1.1.io2 ?_
          refine ca1 (clear5_sp z1.1 z1.2.2.1 0) ?_
          rintro G3 ⟨g1, g2⟩
          have z4 := z1.fx g1 g2 rfl rfl
          refine ifn (by rw [q0, nn_le (by omega) (by omega)]; omega) ?_
          refine sa1 z4.1.r0_2 ?_
          refine sa1 z4.1.io2 ?_
          exact CQ_t2 z4 (z3.trans (g2.1.fo (by omega))) (by omega) (fun _ => z2) _ _
        · show fX7_tally M (nn p) = _
          unfold fX7_tally
          rw [zlt, in_c hp m1 m127, ob1_some, if_neg (by rw [if_pos e]; decide)]
          refine hc7.trans ?_
          unfold fX7_tally_b99
          rw [zlt, if_neg (by rw [q0, nn_le (by omega) (by omega)]; omega), tl1_sp, ob1_some, tl2_sp, ob1_some]
    · refine fin0 (-1) h5 h6 ?_ ?_
      · unfold fX6_tally
        refine sa1 (isSign6_sp hp) ?_
        refine ift (by rw [if_neg e]; rfl) ?_
        exact ret0 h1 h5
      · show fX7_tally M (nn p) = _
        unfold fX7_tally
        rw [zlt, in_c hp m1 m127, ob1_some, if_pos (by rw [if_neg e]; rfl)]
