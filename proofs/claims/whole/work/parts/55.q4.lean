/-! questions: sum, alike, reads, longest -/
theorem add64 {a b : Nat} (ha : a < 2147483648) (hb : b < 2147483648) : ((nn a).toInt64 + (nn b).toInt64).toInt = (a : Int) + b := by
  rw [Int64.toInt_add, nn64 ha, nn64 hb]
  exact Int.bmod_eq_of_le (by omega) (by omega)
theorem cmp_le {x y : Int64} : (lg_cmp x y ≤ 0) = (x.toInt ≤ y.toInt) := by
  have h := cmp_gt (x := x) (y := y)
  have h2 : (lg_cmp x y ≤ 0) = ¬ (0 < lg_cmp x y) := by
    rw [Int32.le_iff_toInt_le, Int32.lt_iff_toInt_lt]
    exact propext ⟨fun h => by omega, fun h => by omega⟩
  rw [h2, h]
  exact propext ⟨fun h => by omega, fun h => by omega⟩
def smF (t : Nat → Nat) (lo : Nat) : Nat → Int32
  | 0 => 7
  | k + 1 => 31 * smF t lo k + nn (t (lo + k))
theorem sumOf6 {G : zH} {n : Nat} {t w : Nat → Nat} (h : PV G n t w) {lo m : Nat} (hm : lo + m ≤ n) : fX3_sumOf G 20 (nn lo) (nn (lo + m)) = some (smF t lo m) := by
  obtain ⟨v1, v2, v3, v4, v5, v6, v7⟩ := h
  unfold fX3_sumOf
  have key : ∀ fu k, k ≤ m → m - k < fu → fX3_sumOf_b6 G fu 20 (nn (lo + m)) (smF t lo k) (nn (lo + k)) = some (smF t lo m) := by
    intro fu
    induction fu with
    | zero => intro k _ h; omega
    | succ fu ih =>
      intro k hk hfu
      unfold fX3_sumOf_b6
      rw [if_le (by omega) (by omega)]
      by_cases e : lo + m ≤ lo + k
      · rw [if_pos e, show k = m by omega]
      · rw [if_neg e, v1, ob1_some, v3 (lo + k) (by omega), ob1_some, zlt, zlt, q1, nn_add]
        exact ih (k + 1) (by omega) (by omega)
  exact key FU 0 (by omega) (by rw [FU_eq]; omega)
theorem sumOf7 {M : MS} {n : Nat} {t : Nat → Nat} (h : RV M n t) {lo m : Nat} (hm : lo + m ≤ n) : fX7_sumOf M (nn lo) (nn m) = some (smF t lo m) := by
  obtain ⟨v1, v3, v6, v7⟩ := h
  unfold fX7_sumOf
  have key : ∀ fu k, k ≤ m → m - k < fu → fX7_sumOf_b6 M fu (nn lo) (nn m) (smF t lo k) (nn (lo + k)) = some (smF t lo m) := by
    intro fu
    induction fu with
    | zero => intro k _ h; omega
    | succ fu ih =>
      intro k hk hfu
      unfold fX7_sumOf_b6
      rw [nn_add, if_le (by omega) (by omega)]
      by_cases e : lo + m ≤ lo + k
      · rw [if_pos e, show k = m by omega]
      · rw [if_neg e, v3 (lo + k) (by omega), ob1_some, zlt, zlt, q1, nn_add]
        exact ih (k + 1) (by omega) (by omega)
  exact key FU 0 (by omega) (by rw [FU_eq]; omega)
theorem op_sum : Op_sum Inv := by
  intro k G x y hI
  refine op_fin (f6 := fX6_sum G 0 x y) (f7 := fun M => fX7_sum M x y) hI ?_
  intro c bu a ro st s u f lv ke pg qg sc W M T St kd h1 h5 h6
  obtain ⟨hv, ht⟩ := h5.cur
  have hRB : RBk (mI M 0 0) (W s).1 := h6.2.2.2.1.cg rfl rfl
  have hRV := RV_of hRB (h6.2.2.1.cg rfl rfl rfl rfl : RSt (mI M 0 0) St st.1 st.2.1) hv.1 ht
  have hRV2 : RV (mI (mI M 0 0) 1 0) (sz (W s).1) (fun p => St (srcAt (W s).1 p)) := hRV
  have hs : s < 31 := h5.2.2.2.1.1
  have hz := hv.2.1
  have hmk : RMk M (W s) := h6.2.2.2.2.1
  rcases nn_or y with hy | ⟨q, hq, rfl⟩
  · refine fin0 (-1) h5 h6 ?_ ?_
    · unfold fX6_sum
      refine ift hy ?_
      exact ret0 h1 h5
    · unfold fX7_sum
      rw [zlt, if_neg (neg_le hy)]
      by_cases e : x < 0
      · rw [if_pos e]
      · rw [if_neg e]
  · rcases nn_or x with hx | ⟨p, hp, rfl⟩
    · refine fin0 (-1) h5 h6 ?_ ?_
      · unfold fX6_sum
        refine ifn (by rw [nn_neg hq]; exact id) ?_
        refine ifn (neg_le hx) ?_
        exact ret0 h1 h5
      · unfold fX7_sum
        rw [zlt, if_pos hx]
    · have h0p : (0 : Int32) ≤ nn p := by rw [q0, nn_le (by omega) hp]; omega
      have h0q : (0 : Int32) ≤ nn q := by rw [q0, nn_le (by omega) hq]; omega
      have hb : (mI M 0 0).1 11 = nn (sz (W s).1) := hRV.1
      by_cases e : p + q ≤ sz (W s).1
      · refine fin1 0 (smF (fun p => St (srcAt (W s).1 p)) p q).toInt64 h6 ?_ ?_
        · unfold fX6_sum
          refine ifn (by rw [nn_neg hq]; exact id) ?_
          refine ift h0p ?_
          refine sa1 h1.1.io0 ?_
          refine ca2 (hasSigns_sp h1 hs hz hp hq) ?_
          rintro v G1 ⟨y1, c1, b1, lv1, y2, y3, -⟩
          change v = _ at y1
          subst y1
          refine ifn (by rw [if_pos e]; decide) ?_
          refine sa1 y2.1.r0_2 ?_
          refine sa1 y2.1.io0 ?_
          refine page_open y2 h5.lv' y3 ?_
          intro G2 c2 b2 lv2 pg2 z1 z2 z3 hPV
          refine sa1 hPV.1 ?_
          rw [nn_add]
          refine sa1 (sumOf6 hPV e) ?_
          refine sa1 z1.1.io2 ?_
          exact CQ_t1 z1 z3 (by omega) (fun _ => z2) _
        · unfold fX7_sum
          rw [zlt, if_neg (by rw [nn_neg hp]; exact id), if_pos h0q, hb, if_pos (by rw [cmp_le, add64 hp hq, nn64 (by omega)]; omega), zlt, sumOf7 hRV2 e, ob1_some, tl1_sp, ob1_some]
      · refine fin0 (-2) h5 h6 ?_ ?_
        · unfold fX6_sum
          refine ifn (by rw [nn_neg hq]; exact id) ?_
          refine ift h0p ?_
          refine sa1 h1.1.io0 ?_
          refine ca2 (hasSigns_sp h1 hs hz hp hq) ?_
          rintro v G1 ⟨y1, c1, b1, lv1, y2, y3, -⟩
          change v = _ at y1
          subst y1
          refine ift (by rw [if_neg e]; rfl) ?_
          exact CQ_ret (old := a.2.2.1) y2 y3 h5.2.1.2.1 h5.2.2.2.2.2.2
        · unfold fX7_sum
          rw [zlt, if_neg (by rw [nn_neg hp]; exact id), if_pos h0q, hb, if_neg (by rw [cmp_le, add64 hp hq, nn64 (by omega)]; omega)]
/-- how many are alike -/
def alB (t : Nat → Nat) (n p q : Nat) : Nat → Bool := fun k => decide (¬ (p + k < n ∧ q + k < n ∧ t (p + k) = t (q + k)))
def alF (t : Nat → Nat) (n p q : Nat) : Nat := fstF (alB t n p q) 0 (n + 1)
theorem alF_le {t : Nat → Nat} {n p q : Nat} (hp : p ≤ n) (hq : q ≤ n) : p + alF t n p q ≤ n ∧ q + alF t n p q ≤ n := by
  unfold alF
  have hno := fun k => fstF_no (b := alB t n p q) (p := 0) (d := n + 1) (k := k) (Nat.zero_le _)
  generalize fstF (alB t n p q) 0 (n + 1) = m at *
  by_cases e : m = 0
  · omega
  · have := hno (m - 1) (by omega)
    unfold alB at this
    simp at this
    omega
theorem alF_t {t : Nat → Nat} {n p q k : Nat} (h : k < alF t n p q) : p + k < n ∧ q + k < n ∧ t (p + k) = t (q + k) := by
  have := fstF_no (b := alB t n p q) (p := 0) (d := n + 1) (k := k) (Nat.zero_le _) h
  unfold alB at this
  simpa using this
theorem alF_f {t : Nat → Nat} {n p q : Nat} (hp : p ≤ n) (hq : q ≤ n) : ¬ (p + alF t n p q < n ∧ q + alF t n p q < n ∧ t (p + alF t n p q) = t (q + alF t n p q)) := by
  have hl := alF_le (t := t) hp hq
  have := fstF_at (b := alB t n p q) (p := 0) (d := n + 1) (by unfold alF at hl; omega)
  exact of_decide_eq_true this
theorem alike_b26 {G : zH} {n p q : Nat} {t w : Nat → Nat} (h : PV G n t w) (hp : p ≤ n) (hq : q ≤ n) : ∀ fu k, k ≤ alF t n p q → alF t n p q - k < fu → fX6_alike_b26 fu G 0 (nn p) (nn q) 20 (nn k) = fX6_alike_b73 G 0 (nn p) (nn q) 20 (nn (alF t n p q)) := by
  have hl := alF_le (t := t) hp hq
  have hf := alF_f (t := t) hp hq
  have hPV := h
  obtain ⟨v1, v2, v3, v4, v5, v6, v7⟩ := h
  intro fu
  induction fu with
  | zero => intro k _ h; omega
  | succ fu ih =>
    intro k hk hfu
    unfold fX6_alike_b26
    rw [v1, ob1_some, nn_add, hPV.has (by omega), ob1_some]
    by_cases e : k = alF t n p q
    · rw [← e] at hf ⊢
      by_cases e1 : p + k < n
      · rw [if_neg (by rw [if_pos e1]; decide), ob1_some, nn_add, hPV.has (by omega), ob1_some]
        by_cases e2 : q + k < n
        · rw [if_neg (by rw [if_pos e2]; decide), ob1_some, v3 _ e1, ob1_some, ob1_some, v3 _ e2, ob1_some, if_neg (by have := v7 _ e1; have := v7 _ e2; rw [nn_eq (by omega) (by omega)]; exact fun x => hf ⟨e1, e2, x⟩)]
        · rw [if_pos (by rw [if_neg e2]; rfl)]
      · rw [if_pos (by rw [if_neg e1]; rfl)]
    · have ht := alF_t (t := t) (n := n) (p := p) (q := q) (k := k) (by omega)
      rw [if_neg (by rw [if_pos ht.1]; decide), ob1_some, nn_add, hPV.has (by omega), ob1_some, if_neg (by rw [if_pos ht.2.1]; decide), ob1_some, v3 _ ht.1, ob1_some, ob1_some, v3 _ ht.2.1, ob1_some, if_pos (by rw [ht.2.2]), zlt, q1, nn_add]
      exact ih (k + 1) (by omega) (by omega)
theorem alikeFrom7 {M : MS} {P : PC} {n p q : Nat} {t : Nat → Nat} (h : RV M n t) (hB : RBk M P) (hn : n = sz P) (hp : p ≤ n) (hq : q ≤ n) : fX7_alikeFrom M (nn p) (nn q) = some (nn (alF t n p q)) := by
  have hl := alF_le (t := t) hp hq
  have hf := alF_f (t := t) hp hq
  obtain ⟨v1, v3, v6, v7⟩ := h
  have hsg : ∀ j, j < 2147483648 → fX7_isSign M (nn j) = some (nn (if j < n then 1 else 0)) := fun j hj => by rw [hn]; exact isSign7_sp hB hj
  unfold fX7_alikeFrom
  rw [q0]
  have key : ∀ fu k, k ≤ alF t n p q → alF t n p q - k < fu → fX7_alikeFrom_b2 M fu (nn p) (nn q) (nn k) = some (nn (alF t n p q)) := by
    intro fu
    induction fu with
    | zero => intro k _ h; omega
    | succ fu ih =>
      intro k hk hfu
      unfold fX7_alikeFrom_b2
      rw [nn_add, hsg _ (by omega), ob1_some]
      by_cases e : k = alF t n p q
      · rw [← e] at hf ⊢
        by_cases e1 : p + k < n
        · rw [if_neg (by rw [if_pos e1]; decide), nn_add, hsg _ (by omega), ob1_some]
          by_cases e2 : q + k < n
          · rw [if_neg (by rw [if_pos e2]; decide), v3 _ e1, ob1_some, v3 _ e2, ob1_some, if_neg (by have := v7 _ e1; have := v7 _ e2; rw [nn_eq (by omega) (by omega)]; exact fun x => hf ⟨e1, e2, x⟩)]
          · rw [if_pos (by rw [if_neg e2]; rfl)]
        · rw [if_pos (by rw [if_neg e1]; rfl)]
      · have ht := alF_t (t := t) (n := n) (p := p) (q := q) (k := k) (by omega)
        rw [if_neg (by rw [if_pos ht.1]; decide), nn_add, hsg _ (by omega), ob1_some, if_neg (by rw [if_pos ht.2.1]; decide), v3 _ ht.1, ob1_some, v3 _ ht.2.1, ob1_some, if_pos (by rw [ht.2.2]), zlt, q1, nn_add]
        exact ih (k + 1) (by omega) (by omega)
  exact key FU 0 (by omega) (by rw [FU_eq]; omega)
theorem op_alike : Op_alike Inv := by
  intro k G x y hI
  refine op_fin (f6 := fX6_alike G 0 x y) (f7 := fun M => fX7_alike M x y) hI ?_
  intro c bu a ro st s u f lv ke pg qg sc W M T St kd h1 h5 h6
  obtain ⟨hv, ht⟩ := h5.cur
  have hRB : RBk (mI M 0 0) (W s).1 := h6.2.2.2.1.cg rfl rfl
  have hRV := RV_of hRB (h6.2.2.1.cg rfl rfl rfl rfl : RSt (mI M 0 0) St st.1 st.2.1) hv.1 ht
  have hRV2 : RV (mI (mI M 0 0) 1 0) (sz (W s).1) (fun p => St (srcAt (W s).1 p)) := hRV
  have hs : s < 31 := h5.2.2.2.1.1
  have hz := hv.2.1
  have hmk : RMk M (W s) := h6.2.2.2.2.1
  have hRB2 : RBk (mI (mI M 0 0) 1 0) (W s).1 := hRB.cg rfl rfl
  have refuse6 : ∀ {G1 c1 b1 lv1}, Cl G1 c1 b1 (3016 * (4 * (k + 1) + a.2.1)) a ro st (s, u, f, lv1) ke pg qg sc W → Fo G c G1 c1 → ok (some ((-1 : Int32), G1)) (CQ G c (3016 * (4 * (k + 1) + a.2.1)) a a.2.1 ro st s u f ke W St (-1)) := fun y2 y3 => CQ_ret (old := a.2.2.1) y2 y3 h5.2.1.2.1 h5.2.2.2.2.2.2
  rcases nn_or x with hx | ⟨p, hp, rfl⟩
  · refine fin0 (-1) h5 h6 ?_ ?_
    · unfold fX6_alike
      refine sa1 h1.1.io0 ?_
      refine sa2 (isPlace6_neg hx) ?_
      refine ift rfl ?_
      exact ret0 h1 h5
    · unfold fX7_alike
      rw [zlt, isPlace7_neg hx]
      rfl
  · by_cases e : p ≤ sz (W s).1
    · rcases nn_or y with hy | ⟨q, hq, rfl⟩
      · refine fin0 (-1) h5 h6 ?_ ?_
        · unfold fX6_alike
          refine sa1 h1.1.io0 ?_
          refine ca2 (isPlace6_sp h1 hs hz hp) ?_
          rintro v G1 ⟨y1, c1, b1, lv1, y2, y3, -⟩
          change v = _ at y1
          subst y1
          refine ifn (by rw [if_pos e]; decide) ?_
          refine sa1 y2.1.io0 ?_
          refine sa2 (isPlace6_neg hy) ?_
          refine ift rfl ?_
          exact refuse6 y2 y3
        · unfold fX7_alike
          rw [zlt, isPlace7_sp hRB hp, ob1_some, if_neg (by rw [if_pos e]; decide), isPlace7_neg hy]
          rfl
      · by_cases e2 : q ≤ sz (W s).1
        · have hl := alF_le (t := fun p => St (srcAt (W s).1 p)) e e2
          refine fin2 (nn (alF (fun p => St (srcAt (W s).1 p)) (sz (W s).1) p q)) (nn (if p + alF (fun p => St (srcAt (W s).1 p)) (sz (W s).1) p q < sz (W s).1 then St (srcAt (W s).1 (p + alF (fun p => St (srcAt (W s).1 p)) (sz (W s).1) p q)) else 0)).toInt64 (nn (if q + alF (fun p => St (srcAt (W s).1 p)) (sz (W s).1) p q < sz (W s).1 then St (srcAt (W s).1 (q + alF (fun p => St (srcAt (W s).1 p)) (sz (W s).1) p q)) else 0)).toInt64 h6 ?_ ?_
          · unfold fX6_alike
            refine sa1 h1.1.io0 ?_
            refine ca2 (isPlace6_sp h1 hs hz hp) ?_
            rintro v G1 ⟨y1, c1, b1, lv1, y2, y3, -⟩
            change v = _ at y1
            subst y1
            change Cl G1 c1 b1 _ a ro st (s, u, f, lv1) ke pg qg sc W at y2
            refine ifn (by rw [if_pos e]; decide) ?_
            refine sa1 y2.1.io0 ?_
            refine ca2 (isPlace6_sp y2 hs hz hq) ?_
            rintro v G3 ⟨y4, c3, b3, lv3, y5, y6, -⟩
            change v = _ at y4
            subst y4
            refine ifn (by rw [if_pos e2]; decide) ?_
            refine sa1 y5.1.io0 ?_
            refine page_open y5 h5.lv' (y3.trans y6) ?_
            intro G2 c2 b2 lv2 pg2 z1 z2 z3 hPV
            rw [q0]
            refine ok_of (alike_b26 hPV e e2 FU 0 (by omega) (by rw [FU_eq]; omega)) ?_
            have sg : ∀ j, j ≤ sz (W s).1 → fX3_signAt G2 20 (nn j) = some (nn (if j < sz (W s).1 then St (srcAt (W s).1 j) else 0)) := by
              intro j hj
              by_cases ej : j < sz (W s).1
              · rw [if_pos ej]
                exact hPV.2.2.1 j ej
              · rw [if_neg ej]
                exact hPV.2.2.2.1 j (by omega) (by omega)
            unfold fX6_alike_b73
            refine sa1 z1.1.r0_2 ?_
            refine sa1 hPV.1 ?_
            rw [nn_add, nn_add]
            refine sa1 (sg _ hl.1) ?_
            refine sa1 hPV.1 ?_
            refine sa1 (sg _ hl.2) ?_
            refine sa1 z1.1.io2 ?_
            exact CQ_t2 z1 z3 (by omega) (fun _ => z2) _ _
          · unfold fX7_alike
            rw [zlt, isPlace7_sp hRB hp, ob1_some, if_neg (by rw [if_pos e]; decide), isPlace7_sp hRB hq, ob1_some, if_neg (by rw [if_pos e2]; decide), alikeFrom7 hRV hRB rfl e e2, ob1_some, zlt, nn_add, isSign7_sp hRB2 (by omega), ob1_some]
            have b84 : ∀ v, fX7_alike_b58 (mI (mI M 0 0) 1 0) (nn q) (nn (alF (fun p => St (srcAt (W s).1 p)) (sz (W s).1) p q)) v = some (nn (alF (fun p => St (srcAt (W s).1 p)) (sz (W s).1) p q), tl2 (mI M 0 0) v (nn (if q + alF (fun p => St (srcAt (W s).1 p)) (sz (W s).1) p q < sz (W s).1 then St (srcAt (W s).1 (q + alF (fun p => St (srcAt (W s).1 p)) (sz (W s).1) p q)) else 0)).toInt64) := by
              intro v
              have hRB3 : RBk (tl1 (mI M 0 0) v) (W s).1 := hRB.cg rfl rfl
              have hRV3 : RV (tl1 (mI M 0 0) v) (sz (W s).1) (fun p => St (srcAt (W s).1 p)) := hRV
              unfold fX7_alike_b58
              rw [tl1_sp, ob1_some, nn_add, isSign7_sp hRB3 (by omega), ob1_some]
              unfold fX7_alike_b84
              by_cases e3 : q + alF (fun p => St (srcAt (W s).1 p)) (sz (W s).1) p q < sz (W s).1
              · rw [if_neg (by rw [if_pos e3]; decide), hRV3.2.1 _ e3, ob1_some, tl2_sp, ob1_some, if_pos e3]
              · rw [if_pos (by rw [if_neg e3]; rfl), tl2_sp, ob1_some, if_neg e3]
                rfl
            by_cases e3 : p + alF (fun p => St (srcAt (W s).1 p)) (sz (W s).1) p q < sz (W s).1
            · rw [if_neg (by rw [if_pos e3]; decide), hRV2.2.1 _ e3, ob1_some, b84, if_pos e3]
            · rw [if_pos (by rw [if_neg e3]; rfl), b84, if_neg e3]
              rfl
        · refine fin0 (-1) h5 h6 ?_ ?_
          · unfold fX6_alike
            refine sa1 h1.1.io0 ?_
            refine ca2 (isPlace6_sp h1 hs hz hp) ?_
            rintro v G1 ⟨y1, c1, b1, lv1, y2, y3, -⟩
            change v = _ at y1
            subst y1
            change Cl G1 c1 b1 _ a ro st (s, u, f, lv1) ke pg qg sc W at y2
            refine ifn (by rw [if_pos e]; decide) ?_
            refine sa1 y2.1.io0 ?_
            refine ca2 (isPlace6_sp y2 hs hz hq) ?_
            rintro v G3 ⟨y4, c3, b3, lv3, y5, y6, -⟩
            change v = _ at y4
            subst y4
            refine ift (by rw [if_neg e2]; rfl) ?_
            exact refuse6 y5 (y3.trans y6)
          · unfold fX7_alike
            rw [zlt, isPlace7_sp hRB hp, ob1_some, if_neg (by rw [if_pos e]; decide), isPlace7_sp hRB hq, ob1_some, if_pos (by rw [if_neg e2]; rfl)]
    · refine fin0 (-1) h5 h6 ?_ ?_
      · unfold fX6_alike
        refine sa1 h1.1.io0 ?_
        refine ca2 (isPlace6_sp h1 hs hz hp) ?_
        rintro v G1 ⟨y1, c1, b1, lv1, y2, y3, -⟩
        change v = _ at y1
        subst y1
        refine ift (by rw [if_neg e]; rfl) ?_
        exact refuse6 y2 y3
      · unfold fX7_alike
        rw [zlt, isPlace7_sp hRB hp, ob1_some, if_pos (by rw [if_neg e]; rfl)]
