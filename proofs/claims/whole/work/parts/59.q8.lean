/-! questions: rows -/
def reF (t : Nat → Nat) (b w : Nat) : Nat → Nat
  | 0 => b + w
  | j + 1 => if t (b + j) = 32 then b + j + 1 else reF t b w j
theorem reF_le (t : Nat → Nat) {b w j : Nat} (hw : 1 ≤ w) (hj : j ≤ w) : b < reF t b w j ∧ reF t b w j ≤ b + w := by
  induction j with
  | zero => simp only [reF]; omega
  | succ j ih =>
    have := ih (by omega)
    simp only [reF]
    split <;> omega
def reE (t : Nat → Nat) (b w e : Nat) : Nat := if w < e - b then reF t b w w else e
theorem rowEnd6 {G : zH} {n b x : Nat} {t w : Nat → Nat} (h : PV G n t w) (hb : b ≤ n) (hx : 1 ≤ x) (hx2 : x ≤ 80) : fX3_rowEnd G 20 (nn b) (nn x) = some (nn (reE t b x (fstF (isB t) b (n - b)))) := by
  have hPV := h
  obtain ⟨v1, v2, v3, v4, v5, v6, v7⟩ := h
  have hf := fstF_le (isB t) b (n - b)
  unfold fX3_rowEnd reE
  rw [v1, ob1_some, lineEnd6 hPV (by omega), ob1_some, nn_sub hf.1, if_lt (by omega) (by omega)]
  by_cases e : x < fstF (isB t) b (n - b) - b
  · rw [if_pos e, if_pos e, nn_add, zlt]
    have key : ∀ fu j, j ≤ x → j < fu → fX3_rowEnd_b20 G fu 20 (nn b) (nn x) (nn (b + j)) = some (nn (reF t b x j)) := by
      intro fu
      induction fu with
      | zero => intro j _ h; omega
      | succ fu ih =>
        intro j hj hfu
        unfold fX3_rowEnd_b20 fX3_rowEnd_b48
        rw [if_le (by omega) (by omega)]
        cases j with
        | zero => rw [if_pos (by omega), nn_add]; rfl
        | succ j =>
          have := v7 (b + j) (by omega)
          rw [if_neg (by omega), v1, ob1_some, q1, nn_sub (by omega), show b + (j + 1) - 1 = b + j by omega, v3 (b + j) (by omega), ob1_some, q32, if_eq (by omega) (by omega)]
          simp only [reF]
          by_cases e2 : t (b + j) = 32
          · rw [if_pos e2, if_pos e2]
            rfl
          · rw [if_neg e2, if_neg e2, zlt, nn_dec1 (by omega), show b + (j + 1) - 1 = b + j by omega]
            exact ih j (by omega) (by omega)
    exact key FU x (Nat.le_refl _) (by rw [FU_eq]; omega)
  · rw [if_neg e, if_neg e]
theorem rowEnd7 {M : MS} {n b x ee : Nat} {t : Nat → Nat} (h : RV M n t) (hb : b ≤ ee) (he : ee ≤ n) (hx : 1 ≤ x) (hx2 : x ≤ 80) : fX7_rowEnd M (nn b) (nn ee) (nn x) = some (nn (reE t b x ee)) := by
  obtain ⟨v1, v3, v6, v7⟩ := h
  unfold fX7_rowEnd reE
  rw [nn_sub hb, if_lt (by omega) (by omega)]
  by_cases e : x < ee - b
  · rw [if_pos e, if_pos e, nn_add, zlt]
    have key : ∀ fu j, j ≤ x → j < fu → fX7_rowEnd_b14 M fu (nn b) (nn x) (nn (b + j)) = some (nn (reF t b x j)) := by
      intro fu
      induction fu with
      | zero => intro j _ h; omega
      | succ fu ih =>
        intro j hj hfu
        unfold fX7_rowEnd_b14 fX7_rowEnd_b42
        rw [if_le (by omega) (by omega)]
        cases j with
        | zero => rw [if_pos (by omega), nn_add]; rfl
        | succ j =>
          have := v7 (b + j) (by omega)
          rw [if_neg (by omega), q1, nn_sub (by omega), show b + (j + 1) - 1 = b + j by omega, v3 (b + j) (by omega), ob1_some, q32, if_eq (by omega) (by omega)]
          simp only [reF]
          by_cases e2 : t (b + j) = 32
          · rw [if_pos e2, if_pos e2]
            rfl
          · rw [if_neg e2, if_neg e2, zlt, nn_dec1 (by omega), show b + (j + 1) - 1 = b + j by omega]
            exact ih j (by omega) (by omega)
    exact key FU x (Nat.le_refl _) (by rw [FU_eq]; omega)
  · rw [if_neg e, if_neg e]
/-- rows one by one -/
def rwF (t : Nat → Nat) (n x : Nat) : Nat → Nat → Nat → Nat → Nat × Nat
  | 0, made, most, _ => (made, most)
  | d + 1, made, most, b => if n < b then (made, most) else rwF t n x d (made + 1) (max most (reE t b x (fstF (isB t) b (n - b)) - b)) (if reE t b x (fstF (isB t) b (n - b)) < fstF (isB t) b (n - b) then reE t b x (fstF (isB t) b (n - b)) else fstF (isB t) b (n - b) + 1)
theorem reE_le {t : Nat → Nat} {b x e : Nat} (hx : 1 ≤ x) (he : b ≤ e) : b ≤ reE t b x e ∧ reE t b x e ≤ e ∧ (reE t b x e < e → b < reE t b x e) := by
  unfold reE
  by_cases h : x < e - b
  · rw [if_pos h]
    have := reF_le t (b := b) hx (Nat.le_refl x)
    omega
  · rw [if_neg h]
    omega
theorem rows6 {G : zH} {n x : Nat} {t w : Nat → Nat} (h : PV G n t w) (hx : 1 ≤ x) (hx2 : x ≤ 80) : ∀ d b fu made most, n + 1 - b ≤ d → b ≤ n + 1 → n + 2 - b < fu → made ≤ b → most ≤ 3000 → fX6_rows_b26 fu G 0 (nn x) 20 (nn made) (nn most) (nn b) = fX6_rows_b112 G 0 (nn (rwF t n x d made most b).1) (nn (rwF t n x d made most b).2) := by
  have hPV := h
  obtain ⟨v1, v2, v3, v4, v5, v6, v7⟩ := h
  intro d
  induction d with
  | zero =>
    intro b fu made most hd hb hfu _ _
    obtain ⟨fu', rfl⟩ : ∃ f', fu = f' + 1 := ⟨fu - 1, by omega⟩
    unfold fX6_rows_b26
    rw [v2, ob1_some, if_lt (by omega) (by omega), if_pos (by omega)]
    rfl
  | succ d ih =>
    intro b fu made most hd hb hfu hma hmo
    obtain ⟨fu', rfl⟩ : ∃ f', fu = f' + 1 := ⟨fu - 1, by omega⟩
    simp only [rwF]
    unfold fX6_rows_b26
    rw [v2, ob1_some, if_lt (by omega) (by omega)]
    by_cases e : n < b
    · rw [if_pos e, if_pos e]
    · have hf := fstF_le (isB t) b (n - b)
      have hno := fun k => fstF_no (b := isB t) (p := b) (d := n - b) (k := k)
      have hat := fstF_at (b := isB t) (p := b) (d := n - b)
      rw [if_neg e, if_neg e, v1, ob1_some, rowEnd6 hPV (by omega) hx hx2, ob1_some]
      generalize fstF (isB t) b (n - b) = ee at *
      have hr := reE_le (t := t) hx hf.1
      generalize reE t b x ee = r at *
      rw [q1, nn_add, zlt, nn_sub hr.1, if_lt (by omega) (by omega), nn_if, zlt, show (if most < r - b then r - b else most) = max most (r - b) by split <;> omega, if_eq (by omega) (by omega)]
      have hih := ih (if r < ee then r else ee + 1) fu' (made + 1) (max most (r - b)) (by split <;> omega) (by split <;> omega) (by split <;> omega) (by split <;> omega) (by omega)
      by_cases e1 : r < ee
      · rw [if_pos e1] at hih ⊢
        have hnb := hno r (by omega) e1
        rw [isB_f] at hnb
        have := v7 r (by omega)
        rw [if_neg (by omega), ob1_some, if_eq (by omega) (by omega), if_neg (by omega), ob1_some, v3 r (by omega), ob1_some, q10, if_eq (by omega) (by omega), if_neg hnb]
        unfold fX6_rows_b91 fX6_rows_b107
        rw [if_pos rfl]
        exact hih
      · rw [if_neg e1] at hih ⊢
        have hre : r = ee := by omega
        subst hre
        have b86 : fX6_rows_b86 (fX6_rows_b26 fu') G 0 (nn x) 20 (nn (made + 1)) (nn (max most (r - b))) (nn r) = fX6_rows_b26 fu' G 0 (nn x) 20 (nn (made + 1)) (nn (max most (r - b))) (nn (r + 1)) := by
          unfold fX6_rows_b86 fX6_rows_b91 fX6_rows_b107
          rw [if_neg (by decide), q1, nn_add]
        rw [b86, hih]
        by_cases e2 : r = b
        · rw [if_pos e2]
        · rw [if_neg e2, ob1_some, if_eq (by omega) (by omega)]
          by_cases e3 : r = n
          · rw [if_pos e3]
          · have := hat (by omega)
            rw [isB_t] at this
            rw [if_neg e3, ob1_some, v3 r (by omega), ob1_some, this, q10, if_pos rfl]
theorem rows7 {M : MS} {n x : Nat} {t : Nat → Nat} (h : RV M n t) (hx : 1 ≤ x) (hx2 : x ≤ 80) : ∀ d b f1 f2 made most, n + 1 - b ≤ d → b ≤ n → n + 2 - b < f1 → fstF (isB t) b (n - b) - b + 2 < f2 → made ≤ b → most ≤ 3000 → fX7_rows_b46 (fX7_rows_b26 f1) f2 M (nn x) (nn made) (nn most) (nn b) (nn (fstF (isB t) b (n - b))) (nn 1) = fX7_rows_b102 M (nn (rwF t n x d made most b).1) (nn (rwF t n x d made most b).2) := by
  have hRV := h
  obtain ⟨v1, v3, v6, v7⟩ := h
  intro d
  induction d with
  | zero => intro b f1 f2 made most hd hb; omega
  | succ d ih =>
    intro b f1 f2 made most hd hb hf1 hf2 hma hmo
    have hf := fstF_le (isB t) b (n - b)
    have hno := fun k => fstF_no (b := isB t) (p := b) (d := n - b) (k := k)
    have hat := fstF_at (b := isB t) (p := b) (d := n - b)
    simp only [rwF]
    rw [if_neg (by omega)]
    generalize hE : fstF (isB t) b (n - b) = ee at *
    obtain ⟨f2', rfl⟩ : ∃ f', f2 = f' + 1 := ⟨f2 - 1, by omega⟩
    unfold fX7_rows_b46
    rw [if_neg (by decide), rowEnd7 hRV hf.1 (by omega) hx hx2, ob1_some]
    have hr := reE_le (t := t) hx hf.1
    generalize reE t b x ee = r at *
    rw [q1, nn_add, zlt, nn_sub hr.1, if_lt (by omega) (by omega), nn_if, zlt, show (if most < r - b then r - b else most) = max most (r - b) by split <;> omega, if_le (by omega) (by omega)]
    unfold fX7_rows_b91
    by_cases e1 : r < ee
    · rw [if_neg (by omega), if_pos e1]
      have hE2 : fstF (isB t) r (n - r) = ee := fstF_eq (by omega) (by omega) (fun k k1 k2 => hno k (by omega) k2) (fun hm => hat (by omega))
      have hih := ih r f1 f2' (made + 1) (max most (r - b)) (by omega) (by omega) (by omega) (by omega) (by omega) (by omega)
      rw [hE2] at hih
      exact hih
    · rw [if_pos (by omega), if_neg e1]
      have hre : r = ee := by omega
      subst hre
      obtain ⟨f3, rfl⟩ : ∃ f', f2' = f' + 1 := ⟨f2' - 1, by omega⟩
      rw [show fX7_rows_b46 (fX7_rows_b26 f1) (f3 + 1) M (nn x) (nn (made + 1)) (nn (max most (r - b))) (nn r) (nn r) 0 = fX7_rows_b26 f1 M (nn x) (nn (made + 1)) (nn (max most (r - b))) (nn (r + 1)) from ?_]
      · obtain ⟨f1', rfl⟩ : ∃ f', f1 = f' + 1 := ⟨f1 - 1, by omega⟩
        unfold fX7_rows_b26
        rw [v1, if_lt (by omega) (by omega)]
        by_cases e2 : n < r + 1
        · rw [if_pos e2]
          cases d with
          | zero => rfl
          | succ d =>
            simp only [rwF]
            rw [if_pos e2]
        · rw [if_neg e2, endFrom7 hRV (by omega), ob1_some]
          have hf' := fstF_le (isB t) (r + 1) (n - (r + 1))
          exact ih (r + 1) f1' FU (made + 1) (max most (r - b)) (by omega) (by omega) (by omega) (by rw [FU_eq]; omega) (by omega) (by omega)
      · conv => lhs; unfold fX7_rows_b46
        rw [if_pos rfl]
        unfold fX7_rows_b96
        rw [zlt, q1, nn_add]
theorem op_rows : Op_rows Inv := by
  intro k G x hI
  refine op_fin (f6 := fX6_rows G 0 x) (f7 := fun M => fX7_rows M x) hI ?_
  intro c bu a ro st s u f lv ke pg qg sc W M T St kd h1 h5 h6
  obtain ⟨hv, ht⟩ := h5.cur
  have hRB : RBk (mI M 0 0) (W s).1 := h6.2.2.2.1.cg rfl rfl
  have hRV := RV_of hRB (h6.2.2.1.cg rfl rfl rfl rfl : RSt (mI M 0 0) St st.1 st.2.1) hv.1 ht
  have hRV2 : RV (mI (mI M 0 0) 1 0) (sz (W s).1) (fun p => St (srcAt (W s).1 p)) := hRV
  have hs : s < 31 := h5.2.2.2.1.1
  have hz := hv.2.1
  have hmk : RMk M (W s) := h6.2.2.2.2.1
  have m1 : (1 : Int64).toInt = (1 : Nat) := rfl
  have m80 : (80 : Int64).toInt = (80 : Nat) := rfl
  rcases nn_or x with hx | ⟨p, hp, rfl⟩
  · refine fin0 (-1) h5 h6 ?_ ?_
    · unfold fX6_rows
      refine ift (by rw [q1]; exact ng_lt hx (by omega)) ?_
      exact ret0 h1 h5
    · unfold fX7_rows
      rw [zlt, in_cn hx m1]
      rfl
  · by_cases e : 1 ≤ p ∧ p ≤ 80
    · have hf' := fstF_le (isB (fun p => St (srcAt (W s).1 p))) 0 (sz (W s).1 - 0)
      refine fin1 (nn (rwF (fun p => St (srcAt (W s).1 p)) (sz (W s).1) p (sz (W s).1 + 1) 0 0 0).1) (nn (rwF (fun p => St (srcAt (W s).1 p)) (sz (W s).1) p (sz (W s).1 + 1) 0 0 0).2).toInt64 h6 ?_ ?_
      · unfold fX6_rows
        refine ifn (by rw [q1, nn_lt hp (by omega)]; omega) ?_
        refine ift (by rw [q80, nn_le hp (by omega)]; omega) ?_
        refine sa1 h1.1.io0 ?_
        refine page_open h1 h5 (Fo.refl _ _) ?_
        intro G2 c2 b2 lv2 pg2 z1 z2 z3 hPV
        rw [q0]
        refine ok_of (rows6 hPV e.1 e.2 (sz (W s).1 + 1) 0 FU 0 0 (by omega) (by omega) (by rw [FU_eq]; omega) (by omega) (by omega)) ?_
        unfold fX6_rows_b112
        refine sa1 z1.1.r0_2 ?_
        refine sa1 z1.1.io2 ?_
        exact CQ_t1 z1 z3 (by omega) (fun _ => z2) _
      · show fX7_rows M (nn p) = _
        unfold fX7_rows
        rw [zlt, in_c hp m1 m80, ob1_some, if_neg (by rw [if_pos e]; decide)]
        have main : fX7_rows_b26 FU (mI M 0 0) (nn p) (nn 0) (nn 0) (nn 0) = fX7_rows_b102 (mI M 0 0) (nn (rwF (fun p => St (srcAt (W s).1 p)) (sz (W s).1) p (sz (W s).1 + 1) 0 0 0).1) (nn (rwF (fun p => St (srcAt (W s).1 p)) (sz (W s).1) p (sz (W s).1 + 1) 0 0 0).2) := by
          rw [show FU = 19999 + 1 from rfl]
          unfold fX7_rows_b26
          rw [hRV.1, if_lt (by omega) (by omega), if_neg (by omega), endFrom7 hRV (by omega), ob1_some]
          exact rows7 hRV e.1 e.2 (sz (W s).1 + 1) 0 19999 FU 0 0 (by omega) (by omega) (by omega) (by rw [FU_eq]; omega) (by omega) (by omega)
        refine main.trans ?_
        unfold fX7_rows_b102
        rw [zlt, tl1_sp, ob1_some]
    · refine fin0 (-1) h5 h6 ?_ ?_
      · unfold fX6_rows
        by_cases e1 : p < 1
        · refine ift (by rw [q1, nn_lt hp (by omega)]; exact e1) ?_
          exact ret0 h1 h5
        · refine ifn (by rw [q1, nn_lt hp (by omega)]; exact e1) ?_
          refine ifn (by rw [q80, nn_le hp (by omega)]; omega) ?_
          exact ret0 h1 h5
      · show fX7_rows M (nn p) = _
        unfold fX7_rows
        rw [zlt, in_c hp m1 m80, ob1_some, if_pos (by rw [if_neg e]; rfl)]
