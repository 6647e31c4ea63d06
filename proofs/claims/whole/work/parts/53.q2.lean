/-! questions: more -/
theorem zlt {α β : Type} (e : α) (f : α → Option β) : zlet e f = f e := rfl
theorem in_c {a lo hi : Nat} {x y : Int64} (ha : a < 2147483648) (hx : x.toInt = lo) (hy : y.toInt = hi) : fX7_in (nn a).toInt64 x y = some (nn (if lo ≤ a ∧ a ≤ hi then 1 else 0)) := by
  rw [in_sp, nn64 ha, hx, hy]
  by_cases e : lo ≤ a ∧ a ≤ hi
  · rw [if_pos e, if_pos (by omega)]
  · rw [if_neg e, if_neg (by omega)]
theorem in_cn {lo : Nat} {v : Int32} {x y : Int64} (hv : v < 0) (hx : x.toInt = lo) : fX7_in v.toInt64 x y = some (nn 0) := by
  rw [Int32.lt_iff_toInt_lt] at hv
  have h' : v.toInt < 0 := hv
  rw [in_sp, Int32.toInt_toInt64, hx, if_neg (by omega)]
theorem isSign6_sp {v : Nat} (hv : v < 2147483648) : fX6_isSign (nn v) = some (nn (if 1 ≤ v ∧ v ≤ 127 then 1 else 0)) := by
  unfold fX6_isSign
  rw [q1, q127, if_lt hv (by omega)]
  by_cases e : v < 1
  · rw [if_pos e, if_neg (by omega)]
    rfl
  · rw [if_neg e, if_lt (by omega) hv]
    by_cases e2 : 127 < v
    · rw [if_pos e2, if_neg (by omega)]
      rfl
    · rw [if_neg e2, if_pos (by omega)]
theorem isSign6_neg {x : Int32} (hx : x < 0) : fX6_isSign x = some (nn 0) := by
  unfold fX6_isSign
  rw [q1, if_pos (ng_lt hx (show 1 < 2147483648 by omega))]
  rfl
theorem op_place : Op_place Inv := by
  intro k G x y hI
  refine op_fin (f6 := fX6_place G 0 x y) (f7 := fun M => fX7_place M x y) hI ?_
  intro c bu a ro st s u f lv ke pg qg sc W M T St kd h1 h5 h6
  obtain ⟨hv, ht⟩ := h5.cur
  have hRB : RBk (mI M 0 0) (W s).1 := h6.2.2.2.1.cg rfl rfl
  have hRV := RV_of hRB (h6.2.2.1.cg rfl rfl rfl rfl : RSt (mI M 0 0) St st.1 st.2.1) hv.1 ht
  have hRV2 : RV (mI (mI M 0 0) 1 0) (sz (W s).1) (fun p => St (srcAt (W s).1 p)) := hRV
  have hs : s < 31 := h5.2.2.2.1.1
  have hz := hv.2.1
  have hcn := cntB_le (fun p => St (srcAt (W s).1 p)) 0 (sz (W s).1)
  have refu : ∀ m, lsF (fun p => St (srcAt (W s).1 p)) m 0 (sz (W s).1) = none → True := fun _ _ => trivial
  rcases nn_or x with hx | ⟨p, hp, rfl⟩
  · refine fin0 (-1) h5 h6 ?_ ?_
    · unfold fX6_place
      refine sa1 h1.1.io0 ?_
      refine page_open h1 h5 (Fo.refl _ _) ?_
      intro G2 c2 b2 lv2 pg2 z1 z2 z3 hPV
      refine sa1 hPV.1 ?_
      refine sa1 (lineStart6_neg hPV hx) ?_
      refine ift rfl ?_
      exact CQ_ret z1 z3 (by omega) (fun _ => z2)
    · unfold fX7_place
      show ob1 (fX7_lines (mI M 0 0)) _ = _
      rw [lines7 hRV, ob1_some, in_neg hx]
      rfl
  · by_cases e : p ≤ cntB (fun p => St (srcAt (W s).1 p)) 0 (sz (W s).1)
    · obtain ⟨m, hm, hmn⟩ := oN_some e
      rcases nn_or y with hy | ⟨q, hq, rfl⟩
      · refine fin0 (-1) h5 h6 ?_ ?_
        · unfold fX6_place
          refine sa1 h1.1.io0 ?_
          refine page_open h1 h5 (Fo.refl _ _) ?_
          intro G2 c2 b2 lv2 pg2 z1 z2 z3 hPV
          refine sa1 hPV.1 ?_
          refine sa1 (lineStart6 hPV hp) ?_
          rw [hm]
          refine ifn (nn_ne_m1 (by omega)) ?_
          refine ifn (neg_le hy) ?_
          exact CQ_ret z1 z3 (by omega) (fun _ => z2)
        · unfold fX7_place
          show ob1 (fX7_lines (mI M 0 0)) _ = _
          rw [lines7 hRV, ob1_some, lines_in hRV hp, ob1_some, if_neg (by rw [if_pos e]; decide), if_neg (neg_le hy)]
      · have hfl := fstF_le (isB (fun p => St (srcAt (W s).1 p))) m (sz (W s).1 - m)
        have hif : (if nn (fstF (isB (fun p => St (srcAt (W s).1 p))) m (sz (W s).1 - m) - m) < nn q then nn (fstF (isB (fun p => St (srcAt (W s).1 p))) m (sz (W s).1 - m) - m) else nn q) = nn (min (fstF (isB (fun p => St (srcAt (W s).1 p))) m (sz (W s).1 - m) - m) q) := by
          rw [if_lt (by omega) hq, nn_if]
          congr 1
          split <;> omega
        refine fin1 (nn (m + min (fstF (isB (fun p => St (srcAt (W s).1 p))) m (sz (W s).1 - m) - m) q)) (nn (min (fstF (isB (fun p => St (srcAt (W s).1 p))) m (sz (W s).1 - m) - m) q)).toInt64 h6 ?_ ?_
        · unfold fX6_place
          refine sa1 h1.1.io0 ?_
          refine page_open h1 h5 (Fo.refl _ _) ?_
          intro G2 c2 b2 lv2 pg2 z1 z2 z3 hPV
          refine sa1 hPV.1 ?_
          refine sa1 (lineStart6 hPV hp) ?_
          rw [hm]
          refine ifn (nn_ne_m1 (by omega)) ?_
          refine ift (by rw [q0, nn_le (by omega) hq]; omega) ?_
          refine sa1 hPV.1 ?_
          refine sa1 (lineEnd6 hPV (by omega)) ?_
          show ok (zlet (if nn _ - nn m < nn q then nn _ - nn m else nn q) _) _
          rw [nn_sub hfl.1, hif]
          refine zl ?_
          refine sa1 z1.1.r0_2 ?_
          refine sa1 z1.1.io2 ?_
          show ok (ob1 _ fun G17 => some (nn m + nn _, G17)) _
          rw [nn_add]
          exact CQ_t1 z1 z3 (by omega) (fun _ => z2) _
        · unfold fX7_place
          show ob1 (fX7_lines (mI M 0 0)) _ = _
          rw [lines7 hRV, ob1_some, lines_in hRV hp, ob1_some, if_neg (by rw [if_pos e]; decide), if_pos (by rw [q0, nn_le (by omega) hq]; omega), startOf7 hRV (by omega) hm, ob1_some, endFrom7 hRV (by omega), ob1_some, nn_sub hfl.1, hif, zlt, zlt, tl1_sp, ob1_some, nn_add]
    · refine fin0 (-1) h5 h6 ?_ ?_
      · unfold fX6_place
        refine sa1 h1.1.io0 ?_
        refine page_open h1 h5 (Fo.refl _ _) ?_
        intro G2 c2 b2 lv2 pg2 z1 z2 z3 hPV
        refine sa1 hPV.1 ?_
        refine sa1 (lineStart6 hPV hp) ?_
        rw [oN_none e]
        refine ift rfl ?_
        exact CQ_ret z1 z3 (by omega) (fun _ => z2)
      · unfold fX7_place
        show ob1 (fX7_lines (mI M 0 0)) _ = _
        rw [lines7 hRV, ob1_some, lines_in hRV hp, ob1_some, if_pos (by rw [if_neg e]; rfl)]
theorem op_mark : Op_mark Inv := by
  intro k G x hI
  refine op_fin (f6 := fX6_mark G 0 x) (f7 := fun M => fX7_mark M x) hI ?_
  intro c bu a ro st s u f lv ke pg qg sc W M T St kd h1 h5 h6
  obtain ⟨hv, ht⟩ := h5.cur
  have hRB : RBk (mI M 0 0) (W s).1 := h6.2.2.2.1.cg rfl rfl
  have hRV := RV_of hRB (h6.2.2.1.cg rfl rfl rfl rfl : RSt (mI M 0 0) St st.1 st.2.1) hv.1 ht
  have hRV2 : RV (mI (mI M 0 0) 1 0) (sz (W s).1) (fun p => St (srcAt (W s).1 p)) := hRV
  have hs : s < 31 := h5.2.2.2.1.1
  have hz := hv.2.1
  have hmk : RMk M (W s) := h6.2.2.2.2.1
  have m7 : (7 : Int64).toInt = (7 : Nat) := rfl
  have m0 : (0 : Int64).toInt = (0 : Nat) := rfl
  rcases nn_or x with hx | ⟨p, hp, rfl⟩
  · refine fin0 (-1) h5 h6 ?_ ?_
    · unfold fX6_mark
      refine ift hx ?_
      exact ret0 h1 h5
    · unfold fX7_mark
      show ob1 (fX7_in x.toInt64 0 7) _ = _
      rw [in_cn hx m0]
      rfl
  · by_cases e : p < 8
    · have hmp := hmk p e
      have hb := hv.2.2 p e
      have cls : ∀ r, ((W s).2.1 p = -1 → r = -2) → ((W s).2.1 p ≠ -1 → r = ii ((W s).2.1 p)) → ok (fX6_mark G 0 (nn p)) (CQ G c (3016 * (4 * (k + 1) + a.2.1)) a a.2.1 ro st s u f ke W St r) := by
        intro r hr1 hr2
        unfold fX6_mark
        refine ifn (by rw [nn_neg hp]; exact id) ?_
        refine ift (by rw [q8, nn_lt hp (by omega)]; exact e) ?_
        refine sa1 h1.1.r0_4 ?_
        refine sa1 h1.1.io6 ?_
        refine ca2 (current_sp h1 hs) ?_
        rintro r' G1 ⟨c1, b1, lv1, x1, x2, x3, x4⟩
        change Cl G1 c1 b1 _ a ro st (s, u, f, lv1) ke pg qg sc W at x2
        obtain ⟨hs', hl, hm, ht', cap, fs, fl, fm, ft, a1, a2, a3, a4⟩ := x2.lf hs x1
        refine sa1 a1.f4 ?_
        refine sa1 (a1.rM e) ?_
        rw [(a3 p e).1]
        by_cases e2 : (W s).2.1 p = -1
        · refine ift (by rw [e2]; rfl) ?_
          rw [hr1 e2]
          exact CQ_ret (old := a.2.2.1) x2 x3 h5.2.1.2.1 h5.2.2.2.2.2.2
        · refine ifn (by rw [im1, ii_eq (by omega) (by omega)]; exact e2) ?_
          rw [hr2 e2]
          exact CQ_ret (old := a.2.2.1) x2 x3 h5.2.1.2.1 h5.2.2.2.2.2.2
      have ref : ∀ r, ((W s).2.1 p = -1 → r = -2) → ((W s).2.1 p ≠ -1 → r = ii ((W s).2.1 p)) → fX7_mark M (nn p) = some (r, mI M 0 0) := by
        intro r hr1 hr2
        unfold fX7_mark
        show ob1 (fX7_in (nn p).toInt64 0 7) _ = _
        rw [in_c hp m0 m7, ob1_some, if_neg (by rw [if_pos (by omega)]; decide)]
        show ob1 (rd 8 (M.2.1 12) (nn p)) (fun v4 => if v4 = (-1 : Int32) then some (-2, mI M 0 0) else ob1 (rd 8 (M.2.1 12) (nn p)) fun v6 => some (v6, mI M 0 0)) = _
        rw [rd_nn e (by omega), ob1_some, hmp.1]
        by_cases e2 : (W s).2.1 p = -1
        · rw [if_pos (by rw [e2]; rfl), hr1 e2]
        · rw [if_neg (by rw [im1, ii_eq (by omega) (by omega)]; exact e2), ob1_some, hr2 e2]
      by_cases e2 : (W s).2.1 p = -1
      · exact fin0 (-2) h5 h6 (cls _ (fun _ => rfl) (fun h => absurd e2 h)) (ref _ (fun _ => rfl) (fun h => absurd e2 h))
      · exact fin0 (ii ((W s).2.1 p)) h5 h6 (cls _ (fun h => absurd h e2) (fun _ => rfl)) (ref _ (fun h => absurd h e2) (fun _ => rfl))
    · refine fin0 (-1) h5 h6 ?_ ?_
      · unfold fX6_mark
        refine ifn (by rw [nn_neg hp]; exact id) ?_
        refine ifn (by rw [q8, nn_lt hp (by omega)]; exact e) ?_
        exact ret0 h1 h5
      · unfold fX7_mark
        show ob1 (fX7_in (nn p).toInt64 0 7) _ = _
        rw [in_c hp m0 m7, ob1_some, if_pos (by rw [if_neg (by omega)]; rfl)]
