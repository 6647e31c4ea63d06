/-! questions: first ones -/
section Fin
variable {f6 : Option (Int32 × zH)} {y7 : Option (Int32 × MS)} {G : zH} {c : Nat → Nat} {n : Nat} {a : TA} {ro : TR} {st : TS} {s u f : Nat} {lv : Nat → Option Nat} {ke : TK} {pg : TP} {W : Nat → LVa} {M : MS} {T St kd : Nat → Nat}
abbrev FinG (f6 : Option (Int32 × zH)) (y7 : Option (Int32 × MS)) (G : zH) (c : Nat → Nat) (n : Nat) (a : TA) (st : TS) (s u f : Nat) (ke : TK) (W : Nat → LVa) (M : MS) (St : Nat → Nat) : Prop := ∃ r ro1 ts M1, ts ≤ a.2.1 ∧ ro1.1 ≤ 16 ∧ ok f6 (CQ G c n a ts ro1 st s u f ke W St r) ∧ y7 = some (r, M1) ∧ Mq M M1 ∧ M1.1 4 = nn ts ∧ RRo M1 ro1
theorem fin0 (r : Int32) (h5 : Sm T St kd a ro st (s, u, f, lv) ke pg W) (h6 : Rf M G c T St kd a ro st (s, u, f, lv) W) (e6 : ok f6 (CQ G c n a a.2.1 ro st s u f ke W St r)) (e7 : y7 = some (r, mI M 0 0)) : FinG f6 y7 G c n a st s u f ke W M St := ⟨r, ro, a.2.1, mI M 0 0, Nat.le_refl _, h5.2.1.2.2, e6, e7, Mq_i0 M 0, h6.1.2, h6.2.1⟩
theorem fin1 (r : Int32) (v : Int64) (h6 : Rf M G c T St kd a ro st (s, u, f, lv) W) (e6 : ok f6 (CQ G c n a a.2.1 (1, vp_updL ro.2 0 v) st s u f ke W St r)) (e7 : y7 = some (r, tl1 (mI M 0 0) v)) : FinG f6 y7 G c n a st s u f ke W M St := ⟨r, (1, vp_updL ro.2 0 v), a.2.1, tl1 (mI M 0 0) v, Nat.le_refl _, by show 1 ≤ 16; omega, e6, e7, Mq_i0 M 0, h6.1.2, RRo.tl1 _ _ _⟩
theorem fin2 (r : Int32) (v w : Int64) (h6 : Rf M G c T St kd a ro st (s, u, f, lv) W) (e6 : ok f6 (CQ G c n a a.2.1 (2, vp_updL (vp_updL ro.2 0 v) 1 w) st s u f ke W St r)) (e7 : y7 = some (r, tl2 (mI M 0 0) v w)) : FinG f6 y7 G c n a st s u f ke W M St := ⟨r, (2, vp_updL (vp_updL ro.2 0 v) 1 w), a.2.1, tl2 (mI M 0 0) v w, Nat.le_refl _, by show 2 ≤ 16; omega, e6, e7, Mq_i0 M 0, h6.1.2, RRo.tl2 _ _ _ _⟩
theorem fin3 (r : Int32) (v w x : Int64) (h6 : Rf M G c T St kd a ro st (s, u, f, lv) W) (e6 : ok f6 (CQ G c n a a.2.1 (3, vp_updL (vp_updL (vp_updL ro.2 0 v) 1 w) 2 x) st s u f ke W St r)) (e7 : y7 = some (r, tl3 (mI M 0 0) v w x)) : FinG f6 y7 G c n a st s u f ke W M St := ⟨r, (3, vp_updL (vp_updL (vp_updL ro.2 0 v) 1 w) 2 x), a.2.1, tl3 (mI M 0 0) v w x, Nat.le_refl _, by show 3 ≤ 16; omega, e6, e7, Mq_i0 M 0, h6.1.2, RRo.tl3 _ _ _ _ _⟩
/-- nothing told: the row is empty -/
theorem finE (r : Int32) (h6 : Rf M G c T St kd a ro st (s, u, f, lv) W) (e6 : ok f6 (CQ G c n a a.2.1 (0, ro.2) st s u f ke W St r)) (e7 : y7 = some (r, mI (mI M 0 0) 1 0)) : FinG f6 y7 G c n a st s u f ke W M St := ⟨r, (0, ro.2), a.2.1, mI (mI M 0 0) 1 0, Nat.le_refl _, by show 0 ≤ 16; omega, e6, e7, Mq_i0 M 0, h6.1.2, RRo.zero _ _⟩
theorem ret0 {bu : Nat → Nat} {qg : TP} {sc : Nat → Int32} {r : Int32} (h1 : Cl G c bu n a ro st (s, u, f, lv) ke pg qg sc W) (h5 : Sm T St kd a ro st (s, u, f, lv) ke pg W) : ok (some (r, G)) (CQ G c n a a.2.1 ro st s u f ke W St r) := CQ_ret (old := a.2.2.1) h1 (Fo.refl _ _) h5.2.1.2.1 h5.2.2.2.2.2.2
/-- the page is opened -/
theorem page_open {bu : Nat → Nat} {qg : TP} {sc : Nat → Int32} {G0 : zH} {c0 : Nat → Nat} {code : Nat → zH → Option (Int32 × zH)} {Q : Int32 × zH → Prop} (h1 : Cl G c bu n a ro st (s, u, f, lv) ke pg qg sc W) (h5 : Sm T St kd a ro st (s, u, f, lv) ke pg W) (hf : Fo G0 c0 G c) (H : ∀ G1 c1 b1 lv1 pg1, Cl G1 c1 b1 n (a.1, a.2.1, 0, a.2.2.2) ro st (s, u, f, lv1) ke pg1 qg sc W → PgTo pg1 (W s).1 St (sz (W s).1) → Fo G0 c0 G1 c1 → PV G1 (sz (W s).1) (fun p => St (srcAt (W s).1 p)) (pcAt (W s).1) → ok (code 20 G1) Q) : ok (ob2 (fX6_shownPage G 0) code) Q := by
  obtain ⟨hv, ht⟩ := h5.cur
  refine ca2 (shownPage_sp h1 h5) ?_
  rintro r G1 ⟨hr, c1, b1, lv1, pg1, x1, x2, x3, -⟩
  change r = 20 at hr
  subst hr
  exact H G1 c1 b1 lv1 pg1 x1 x2 (hf.trans x3) (PV_of x1.1 x2 hv.2.1 ht)
theorem Sm.lv' {lv' : Nat → Option Nat} (h : Sm T St kd a ro st (s, u, f, lv) ke pg W) : Sm T St kd a ro st (s, u, f, lv') ke pg W := h
end Fin
theorem len_code {x : Int32} {a : Nat} (h : x = nn a) (ha : a < 2147483648) : (0 ≤ x) = True := by
  rw [h, q0, nn_le (by omega) ha]
  simp
theorem neg_le {x : Int32} (h : x < 0) : ¬ (0 ≤ x) := by
  rw [Int32.lt_iff_toInt_lt] at h
  rw [Int32.le_iff_toInt_le]
  omega
/-! line -/
theorem op_line : Op_line Inv := by
  intro k G x hI
  refine op_fin (f6 := fX6_line G 0 x) (f7 := fun M => fX7_line M x) hI ?_
  intro c bu a ro st s u f lv ke pg qg sc W M T St kd h1 h5 h6
  obtain ⟨hv, ht⟩ := h5.cur
  have hRB : RBk (mI M 0 0) (W s).1 := h6.2.2.2.1.cg rfl rfl
  have hRV := RV_of hRB (h6.2.2.1.cg rfl rfl rfl rfl : RSt (mI M 0 0) St st.1 st.2.1) hv.1 ht
  have hRV2 : RV (mI (mI M 0 0) 1 0) (sz (W s).1) (fun p => St (srcAt (W s).1 p)) := hRV
  have hs := h5.2.2.2.1.1
  have hz := hv.2.1
  rcases nn_or x with hx | ⟨p, hp, rfl⟩
  · refine fin0 (-1) h5 h6 ?_ ?_
    · unfold fX6_line
      refine sa1 h1.1.io0 ?_
      refine sa2 (isPlace6_neg hx) ?_
      refine ift rfl ?_
      exact ret0 h1 h5
    · unfold fX7_line
      show ob1 (fX7_isPlace (mI M 0 0) x) _ = _
      rw [isPlace7_neg hx]
      rfl
  · by_cases e : p ≤ sz (W s).1
    · have hcb := cntB_le (fun p => St (srcAt (W s).1 p)) 0 p
      refine fin1 (nn (cntB (fun p => St (srcAt (W s).1 p)) 0 p)) (nn (p - lstF (isB (fun p => St (srcAt (W s).1 p))) p)).toInt64 h6 ?_ ?_
      · unfold fX6_line
        refine sa1 h1.1.io0 ?_
        refine ca2 (isPlace6_sp h1 hs hz hp) ?_
        rintro v G1 ⟨y1, c1, b1, lv1, y2, y3, -⟩
        change v = _ at y1
        subst y1
        refine ifn (by rw [if_pos e]; decide) ?_
        refine sa1 y2.1.io0 ?_
        refine page_open y2 h5.lv' y3 ?_
        intro G2 c2 b2 lv2 pg2 z1 z2 z3 hPV
        refine sa1 z1.1.r0_2 ?_
        refine sa1 hPV.1 ?_
        refine sa1 (lineBegin6 hPV e) ?_
        refine sa1 z1.1.io2 ?_
        rw [nn_sub (lstF_le _ _)]
        refine ca1 (tell1_sp z1.1 z1.2.2.1 0 _) ?_
        rintro G3 ⟨g1, g2⟩
        have z4 := z1.fx g1 g2 rfl rfl
        have hPV3 := PV_of z4.1 z2 hz ht
        refine sa1 hPV3.1 ?_
        have := breaksIn6 hPV3 (lo := 0) (m := p) (by omega)
        rw [Nat.zero_add] at this
        rw [q0]
        refine sa1 this ?_
        exact CQ_ret z4 (z3.trans (g2.1.fo (by omega))) (by omega) (fun _ => z2)
      · show fX7_line M (nn p) = _
        unfold fX7_line
        show ob1 (fX7_isPlace (mI M 0 0) (nn p)) _ = _
        rw [isPlace7_sp hRB hp, ob1_some, if_neg (by rw [if_pos e]; decide), breaksAhead7 hRV e, ob1_some]
        show ob1 (fX7_startOf (mI (mI M 0 0) 1 0) _) _ = _
        rw [startOf7 hRV2 (by omega) (lsF_line e), ob1_some, nn_sub (lstF_le _ _), tl1_sp, ob1_some]
    · refine fin0 (-1) h5 h6 ?_ ?_
      · unfold fX6_line
        refine sa1 h1.1.io0 ?_
        refine ca2 (isPlace6_sp h1 hs hz hp) ?_
        rintro v G1 ⟨y1, c1, b1, lv1, y2, y3, -⟩
        change v = _ at y1
        subst y1
        refine ift (by rw [if_neg e]; rfl) ?_
        exact CQ_ret (old := a.2.2.1) y2 y3 h5.2.1.2.1 h5.2.2.2.2.2.2
      · show fX7_line M (nn p) = _
        unfold fX7_line
        show ob1 (fX7_isPlace (mI M 0 0) (nn p)) _ = _
        rw [isPlace7_sp hRB hp, ob1_some, if_pos (by rw [if_neg e]; rfl)]
/-! starts, place -/
theorem lines_in {M : MS} {n : Nat} {t : Nat → Nat} (h : RV M n t) {l : Nat} (hl : l < 2147483648) : fX7_in (nn l).toInt64 0 (nn (cntB t 0 n + 1) - 1).toInt64 = some (nn (if l ≤ cntB t 0 n then 1 else 0)) := by
  have := cntB_le t 0 n
  have := h.2.2.1
  rw [q1, nn_sub (by omega), Nat.add_sub_cancel, in_nn hl (by omega)]
theorem oN_some {t : Nat → Nat} {n l : Nat} (h : l ≤ cntB t 0 n) : ∃ m, lsF t l 0 n = some m ∧ m ≤ n := by
  obtain ⟨m, hm⟩ := (lsF_some t l 0 n).mpr h
  exact ⟨m, hm, by have := lsF_le hm; omega⟩
theorem oN_none {t : Nat → Nat} {n l : Nat} (h : ¬ l ≤ cntB t 0 n) : lsF t l 0 n = none := by
  cases e : lsF t l 0 n with
  | none => rfl
  | some m => exact absurd ((lsF_some t l 0 n).mp ⟨m, e⟩) h
theorem nn_ne_m1 {a : Nat} (h : a < 2147483648) : ¬ nn a = -1 := by
  intro e
  have := congrArg Int32.toInt e
  rw [nn_toInt h] at this
  have h2 : (-1 : Int32).toInt = -1 := rfl
  omega
theorem op_starts : Op_starts Inv := by
  intro k G x hI
  refine op_fin (f6 := fX6_starts G 0 x) (f7 := fun M => fX7_starts M x) hI ?_
  intro c bu a ro st s u f lv ke pg qg sc W M T St kd h1 h5 h6
  obtain ⟨hv, ht⟩ := h5.cur
  have hRB : RBk (mI M 0 0) (W s).1 := h6.2.2.2.1.cg rfl rfl
  have hRV := RV_of hRB (h6.2.2.1.cg rfl rfl rfl rfl : RSt (mI M 0 0) St st.1 st.2.1) hv.1 ht
  have hRV2 : RV (mI (mI M 0 0) 1 0) (sz (W s).1) (fun p => St (srcAt (W s).1 p)) := hRV
  have hs := h5.2.2.2.1.1
  have hz := hv.2.1
  have hcn := cntB_le (fun p => St (srcAt (W s).1 p)) 0 (sz (W s).1)
  rcases nn_or x with hx | ⟨p, hp, rfl⟩
  · refine fin0 (-1) h5 h6 ?_ ?_
    · unfold fX6_starts
      refine sa1 h1.1.io0 ?_
      refine page_open h1 h5 (Fo.refl _ _) ?_
      intro G2 c2 b2 lv2 pg2 z1 z2 z3 hPV
      refine sa1 hPV.1 ?_
      refine sa1 (lineStart6_neg hPV hx) ?_
      refine ift rfl ?_
      exact CQ_ret z1 z3 (by omega) (fun _ => z2)
    · show fX7_starts M x = _
      unfold fX7_starts
      show ob1 (fX7_lines (mI M 0 0)) _ = _
      rw [lines7 hRV, ob1_some, in_neg hx]
      rfl
  · by_cases e : p ≤ cntB (fun p => St (srcAt (W s).1 p)) 0 (sz (W s).1)
    · obtain ⟨m, hm, hmn⟩ := oN_some e
      have hfl := fstF_le (isB (fun p => St (srcAt (W s).1 p))) m (sz (W s).1 - m)
      refine fin1 (nn m) (nn (fstF (isB (fun p => St (srcAt (W s).1 p))) m (sz (W s).1 - m) - m)).toInt64 h6 ?_ ?_
      · unfold fX6_starts
        refine sa1 h1.1.io0 ?_
        refine page_open h1 h5 (Fo.refl _ _) ?_
        intro G2 c2 b2 lv2 pg2 z1 z2 z3 hPV
        refine sa1 hPV.1 ?_
        refine sa1 (lineStart6 hPV hp) ?_
        rw [hm]
        refine ifn (nn_ne_m1 (by omega)) ?_
        refine sa1 z1.1.r0_2 ?_
        refine sa1 hPV.1 ?_
        refine sa1 (lineEnd6 hPV (by omega)) ?_
        refine sa1 z1.1.io2 ?_
        show ok (ob1 (fX5_tell G2 2 (nn _ - nn m).toInt64) _) _
        rw [nn_sub hfl.1]
        exact CQ_t1 z1 z3 (by omega) (fun _ => z2) _
      · show fX7_starts M (nn p) = _
        unfold fX7_starts
        show ob1 (fX7_lines (mI M 0 0)) _ = _
        rw [lines7 hRV, ob1_some, lines_in hRV hp, ob1_some, if_neg (by rw [if_pos e]; decide), startOf7 hRV (by omega) hm, ob1_some]
        show ob1 (fX7_endFrom (mI (mI M 0 0) 1 0) _) _ = _
        rw [endFrom7 hRV2 (by omega), ob1_some, nn_sub hfl.1, tl1_sp, ob1_some]
    · refine fin0 (-1) h5 h6 ?_ ?_
      · unfold fX6_starts
        refine sa1 h1.1.io0 ?_
        refine page_open h1 h5 (Fo.refl _ _) ?_
        intro G2 c2 b2 lv2 pg2 z1 z2 z3 hPV
        refine sa1 hPV.1 ?_
        refine sa1 (lineStart6 hPV hp) ?_
        rw [oN_none e]
        refine ift rfl ?_
        exact CQ_ret z1 z3 (by omega) (fun _ => z2)
      · show fX7_starts M (nn p) = _
        unfold fX7_starts
        show ob1 (fX7_lines (mI M 0 0)) _ = _
        rw [lines7 hRV, ob1_some, lines_in hRV hp, ob1_some, if_pos (by rw [if_neg e]; rfl)]
