/-! marks -/
theorem op_marks : Op_marks Inv := by
  intro k G x y z hI
  obtain ⟨c, bu, a, ro, st, ⟨s, u, f, lv⟩, ke, pg, qg, sc, W, M, A, B, T, St, kd, h1, h2, h3, h4, h5, h6⟩ := hI
  obtain ⟨hv, ht⟩ := h5.cur
  have hs : s < 31 := h5.2.2.2.1.1
  have huf : u + f ≤ 30 := h5.2.2.2.1.2
  have hz := hv.2.1
  have hcr := h1.2.2.2.1
  have hRB : RBk (mI M 0 0) (W s).1 := h6.2.2.2.1.cg rfl rfl
  have m0 : (0 : Int64).toInt = (0 : Nat) := rfl
  have m1 : (1 : Int64).toInt = (1 : Nat) := rfl
  have m7 : (7 : Int64).toInt = (7 : Nat) := rfl
  have neg : ∀ (r : Int32), ok (fX6_marks G 0 x y z) (CQ G c (3016 * (4 * (k + 1) + a.2.1)) a a.2.1 ro st s u f ke W St r) → fX7_marks M x y z = some (r, mI M 0 0) → ∃ (r : Int32) (G1 A : zH) (M : MS) (B : zH) (M1 : MS) (B1 : zH), fX6_marks G 0 x y z = some (r, G1) ∧ G1 = hG A M B ∧ A.length = 27 ∧ fX7_marks M x y z = some (r, M1) ∧ B1 = B ∧ Inv k (hG A M1 B1) := by
    intro r e6 e7
    obtain ⟨⟨r', G1⟩, e6, hr', c1, b1, lv1, old, pg1, qg1, sc1, x1, x2, x3, x4⟩ := e6
    change r' = r at hr'
    subst hr'
    obtain ⟨A1, B1, e1, e2, hI⟩ := op_q (M1 := mI M 0 0) h2 h3 hcr h4 h5 h6 x1 x2 (Mq_i0 M 0) (Nat.le_refl _) h6.1.2 h6.2.1 h5.2.1.2.2 x3 x4
    exact ⟨r', G1, A1, M, B1, _, B1, e6, e1, e2, e7, rfl, hI⟩
  have pos : ∀ (q sv : Nat) (v : Int), q < 8 → sv ≤ 1 → -1 ≤ v → v ≤ sz (W s).1 → x = nn q → y = ii v → z = nn sv → (∀ {Q : Int32 × zH → Prop}, (∀ G2 c2 b2 lv2, Cl G2 c2 b2 (3016 * (4 * (k + 1) + a.2.1)) a ro st (s, u, f, lv2) ke pg qg sc W → Fo G c G2 c2 → ok (fX6_marks_b38 G2 0 x y z) Q) → ok (fX6_marks G 0 x y z) Q) → fX7_marks M x y z = fX7_marks_b46 (mI M 0 0) x y z → ∃ (r : Int32) (G1 A : zH) (M : MS) (B : zH) (M1 : MS) (B1 : zH), fX6_marks G 0 x y z = some (r, G1) ∧ G1 = hG A M B ∧ A.length = 27 ∧ fX7_marks M x y z = some (r, M1) ∧ B1 = B ∧ Inv k (hG A M1 B1) := by
    intro q sv v hq hsv hv1 hv2 ex ey ez H6 H7
    have hc6 : ok (fX6_marks G 0 x y z) (fun w => w.1 = ii v ∧ ∃ c1 b1 lv1, Cl w.2 c1 b1 (3016 * (4 * (k + 1) + a.2.1)) (a.1, a.2.1, a.2.2.1, -1) ro st (s, u, f, lv1) ke pg qg sc (va_up W s ((W s).1, va_up (W s).2.1 q v, va_up (W s).2.2 q sv)) ∧ Fo G c w.2 c1) := by
      refine H6 fun G2 c2 b2 lv2 z2 z3 => ?_
      rw [ex, ey, ez]
      unfold fX6_marks_b38
      refine sa1 z2.1.r0_4 ?_
      refine sa1 z2.1.io6 ?_
      refine ca2 (current_sp z2 hs) ?_
      rintro r' G3 ⟨c3, b3, lv3, x1, x2, x3, x4⟩
      change Cl G3 c3 b3 _ a ro st (s, u, f, lv3) ke pg qg sc W at x2
      have hL := x2.lf hs x1
      have b57 : ok (fX6_marks_b57 G3 0 (ii v) (nn sv) (ii v) (nn q) r') (fun w => w.1 = ii v ∧ ∃ c1 b1 lv1, Cl w.2 c1 b1 (3016 * (4 * (k + 1) + a.2.1)) (a.1, a.2.1, a.2.2.1, -1) ro st (s, u, f, lv1) ke pg qg sc (va_up W s ((W s).1, va_up (W s).2.1 q v, va_up (W s).2.2 q sv)) ∧ Fo G c w.2 c1) := by
        unfold fX6_marks_b57
        refine sa1 hL.io ?_
        refine ca1 (setMark_sp hL hq hsv) ?_
        rintro G4 ⟨l4, u4⟩
        have t4 := x2.leaf (i := s) (w := ((W s).1, va_up (W s).2.1 q v, va_up (W s).2.2 q sv)) (by omega) u4 (by rw [hvf_ring hs]; show LO G4 c3 (s + 1) (lv3 s) _ _; rw [x1]; exact l4)
        obtain ⟨G5, g1, g2, g3⟩ := t4.1.s0_13 t4.2.2.1 0 (-1)
        refine sa1 g1 ?_
        exact ok_some ⟨rfl, c3, _, lv3, t4.fx g2 g3 rfl rfl, z3.trans (x3.trans ((u4.1.fo (by omega)).trans (g3.1.fo (by omega))))⟩
      have hs01 : sv = 0 ∨ sv = 1 := by omega
      rcases hs01 with rfl | rfl
      · refine ifn (by decide) ?_
        exact b57
      · refine ift rfl ?_
        exact b57
    obtain ⟨⟨r', G1⟩, e6, hr, c1, b1, lv1, x1, x2⟩ := hc6
    change r' = _ at hr
    subst hr
    obtain ⟨A1, B1, y1, y2, hcp, hfin⟩ := op_st (k := k) h2 h3 hcr h4 x1 x2
    have hWn : ∀ i, i ≠ s → va_up W s ((W s).1, va_up (W s).2.1 q v, va_up (W s).2.2 q sv) i = W i := fun i hi => if_neg hi
    have hbd : bdM (va_up (W s).2.1 q v) (va_up (W s).2.2 q sv) (sz (W s).1) := by
      intro j hj
      by_cases ej : j = q
      · subst ej
        rw [va_up_same, va_up_same]
        exact ⟨hv1, hv2, hsv⟩
      · rw [show va_up (W s).2.1 q v j = (W s).2.1 j from if_neg ej, show va_up (W s).2.2 q sv j = (W s).2.2 j from if_neg ej]
        exact hv.2.2 j hj
    have hI := hfin [] (mI (mA (mA (mI M 0 0) 12 (upd (M.2.1 12) q (ii v))) 13 (upd (M.2.1 13) q (nn sv))) 21 (-5)) T St kd (by show 3016 * (4 * k + a.2.1) + 0 ≤ _; omega) (by show 3016 * (4 * k + a.2.1) + 12 * 0 ≤ _; omega) ⟨h5.1, ⟨h5.2.1.1, h5.2.1.2.1, h5.2.1.2.2⟩, h5.2.2.1, h5.2.2.2.1, ?_, ?_, ?_⟩ ⟨h6.1, h6.2.1, h6.2.2.1, ?_, ?_, ⟨h6.2.2.2.2.2.1.1, h6.2.2.2.2.2.1.2.1, fun j hj => ?_, fun j hj => ?_⟩, fun j hj => ?_, Or.inl ⟨rfl, rfl⟩⟩
    · rw [List.append_nil] at hI
      refine ⟨ii v, G1, A1, M, B1, _, B1, e6, y1, y2, ?_, rfl, hI⟩
      rw [H7, ex, ey, ez]
      unfold fX7_marks_b46
      rw [wr_nn hq (by omega), ob1_some, wr_nn hq (by omega), ob1_some, nn_tn (by omega), zlt]
      rfl
    · intro i hi hw
      by_cases e : i = s
      · subst e
        rw [va_up_same]
        exact ⟨hv.1, hz, hbd⟩
      · rw [hWn i e]
        exact h5.2.2.2.2.1 i hi hw
    · intro j hj
      rw [hWn (31 + j) (by omega)]
      exact h5.2.2.2.2.2.1 j hj
    · intro h
      show PgTo pg (va_up W s _ s).1 St (sz (va_up W s _ s).1)
      rw [va_up_same]
      exact h5.2.2.2.2.2.2 h
    · show RBk _ (va_up W s _ s).1
      rw [va_up_same]
      exact h6.2.2.2.1.cg rfl rfl
    · show RMk _ (va_up W s _ s)
      rw [va_up_same]
      intro j hj
      show upd (M.2.1 12) q (ii v) j = ii (va_up (W s).2.1 q v j) ∧ upd (M.2.1 13) q (nn sv) j = nn (va_up (W s).2.2 q sv j)
      by_cases ej : j = q
      · subst ej
        rw [upd_same, upd_same, va_up_same, va_up_same]
        exact ⟨rfl, rfl⟩
      · rw [upd_ne _ _ ej, upd_ne _ _ ej, show va_up (W s).2.1 q v j = (W s).2.1 j from if_neg ej, show va_up (W s).2.2 q sv j = (W s).2.2 j from if_neg ej]
        exact h6.2.2.2.2.1 j hj
    · change j < u at hj
      have := hcp [] (mI (mA (mA (mI M 0 0) 12 (upd (M.2.1 12) q (ii v))) 13 (upd (M.2.1 13) q (nn sv))) 21 (-5)) _ _ _ (h6.2.2.2.2.2.1.2.2.1 j hj)
      show CpA _ _ _ _ (va_up W s _ ((s + 31 - u + j) % 31))
      rw [hWn _ (by omega)]
      exact this
    · change j < f at hj
      have := hcp [] (mI (mA (mA (mI M 0 0) 12 (upd (M.2.1 12) q (ii v))) 13 (upd (M.2.1 13) q (nn sv))) 21 (-5)) _ _ _ (h6.2.2.2.2.2.1.2.2.2 j hj)
      show CpA _ _ _ _ (va_up W s _ ((s + f - j) % 31))
      rw [hWn _ (by omega)]
      exact this
    · rw [hWn (31 + j) (by omega)]
      exact ⟨(h6.2.2.2.2.2.2.1 j hj).1, fun hk => hcp [] _ _ _ _ ((h6.2.2.2.2.2.2.1 j hj).2 hk)⟩
  rcases nn_or x with hx | ⟨q, hq, rfl⟩
  · refine neg (-3) ?_ ?_
    · unfold fX6_marks
      refine ift hx ?_
      exact ret0 h1 h5
    · unfold fX7_marks
      rw [zlt, in_neg hx]
      rfl
  · by_cases eq : q < 8
    · have x0 : ¬ nn q < 0 := by rw [nn_neg hq]; exact id
      have x8 : ¬ (8 : Int32) ≤ nn q := by rw [q8, nn_le (by omega) hq]; omega
      have i7 : fX7_in (nn q).toInt64 0 7 = some (nn 1) := by rw [in_c hq m0 m7, if_pos (by omega)]
      have h10 : ¬ nn 1 = (0 : Int32) := by decide
      rcases nn_or z with hzn | ⟨sv, hsv, rfl⟩
      · refine neg (-3) ?_ ?_
        · unfold fX6_marks
          refine ifn x0 ?_
          refine ifn x8 ?_
          refine ift hzn ?_
          exact ret0 h1 h5
        · unfold fX7_marks
          rw [zlt, i7, ob1_some, if_neg h10, in_neg hzn]
          rfl
      · have z0 : ¬ nn sv < 0 := by rw [nn_neg hsv]; exact id
        by_cases es : sv ≤ 1
        · have z1 : nn sv ≤ 1 := by rw [q1, nn_le hsv (by omega)]; exact es
          have i1 : fX7_in (nn sv).toInt64 0 1 = some (nn 1) := by rw [in_c hsv m0 m1, if_pos (by omega)]
          by_cases ey : y = -1
          · refine pos q sv (-1) eq es (by omega) (by omega) rfl (ey.trans im1) rfl ?_ ?_
            · intro Q H
              unfold fX6_marks
              refine ifn x0 ?_
              refine ifn x8 ?_
              refine ifn z0 ?_
              refine ift z1 ?_
              refine ift ey ?_
              exact H G c bu lv h1 (Fo.refl _ _)
            · unfold fX7_marks
              rw [zlt, i7, ob1_some, if_neg h10, i1, ob1_some, if_neg h10, if_pos ey]
          · rcases nn_or y with hy | ⟨p, hp, rfl⟩
            · refine neg (-2) ?_ ?_
              · unfold fX6_marks
                refine ifn x0 ?_
                refine ifn x8 ?_
                refine ifn z0 ?_
                refine ift z1 ?_
                refine ifn ey ?_
                refine sa1 h1.1.io0 ?_
                refine sa2 (isPlace6_neg hy) ?_
                refine ift rfl ?_
                exact ret0 h1 h5
              · unfold fX7_marks
                rw [zlt, i7, ob1_some, if_neg h10, i1, ob1_some, if_neg h10, if_neg ey, isPlace7_neg hy, ob1_some, if_pos n00]
            · by_cases ep : p ≤ sz (W s).1
              · refine pos q sv (p : Int) eq es (by omega) (by omega) rfl (ii_nn p).symm rfl ?_ ?_
                · intro Q H
                  unfold fX6_marks
                  refine ifn x0 ?_
                  refine ifn x8 ?_
                  refine ifn z0 ?_
                  refine ift z1 ?_
                  refine ifn ey ?_
                  refine sa1 h1.1.io0 ?_
                  refine ca2 (isPlace6_sp h1 hs hz hp) ?_
                  rintro v G2 ⟨w1, c1, b1, lv1, w2, w3, -⟩
                  change v = _ at w1
                  subst w1
                  refine ifn (by rw [if_pos ep]; exact h10) ?_
                  exact H G2 c1 b1 lv1 w2 w3
                · unfold fX7_marks
                  rw [zlt, i7, ob1_some, if_neg h10, i1, ob1_some, if_neg h10, if_neg ey, isPlace7_sp hRB hp, ob1_some, if_neg (by rw [if_pos ep]; exact h10)]
              · refine neg (-2) ?_ ?_
                · unfold fX6_marks
                  refine ifn x0 ?_
                  refine ifn x8 ?_
                  refine ifn z0 ?_
                  refine ift z1 ?_
                  refine ifn ey ?_
                  refine sa1 h1.1.io0 ?_
                  refine ca2 (isPlace6_sp h1 hs hz hp) ?_
                  rintro v G2 ⟨w1, c1, b1, lv1, w2, w3, -⟩
                  change v = _ at w1
                  subst w1
                  refine ift (by rw [if_neg ep]; rfl) ?_
                  exact CQ_ret (old := a.2.2.1) w2 w3 h5.2.1.2.1 h5.2.2.2.2.2.2
                · unfold fX7_marks
                  rw [zlt, i7, ob1_some, if_neg h10, i1, ob1_some, if_neg h10, if_neg ey, isPlace7_sp hRB hp, ob1_some, if_pos (by rw [if_neg ep]; rfl)]
        · refine neg (-3) ?_ ?_
          · unfold fX6_marks
            refine ifn x0 ?_
            refine ifn x8 ?_
            refine ifn z0 ?_
            refine ifn (by rw [q1, nn_le hsv (by omega)]; exact es) ?_
            exact ret0 h1 h5
          · unfold fX7_marks
            rw [zlt, i7, ob1_some, if_neg h10, in_c hsv m0 m1, ob1_some, if_pos (by rw [if_neg (by omega)]; rfl)]
    · refine neg (-3) ?_ ?_
      · unfold fX6_marks
        refine ifn (by rw [nn_neg hq]; exact id) ?_
        refine ift (by rw [q8, nn_le (by omega) hq]; omega) ?_
        exact ret0 h1 h5
      · unfold fX7_marks
        rw [zlt, in_c hq m0 m7, ob1_some, if_pos (by rw [if_neg (by omega)]; rfl)]
