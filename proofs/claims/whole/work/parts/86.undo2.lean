theorem op_undo : Op_undo Inv := by
  intro k G hI
  obtain ⟨c, bu, a, ro, st, ⟨s, u, f, lv⟩, ke, pg, qg, sc, W, M, A, B, T, St, kd, h1, h2, h3, h4, h5, h6⟩ := hI
  obtain ⟨hv, ht⟩ := h5.cur
  have hs : s < 31 := h5.2.2.2.1.1
  have huf : u + f ≤ 30 := h5.2.2.2.1.2
  have hz := hv.2.1
  have hcr := h1.2.2.2.1
  have h17 : (mI M 0 0).1 17 = nn u := h6.2.2.2.2.2.1.1
  have h20 : (mI M 0 0).1 20 = nn f := h6.2.2.2.2.2.1.2.1
  by_cases e : u = 0
  · refine op_fin5 (k := k) (f7 := fun A M B => fX7_undo A M B) (-1) h2 h3 hcr h4 h5 h6 ?_ (fun A B => ?_)
    · unfold fX6_undo
      refine sa1 h1.1.r0_4 ?_
      refine sa1 (fi_at (v := nn u) h1.1.g6 rfl) ?_
      refine ifn (by rw [q1, nn_le (by omega) (by omega)]; omega) ?_
      exact ret0 h1 h5
    · show fX7_undo A M B = _
      unfold fX7_undo fX7_undoes
      rw [zlt, if_pos (by rw [h17, e]; rfl)]
      rfl
  · have hc6 : ok (fX6_undo G 0) (fun z => z.1 = nn (u - 1) ∧ Cl z.2 c bu (3016 * (4 * (k + 1) + a.2.1)) (a.1, a.2.1, 1, -1) ro st ((s + 30) % 31, u - 1, f + 1, lv) ke pg qg sc W ∧ Fo G c z.2 c) := by
      unfold fX6_undo
      refine sa1 h1.1.r0_4 ?_
      refine sa1 (fi_at (v := nn u) h1.1.g6 rfl) ?_
      refine ift (by rw [q1, nn_le (by omega) (by omega)]; omega) ?_
      refine sa1 h1.1.r0_4 ?_
      refine sa1 h1.1.io6 ?_
      refine ca1 (goBack_sp h1 hs (by omega)) ?_
      rintro G2 ⟨x1, x2⟩
      refine sa1 x1.1.io0 ?_
      refine ca1 (bookIsOther_sp x1) ?_
      rintro G3 ⟨x3, x4⟩
      refine sa1 x3.1.r0_4 ?_
      refine sa1 (fi_at (v := nn (u - 1)) x3.1.g6 rfl) ?_
      exact ok_some ⟨rfl, x3, x2.trans x4⟩
    obtain ⟨⟨r', G1⟩, e6, hr, x1, x2⟩ := hc6
    change r' = _ at hr
    subst hr
    obtain ⟨A1, B1, y1, y2, hcp, hfin⟩ := op_st (k := k) h2 h3 hcr h4 x1 x2
    change G1 = hG A1 M B1 at y1
    obtain ⟨r1, r2, q, q', p1, p2, p3, p4, ⟨p5, p6, p7, p8⟩, p9, p10⟩ := (h6.2.2.2.2.2.1.2.2.1 (u - 1) (by show u - 1 < u; omega)).fo x2
    change (G1[r1]? = some (.inl (0, (sz (W ((s + 31 - u + (u - 1)) % 31)).1, .inl q)))) at p3
    rw [show (s + 31 - u + (u - 1)) % 31 = (s + 30) % 31 by omega] at p3
    have hok := h5.2.2.2.2.1 ((s + 30) % 31) (by omega) (Or.inr (by show (s + 31 - (s + 30) % 31) % 31 ≤ u; omega))
    change ∀ p, p < sz (W ((s + 31 - u + (u - 1)) % 31)).1 → q p = nn (cod (W ((s + 31 - u + (u - 1)) % 31)).1 p) at p9
    change ∀ k, k < 8 → q' k = ii ((W ((s + 31 - u + (u - 1)) % 31)).2.1 k) ∧ q' (8 + k) = nn ((W ((s + 31 - u + (u - 1)) % 31)).2.2 k) at p10
    rw [show (s + 31 - u + (u - 1)) % 31 = (s + 30) % 31 by omega] at p9 p10
    have hrm := x1.2.2.2.2.2
    have h50 := x1.2.2.2.2.1
    change Rm G1 _ at hrm
    change 50 ≤ G1.length at h50
    change G1[r2]? = _ at p4
    rw [y1] at hrm h50 p3 p4
    have hr1 : zs (hG A1 M B1) + (bsum bu 36 + 3016 * (4 * (k + 1) + a.2.1)) ≤ zKL := hrm.1
    have hr2 : 12 * (hG A1 M B1).length + (bsum bu 36 + 3016 * (4 * (k + 1) + a.2.1)) ≤ 12 * zGL := hrm.2
    have hl : (hG A1 (mI M 0 0) B1).length = (hG A1 M B1).length := by rw [hG_len, hG_len]
    have hll := hG_len A1 M B1
    have hzs := hG_zs A1 B1 [] M (mI M 0 0)
    rw [List.append_nil] at hzs
    have hz0 : zs ([] : zH) = 0 := rfl
    obtain ⟨M1, g, g', d1, d2, d3, d4, d5, d6, d7, d8, d9, d10, d11, d12, d13, d14⟩ := undoes_sp (A := A1) (B := B1) (M := mI M 0 0) (v := W s) (w := W ((s + 30) % 31)) (h6.2.2.2.1.cg rfl rfl) h6.2.2.2.2.1 h17 h20 (by omega) (by omega) (by omega) p1 p2 (fun M' K => by rw [hG_other (M := M) y2 (Or.inr (by omega)) (G_lt p3)]; exact p3) (fun M' K => by rw [hG_other (M := M) y2 (Or.inr (by omega)) (G_lt p4)]; exact p4) p9 p10 hok.2.1 (by omega) (by omega)
    rw [hl] at d12 d13
    have hzK : zs [KB (W s).1 g, KM g'] = sz (W s).1 + 16 := by
      show sz (W s).1 + (16 + 0) = _
      omega
    refine ⟨_, G1, A1, M, B1, M1, _, e6, y1, y2, ?_, hfin [KB (W s).1 g, KM g'] M1 T St kd (by rw [hzK]; show 3016 * (4 * k + a.2.1) + _ ≤ _; omega) (by show 3016 * (4 * k + a.2.1) + 12 * 2 ≤ _; omega) ⟨h5.1, ⟨h5.2.1.1, by show 1 ≤ 1; omega, h5.2.1.2.2⟩, h5.2.2.1, ⟨by show (s + 30) % 31 < 31; omega, by show u - 1 + (f + 1) ≤ 30; omega⟩, fun i hi hw => ?_, h5.2.2.2.2.2.1, fun h => by cases h⟩ ⟨⟨fun i hi => ?_, ?_⟩, ⟨?_, fun j hj => ?_⟩, ?_, d4, d5, ⟨d6, d7, fun j hj => ?_, fun j hj => ?_⟩, fun j hj => ?_, Or.inl ⟨rfl, d8⟩⟩⟩
    · unfold fX7_undo
      rw [zlt, d1, ob3_some]
    · change (i + 31 - (s + 30) % 31) % 31 ≤ f + 1 ∨ ((s + 30) % 31 + 31 - i) % 31 ≤ u - 1 at hw
      refine h5.2.2.2.2.1 i hi ?_
      show (i + 31 - s) % 31 ≤ f ∨ (s + 31 - i) % 31 ≤ u
      omega
    · rw [d10 3 (by decide) (by decide) (by decide)]
      exact h6.1.1 i hi
    · rw [d9 4 (by decide) (by decide) (by decide) (by decide)]
      exact h6.1.2
    · rw [d9 1 (by decide) (by decide) (by decide) (by decide)]
      exact h6.2.1.1
    · rw [d11]
      exact h6.2.1.2 j hj
    · exact (h6.2.2.1 : RSt M St st.1 st.2.1).cg (d9 8 (by decide) (by decide) (by decide) (by decide)) (d9 9 (by decide) (by decide) (by decide) (by decide)) (d10 6 (by decide) (by decide) (by decide)) (d10 7 (by decide) (by decide) (by decide))
    · change j < u - 1 at hj
      have := hcp [KB (W s).1 g, KM g'] M1 _ _ _ (h6.2.2.2.2.2.1.2.2.1 j (by show j < u; omega))
      rw [d14 15 (by decide) (by decide), d14 16 (by decide) (by decide)]
      show CpA _ _ _ _ (W (((s + 30) % 31 + 31 - (u - 1) + j) % 31))
      rw [show ((s + 30) % 31 + 31 - (u - 1) + j) % 31 = (s + 31 - u + j) % 31 by omega]
      exact this
    · change j < f + 1 at hj
      show CpA _ _ _ _ (W (((s + 30) % 31 + (f + 1) - j) % 31))
      rw [d12, d13]
      by_cases ej : j = f
      · subst ej
        rw [va_up_same, va_up_same, show ((s + 30) % 31 + (j + 1) - j) % 31 = s by omega]
        refine ⟨(hG A1 M B1).length, (hG A1 M B1).length + 1, g, g', rfl, rfl, hG_at0 hll, ?_, ⟨if_neg (by omega), if_neg (by omega), by omega, by omega⟩, d2, d3⟩
        have := hG_at0 (A := A1) (B := B1 ++ [KB (W s).1 g]) (K := []) (M := M1) (x := KM g') (r := (hG A1 M B1).length + 1) (by rw [hll]; simp only [List.length_append, List.length_cons, List.length_nil]; omega)
        rw [List.append_assoc] at this
        exact this
      · have := hcp [KB (W s).1 g, KM g'] M1 _ _ _ (h6.2.2.2.2.2.1.2.2.2 j (by show j < f; omega))
        rw [show ∀ y, va_up ((mI M 0 0).2.2.2 18) f y j = M.2.2.2 18 j from fun y => if_neg ej, show ∀ y, va_up ((mI M 0 0).2.2.2 19) f y j = M.2.2.2 19 j from fun y => if_neg ej, show ((s + 30) % 31 + (f + 1) - j) % 31 = (s + f - j) % 31 by omega]
        exact this
    · rw [d14 22 (by decide) (by decide), d14 23 (by decide) (by decide)]
      exact ⟨(h6.2.2.2.2.2.2.1 j hj).1, fun hk => hcp _ _ _ _ _ ((h6.2.2.2.2.2.2.1 j hj).2 hk)⟩
