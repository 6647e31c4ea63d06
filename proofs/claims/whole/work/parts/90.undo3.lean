/-! undo, redo, by both sides -/
theorem A_undo : AF (fun G => fX6_undo G 0) (fun A M B => fX7_undoes A M B) := by
  rintro ⟨⟨T, St, kd⟩, ⟨tx, ts, tb⟩, ro, st, ⟨s, u, f⟩, ke, W⟩ hS
  obtain ⟨⟨hv, ht⟩, hs, huf, hst⟩ := hS.cur
  by_cases e : u = 0
  · refine ⟨_, -1, hS, ?_, R7f.ret ?_, ⟨rfl, rfl, Nat.le_refl _⟩⟩
    · rintro G c n ⟨bu, old, lv, pg, qg, sc, h1, h2, h3⟩
      show ok (fX6_undo G 0) _
      unfold fX6_undo
      refine sa1 h1.1.r0_4 ?_
      refine sa1 (fi_at (v := nn u) h1.1.g6 rfl) ?_
      refine ifn (by rw [q1, nn_le (by omega) (by omega)]; omega) ?_
      exact C6.ret ⟨bu, old, lv, pg, qg, sc, h1, h2, h3⟩
    · intro A M B n Sf hR
      have h17 := hR.cur.2.2.2.2.2.1
      show fX7_undoes A M B = _
      unfold fX7_undoes
      rw [if_pos (by rw [h17, e]; rfl)]
  · have hSm := hS
    obtain ⟨s1, s2, s3, s4, s5, s6, s7⟩ := hSm
    refine ⟨((T, St, kd), (tx, ts, -1), ro, st, ((s + 30) % 31, u - 1, f + 1), ke, W), nn (u - 1), ?_, ?_, ?_, ⟨rfl, rfl, Nat.le_refl _⟩⟩
    · refine ⟨s1, s2, s3, ⟨by show (s + 30) % 31 < 31; omega, by show u - 1 + (f + 1) ≤ 30; omega⟩, fun i hi hw => ?_, s6, fun h => by cases h⟩
      change (i + 31 - (s + 30) % 31) % 31 ≤ f + 1 ∨ ((s + 30) % 31 + 31 - i) % 31 ≤ u - 1 at hw
      refine s5 i hi ?_
      show (i + 31 - s) % 31 ≤ f ∨ (s + 31 - i) % 31 ≤ u
      omega
    · rintro G c n ⟨bu, old, lv, pg, qg, sc, h1, h2, h3⟩
      show ok (fX6_undo G 0) _
      unfold fX6_undo
      refine sa1 h1.1.r0_4 ?_
      refine sa1 (fi_at (v := nn u) h1.1.g6 rfl) ?_
      refine ift (by rw [q1, nn_le (by omega) (by omega)]; omega) ?_
      refine sa1 h1.1.r0_4 ?_
      refine sa1 h1.1.io6 ?_
      refine ca1 (goBack_sp h1 hs (by omega)) ?_
      rintro G2 ⟨x1, x2⟩
      refine sa1 x1.1.io0 ?_
      refine ca1 (bookIsOther_sp x1) ?_
      rintro G3 ⟨x3, x4⟩
      refine sa1 x3.1.r0_4 ?_
      refine sa1 (fi_at (v := nn (u - 1)) x3.1.g6 rfl) ?_
      exact ok_some ⟨rfl, c, ⟨bu, 1, lv, pg, qg, sc, x3, Nat.le_refl _, fun h => absurd h (by decide)⟩, x2.trans x4⟩
    · intro A M B n Sf hR
      obtain ⟨c, y2, hcr, h50, hrm, h6, hgo⟩ := hR.go
      obtain ⟨r1, r2, r3, r4, r5, ⟨r6, r7, r8, r9⟩, r10, r11⟩ := h6
      have r6' : M.1 17 = nn u := r6
      have r7' : M.1 20 = nn f := r7
      have hidx : (s + 31 - u + (u - 1)) % 31 = (s + 30) % 31 := by omega
      have hcp0 : CpA (hG A M B) c (M.2.2.2 15 (u - 1)) (M.2.2.2 16 (u - 1)) (W ((s + 31 - u + (u - 1)) % 31)) := r8 (u - 1) (by show u - 1 < u; omega)
      rw [hidx] at hcp0
      obtain ⟨a1, a2, q, q', p1, p2, p3, p4, ⟨p5, p6, p7, p8⟩, p9, p10⟩ := hcp0
      have hok := s5 ((s + 30) % 31) (by omega) (Or.inr (by show (s + 31 - (s + 30) % 31) % 31 ≤ u; omega))
      have hr1 : zs (hG A M B) + (n + 3016) ≤ zKL := hrm.1
      have hr2 : 12 * (hG A M B).length + (n + 3016) ≤ 12 * zGL := hrm.2
      have hll := hG_len A M B
      obtain ⟨M1, g, g', d1, d2, d3, d4, d5, d6, d7, d8, d9, d10, d11, d12, d13, d14⟩ := undoes_sp (A := A) (B := B) (M := M) (v := W s) (w := W ((s + 30) % 31)) r4 r5 r6' r7' (by omega) (by omega) (by omega) p1 p2 (fun M' K => by rw [hG_other (M := M) y2 (Or.inr (by omega)) (G_lt p3)]; exact p3) (fun M' K => by rw [hG_other (M := M) y2 (Or.inr (by omega)) (G_lt p4)]; exact p4) p9 p10 hok.2.1 (by omega) (Nat.le_trans (Nat.add_le_add_left (Nat.le_add_left 3016 n) _) hr1)
      have hzz := hv.2.1
      have hzK : zs [KB (W s).1 g, KM g'] = sz (W s).1 + 16 := by
        show sz (W s).1 + (16 + 0) = _
        omega
      obtain ⟨hcp, hfin⟩ := hgo [KB (W s).1 g, KM g'] M1 (by rw [hzK]; omega) (by show 12 * 2 ≤ 3016; omega)
      refine ⟨M1, _, d1, hfin _ ⟨⟨fun i hi => by rw [d10 3 (by decide) (by decide) (by decide)]; exact r1.1 i hi, (d9 4 (by decide) (by decide) (by decide) (by decide)).trans r1.2⟩, ⟨(d9 1 (by decide) (by decide) (by decide) (by decide)).trans r2.1, fun j hj => by rw [d11]; exact r2.2 j hj⟩, r3.cg (d9 8 (by decide) (by decide) (by decide) (by decide)) (d9 9 (by decide) (by decide) (by decide) (by decide)) (d10 6 (by decide) (by decide) (by decide)) (d10 7 (by decide) (by decide) (by decide)), d4, d5, ⟨d6, d7, fun j hj => ?_, fun j hj => ?_⟩, fun j hj => ?_, Or.inl ⟨rfl, d8⟩⟩, d9 29 (by decide) (by decide) (by decide) (by decide), fun j a b => d10 j (by omega) (by omega) (by omega)⟩
      · change j < u - 1 at hj
        have := hcp _ _ _ (r8 j (by show j < u; omega))
        rw [d14 15 (by decide) (by decide), d14 16 (by decide) (by decide)]
        show CpA _ _ _ _ (W (((s + 30) % 31 + 31 - (u - 1) + j) % 31))
        rw [show ((s + 30) % 31 + 31 - (u - 1) + j) % 31 = (s + 31 - u + j) % 31 by omega]
        exact this
      · change j < f + 1 at hj
        show CpA _ _ _ _ (W (((s + 30) % 31 + (f + 1) - j) % 31))
        rw [d12, d13]
        by_cases ej : j = f
        · subst ej
          rw [va_up_same, va_up_same, show ((s + 30) % 31 + (j + 1) - j) % 31 = s by omega]
          refine ⟨(hG A M B).length, (hG A M B).length + 1, g, g', rfl, rfl, hG_at0 hll, ?_, ⟨if_neg (by omega), if_neg (by omega), by omega, by omega⟩, d2, d3⟩
          have := hG_at0 (A := A) (B := B ++ [KB (W s).1 g]) (K := []) (M := M1) (x := KM g') (r := (hG A M B).length + 1) (by rw [hll]; simp only [List.length_append, List.length_cons, List.length_nil]; omega)
          rw [List.append_assoc] at this
          exact this
        · have := hcp _ _ _ (r9 j (by show j < f; omega))
          rw [show ∀ y, va_up (M.2.2.2 18) f y j = M.2.2.2 18 j from fun y => if_neg ej, show ∀ y, va_up (M.2.2.2 19) f y j = M.2.2.2 19 j from fun y => if_neg ej, show ((s + 30) % 31 + (f + 1) - j) % 31 = (s + f - j) % 31 by omega]
          exact this
      · rw [d14 22 (by decide) (by decide), d14 23 (by decide) (by decide)]
        exact ⟨(r10 j hj).1, fun hk => hcp _ _ _ ((r10 j hj).2 hk)⟩
theorem A_redo : AF (fun G => fX6_redo G 0) (fun A M B => fX7_redoes A M B) := by
  rintro ⟨⟨T, St, kd⟩, ⟨tx, ts, tb⟩, ro, st, ⟨s, u, f⟩, ke, W⟩ hS
  obtain ⟨⟨hv, ht⟩, hs, huf, hst⟩ := hS.cur
  by_cases e : f = 0
  · refine ⟨_, -1, hS, ?_, R7f.ret ?_, ⟨rfl, rfl, Nat.le_refl _⟩⟩
    · rintro G c n ⟨bu, old, lv, pg, qg, sc, h1, h2, h3⟩
      show ok (fX6_redo G 0) _
      unfold fX6_redo
      refine sa1 h1.1.r0_4 ?_
      refine sa1 (fi_at (v := nn f) h1.1.g6 rfl) ?_
      refine ifn (by rw [q1, nn_le (by omega) (by omega)]; omega) ?_
      exact C6.ret ⟨bu, old, lv, pg, qg, sc, h1, h2, h3⟩
    · intro A M B n Sf hR
      have h20 := hR.cur.2.2.2.2.2.2
      show fX7_redoes A M B = _
      unfold fX7_redoes
      rw [if_pos (by rw [h20, e]; rfl)]
  · have hSm := hS
    obtain ⟨s1, s2, s3, s4, s5, s6, s7⟩ := hSm
    refine ⟨((T, St, kd), (tx, ts, -1), ro, st, ((s + 1) % 31, u + 1, f - 1), ke, W), nn (f - 1), ?_, ?_, ?_, ⟨rfl, rfl, Nat.le_refl _⟩⟩
    · refine ⟨s1, s2, s3, ⟨by show (s + 1) % 31 < 31; omega, by show u + 1 + (f - 1) ≤ 30; omega⟩, fun i hi hw => ?_, s6, fun h => by cases h⟩
      change (i + 31 - (s + 1) % 31) % 31 ≤ f - 1 ∨ ((s + 1) % 31 + 31 - i) % 31 ≤ u + 1 at hw
      refine s5 i hi ?_
      show (i + 31 - s) % 31 ≤ f ∨ (s + 31 - i) % 31 ≤ u
      omega
    · rintro G c n ⟨bu, old, lv, pg, qg, sc, h1, h2, h3⟩
      show ok (fX6_redo G 0) _
      unfold fX6_redo
      refine sa1 h1.1.r0_4 ?_
      refine sa1 (fi_at (v := nn f) h1.1.g6 rfl) ?_
      refine ift (by rw [q1, nn_le (by omega) (by omega)]; omega) ?_
      refine sa1 h1.1.r0_4 ?_
      refine sa1 h1.1.io6 ?_
      refine ca1 (goOn1_sp h1 hs (by omega)) ?_
      rintro G2 ⟨x1, x2⟩
      refine sa1 x1.1.io0 ?_
      refine ca1 (bookIsOther_sp x1) ?_
      rintro G3 ⟨x3, x4⟩
      refine sa1 x3.1.r0_4 ?_
      refine sa1 (fi_at (v := nn (f - 1)) x3.1.g6 rfl) ?_
      exact ok_some ⟨rfl, c, ⟨bu, 1, lv, pg, qg, sc, x3, Nat.le_refl _, fun h => absurd h (by decide)⟩, x2.trans x4⟩
    · intro A M B n Sf hR
      obtain ⟨c, y2, hcr, h50, hrm, h6, hgo⟩ := hR.go
      obtain ⟨r1, r2, r3, r4, r5, ⟨r6, r7, r8, r9⟩, r10, r11⟩ := h6
      have r6' : M.1 17 = nn u := r6
      have r7' : M.1 20 = nn f := r7
      have hidx : (s + f - (f - 1)) % 31 = (s + 1) % 31 := by omega
      have hcp0 : CpA (hG A M B) c (M.2.2.2 18 (f - 1)) (M.2.2.2 19 (f - 1)) (W ((s + f - (f - 1)) % 31)) := r9 (f - 1) (by show f - 1 < f; omega)
      rw [hidx] at hcp0
      obtain ⟨a1, a2, q, q', p1, p2, p3, p4, ⟨p5, p6, p7, p8⟩, p9, p10⟩ := hcp0
      have hok := s5 ((s + 1) % 31) (by omega) (Or.inl (by show ((s + 1) % 31 + 31 - s) % 31 ≤ f; omega))
      have hr1 : zs (hG A M B) + (n + 3016) ≤ zKL := hrm.1
      have hr2 : 12 * (hG A M B).length + (n + 3016) ≤ 12 * zGL := hrm.2
      have hll := hG_len A M B
      obtain ⟨M1, g, g', d1, d2, d3, d4, d5, d6, d7, d8, d9, d10, d11, d12, d13, d14⟩ := redoes_sp (A := A) (B := B) (M := M) (v := W s) (w := W ((s + 1) % 31)) r4 r5 r6' r7' (by omega) (by omega) (by omega) p1 p2 (fun M' K => by rw [hG_other (M := M) y2 (Or.inr (by omega)) (G_lt p3)]; exact p3) (fun M' K => by rw [hG_other (M := M) y2 (Or.inr (by omega)) (G_lt p4)]; exact p4) p9 p10 hok.2.1 (by omega) (Nat.le_trans (Nat.add_le_add_left (Nat.le_add_left 3016 n) _) hr1)
      have hzz := hv.2.1
      have hzK : zs [KB (W s).1 g, KM g'] = sz (W s).1 + 16 := by
        show sz (W s).1 + (16 + 0) = _
        omega
      obtain ⟨hcp, hfin⟩ := hgo [KB (W s).1 g, KM g'] M1 (by rw [hzK]; omega) (by show 12 * 2 ≤ 3016; omega)
      refine ⟨M1, _, d1, hfin _ ⟨⟨fun i hi => by rw [d10 3 (by decide) (by decide) (by decide)]; exact r1.1 i hi, (d9 4 (by decide) (by decide) (by decide) (by decide)).trans r1.2⟩, ⟨(d9 1 (by decide) (by decide) (by decide) (by decide)).trans r2.1, fun j hj => by rw [d11]; exact r2.2 j hj⟩, r3.cg (d9 8 (by decide) (by decide) (by decide) (by decide)) (d9 9 (by decide) (by decide) (by decide) (by decide)) (d10 6 (by decide) (by decide) (by decide)) (d10 7 (by decide) (by decide) (by decide)), d4, d5, ⟨d6, d7, fun j hj => ?_, fun j hj => ?_⟩, fun j hj => ?_, Or.inl ⟨rfl, d8⟩⟩, d9 29 (by decide) (by decide) (by decide) (by decide), fun j a b => d10 j (by omega) (by omega) (by omega)⟩
      · change j < u + 1 at hj
        show CpA _ _ _ _ (W (((s + 1) % 31 + 31 - (u + 1) + j) % 31))
        rw [d12, d13]
        by_cases ej : j = u
        · subst ej
          rw [va_up_same, va_up_same, show ((s + 1) % 31 + 31 - (j + 1) + j) % 31 = s by omega]
          refine ⟨(hG A M B).length, (hG A M B).length + 1, g, g', rfl, rfl, hG_at0 hll, ?_, ⟨if_neg (by omega), if_neg (by omega), by omega, by omega⟩, d2, d3⟩
          have := hG_at0 (A := A) (B := B ++ [KB (W s).1 g]) (K := []) (M := M1) (x := KM g') (r := (hG A M B).length + 1) (by rw [hll]; simp only [List.length_append, List.length_cons, List.length_nil]; omega)
          rw [List.append_assoc] at this
          exact this
        · have := hcp _ _ _ (r8 j (by show j < u; omega))
          rw [show ∀ y, va_up (M.2.2.2 15) u y j = M.2.2.2 15 j from fun y => if_neg ej, show ∀ y, va_up (M.2.2.2 16) u y j = M.2.2.2 16 j from fun y => if_neg ej, show ((s + 1) % 31 + 31 - (u + 1) + j) % 31 = (s + 31 - u + j) % 31 by omega]
          exact this
      · change j < f - 1 at hj
        have := hcp _ _ _ (r9 j (by show j < f; omega))
        rw [d14 18 (by decide) (by decide), d14 19 (by decide) (by decide)]
        show CpA _ _ _ _ (W (((s + 1) % 31 + (f - 1) - j) % 31))
        rw [show ((s + 1) % 31 + (f - 1) - j) % 31 = (s + f - j) % 31 by omega]
        exact this
      · rw [d14 22 (by decide) (by decide), d14 23 (by decide) (by decide)]
        exact ⟨(r10 j hj).1, fun hk => hcp _ _ _ ((r10 j hj).2 hk)⟩
theorem op_redo : Op_redo Inv := by
  intro k G hI
  refine op_act (f6 := fun G => fX6_redo G 0) (f7 := fun A M B => fX7_redo A M B) hI (fun S hS => ?_)
  obtain ⟨S1, r, a1, a2, a3, a4⟩ := A_redo S hS
  exact ⟨S1, r, a1, a2, a3.to.i0, a4.2.2⟩
