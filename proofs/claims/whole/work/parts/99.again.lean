/-! again -/
theorem A_again (x : Int32) : ∀ S, SA S → ∃ S1 r, SA S1 ∧ C6 S S1 r (fun G => fX6_again G 0 x) ∧ R7 S S1 r (fun A M B => fX7_again A M B x) ∧ tsOf S1 ≤ tsOf S := by
  rintro ⟨⟨T, St, kd⟩, ⟨tx, ts, tb⟩, ro, st, ⟨s, u, f⟩, ke, W⟩ hS
  obtain ⟨⟨hv, ht⟩, hs, huf, hst⟩ := hS.cur
  have hSm := hS
  obtain ⟨s1, s2, s3, s4, s5, s6, s7⟩ := hSm
  by_cases e : ∃ j, j < 3 ∧ x = nn j
  · obtain ⟨j, hj, rfl⟩ := e
    obtain ⟨t1, t2, t3⟩ := s6 j hj
    have hin : fX7_in (nn j).toInt64 (0 : Int64) (2 : Int64) = some (nn 1) := by rw [in_lit (lo := 0) (hi := 2) (by omega) rfl rfl, if_pos (by omega)]
    by_cases e1 : kd j = 1
    · obtain ⟨hV, hk⟩ := t3 e1
      obtain ⟨r, hr⟩ : ∃ r, ke.1 j = some r := by
        cases h : ke.1 j with
        | none => exact absurd h hk
        | some r => exact ⟨r, rfl⟩
      have hzV := hV.2.1
      have hlenV := len_le_sz (okP_wf hV.1)
      have hWn : ∀ i, i ≠ s → va_up W s (W (31 + j)) i = W i := fun i hi => if_neg hi
      refine ⟨((T, St, kd), (tx, ts, -1), ro, st, (s, 0, 0), ke, va_up W s (W (31 + j))), 1, ?_, ?_, ?_, Nat.le_refl _⟩
      · refine ⟨s1, s2, s3, ⟨hs, by show 0 + 0 ≤ 30; omega⟩, fun i hi hw => ?_, fun i hi => ?_, fun h => by cases h⟩
        · change (i + 31 - s) % 31 ≤ 0 ∨ (s + 31 - i) % 31 ≤ 0 at hw
          have : i = s := by omega
          subst this
          rw [va_up_same]
          exact hV
        · rw [hWn (31 + i) (by omega)]
          exact s6 i hi
      · rintro G c n ⟨bu, old, lv, pg, qg, sc, h1, h2, h3⟩
        show ok (fX6_again G 0 (nn j)) _
        unfold fX6_again
        refine ifn (by rw [nn_neg (by omega)]; exact id) ?_
        refine ifn (by rw [q3, nn_le (by omega) (by omega)]; omega) ?_
        refine sa1 h1.1.r0_6 ?_
        refine sa1 (aR_at h1.1.g9 hj (by omega)) ?_
        refine ifn (by rw [t1, e1]; decide) ?_
        refine sa1 h1.1.r0_5 ?_
        refine sa1 (qR_at h1.1.g8 hj (by omega)) ?_
        rw [hr]
        show ok (ob1 (frf G 0 6 4) _) _
        refine sa1 h1.1.r0_4 ?_
        refine sa1 h1.1.io6 ?_
        refine ca2 (current_sp h1 hs) ?_
        rintro r5 G1 ⟨c1, b1, lv1, x1, x2, x3, x4⟩
        have lK : Lf G1 c1 (31 + j + 1) r (b1 (31 + j)) (W (31 + j)).1 (W (31 + j)).2.1 (W (31 + j)).2.2 := by
          have := x2.2.1 (31 + j) (by omega)
          rw [hvf_kept hj, hr] at this
          exact this
        have lS := x2.lf hs x1
        refine sa1 lS.io ?_
        obtain ⟨d, hd⟩ := x2.rm (i := s) (by omega)
        refine ca1 (become_sp lS lK (by omega) (fun k hk => (hV.2.2 k hk).2.2) (by omega) hd) ?_
        rintro G2 ⟨c2, b2, l2, u2⟩
        have hx2 := x2.leaf (i := s) (w := W (31 + j)) (by omega) u2 (by rw [hvf_ring hs]; show LO G2 c2 _ (lv1 s) b2 _; rw [x1]; exact l2)
        refine sa1 hx2.1.r0_4 ?_
        refine sa1 hx2.1.io6 ?_
        refine ca1 (forget_sp hx2) ?_
        rintro G3 ⟨y1, y2⟩
        refine sa1 y1.1.io0 ?_
        refine ca1 (bookIsOther_sp y1) ?_
        rintro G4 ⟨y3, y4⟩
        exact ok_some ⟨rfl, c2, ⟨_, 1, lv1, pg, qg, sc, y3, Nat.le_refl _, fun h => absurd h (by decide)⟩, x3.trans ((u2.1.fo (by omega)).trans (y2.trans y4))⟩
      · intro A M B n Sf hR
        have hR0 := hR.i0
        obtain ⟨c, y2, hcr, h50, hrm, h6, hgo⟩ := hR0.go
        obtain ⟨r1, r2, r3, r4, r5, ⟨r6, r7, r8, r9⟩, r10, r11⟩ := h6
        obtain ⟨a1, a2, q, q', p1, p2, p3, p4, ⟨p5, p6, p7, p8⟩, p9, p10⟩ := (r10 j hj).2 e1
        have c1' : ∀ M' : MS, (hG A M' B)[a1]? = some (.inl (0, (sz (W (31 + j)).1, .inl q))) := fun M' => by
          have := hG_other (K := []) (M := mI M 0 0) (M' := M') y2 (j := a1) (Or.inr (by omega)) (G_lt p3)
          rw [List.append_nil] at this
          rw [this]
          exact p3
        have c2' : ∀ M' : MS, (hG A M' B)[a2]? = some (.inl (0, (16, .inl q'))) := fun M' => by
          have := hG_other (K := []) (M := mI M 0 0) (M' := M') y2 (j := a2) (Or.inr (by omega)) (G_lt p4)
          rw [List.append_nil] at this
          rw [this]
          exact p4
        obtain ⟨M1, b1, b2, b3, b4⟩ := becomes_sp (A := A) (B := B) (M := mI M 0 0) c1' c2' p9 p10 hzV
        obtain ⟨hcp, hfin⟩ := hgo [] (mI (mI (mI M1 17 0) 20 0) 21 (-5)) (Nat.zero_le _) (Nat.zero_le _)
        refine ⟨mI (mI (mI M1 17 0) 20 0) 21 (-5), [], ?_, hfin _ ⟨⟨fun i hi => ?_, ?_⟩, ⟨?_, fun i hi => ?_⟩, ?_, ?_, ?_, ⟨rfl, rfl, fun i hi => ?_, fun i hi => ?_⟩, fun i hi => ?_, Or.inl ⟨rfl, rfl⟩⟩⟩
        · show fX7_again A M B (nn j) = _
          unfold fX7_again
          rw [zlt, hin, ob1_some, if_neg (by decide), rd_nn hj (by omega), ob1_some, p1, if_neg (by simp), ob1_some, ob1_some, rd_nn hj (by omega), ob1_some, p2, ob1_some, b1, ob2_some]
          unfold fX7_forgetsEdits
          rw [zlt, zlt, zlt, ob1_some, List.append_nil]
        · show M1.2.1 3 i = _
          rw [b4.2.1 3 (by decide) (by decide) (by decide)]
          exact r1.1 i hi
        · show M1.1 4 = _
          rw [b4.1 4 (by decide)]
          exact r1.2
        · show M1.1 1 = _
          rw [b4.1 1 (by decide)]
          exact r2.1
        · show M1.2.2.1 i = _
          rw [b4.2.2]
          exact r2.2 i hi
        · exact r3.cg (b4.1 8 (by decide)) (b4.1 9 (by decide)) (b4.2.1 6 (by decide) (by decide) (by decide)) (b4.2.1 7 (by decide) (by decide) (by decide))
        · show RBk _ (va_up W s (W (31 + j)) s).1
          rw [va_up_same]
          exact b2.cg rfl rfl
        · show RMk _ (va_up W s (W (31 + j)) s)
          rw [va_up_same]
          exact b3
        · exact absurd hi (Nat.not_lt_zero _)
        · exact absurd hi (Nat.not_lt_zero _)
        · show (kd i = 0 → M1.2.2.2 22 i = none) ∧ (kd i = 1 → CpA _ _ (M1.2.2.2 22 i) (M1.2.2.2 23 i) (va_up W s (W (31 + j)) (31 + i)))
          rw [b4.2.2, hWn (31 + i) (by omega)]
          exact ⟨(r10 i hi).1, fun h => hcp _ _ _ ((r10 i hi).2 h)⟩
    · have e0 : kd j = 0 := by omega
      refine ⟨_, 0, hS, ?_, R7.ret0 ?_, Nat.le_refl _⟩
      · rintro G c n ⟨bu, old, lv, pg, qg, sc, h1, h2, h3⟩
        show ok (fX6_again G 0 (nn j)) _
        unfold fX6_again
        refine ifn (by rw [nn_neg (by omega)]; exact id) ?_
        refine ifn (by rw [q3, nn_le (by omega) (by omega)]; omega) ?_
        refine sa1 h1.1.r0_6 ?_
        refine sa1 (aR_at h1.1.g9 hj (by omega)) ?_
        refine ift (by rw [t1, e0]; rfl) ?_
        exact ok_some ⟨rfl, c, ⟨bu, old, lv, pg, qg, sc, h1, h2, h3⟩, Fo.refl _ _⟩
      · intro A M B n Sf hR
        obtain ⟨c, h6, -⟩ := hR.go0
        obtain ⟨r1, r2, r3, r4, r5, r6, r10, r11⟩ := h6
        show fX7_again A M B (nn j) = _
        unfold fX7_again
        rw [zlt, hin, ob1_some, if_neg (by decide), rd_nn hj (by omega), ob1_some, (r10 j hj).1 e0, if_pos rfl]
  · refine ⟨_, 0, hS, ?_, R7.ret0 ?_, Nat.le_refl _⟩
    · intro G c n h
      show ok (fX6_again G 0 x) _
      unfold fX6_again
      rcases nn_or x with hx | ⟨p, hp, rfl⟩
      · refine ift hx ?_
        exact C6.ret h
      · refine ifn (by rw [nn_neg hp]; exact id) ?_
        refine ift (by rw [q3, nn_le (by omega) hp]; exact Nat.le_of_not_lt (fun h => e ⟨p, h, rfl⟩)) ?_
        exact C6.ret h
    · intro A M B n Sf hR
      show fX7_again A M B x = _
      unfold fX7_again
      have hin : fX7_in x.toInt64 (0 : Int64) (2 : Int64) = some (nn 0) := by
        rcases nn_or x with hx | ⟨p, hp, rfl⟩
        · exact in_litn (lo := 0) hx rfl
        · rw [in_lit (lo := 0) (hi := 2) hp rfl rfl, if_neg (fun h => e ⟨p, by omega, rfl⟩)]
      rw [zlt, hin, ob1_some, if_pos z0]
theorem op_again : Op_again Inv := by
  intro k G x hI
  exact op_act (f6 := fun G => fX6_again G 0 x) (f7 := fun A M B => fX7_again A M B x) hI (A_again x)
