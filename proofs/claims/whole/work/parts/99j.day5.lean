/-! day -/
theorem RS.free {T St kd : Nat → Nat} {tx : Nat → Int32} {ts : Nat} {tb : Int32} {ro : TR} {st : TS} {s u f : Nat} {ke : TK} {W : Nat → LVa} {A B : zH} {M M1 : MS} {n : Nat} {Sf : SS} (hR : RS A M B n Sf ((T, St, kd), (tx, ts, tb), ro, st, (s, u, f), ke, W)) (hi : ∀ j, j ≠ 29 → j ≠ 30 → M1.1 j = M.1 j) (ha : ∀ j, j < 25 ∨ 28 < j → M1.2.1 j = M.2.1 j) (h2 : M1.2.2 = M.2.2) : RS A M1 B n Sf ((T, St, kd), (tx, ts, tb), ro, st, (s, u, f), ke, W) := by
  have hR' := hR
  obtain ⟨c, h6, -⟩ := hR'.go0
  obtain ⟨r1, r2, -⟩ := h6
  refine hR.q ⟨⟨hi 8 (by decide) (by decide), hi 9 (by decide) (by decide), hi 11 (by decide) (by decide), hi 17 (by decide) (by decide), hi 20 (by decide) (by decide), hi 21 (by decide) (by decide)⟩, ⟨ha 3 (by omega), ha 6 (by omega), ha 7 (by omega), ha 10 (by omega), ha 12 (by omega), ha 13 (by omega)⟩, by rw [h2]⟩ (hi 4 (by decide) (by decide)) ⟨(hi 1 (by decide) (by decide)).trans r2.1, fun j hj => ?_⟩
  rw [h2]
  exact r2.2 j hj
theorem fin_day {na i w : Nat} (hi : i ≤ 80) (hna : na ≤ 80) (hw : w = if na ≤ i then 0 else 1) : ∀ S, SA S → ∃ S1, SA S1 ∧ tsOf S1 = tsOf S ∧ (∀ G c n, CS G c n S → ok (fX6_day_b79 G 0 (nn i) (nn w)) fun z => z.1 = nn i ∧ ∃ c1, CS z.2 c1 n S1 ∧ Fo G c z.2 c1) ∧ ∀ A M B n Sf, RS A M B n Sf S → M.1 29 = nn na → ∃ M1, fX7_day_b69 A M B (nn i) = some (nn i, M1, B) ∧ RS A M1 B n Sf S1 := by
  rintro ⟨⟨T, St, kd⟩, ⟨tx, ts, tb⟩, ro, st, ⟨s, u, f⟩, ke, W⟩ hS
  obtain ⟨⟨hv, ht⟩, hs, huf, hst⟩ := hS.cur
  refine ⟨((T, St, kd), (tx, ts, tb), (2, vp_updL (vp_updL ro.2 0 (nn w).toInt64) 1 (nn (sz (W s).1)).toInt64), st, (s, u, f), ke, W), hS.ro (by show 2 ≤ 16; omega), rfl, ?_, ?_⟩
  · rintro G c n ⟨bu, old, lv, pg, qg, sc, h1, h2, h3⟩
    unfold fX6_day_b79
    refine sa1 h1.1.r0_2 ?_
    refine sa1 h1.1.r0_4 ?_
    refine sa1 h1.1.io6 ?_
    refine ca2 (current_sp h1 hs) ?_
    rintro r G1 ⟨c1, b1, lv1, x1, x2, x3, x4⟩
    refine sa1 (x2.lf hs x1).n3 ?_
    refine sa1 x2.1.io2 ?_
    refine ca1 (tell2_sp x2.1 x2.2.2.1 0 _ _) ?_
    rintro G2 ⟨y1, y2⟩
    exact ok_some ⟨rfl, c1, ⟨b1, old, lv1, pg, qg, sc, x2.fx y1 y2 rfl rfl, h2, h3⟩, x3.trans (y2.1.fo (by omega))⟩
  · intro A M B n Sf hR h29
    obtain ⟨r3, r4, -⟩ := hR.cur
    have h29' : (mI M 1 0).1 29 = nn na := h29
    have h11 : (tl1 M (nn w).toInt64).1 11 = nn (sz (W s).1) := r4.1
    have b88 : fX7_day_b88 A (mI M 1 0) B (nn i) (nn w) = some (nn i, tl2 M (nn w).toInt64 (nn (sz (W s).1)).toInt64, B) := by
      unfold fX7_day_b88
      rw [flag_nn (by rw [hw]; split <;> omega), ob1_some, tl1_sp, ob1_some, h11, tl2_sp, ob1_some]
    refine ⟨tl2 M (nn w).toInt64 (nn (sz (W s).1)).toInt64, ?_, hR.q ((Mq.refl _).en _ _ |>.en _ _) rfl (RRo.tl2 M ro.2 _ _)⟩
    unfold fX7_day_b69
    rw [zlt, h29', if_le (by omega) (by omega)]
    by_cases e : na ≤ i
    · rw [if_pos e] at hw ⊢
      rw [hw] at b88
      rw [hw]
      exact b88
    · rw [if_neg e] at hw ⊢
      rw [hw] at b88
      rw [hw]
      exact b88
theorem day_loop {T : Nat → Nat} {m na : Nat} (hm : m ≤ 80) (hpos : pos T na = m) (hv : ∀ j, j < na → vA T m (pos T j) ∧ pos T j < m) (hna : na ≤ 80) : ∀ q i S, i + q = na → SA S → S.1.1 = T → ∃ S1 d, SA S1 ∧ tsOf S1 ≤ tsOf S ∧ (∀ G c n fu, CS G c n S → q + 2 < fu → ok (fX6_day_b28 fu G 0 (nn m) (nn i) (nn 0) (nn (pos T i))) fun z => z.1 = d ∧ ∃ c1, CS z.2 c1 n S1 ∧ Fo G c z.2 c1) ∧ ∀ A M B n Sf fu, RS A M B (n + 3016 * q) Sf S → M.1 29 = nn na → (∀ j, j < na → AR M T j (pos T j)) → q < fu → ∃ M1 K, fX7_day_b47 A fu M B (nn i) = some (d, M1, B ++ K) ∧ RS A M1 (B ++ K) n Sf S1 := by
  intro q
  induction q with
  | zero =>
    intro i S hiq hS hT
    have hi : i = na := by omega
    obtain ⟨S1, k1, k2, k3, k4⟩ := fin_day (na := na) (i := i) (w := 0) (by omega) hna (by rw [if_pos (by omega)]) S hS
    refine ⟨S1, nn i, k1, by omega, ?_, ?_⟩
    · intro G c n fu hC hfu
      obtain ⟨fu', rfl⟩ : ∃ fu', fu = fu' + 1 := ⟨fu - 1, by omega⟩
      unfold fX6_day_b28
      refine ift (by rw [hi, hpos, nn_le (by omega) (by omega)]; omega) ?_
      exact k3 G c n hC
    · intro A M B n Sf fu hR h29 hA hfu
      obtain ⟨fu', rfl⟩ : ∃ fu', fu = fu' + 1 := ⟨fu - 1, by omega⟩
      obtain ⟨M1, d1, d2⟩ := k4 A M B _ Sf hR h29
      refine ⟨M1, [], ?_, ?_⟩
      · unfold fX7_day_b47
        rw [h29, if_le (by omega) (by omega), if_pos (by omega), List.append_nil]
        exact d1
      · rw [List.append_nil]
        exact d2.less (by omega)
  | succ q ih =>
    intro i S hiq hS hT
    obtain ⟨v1, hlt⟩ := hv i (by omega)
    have hp80 : pos T i < 80 := by omega
    obtain ⟨S1, r, k1, k2, k3, k4⟩ := act_do hm hlt v1 S hS hT
    have hT1 : S1.1.1 = T := k4.1.trans hT
    have htsle : tsOf S1 ≤ tsOf S := k4.2.2
    have hL1 := v1.1
    have hb57 : ∀ (G : zH) (c : Nat → Nat) (n : Nat) (K28 : zH → Nat → Int32 → Int32 → Int32 → Int32 → Option (Int32 × zH)) (x3 x4 : Int32), CS G c n S1 → fX6_day_b57 K28 G 0 (nn m) x3 x4 (nn (pos T i)) = K28 G 0 (nn m) x3 x4 (nn (pos T (i + 1))) := by
      intro G c n K28 x3 x4 hC
      obtain ⟨⟨T1, St, kd⟩, ⟨tx, ts, tb⟩, ro, st, ⟨s, u, f⟩, ke, W⟩ := S1
      change T1 = T at hT1
      subst hT1
      obtain ⟨bu, old, lv, pg, qg, sc, h1, h2, h3⟩ := hC
      obtain ⟨t1, t2⟩ := k1.1 (pos T1 i) hp80
      change tx (pos T1 i) = _ at t1
      have hll := lenA_le (T1 (pos T1 i)) (by omega)
      unfold fX6_day_b57
      rw [h1.1.r0_0, ob1_some, aR_at h1.1.g1 hp80 (by omega), ob1_some]
      show ob1 (fX6_lengthOfAct (tx (pos T1 i))) _ = _
      rw [t1, lenA6 _ (by omega), ob1_some, q1, if_lt (by omega) (by omega), nn_if, nn_add, zlt]
      congr 2
      show _ = pos T1 i + lenA (T1 (pos T1 i))
      split <;> omega
    by_cases hr : r < 0
    · obtain ⟨S2, g1, g2, g3, g4⟩ := fin_day (na := na) (i := i) (w := 1) (by omega) hna (by rw [if_neg (by omega)]) S1 k1
      refine ⟨S2, nn i, g1, by omega, ?_, ?_⟩
      · intro G c n fu hC hfu
        obtain ⟨fu', rfl⟩ : ∃ fu', fu = fu' + 1 := ⟨fu - 1, by omega⟩
        have hio : isO G 0 6 = some () := by
          obtain ⟨⟨T1, St, kd⟩, ⟨tx, ts, tb⟩, ro, st, ⟨s, u, f⟩, ke, W⟩ := S
          obtain ⟨bu, old, lv, pg, qg, sc, h1, -⟩ := hC
          exact h1.1.io0
        unfold fX6_day_b28
        refine ifn (by rw [nn_le (by omega) (by omega)]; omega) ?_
        refine ift rfl ?_
        refine sa1 hio ?_
        refine ca2 (k2 G c n hC) ?_
        rintro v6 G5 ⟨z1, c1, z2, z3⟩
        change v6 = r at z1
        subst z1
        refine ifn (neg_le hr) ?_
        refine ok_of (hb57 G5 c1 n _ _ _ z2) ?_
        obtain ⟨fu'', rfl⟩ : ∃ fu'', fu' = fu'' + 1 := ⟨fu' - 1, by omega⟩
        have hend : ok (fX6_day_b79 G5 0 (nn i) (nn 1)) fun z => z.1 = nn i ∧ ∃ c1, CS z.2 c1 n S2 ∧ Fo G c z.2 c1 := by
          refine ok_imp (g3 G5 c1 n z2) ?_
          rintro z ⟨w1, c2, w2, w3⟩
          exact ⟨w1, c2, w2, z3.trans w3⟩
        unfold fX6_day_b28
        refine ifc (fun _ => hend) (fun _ => ?_)
        refine ifn (by decide) ?_
        exact hend
      · intro A M B n Sf fu hR h29 hA hfu
        obtain ⟨fu', rfl⟩ : ∃ fu', fu = fu' + 1 := ⟨fu - 1, by omega⟩
        rw [show n + 3016 * (q + 1) = (n + 3016 * q) + 3016 by omega] at hR
        obtain ⟨M1, K, d1, d2, d3⟩ := k3 A M B _ Sf i hR (hA i (by omega)) (by omega)
        obtain ⟨M2, e1, e2⟩ := g4 A M1 (B ++ K) _ Sf d2 (d3.1.trans h29)
        refine ⟨M2, K, ?_, e2.less (by omega)⟩
        unfold fX7_day_b47
        rw [h29, if_le (by omega) (by omega), if_neg (by omega), d1, ob3_some, if_pos hr]
        exact e1
    · have hr0 : 0 ≤ r := by
        obtain ⟨a, ha, rfl⟩ := nn_of hr
        rw [q0, nn_le (by omega) ha]
        omega
      obtain ⟨S2, d, g1, g2, g3, g4⟩ := ih (i + 1) S1 (by omega) k1 hT1
      refine ⟨S2, d, g1, by omega, ?_, ?_⟩
      · intro G c n fu hC hfu
        obtain ⟨fu', rfl⟩ : ∃ fu', fu = fu' + 1 := ⟨fu - 1, by omega⟩
        have hio : isO G 0 6 = some () := by
          obtain ⟨⟨T1, St, kd⟩, ⟨tx, ts, tb⟩, ro, st, ⟨s, u, f⟩, ke, W⟩ := S
          obtain ⟨bu, old, lv, pg, qg, sc, h1, -⟩ := hC
          exact h1.1.io0
        unfold fX6_day_b28
        refine ifn (by rw [nn_le (by omega) (by omega)]; omega) ?_
        refine ift rfl ?_
        refine sa1 hio ?_
        refine ca2 (k2 G c n hC) ?_
        rintro v6 G5 ⟨z1, c1, z2, z3⟩
        change v6 = r at z1
        subst z1
        refine ift hr0 ?_
        rw [q1, nn_add]
        refine zl ?_
        refine ok_of (hb57 G5 c1 n _ _ _ z2) ?_
        refine ok_imp (g3 G5 c1 n fu' z2 (by omega)) ?_
        rintro z ⟨w1, c2, w2, w3⟩
        exact ⟨w1, c2, w2, z3.trans w3⟩
      · intro A M B n Sf fu hR h29 hA hfu
        obtain ⟨fu', rfl⟩ : ∃ fu', fu = fu' + 1 := ⟨fu - 1, by omega⟩
        rw [show n + 3016 * (q + 1) = (n + 3016 * q) + 3016 by omega] at hR
        obtain ⟨M1, K, d1, d2, d3⟩ := k3 A M B _ Sf i hR (hA i (by omega)) (by omega)
        obtain ⟨M2, K2, e1, e2⟩ := g4 A M1 (B ++ K) n Sf fu' d2 (d3.1.trans h29) (fun j hj => (hA j hj).cg (fun k k1 k2 => by rw [d3.2 k k1 k2])) (by omega)
        refine ⟨M2, K ++ K2, ?_, ?_⟩
        · unfold fX7_day_b47
          rw [h29, if_le (by omega) (by omega), if_neg (by omega), d1, ob3_some, if_neg hr, q1, nn_add, zlt, e1, List.append_assoc]
        · rw [← List.append_assoc]
          exact e2
theorem op_act3 {f6 : zH → Option (Int32 × zH)} {f7 : zH → MS → zH → Option (Int32 × MS × zH)} {k : Nat} {G : zH} (hI : Inv (k + 1) G) (H : ∀ S, SA S → ∃ S1 r, SA S1 ∧ C6 S S1 r f6 ∧ (∀ A M B n Sf, RS A M B (n + 3016 * (4 + tsOf S)) Sf S → ∃ M1 K, f7 A M B = some (r, M1, B ++ K) ∧ RS A M1 (B ++ K) n Sf S1) ∧ tsOf S1 = 0) : ∃ (r : Int32) (G1 A : zH) (M : MS) (B : zH) (M1 : MS) (B1 : zH), f6 G = some (r, G1) ∧ G1 = hG A M B ∧ A.length = 27 ∧ f7 A M B = some (r, M1, B1) ∧ Inv k (hG A M1 B1) := by
  obtain ⟨c, bu, a, ro, st, ⟨s, u, f, lv⟩, ke, pg, qg, sc, W, M, A, B, T, St, kd, h1, h2, h3, ⟨x, h4⟩, h5, h6⟩ := hI
  obtain ⟨S1, r, hS1, hC, hR, hts⟩ := H ((T, St, kd), (a.1, a.2.1, a.2.2.2), ro, st, (s, u, f), ke, W) ⟨h5.1, ⟨h5.2.1.1, by show 1 ≤ 1; omega, h5.2.1.2.2⟩, h5.2.2.1, h5.2.2.2.1, h5.2.2.2.2.1, h5.2.2.2.2.2.1, fun e => by cases e⟩
  obtain ⟨⟨r', G1⟩, e6, hr, c1, x1, x2⟩ := hC G c _ ⟨bu, a.2.2.1, lv, pg, qg, sc, h1, h5.2.1.2.1, h5.2.2.2.2.2.2⟩
  change r' = r at hr
  subst hr
  have x2' := x2
  rw [h2] at x2'
  obtain ⟨A1, B1, e1, e2⟩ := fo_hG h3 x2' h1.2.2.2.1
  change G1 = hG A1 M B1 at e1
  have hcp : ∀ {q q' : Option Nat} {v : LVa}, CpA G c q q' v → CpA (hG A1 M B1) c1 q q' v := by
    intro q q' v h
    have := h.fo x2
    rw [← e1]
    exact this
  obtain ⟨r1, r2, r3, r4, r5, ⟨r6, r7, r8, r9⟩, r10, r11⟩ := h6
  have hx1 : (hG A1 M B1)[49]? = some (.inl (1, (1, .inr (.inl x)))) := by
    rw [← e1]
    exact (x2.2.2 49 (G_lt h4) (h1.2.2.2.1 49 (by omega) (by omega))).trans h4
  have x1' : CS (hG A1 M B1) c1 (3016 * (4 * (k + 1) + a.2.1)) S1 := by rw [← e1]; exact x1
  have hRS : RS A1 M B1 (3016 * (4 * (k + 1) + a.2.1)) S1 ((T, St, kd), (a.1, a.2.1, a.2.2.2), ro, st, (s, u, f), ke, W) := ⟨c1, e2, x1', ⟨x, hx1⟩, r1, r2, r3, r4, r5, ⟨r6, r7, fun j hj => hcp (r8 j hj), fun j hj => hcp (r9 j hj)⟩, fun j hj => ⟨(r10 j hj).1, fun e => hcp ((r10 j hj).2 e)⟩, r11⟩
  rw [show 3016 * (4 * (k + 1) + a.2.1) = 3016 * (4 * k) + 3016 * (4 + a.2.1) by omega] at hRS
  obtain ⟨M1, K, e7, hR1⟩ := hR A1 M B1 _ S1 hRS
  exact ⟨r', G1, A1, M, B1, M1, B1 ++ K, e6, e1, e2, e7, hR1.fin hS1 (by rw [hts]; omega)⟩
theorem A_day : ∀ S, SA S → ∃ S1 r, SA S1 ∧ C6 S S1 r (fun G => fX6_day G 0) ∧ (∀ A M B n Sf, RS A M B (n + 3016 * (4 + tsOf S)) Sf S → ∃ M1 K, fX7_day A M B = some (r, M1, B ++ K) ∧ RS A M1 (B ++ K) n Sf S1) ∧ tsOf S1 = 0 := by
  rintro ⟨⟨T, St, kd⟩, ⟨tx, ts, tb⟩, ro, st, ⟨s, u, f⟩, ke, W⟩ hS
  have hts : ts ≤ 80 := hS.2.1.1
  have hS0 := S_emp hS
  have c6 : ∀ G c n (Q : Int32 × zH → Prop) (v7 : Int32), CS G c n ((T, St, kd), (tx, ts, tb), ro, st, (s, u, f), ke, W) → (∀ (G3 : zH) (a : TA) (hi : TH) (pg qg : TP) (sc : Nat → Int32), FX G3 a ro st hi ke pg qg sc → a.1 = tx → fX6_faultOfDay G3 0 (nn ts) = some v7) → (∀ G3, CS G3 c n ((T, St, kd), (tx, 0, tb), ro, st, (s, u, f), ke, W) → Fo G c G3 c → ok (if v7 = (-1 : Int32) then (fX6_day_b28 FU G3 0 (nn ts) (0 : Int32) (0 : Int32) (0 : Int32)) else some (((-1 : Int32) - v7), G3)) Q) → ok (fX6_day G 0) Q := by
    rintro G c n Q v7 ⟨bu, old, lv, pg, qg, sc, h1, h2, h3⟩ hflt HH
    unfold fX6_day
    refine sa1 h1.1.io0 ?_
    refine ca2 (readText6 h1) ?_
    rintro v4 G3 ⟨hv, x1, x2⟩
    change v4 = nn ts at hv
    subst hv
    refine sa1 x1.1.io0 ?_
    refine sa1 (hflt G3 _ _ _ _ _ x1.1 rfl) ?_
    exact HH G3 ⟨bu, old, lv, pg, qg, sc, x1, h2, h3⟩ x2
  have r7 : ∀ A M B n Sf, RS A M B n Sf ((T, St, kd), (tx, ts, tb), ro, st, (s, u, f), ke, W) → ∃ M5, fX7_day A M B = fX7_day_b20 A FU M5 B ∧ RS A M5 B n Sf ((T, St, kd), (tx, 0, tb), ro, st, (s, u, f), ke, W) ∧ M5.1 5 = nn ts ∧ M5.1 29 = nn 0 ∧ M5.1 30 = nn 0 := by
    intro A M B n Sf hR
    obtain ⟨a1, a2, a3⟩ := R_emp hR
    refine ⟨mI (mI (emp M) 29 0) 30 0, ?_, a3.free (fun j h1 h2 => (upd_ne _ _ h2).trans (upd_ne _ _ h1)) (fun _ _ => rfl) rfl, a2, rfl, rfl⟩
    unfold fX7_day
    rw [zlt, a1, ob2_some, zlt, zlt]
  rcases parse (T := T) (m := ts) with ⟨na, hpos, hv⟩ | ⟨na, F, hv, hlt, hn⟩
  · have hna : na ≤ 80 := by
      have := pos_ge na (fun j hj => (hv j hj).1)
      omega
    obtain ⟨S1, d, g1, g2, g3, g4⟩ := day_loop hts hpos hv hna na 0 _ (by omega) hS0 rfl
    have htz : tsOf S1 = 0 := Nat.le_zero.mp g2
    refine ⟨S1, d, g1, ?_, ?_, htz⟩
    · intro G c n hC
      refine c6 G c n _ (-1) hC ?_ ?_
      · intro G3 a hi pg qg sc hx ha
        obtain ⟨fu, f1, f2⟩ := flt_all hx (fun i hi' => by rw [ha]; exact hS.1 i hi') hts hv hna
        obtain ⟨fu', rfl⟩ : ∃ fu', fu = fu' + 1 := ⟨fu - 1, by omega⟩
        rw [f2, fX6_faultOfDay_b2, if_le (by omega) (by omega), if_pos (by omega)]
      · intro G3 z1 z2
        refine ift rfl ?_
        refine ok_imp (g3 G3 c n FU z1 (by rw [FU_eq]; omega)) ?_
        rintro z ⟨w1, c2, w2, w3⟩
        exact ⟨w1, c2, w2, z2.trans w3⟩
    · intro A M B n Sf hR
      change RS A M B (n + 3016 * (4 + ts)) Sf _ at hR
      obtain ⟨M5, e1, hR5, h5, h29, h30⟩ := r7 A M B _ Sf hR
      obtain ⟨M6, fu, f1, f2, f3⟩ := read_all (A := A) (B := B) h5 (R_tx hR5 hS0) hts h29 h30 hv hna
      have hR6 := hR5.free f2.2.2.2.1 f2.2.2.2.2.1 f2.2.2.2.2.2
      have hle : na ≤ ts := by
        have := pos_ge na (fun j hj => (hv j hj).1)
        omega
      obtain ⟨M7, K, d1, d2⟩ := g4 A M6 B n Sf FU (hR6.less (show n + 3016 * na ≤ n + 3016 * (4 + ts) by omega)) f2.1 f2.2.2.1 (by rw [FU_eq]; omega)
      refine ⟨M7, K, ?_, d2⟩
      obtain ⟨fu', rfl⟩ : ∃ fu', fu = fu' + 1 := ⟨fu - 1, by omega⟩
      rw [e1, f3, fX7_day_b20, (f2.2.2.2.1 5 (by decide) (by decide)).trans h5, f2.2.1, if_le (by omega) (by omega), if_pos (by omega)]
      exact d1
  · have hna : na ≤ 80 := by
      have := pos_ge na (fun j hj => (hv j hj).1)
      omega
    have hF80 : F ≤ 80 := by
      rcases hn with ⟨n1, n2⟩ | ⟨n1, k, n2, n3, n4, n5, n6⟩
      · omega
      · by_cases e1 : k = 1
        · omega
        · have := (n5 (k - 1) (by omega) (by omega)).1
          omega
    refine ⟨((T, St, kd), (tx, 0, tb), ro, st, (s, u, f), ke, W), -1 - nn F, hS0, ?_, ?_, rfl⟩
    · intro G c n hC
      refine c6 G c n _ (nn F) hC ?_ ?_
      · intro G3 a hi pg qg sc hx ha
        have hT3 : ∀ i, i < 80 → a.1 i = nn (T i) ∧ T i ≤ 255 := fun i hi' => by rw [ha]; exact hS.1 i hi'
        obtain ⟨fu, f1, f2⟩ := flt_all hx hT3 hts hv hna
        obtain ⟨fu', rfl⟩ : ∃ fu', fu = fu' + 1 := ⟨fu - 1, by omega⟩
        rw [f2]
        exact flt_no hx hT3 hts hlt hn fu'
      · intro G3 z1 z2
        refine ifn (nn_ne_m1 (by omega)) ?_
        exact ok_some ⟨rfl, c, z1, z2⟩
    · intro A M B n Sf hR
      change RS A M B (n + 3016 * (4 + ts)) Sf _ at hR
      obtain ⟨M5, e1, hR5, h5, h29, h30⟩ := r7 A M B _ Sf hR
      have hT5 := R_tx hR5 hS0
      obtain ⟨M6, fu, f1, f2, f3⟩ := read_all (A := A) (B := B) h5 hT5 hts h29 h30 hv hna
      have hR6 := hR5.free f2.2.2.2.1 f2.2.2.2.2.1 f2.2.2.2.2.2
      have hn80 : na < 80 := by
        have := pos_ge na (fun j hj => (hv j hj).1)
        omega
      obtain ⟨M7, r1, r2, r3, r4⟩ := rA_no ((f2.2.2.2.1 5 (by decide) (by decide)).trans h5) (fun j hj => by rw [f2.2.2.2.2.1 3 (by omega)]; exact hT5 j hj) hts f2.2.1 f2.1 hn80 hlt hn
      refine ⟨M7, [], ?_, ?_⟩
      · obtain ⟨fu', rfl⟩ : ∃ fu', fu = fu' + 1 := ⟨fu - 1, by omega⟩
        rw [e1, f3, fX7_day_b20, (f2.2.2.2.1 5 (by decide) (by decide)).trans h5, f2.2.1, if_le (by omega) (by omega), if_neg (by omega), r1, ob2_some, if_pos z0]
        unfold fX7_day_b38
        rw [r3, List.append_nil]
      · rw [List.append_nil]
        exact (hR6.free r2.1 r2.2.1 r2.2.2.2).less (by omega)
theorem op_day : Op_day Inv := by
  intro k G hI
  exact op_act3 (f6 := fun G => fX6_day G 0) (f7 := fun A M B => fX7_day A M B) hI A_day
