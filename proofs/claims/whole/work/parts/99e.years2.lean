/-! years -/
theorem op_act2 {f6 : zH → Option (Int32 × zH)} {f7 : zH → MS → zH → Option (Int32 × MS × zH)} {k : Nat} {G : zH} (hI : Inv (k + 1) G) (H : ∀ S, SA S → ∃ (r : Int32) (Rel : SS → Prop), (∀ S1, Rel S1 → SA S1 ∧ R7 S S1 r f7 ∧ tsOf S1 ≤ tsOf S) ∧ ∀ G c n, CS G c (n + 3016) S → ok (f6 G) fun z => z.1 = r ∧ ∃ c1 S1, Rel S1 ∧ CS z.2 c1 n S1 ∧ Fo G c z.2 c1) : ∃ (r : Int32) (G1 A : zH) (M : MS) (B : zH) (M1 : MS) (B1 : zH), f6 G = some (r, G1) ∧ G1 = hG A M B ∧ A.length = 27 ∧ f7 A M B = some (r, M1, B1) ∧ Inv k (hG A M1 B1) := by
  obtain ⟨c, bu, a, ro, st, ⟨s, u, f, lv⟩, ke, pg, qg, sc, W, M, A, B, T, St, kd, h1, h2, h3, ⟨x, h4⟩, h5, h6⟩ := hI
  obtain ⟨r, Rel, hrel, hC⟩ := H ((T, St, kd), (a.1, a.2.1, a.2.2.2), ro, st, (s, u, f), ke, W) ⟨h5.1, ⟨h5.2.1.1, by show 1 ≤ 1; omega, h5.2.1.2.2⟩, h5.2.2.1, h5.2.2.2.1, h5.2.2.2.2.1, h5.2.2.2.2.2.1, fun e => by cases e⟩
  obtain ⟨⟨r', G1⟩, e6, hr, c1, S1, hS1, x1, x2⟩ := hC G c (3016 * (4 * k + a.2.1 + 3)) ⟨bu, a.2.2.1, lv, pg, qg, sc, by rw [show 3016 * (4 * k + a.2.1 + 3) + 3016 = 3016 * (4 * (k + 1) + a.2.1) by omega]; exact h1, h5.2.1.2.1, h5.2.2.2.2.2.2⟩
  obtain ⟨g1, g2, g3⟩ := hrel S1 hS1
  change r' = r at hr
  subst hr
  have x2' := x2
  rw [h2] at x2'
  obtain ⟨A1, B1, e1, e2⟩ := fo_hG h3 x2' h1.2.2.2.1
  change G1 = hG A1 M B1 at e1
  have hcp : ∀ {q q' : Option Nat} {v : LVa}, CpA G c q q' v → CpA (hG A1 M B1) c1 q q' v := by
    intro q q' v h
    have := h.fo x2
    rw [← e1]
    exact this
  obtain ⟨r1, r2, r3, r4, r5, ⟨r6, r7, r8, r9⟩, r10, r11⟩ := h6
  have hx1 : (hG A1 M B1)[49]? = some (.inl (1, (1, .inr (.inl x)))) := by
    rw [← e1]
    exact (x2.2.2 49 (G_lt h4) (h1.2.2.2.1 49 (by omega) (by omega))).trans h4
  have x1' : CS (hG A1 M B1) c1 (3016 * (4 * k + a.2.1 + 3)) S1 := by rw [← e1]; exact x1
  have hRS : RS A1 M B1 (3016 * (4 * k + a.2.1 + 3)) S1 ((T, St, kd), (a.1, a.2.1, a.2.2.2), ro, st, (s, u, f), ke, W) := ⟨c1, e2, x1', ⟨x, hx1⟩, r1, r2, r3, r4, r5, ⟨r6, r7, fun j hj => hcp (r8 j hj), fun j hj => hcp (r9 j hj)⟩, fun j hj => ⟨(r10 j hj).1, fun e => hcp ((r10 j hj).2 e)⟩, r11⟩
  rw [show 3016 * (4 * k + a.2.1 + 3) = 3016 * (4 * k + a.2.1 + 2) + 3016 by omega] at hRS
  obtain ⟨M1, K, e7, hR1⟩ := g2 A1 M B1 _ S1 hRS
  have hts' : tsOf S1 ≤ a.2.1 := g3
  exact ⟨r', G1, A1, M, B1, M1, B1 ++ K, e6, e1, e2, e7, hR1.fin g1 (by omega)⟩
theorem yr_loop {on m : Nat} (hon : on ≤ 1600) (hm : m ≤ 40) : ∀ r (P : PC) (an : Nat) (St : Nat → Nat) (sg : Nat → Int32) (v : Int32), r ≤ m → okP on an P → sz P ≤ 3000 → an ≤ 6000 → SG sg St on an → ∃ P' an' St' sg' v', okP on an' P' ∧ sz P' ≤ 3000 ∧ an' ≤ 6000 ∧ an ≤ an' ∧ SG sg' St' on an' ∧ (∀ k, k < 1600 + an → sg' k = sg k ∧ St' k = St k) ∧ (∀ G c N L a ro s u f lv ke pg qg sc W0 x3 fu (Q : Int32 × zH → Prop), YC G c N L a ro s u f lv ke pg qg sc W0 on P an sg v → r < fu → (∀ G1 c1, YC G1 c1 N L a ro s u f lv ke pg qg sc W0 on P' an' sg' v' → Fo G c G1 c1 → ok (fX6_years_b66 G1 0 x3) Q) → ok (fX6_years_b48 fu G 0 (nn m) x3 L (nn (m - r))) Q) ∧ ∀ M0 M stk A B r3 r4 x5 fu, YR M0 M on P an St v stk → r < fu → ∃ M', YR M0 M' on P' an' St' v' stk ∧ fX7_years_b44 A fu M B (nn m) r3 r4 x5 (nn (m - r)) = fX7_years_b60 A M' B r3 r4 x5 := by
  intro r
  induction r with
  | zero =>
    intro P an St sg v hr hk hz han hSG
    refine ⟨P, an, St, sg, v, hk, hz, han, Nat.le_refl _, hSG, fun _ _ => ⟨rfl, rfl⟩, ?_, ?_⟩
    · intro G c N L a ro s u f lv ke pg qg sc W0 x3 fu Q hY hfu H
      obtain ⟨fu', rfl⟩ : ∃ fu', fu = fu' + 1 := ⟨fu - 1, by omega⟩
      unfold fX6_years_b48
      refine ift (by rw [nn_le (by omega) (by omega)]; omega) ?_
      exact H G c hY (Fo.refl _ _)
    · intro M0 M stk A B r3 r4 x5 fu hY hfu
      obtain ⟨fu', rfl⟩ : ∃ fu', fu = fu' + 1 := ⟨fu - 1, by omega⟩
      refine ⟨M, hY, ?_⟩
      unfold fX7_years_b44
      rw [if_le (by omega) (by omega), if_pos (by omega)]
  | succ r ih =>
    intro P an St sg v hr hk hz han hSG
    obtain ⟨P1, an1, St1, sg1, v1, a1, a2, a3, a4, a5, a6, a7, a8⟩ := yr_step hon P an St sg v hk hz han hSG
    obtain ⟨P2, an2, St2, sg2, v2, b1, b2, b3, b4, b5, b6, b7, b8⟩ := ih P1 an1 St1 sg1 v1 (by omega) a1 a2 a3 a5
    refine ⟨P2, an2, St2, sg2, v2, b1, b2, b3, by omega, b5, fun k hk => ?_, ?_, ?_⟩
    · rw [(b6 k (by omega)).1, (b6 k (by omega)).2]
      exact a6 k hk
    · intro G c N L a ro s u f lv ke pg qg sc W0 x3 fu Q hY hfu H
      obtain ⟨fu', rfl⟩ : ∃ fu', fu = fu' + 1 := ⟨fu - 1, by omega⟩
      unfold fX6_years_b48
      refine ifn (by rw [nn_le (by omega) (by omega)]; omega) ?_
      have hY' := hY
      obtain ⟨bu, W, h1, -⟩ := hY'
      refine sa1 h1.1.io0 ?_
      refine ca1 (a7 G c N L a ro s u f lv ke pg qg sc W0 hY) ?_
      rintro G2 ⟨c2, y1, y2⟩
      rw [q1, nn_add, show m - (r + 1) + 1 = m - r by omega]
      refine zl ?_
      refine b7 G2 c2 N L a ro s u f lv ke pg qg sc W0 x3 fu' Q y1 (by omega) ?_
      intro G3 c3 z1 z2
      exact H G3 c3 z1 (y2.trans z2)
    · intro M0 M stk A B r3 r4 x5 fu hY hfu
      obtain ⟨fu', rfl⟩ : ∃ fu', fu = fu' + 1 := ⟨fu - 1, by omega⟩
      obtain ⟨M1, d1, d2⟩ := a8 M0 M stk hY
      obtain ⟨M2, d3, d4⟩ := b8 M0 M1 stk A B r3 r4 x5 fu' d2 (by omega)
      refine ⟨M2, d3, ?_⟩
      unfold fX7_years_b44
      rw [if_le (by omega) (by omega), if_neg (by omega), d1, ob1_some, q1, nn_add, zlt, show m - (r + 1) + 1 = m - r by omega]
      exact d4
theorem sumOf23 {G : zH} {n : Nat} {t : Nat → Nat} (v1 : isO G 23 3 = some ()) (v3 : ∀ p, p < n → fX3_signAt G 23 (nn p) = some (nn (t p))) (hn : n ≤ 3000) : fX3_sumOf G 23 (nn 0) (nn n) = some (smF t 0 n) := by
  unfold fX3_sumOf
  have key : ∀ fu k, k ≤ n → n - k < fu → fX3_sumOf_b6 G fu 23 (nn n) (smF t 0 k) (nn k) = some (smF t 0 n) := by
    intro fu
    induction fu with
    | zero => intro k _ h; omega
    | succ fu ih =>
      intro k hk hfu
      unfold fX3_sumOf_b6
      rw [if_le (by omega) (by omega)]
      by_cases e : n ≤ k
      · rw [if_pos e, show k = n by omega]
      · have hih := ih (k + 1) (by omega) (by omega)
        have hs : smF t 0 (k + 1) = 31 * smF t 0 k + nn (t k) := by
          show 31 * smF t 0 k + nn (t (0 + k)) = _
          rw [Nat.zero_add]
        rw [if_neg e, v1, ob1_some, v3 k (by omega), ob1_some, zlt, zlt, q1, nn_add, ← hs]
        exact hih
  exact key FU 0 (by omega) (by rw [FU_eq]; omega)
theorem years66 {G G0 : zH} {c c0 : Nat → Nat} {N L : Nat} {tx : Nat → Int32} {ts old : Nat} {tb : Int32} {ro : TR} {s u f : Nat} {lv : Nat → Option Nat} {ke : TK} {pg qg : TP} {sc : Nat → Int32} {W0 : Nat → LVa} {on an0 : Nat} {P : PC} {an : Nat} {St : Nat → Nat} {sg : Nat → Int32} {v : Int32} (hY : YC G c N L (tx, ts, old, tb) ro s u f lv ke pg qg sc W0 on P an sg v) (hon : on ≤ 1600) (hk : okP on an P) (hz : sz P ≤ 3000) (han : an ≤ 6000) (hSG : SG sg St on an) (hf : Fo G0 c0 G c) : ok (fX6_years_b66 G 0 (nn an0)) fun z => z.1 = nn (sz P) ∧ ∃ c1 bu qg1 W1, Cl z.2 c1 bu N (tx, ts, old, tb) (3, vp_updL (vp_updL (vp_updL ro.2 0 (smF (fun p => St (srcAt P p)) 0 (sz P)).toInt64) 1 (nn P.length).toInt64) 2 (nn an).toInt64) (on, an0, sg) (s, u, f, lv) ke pg qg1 sc W1 ∧ (∀ i, i < 34 → W1 i = W0 i) ∧ Fo G0 c0 z.2 c1 := by
  obtain ⟨bu, W, h1, h2, h3, h4, h5, h6⟩ := hY
  have hL := h1.trial
  rw [h3] at hL
  unfold fX6_years_b66
  refine sa1 h1.1.r0_11 ?_
  refine sa1 h1.1.r0_8 ?_
  refine sa1 h1.1.r0_3 ?_
  refine sa1 h1.1.io23 ?_
  refine ca1 (lay_23 (St := St) h1.1 h1.2.2.1 (okP_wf hk) hz (okP_more hk hon han) ?_ (show 36 ≠ 0 by decide) hL) ?_
  · intro p hp
    have a1 := src_lt hk hon han hp
    have a2 := hSG (srcAt P p) (okP_src hk hp)
    exact ⟨a2.1, a2.2.2, a1.1⟩
  · rintro G2 ⟨qg2, x1, x2, x3⟩
    have x4 := h1.fx x1 x3 rfl rfl
    obtain ⟨j1, j2⟩ := sign23 x4.1 x2 hz
    have hL2 := x4.trial
    rw [h3] at hL2
    refine sa1 x4.1.r0_2 ?_
    refine sa1 x4.1.r0_11 ?_
    refine sa1 x4.1.r0_11 ?_
    refine sa1 j1 ?_
    refine sa1 x4.1.io23 ?_
    rw [q0]
    refine sa1 (sumOf23 (t := fun p => St (srcAt P p)) x4.1.io23 j2 hz) ?_
    refine sa1 x4.1.r0_8 ?_
    refine sa1 hL2.n2 ?_
    refine sa1 x4.1.r0_3 ?_
    refine sa1 (fi_at (v := nn an) x4.1.g4 rfl) ?_
    refine sa1 x4.1.io2 ?_
    refine ca1 (tell3_sp x4.1 x4.2.2.1 0 _ _ _) ?_
    rintro G3 ⟨y1, y2⟩
    have x5 := x4.fx y1 y2 rfl rfl
    refine sa1 x5.1.r0_3 ?_
    refine sa1 (fset_at x5.1.g4 (by simp)) ?_
    have u6 : Up 0 G3 c 0 (G3.set 4 (.inr (4, [.ref 5, .int (nn on), .int (nn an0)]))) c 0 := Up.set x5.1.g4 rfl (x5.2.2.1 4 (by decide))
    have x6 := x5.fx (x5.1.u4 on an0) u6 rfl rfl
    have hL6 := x6.trial
    rw [h3] at hL6
    refine sa1 x6.1.r0_8 ?_
    refine sa1 hL6.n3 ?_
    exact ok_some ⟨rfl, c, bu, qg2, W, x6, h2, hf.trans ((x3.1.fo (by omega)).trans ((y2.1.fo (by omega)).trans (u6.1.fo (by omega))))⟩
theorem A_years (x y : Int32) : ∀ S, SA S → ∃ (r : Int32) (Rel : SS → Prop), (∀ S1, Rel S1 → SA S1 ∧ R7 S S1 r (fun A M B => fX7_years A M B x y) ∧ tsOf S1 ≤ tsOf S) ∧ ∀ G c n, CS G c (n + 3016) S → ok (fX6_years G 0 x y) fun z => z.1 = r ∧ ∃ c1 S1, Rel S1 ∧ CS z.2 c1 n S1 ∧ Fo G c z.2 c1 := by
  rintro ⟨⟨T, St, kd⟩, ⟨tx, ts, tb⟩, ro, st, ⟨s, u, f⟩, ke, W⟩ hS
  obtain ⟨⟨hv, ht⟩, hs, huf, hst⟩ := hS.cur
  have hz := hv.2.1
  have hon := hst.2
  by_cases ey : ∃ m, 1 ≤ m ∧ m ≤ 40 ∧ y = nn m
  · obtain ⟨m, m1, m2, rfl⟩ := ey
    have hin : fX7_in (nn m).toInt64 (1 : Int64) (40 : Int64) = some (nn 1) := by rw [in_lit (lo := 1) (hi := 40) (by omega) rfl rfl, if_pos ⟨m1, m2⟩]
    obtain ⟨P', an', St', sg', v', a1, a2, a3, a4, a5, a6, a7, a8⟩ := yr_loop hon.1 m2 m (W s).1 st.2.1 St st.2.2 x (Nat.le_refl _) hv.1 hz hon.2 hst.1
    rw [Nat.sub_self] at a7 a8
    refine ⟨nn (sz P'), fun S1 => ∃ W1, (∀ i, i < 34 → W1 i = W i) ∧ S1 = ((T, St, kd), (tx, ts, tb), (3, vp_updL (vp_updL (vp_updL ro.2 0 (smF (fun p => St' (srcAt P' p)) 0 (sz P')).toInt64) 1 (nn P'.length).toInt64) 2 (nn an').toInt64), (st.1, st.2.1, sg'), (s, u, f), ke, W1), ?_, ?_⟩
    · rintro S1 ⟨W1, hW1, rfl⟩
      refine ⟨?_, ?_, Nat.le_refl _⟩
      · obtain ⟨s1, s2, s3, s4, s5, s6, s7⟩ := hS
        refine ⟨s1, ⟨s2.1, s2.2.1, by show 3 ≤ 16; omega⟩, ⟨fun k hk => ?_, s3.2⟩, s4, fun i hi hw => ?_, fun i hi => ?_, fun h => by cases h⟩
        · have hk' : k < 1600 + st.2.1 := by
            have : k < st.1 ∨ (1600 ≤ k ∧ k < 1600 + st.2.1) := hk
            omega
          show sg' k = _ ∧ _
          rw [(a6 k hk').1]
          exact s3.1 k hk
        · rw [hW1 i (by omega)]
          exact s5 i hi hw
        · rw [hW1 (31 + i) (by omega)]
          exact s6 i hi
      · intro A M B n Sf hR
        have hR0 := hR.i0
        obtain ⟨c, y2, hcr, h50, hrm, h6, hgo⟩ := hR0.go
        obtain ⟨t1, t2, t3, t4, t5, ⟨t6, t7, t8, t9⟩, t10, t11⟩ := h6
        obtain ⟨r3, r4, r5, r11, r1, r6, r7⟩ := hR0.cur
        have hr1 : zs (hG A (mI M 0 0) B) + (n + 3016) ≤ zKL := hrm.1
        have hr2 : 12 * (hG A (mI M 0 0) B).length + (n + 3016) ≤ 12 * zGL := hrm.2
        have hll := hG_len A (mI M 0 0) B
        have hrr : zs (hG A (mI M 0 0) B) + 3016 ≤ zKL := Nat.le_trans (Nat.add_le_add_left (Nat.le_add_left 3016 n) _) hr1
        clear hr1 hrm
        obtain ⟨g, e1, e2⟩ := bookCopy_sp (A := A) (B := B) r4 (by omega) (by omega)
        have hl2 : (hG A (mI M 0 0) (B ++ [KB (W s).1 g])).length = (hG A (mI M 0 0) B).length + 1 := by
          rw [hG_len, hll, List.length_append]
          show A.length + 22 + (B.length + 1) = _
          omega
        have hzs := hG_zs A B [KB (W s).1 g] (mI M 0 0) (mI M 0 0)
        have hz1 : zs [KB (W s).1 g] = sz (W s).1 := by
          show sz (W s).1 + 0 = _
          omega
        obtain ⟨g', e3, e4⟩ := marksCopy_sp (A := A) (B := B ++ [KB (W s).1 g]) (M := mI M 0 0) (v := W s) r5 (by omega) (by omega)
        have hYR : YR (mI M 0 0) (mI (mI M 0 0) 33 x) st.1 (W s).1 st.2.1 St x (W s).2.2 := ⟨r4.cg rfl rfl, r3.cg rfl rfl rfl rfl, ⟨(W s).2.1, r5, hv.2.2⟩, rfl, fun j _ _ hj => upd_ne _ _ hj, fun _ _ _ _ _ => rfl, rfl⟩
        obtain ⟨M1, ⟨y1, y2', y3, y4, y5⟩, d1⟩ := a8 (mI M 0 0) (mI (mI M 0 0) 33 x) (W s).2.2 A (B ++ [KB (W s).1 g] ++ [KM g']) (hG A (mI M 0 0) B).length ((hG A (mI M 0 0) B).length + 1) (nn st.2.1) FU hYR (by rw [FU_eq]; omega)
        have ht' : ∀ p, p < sz P' → 1 ≤ St' (srcAt P' p) ∧ St' (srcAt P' p) ≤ 127 := fun p hp => (a5 (srcAt P' p) (okP_src a1 hp)).2
        have hB1 : RBk (mI M1 1 0) P' := y1.cg rfl rfl
        have hRV : RV (mI M1 1 0) (sz P') (fun p => St' (srcAt P' p)) := RV_of hB1 (y2'.cg rfl rfl rfl rfl) a1 ht'
        have hsum : fX7_sumOf (mI M1 1 0) 0 (nn (sz P')) = some (smF (fun p => St' (srcAt P' p)) 0 (sz P')) := sumOf7 hRV (lo := 0) (by omega)
        have c1' : ∀ M' : MS, (hG A M' (B ++ [KB (W s).1 g] ++ [KM g']))[(hG A (mI M 0 0) B).length]? = some (.inl (0, (sz (W s).1, .inl g))) := fun M' => by
          rw [List.append_assoc]
          exact hG_at0 (x := KB (W s).1 g) (K := [KM g']) hll
        have c2' : ∀ M' : MS, (hG A M' (B ++ [KB (W s).1 g] ++ [KM g']))[(hG A (mI M 0 0) B).length + 1]? = some (.inl (0, (16, .inl g'))) := fun M' => hG_at0 (x := KM g') (K := []) (by rw [hll]; simp only [List.length_append, List.length_cons, List.length_nil]; omega)
        obtain ⟨M2, b1, b2, b3, b4⟩ := becomes_sp (A := A) (B := B ++ [KB (W s).1 g] ++ [KM g']) (M := tl3 M1 (smF (fun p => St' (srcAt P' p)) 0 (sz P')).toInt64 (nn P'.length).toInt64 (nn an').toInt64) (v := W s) c1' c2' e2 e4 hz
        have hzK : zs [KB (W s).1 g, KM g'] = sz (W s).1 + 16 := by
          show sz (W s).1 + (16 + 0) = _
          omega
        obtain ⟨hcp, hfin⟩ := hgo [KB (W s).1 g, KM g'] (mI M2 9 (nn st.2.1)) (by rw [hzK]; omega) (by show 12 * 2 ≤ 3016; omega)
        have i2 : ∀ j, j ≠ 1 → j ≠ 9 → j ≠ 11 → j ≠ 33 → (mI M2 9 (nn st.2.1)).1 j = (mI M 0 0).1 j := by
          intro j j1 j9 j11 j33
          refine (upd_ne _ _ j9).trans ?_
          rw [b4.1 j j11]
          refine ((upd_ne _ _ j1).trans ((upd_ne _ _ j1).trans ((upd_ne _ _ j1).trans (upd_ne _ _ j1)))).trans ?_
          exact y5.1 j j9 j11 j33
        have j2 : ∀ j, j ≠ 7 → j ≠ 10 → j ≠ 12 → j ≠ 13 → j ≠ 14 → (mI M2 9 (nn st.2.1)).2.1 j = (mI M 0 0).2.1 j := by
          intro j j7 j10 j12 j13 j14
          show M2.2.1 j = _
          rw [b4.2.1 j j10 j12 j13]
          show M1.2.1 j = _
          exact y5.2.1 j j7 j10 j12 j14
        have q2 : (mI M2 9 (nn st.2.1)).2.2.2 = (mI M 0 0).2.2.2 := by
          show M2.2.2.2 = _
          rw [b4.2.2]
          show M1.2.2.2 = _
          rw [y5.2.2]
        refine ⟨mI M2 9 (nn st.2.1), [KB (W s).1 g, KM g'], ?_, hfin _ ⟨⟨fun i hi => ?_, ?_⟩, ?_, ⟨?_, rfl, hon.1, hon.2, fun k hk => ?_, fun k hk => ?_⟩, ?_, ?_, ⟨?_, ?_, fun i hi => ?_, fun i hi => ?_⟩, fun i hi => ?_, ?_⟩⟩
        · show fX7_years A M B x (nn m) = _
          unfold fX7_years
          have m79 : (mI M 0 0).1 9 = nn st.2.1 := r3.2.1
          rw [zlt, hin, ob1_some, if_neg (by decide), e1, ob3_some]
          change ob3 (fX7_marksCopy A (mI M 0 0) (B ++ [KB (W s).1 g])) _ = _
          rw [e3, ob3_some, hl2, m79, zlt, zlt]
          refine Eq.trans d1 ?_
          unfold fX7_years_b60
          have k11 : (mI M1 1 0).1 11 = nn (sz P') := y1.1
          rw [y1.1, zlt, zlt, k11, hsum, ob1_some, tl1_sp, ob1_some, pieces7 (RG_of (hB1.cg (M' := tl1 M1 _) rfl rfl) a1 hon.1 a3) (okP_wf a1), ob1_some, tl2_sp, ob1_some]
          have k9 : (tl2 M1 (smF (fun p => St' (srcAt P' p)) 0 (sz P')).toInt64 (nn P'.length).toInt64).1 9 = nn an' := y2'.2.1
          rw [k9, tl3_sp, ob1_some, b1, ob2_some, zlt, List.append_assoc]
          rfl
        · rw [j2 3 (by decide) (by decide) (by decide) (by decide) (by decide)]
          exact t1.1 i hi
        · rw [i2 4 (by decide) (by decide) (by decide) (by decide)]
          exact t1.2
        · have hrow := RRo.tl3 M1 ro.2 (smF (fun p => St' (srcAt P' p)) 0 (sz P')).toInt64 (nn P'.length).toInt64 (nn an').toInt64
          refine ⟨(b4.1 1 (by decide)).trans hrow.1, fun i hi => ?_⟩
          show M2.2.2.1 i = _
          rw [b4.2.2]
          exact hrow.2 i hi
        · rw [i2 8 (by decide) (by decide) (by decide) (by decide)]
          exact r3.1
        · rw [j2 6 (by decide) (by decide) (by decide) (by decide) (by decide)]
          exact r3.2.2.2.2.1 k hk
        · show M2.2.1 7 k = _
          rw [b4.2.1 7 (by decide) (by decide) (by decide)]
          show M1.2.1 7 k = _
          have hk' : k < st.2.1 := hk
          rw [y2'.2.2.2.2.2 k (by omega), (a6 (1600 + k) (by omega)).2]
        · show RBk _ (W1 s).1
          rw [hW1 s (by omega)]
          exact b2.cg rfl rfl
        · show RMk _ (W1 s)
          rw [hW1 s (by omega)]
          exact b3
        · rw [i2 17 (by decide) (by decide) (by decide) (by decide)]
          exact t6
        · rw [i2 20 (by decide) (by decide) (by decide) (by decide)]
          exact t7
        · show CpA _ _ _ _ (W1 ((s + 31 - u + i) % 31))
          rw [q2, hW1 _ (by omega)]
          exact hcp _ _ _ (t8 i hi)
        · show CpA _ _ _ _ (W1 ((s + f - i) % 31))
          rw [q2, hW1 _ (by omega)]
          exact hcp _ _ _ (t9 i hi)
        · rw [q2, hW1 _ (by omega)]
          exact ⟨(t10 i hi).1, fun h => hcp _ _ _ ((t10 i hi).2 h)⟩
        · unfold RTy
          rw [i2 21 (by decide) (by decide) (by decide) (by decide)]
          exact t11
    · rintro G c n ⟨bu, old, lv, pg, qg, sc, h1, h2, h3⟩
      unfold fX6_years
      refine ifn (by rw [q1, nn_lt (by omega) (by omega)]; omega) ?_
      refine ift (by rw [q40, nn_le (by omega) (by omega)]; omega) ?_
      refine sa1 h1.1.r0_3 ?_
      refine sa1 (fi_at (v := nn st.2.1) h1.1.g4 rfl) ?_
      refine sa1 h1.1.r0_8 ?_
      refine sa1 h1.1.r0_4 ?_
      refine sa1 h1.1.io6 ?_
      refine ca2 (current_sp h1 hs) ?_
      rintro r5 G1 ⟨c1, b1, lv1, x1, x2, x3, x4⟩
      have lS := x2.lf hs x1
      have lT := x2.trial
      refine sa1 lT.io ?_
      obtain ⟨d, hd⟩ := x2.rm (i := 35) (by omega)
      have hlen := len_le_sz (okP_wf hv.1)
      refine ca1 (become_sp lT lS (by omega) (fun k hk => (hv.2.2 k hk).2.2) (by omega) hd) ?_
      rintro G2 ⟨c2, b2, l2, u2⟩
      have hx2 := x2.leaf (i := 35) (w := W s) (by omega) u2 l2
      have hrm := hx2.2.2.2.2.2
      have hr1 : zs G2 + (bsum (va_up b1 35 b2) 36 + (n + 3016)) ≤ zKL := hrm.1
      have hr2 : 12 * G2.length + (bsum (va_up b1 35 b2) 36 + (n + 3016)) ≤ 12 * zGL := hrm.2
      have hr3 : zs G2 + 1 ≤ zKL := Nat.le_trans (Nat.add_le_add_left (Nat.le_trans (show 1 ≤ n + 3016 by omega) (Nat.le_add_left _ _)) _) hr1
      clear hr1 hrm
      refine sa1 (gP_at (by omega) hr3) ?_
      refine zl ?_
      refine zl ?_
      have u3 : Up 112 G2 c2 12 (G2 ++ [.inr (0, [.int 0])]) (va_up c2 G2.length 900) 0 := Up.new 900 (n := 1) rfl (by omega) (by omega)
      have hx2' : Cl G2 c2 (va_up b1 35 b2) ((n + 3004) + 12) (tx, ts, old, tb) ro st (s, u, f, lv1) ke pg qg sc (va_up W 35 (W s)) := hx2
      obtain ⟨hx3, fo3⟩ := hx2'.cell u3
      have hg : (G2 ++ [(.inr (0, [.int 0]) : zE)])[G2.length]? = some (.inr (0, [.int 0])) := G_new _ _
      have e5 : fset (G2 ++ [(.inr (0, [.int 0]) : zE)]) G2.length 0 0 (.int x) = some ((G2 ++ [(.inr (0, [.int 0]) : zE)]).set G2.length (.inr (0, [.int x]))) := fset_at hg (by simp)
      unfold fX0_init
      refine sa1 (show (ob1 (fset (G2 ++ [(.inr (0, [.int 0]) : zE)]) G2.length 0 0 (.int x)) fun G1 => some G1) = some ((G2 ++ [(.inr (0, [.int 0]) : zE)]).set G2.length (.inr (0, [.int x]))) by rw [e5, ob1_some]) ?_
      have hY0 : YC (G2 ++ [(.inr (0, [.int 0]) : zE)]) (va_up c2 G2.length 900) (n + 3004) G2.length (tx, ts, old, tb) ro s u f lv1 ke pg qg sc W st.1 (W s).1 st.2.1 st.2.2 0 := ⟨_, _, hx3, fun i hi => va_up_ne _ _ (by omega), by rw [va_up_same], by rw [va_up_same]; exact hv.2.2, hg, va_up_same _ _ _⟩
      obtain ⟨hY1, fo4⟩ := hY0.draw x
      rw [q0]
      refine a7 _ _ _ _ _ _ _ _ _ _ _ _ _ _ _ _ FU _ hY1 (by rw [FU_eq]; omega) ?_
      intro G5 c5 hY5 fo5
      refine ok_imp (years66 (an0 := st.2.1) (G0 := G) (c0 := c) hY5 hon.1 a1 a2 a3 a5 (x3.trans ((u2.1.fo (by omega)).trans (fo3.trans (fo4.trans fo5))))) ?_
      rintro z ⟨z1, c6, b6, qg6, W6, z2, z3, z4⟩
      refine ⟨z1, c6, _, ⟨W6, z3, rfl⟩, ⟨b6, old, lv1, pg, qg6, sc, z2.less (by omega), h2, ?_⟩, z4⟩
      rw [z3 s (by omega)]
      exact h3
  · refine ⟨-1, fun S1 => S1 = ((T, St, kd), (tx, ts, tb), ro, st, (s, u, f), ke, W), ?_, ?_⟩
    · rintro S1 rfl
      refine ⟨hS, R7.ret0 ?_, Nat.le_refl _⟩
      intro A M B n Sf hR
      show fX7_years A M B x y = _
      unfold fX7_years
      have hin : fX7_in y.toInt64 (1 : Int64) (40 : Int64) = some (nn 0) := by
        rcases nn_or y with hy | ⟨p, hp, rfl⟩
        · exact in_litn (lo := 1) hy rfl
        · rw [in_lit (lo := 1) (hi := 40) hp rfl rfl, if_neg (fun h => ey ⟨p, h.1, h.2, rfl⟩)]
      rw [zlt, hin, ob1_some, if_pos z0]
    · rintro G c n ⟨bu, old, lv, pg, qg, sc, h1, h2, h3⟩
      have hret : ok (some ((-1 : Int32), G)) fun z => z.1 = -1 ∧ ∃ c1 S1, S1 = ((T, St, kd), (tx, ts, tb), ro, st, (s, u, f), ke, W) ∧ CS z.2 c1 n S1 ∧ Fo G c z.2 c1 := ok_some ⟨rfl, c, _, rfl, ⟨bu, old, lv, pg, qg, sc, h1.less (by omega), h2, h3⟩, Fo.refl _ _⟩
      unfold fX6_years
      rcases nn_or y with hy | ⟨p, hp, rfl⟩
      · refine ift (by rw [Int32.lt_iff_toInt_lt] at *; have : (1 : Int32).toInt = 1 := rfl; have : (0 : Int32).toInt = 0 := rfl; omega) ?_
        exact hret
      · by_cases e1 : p < 1
        · refine ift (by rw [q1, nn_lt hp (by omega)]; exact e1) ?_
          exact hret
        · refine ifn (by rw [q1, nn_lt hp (by omega)]; exact e1) ?_
          refine ifn (by rw [q40, nn_le hp (by omega)]; exact fun h => ey ⟨p, by omega, h, rfl⟩) ?_
          exact hret
theorem op_years : Op_years Inv := by
  intro k G x y hI
  exact op_act2 (f6 := fun G => fX6_years G 0 x y) (f7 := fun A M B => fX7_years A M B x y) hI (A_years x y)
