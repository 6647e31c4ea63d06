/-! differs -/
theorem RS.q {T St kd : Nat → Nat} {tx : Nat → Int32} {ts : Nat} {tb : Int32} {ro ro1 : TR} {st : TS} {s u f : Nat} {ke : TK} {W : Nat → LVa} {A B : zH} {M M1 : MS} {n : Nat} {Sf : SS} (hR : RS A M B n Sf ((T, St, kd), (tx, ts, tb), ro, st, (s, u, f), ke, W)) (hq : Mq M M1) (h4 : M1.1 4 = M.1 4) (hro : RRo M1 ro1) : RS A M1 B n Sf ((T, St, kd), (tx, ts, tb), ro1, st, (s, u, f), ke, W) := by
  obtain ⟨c, h6, hgo⟩ := hR.go0
  obtain ⟨c1, hcp, hfin⟩ := hgo M1
  obtain ⟨r1, r2, r3, r4, r5, ⟨r6, r7, r8, r9⟩, r10, r11⟩ := h6
  obtain ⟨⟨q1, q2, q3, q4, q5, q6⟩, ⟨q7, q8, q9, q10, q11, q12⟩, q13⟩ := hq
  refine hfin _ ⟨⟨fun i hi => by rw [q7]; exact r1.1 i hi, h4.trans r1.2⟩, hro, r3.cg q1 q2 q8 q9, r4.cg q3 q10, fun j hj => by rw [q11, q12]; exact r5 j hj, ⟨q4.trans r6, q5.trans r7, fun k hk => by rw [q13]; exact hcp _ _ _ (r8 k hk), fun k hk => by rw [q13]; exact hcp _ _ _ (r9 k hk)⟩, fun j hj => by rw [q13]; exact ⟨(r10 j hj).1, fun e => hcp _ _ _ ((r10 j hj).2 e)⟩, ?_⟩
  unfold RTy at *
  rw [q6]
  exact r11
theorem SA.ro {T St kd : Nat → Nat} {tx : Nat → Int32} {ts : Nat} {tb : Int32} {ro ro1 : TR} {st : TS} {s u f : Nat} {ke : TK} {W : Nat → LVa} (hS : SA ((T, St, kd), (tx, ts, tb), ro, st, (s, u, f), ke, W)) (h : ro1.1 ≤ 16) : SA ((T, St, kd), (tx, ts, tb), ro1, st, (s, u, f), ke, W) := by
  obtain ⟨s1, s2, s3, s4, s5, s6, s7⟩ := hS
  exact ⟨s1, ⟨s2.1, s2.2.1, h⟩, s3, s4, s5, s6, s7⟩
theorem signOf7 {M : MS} {Q : PC} {St : Nat → Nat} {on an p : Nat} (hs : RSt M St on an) (hk : okP on an Q) (hp : p < sz Q) : fX7_signOf M (nn (cod Q p)) = some (nn (St (srcAt Q p))) := by
  obtain ⟨-, -, hon, han, h6, h7⟩ := hs
  have hl := src_lt hk hon han hp
  have hc := cod_div hk hon han hp
  unfold fX7_signOf
  rw [q2, nn_div hc.2.2 (by omega), hc.1, q8192, nn_div (by unfold pl; split <;> omega) (by omega), nn_mul, nn_sub (by unfold pl; split <;> omega)]
  unfold fX7_ofStore pl
  by_cases e : srcAt Q p < 1600
  · rw [if_pos e, show srcAt Q p / 8192 = 0 by omega, if_pos (show nn 0 = 0 from rfl), Nat.zero_mul, Nat.sub_zero, rd_nn (by omega) (by omega), h6 _ (by omega)]
    rfl
  · rw [if_neg e, show (srcAt Q p + 6592) / 8192 = 1 by omega, if_neg (by rw [q0, nn_eq (by omega) (by omega)]; omega), show srcAt Q p + 6592 - 1 * 8192 = srcAt Q p - 1600 by omega, rd_nn (by omega) (by omega), h7 _ (by omega), show 1600 + (srcAt Q p - 1600) = srcAt Q p by omega]
    rfl
def dfB (t1 t2 : Nat → Nat) : Nat → Bool := fun k => decide (t1 k ≠ t2 k)
def dgB (t1 t2 : Nat → Nat) (n1 n2 : Nat) : Nat → Bool := fun k => decide (t1 (n1 - 1 - k) ≠ t2 (n2 - 1 - k))
section Dif
variable {G A B : zH} {M : MS} {n1 n2 y F r2 : Nat} {t1 t2 : Nat → Nat} {Q : PC}
theorem dif59 (h1 : ∀ p, p < n1 → fX3_signAt G 20 (nn p) = some (nn (t1 p)) ∧ t1 p ≤ 127) (h2 : ∀ p, p < n2 → fX3_signAt G 23 (nn p) = some (nn (t2 p)) ∧ t2 p ≤ 127) (o1 : isO G 20 3 = some ()) (o2 : isO G 23 3 = some ()) (y1 : y ≤ n1) (y2 : y ≤ n2) (y3 : y ≤ 3000) : fX6_differs_b59 FU G 0 20 23 (nn y) (nn 0) = fX6_differs_b87 G 0 20 23 (nn y) (nn (fstF (dfB t1 t2) 0 y)) := by
  have key : ∀ fu k, k ≤ y → y - k < fu → fstF (dfB t1 t2) k (y - k) = fstF (dfB t1 t2) 0 y → fX6_differs_b59 fu G 0 20 23 (nn y) (nn k) = fX6_differs_b87 G 0 20 23 (nn y) (nn (fstF (dfB t1 t2) 0 y)) := by
    intro fu
    induction fu with
    | zero => intro k _ h; omega
    | succ fu ih =>
      intro k hk hfu hF
      unfold fX6_differs_b59
      rw [if_le (by omega) (by omega)]
      by_cases e : y ≤ k
      · rw [show y - k = 0 by omega] at hF
        rw [if_pos e, ← hF]
        rfl
      · obtain ⟨a1, a2⟩ := h1 k (by omega)
        obtain ⟨b1, b2⟩ := h2 k (by omega)
        rw [fstF_step (by omega)] at hF
        rw [if_neg e, o1, ob1_some, a1, ob1_some, o2, ob1_some, b1, ob1_some, if_eq (by omega) (by omega)]
        by_cases e1 : t1 k = t2 k
        · rw [if_neg (by unfold dfB; simp only [decide_eq_true_eq]; exact fun x => x e1)] at hF
          rw [if_pos e1, q1, nn_add, zlt]
          exact ih (k + 1) (by omega) (by omega) hF
        · rw [if_pos (by unfold dfB; simp only [decide_eq_true_eq]; exact e1)] at hF
          rw [if_neg e1, hF]
  exact key FU 0 (by omega) (by rw [FU_eq]; omega) rfl
theorem dif90 (h1 : ∀ p, p < n1 → fX3_signAt G 20 (nn p) = some (nn (t1 p)) ∧ t1 p ≤ 127) (h2 : ∀ p, p < n2 → fX3_signAt G 23 (nn p) = some (nn (t2 p)) ∧ t2 p ≤ 127) (o1 : isO G 20 3 = some ()) (o2 : isO G 23 3 = some ()) (i1 : fi G 20 3 2 = some (nn n1)) (i2 : fi G 23 3 2 = some (nn n2)) (y1 : y ≤ n1) (y2 : y ≤ n2) (y3 : y ≤ 3000) (hF : F ≤ y) : fX6_differs_b90 FU G 0 20 23 (nn y) (nn F) (nn 0) = fX6_differs_b135 G 0 20 23 (nn F) (nn (fstF (dgB t1 t2 n1 n2) 0 (y - F))) := by
  have key : ∀ fu k, k ≤ y - F → y - F - k < fu → fstF (dgB t1 t2 n1 n2) k (y - F - k) = fstF (dgB t1 t2 n1 n2) 0 (y - F) → fX6_differs_b90 fu G 0 20 23 (nn y) (nn F) (nn k) = fX6_differs_b135 G 0 20 23 (nn F) (nn (fstF (dgB t1 t2 n1 n2) 0 (y - F))) := by
    intro fu
    induction fu with
    | zero => intro k _ h; omega
    | succ fu ih =>
      intro k hk hfu hG
      unfold fX6_differs_b90
      rw [nn_sub hF, if_le (by omega) (by omega)]
      by_cases e : y - F ≤ k
      · rw [show y - F - k = 0 by omega] at hG
        rw [if_pos e, ← hG]
        rfl
      · obtain ⟨a1, a2⟩ := h1 (n1 - 1 - k) (by omega)
        obtain ⟨b1, b2⟩ := h2 (n2 - 1 - k) (by omega)
        rw [fstF_step (by omega)] at hG
        rw [if_neg e, i1, ob1_some, o1, ob1_some, q1, nn_sub (show 1 ≤ n1 by omega), nn_sub (show k ≤ n1 - 1 by omega), a1, ob1_some, i2, ob1_some, o2, ob1_some, nn_sub (show 1 ≤ n2 by omega), nn_sub (show k ≤ n2 - 1 by omega), b1, ob1_some, if_eq (by omega) (by omega)]
        by_cases e1 : t1 (n1 - 1 - k) = t2 (n2 - 1 - k)
        · rw [if_neg (by unfold dgB; simp only [decide_eq_true_eq]; exact fun x => x e1)] at hG
          rw [if_pos e1, nn_add, zlt]
          exact ih (k + 1) (by omega) (by omega) hG
        · rw [if_pos (by unfold dgB; simp only [decide_eq_true_eq]; exact e1)] at hG
          rw [if_neg e1, hG]
  exact key FU 0 (by omega) (by rw [FU_eq]; omega) rfl
theorem dif71 {x3 : Int32} (h1 : ∀ p, p < n1 → fX7_signAt M (nn p) = some (nn (t1 p)) ∧ t1 p ≤ 127) (h2 : ∀ p, p < n2 → grd (hG A M B) r2 (nn p) = some (nn (cod Q p)) ∧ fX7_signOf M (nn (cod Q p)) = some (nn (t2 p)) ∧ t2 p ≤ 127) (y1 : y ≤ n1) (y2 : y ≤ n2) (y3 : y ≤ 3000) : fX7_differs_b71 A FU M B r2 x3 (nn y) (nn 0) = fX7_differs_b101 A M B r2 x3 (nn y) (nn (fstF (dfB t1 t2) 0 y)) := by
  have key : ∀ fu k, k ≤ y → y - k < fu → fstF (dfB t1 t2) k (y - k) = fstF (dfB t1 t2) 0 y → fX7_differs_b71 A fu M B r2 x3 (nn y) (nn k) = fX7_differs_b101 A M B r2 x3 (nn y) (nn (fstF (dfB t1 t2) 0 y)) := by
    intro fu
    induction fu with
    | zero => intro k _ h; omega
    | succ fu ih =>
      intro k hk hfu hF
      unfold fX7_differs_b71
      rw [if_le (by omega) (by omega)]
      by_cases e : y ≤ k
      · rw [show y - k = 0 by omega] at hF
        rw [if_pos e, ← hF]
        rfl
      · obtain ⟨a1, a2⟩ := h1 k (by omega)
        obtain ⟨b1, b2, b3⟩ := h2 k (by omega)
        rw [fstF_step (by omega)] at hF
        rw [if_neg e, a1, ob1_some, b1, ob1_some, b2, ob1_some, if_eq (by omega) (by omega)]
        by_cases e1 : t1 k = t2 k
        · rw [if_neg (by unfold dfB; simp only [decide_eq_true_eq]; exact fun x => x e1)] at hF
          rw [if_pos e1, q1, nn_add, zlt]
          exact ih (k + 1) (by omega) (by omega) hF
        · rw [if_pos (by unfold dfB; simp only [decide_eq_true_eq]; exact e1)] at hF
          rw [if_neg e1, hF]
  exact key FU 0 (by omega) (by rw [FU_eq]; omega) rfl
theorem dif104 (h11 : M.1 11 = nn n1) (h1 : ∀ p, p < n1 → fX7_signAt M (nn p) = some (nn (t1 p)) ∧ t1 p ≤ 127) (h2 : ∀ p, p < n2 → grd (hG A M B) r2 (nn p) = some (nn (cod Q p)) ∧ fX7_signOf M (nn (cod Q p)) = some (nn (t2 p)) ∧ t2 p ≤ 127) (y1 : y ≤ n1) (y2 : y ≤ n2) (y3 : y ≤ 3000) (hF : F ≤ y) : fX7_differs_b104 A FU M B r2 (nn n2) (nn y) (nn F) (nn 0) = fX7_differs_b148 A M B (nn n2) (nn F) (nn (fstF (dgB t1 t2 n1 n2) 0 (y - F))) := by
  have key : ∀ fu k, k ≤ y - F → y - F - k < fu → fstF (dgB t1 t2 n1 n2) k (y - F - k) = fstF (dgB t1 t2 n1 n2) 0 (y - F) → fX7_differs_b104 A fu M B r2 (nn n2) (nn y) (nn F) (nn k) = fX7_differs_b148 A M B (nn n2) (nn F) (nn (fstF (dgB t1 t2 n1 n2) 0 (y - F))) := by
    intro fu
    induction fu with
    | zero => intro k _ h; omega
    | succ fu ih =>
      intro k hk hfu hG
      unfold fX7_differs_b104
      rw [nn_add, if_le (by omega) (by omega)]
      by_cases e : y ≤ F + k
      · rw [show y - F - k = 0 by omega] at hG
        rw [if_pos e, ← hG]
        rfl
      · obtain ⟨a1, a2⟩ := h1 (n1 - 1 - k) (by omega)
        obtain ⟨b1, b2, b3⟩ := h2 (n2 - 1 - k) (by omega)
        rw [fstF_step (by omega)] at hG
        rw [if_neg e, h11, q1, nn_sub (show 1 ≤ n1 by omega), nn_sub (show k ≤ n1 - 1 by omega), a1, ob1_some, nn_sub (show 1 ≤ n2 by omega), nn_sub (show k ≤ n2 - 1 by omega), b1, ob1_some, b2, ob1_some, if_eq (by omega) (by omega)]
        by_cases e1 : t1 (n1 - 1 - k) = t2 (n2 - 1 - k)
        · rw [if_neg (by unfold dgB; simp only [decide_eq_true_eq]; exact fun x => x e1)] at hG
          rw [if_pos e1, nn_add, zlt]
          exact ih (k + 1) (by omega) (by omega) hG
        · rw [if_pos (by unfold dgB; simp only [decide_eq_true_eq]; exact e1)] at hG
          rw [if_neg e1, hG]
  exact key FU 0 (by omega) (by rw [FU_eq]; omega) rfl
end Dif
theorem sign23 {G : zH} {a : TA} {ro : TR} {st : TS} {hi : TH} {ke : TK} {pg qg : TP} {sc : Nat → Int32} {P : PC} {St : Nat → Nat} (h : FX G a ro st hi ke pg qg sc) (hp : PgTo qg P St (sz P)) (hz : sz P ≤ 3000) : fi G 23 3 2 = some (nn (sz P)) ∧ ∀ p, p < sz P → fX3_signAt G 23 (nn p) = some (nn (St (srcAt P p))) := by
  have hn : fi G 23 3 2 = some (nn (sz P)) := by rw [← hp.1]; exact fi_at h.g23 rfl
  refine ⟨hn, fun p hpl => ?_⟩
  unfold fX3_signAt
  rw [if_neg (by rw [nn_neg (by omega)]; exact id), hn, ob1_some, if_neg (by rw [nn_le (by omega) (by omega)]; omega), frf_at (v := 24) h.g23 rfl, ob1_some, aR_at h.g24 (by omega) (by omega), ob1_some, (hp.2 p hpl).1]
theorem A_differs (x : Int32) : ∀ S, SA S → ∃ S1 r, SA S1 ∧ C6 S S1 r (fun G => fX6_differs G 0 x) ∧ R7 S S1 r (fun A M B => fX7_differs A M B x) ∧ tsOf S1 ≤ tsOf S := by
  rintro ⟨⟨T, St, kd⟩, ⟨tx, ts, tb⟩, ro, st, ⟨s, u, f⟩, ke, W⟩ hS
  obtain ⟨⟨hv, ht⟩, hs, huf, hst⟩ := hS.cur
  have hz := hv.2.1
  have hon := hst.2
  by_cases e : ∃ k, k ≤ u ∧ x = nn k
  · obtain ⟨k, hk, rfl⟩ := e
    obtain ⟨i, hi⟩ : ∃ i, i = (s + 31 - k) % 31 := ⟨_, rfl⟩
    have hi31 : i < 31 := by omega
    have hSm := hS
    obtain ⟨s1, s2, s3, s4, s5, s6, s7⟩ := hSm
    have hV : okV st.1 st.2.1 (W i) := s5 i hi31 (Or.inr (by show (s + 31 - i) % 31 ≤ u; omega))
    have hzV := hV.2.1
    have htV : ∀ p, p < sz (W i).1 → 1 ≤ St (srcAt (W i).1 p) ∧ St (srcAt (W i).1 p) ≤ 127 := fun p hp => (s3.1 (srcAt (W i).1 p) (okP_src hV.1 hp)).2
    obtain ⟨y, hy⟩ : ∃ y, y = if sz (W i).1 < sz (W s).1 then sz (W i).1 else sz (W s).1 := ⟨_, rfl⟩
    have hy1 : y ≤ sz (W s).1 := by rw [hy]; split <;> omega
    have hy2 : y ≤ sz (W i).1 := by rw [hy]; split <;> omega
    obtain ⟨F, hF⟩ : ∃ F, F = fstF (dfB (fun p => St (srcAt (W s).1 p)) (fun p => St (srcAt (W i).1 p))) 0 y := ⟨_, rfl⟩
    have hFy : F ≤ y := by
      have := (fstF_le (dfB (fun p => St (srcAt (W s).1 p)) (fun p => St (srcAt (W i).1 p))) 0 y).2
      omega
    obtain ⟨D, hD⟩ : ∃ D, D = fstF (dgB (fun p => St (srcAt (W s).1 p)) (fun p => St (srcAt (W i).1 p)) (sz (W s).1) (sz (W i).1)) 0 (y - F) := ⟨_, rfl⟩
    have hDy : D ≤ y - F := by
      have := (fstF_le (dgB (fun p => St (srcAt (W s).1 p)) (fun p => St (srcAt (W i).1 p)) (sz (W s).1) (sz (W i).1)) 0 (y - F)).2
      omega
    refine ⟨((T, St, kd), (tx, ts, tb), (2, vp_updL (vp_updL ro.2 0 (nn (sz (W s).1 - F - D)).toInt64) 1 (nn (sz (W i).1 - F - D)).toInt64), st, (s, u, f), ke, W), nn F, hS.ro (by show 2 ≤ 16; omega), ?_, ?_, Nat.le_refl _⟩
    · rintro G c n ⟨bu, old, lv, pg, qg, sc, h1, h2, h3⟩
      show ok (fX6_differs G 0 (nn k)) _
      unfold fX6_differs
      refine ifn (by rw [nn_neg (by omega)]; exact id) ?_
      refine sa1 h1.1.r0_4 ?_
      refine sa1 (fi_at (v := nn u) h1.1.g6 rfl) ?_
      refine ift (by rw [nn_le (by omega) (by omega)]; exact hk) ?_
      refine sa1 h1.1.io0 ?_
      refine page_open h1 (hS.sm h2 h3) (Fo.refl _ _) ?_
      intro G2 c2 b2 lv2 pg2 z1 z2 z3 hPV
      refine sa1 z1.1.r0_11 ?_
      refine sa1 z1.1.r0_4 ?_
      refine sa1 z1.1.io6 ?_
      refine ca2 (ago_sp z1 hs (k := k) (by omega)) ?_
      rw [← hi]
      rintro r G3 ⟨c3, b3, lv3, w1, w2, w3, -⟩
      refine sa1 w2.1.r0_3 ?_
      refine sa1 w2.1.io23 ?_
      have hL := w2.lf hi31 w1
      refine ca1 (lay_23 (St := St) w2.1 w2.2.2.1 (okP_wf hV.1) hzV (okP_more hV.1 hon.1 hon.2) ?_ (Nat.succ_ne_zero i) hL) ?_
      · intro p hp
        have a1 := src_lt hV.1 hon.1 hon.2 hp
        have a2 := s3.1 (srcAt (W i).1 p) (okP_src hV.1 hp)
        exact ⟨a2.1, a2.2.2, a1.1⟩
      · rintro G4 ⟨qg4, x1, x2, x3⟩
        have x4 := w2.fx x1 x3 rfl rfl
        have hPV4 := PV_of x4.1 z2 hz ht
        obtain ⟨j1, j2⟩ := sign23 x4.1 x2 hzV
        refine sa1 hPV4.2.1 ?_
        refine sa1 j1 ?_
        rw [if_lt (by omega) (by omega), nn_if, ← hy]
        refine zl ?_
        have d1 := dif59 (G := G4) (n1 := sz (W s).1) (n2 := sz (W i).1) (y := y) (t1 := fun p => St (srcAt (W s).1 p)) (t2 := fun p => St (srcAt (W i).1 p)) (fun p hp => ⟨hPV4.2.2.1 p hp, (ht p hp).2⟩) (fun p hp => ⟨j2 p hp, (htV p hp).2⟩) hPV4.1 x4.1.io23 hy1 hy2 (by omega)
        have d2 := dif90 (G := G4) (n1 := sz (W s).1) (n2 := sz (W i).1) (y := y) (F := F) (t1 := fun p => St (srcAt (W s).1 p)) (t2 := fun p => St (srcAt (W i).1 p)) (fun p hp => ⟨hPV4.2.2.1 p hp, (ht p hp).2⟩) (fun p hp => ⟨j2 p hp, (htV p hp).2⟩) hPV4.1 x4.1.io23 hPV4.2.1 j1 hy1 hy2 (by omega) hFy
        rw [← hF] at d1
        rw [← hD] at d2
        rw [q0, d1]
        unfold fX6_differs_b87
        rw [q0, d2]
        unfold fX6_differs_b135
        refine sa1 x4.1.r0_2 ?_
        refine sa1 hPV4.2.1 ?_
        refine sa1 j1 ?_
        refine sa1 x4.1.io2 ?_
        rw [nn_sub (show F ≤ sz (W s).1 by omega), nn_sub (show D ≤ sz (W s).1 - F by omega), nn_sub (show F ≤ sz (W i).1 by omega), nn_sub (show D ≤ sz (W i).1 - F by omega)]
        refine ca1 (tell2_sp x4.1 x4.2.2.1 0 _ _) ?_
        rintro G5 ⟨y1, y2⟩
        exact ok_some ⟨rfl, c3, ⟨b3, 0, lv3, pg2, qg4, sc, x4.fx y1 y2 rfl rfl, by omega, fun _ => z2⟩, z3.trans (w3.trans ((x3.1.fo (by omega)).trans (y2.1.fo (by omega))))⟩
    · intro A M B n Sf hR
      have hR0 := hR.i0
      obtain ⟨c, y2, hcr, h50, hrm, h6, hgo⟩ := hR0.go
      obtain ⟨-, -, -, -, -, ⟨-, -, r8, -⟩, -, -⟩ := h6
      obtain ⟨r3, r4, -, -, -, h17, -⟩ := hR0.cur
      have hRV := RV_of r4 r3 hv.1 ht
      have fin : ∀ rr, (∀ p, p < sz (W i).1 → grd (hG A (mI M 0 0) B) rr (nn p) = some (nn (cod (W i).1 p))) → fX7_differs_b57 A (mI M 0 0) B rr (nn (sz (W i).1)) = some (nn F, tl2 (mI M 0 0) (nn (sz (W s).1 - F - D)).toInt64 (nn (sz (W i).1 - F - D)).toInt64, B) := by
        intro rr hrr
        unfold fX7_differs_b57
        rw [r4.1, if_lt (by omega) (by omega), nn_if, ← hy, zlt]
        refine Eq.trans (dif71 (n1 := sz (W s).1) (n2 := sz (W i).1) (t1 := fun p => St (srcAt (W s).1 p)) (t2 := fun p => St (srcAt (W i).1 p)) (Q := (W i).1) (fun p hp => ⟨hRV.2.1 p hp, (ht p hp).2⟩) (fun p hp => ⟨hrr p hp, signOf7 r3 hV.1 hp, (htV p hp).2⟩) hy1 hy2 (by omega)) ?_
        rw [← hF]
        unfold fX7_differs_b101
        refine Eq.trans (dif104 (n1 := sz (W s).1) (n2 := sz (W i).1) (t1 := fun p => St (srcAt (W s).1 p)) (t2 := fun p => St (srcAt (W i).1 p)) (Q := (W i).1) r4.1 (fun p hp => ⟨hRV.2.1 p hp, (ht p hp).2⟩) (fun p hp => ⟨hrr p hp, signOf7 r3 hV.1 hp, (htV p hp).2⟩) hy1 hy2 (by omega) hFy) ?_
        rw [← hD]
        unfold fX7_differs_b148
        have h11 : (mI (mI M 0 0) 1 0).1 11 = nn (sz (W s).1) := r4.1
        rw [zlt, h11, nn_sub (show F ≤ sz (W s).1 by omega), nn_sub (show D ≤ sz (W s).1 - F by omega), nn_sub (show F ≤ sz (W i).1 by omega), nn_sub (show D ≤ sz (W i).1 - F by omega), tl1_sp, ob1_some, tl2_sp, ob1_some]
      refine ⟨tl2 (mI M 0 0) (nn (sz (W s).1 - F - D)).toInt64 (nn (sz (W i).1 - F - D)).toInt64, [], ?_, ?_⟩
      · show fX7_differs A M B (nn k) = _
        unfold fX7_differs
        rw [zlt, h17, in_nn (by omega) (by omega), ob1_some, if_neg (by rw [if_pos hk]; decide), List.append_nil]
        by_cases e0 : k = 0
        · have his : i = s := by omega
          rw [if_pos (by rw [e0]; rfl)]
          unfold fX7_differs_b43
          rw [if_pos (by rw [e0]; rfl), r4.1]
          have hcell := hMa_10 A (mI M 0 0) B
          have := fin (A.length + 5) (fun p hp => by
            rw [his] at hp ⊢
            rw [grd_at hcell (by omega) (by omega)]
            exact congrArg some (r4.2.2 p hp))
          rw [his] at this ⊢
          exact this
        · have hcp0 : CpA (hG A (mI M 0 0) B) c ((mI M 0 0).2.2.2 15 (u - k)) ((mI M 0 0).2.2.2 16 (u - k)) (W ((s + 31 - u + (u - k)) % 31)) := r8 (u - k) (by show u - k < u; omega)
          rw [show (s + 31 - u + (u - k)) % 31 = i by omega] at hcp0
          obtain ⟨a1, a2, q, q', p1, p2, p3, p4, ⟨p5, p6, p7, p8⟩, p9, p10⟩ := hcp0
          rw [if_neg (by rw [q0, nn_eq (by omega) (by omega)]; exact e0), nn_sub hk, rd_nn (show u - k < 30 by omega) (by omega), ob1_some, p1, ob1_some]
          unfold fX7_differs_b43 glen
          rw [if_neg (by rw [q0, nn_eq (by omega) (by omega)]; exact e0), gget_at p3, ob1_some, ob1_some]
          refine fin a1 (fun p hp => ?_)
          rw [grd_at p3 hp (by omega)]
          exact congrArg some (p9 p hp)
      · rw [List.append_nil]
        exact (hR0.q ((Mq.refl _).en _ _ |>.en _ _) rfl (RRo.tl2 (mI M 0 0) ro.2 _ _)).less (by omega)
  · refine ⟨_, -1, hS, ?_, R7.ret0 ?_, Nat.le_refl _⟩
    · rintro G c n ⟨bu, old, lv, pg, qg, sc, h1, h2, h3⟩
      show ok (fX6_differs G 0 x) _
      unfold fX6_differs
      rcases nn_or x with hx | ⟨p, hp, rfl⟩
      · refine ift hx ?_
        exact C6.ret ⟨bu, old, lv, pg, qg, sc, h1, h2, h3⟩
      · refine ifn (by rw [nn_neg hp]; exact id) ?_
        refine sa1 h1.1.r0_4 ?_
        refine sa1 (fi_at (v := nn u) h1.1.g6 rfl) ?_
        refine ifn (by rw [nn_le hp (by omega)]; exact fun h => e ⟨p, h, rfl⟩) ?_
        exact C6.ret ⟨bu, old, lv, pg, qg, sc, h1, h2, h3⟩
    · intro A M B n Sf hR
      have h17 := hR.cur.2.2.2.2.2.1
      show fX7_differs A M B x = _
      unfold fX7_differs
      have hin : fX7_in x.toInt64 (0 : Int64) ((mI M 0 0).1 17).toInt64 = some (nn 0) := by
        rw [h17]
        rcases nn_or x with hx | ⟨p, hp, rfl⟩
        · exact in_neg hx
        · rw [in_nn hp (by omega), if_neg (fun h => e ⟨p, h, rfl⟩)]
      rw [zlt, hin, ob1_some, if_pos z0]
theorem op_differs : Op_differs Inv := by
  intro k G x hI
  exact op_act (f6 := fun G => fX6_differs G 0 x) (f7 := fun A M B => fX7_differs A M B x) hI (A_differs x)
