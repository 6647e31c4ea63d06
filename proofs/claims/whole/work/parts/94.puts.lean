/-! inserts, puts: the text is read -/
def badF (T : Nat → Nat) (m : Nat) : Nat := fstF (fun k => decide (¬ (1 ≤ T k ∧ T k ≤ 127))) 0 m
theorem badF_ok {T : Nat → Nat} {m j : Nat} (h : ¬ badF T m < m) (hj : j < m) : 1 ≤ T j ∧ T j ≤ 127 := by
  have := fstF_no (b := fun k => decide (¬ (1 ≤ T k ∧ T k ≤ 127))) (p := 0) (d := m) (k := j) (Nat.zero_le _) (by unfold badF at h; omega)
  simpa using this
theorem fstF_step {b : Nat → Bool} {k m : Nat} (h : k < m) : fstF b k (m - k) = if b k = true then k else fstF b (k + 1) (m - (k + 1)) := by
  rw [show m - k = m - (k + 1) + 1 by omega]
  rfl
theorem fault6 {G : zH} {a : TA} {ro : TR} {st : TS} {hi : TH} {ke : TK} {pg qg : TP} {sc : Nat → Int32} {T : Nat → Nat} {m : Nat} (h : FX G a ro st hi ke pg qg sc) (hT : ∀ i, i < 80 → a.1 i = nn (T i) ∧ T i ≤ 255) (hm : m ≤ 80) : fX6_firstThatIsNone G 0 (nn m) = some (if badF T m < m then nn (badF T m) else -1) := by
  have key : ∀ fu k, k ≤ m → m - k < fu → fstF (fun k => decide (¬ (1 ≤ T k ∧ T k ≤ 127))) k (m - k) = badF T m → fX6_firstThatIsNone_b2 G fu 0 (nn m) (nn k) = some (if badF T m < m then nn (badF T m) else -1) := by
    intro fu
    induction fu with
    | zero => intro k _ h; omega
    | succ fu ih =>
      intro k hk hfu hF
      unfold fX6_firstThatIsNone_b2
      rw [if_le (by omega) (by omega)]
      by_cases e : m ≤ k
      · rw [show m - k = 0 by omega] at hF
        have hF' : k = badF T m := hF
        rw [if_pos e, if_neg (by omega)]
      · obtain ⟨t1, t2⟩ := hT k (by omega)
        rw [if_neg e, h.r0_0, ob1_some, aL_at h.g1, ob1_some, if_le (by omega) (by omega), if_neg (by omega), ob1_some, aR_at h.g1 (by omega) (by omega), ob1_some, t1, isSign6_sp (by omega), ob1_some, q0, if_eq (by split <;> omega) (by omega)]
        rw [fstF_step (by omega)] at hF
        by_cases e1 : 1 ≤ T k ∧ T k ≤ 127
        · rw [if_neg (by simp only [decide_eq_true_eq]; exact fun x => x e1)] at hF
          rw [if_pos e1, if_neg (by omega), q1, nn_add, zlt]
          exact ih (k + 1) (by omega) (by omega) hF
        · rw [if_pos (by simp only [decide_eq_true_eq]; exact e1)] at hF
          rw [if_neg e1, if_pos rfl, if_pos (by omega), hF]
  unfold fX6_firstThatIsNone
  rw [q0]
  exact key FU 0 (by omega) (by rw [FU_eq]; omega) rfl
theorem fault7 {M : MS} {T : Nat → Nat} {m : Nat} (h5 : M.1 5 = nn m) (hT : ∀ i, i < 80 → M.2.1 3 i = nn (T i) ∧ T i ≤ 255) (hm : m ≤ 80) : fX7_faultOfText M = some (if badF T m < m then -1 - nn (badF T m) else 0) := by
  have key : ∀ fu k, k ≤ m → m - k < fu → fstF (fun k => decide (¬ (1 ≤ T k ∧ T k ≤ 127))) k (m - k) = badF T m → fX7_faultOfText_b2 M fu (nn k) = some (if badF T m < m then -1 - nn (badF T m) else 0) := by
    intro fu
    induction fu with
    | zero => intro k _ h; omega
    | succ fu ih =>
      intro k hk hfu hF
      unfold fX7_faultOfText_b2
      rw [h5, if_le (by omega) (by omega)]
      by_cases e : m ≤ k
      · rw [show m - k = 0 by omega] at hF
        have hF' : k = badF T m := hF
        rw [if_pos e, if_neg (by omega)]
      · obtain ⟨t1, t2⟩ := hT k (by omega)
        rw [if_neg e, rd_nn (show k < 80 by omega) (by omega), ob1_some, t1, in_lit (lo := 1) (hi := 127) (by omega) rfl rfl, ob1_some, q0, if_eq (by split <;> omega) (by omega)]
        rw [fstF_step (by omega)] at hF
        by_cases e1 : 1 ≤ T k ∧ T k ≤ 127
        · rw [if_neg (by simp only [decide_eq_true_eq]; exact fun x => x e1)] at hF
          rw [if_pos e1, if_neg (by omega), q1, nn_add, zlt]
          exact ih (k + 1) (by omega) (by omega) hF
        · rw [if_pos (by simp only [decide_eq_true_eq]; exact e1)] at hF
          rw [if_neg e1, if_pos rfl, if_pos (by omega), hF]
  unfold fX7_faultOfText
  rw [q0]
  exact key FU 0 (by omega) (by rw [FU_eq]; omega) rfl
theorem m1_neg {k : Nat} (h : k ≤ 80) : ¬ (0 : Int32) ≤ -1 - nn k := by
  rw [im1, nn_ii, ii_sub, q0, nn_le_ii (by omega) (by omega)]
  omega
section Put
variable {T St kd : Nat → Nat} {tx : Nat → Int32} {ts : Nat} {tb : Int32} {ro : TR} {st : TS} {s u f : Nat} {ke : TK} {W : Nat → LVa} {p m k : Nat}
theorem S_emp (hS : SA ((T, St, kd), (tx, ts, tb), ro, st, (s, u, f), ke, W)) : SA ((T, St, kd), (tx, 0, tb), ro, st, (s, u, f), ke, W) := by
  obtain ⟨s1, s2, s3, s4, s5, s6, s7⟩ := hS
  exact ⟨s1, ⟨Nat.zero_le _, s2.2⟩, s3, s4, s5, s6, s7⟩
theorem R_emp {A B : zH} {M : MS} {n : Nat} {Sf : SS} (hR : RS A M B n Sf ((T, St, kd), (tx, ts, tb), ro, st, (s, u, f), ke, W)) : fX7_empties (mI M 0 0) = some (nn ts, emp M) ∧ (emp M).1 5 = nn ts ∧ RS A (emp M) B n Sf ((T, St, kd), (tx, 0, tb), ro, st, (s, u, f), ke, W) := by
  obtain ⟨c, h6, hgo⟩ := hR.go0
  obtain ⟨c1, hcp, hfin⟩ := hgo (emp M)
  obtain ⟨r1, r2, r3, r4, r5, ⟨r6, r7, r8, r9⟩, r10, r11⟩ := h6
  have r1' : M.1 4 = nn ts := r1.2
  exact ⟨emp_sp r1', r1', hfin _ ⟨⟨r1.1, rfl⟩, r2, r3.cg rfl rfl rfl rfl, r4.cg rfl rfl, r5, ⟨r6, r7, fun k hk => hcp _ _ _ (r8 k hk), fun k hk => hcp _ _ _ (r9 k hk)⟩, fun j hj => ⟨(r10 j hj).1, fun e => hcp _ _ _ ((r10 j hj).2 e)⟩, r11⟩⟩
theorem R_tx {A B : zH} {M : MS} {n : Nat} {Sf : SS} (hR : RS A M B n Sf ((T, St, kd), (tx, ts, tb), ro, st, (s, u, f), ke, W)) (hS : SA ((T, St, kd), (tx, ts, tb), ro, st, (s, u, f), ke, W)) : ∀ i, i < 80 → M.2.1 3 i = nn (T i) ∧ T i ≤ 255 := fun i hi => ⟨hR.cur.2.2.2.2.1.1 i hi, (hS.1 i hi).2⟩
/-- the edit is begun, and what is to go is taken -/
theorem C_mid {G G0 : zH} {c c0 bu : Nat → Nat} {n old : Nat} {lv : Nat → Option Nat} {pg qg : TP} {sc : Nat → Int32} {K : zH → Nat → Option (Int32 × zH)} {Q : Int32 × zH → Prop} (h1 : Cl G c bu n (tx, ts, old, tb) ro st (s, u, f, lv) ke pg qg sc W) (hS : SA ((T, St, kd), (tx, ts, tb), ro, st, (s, u, f), ke, W)) (e : p + k ≤ sz (W s).1) (hf : Fo G0 c0 G c) (H : ∀ r G2 c2 b2 lv2, lv2 ((s + 1) % 31) = some r → Cl G2 c2 b2 n (tx, ts, 1, -1) ro st ((s + 1) % 31, min (u + 1) 30, 0, lv2) ke pg qg sc (va_up W ((s + 1) % 31) (if k = 0 then W s else (takP (W s).1 p k, goM p k (W s).2.1, (W s).2.2))) → Fo G0 c0 G2 c2 → ok (K G2 r) Q) : ok (ob2 (fX6_beginEdit G 0) fun r G1 => if nn k ≤ 0 then K G1 r else ob1 (isO G1 r 2) fun _ => ob1 (fX2_take G1 r (nn p) (nn k)) fun G2 => K G2 r) Q := by
  obtain ⟨⟨hv, ht⟩, hs, huf, hst⟩ := hS.cur
  have hz := hv.2.1
  have hwf := okP_wf hv.1
  have hlen := len_le_sz hwf
  refine ca2 (beginEdit6_sp h1 hs (by omega) (by omega) (fun k hk => (hv.2.2 k hk).2.2)) ?_
  rintro r4 G4 ⟨c4, b4, lv4, t1, t2, t3⟩
  have hs4 : (s + 1) % 31 < 31 := by omega
  by_cases e0 : k = 0
  · refine ift (by rw [e0]; decide) ?_
    refine H r4 G4 c4 b4 lv4 t1 ?_ (hf.trans t3)
    rw [if_pos e0]
    exact t2
  · refine ifn (by rw [q0, nn_le (by omega) (by omega)]; omega) ?_
    have hL := t2.lf hs4 t1
    rw [va_up_same] at hL
    refine sa1 hL.io ?_
    obtain ⟨d, hd⟩ := t2.rm (i := (s + 1) % 31) (by omega)
    refine ca1 (take_sp hL hwf e hz hv.2.2 hd) ?_
    rintro G5 ⟨c5, b5, l5, u5⟩
    refine H r4 G5 c5 (va_up b4 ((s + 1) % 31) b5) lv4 t1 ?_ (hf.trans (t3.trans (u5.1.fo (by omega))))
    rw [if_neg e0]
    exact t2.ed (w := (takP (W s).1 p k, goM p k (W s).2.1, (W s).2.2)) hs4 t1 u5 l5
theorem S_mid (hS : SA ((T, St, kd), (tx, ts, tb), ro, st, (s, u, f), ke, W)) (e : p + k ≤ sz (W s).1) : SA ((T, St, kd), (tx, ts, -1), ro, st, ((s + 1) % 31, min (u + 1) 30, 0), ke, va_up W ((s + 1) % 31) (if k = 0 then W s else (takP (W s).1 p k, goM p k (W s).2.1, (W s).2.2))) ∧ sz (if k = 0 then W s else (takP (W s).1 p k, goM p k (W s).2.1, (W s).2.2)).1 = sz (W s).1 - k := by
  by_cases e0 : k = 0
  · rw [if_pos e0]
    exact ⟨hS.edit, by omega⟩
  · rw [if_neg e0]
    exact ⟨S_take hS e, sz_takP e⟩
theorem R_mid {A B : zH} {M : MS} {n : Nat} {Sf : SS} (hR : RS A M B (n + 3016) Sf ((T, St, kd), (tx, ts, tb), ro, st, (s, u, f), ke, W)) (hS : SA ((T, St, kd), (tx, ts, tb), ro, st, (s, u, f), ke, W)) (e : p + k ≤ sz (W s).1) : ∃ M3 K, (∀ (F : MS → zH → Option (Int32 × MS × zH)), (ob2 (fX7_edits A M B) fun M1 B1 => if nn k ≤ 0 then F M1 B1 else ob2 (fX7_takesOut M1 (nn p) (nn k)) fun _ M2 => F M2 B1) = F M3 (B ++ K)) ∧ M3.1 5 = M.1 5 ∧ RS A M3 (B ++ K) n Sf ((T, St, kd), (tx, ts, -1), ro, st, ((s + 1) % 31, min (u + 1) 30, 0), ke, va_up W ((s + 1) % 31) (if k = 0 then W s else (takP (W s).1 p k, goM p k (W s).2.1, (W s).2.2))) := by
  obtain ⟨⟨hv, ht⟩, hs, huf, hst⟩ := hS.cur
  have hz := hv.2.1
  by_cases e0 : k = 0
  · obtain ⟨M1, K, e1, g1, g2, hR1⟩ := hR.edit hS
    refine ⟨M1, K, fun F => ?_, g1.1 5 (by decide) (by decide) (by decide), ?_⟩
    · rw [e1, ob2_some, if_pos (by rw [e0]; decide)]
    · rw [if_pos e0]
      exact hR1
  · obtain ⟨M1, K, e1, g1, g2, hR1⟩ := hR.edit hS
    have hc := hR1.cur
    rw [va_up_same] at hc
    obtain ⟨r3, r4, r5, -⟩ := hc
    obtain ⟨M2, f1, f2, f3, f4⟩ := takesOut7 (x := p) (n := k) (mk := (W s).2.1) (st := (W s).2.2) r4 r3 hv.1 ht r5 hv.2.2 e
    refine ⟨M2, K, fun F => ?_, (f4.1 5 (by decide)).trans (g1.1 5 (by decide) (by decide) (by decide)), ?_⟩
    · rw [e1, ob2_some, if_neg (by rw [q0, nn_le (by omega) (by omega)]; omega), f1, ob2_some]
    · rw [if_neg e0]
      refine hR1.upd (by omega) (by omega) f4.fe (f4.rst r3) ?_ ?_ (Or.inl ⟨rfl, (f4.1 21 (by decide)).trans g2⟩) (va_va_at _ _ _)
      · rw [va_up_same]
        exact f2
      · rw [va_up_same]
        exact f3
/-- the text comes in -/
theorem C85 {G G0 : zH} {c c0 bu : Nat → Nat} {n r : Nat} {lv : Nat → Option Nat} {pg qg : TP} {sc : Nat → Int32} (h1 : Cl G c bu n (tx, ts, 1, tb) ro st (s, u, f, lv) ke pg qg sc W) (hS : SA ((T, St, kd), (tx, ts, tb), ro, st, (s, u, f), ke, W)) (hr : lv s = some r) (hp : p ≤ sz (W s).1) (hz : sz (W s).1 + m ≤ 3000) (ha : st.2.1 + m ≤ 6000) (hm : m ≤ 80) (hm1 : 1 ≤ m) (hT : ∀ j, j < m → 1 ≤ T j ∧ T j ≤ 127) (hf : Fo G0 c0 G c) : ok (fX6_putInPlace_b85 G 0 (nn p) (nn m) r) fun z => z.1 = nn (sz (W s).1 + m) ∧ ∃ c1, CS z.2 c1 n ((T, stA St st.2.1 T m, kd), (tx, ts, tb), ro, (st.1, st.2.1 + m, adds st.2.2 st.2.1 tx m), (s, u, f), ke, va_up W s (insP (W s).1 p (1600 + st.2.1) m, comeM p m (W s).2.1 (W s).2.2, (W s).2.2)) ∧ Fo G0 c0 z.2 c1 := by
  obtain ⟨-, hs, -⟩ := hS.cur
  unfold fX6_putInPlace_b85
  refine ifn (by rw [q0, nn_le (by omega) (by omega)]; omega) ?_
  refine sa1 h1.1.r0_3 ?_
  refine sa1 h1.1.io4 ?_
  refine sa1 (addedEnd_sp h1.1) ?_
  refine sa1 (h1.lf hs hr).io ?_
  refine ca1 (C_ins h1 hS hr hp hm1 hz) ?_
  rintro G2 ⟨c2, b2, x1, x2⟩
  refine sa1 x1.1.r0_3 ?_
  refine sa1 x1.1.r0_0 ?_
  refine sa1 x1.1.io4 ?_
  refine ca1 (addText_sp (T := T) x1.1 x1.2.2.1 0 hm (fun j hj => ⟨(hS.1 j (by omega)).1, (hT j hj).2⟩) ha) ?_
  rintro G3 ⟨y1, y2⟩
  have x3 := x1.fx y1 y2 rfl rfl
  have hL := x3.lf hs hr
  rw [va_up_same] at hL
  unfold fX6_putInPlace_b115
  refine sa1 hL.n3 ?_
  exact ok_some ⟨by show nn _ = _; rw [sz_insP hp], c2, ⟨b2, 1, lv, pg, qg, sc, x3, Nat.le_refl _, fun h => absurd h (by decide)⟩, hf.trans (x2.trans (y2.1.fo (by omega)))⟩
theorem insText7 {A B : zH} {M : MS} {n : Nat} {Sf : SS} (hR : RS A M B n Sf ((T, St, kd), (tx, ts, tb), ro, st, (s, u, f), ke, W)) (hS : SA ((T, St, kd), (tx, ts, tb), ro, st, (s, u, f), ke, W)) (h5 : M.1 5 = nn m) (hp : p ≤ sz (W s).1) (hz : sz (W s).1 + m ≤ 3000) (ha : st.2.1 + m ≤ 6000) (hm : m ≤ 80) (hm1 : 1 ≤ m) (sg : Nat → Int32) : ∃ M2, fX7_insertsText M (nn p) = some M2 ∧ M2.1 11 = nn (sz (W s).1 + m) ∧ RS A M2 B n Sf ((T, stA St st.2.1 T m, kd), (tx, ts, tb), ro, (st.1, st.2.1 + m, sg), (s, u, f), ke, va_up W s (insP (W s).1 p (1600 + st.2.1) m, comeM p m (W s).2.1 (W s).2.2, (W s).2.2)) := by
  obtain ⟨r3, r4, r5, r11, r1, r6, r7⟩ := hR.cur
  have hT := R_tx hR hS
  obtain ⟨⟨hv, -⟩, hs, huf, hst⟩ := hS.cur
  have hgo := goesOn7 (M := M) r4 hv.1 hst.2.1 hst.2.2 r3.2.1 hp
  have key : ∀ fu k M', k ≤ m → m - k < fu → Ad M M' st.2.1 T k → ∃ M2, fX7_insertsText_b14 fu M' (nn p) (nn (if goB (W s).1 p st.2.1 then 1 else 0)) (nn st.2.1) (nn k) = some M2 ∧ M2.1 11 = nn (sz (W s).1 + m) ∧ RS A M2 B n Sf ((T, stA St st.2.1 T m, kd), (tx, ts, tb), ro, (st.1, st.2.1 + m, sg), (s, u, f), ke, va_up W s (insP (W s).1 p (1600 + st.2.1) m, comeM p m (W s).2.1 (W s).2.2, (W s).2.2)) := by
    intro fu
    induction fu with
    | zero => intro k M' _ h; omega
    | succ fu ih =>
      intro k M' hk hfu hA
      have h5' : M'.1 5 = nn m := (hA.1.1 5 (by decide)).trans h5
      unfold fX7_insertsText_b14
      rw [h5', if_le (by omega) (by omega)]
      by_cases e : m ≤ k
      · have : k = m := by omega
        subst this
        obtain ⟨g1, M2, g2, g3, g4, g5⟩ := R_ins hR hS hA hp hm1 hz ha sg
        rw [if_pos e]
        unfold fX7_insertsText_b55
        rw [h5', g2, ob1_some]
        exact ⟨M2, rfl, g3, g5⟩
      · rw [if_neg e, rd_nn (show k < 80 by omega) (by omega), ob1_some, hA.2.1, wr_nn (show st.2.1 + k < 6000 by omega) (by omega), ob1_some, nn_tn (by omega)]
        have h9 : (mA M' 7 (upd (M'.2.1 7) (st.2.1 + k) (M'.2.1 3 k))).1 9 = nn (st.2.1 + k) := hA.2.1
        rw [h9, q1, zlt, nn_add k 1, zlt]
        exact ih (k + 1) _ (by omega) (by omega) (hA.succ (by rw [hA.1.2.1 3 (by decide)]; exact (hT k (by omega)).1))
  unfold fX7_insertsText
  rw [hgo, ob1_some, r3.2.1, zlt, q0]
  exact key FU 0 M (by omega) (by rw [FU_eq]; omega) (Ad.zero r3.2.1)
end Put
