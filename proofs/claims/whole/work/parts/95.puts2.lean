/-! inserts, puts -/
section Put2
variable {T St kd : Nat → Nat} {tx : Nat → Int32} {ts : Nat} {tb : Int32} {ro : TR} {st : TS} {s u f : Nat} {ke : TK} {W : Nat → LVa} {p m k : Nat}
theorem put_no {G : zH} {c bu : Nat → Nat} {n old : Nat} {lv : Nat → Option Nat} {pg qg : TP} {sc : Nat → Int32} {x y : Int32} (h1 : Cl G c bu n (tx, ts, old, tb) ro st (s, u, f, lv) ke pg qg sc W) (hS : SA ((T, St, kd), (tx, ts, tb), ro, st, (s, u, f), ke, W)) (h2 : old ≤ 1) (h3 : old = 0 → PgTo pg (W s).1 St (sz (W s).1)) (hno : ∀ p k, p < 2147483648 → k < 2147483648 → x = nn p → y = nn k → ¬ p + k ≤ sz (W s).1) : ok (fX6_putInPlace G 0 x y (nn m)) fun z => z.1 = -100 ∧ ∃ c1, CS z.2 c1 n ((T, St, kd), (tx, ts, tb), ro, st, (s, u, f), ke, W) ∧ Fo G c z.2 c1 := by
  obtain ⟨⟨hv, ht⟩, hs, huf, hst⟩ := hS.cur
  have hz := hv.2.1
  unfold fX6_putInPlace
  refine sa1 h1.1.io0 ?_
  rcases nn_or x with hx | ⟨p, hp, rfl⟩
  · refine sa2 (show fX6_hasSigns G 0 x y = some (0, G) by unfold fX6_hasSigns; rw [if_pos hx]) ?_
    refine ift rfl ?_
    exact ok_some ⟨rfl, c, ⟨bu, old, lv, pg, qg, sc, h1, h2, h3⟩, Fo.refl _ _⟩
  · rcases nn_or y with hy | ⟨k, hk, rfl⟩
    · refine sa2 (show fX6_hasSigns G 0 (nn p) y = some (0, G) by unfold fX6_hasSigns; rw [if_neg (by rw [nn_neg hp]; exact id), if_pos hy]) ?_
      refine ift rfl ?_
      exact ok_some ⟨rfl, c, ⟨bu, old, lv, pg, qg, sc, h1, h2, h3⟩, Fo.refl _ _⟩
    · refine ca2 (hasSigns_sp h1 hs hz hp hk) ?_
      rintro v G2 ⟨z1, c1, b1, lv1, z2, z3, -⟩
      change v = _ at z1
      subst z1
      refine ift (by rw [if_neg (hno p k hp hk rfl rfl)]; rfl) ?_
      exact ok_some ⟨rfl, c1, ⟨b1, old, lv1, pg, qg, sc, z2, h2, h3⟩, z3⟩
theorem put_pre {G : zH} {c bu : Nat → Nat} {n old : Nat} {lv : Nat → Option Nat} {pg qg : TP} {sc : Nat → Int32} {Q : Int32 × zH → Prop} (h1 : Cl G c bu n (tx, ts, old, tb) ro st (s, u, f, lv) ke pg qg sc W) (hS : SA ((T, St, kd), (tx, ts, tb), ro, st, (s, u, f), ke, W)) (e : p + k ≤ sz (W s).1) (H : ∀ G1 c1 bu1 lv1, Cl G1 c1 bu1 n (tx, ts, old, tb) ro st (s, u, f, lv1) ke pg qg sc W → Fo G c G1 c1 → ok (if nn (sz (W s).1 - k + m) ≤ (3000 : Int32) then (if nn (st.2.1 + m) ≤ (6000 : Int32) then (if nn k = 0 then (if nn m = 0 then (some (nn (sz (W s).1), G1)) else fX6_putInPlace_b68 G1 0 (nn p) (nn k) (nn m)) else fX6_putInPlace_b68 G1 0 (nn p) (nn k) (nn m)) else some ((-102 : Int32), G1)) else some ((-101 : Int32), G1)) Q) : ok (fX6_putInPlace G 0 (nn p) (nn k) (nn m)) Q := by
  obtain ⟨⟨hv, ht⟩, hs, huf, hst⟩ := hS.cur
  have hz := hv.2.1
  unfold fX6_putInPlace
  refine sa1 h1.1.io0 ?_
  refine ca2 (hasSigns_sp h1 hs hz (by omega) (by omega)) ?_
  rintro v G2 ⟨z1, c1, b1, lv1, z2, z3, -⟩
  change v = _ at z1
  subst z1
  refine ifn (by rw [if_pos e]; decide) ?_
  refine sa1 z2.1.r0_4 ?_
  refine sa1 z2.1.io6 ?_
  refine ca2 (current_sp z2 hs) ?_
  rintro r G3 ⟨c3, b3, lv3, x1, x2, x3, x4⟩
  have hL := x2.lf hs x1
  refine sa1 hL.n3 ?_
  rw [nn_sub (by omega), nn_add]
  have hh := H G3 c3 b3 lv3 x2 (z3.trans x3)
  by_cases e1 : nn (sz (W s).1 - k + m) ≤ (3000 : Int32)
  · rw [if_pos e1] at hh
    refine ift e1 ?_
    refine sa1 x2.1.r0_3 ?_
    refine sa1 (fi_at (v := nn st.2.1) x2.1.g4 rfl) ?_
    rw [nn_add]
    exact hh
  · rw [if_neg e1] at hh
    exact ifn e1 hh
theorem C68 {G G0 : zH} {c c0 bu : Nat → Nat} {n old : Nat} {lv : Nat → Option Nat} {pg qg : TP} {sc : Nat → Int32} {Q : Int32 × zH → Prop} (h1 : Cl G c bu n (tx, ts, old, tb) ro st (s, u, f, lv) ke pg qg sc W) (hS : SA ((T, St, kd), (tx, ts, tb), ro, st, (s, u, f), ke, W)) (e : p + k ≤ sz (W s).1) (hf : Fo G0 c0 G c) (H : ∀ r G2 c2 b2 lv2, lv2 ((s + 1) % 31) = some r → Cl G2 c2 b2 n (tx, ts, 1, -1) ro st ((s + 1) % 31, min (u + 1) 30, 0, lv2) ke pg qg sc (va_up W ((s + 1) % 31) (if k = 0 then W s else (takP (W s).1 p k, goM p k (W s).2.1, (W s).2.2))) → Fo G0 c0 G2 c2 → ok (fX6_putInPlace_b85 G2 0 (nn p) (nn m) r) Q) : ok (fX6_putInPlace_b68 G 0 (nn p) (nn k) (nn m)) Q := by
  unfold fX6_putInPlace_b68
  refine sa1 h1.1.io0 ?_
  exact C_mid (K := fun G2 r => fX6_putInPlace_b85 G2 0 (nn p) (nn m) r) h1 hS e hf H
/-- all of it: what the class does, where the reference does alike -/
theorem put_all (hS : SA ((T, St, kd), (tx, ts, tb), ro, st, (s, u, f), ke, W)) (e : p + k ≤ sz (W s).1) (hm : m ≤ 80) (hT : ∀ j, j < m → 1 ≤ T j ∧ T j ≤ 127) (F : zH → MS → zH → Option (Int32 × MS × zH)) (h101 : 3000 < sz (W s).1 - k + m → ∀ A M B n Sf, RS A M B n Sf ((T, St, kd), (tx, ts, tb), ro, st, (s, u, f), ke, W) → M.1 5 = nn m → F A M B = some (-101, M, B)) (h102 : ¬ 3000 < sz (W s).1 - k + m → 6000 < st.2.1 + m → ∀ A M B n Sf, RS A M B n Sf ((T, St, kd), (tx, ts, tb), ro, st, (s, u, f), ke, W) → M.1 5 = nn m → F A M B = some (-102, M, B)) (h0 : k = 0 → m = 0 → ∀ A M B n Sf, RS A M B n Sf ((T, St, kd), (tx, ts, tb), ro, st, (s, u, f), ke, W) → M.1 5 = nn m → F A M B = some (nn (sz (W s).1), M, B)) (h1 : ¬ 3000 < sz (W s).1 - k + m → ¬ 6000 < st.2.1 + m → ¬ (k = 0 ∧ m = 0) → ∀ A M B n Sf, RS A M B (n + 3016) Sf ((T, St, kd), (tx, ts, tb), ro, st, (s, u, f), ke, W) → M.1 5 = nn m → F A M B = ob2 (fX7_edits A M B) fun M1 B1 => if nn k ≤ 0 then fX7_puts_b108 A M1 B1 (nn p) else ob2 (fX7_takesOut M1 (nn p) (nn k)) fun _ M2 => fX7_puts_b108 A M2 B1 (nn p)) : ∃ S1 r, SA S1 ∧ C6 ((T, St, kd), (tx, ts, tb), ro, st, (s, u, f), ke, W) S1 r (fun G => fX6_putInPlace G 0 (nn p) (nn k) (nn m)) ∧ (∀ A M B n Sf, RS A M B (n + 3016) Sf ((T, St, kd), (tx, ts, tb), ro, st, (s, u, f), ke, W) → M.1 5 = nn m → ∃ M1 K, F A M B = some (r, M1, B ++ K) ∧ RS A M1 (B ++ K) n Sf S1) ∧ tsOf S1 ≤ ts := by
  obtain ⟨⟨hv, ht⟩, hs, huf, hst⟩ := hS.cur
  have hz := hv.2.1
  have han := hst.2.2
  have stay : ∀ r : Int32, C6 ((T, St, kd), (tx, ts, tb), ro, st, (s, u, f), ke, W) ((T, St, kd), (tx, ts, tb), ro, st, (s, u, f), ke, W) r (fun G => fX6_putInPlace G 0 (nn p) (nn k) (nn m)) → (∀ A M B n Sf, RS A M B n Sf ((T, St, kd), (tx, ts, tb), ro, st, (s, u, f), ke, W) → M.1 5 = nn m → F A M B = some (r, M, B)) → ∃ S1 r, SA S1 ∧ C6 ((T, St, kd), (tx, ts, tb), ro, st, (s, u, f), ke, W) S1 r (fun G => fX6_putInPlace G 0 (nn p) (nn k) (nn m)) ∧ (∀ A M B n Sf, RS A M B (n + 3016) Sf ((T, St, kd), (tx, ts, tb), ro, st, (s, u, f), ke, W) → M.1 5 = nn m → ∃ M1 K, F A M B = some (r, M1, B ++ K) ∧ RS A M1 (B ++ K) n Sf S1) ∧ tsOf S1 ≤ ts := by
    intro r hC hR7
    refine ⟨_, r, hS, hC, ?_, Nat.le_refl _⟩
    intro A M B n Sf hR h5
    refine ⟨M, [], ?_, ?_⟩
    · rw [List.append_nil]
      exact hR7 A M B _ Sf hR h5
    · rw [List.append_nil]
      exact hR.less (by omega)
  by_cases e1 : 3000 < sz (W s).1 - k + m
  · refine stay (-101) ?_ (h101 e1)
    rintro G c n ⟨bu, old, lv, pg, qg, sc, g1, g2, g3⟩
    refine put_pre g1 hS e ?_
    intro G1 c1 b1 lv1 x1 x2
    refine ifn (by rw [q3000, nn_le (by omega) (by omega)]; omega) ?_
    exact ok_some ⟨rfl, c1, ⟨b1, old, lv1, pg, qg, sc, x1, g2, g3⟩, x2⟩
  · by_cases e2 : 6000 < st.2.1 + m
    · refine stay (-102) ?_ (h102 e1 e2)
      rintro G c n ⟨bu, old, lv, pg, qg, sc, g1, g2, g3⟩
      refine put_pre g1 hS e ?_
      intro G1 c1 b1 lv1 x1 x2
      refine ift (by rw [q3000, nn_le (by omega) (by omega)]; omega) ?_
      refine ifn (by rw [q6000, nn_le (by omega) (by omega)]; omega) ?_
      exact ok_some ⟨rfl, c1, ⟨b1, old, lv1, pg, qg, sc, x1, g2, g3⟩, x2⟩
    · by_cases e3 : k = 0 ∧ m = 0
      · refine stay (nn (sz (W s).1)) ?_ (h0 e3.1 e3.2)
        rintro G c n ⟨bu, old, lv, pg, qg, sc, g1, g2, g3⟩
        refine put_pre g1 hS e ?_
        intro G1 c1 b1 lv1 x1 x2
        refine ift (by rw [q3000, nn_le (by omega) (by omega)]; omega) ?_
        refine ift (by rw [q6000, nn_le (by omega) (by omega)]; omega) ?_
        refine ift (by rw [e3.1]; rfl) ?_
        refine ift (by rw [e3.2]; rfl) ?_
        exact ok_some ⟨rfl, c1, ⟨b1, old, lv1, pg, qg, sc, x1, g2, g3⟩, x2⟩
      · have c6 : ∀ (G : zH) (c : Nat → Nat) (n : Nat) (Q : Int32 × zH → Prop), CS G c n ((T, St, kd), (tx, ts, tb), ro, st, (s, u, f), ke, W) → (∀ r G2 c2 b2 lv2 pg qg sc, lv2 ((s + 1) % 31) = some r → Cl G2 c2 b2 n (tx, ts, 1, -1) ro st ((s + 1) % 31, min (u + 1) 30, 0, lv2) ke pg qg sc (va_up W ((s + 1) % 31) (if k = 0 then W s else (takP (W s).1 p k, goM p k (W s).2.1, (W s).2.2))) → Fo G c G2 c2 → ok (fX6_putInPlace_b85 G2 0 (nn p) (nn m) r) Q) → ok (fX6_putInPlace G 0 (nn p) (nn k) (nn m)) Q := by
          rintro G c n Q ⟨bu, old, lv, pg, qg, sc, g1, g2, g3⟩ H
          refine put_pre g1 hS e ?_
          intro G1 c1 b1 lv1 x1 x2
          refine ift (by rw [q3000, nn_le (by omega) (by omega)]; omega) ?_
          refine ift (by rw [q6000, nn_le (by omega) (by omega)]; omega) ?_
          have hb : ok (fX6_putInPlace_b68 G1 0 (nn p) (nn k) (nn m)) Q := C68 x1 hS e x2 (fun r G2 c2 b2 lv2 z1 z2 z3 => H r G2 c2 b2 lv2 pg qg sc z1 z2 z3)
          by_cases e4 : k = 0
          · refine ift (by rw [e4]; rfl) ?_
            refine ifn (by rw [q0, nn_eq (by omega) (by omega)]; exact fun x => e3 ⟨e4, x⟩) ?_
            exact hb
          · refine ifn (by rw [q0, nn_eq (by omega) (by omega)]; exact e4) ?_
            exact hb
        obtain ⟨hM, hsz⟩ := S_mid hS e
        have hs' : (s + 1) % 31 < 31 := by omega
        have hWs : (va_up W ((s + 1) % 31) (if k = 0 then W s else (takP (W s).1 p k, goM p k (W s).2.1, (W s).2.2))) ((s + 1) % 31) = (if k = 0 then W s else (takP (W s).1 p k, goM p k (W s).2.1, (W s).2.2)) := va_up_same _ _ _
        by_cases e4 : m = 0
        · refine ⟨_, nn (sz (W s).1 - k), hM, ?_, ?_, Nat.le_refl _⟩
          · intro G c n hC
            refine c6 G c n _ hC ?_
            intro r G2 c2 b2 lv2 pg qg sc z1 z2 z3
            unfold fX6_putInPlace_b85
            refine ift (by rw [e4]; decide) ?_
            unfold fX6_putInPlace_b115
            have hL := z2.lf hs' z1
            refine sa1 hL.n3 ?_
            exact ok_some ⟨by show nn _ = _; rw [hWs, hsz], c2, ⟨b2, 1, lv2, pg, qg, sc, z2, Nat.le_refl _, fun h => absurd h (by decide)⟩, z3⟩
          · intro A M B n Sf hR h5
            obtain ⟨M3, K, g1, g2, g3⟩ := R_mid hR hS e
            refine ⟨M3, K, ?_, g3⟩
            have h11 := g3.cur.2.1.1
            rw [hWs, hsz] at h11
            rw [h1 e1 e2 e3 A M B _ Sf hR h5, g1 (fun M1 B1 => fX7_puts_b108 A M1 B1 (nn p))]
            unfold fX7_puts_b108 fX7_puts_b120
            rw [g2, h5, if_pos (by rw [e4]; decide), h11]
        · have hp' : p ≤ sz ((va_up W ((s + 1) % 31) (if k = 0 then W s else (takP (W s).1 p k, goM p k (W s).2.1, (W s).2.2))) ((s + 1) % 31)).1 := by rw [hWs, hsz]; omega
          have hz' : sz ((va_up W ((s + 1) % 31) (if k = 0 then W s else (takP (W s).1 p k, goM p k (W s).2.1, (W s).2.2))) ((s + 1) % 31)).1 + m ≤ 3000 := by rw [hWs, hsz]; omega
          refine ⟨_, nn (sz (W s).1 - k + m), S_ins hM hp' (show 1 ≤ m by omega) hz' (show st.2.1 + m ≤ 6000 by omega) (tf := tx) (t := T) (fun j hj => ⟨(hS.1 j (by omega)).1, hT j hj⟩) (-1), ?_, ?_, Nat.le_refl _⟩
          · intro G c n hC
            refine c6 G c n _ hC ?_
            intro r G2 c2 b2 lv2 pg qg sc z1 z2 z3
            have := C85 z2 hM z1 hp' hz' (by omega) hm (by omega) hT z3
            rw [show nn (sz ((va_up W ((s + 1) % 31) (if k = 0 then W s else (takP (W s).1 p k, goM p k (W s).2.1, (W s).2.2))) ((s + 1) % 31)).1 + m) = nn (sz (W s).1 - k + m) by rw [hWs, hsz]] at this
            exact this
          · intro A M B n Sf hR h5
            obtain ⟨M3, K, g1, g2, g3⟩ := R_mid hR hS e
            obtain ⟨M4, d1, d2, d3⟩ := insText7 g3 hM (g2.trans h5) hp' hz' (by omega) hm (by omega) (adds st.2.2 st.2.1 tx m)
            refine ⟨M4, K, ?_, d3⟩
            rw [hWs, hsz] at d2
            rw [h1 e1 e2 e3 A M B _ Sf hR h5, g1 (fun M1 B1 => fX7_puts_b108 A M1 B1 (nn p))]
            unfold fX7_puts_b108 fX7_puts_b120
            rw [g2, h5, if_neg (by rw [q0, nn_le (by omega) (by omega)]; omega), d1, ob1_some, d2]
/-- the text is read; then as the rest says -/
theorem txt_all {g6 : zH → Option (Int32 × zH)} {g7 : zH → MS → zH → Option (Int32 × MS × zH)} {h6 : Int32 → zH → Option (Int32 × zH)} {h7 : zH → MS → zH → Option (Int32 × MS × zH)} (hS : SA ((T, St, kd), (tx, ts, tb), ro, st, (s, u, f), ke, W)) (hg6 : ∀ G, g6 G = ob1 (isO G 0 6) fun _ => ob2 (fX6_readText G 0) fun v4 G3 => ob1 (isO G3 0 6) fun _ => ob1 (fX6_firstThatIsNone G3 0 v4) fun v7 => if v7 = (-1 : Int32) then h6 v4 G3 else some (((-1 : Int32) - v7), G3)) (hg7 : ∀ A M B, g7 A M B = zlet (mI M 0 (0 : Int32)) fun M1 => ob2 (fX7_empties M1) fun _ M2 => ob1 (fX7_faultOfText M2) fun v4 => if 0 ≤ v4 then h7 A M2 B else some (v4, M2, B)) (H : (∀ j, j < ts → 1 ≤ T j ∧ T j ≤ 127) → ∃ S1 r, SA S1 ∧ C6 ((T, St, kd), (tx, 0, tb), ro, st, (s, u, f), ke, W) S1 r (h6 (nn ts)) ∧ (∀ A M B n Sf, RS A M B (n + 3016) Sf ((T, St, kd), (tx, 0, tb), ro, st, (s, u, f), ke, W) → M.1 5 = nn ts → ∃ M1 K, h7 A M B = some (r, M1, B ++ K) ∧ RS A M1 (B ++ K) n Sf S1) ∧ tsOf S1 ≤ ts) : ∃ S1 r, SA S1 ∧ C6 ((T, St, kd), (tx, ts, tb), ro, st, (s, u, f), ke, W) S1 r g6 ∧ R7 ((T, St, kd), (tx, ts, tb), ro, st, (s, u, f), ke, W) S1 r g7 ∧ tsOf S1 ≤ ts := by
  have hts : ts ≤ 80 := hS.2.1.1
  have c6 : ∀ G c n (Q : Int32 × zH → Prop), CS G c n ((T, St, kd), (tx, ts, tb), ro, st, (s, u, f), ke, W) → (∀ G3, CS G3 c n ((T, St, kd), (tx, 0, tb), ro, st, (s, u, f), ke, W) → Fo G c G3 c → ok (if (if badF T ts < ts then nn (badF T ts) else -1) = (-1 : Int32) then h6 (nn ts) G3 else some (((-1 : Int32) - (if badF T ts < ts then nn (badF T ts) else -1)), G3)) Q) → ok (g6 G) Q := by
    rintro G c n Q ⟨bu, old, lv, pg, qg, sc, h1, h2, h3⟩ HH
    rw [hg6]
    refine sa1 h1.1.io0 ?_
    refine ca2 (readText6 h1) ?_
    rintro v4 G3 ⟨hv, x1, x2⟩
    change v4 = nn ts at hv
    subst hv
    refine sa1 x1.1.io0 ?_
    refine sa1 (fault6 (T := T) x1.1 hS.1 hts) ?_
    exact HH G3 ⟨bu, old, lv, pg, qg, sc, x1, h2, h3⟩ x2
  by_cases e : badF T ts < ts
  · refine ⟨((T, St, kd), (tx, 0, tb), ro, st, (s, u, f), ke, W), -1 - nn (badF T ts), S_emp hS, ?_, ?_, Nat.zero_le _⟩
    · intro G c n h
      refine c6 G c n _ h ?_
      intro G3 x1 x2
      rw [if_pos e]
      refine ifn (nn_ne_m1 (by omega)) ?_
      exact ok_some ⟨rfl, c, x1, x2⟩
    · intro A M B n Sf hR
      obtain ⟨a1, a2, a3⟩ := R_emp hR
      refine ⟨emp M, [], ?_, ?_⟩
      · rw [hg7, zlt, a1, ob2_some, fault7 (T := T) a2 (R_tx a3 (S_emp hS)) hts, ob1_some, if_pos e, if_neg (m1_neg (by omega)), List.append_nil]
      · rw [List.append_nil]
        exact a3.less (by omega)
  · obtain ⟨S1, r, k1, k2, k3, k4⟩ := H (fun j hj => badF_ok e hj)
    refine ⟨S1, r, k1, ?_, ?_, k4⟩
    · intro G c n h
      refine c6 G c n _ h ?_
      intro G3 x1 x2
      rw [if_neg e]
      refine ift rfl ?_
      refine ok_imp (k2 G3 c n x1) ?_
      rintro z ⟨z1, c1, z2, z3⟩
      exact ⟨z1, c1, z2, x2.trans z3⟩
    · intro A M B n Sf hR
      obtain ⟨a1, a2, a3⟩ := R_emp hR
      obtain ⟨M1, K, d1, d2⟩ := k3 A (emp M) B n Sf a3 a2
      refine ⟨M1, K, ?_, d2⟩
      rw [hg7, zlt, a1, ob2_some, fault7 (T := T) a2 (R_tx a3 (S_emp hS)) hts, ob1_some, if_neg e, if_pos (by decide)]
      exact d1
end Put2
theorem ob2_id {x : Option (Int32 × zH)} : (ob2 x fun v G => some (v, G)) = x := by
  cases x with
  | none => rfl
  | some z => rfl
theorem A_puts (x y : Int32) : ∀ S, SA S → ∃ S1 r, SA S1 ∧ C6 S S1 r (fun G => fX6_puts G 0 x y) ∧ R7 S S1 r (fun A M B => fX7_puts A M B x y) ∧ tsOf S1 ≤ tsOf S := by
  rintro ⟨⟨T, St, kd⟩, ⟨tx, ts, tb⟩, ro, st, ⟨s, u, f⟩, ke, W⟩ hS
  have hts : ts ≤ 80 := hS.2.1.1
  obtain ⟨⟨hv, ht⟩, hs, huf, hst⟩ := hS.cur
  have hz := hv.2.1
  refine txt_all (h6 := fun v4 G3 => ob1 (isO G3 0 6) fun _ => ob2 (fX6_putInPlace G3 0 x y v4) fun v12 G11 => some (v12, G11)) (h7 := fun A M2 B => if y < 0 then (some ((-100 : Int32), M2, B)) else if x < 0 then (some ((-100 : Int32), M2, B)) else if (lg_cmp (x.toInt64 + y.toInt64) ((M2.1 11).toInt64)) ≤ 0 then (if (((M2.1 11) - y) + (M2.1 5)) ≤ (3000 : Int32) then (if ((M2.1 9) + (M2.1 5)) ≤ (6000 : Int32) then (if (y + (M2.1 5)) ≤ 0 then (fX7_puts_b120 A M2 B) else ob2 (fX7_edits A M2 B) fun M12 B13 => if y ≤ 0 then (fX7_puts_b108 A M12 B13 x) else ob2 (fX7_takesOut M12 x y) fun v16 M15 => fX7_puts_b108 A M15 B13 x) else some ((-102 : Int32), M2, B)) else some ((-101 : Int32), M2, B)) else some ((-100 : Int32), M2, B)) hS (fun _ => rfl) (fun _ _ _ => rfl) ?_
  intro hT
  have hS0 := S_emp hS
  have no : (∀ p k, p < 2147483648 → k < 2147483648 → x = nn p → y = nn k → ¬ p + k ≤ sz (W s).1) → C6 ((T, St, kd), (tx, 0, tb), ro, st, (s, u, f), ke, W) ((T, St, kd), (tx, 0, tb), ro, st, (s, u, f), ke, W) (-100) (fun G3 => ob1 (isO G3 0 6) fun _ => ob2 (fX6_putInPlace G3 0 x y (nn ts)) fun v12 G11 => some (v12, G11)) := by
    rintro hno G c n ⟨bu, old, lv, pg, qg, sc, h1, h2, h3⟩
    refine sa1 h1.1.io0 ?_
    rw [ob2_id]
    exact put_no h1 hS0 h2 h3 hno
  have no7 : ∀ (F : zH → MS → zH → Option (Int32 × MS × zH)), (∀ A M B n Sf, RS A M B n Sf ((T, St, kd), (tx, 0, tb), ro, st, (s, u, f), ke, W) → F A M B = some (-100, M, B)) → ∀ A M B n Sf, RS A M B (n + 3016) Sf ((T, St, kd), (tx, 0, tb), ro, st, (s, u, f), ke, W) → M.1 5 = nn ts → ∃ M1 K, F A M B = some (-100, M1, B ++ K) ∧ RS A M1 (B ++ K) n Sf ((T, St, kd), (tx, 0, tb), ro, st, (s, u, f), ke, W) := by
    intro F hF A M B n Sf hR h5
    refine ⟨M, [], ?_, ?_⟩
    · rw [List.append_nil]
      exact hF A M B _ Sf hR
    · rw [List.append_nil]
      exact hR.less (by omega)
  rcases nn_or y with hy | ⟨k, hk, rfl⟩
  · refine ⟨_, -100, hS0, no ?_, no7 _ ?_, Nat.zero_le _⟩
    · intro p k hp hk e1 e2
      exact absurd hy (by rw [e2, nn_neg hk]; exact id)
    · intro A M B n Sf hR
      exact if_pos hy
  · have hy0 : ¬ nn k < 0 := by rw [nn_neg hk]; exact id
    rcases nn_or x with hx | ⟨p, hp, rfl⟩
    · refine ⟨_, -100, hS0, no ?_, no7 _ ?_, Nat.zero_le _⟩
      · intro p k hp hk e1 e2
        exact absurd hx (by rw [e1, nn_neg hp]; exact id)
      · intro A M B n Sf hR
        show (if nn k < 0 then _ else _) = _
        rw [if_neg hy0, if_pos hx]
    · have hx0 : ¬ nn p < 0 := by rw [nn_neg hp]; exact id
      by_cases e : p + k ≤ sz (W s).1
      · have hcc : ∀ A M B n Sf, RS A M B n Sf ((T, St, kd), (tx, 0, tb), ro, st, (s, u, f), ke, W) → M.1 5 = nn ts → (if nn k < 0 then (some ((-100 : Int32), M, B)) else if nn p < 0 then (some ((-100 : Int32), M, B)) else if (lg_cmp ((nn p).toInt64 + (nn k).toInt64) ((M.1 11).toInt64)) ≤ 0 then (if (((M.1 11) - nn k) + (M.1 5)) ≤ (3000 : Int32) then (if ((M.1 9) + (M.1 5)) ≤ (6000 : Int32) then (if (nn k + (M.1 5)) ≤ 0 then (fX7_puts_b120 A M B) else ob2 (fX7_edits A M B) fun M12 B13 => if nn k ≤ 0 then (fX7_puts_b108 A M12 B13 (nn p)) else ob2 (fX7_takesOut M12 (nn p) (nn k)) fun v16 M15 => fX7_puts_b108 A M15 B13 (nn p)) else some ((-102 : Int32), M, B)) else some ((-101 : Int32), M, B)) else some ((-100 : Int32), M, B)) = (if sz (W s).1 - k + ts ≤ 3000 then (if st.2.1 + ts ≤ 6000 then (if k + ts ≤ 0 then (fX7_puts_b120 A M B) else ob2 (fX7_edits A M B) fun M12 B13 => if nn k ≤ 0 then (fX7_puts_b108 A M12 B13 (nn p)) else ob2 (fX7_takesOut M12 (nn p) (nn k)) fun v16 M15 => fX7_puts_b108 A M15 B13 (nn p)) else some ((-102 : Int32), M, B)) else some ((-101 : Int32), M, B)) := by
          intro A M B n Sf hR h5
          obtain ⟨r3, r4, -⟩ := hR.cur
          have han := hst.2.2
          rw [if_neg hy0, if_neg hx0, if_pos (by rw [cmp_len r4.1 hz hp hk]; exact e), r4.1, h5, r3.2.1, nn_sub (by omega), nn_add, nn_add, nn_add, q3000, q6000, q0, if_le (by omega) (by omega), if_le (by omega) (by omega), if_le (by omega) (by omega)]
        obtain ⟨S1, r, k1, k2, k3, k4⟩ := put_all (p := p) (k := k) (m := ts) hS0 e hts hT (fun A M B => if nn k < 0 then (some ((-100 : Int32), M, B)) else if nn p < 0 then (some ((-100 : Int32), M, B)) else if (lg_cmp ((nn p).toInt64 + (nn k).toInt64) ((M.1 11).toInt64)) ≤ 0 then (if (((M.1 11) - nn k) + (M.1 5)) ≤ (3000 : Int32) then (if ((M.1 9) + (M.1 5)) ≤ (6000 : Int32) then (if (nn k + (M.1 5)) ≤ 0 then (fX7_puts_b120 A M B) else ob2 (fX7_edits A M B) fun M12 B13 => if nn k ≤ 0 then (fX7_puts_b108 A M12 B13 (nn p)) else ob2 (fX7_takesOut M12 (nn p) (nn k)) fun v16 M15 => fX7_puts_b108 A M15 B13 (nn p)) else some ((-102 : Int32), M, B)) else some ((-101 : Int32), M, B)) else some ((-100 : Int32), M, B)) (by
          intro e1 A M B n Sf hR h5
          refine (hcc A M B _ Sf hR h5).trans ?_
          rw [if_neg (by omega)]) (by
          intro e1 e2 A M B n Sf hR h5
          refine (hcc A M B _ Sf hR h5).trans ?_
          rw [if_pos (by omega), if_neg (by omega)]) (by
          intro e1 e2 A M B n Sf hR h5
          have han := hst.2.2
          refine (hcc A M B _ Sf hR h5).trans ?_
          rw [if_pos (by omega), if_pos (by omega), if_pos (by omega)]
          unfold fX7_puts_b120
          rw [hR.cur.2.1.1]) (by
          intro e1 e2 e3 A M B n Sf hR h5
          refine (hcc A M B _ Sf hR h5).trans ?_
          rw [if_pos (by omega), if_pos (by omega), if_neg (by omega)])
        refine ⟨S1, r, k1, ?_, k3, Nat.le_trans k4 (Nat.zero_le _)⟩
        rintro G c n ⟨bu, old, lv, pg, qg, sc, h1, h2, h3⟩
        refine sa1 h1.1.io0 ?_
        rw [ob2_id]
        exact k2 G c n ⟨bu, old, lv, pg, qg, sc, h1, h2, h3⟩
      · refine ⟨_, -100, hS0, no ?_, no7 _ ?_, Nat.zero_le _⟩
        · intro p' k' hp' hk' e1 e2
          rw [← nn_inj hp hp' e1, ← nn_inj hk hk' e2]
          exact e
        · intro A M B n Sf hR
          obtain ⟨r3, r4, -⟩ := hR.cur
          show (if nn k < 0 then _ else _) = _
          rw [if_neg hy0, if_neg hx0, if_neg (by rw [cmp_len r4.1 hz hp hk]; exact e)]
theorem op_puts : Op_puts Inv := by
  intro k G x y hI
  exact op_act (f6 := fun G => fX6_puts G 0 x y) (f7 := fun A M B => fX7_puts A M B x y) hI (A_puts x y)
theorem A_inserts (x : Int32) : ∀ S, SA S → ∃ S1 r, SA S1 ∧ C6 S S1 r (fun G => fX6_inserts G 0 x) ∧ R7 S S1 r (fun A M B => fX7_inserts A M B x) ∧ tsOf S1 ≤ tsOf S := by
  rintro ⟨⟨T, St, kd⟩, ⟨tx, ts, tb⟩, ro, st, ⟨s, u, f⟩, ke, W⟩ hS
  have hts : ts ≤ 80 := hS.2.1.1
  obtain ⟨⟨hv, ht⟩, hs, huf, hst⟩ := hS.cur
  have hz := hv.2.1
  refine txt_all (h6 := fun v4 G3 => ob1 (isO G3 0 6) fun _ => ob2 (fX6_putInPlace G3 0 x (0 : Int32) v4) fun v12 G11 => some (v12, G11)) (h7 := fun A M2 B => ob1 (fX7_isPlace M2 x) fun v6 => if v6 = 0 then (some ((-100 : Int32), M2, B)) else if ((M2.1 11) + (M2.1 5)) ≤ (3000 : Int32) then (if ((M2.1 9) + (M2.1 5)) ≤ (6000 : Int32) then (if (M2.1 5) ≤ 0 then (fX7_inserts_b84 A M2 B) else ob2 (fX7_edits A M2 B) fun M11 B12 => ob1 (fX7_insertsText M11 x) fun M13 => fX7_inserts_b84 A M13 B12) else some ((-102 : Int32), M2, B)) else some ((-101 : Int32), M2, B)) hS (fun _ => rfl) (fun _ _ _ => rfl) ?_
  intro hT
  have hS0 := S_emp hS
  by_cases e : ∃ p, x = nn p ∧ p ≤ sz (W s).1
  · obtain ⟨p, rfl, hp⟩ := e
    have e0 : p + 0 ≤ sz (W s).1 := hp
    have hcc : ∀ A M B n Sf, RS A M B n Sf ((T, St, kd), (tx, 0, tb), ro, st, (s, u, f), ke, W) → M.1 5 = nn ts → (ob1 (fX7_isPlace M (nn p)) fun v6 => if v6 = 0 then (some ((-100 : Int32), M, B)) else if ((M.1 11) + (M.1 5)) ≤ (3000 : Int32) then (if ((M.1 9) + (M.1 5)) ≤ (6000 : Int32) then (if (M.1 5) ≤ 0 then (fX7_inserts_b84 A M B) else ob2 (fX7_edits A M B) fun M11 B12 => ob1 (fX7_insertsText M11 (nn p)) fun M13 => fX7_inserts_b84 A M13 B12) else some ((-102 : Int32), M, B)) else some ((-101 : Int32), M, B)) = (if sz (W s).1 + ts ≤ 3000 then (if st.2.1 + ts ≤ 6000 then (if ts ≤ 0 then (fX7_inserts_b84 A M B) else ob2 (fX7_edits A M B) fun M11 B12 => ob1 (fX7_insertsText M11 (nn p)) fun M13 => fX7_inserts_b84 A M13 B12) else some ((-102 : Int32), M, B)) else some ((-101 : Int32), M, B)) := by
      intro A M B n Sf hR h5
      obtain ⟨r3, r4, -⟩ := hR.cur
      have han := hst.2.2
      rw [isPlace7_sp r4 (by omega), ob1_some, if_neg (by rw [if_pos hp]; decide), r4.1, h5, r3.2.1, nn_add, nn_add, q3000, q6000, q0, if_le (by omega) (by omega), if_le (by omega) (by omega), if_le (by omega) (by omega)]
    obtain ⟨S1, r, k1, k2, k3, k4⟩ := put_all (p := p) (k := 0) (m := ts) hS0 e0 hts hT (fun A M B => ob1 (fX7_isPlace M (nn p)) fun v6 => if v6 = 0 then (some ((-100 : Int32), M, B)) else if ((M.1 11) + (M.1 5)) ≤ (3000 : Int32) then (if ((M.1 9) + (M.1 5)) ≤ (6000 : Int32) then (if (M.1 5) ≤ 0 then (fX7_inserts_b84 A M B) else ob2 (fX7_edits A M B) fun M11 B12 => ob1 (fX7_insertsText M11 (nn p)) fun M13 => fX7_inserts_b84 A M13 B12) else some ((-102 : Int32), M, B)) else some ((-101 : Int32), M, B)) (by
      intro e1 A M B n Sf hR h5
      refine (hcc A M B _ Sf hR h5).trans ?_
      rw [if_neg (by omega)]) (by
      intro e1 e2 A M B n Sf hR h5
      refine (hcc A M B _ Sf hR h5).trans ?_
      rw [if_pos (by omega), if_neg (by omega)]) (by
      intro e1 e2 A M B n Sf hR h5
      have han := hst.2.2
      refine (hcc A M B _ Sf hR h5).trans ?_
      rw [if_pos (by omega), if_pos (by omega), if_pos (by omega)]
      unfold fX7_inserts_b84
      rw [hR.cur.2.1.1]) (by
      intro e1 e2 e3 A M B n Sf hR h5
      refine (hcc A M B _ Sf hR h5).trans ?_
      rw [if_pos (by omega), if_pos (by omega), if_neg (by omega)]
      obtain ⟨M1, K, g1, g2, -⟩ := hR.edit hS0
      rw [g1, ob2_some, ob2_some, if_pos (by decide)]
      unfold fX7_puts_b108
      rw [(g2.1 5 (by decide) (by decide) (by decide)).trans h5, if_neg (by rw [q0, nn_le (by omega) (by omega)]; omega)]
      rfl)
    refine ⟨S1, r, k1, ?_, k3, Nat.le_trans k4 (Nat.zero_le _)⟩
    rintro G c n ⟨bu, old, lv, pg, qg, sc, h1, h2, h3⟩
    refine sa1 h1.1.io0 ?_
    rw [ob2_id]
    exact k2 G c n ⟨bu, old, lv, pg, qg, sc, h1, h2, h3⟩
  · refine ⟨_, -100, hS0, ?_, ?_, Nat.zero_le _⟩
    · rintro G c n ⟨bu, old, lv, pg, qg, sc, h1, h2, h3⟩
      refine sa1 h1.1.io0 ?_
      rw [ob2_id]
      refine put_no h1 hS0 h2 h3 ?_
      intro p k hp hk e1 e2 e3
      exact e ⟨p, e1, by omega⟩
    · intro A M B n Sf hR h5
      obtain ⟨r3, r4, -⟩ := hR.cur
      refine ⟨M, [], ?_, ?_⟩
      · rw [List.append_nil]
        have hip : fX7_isPlace M x = some (nn 0) := by
          rcases nn_or x with hx | ⟨p, hp, rfl⟩
          · exact isPlace7_neg hx
          · rw [isPlace7_sp r4 hp, if_neg (fun h => e ⟨p, rfl, h⟩)]
        show (ob1 (fX7_isPlace M x) _) = _
        rw [hip, ob1_some, if_pos z0]
      · rw [List.append_nil]
        exact hR.less (by omega)
theorem op_inserts : Op_inserts Inv := by
  intro k G x hI
  exact op_act (f6 := fun G => fX6_inserts G 0 x) (f7 := fun A M B => fX7_inserts A M B x) hI (A_inserts x)
