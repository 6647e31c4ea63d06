/-! type, by both sides -/
theorem in_lit {a lo hi : Nat} {y z : Int64} (ha : a < 2147483648) (hy : y.toInt = (lo : Int)) (hz : z.toInt = (hi : Int)) : fX7_in (nn a).toInt64 y z = some (nn (if lo ≤ a ∧ a ≤ hi then 1 else 0)) := by
  rw [in_sp, nn64 ha, hy, hz]
  by_cases e : lo ≤ a ∧ a ≤ hi
  · rw [if_pos e, if_pos (by omega)]
  · rw [if_neg e, if_neg (by omega)]
theorem in_litn {x : Int32} {lo : Nat} {y z : Int64} (hx : x < 0) (hy : y.toInt = (lo : Int)) : fX7_in x.toInt64 y z = some (nn 0) := by
  rw [in_sp, Int32.toInt_toInt64, hy]
  have h1 : x.toInt < (0 : Int32).toInt := Int32.lt_iff_toInt_lt.mp hx
  have h2 : (0 : Int32).toInt = 0 := rfl
  rw [if_neg (by omega)]
section Ins
variable {T St kd : Nat → Nat} {tx : Nat → Int32} {ts : Nat} {tb : Int32} {ro : TR} {st : TS} {s u f : Nat} {ke : TK} {W : Nat → LVa} {p m : Nat} {tf : Nat → Int32} {t : Nat → Nat}
theorem S_ins (hS : SA ((T, St, kd), (tx, ts, tb), ro, st, (s, u, f), ke, W)) (hp : p ≤ sz (W s).1) (hm : 1 ≤ m) (hz : sz (W s).1 + m ≤ 3000) (ha : st.2.1 + m ≤ 6000) (ht : ∀ j, j < m → tf j = nn (t j) ∧ 1 ≤ t j ∧ t j ≤ 127) (tb1 : Int32) : SA ((T, stA St st.2.1 t m, kd), (tx, ts, tb1), ro, (st.1, st.2.1 + m, adds st.2.2 st.2.1 tf m), (s, u, f), ke, va_up W s (insP (W s).1 p (1600 + st.2.1) m, comeM p m (W s).2.1 (W s).2.2, (W s).2.2)) := by
  obtain ⟨⟨hv, -⟩, hs, huf, hst⟩ := hS.cur
  refine hS.upd ?_ (fun _ _ hi => if_neg hi) ⟨SG_adds hst.1 hst.2.1 ht, hst.2.1, ha⟩ (Nat.le_refl _) (Nat.le_add_right _ _)
  rw [va_up_same]
  refine ⟨ok_insP hv.1 hm, ?_, ?_⟩
  · show sz (insP (W s).1 p (1600 + st.2.1) m) ≤ 3000
    rw [sz_insP hp]
    exact hz
  · show bdM (comeM p m (W s).2.1 (W s).2.2) (W s).2.2 (sz (insP (W s).1 p (1600 + st.2.1) m))
    rw [sz_insP hp]
    exact bdM_come hv.2.2
theorem C_ins {G : zH} {c bu : Nat → Nat} {n r : Nat} {a : TA} {lv : Nat → Option Nat} {pg qg : TP} {sc : Nat → Int32} (h1 : Cl G c bu n a ro st (s, u, f, lv) ke pg qg sc W) (hS : SA ((T, St, kd), (tx, ts, tb), ro, st, (s, u, f), ke, W)) (hr : lv s = some r) (hp : p ≤ sz (W s).1) (hm : 1 ≤ m) (hz : sz (W s).1 + m ≤ 3000) : ok (fX2_insert G r (nn p) (nn (1600 + st.2.1)) (nn m)) fun G' => ∃ c' bu', Cl G' c' bu' n a ro st (s, u, f, lv) ke pg qg sc (va_up W s (insP (W s).1 p (1600 + st.2.1) m, comeM p m (W s).2.1 (W s).2.2, (W s).2.2)) ∧ Fo G c G' c' := by
  obtain ⟨⟨hv, -⟩, hs, huf, hst⟩ := hS.cur
  have hL := h1.lf hs hr
  obtain ⟨d, hd⟩ := h1.rm (i := s) (by omega)
  refine ok_imp (insert_sp hL hv.1 hp hz hm hst.2.1 hst.2.2 hv.2.2 hd) ?_
  rintro G5 ⟨c5, b5, l5, u5⟩
  exact ⟨c5, _, h1.leaf (i := s) (w := (insP (W s).1 p (1600 + st.2.1) m, comeM p m (W s).2.1 (W s).2.2, (W s).2.2)) (by omega) u5 (by rw [hvf_ring hs]; show LO G5 c5 (s + 1) (lv s) b5 _; rw [hr]; exact l5), u5.1.fo (by omega)⟩
theorem R_ins {A B : zH} {M M1 : MS} {n : Nat} {Sf : SS} (hR : RS A M B n Sf ((T, St, kd), (tx, ts, tb), ro, st, (s, u, f), ke, W)) (hS : SA ((T, St, kd), (tx, ts, tb), ro, st, (s, u, f), ke, W)) (hA : Ad M M1 st.2.1 t m) (hp : p ≤ sz (W s).1) (hm : 1 ≤ m) (hz : sz (W s).1 + m ≤ 3000) (ha : st.2.1 + m ≤ 6000) (sg : Nat → Int32) : fX7_goesOn M (nn p) = some (nn (if goB (W s).1 p st.2.1 then 1 else 0)) ∧ ∃ M2, fX7_comesIn M1 (nn p) (nn st.2.1) (nn m) (nn (if goB (W s).1 p st.2.1 then 1 else 0)) = some M2 ∧ M2.1 11 = nn (sz (W s).1 + m) ∧ Ft M1 M2 ∧ RS A M2 B n Sf ((T, stA St st.2.1 t m, kd), (tx, ts, tb), ro, (st.1, st.2.1 + m, sg), (s, u, f), ke, va_up W s (insP (W s).1 p (1600 + st.2.1) m, comeM p m (W s).2.1 (W s).2.2, (W s).2.2)) := by
  obtain ⟨⟨hv, -⟩, hs, huf, hst⟩ := hS.cur
  obtain ⟨r3, r4, r5, r11, r1, r6, r7⟩ := hR.cur
  obtain ⟨f1, f2, f3⟩ := hA.1
  have hB1 : RBk M1 (W s).1 := r4.cg (f1 11 (by decide)) (f2 10 (by decide))
  have hM1 : RMk M1 ((W s).1, (W s).2.1, (W s).2.2) := fun k hk => by rw [f2 12 (by decide), f2 13 (by decide)]; exact r5 k hk
  refine ⟨goesOn7 r4 hv.1 hst.2.1 hst.2.2 r3.2.1 hp, ?_⟩
  obtain ⟨M2, d1, d2, d3, d4⟩ := comesIn7 hB1 hM1 hv.2.2 hv.1 hst.2.1 ha hp hm hz
  refine ⟨M2, d1, by rw [d2.1, sz_insP hp], d4, hR.upd hs huf (Fe.trans ⟨⟨f1 1 (by decide), f1 4 (by decide), f1 17 (by decide), f1 20 (by decide)⟩, f2 3 (by decide), f3⟩ d4.fe) (d4.rst (hA.st r3 ha)) ?_ ?_ ?_ (fun _ _ hi => if_neg hi)⟩
  · rw [va_up_same]
    exact d2
  · rw [va_up_same]
    exact d3
  · unfold RTy at *
    rw [d4.1 21 (by decide), f1 21 (by decide)]
    exact r11
theorem R_tb {A B : zH} {M : MS} {n : Nat} {Sf : SS} {x tb1 : Int32} (hR : RS A M B n Sf ((T, St, kd), (tx, ts, tb), ro, st, (s, u, f), ke, W)) (hs : s < 31) (huf : u + f ≤ 30) (h : RTy (mI M 21 x) tb1) : RS A (mI M 21 x) B n Sf ((T, St, kd), (tx, ts, tb1), ro, st, (s, u, f), ke, W) := by
  obtain ⟨r3, r4, r5, r11, r1, r6, r7⟩ := hR.cur
  exact hR.upd (M1 := mI M 21 x) hs huf ⟨⟨rfl, rfl, rfl, rfl⟩, rfl, rfl⟩ (r3.cg rfl rfl rfl rfl) (r4.cg rfl rfl) r5 h (fun _ _ _ => rfl)
theorem C74 {G G0 : zH} {c c0 bu : Nat → Nat} {n r old v : Nat} {lv : Nat → Option Nat} {pg qg : TP} {sc : Nat → Int32} (h1 : Cl G c bu n (tx, ts, old, tb) ro st (s, u, f, lv) ke pg qg sc W) (hS : SA ((T, St, kd), (tx, ts, tb), ro, st, (s, u, f), ke, W)) (hr : lv s = some r) (hp : p ≤ sz (W s).1) (hz : sz (W s).1 + 1 ≤ 3000) (ha : st.2.1 + 1 ≤ 6000) (hv : 1 ≤ v ∧ v ≤ 127) (hf : Fo G0 c0 G c) : ok (fX6_type_b74 G 0 (nn p) (nn v) r) fun z => z.1 = nn (sz (W s).1 + 1) ∧ ∃ c1, CS z.2 c1 n ((T, stA St st.2.1 (fun _ => v) 1, kd), (tx, ts, nn (p + 1)), ro, (st.1, st.2.1 + 1, adds st.2.2 st.2.1 (fun _ => nn v) 1), (s, u, f), ke, va_up W s (insP (W s).1 p (1600 + st.2.1) 1, comeM p 1 (W s).2.1 (W s).2.2, (W s).2.2)) ∧ Fo G0 c0 z.2 c1 := by
  obtain ⟨-, hs, -⟩ := hS.cur
  unfold fX6_type_b74
  refine sa1 h1.1.r0_3 ?_
  refine sa1 h1.1.io4 ?_
  refine sa1 (addedEnd_sp h1.1) ?_
  refine sa1 (h1.lf hs hr).io ?_
  rw [q1]
  refine ca1 (C_ins h1 hS hr hp (Nat.le_refl _) hz) ?_
  rintro G2 ⟨c2, b2, x1, x2⟩
  refine sa1 x1.1.r0_3 ?_
  refine sa1 x1.1.io4 ?_
  refine ca1 (add4_sp x1.1 x1.2.2.1 0 hv.2 (by omega)) ?_
  rintro G3 ⟨y1, y2⟩
  have x3 := x1.fx y1 y2 rfl rfl
  rw [nn_add]
  obtain ⟨G4, e4, y4, u4⟩ := x3.1.s0_13 x3.2.2.1 0 (nn (p + 1))
  refine sa1 e4 ?_
  have x4 := x3.fx y4 u4 rfl rfl
  refine sa1 (bz_nn (k := 1) (by omega)) ?_
  obtain ⟨G5, e5, y5, u5⟩ := x4.1.s0_10 x4.2.2.1 0 1
  refine sa1 e5 ?_
  have x5 := x4.fx y5 u5 rfl rfl
  have hL5 := x5.lf hs hr
  rw [va_up_same] at hL5
  refine sa1 hL5.n3 ?_
  have had : upd st.2.2 (1600 + st.2.1) (nn v) = adds st.2.2 st.2.1 (fun _ => nn v) 1 := by
    have := adds_succ st.2.2 st.2.1 (fun _ => nn v) 0
    rw [adds_zero] at this
    exact this
  refine ok_some ⟨by show nn _ = _; rw [sz_insP hp], c2, ⟨b2, 1, lv, pg, qg, sc, ?_, Nat.le_refl _, fun h => absurd h (by decide)⟩, hf.trans (x2.trans ((y2.1.fo (by omega)).trans ((u4.1.fo (by omega)).trans (u5.1.fo (by omega)))))⟩
  rw [← had]
  exact x5
theorem typesIn7 {A B : zH} {M : MS} {n v : Nat} {Sf : SS} (hR : RS A M B n Sf ((T, St, kd), (tx, ts, tb), ro, st, (s, u, f), ke, W)) (hS : SA ((T, St, kd), (tx, ts, tb), ro, st, (s, u, f), ke, W)) (hp : p ≤ sz (W s).1) (hz : sz (W s).1 + 1 ≤ 3000) (ha : st.2.1 + 1 ≤ 6000) (hv : 1 ≤ v ∧ v ≤ 127) (sg : Nat → Int32) : ∃ M2, fX7_typesIn M (nn p) (nn v) = some (nn (sz (W s).1 + 1), M2) ∧ RS A M2 B n Sf ((T, stA St st.2.1 (fun _ => v) 1, kd), (tx, ts, tb), ro, (st.1, st.2.1 + 1, sg), (s, u, f), ke, va_up W s (insP (W s).1 p (1600 + st.2.1) 1, comeM p 1 (W s).2.1 (W s).2.2, (W s).2.2)) ∧ Fk M M2 := by
  obtain ⟨r3, r4, r5, r11, r1, r6, r7⟩ := hR.cur
  have hA := (Ad.zero (M := M) (an := st.2.1) (t := fun _ => v) r3.2.1).succ (x := nn v) rfl
  obtain ⟨g1, M2, g2, g3, g4, g5⟩ := R_ins hR hS hA hp (Nat.le_refl _) hz ha sg
  refine ⟨M2, ?_, g5, Fk.trans ⟨hA.1.1 29 (by decide), fun j a b => hA.1.2.1 j (by omega)⟩ g4.fk⟩
  unfold fX7_typesIn
  rw [isPlace7_sp r4 (by omega), ob1_some, if_neg (by rw [if_pos hp]; decide), r4.1, q3000, if_eq (by omega) (by omega), if_neg (by omega), r3.2.1, q6000, if_eq (by omega) (by omega), if_neg (by omega), g1, ob1_some, wr_nn (show st.2.1 < 6000 by omega) (by omega), ob1_some, nn_tn (by omega)]
  change zlet (mI (mA M 7 (upd (M.2.1 7) st.2.1 (nn v))) 9 (M.1 9 + 1)) _ = _
  rw [r3.2.1, q1, zlt]
  change ob1 (fX7_comesIn (mI (mA M 7 (upd (M.2.1 7) (st.2.1 + 0) (nn v))) 9 (nn (st.2.1 + 0) + nn 1)) (nn p) (nn st.2.1 + nn 1 - nn 1) (nn 1) _) _ = _
  rw [nn_add st.2.1 1, nn_sub (by omega), Nat.add_sub_cancel, g2, ob1_some, g3]
end Ins
theorem A_type (x y : Int32) : AF (fun G => fX6_type G 0 x y) (fun A M B => fX7_typesOne A M B x y) := by
  rintro ⟨⟨T, St, kd⟩, ⟨tx, ts, tb⟩, ro, st, ⟨s, u, f⟩, ke, W⟩ hS
  obtain ⟨⟨hv, ht⟩, hs, huf, hst⟩ := hS.cur
  have hz := hv.2.1
  have han := hst.2.2
  by_cases ev : ∃ v, 1 ≤ v ∧ v ≤ 127 ∧ y = nn v
  · obtain ⟨v, v1, v2, rfl⟩ := ev
    have e6 : fX6_isSign (nn v) = some (nn 1) := by rw [isSign6_sp (by omega), if_pos ⟨v1, v2⟩]
    have e7 : fX7_in (nn v).toInt64 (1 : Int64) (127 : Int64) = some (nn 1) := by rw [in_lit (lo := 1) (hi := 127) (by omega) rfl rfl, if_pos ⟨v1, v2⟩]
    have refuse : ∀ r : Int32, C6 ((T, St, kd), (tx, ts, tb), ro, st, (s, u, f), ke, W) ((T, St, kd), (tx, ts, tb), ro, st, (s, u, f), ke, W) r (fun G => fX6_type G 0 x (nn v)) → (∀ A M B n Sf, RS A M B n Sf ((T, St, kd), (tx, ts, tb), ro, st, (s, u, f), ke, W) → fX7_typesOne A M B x (nn v) = fX7_typesOne_b46 A M B x (nn v) ∧ fX7_typesIn M x (nn v) = some (r, M)) → ∃ S1 r, SA S1 ∧ C6 ((T, St, kd), (tx, ts, tb), ro, st, (s, u, f), ke, W) S1 r (fun G => fX6_type G 0 x (nn v)) ∧ R7f ((T, St, kd), (tx, ts, tb), ro, st, (s, u, f), ke, W) S1 r (fun A M B => fX7_typesOne A M B x (nn v)) ∧ Kt ((T, St, kd), (tx, ts, tb), ro, st, (s, u, f), ke, W) S1 := by
      intro r hC hR7
      refine ⟨_, r, hS, hC, ?_, ⟨rfl, rfl, Nat.le_refl _⟩⟩
      intro A M B n Sf hR
      obtain ⟨k1, k2⟩ := hR7 A M B _ Sf hR
      refine ⟨mI M 21 (M.1 21), [], ?_, ?_, rfl, fun _ _ _ => rfl⟩
      · show fX7_typesOne A M B x (nn v) = _
        rw [k1, List.append_nil]
        unfold fX7_typesOne_b46 fX7_typesOne_b47
        rw [if_pos rfl]
        unfold fX7_typesOne_b66
        rw [k2, ob2_some, if_pos rfl]
        rfl
      · rw [List.append_nil]
        exact (R_tb hR hs huf hR.cur.2.2.2.1).less (by omega)
    have c6 : ∀ (G : zH) (c : Nat → Nat) (n : Nat) (Q : Int32 × zH → Prop), CS G c n ((T, St, kd), (tx, ts, tb), ro, st, (s, u, f), ke, W) → (∀ G1 c1 r bu old lv pg qg sc, Cl G1 c1 bu n (tx, ts, old, tb) ro st (s, u, f, lv) ke pg qg sc W → lv s = some r → old ≤ 1 → (old = 0 → PgTo pg (W s).1 St (sz (W s).1)) → Fo G c G1 c1 → ok (if x < 0 then (some ((-2 : Int32), G1)) else ob1 (fi G1 r 2 3) fun v9 => if x ≤ v9 then (ob1 (fi G1 r 2 3) fun v11 => if v11 < (3000 : Int32) then (ob1 (frf G1 0 6 3) fun qv13 => ob1 (fi G1 qv13 4 2) fun v14 => if v14 < (6000 : Int32) then (ob1 (fi G1 0 6 13) fun v16 => if x = v16 then (fX6_type_b74 G1 0 x (nn v) r) else ob1 (isO G1 0 6) fun u18 => ob2 (fX6_beginEdit G1 0) fun qv21 G20 => fX6_type_b74 G20 0 x (nn v) qv21) else some ((-4 : Int32), G1)) else some ((-3 : Int32), G1)) else some ((-2 : Int32), G1)) Q) → ok (fX6_type G 0 x (nn v)) Q := by
      rintro G c n Q ⟨bu, old, lv, pg, qg, sc, h1, h2, h3⟩ H
      unfold fX6_type
      refine sa1 e6 ?_
      refine ifn (by decide) ?_
      refine sa1 h1.1.r0_4 ?_
      refine sa1 h1.1.io6 ?_
      refine ca2 (current_sp h1 hs) ?_
      rintro r G1 ⟨c1, b1, lv1, x1, x2, x3, x4⟩
      exact H G1 c1 r b1 old lv1 pg qg sc x2 x1 h2 h3 x3
    have r7 : ∀ (A : zH) (M : MS) (B : zH), fX7_typesOne A M B x (nn v) = ob1 (fX7_isPlace M x) fun v3 => if v3 = 0 then (fX7_typesOne_b46 A M B x (nn v)) else if (3000 : Int32) ≤ (M.1 11) then (fX7_typesOne_b46 A M B x (nn v)) else if (6000 : Int32) ≤ (M.1 9) then (fX7_typesOne_b46 A M B x (nn v)) else fX7_typesOne_b47 A M B x (nn v) (1 : Int32) := by
      intro A M B
      unfold fX7_typesOne
      rw [e7, ob1_some, if_neg (by decide)]
    rcases nn_or x with hx | ⟨p, hp, rfl⟩
    · refine refuse (-2) ?_ ?_
      · intro G c n h
        refine c6 G c n _ h ?_
        intro G1 c1 r bu old lv pg qg sc x1 x2 x3 x4 x5
        refine ift hx ?_
        exact ok_some ⟨rfl, c1, ⟨bu, old, lv, pg, qg, sc, x1, x3, x4⟩, x5⟩
      · intro A M B n Sf hR
        rw [r7, isPlace7_neg hx, ob1_some, if_pos z0]
        refine ⟨rfl, ?_⟩
        unfold fX7_typesIn
        rw [isPlace7_neg hx, ob1_some, if_pos z0]
    · by_cases e1 : p ≤ sz (W s).1
      · by_cases e2 : sz (W s).1 = 3000
        · refine refuse (-3) ?_ ?_
          · intro G c n h
            refine c6 G c n _ h ?_
            intro G1 c1 r bu old lv pg qg sc x1 x2 x3 x4 x5
            have hL := x1.lf hs x2
            refine ifn (by rw [nn_neg hp]; exact id) ?_
            refine sa1 hL.n3 ?_
            refine ift (by rw [nn_le hp (by omega)]; exact e1) ?_
            refine sa1 hL.n3 ?_
            refine ifn (by rw [q3000, nn_lt (by omega) (by omega)]; omega) ?_
            exact ok_some ⟨rfl, c1, ⟨bu, old, lv, pg, qg, sc, x1, x3, x4⟩, x5⟩
          · intro A M B n Sf hR
            obtain ⟨r3, r4, -⟩ := hR.cur
            rw [r7, isPlace7_sp r4 hp, ob1_some, if_neg (by rw [if_pos e1]; decide), r4.1, q3000, if_le (by omega) (by omega), if_pos (by omega)]
            refine ⟨rfl, ?_⟩
            unfold fX7_typesIn
            rw [isPlace7_sp r4 hp, ob1_some, if_neg (by rw [if_pos e1]; decide), r4.1, q3000, if_eq (by omega) (by omega), if_pos e2]
        · by_cases e3 : st.2.1 = 6000
          · refine refuse (-4) ?_ ?_
            · intro G c n h
              refine c6 G c n _ h ?_
              intro G1 c1 r bu old lv pg qg sc x1 x2 x3 x4 x5
              have hL := x1.lf hs x2
              refine ifn (by rw [nn_neg hp]; exact id) ?_
              refine sa1 hL.n3 ?_
              refine ift (by rw [nn_le hp (by omega)]; exact e1) ?_
              refine sa1 hL.n3 ?_
              refine ift (by rw [q3000, nn_lt (by omega) (by omega)]; omega) ?_
              refine sa1 x1.1.r0_3 ?_
              refine sa1 (fi_at (v := nn st.2.1) x1.1.g4 rfl) ?_
              refine ifn (by rw [q6000, nn_lt (by omega) (by omega)]; omega) ?_
              exact ok_some ⟨rfl, c1, ⟨bu, old, lv, pg, qg, sc, x1, x3, x4⟩, x5⟩
            · intro A M B n Sf hR
              obtain ⟨r3, r4, -⟩ := hR.cur
              rw [r7, isPlace7_sp r4 hp, ob1_some, if_neg (by rw [if_pos e1]; decide), r4.1, q3000, if_le (by omega) (by omega), if_neg (by omega), r3.2.1, q6000, if_le (by omega) (by omega), if_pos (by omega)]
              refine ⟨rfl, ?_⟩
              unfold fX7_typesIn
              rw [isPlace7_sp r4 hp, ob1_some, if_neg (by rw [if_pos e1]; decide), r4.1, q3000, if_eq (by omega) (by omega), if_neg e2, r3.2.1, q6000, if_eq (by omega) (by omega), if_pos e3]
          · have c6' : ∀ (G : zH) (c : Nat → Nat) (n : Nat) (Q : Int32 × zH → Prop), CS G c n ((T, St, kd), (tx, ts, tb), ro, st, (s, u, f), ke, W) → (∀ G1 c1 r bu old lv pg qg sc, Cl G1 c1 bu n (tx, ts, old, tb) ro st (s, u, f, lv) ke pg qg sc W → lv s = some r → Fo G c G1 c1 → ok (if nn p = tb then (fX6_type_b74 G1 0 (nn p) (nn v) r) else ob1 (isO G1 0 6) fun u18 => ob2 (fX6_beginEdit G1 0) fun qv21 G20 => fX6_type_b74 G20 0 (nn p) (nn v) qv21) Q) → ok (fX6_type G 0 (nn p) (nn v)) Q := by
              intro G c n Q h H
              refine c6 G c n _ h ?_
              intro G1 c1 r bu old lv pg qg sc x1 x2 x3 x4 x5
              have hL := x1.lf hs x2
              refine ifn (by rw [nn_neg hp]; exact id) ?_
              refine sa1 hL.n3 ?_
              refine ift (by rw [nn_le hp (by omega)]; exact e1) ?_
              refine sa1 hL.n3 ?_
              refine ift (by rw [q3000, nn_lt (by omega) (by omega)]; omega) ?_
              refine sa1 x1.1.r0_3 ?_
              refine sa1 (fi_at (v := nn st.2.1) x1.1.g4 rfl) ?_
              refine ift (by rw [q6000, nn_lt (by omega) (by omega)]; omega) ?_
              refine sa1 x1.1.i0_13 ?_
              exact H G1 c1 r bu old lv pg qg sc x1 x2 x5
            have r7' : ∀ A M B n Sf, RS A M B n Sf ((T, St, kd), (tx, ts, tb), ro, st, (s, u, f), ke, W) → fX7_typesOne A M B (nn p) (nn v) = if nn p = tb then fX7_typesOne_b66 A M B (nn p) (nn v) 1 else ob2 (fX7_edits A M B) fun M3 B4 => fX7_typesOne_b66 A M3 B4 (nn p) (nn v) 1 := by
              intro A M B n Sf hR
              obtain ⟨r3, r4, r5, r11, -⟩ := hR.cur
              have htb : (nn p = M.1 21 + 1) ↔ nn p = tb := by
                rcases r11 with ⟨t1, t2⟩ | ⟨p0, t0, t1, t2⟩
                · rw [t1, t2]
                  constructor
                  · intro h
                    exact absurd (show nn p < 0 by rw [h]; decide) (by rw [nn_neg hp]; exact id)
                  · intro h
                    exact absurd (show nn p < 0 by rw [h]; decide) (by rw [nn_neg hp]; exact id)
                · rw [t1, t2, q1, nn_add]
              rw [r7, isPlace7_sp r4 hp, ob1_some, if_neg (by rw [if_pos e1]; decide), r4.1, q3000, if_le (by omega) (by omega), if_neg (by omega), r3.2.1, q6000, if_le (by omega) (by omega), if_neg (by omega)]
              unfold fX7_typesOne_b47
              rw [if_neg (by decide)]
              by_cases k : nn p = tb
              · rw [if_pos k, if_pos (htb.mpr k)]
              · rw [if_neg k, if_neg (fun h => k (htb.mp h))]
            by_cases k : nn p = tb
            · refine ⟨_, nn (sz (W s).1 + 1), S_ins hS e1 (Nat.le_refl _) (show sz (W s).1 + 1 ≤ 3000 by omega) (show st.2.1 + 1 ≤ 6000 by omega) (tf := fun _ => nn v) (t := fun _ => v) (fun _ _ => ⟨rfl, v1, v2⟩) (nn (p + 1)), ?_, ?_, ⟨rfl, rfl, Nat.le_refl _⟩⟩
              · intro G c n h
                refine c6' G c n _ h ?_
                intro G1 c1 r bu old lv pg qg sc x1 x2 x5
                refine ift k ?_
                exact C74 x1 hS x2 e1 (by omega) (by omega) ⟨v1, v2⟩ x5
              · intro A M B n Sf hR
                obtain ⟨M2, d1, d2, d3⟩ := typesIn7 hR hS e1 (by omega) (by omega) ⟨v1, v2⟩ (adds st.2.2 st.2.1 (fun _ => nn v) 1)
                refine ⟨mI M2 21 (nn p), [], ?_, ?_, d3⟩
                · show fX7_typesOne A M B (nn p) (nn v) = _
                  rw [r7' A M B _ Sf hR, if_pos k, List.append_nil]
                  unfold fX7_typesOne_b66
                  rw [d1, ob2_some, if_neg (by decide)]
                  rfl
                · rw [List.append_nil]
                  exact (R_tb d2 hs huf (Or.inr ⟨p, by omega, rfl, rfl⟩)).less (by omega)
            · have hs' : (s + 1) % 31 < 31 := by omega
              have hE := hS.edit
              have hWs : (va_up W ((s + 1) % 31) (W s)) ((s + 1) % 31) = W s := va_up_same _ _ _
              have e1' : p ≤ sz ((va_up W ((s + 1) % 31) (W s)) ((s + 1) % 31)).1 := by rw [hWs]; exact e1
              have e2' : sz ((va_up W ((s + 1) % 31) (W s)) ((s + 1) % 31)).1 + 1 ≤ 3000 := by rw [hWs]; omega
              refine ⟨_, nn (sz (W s).1 + 1), S_ins hE e1' (Nat.le_refl _) e2' (show st.2.1 + 1 ≤ 6000 by omega) (tf := fun _ => nn v) (t := fun _ => v) (fun _ _ => ⟨rfl, v1, v2⟩) (nn (p + 1)), ?_, ?_, ⟨rfl, rfl, Nat.le_refl _⟩⟩
              · intro G c n h
                refine c6' G c n _ h ?_
                intro G1 c1 r bu old lv pg qg sc x1 x2 x5
                refine ifn k ?_
                refine sa1 x1.1.io0 ?_
                have hlen := len_le_sz (okP_wf hv.1)
                refine ca2 (beginEdit6_sp x1 hs (by omega) (by omega) (fun k hk => (hv.2.2 k hk).2.2)) ?_
                rintro r4 G4 ⟨c4, b4, lv4, t1, t2, t3⟩
                have := C74 t2 hE t1 e1' e2' (by omega) ⟨v1, v2⟩ (x5.trans t3)
                rw [show nn (sz ((va_up W ((s + 1) % 31) (W s)) ((s + 1) % 31)).1 + 1) = nn (sz (W s).1 + 1) by rw [hWs]] at this
                exact this
              · intro A M B n Sf hR
                obtain ⟨M1, K, g1, g2, g3, hR1⟩ := hR.edit hS
                obtain ⟨M2, d1, d2, d3⟩ := typesIn7 hR1 hE e1' e2' (by omega) ⟨v1, v2⟩ (adds st.2.2 st.2.1 (fun _ => nn v) 1)
                refine ⟨mI M2 21 (nn p), K, ?_, ?_, g2.fk.trans d3⟩
                · show fX7_typesOne A M B (nn p) (nn v) = _
                  rw [r7' A M B _ Sf hR, if_neg k, g1, ob2_some]
                  unfold fX7_typesOne_b66
                  rw [d1, ob2_some, if_neg (by decide), hWs]
                  rfl
                · exact R_tb d2 hs' (by omega) (Or.inr ⟨p, by omega, rfl, rfl⟩)
      · refine refuse (-2) ?_ ?_
        · intro G c n h
          refine c6 G c n _ h ?_
          intro G1 c1 r bu old lv pg qg sc x1 x2 x3 x4 x5
          have hL := x1.lf hs x2
          refine ifn (by rw [nn_neg hp]; exact id) ?_
          refine sa1 hL.n3 ?_
          refine ifn (by rw [nn_le hp (by omega)]; exact e1) ?_
          exact ok_some ⟨rfl, c1, ⟨bu, old, lv, pg, qg, sc, x1, x3, x4⟩, x5⟩
        · intro A M B n Sf hR
          obtain ⟨r3, r4, -⟩ := hR.cur
          rw [r7, isPlace7_sp r4 hp, ob1_some, if_pos (by rw [if_neg e1]; rfl)]
          refine ⟨rfl, ?_⟩
          unfold fX7_typesIn
          rw [isPlace7_sp r4 hp, ob1_some, if_pos (by rw [if_neg e1]; rfl)]
  · refine ⟨_, -1, hS, ?_, R7f.ret ?_, ⟨rfl, rfl, Nat.le_refl _⟩⟩
    · intro G c n h
      show ok (fX6_type G 0 x y) _
      unfold fX6_type
      have e6 : fX6_isSign y = some (nn 0) := by
        rcases nn_or y with hy | ⟨v, hv', rfl⟩
        · exact isSign6_neg hy
        · rw [isSign6_sp hv', if_neg (fun h => ev ⟨v, h.1, h.2, rfl⟩)]
      refine sa1 e6 ?_
      refine ift rfl ?_
      exact C6.ret h
    · intro A M B n Sf hR
      show fX7_typesOne A M B x y = _
      unfold fX7_typesOne
      have e7 : fX7_in y.toInt64 (1 : Int64) (127 : Int64) = some (nn 0) := by
        rcases nn_or y with hy | ⟨v, hv', rfl⟩
        · exact in_litn (lo := 1) hy rfl
        · rw [in_lit (lo := 1) (hi := 127) hv' rfl rfl, if_neg (fun h => ev ⟨v, h.1, h.2, rfl⟩)]
      rw [e7, ob1_some, if_pos z0]
theorem op_type : Op_type Inv := by
  intro k G x y hI
  refine op_act (f6 := fun G => fX6_type G 0 x y) (f7 := fun A M B => fX7_type A M B x y) hI (fun S hS => ?_)
  obtain ⟨S1, r, a1, a2, a3, a4⟩ := A_type x y S hS
  exact ⟨S1, r, a1, a2, a3.to.i0, a4.2.2⟩
