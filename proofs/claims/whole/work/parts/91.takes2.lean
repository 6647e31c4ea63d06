/-! takes, cuts, by both sides -/
theorem z0 : nn 0 = (0 : Int32) := rfl
theorem Ft.fe {M M1 : MS} (h : Ft M M1) : Fe M M1 := ⟨⟨h.1 1 (by decide), h.1 4 (by decide), h.1 17 (by decide), h.1 20 (by decide)⟩, h.2.1 3 (by decide) (by decide), h.2.2⟩
theorem Ft.rst {M M1 : MS} {St : Nat → Nat} {on an : Nat} (h : Ft M M1) (hS : RSt M St on an) : RSt M1 St on an := hS.cg (h.1 8 (by decide)) (h.1 9 (by decide)) (h.2.1 6 (by decide) (by decide)) (h.2.1 7 (by decide) (by decide))
section Tk
variable {T St kd : Nat → Nat} {tx : Nat → Int32} {ts : Nat} {tb : Int32} {ro : TR} {st : TS} {s u f : Nat} {ke : TK} {W : Nat → LVa} {p m : Nat}
theorem S_take (hS : SA ((T, St, kd), (tx, ts, tb), ro, st, (s, u, f), ke, W)) (e : p + m ≤ sz (W s).1) : SA ((T, St, kd), (tx, ts, -1), ro, st, ((s + 1) % 31, min (u + 1) 30, 0), ke, va_up W ((s + 1) % 31) (takP (W s).1 p m, goM p m (W s).2.1, (W s).2.2)) := by
  obtain ⟨⟨hv, ht⟩, hs, huf, hst⟩ := hS.cur
  have hz := hv.2.1
  refine hS.edit.upd ?_ (va_va_at _ _ _) hst (Nat.le_refl _) (Nat.le_refl _)
  rw [va_up_same]
  refine ⟨ok_takP hv.1, ?_, ?_⟩
  · show sz (takP (W s).1 p m) ≤ 3000
    rw [sz_takP e]
    omega
  · show bdM (goM p m (W s).2.1) (W s).2.2 (sz (takP (W s).1 p m))
    rw [sz_takP e]
    exact bd_go hv.2.2 e
theorem C_take {G G0 : zH} {c c0 bu : Nat → Nat} {n old : Nat} {lv : Nat → Option Nat} {pg qg : TP} {sc : Nat → Int32} {v : Int32} (h1 : Cl G c bu n (tx, ts, old, tb) ro st (s, u, f, lv) ke pg qg sc W) (hS : SA ((T, St, kd), (tx, ts, tb), ro, st, (s, u, f), ke, W)) (e : p + m ≤ sz (W s).1) (hf : Fo G0 c0 G c) : ok (ob2 (fX6_beginEdit G 0) fun r G1 => ob1 (isO G1 r 2) fun _ => ob1 (fX2_take G1 r (nn p) (nn m)) fun G2 => some (v, G2)) fun z => z.1 = v ∧ ∃ c1, CS z.2 c1 n ((T, St, kd), (tx, ts, -1), ro, st, ((s + 1) % 31, min (u + 1) 30, 0), ke, va_up W ((s + 1) % 31) (takP (W s).1 p m, goM p m (W s).2.1, (W s).2.2)) ∧ Fo G0 c0 z.2 c1 := by
  obtain ⟨⟨hv, ht⟩, hs, huf, hst⟩ := hS.cur
  have hz := hv.2.1
  have hwf := okP_wf hv.1
  have hlen := len_le_sz hwf
  refine ca2 (beginEdit6_sp h1 hs (by omega) (by omega) (fun k hk => (hv.2.2 k hk).2.2)) ?_
  rintro r4 G4 ⟨c4, b4, lv4, t1, t2, t3⟩
  have hs4 : (s + 1) % 31 < 31 := by omega
  have hL := t2.lf hs4 t1
  rw [va_up_same] at hL
  refine sa1 hL.io ?_
  obtain ⟨d, hd⟩ := t2.rm (i := (s + 1) % 31) (by omega)
  refine ca1 (take_sp hL hwf e hz hv.2.2 hd) ?_
  rintro G5 ⟨c5, b5, l5, u5⟩
  exact ok_some ⟨rfl, c5, ⟨_, 1, lv4, pg, qg, sc, t2.ed (w := (takP (W s).1 p m, goM p m (W s).2.1, (W s).2.2)) hs4 t1 u5 l5, Nat.le_refl _, fun h => absurd h (by decide)⟩, hf.trans (t3.trans (u5.1.fo (by omega)))⟩
theorem R_take {A B : zH} {M : MS} {n : Nat} {Sf : SS} (hR : RS A M B (n + 3016) Sf ((T, St, kd), (tx, ts, tb), ro, st, (s, u, f), ke, W)) (hS : SA ((T, St, kd), (tx, ts, tb), ro, st, (s, u, f), ke, W)) (e : p + m ≤ sz (W s).1) : ∃ M1 M2 K, fX7_edits A M B = some (M1, B ++ K) ∧ fX7_takesOut M1 (nn p) (nn m) = some (nn (cntB (fun p => St (srcAt (W s).1 p)) p m), M2) ∧ RS A M2 (B ++ K) n Sf ((T, St, kd), (tx, ts, -1), ro, st, ((s + 1) % 31, min (u + 1) 30, 0), ke, va_up W ((s + 1) % 31) (takP (W s).1 p m, goM p m (W s).2.1, (W s).2.2)) ∧ Fk M M2 := by
  obtain ⟨⟨hv, ht⟩, hs, huf, hst⟩ := hS.cur
  obtain ⟨M1, K, e1, g1, g2, hR1⟩ := hR.edit hS
  have hc := hR1.cur
  rw [va_up_same] at hc
  obtain ⟨r3, r4, r5, -⟩ := hc
  obtain ⟨M2, f1, f2, f3, f4⟩ := takesOut7 (x := p) (n := m) (mk := (W s).2.1) (st := (W s).2.2) r4 r3 hv.1 ht r5 hv.2.2 e
  refine ⟨M1, M2, K, e1, f1, hR1.upd (by omega) (by omega) f4.fe (f4.rst r3) ?_ ?_ (Or.inl ⟨rfl, (f4.1 21 (by decide)).trans g2⟩) (va_va_at _ _ _), g1.fk.trans f4.fk⟩
  · rw [va_up_same]
    exact f2
  · rw [va_up_same]
    exact f3
end Tk
theorem lt1_nn {y : Int32} (h : ¬ y < 1) : ∃ n, 1 ≤ n ∧ n < 2147483648 ∧ y = nn n := by
  rcases nn_or y with h1 | ⟨n, hn, rfl⟩
  · exact absurd (by rw [Int32.lt_iff_toInt_lt] at *; have : (1 : Int32).toInt = 1 := rfl; have : (0 : Int32).toInt = 0 := rfl; omega) h
  · rw [q1, nn_lt hn (by omega)] at h
    exact ⟨n, by omega, hn, rfl⟩
theorem cmp_len {M : MS} {p n z : Nat} (h11 : M.1 11 = nn z) (hz : z ≤ 3000) (hp : p < 2147483648) (hn : n < 2147483648) : (lg_cmp ((nn p).toInt64 + (nn n).toInt64) (M.1 11).toInt64 ≤ 0) = (p + n ≤ z) := by
  rw [cmp_le, add64 hp hn, h11, nn64 (by omega)]
  exact propext ⟨fun h => by omega, fun h => by omega⟩
theorem A_takes (x y : Int32) : AF (fun G => fX6_takes G 0 x y) (fun A M B => fX7_takesOne A M B x y) := by
  rintro ⟨⟨T, St, kd⟩, ⟨tx, ts, tb⟩, ro, st, ⟨s, u, f⟩, ke, W⟩ hS
  obtain ⟨⟨hv, ht⟩, hs, huf, hst⟩ := hS.cur
  have hz := hv.2.1
  by_cases ey : y < 1
  · refine ⟨_, -1, hS, ?_, R7f.ret ?_, ⟨rfl, rfl, Nat.le_refl _⟩⟩
    · intro G c n h
      show ok (fX6_takes G 0 x y) _
      unfold fX6_takes
      refine ift ey ?_
      exact C6.ret h
    · intro A M B n Sf hR
      show fX7_takesOne A M B x y = _
      unfold fX7_takesOne
      rw [if_pos ey]
  · obtain ⟨m, hm1, hm, rfl⟩ := lt1_nn ey
    rcases nn_or x with hx | ⟨p, hp, rfl⟩
    · refine ⟨_, -1, hS, ?_, R7f.ret ?_, ⟨rfl, rfl, Nat.le_refl _⟩⟩
      · intro G c n h
        show ok (fX6_takes G 0 x (nn m)) _
        unfold fX6_takes
        refine ifn ey ?_
        refine ifn (neg_le hx) ?_
        exact C6.ret h
      · intro A M B n Sf hR
        show fX7_takesOne A M B x (nn m) = _
        unfold fX7_takesOne
        rw [if_neg ey, if_neg (neg_le hx)]
    · have hp0 : 0 ≤ nn p := by rw [q0, nn_le (by omega) hp]; omega
      by_cases e : p + m ≤ sz (W s).1
      · refine ⟨_, nn (cntB (fun p => St (srcAt (W s).1 p)) p m), S_take hS e, ?_, ?_, ⟨rfl, rfl, Nat.le_refl _⟩⟩
        · rintro G c n ⟨bu, old, lv, pg, qg, sc, h1, h2, h3⟩
          show ok (fX6_takes G 0 (nn p) (nn m)) _
          unfold fX6_takes
          refine ifn ey ?_
          refine ift hp0 ?_
          refine sa1 h1.1.io0 ?_
          refine ca2 (hasSigns_sp h1 hs hz hp hm) ?_
          rintro v G2 ⟨z1, c1, b1, lv1, z2, z3, -⟩
          change v = _ at z1
          subst z1
          refine ifn (by rw [if_pos e]; decide) ?_
          refine sa1 z2.1.io0 ?_
          refine page_open (code := fun qv11 G10 => ob1 (isO G10 qv11 3) fun u12 => ob1 (fX3_breaksIn G10 qv11 (nn p) (nn p + nn m)) fun v14 => ob1 (isO G10 0 6) fun u15 => ob2 (fX6_beginEdit G10 0) fun qv18 G17 => ob1 (isO G17 qv18 2) fun u19 => ob1 (fX2_take G17 qv18 (nn p) (nn m)) fun G21 => some (v14, G21)) z2 (hS.sm h2 h3) z3 ?_
          intro G3 c3 b3 lv3 pg3 w1 w2 w3 hPV
          refine sa1 hPV.1 ?_
          rw [nn_add]
          refine sa1 (breaksIn6 hPV e) ?_
          refine sa1 w1.1.io0 ?_
          exact C_take w1 hS e w3
        · intro A M B n Sf hR
          obtain ⟨-, r4, -⟩ := hR.cur
          obtain ⟨M1, M2, K, e1, e2, hR2, hfk⟩ := R_take hR hS e
          refine ⟨M2, K, ?_, hR2, hfk⟩
          show fX7_takesOne A M B (nn p) (nn m) = _
          unfold fX7_takesOne
          rw [if_neg ey, if_pos hp0, if_pos (by rw [cmp_len r4.1 hz hp hm]; exact e), e1, ob2_some, e2, ob2_some]
      · refine ⟨_, -2, hS, ?_, R7f.ret ?_, ⟨rfl, rfl, Nat.le_refl _⟩⟩
        · rintro G c n ⟨bu, old, lv, pg, qg, sc, h1, h2, h3⟩
          show ok (fX6_takes G 0 (nn p) (nn m)) _
          unfold fX6_takes
          refine ifn ey ?_
          refine ift hp0 ?_
          refine sa1 h1.1.io0 ?_
          refine ca2 (hasSigns_sp h1 hs hz hp hm) ?_
          rintro v G2 ⟨z1, c1, b1, lv1, z2, z3, -⟩
          change v = _ at z1
          subst z1
          refine ift (by rw [if_neg e]; rfl) ?_
          exact ok_some ⟨rfl, c1, ⟨b1, old, lv1, pg, qg, sc, z2, h2, h3⟩, z3⟩
        · intro A M B n Sf hR
          obtain ⟨-, r4, -⟩ := hR.cur
          show fX7_takesOne A M B (nn p) (nn m) = _
          unfold fX7_takesOne
          rw [if_neg ey, if_pos hp0, if_neg (by rw [cmp_len r4.1 hz hp hm]; exact e)]
/-! cuts: any method that begins with thrown = 0 -/
theorem R7.m0 {S S1 : SS} {r : Int32} {f : zH → MS → zH → Option (Int32 × MS × zH)} (h : R7 S S1 r f) : R7 S S1 r (fun A M B => f A (mI M 0 0) B) := by
  intro A M B n Sf hR
  exact h A (mI M 0 0) B n Sf hR.i0
theorem R7.ret0 {S : SS} {r : Int32} {f : zH → MS → zH → Option (Int32 × MS × zH)} (H : ∀ A M B n Sf, RS A (mI M 0 0) B n Sf S → f A M B = some (r, mI M 0 0, B)) : R7 S S r f := by
  intro A M B n Sf h
  refine ⟨mI M 0 0, [], ?_, ?_⟩
  · rw [List.append_nil]
    exact H A M B _ Sf h.i0
  · rw [List.append_nil]
    exact h.i0.less (by omega)
theorem A_cuts (x : Int32) : ∀ S, SA S → ∃ S1 r, SA S1 ∧ C6 S S1 r (fun G => fX6_cuts G 0 x) ∧ R7 S S1 r (fun A M B => fX7_cuts A M B x) ∧ tsOf S1 ≤ tsOf S := by
  rintro ⟨⟨T, St, kd⟩, ⟨tx, ts, tb⟩, ro, st, ⟨s, u, f⟩, ke, W⟩ hS
  obtain ⟨⟨hv, ht⟩, hs, huf, hst⟩ := hS.cur
  have hz := hv.2.1
  have hcn := cntB_le (fun p => St (srcAt (W s).1 p)) 0 (sz (W s).1)
  have hrv : ∀ A M B n Sf, RS A M B n Sf ((T, St, kd), (tx, ts, tb), ro, st, (s, u, f), ke, W) → RV M (sz (W s).1) (fun p => St (srcAt (W s).1 p)) := fun A M B n Sf hR => RV_of hR.cur.2.1 hR.cur.1 hv.1 ht
  have refuse : (x < 0 ∨ ∃ p, p < 2147483648 ∧ x = nn p ∧ ¬ p ≤ cntB (fun p => St (srcAt (W s).1 p)) 0 (sz (W s).1)) → ∃ S1 r, SA S1 ∧ C6 ((T, St, kd), (tx, ts, tb), ro, st, (s, u, f), ke, W) S1 r (fun G => fX6_cuts G 0 x) ∧ R7 ((T, St, kd), (tx, ts, tb), ro, st, (s, u, f), ke, W) S1 r (fun A M B => fX7_cuts A M B x) ∧ tsOf S1 ≤ tsOf ((T, St, kd), (tx, ts, tb), ro, st, (s, u, f), ke, W) := by
    intro hx
    refine ⟨_, -1, hS, ?_, R7.ret0 ?_, Nat.le_refl _⟩
    · rintro G c n ⟨bu, old, lv, pg, qg, sc, h1, h2, h3⟩
      show ok (fX6_cuts G 0 x) _
      unfold fX6_cuts
      refine sa1 h1.1.io0 ?_
      refine page_open h1 (hS.sm h2 h3) (Fo.refl _ _) ?_
      intro G2 c2 b2 lv2 pg2 z1 z2 z3 hPV
      refine sa1 hPV.1 ?_
      have hls : fX3_lineStart G2 20 x = some (-1) := by
        rcases hx with hx | ⟨p, hp, rfl, e⟩
        · exact lineStart6_neg hPV hx
        · rw [lineStart6 hPV hp, oN_none e]
          rfl
      refine sa1 hls ?_
      refine ift rfl ?_
      exact ok_some ⟨rfl, c2, ⟨b2, 0, lv2, pg2, qg, sc, z1, by omega, fun _ => z2⟩, z3⟩
    · intro A M B n Sf hR
      have hRV := hrv _ _ _ _ _ hR
      show fX7_cuts A M B x = _
      unfold fX7_cuts
      rw [zlt, lines7 hRV, ob1_some]
      rcases hx with hx | ⟨p, hp, rfl, e⟩
      · rw [in_neg hx, ob1_some, if_pos z0]
      · rw [lines_in hRV hp, ob1_some, if_pos (by rw [if_neg e]; rfl)]
  rcases nn_or x with hx | ⟨l, hl, rfl⟩
  · exact refuse (Or.inl hx)
  · by_cases e : l ≤ cntB (fun p => St (srcAt (W s).1 p)) 0 (sz (W s).1)
    · obtain ⟨q, hq, hqn⟩ := oN_some e
      by_cases e0 : sz (W s).1 = 0
      · refine ⟨_, -2, hS, ?_, R7.ret0 ?_, Nat.le_refl _⟩
        · rintro G c n ⟨bu, old, lv, pg, qg, sc, h1, h2, h3⟩
          show ok (fX6_cuts G 0 (nn l)) _
          unfold fX6_cuts
          refine sa1 h1.1.io0 ?_
          refine page_open h1 (hS.sm h2 h3) (Fo.refl _ _) ?_
          intro G2 c2 b2 lv2 pg2 z1 z2 z3 hPV
          refine sa1 hPV.1 ?_
          refine sa1 (lineStart6 hPV hl) ?_
          rw [hq]
          refine ifn (nn_ne_m1 (by omega)) ?_
          refine sa1 hPV.2.1 ?_
          refine ift (by rw [e0]; rfl) ?_
          exact ok_some ⟨rfl, c2, ⟨b2, 0, lv2, pg2, qg, sc, z1, by omega, fun _ => z2⟩, z3⟩
        · intro A M B n Sf hR
          have hRV := hrv _ _ _ _ _ hR
          show fX7_cuts A M B (nn l) = _
          unfold fX7_cuts
          rw [zlt, lines7 hRV, ob1_some, lines_in hRV hl, ob1_some, if_neg (by rw [if_pos e]; decide), hRV.1, if_pos (by rw [e0]; rfl)]
      · have hfl := fstF_le (isB (fun p => St (srcAt (W s).1 p))) q (sz (W s).1 - q)
        obtain ⟨en, hen⟩ : ∃ en, en = fstF (isB (fun p => St (srcAt (W s).1 p))) q (sz (W s).1 - q) := ⟨_, rfl⟩
        rw [← hen] at hfl
        obtain ⟨p, m, hm, hp6, hp7⟩ : ∃ p m, p + m ≤ sz (W s).1 ∧ (∀ G, (if nn (sz (W s).1) ≤ nn en then (if nn q ≤ 0 then (fX6_cuts_b57 G 0 (nn q) (nn en)) else zlet (nn q + (-1 : Int32)) fun y17 => fX6_cuts_b57 G 0 y17 (nn en)) else zlet (nn en + (1 : Int32)) fun y18 => fX6_cuts_b57 G 0 (nn q) y18) = fX6_cuts_b57 G 0 (nn p) (nn (p + m))) ∧ ∀ A M B, (if nn en = nn (sz (W s).1) then (fX7_cuts_b58 A M B (nn q) (nn en) (1 : Int32)) else fX7_cuts_b58 A M B (nn q) (nn en) (0 : Int32)) = fX7_cuts_b96 A M B (nn p) (nn m) := by
          by_cases e1 : sz (W s).1 ≤ en
          · by_cases e2 : q = 0
            · refine ⟨q, en - q, by omega, fun G => ?_, fun A M B => ?_⟩
              · rw [if_pos (by rw [nn_le (by omega) (by omega)]; exact e1), if_pos (by rw [e2]; decide), show q + (en - q) = en by omega]
              · rw [if_pos (by rw [nn_eq (by omega) (by omega)]; omega)]
                unfold fX7_cuts_b58 fX7_cuts_b75 fX7_cuts_b76
                rw [if_neg (by decide), if_pos (by rw [e2]; decide), if_neg (by decide), nn_sub (by omega)]
            · refine ⟨q - 1, en - (q - 1), by omega, fun G => ?_, fun A M B => ?_⟩
              · rw [if_pos (by rw [nn_le (by omega) (by omega)]; exact e1), if_neg (by rw [q0, nn_le (by omega) (by omega)]; omega), zlt, nn_dec (by omega), show q - 1 + (en - (q - 1)) = en by omega]
              · rw [if_pos (by rw [nn_eq (by omega) (by omega)]; omega)]
                unfold fX7_cuts_b58 fX7_cuts_b76
                rw [if_neg (by decide), if_neg (by rw [q0, nn_le (by omega) (by omega)]; omega), if_neg (by decide), q1, nn_sub (by omega), nn_sub (by omega)]
          · refine ⟨q, en + 1 - q, by omega, fun G => ?_, fun A M B => ?_⟩
            · rw [if_neg (by rw [nn_le (by omega) (by omega)]; exact e1), q1, nn_add, zlt, show q + (en + 1 - q) = en + 1 by omega]
            · rw [if_neg (by rw [nn_eq (by omega) (by omega)]; omega)]
              unfold fX7_cuts_b58 fX7_cuts_b75 fX7_cuts_b76
              rw [if_pos rfl, if_pos rfl, q1, nn_add, nn_sub (by omega)]
        refine ⟨_, nn m, S_take hS hm, ?_, ?_, Nat.le_refl _⟩
        · rintro G c n ⟨bu, old, lv, pg, qg, sc, h1, h2, h3⟩
          show ok (fX6_cuts G 0 (nn l)) _
          unfold fX6_cuts
          refine sa1 h1.1.io0 ?_
          refine page_open h1 (hS.sm h2 h3) (Fo.refl _ _) ?_
          intro G2 c2 b2 lv2 pg2 z1 z2 z3 hPV
          refine sa1 hPV.1 ?_
          refine sa1 (lineStart6 hPV hl) ?_
          rw [hq]
          refine ifn (nn_ne_m1 (by omega)) ?_
          refine sa1 hPV.2.1 ?_
          refine ifn (by rw [q0, nn_eq (by omega) (by omega)]; exact e0) ?_
          refine sa1 hPV.1 ?_
          refine sa1 (lineEnd6 hPV (by omega)) ?_
          refine sa1 hPV.2.1 ?_
          rw [← hen]
          refine ok_of (hp6 G2) ?_
          unfold fX6_cuts_b57
          rw [nn_sub (by omega), Nat.add_sub_cancel_left]
          refine sa1 z1.1.io0 ?_
          exact C_take z1 hS hm z3
        · intro A M B n Sf hR
          have hRV := hrv _ _ _ _ _ hR.i0
          obtain ⟨M1, M2, K, e1, e2, hR2, -⟩ := R_take hR.i0 hS hm
          refine ⟨M2, K, ?_, hR2⟩
          show fX7_cuts A M B (nn l) = _
          unfold fX7_cuts
          rw [zlt, lines7 hRV, ob1_some, lines_in hRV hl, ob1_some, if_neg (by rw [if_pos e]; decide), hRV.1, if_neg (by rw [q0, nn_eq (by omega) (by omega)]; exact e0), startOf7 hRV (by omega) hq, ob1_some, endFrom7 hRV (by omega), ob1_some, ← hen]
          refine (hp7 A (mI M 0 0) B).trans ?_
          unfold fX7_cuts_b96
          rw [e1, ob2_some, e2, ob2_some]
    · exact refuse (Or.inr ⟨l, hl, rfl, e⟩)
theorem op_cuts : Op_cuts Inv := by
  intro k G x hI
  exact op_act (f6 := fun G => fX6_cuts G 0 x) (f7 := fun A M B => fX7_cuts A M B x) hI (A_cuts x)
