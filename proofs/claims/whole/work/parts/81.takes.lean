/-! takes -/
theorem va_va {α : Type} (f : Nat → α) (k : Nat) (x y : α) : va_up (va_up f k x) k y = va_up f k y := by
  funext i
  by_cases e : i = k
  · subst e
    rw [va_up_same, va_up_same]
  · exact (if_neg e).trans ((if_neg e).trans (if_neg e).symm)
section FinN
variable {G A B : zH} {M M1 : MS} {c : Nat → Nat} {k ts : Nat} {a : TA} {ro ro1 : TR} {st : TS} {s u f : Nat} {lv : Nat → Option Nat} {ke : TK} {pg : TP} {W : Nat → LVa} {T St kd : Nat → Nat}
theorem op_fin4 {f6 : Option (Int32 × zH)} {f7 : zH → MS → zH → Option (Int32 × MS × zH)} {r : Int32} (h2 : G = hG A M B) (h3 : A.length = 27) (hcr : CR c) (h4 : ∃ x, G[49]? = some (.inl (1, (1, .inr (.inl x))))) (h5 : Sm T St kd a ro st (s, u, f, lv) ke pg W) (h6 : Rf M G c T St kd a ro st (s, u, f, lv) W) (e6 : ok f6 (CQ G c (3016 * (4 * (k + 1) + a.2.1)) a ts ro1 st s u f ke W St r)) (e7 : ∀ A B, f7 A M B = some (r, M1, B)) (hq : Mq M M1) (hts : ts ≤ a.2.1) (h7 : M1.1 4 = nn ts) (hR : RRo M1 ro1) (hr : ro1.1 ≤ 16) : ∃ (r : Int32) (G1 A : zH) (M : MS) (B : zH) (M1 : MS) (B1 : zH), f6 = some (r, G1) ∧ G1 = hG A M B ∧ A.length = 27 ∧ f7 A M B = some (r, M1, B1) ∧ Inv k (hG A M1 B1) := by
  obtain ⟨⟨r', G1⟩, e6, hr', c1, b1, lv1, old, pg1, qg1, sc1, x1, x2, x3, x4⟩ := e6
  change r' = r at hr'
  subst hr'
  obtain ⟨A1, B1, e1, e2, hI⟩ := op_q (M1 := M1) h2 h3 hcr h4 h5 h6 x1 x2 hq hts h7 hR hr x3 x4
  exact ⟨r', G1, A1, M, B1, M1, B1, e6, e1, e2, e7 A1 B1, hI⟩
theorem op_fin5 {f6 : Option (Int32 × zH)} {f7 : zH → MS → zH → Option (Int32 × MS × zH)} (r : Int32) (h2 : G = hG A M B) (h3 : A.length = 27) (hcr : CR c) (h4 : ∃ x, G[49]? = some (.inl (1, (1, .inr (.inl x))))) (h5 : Sm T St kd a ro st (s, u, f, lv) ke pg W) (h6 : Rf M G c T St kd a ro st (s, u, f, lv) W) (e6 : ok f6 (CQ G c (3016 * (4 * (k + 1) + a.2.1)) a a.2.1 ro st s u f ke W St r)) (e7 : ∀ A B, f7 A M B = some (r, mI M 0 0, B)) : ∃ (r : Int32) (G1 A : zH) (M : MS) (B : zH) (M1 : MS) (B1 : zH), f6 = some (r, G1) ∧ G1 = hG A M B ∧ A.length = 27 ∧ f7 A M B = some (r, M1, B1) ∧ Inv k (hG A M1 B1) := op_fin4 h2 h3 hcr h4 h5 h6 e6 e7 (Mq_i0 M 0) (Nat.le_refl _) h6.1.2 h6.2.1 h5.2.1.2.2
end FinN
theorem bd_go {mk : Nat → Int} {st : Nat → Nat} {z x n : Nat} (h : bdM mk st z) (hx : x + n ≤ z) : bdM (goM x n mk) st (z - n) := by
  intro k hk
  have := h k hk
  unfold goM
  refine ⟨?_, ?_, this.2.2⟩
  · split
    · omega
    · split <;> omega
  · split
    · omega
    · split <;> omega
/-- the class's side of an edit: what was begun, and a leaf that became another -/
theorem Cl.ed {G G' : zH} {c c' bu : Nat → Nat} {n s u f r b' : Nat} {a : TA} {ro : TR} {st : TS} {lv : Nat → Option Nat} {ke : TK} {pg qg : TP} {sc : Nat → Int32} {W : Nat → LVa} {v w : LVa} (h : Cl G c bu n a ro st (s, u, f, lv) ke pg qg sc (va_up W s v)) (hs : s < 31) (hr : lv s = some r) (u1 : Up (s + 1) G c (bu s) G' c' b') (hl : Lf G' c' (s + 1) r b' w.1 w.2.1 w.2.2) : Cl G' c' (va_up bu s b') n a ro st (s, u, f, lv) ke pg qg sc (va_up W s w) := by
  have := h.leaf (i := s) (w := w) (by omega) u1 (by rw [hvf_ring hs]; show LO G' c' (s + 1) (lv s) b' w; rw [hr]; exact hl)
  rw [va_va] at this
  exact this
theorem op_takes : Op_takes Inv := by
  intro k G x y hI
  obtain ⟨c, bu, a, ro, st, ⟨s, u, f, lv⟩, ke, pg, qg, sc, W, M, A, B, T, St, kd, h1, h2, h3, h4, h5, h6⟩ := hI
  obtain ⟨hv, ht⟩ := h5.cur
  have hs : s < 31 := h5.2.2.2.1.1
  have huf : u + f ≤ 30 := h5.2.2.2.1.2
  have hz := hv.2.1
  have hwf := okP_wf hv.1
  have hlen := len_le_sz hwf
  have hon := h5.2.2.1.2
  have hcr := h1.2.2.2.1
  have h11 : (mI M 0 0).1 11 = nn (sz (W s).1) := h6.2.2.2.1.1
  have neg : ∀ (r : Int32), ok (fX6_takes G 0 x y) (CQ G c (3016 * (4 * (k + 1) + a.2.1)) a a.2.1 ro st s u f ke W St r) → (∀ A B, fX7_takes A M B x y = some (r, mI M 0 0, B)) → _ := fun r e6 e7 => op_fin5 (k := k) (f7 := fun A M B => fX7_takes A M B x y) r h2 h3 hcr h4 h5 h6 e6 e7
  by_cases ey : y < 1
  · refine neg (-1) ?_ (fun A B => ?_)
    · unfold fX6_takes
      refine ift ey ?_
      exact ret0 h1 h5
    · unfold fX7_takes fX7_takesOne
      rw [zlt, if_pos ey]
      rfl
  · obtain ⟨n, hn, rfl⟩ : ∃ n, n < 2147483648 ∧ y = nn n := by
      rcases nn_or y with h | h
      · exact absurd (by rw [Int32.lt_iff_toInt_lt] at *; have : (1 : Int32).toInt = 1 := rfl; have : (0 : Int32).toInt = 0 := rfl; omega) ey
      · exact h
    have hn1 : 1 ≤ n := by
      rw [q1, nn_lt hn (by omega)] at ey
      omega
    rcases nn_or x with hx | ⟨p, hp, rfl⟩
    · refine neg (-1) ?_ (fun A B => ?_)
      · unfold fX6_takes
        refine ifn ey ?_
        refine ifn (neg_le hx) ?_
        exact ret0 h1 h5
      · unfold fX7_takes fX7_takesOne
        rw [zlt, if_neg ey, if_neg (neg_le hx)]
        rfl
    · have hp0 : 0 ≤ nn p := by rw [q0, nn_le (by omega) hp]; omega
      have hcmp : (lg_cmp ((nn p).toInt64 + (nn n).toInt64) ((mI M 0 0).1 11).toInt64 ≤ 0) = (p + n ≤ sz (W s).1) := by
        rw [cmp_le, add64 hp hn, h11, nn64 (by omega)]
        exact propext ⟨fun h => by omega, fun h => by omega⟩
      by_cases e : p + n ≤ sz (W s).1
      · have hc6 : ok (fX6_takes G 0 (nn p) (nn n)) (fun z => z.1 = nn (cntB (fun p => St (srcAt (W s).1 p)) p n) ∧ ∃ c1 b1 lv1 pg1, Cl z.2 c1 b1 (3016 * (4 * (k + 1) + a.2.1)) (a.1, a.2.1, 1, -1) ro st ((s + 1) % 31, min (u + 1) 30, 0, lv1) ke pg1 qg sc (va_up W ((s + 1) % 31) (takP (W s).1 p n, goM p n (W s).2.1, (W s).2.2)) ∧ Fo G c z.2 c1) := by
          unfold fX6_takes
          refine ifn ey ?_
          refine ift hp0 ?_
          refine sa1 h1.1.io0 ?_
          refine ca2 (hasSigns_sp h1 hs hz hp hn) ?_
          rintro v G2 ⟨z1, c1, b1, lv1, z2, z3, -⟩
          change v = _ at z1
          subst z1
          refine ifn (by rw [if_pos e]; decide) ?_
          refine sa1 z2.1.io0 ?_
          refine page_open (code := fun qv11 G10 => ob1 (isO G10 qv11 3) fun u12 => ob1 (fX3_breaksIn G10 qv11 (nn p) (nn p + nn n)) fun v14 => ob1 (isO G10 0 6) fun u15 => ob2 (fX6_beginEdit G10 0) fun qv18 G17 => ob1 (isO G17 qv18 2) fun u19 => ob1 (fX2_take G17 qv18 (nn p) (nn n)) fun G21 => some (v14, G21)) z2 h5.lv' z3 ?_
          intro G3 c3 b3 lv3 pg3 w1 w2 w3 hPV
          refine sa1 hPV.1 ?_
          rw [nn_add]
          refine sa1 (breaksIn6 hPV e) ?_
          refine sa1 w1.1.io0 ?_
          refine ca2 (beginEdit6_sp w1 hs (by omega) (by omega) (fun k hk => (hv.2.2 k hk).2.2)) ?_
          rintro r4 G4 ⟨c4, b4, lv4, t1, t2, t3⟩
          have hs4 : (s + 1) % 31 < 31 := by omega
          have hL := t2.lf hs4 t1
          rw [va_up_same] at hL
          refine sa1 hL.io ?_
          obtain ⟨d, hd⟩ := t2.rm (i := (s + 1) % 31) (by omega)
          refine ca1 (take_sp hL hwf e hz hv.2.2 hd) ?_
          rintro G5 ⟨c5, b5, l5, u5⟩
          exact ok_some ⟨rfl, c5, _, lv4, pg3, t2.ed (w := (takP (W s).1 p n, goM p n (W s).2.1, (W s).2.2)) hs4 t1 u5 l5, w3.trans (t3.trans (u5.1.fo (by omega)))⟩
        obtain ⟨⟨r', G1⟩, e6, hr, c1, b1, lv1, pg1, x1, x2⟩ := hc6
        change r' = _ at hr
        subst hr
        obtain ⟨A1, B1, y1, y2, ⟨y3, y4⟩, hold, hfin⟩ := op_ed (k := k) h2 h3 hcr h4 h5 h6 x1 x2 (Nat.le_refl _)
        have hl : (hG A1 (mI M 0 0) B1).length = (hG A1 M B1).length := by rw [hG_len, hG_len]
        have hzs := hG_zs A1 B1 [] M (mI M 0 0)
        rw [List.append_nil] at hzs
        have hz0 : zs ([] : zH) = 0 := rfl
        have hRB : RBk (mI M 0 0) (W s).1 := h6.2.2.2.1.cg rfl rfl
        have hRM : RMk (mI M 0 0) (W s) := h6.2.2.2.2.1
        have h17 : (mI M 0 0).1 17 = nn u := h6.2.2.2.2.2.1.1
        obtain ⟨M1, g, g', d1, d2, d3, d4, d5, d6⟩ := edits_sp (A := A1) (B := B1) hRB hRM h17 (by omega) hold (by omega) (by omega)
        rw [hl] at d5
        have hB1 : RBk M1 (W s).1 := hRB.cg (d4.1 11 (by decide) (by decide) (by decide)) (by rw [d4.2.1])
        have hS1 : RSt M1 St st.1 st.2.1 := (h6.2.2.1 : RSt M St st.1 st.2.1).cg (d4.1 8 (by decide) (by decide) (by decide)) (d4.1 9 (by decide) (by decide) (by decide)) (by rw [d4.2.1]; rfl) (by rw [d4.2.1]; rfl)
        have hM1 : RMk M1 ((W s).1, (W s).2.1, (W s).2.2) := fun k hk => by rw [d4.2.1]; exact hRM k hk
        obtain ⟨M2, f1, f2, f3, f4⟩ := takesOut7 (x := p) (n := n) hB1 hS1 hv.1 ht hM1 hv.2.2 e
        refine ⟨_, G1, A1, M, B1, M2, _, e6, y1, y2, ?_, hfin M2 g g' St d2 d3 (PastR.cg d5 (f4.1 17 (by decide)) (f4.1 20 (by decide)) (by rw [f4.2.2])) ?_ ?_ h5.2.1.2.2 ?_ h5.2.2.1 (Nat.le_refl _) (Nat.le_refl _) f2 f3 ⟨ok_takP hv.1, by show sz (takP (W s).1 p n) ≤ 3000; rw [sz_takP e]; omega, by show bdM (goM p n (W s).2.1) (W s).2.2 (sz (takP (W s).1 p n)); rw [sz_takP e]; exact bd_go hv.2.2 e⟩ (Or.inl ⟨rfl, by rw [f4.1 21 (by decide)]; exact d6⟩)⟩
        · unfold fX7_takes fX7_takesOne
          rw [zlt, if_neg ey, if_pos hp0, if_pos (by rw [hcmp]; exact e), d1, ob2_some, f1, ob2_some, ob3_some]
        · refine ⟨fun i hi => ?_, ?_⟩
          · rw [f4.2.1 3 (by decide) (by decide), d4.2.1]
            exact h6.1.1 i hi
          · rw [f4.1 4 (by decide), d4.1 4 (by decide) (by decide) (by decide)]
            exact h6.1.2
        · refine ⟨?_, fun j hj => ?_⟩
          · rw [f4.1 1 (by decide), d4.1 1 (by decide) (by decide) (by decide)]
            exact h6.2.1.1
          · rw [f4.2.2, d4.2.2]
            exact h6.2.1.2 j hj
        · exact hS1.cg (f4.1 8 (by decide)) (f4.1 9 (by decide)) (f4.2.1 6 (by decide) (by decide)) (f4.2.1 7 (by decide) (by decide))
      · refine neg (-2) ?_ (fun A B => ?_)
        · unfold fX6_takes
          refine ifn ey ?_
          refine ift hp0 ?_
          refine sa1 h1.1.io0 ?_
          refine ca2 (hasSigns_sp h1 hs hz hp hn) ?_
          rintro v G2 ⟨z1, c1, b1, lv1, z2, z3, -⟩
          change v = _ at z1
          subst z1
          refine ift (by rw [if_neg e]; rfl) ?_
          exact CQ_ret (old := a.2.2.1) z2 z3 h5.2.1.2.1 h5.2.2.2.2.2.2
        · unfold fX7_takes fX7_takesOne
          rw [zlt, if_neg ey, if_pos hp0, if_neg (by rw [hcmp]; exact e)]
          rfl
