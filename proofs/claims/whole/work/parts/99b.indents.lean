/-! indents -/
theorem lsF_inv {t : Nat → Nat} {l p d m : Nat} (h : lsF t l p d = some m) : p ≤ m ∧ m ≤ p + d ∧ cntB t p (m - p) = l ∧ (l = 0 → m = p) ∧ (1 ≤ l → p < m ∧ t (m - 1) = 10) := by
  induction d generalizing l p with
  | zero =>
    simp only [lsF] at h
    by_cases e : l = 0
    · rw [if_pos e] at h
      have := Option.some.inj h
      subst this
      rw [Nat.sub_self]
      exact ⟨Nat.le_refl _, Nat.le_refl _, e.symm, fun _ => rfl, fun h => by omega⟩
    · rw [if_neg e] at h
      cases h
  | succ d ih =>
    simp only [lsF] at h
    by_cases e : l = 0
    · rw [if_pos e] at h
      have := Option.some.inj h
      subst this
      rw [Nat.sub_self]
      exact ⟨Nat.le_refl _, by omega, e.symm, fun _ => rfl, fun h => by omega⟩
    · rw [if_neg e] at h
      obtain ⟨h1, h2, h3, h4, h5⟩ := ih h
      have hf := cntB_front t p (m - (p + 1))
      rw [show m - (p + 1) + 1 = m - p by omega, h3] at hf
      by_cases e1 : t p = 10
      · rw [if_pos e1] at h4 h5 hf
        rw [if_pos e1] at hf
        refine ⟨by omega, by omega, by omega, fun h => absurd h e, fun _ => ⟨by omega, ?_⟩⟩
        by_cases e2 : l - 1 = 0
        · have := h4 e2
          rw [this, Nat.add_sub_cancel]
          exact e1
        · exact (h5 (by omega)).2
      · rw [if_neg e1] at h4 h5 hf
        rw [if_neg e1] at hf
        exact ⟨by omega, by omega, by omega, fun h => absurd h e, fun _ => ⟨by omega, (h5 (by omega)).2⟩⟩
theorem lsF_zero (t : Nat → Nat) (p d : Nat) : lsF t 0 p d = some p := by
  cases d <;> simp [lsF]
theorem lsF_cg {t t' : Nat → Nat} {l p d d' m : Nat} (h : lsF t l p d = some m) (ht : ∀ k, p ≤ k → k < m → t' k = t k) (hm : m ≤ p + d') : lsF t' l p d' = some m := by
  induction d generalizing l p d' with
  | zero =>
    simp only [lsF] at h
    by_cases e : l = 0
    · rw [if_pos e] at h
      have := Option.some.inj h
      subst this
      rw [e]
      exact lsF_zero _ _ _
    · rw [if_neg e] at h
      cases h
  | succ d ih =>
    have hi := lsF_inv h
    simp only [lsF] at h
    by_cases e : l = 0
    · rw [if_pos e] at h
      have := Option.some.inj h
      subst this
      rw [e]
      exact lsF_zero _ _ _
    · rw [if_neg e] at h
      have hpm := (hi.2.2.2.2 (by omega)).1
      obtain ⟨d'', rfl⟩ : ∃ d'', d' = d'' + 1 := ⟨d' - 1, by omega⟩
      simp only [lsF]
      rw [if_neg e, ht p (Nat.le_refl _) hpm]
      exact ih h (fun k h1 h2 => ht k (by omega) h2) (by omega)
theorem ls_prev {t : Nat → Nat} {n l m : Nat} (h : lsF t (l + 1) 0 n = some m) : 1 ≤ m ∧ lsF t l 0 n = some (lstF (isB t) (m - 1)) := by
  obtain ⟨h1, h2, h3, h4, h5⟩ := lsF_inv h
  obtain ⟨h6, h7⟩ := h5 (by omega)
  refine ⟨h6, ?_⟩
  rw [Nat.sub_zero, show m = (m - 1) + 1 by omega] at h3
  have h3' : cntB t 0 (m - 1) + (if t (0 + (m - 1)) = 10 then 1 else 0) = l + 1 := h3
  rw [Nat.zero_add, if_pos h7] at h3'
  have := lsF_line (t := t) (n := n) (p := m - 1) (by omega)
  rw [show cntB t 0 (m - 1) = l by omega] at this
  exact this
theorem lineBegin6' {G : zH} {n m : Nat} {t w : Nat → Nat} (h : PV G n t w) (hm : m ≤ n) : ∃ v, fX3_lineBegin G 20 (nn m - 1) = some v ∧ (1 ≤ m → v = nn (lstF (isB t) (m - 1))) := by
  by_cases e : 1 ≤ m
  · refine ⟨_, ?_, fun _ => rfl⟩
    rw [q1, nn_sub e]
    exact lineBegin6 h (by omega)
  · refine ⟨0, ?_, fun h => absurd h e⟩
    rw [show m = 0 by omega]
    rfl
theorem sign_ins {P : PC} {on an p n i : Nat} {St t : Nat → Nat} (hk : okP on an P) (hon : on ≤ 1600) (hp : p ≤ sz P) (hn : 1 ≤ n) (hi : i < p) : stA St an t n (srcAt (insP P p (1600 + an) n) i) = St (srcAt P i) := by
  rw [(insP_at hk hon hp hn).1 i, srcAt_app, sz_cutL hp, if_pos hi, srcAt_cutL hp hi]
  have := okP_src hk (show i < sz P by omega)
  unfold stA
  rw [if_neg (by omega)]
theorem blanks7 {A B : zH} {M : MS} {K : MS → zH → Int32 → Int32 → Int32 → Option (Int32 × MS × zH)} {an n : Nat} {x1 x5 x6 x7 : Int32} (h9 : M.1 9 = nn an) (ha : an + n ≤ 6000) (hn : n ≤ 8) : ∃ M1, fX7_indents_b112 A K FU M B x1 (nn n) x5 x6 x7 (nn 0) = fX7_indents_b145 A K M1 B x1 (nn n) x5 x6 x7 ∧ Ad M M1 an (fun _ => 32) n := by
  have key : ∀ fu k M', k ≤ n → n - k < fu → Ad M M' an (fun _ => 32) k → ∃ M1, fX7_indents_b112 A K fu M' B x1 (nn n) x5 x6 x7 (nn k) = fX7_indents_b145 A K M1 B x1 (nn n) x5 x6 x7 ∧ Ad M M1 an (fun _ => 32) n := by
    intro fu
    induction fu with
    | zero => intro k M' _ h; omega
    | succ fu ih =>
      intro k M' hk hfu hA
      unfold fX7_indents_b112
      rw [if_le (by omega) (by omega)]
      by_cases e : n ≤ k
      · have : k = n := by omega
        subst this
        rw [if_pos e]
        exact ⟨M', rfl, hA⟩
      · rw [if_neg e, hA.2.1, wr_nn (show an + k < 6000 by omega) (by omega), ob1_some, nn_tn (by omega)]
        have h9' : (mA M' 7 (upd (M'.2.1 7) (an + k) 32)).1 9 = nn (an + k) := hA.2.1
        rw [h9', q1, zlt, nn_add k 1, zlt]
        exact ih (k + 1) _ (by omega) (by omega) (hA.succ rfl)
  exact key FU 0 M (by omega) (by rw [FU_eq]; omega) (Ad.zero h9)
theorem ind_loop {T kd : Nat → Nat} {tx : Nat → Int32} {ts : Nat} {tb : Int32} {ro : TR} {s u f : Nat} {ke : TK} {a n n0 : Nat} {P0 : PC} {St0 : Nat → Nat} (hn : 1 ≤ n) (hn8 : n ≤ 8) (hz0 : sz P0 ≤ 3000) (ht0 : ∀ p, p < sz P0 → 1 ≤ St0 (srcAt P0 p) ∧ St0 (srcAt P0 p) ≤ 127) (hn0 : n0 = sz P0) : ∀ r St st W m, a + r ≤ 3001 → SA ((T, St, kd), (tx, ts, tb), ro, st, (s, u, f), ke, W) → sz (W s).1 + r * n ≤ 3000 → st.2.1 + r * n ≤ 6000 → (1 ≤ r → lsF (fun p => St0 (srcAt P0 p)) (a + r - 1) 0 n0 = some m ∧ m ≤ sz (W s).1 ∧ ∀ p, p < m → St (srcAt (W s).1 p) = St0 (srcAt P0 p)) → ∃ S1, SA S1 ∧ tsOf S1 = ts ∧ (∀ G G0 c c0 bu N lv pg qg sc r7 x5 fu, Cl G c bu N (tx, ts, 1, tb) ro st (s, u, f, lv) ke pg qg sc W → lv s = some r7 → PgTo pg P0 St0 (sz P0) → (1 ≤ r → x5 = nn m) → r < fu → Fo G0 c0 G c → ok (fX6_indents_b99 fu G 0 (nn a) (nn n) 20 x5 r7 (pre (a + r))) fun z => z.1 = nn (sz (W s).1 + r * n) ∧ ∃ c1, CS z.2 c1 N S1 ∧ Fo G0 c0 z.2 c1) ∧ ∀ A M B N Sf fu, RS A M B N Sf ((T, St, kd), (tx, ts, tb), ro, st, (s, u, f), ke, W) → r < fu → ∃ M1, fX7_indents_b87 A fu M B (nn a) (nn n) (pre (a + r)) = some (nn (sz (W s).1 + r * n), M1, B) ∧ RS A M1 B N Sf S1 := by
  intro r
  induction r with
  | zero =>
    intro St st W m har hS hz ha hm
    obtain ⟨⟨hv, ht⟩, hs, huf, hst⟩ := hS.cur
    have hlt : pre (a + 0) < nn a := by
      unfold pre
      rw [ii_lt_nn (by omega) (by omega)]
      omega
    refine ⟨_, hS, rfl, ?_, ?_⟩
    · intro G G0 c c0 bu N lv pg qg sc r7 x5 fu h1 h2 h3 h4 h5 h6
      obtain ⟨fu', rfl⟩ : ∃ fu', fu = fu' + 1 := ⟨fu - 1, by omega⟩
      unfold fX6_indents_b99
      refine ift hlt ?_
      unfold fX6_indents_b145
      refine sa1 (h1.lf hs h2).n3 ?_
      exact ok_some ⟨by rw [Nat.zero_mul, Nat.add_zero], c, ⟨bu, 1, lv, pg, qg, sc, h1, Nat.le_refl _, fun h => absurd h (by decide)⟩, h6⟩
    · intro A M B N Sf fu hR hfu
      obtain ⟨fu', rfl⟩ : ∃ fu', fu = fu' + 1 := ⟨fu - 1, by omega⟩
      unfold fX7_indents_b87
      rw [if_pos hlt]
      unfold fX7_indents_b166
      rw [hR.cur.2.1.1, Nat.zero_mul, Nat.add_zero]
      exact ⟨M, rfl, hR⟩
  | succ r ih =>
    intro St st W m har hS hz ha hm
    obtain ⟨⟨hv, ht⟩, hs, huf, hst⟩ := hS.cur
    obtain ⟨hls, hmz, hsg⟩ := hm (by omega)
    rw [show a + (r + 1) - 1 = a + r by omega] at hls
    have hmul : (r + 1) * n = r * n + n := Nat.succ_mul r n
    have hS1 := S_ins (p := m) (m := n) (tf := fun _ => nn 32) (t := fun _ => 32) hS hmz hn (by omega) (by omega) (fun _ _ => ⟨rfl, by omega, by omega⟩) tb
    have hszV : sz (va_up W s (insP (W s).1 m (1600 + st.2.1) n, comeM m n (W s).2.1 (W s).2.2, (W s).2.2) s).1 = sz (W s).1 + n := by
      rw [va_up_same]
      exact sz_insP hmz
    have hprev : 1 ≤ r → 1 ≤ m ∧ lsF (fun p => St0 (srcAt P0 p)) (a + r - 1) 0 n0 = some (lstF (isB (fun p => St0 (srcAt P0 p))) (m - 1)) := by
      intro hr
      rw [show a + r = (a + r - 1) + 1 by omega] at hls
      exact ls_prev hls
    have hmn0 := lsF_le hls
    obtain ⟨S1, k1, k2, k3, k4⟩ := ih (stA St st.2.1 (fun _ => 32) n) (st.1, st.2.1 + n, adds st.2.2 st.2.1 (fun _ => nn 32) n) (va_up W s (insP (W s).1 m (1600 + st.2.1) n, comeM m n (W s).2.1 (W s).2.2, (W s).2.2)) (lstF (isB (fun p => St0 (srcAt P0 p))) (m - 1)) (by omega) hS1 (by rw [hszV]; omega) (by show st.2.1 + n + r * n ≤ 6000; omega) (fun hr => ⟨(hprev hr).2, by rw [hszV]; have := lstF_le (isB (fun p => St0 (srcAt P0 p))) (m - 1); omega, fun p hp => by
      have := lstF_le (isB (fun p => St0 (srcAt P0 p))) (m - 1)
      rw [va_up_same]
      show stA St st.2.1 (fun _ => 32) n (srcAt (insP (W s).1 m (1600 + st.2.1) n) p) = _
      rw [sign_ins hv.1 hst.2.1 hmz hn (by omega)]
      exact hsg p (by omega)⟩)
    have hge : ¬ pre (a + (r + 1)) < nn a := by
      rw [show a + (r + 1) = (a + r) + 1 by omega, pre_s, nn_lt (by omega) (by omega)]
      omega
    have hpd : pre (a + (r + 1)) + -1 = pre (a + r) := by
      rw [show a + (r + 1) = (a + r) + 1 by omega, pre_s, pre_d]
    refine ⟨S1, k1, k2, ?_, ?_⟩
    · intro G G0 c c0 bu N lv pg qg sc r7 x5 fu h1 h2 h3 h4 h5 h6
      obtain ⟨fu', rfl⟩ : ∃ fu', fu = fu' + 1 := ⟨fu - 1, by omega⟩
      have hx5 := h4 (by omega)
      subst hx5
      unfold fX6_indents_b99
      refine ifn hge ?_
      refine sa1 h1.1.r0_3 ?_
      refine sa1 h1.1.io4 ?_
      refine sa1 (addedEnd_sp h1.1) ?_
      refine sa1 (h1.lf hs h2).io ?_
      refine ca1 (C_ins h1 hS h2 hmz hn (by omega)) ?_
      rintro G2 ⟨c2, b2, x1, x2⟩
      refine sa1 x1.1.r0_3 ?_
      refine sa1 x1.1.io4 ?_
      refine ca1 (addBlanks_sp x1.1 x1.2.2.1 0 (by omega) (by omega)) ?_
      rintro G3 ⟨y1, y2⟩
      have x3 := x1.fx y1 y2 rfl rfl
      have hPV := PV_of x3.1 h3 hz0 ht0
      refine sa1 hPV.1 ?_
      obtain ⟨v, v1, v2⟩ := lineBegin6' (m := m) hPV (by omega)
      refine sa1 v1 ?_
      refine zl ?_
      rw [hpd]
      have := k3 G3 G0 c2 c0 b2 N lv pg qg sc r7 v fu' x3 h2 h3 (fun hr => v2 (hprev hr).1) (by omega) (h6.trans (x2.trans (y2.1.fo (by omega))))
      rw [hszV] at this
      rw [show sz (W s).1 + (r + 1) * n = sz (W s).1 + n + r * n by omega]
      exact this
    · intro A M B N Sf fu hR hfu
      obtain ⟨fu', rfl⟩ : ∃ fu', fu = fu' + 1 := ⟨fu - 1, by omega⟩
      obtain ⟨r3, r4, r5, r11, r1, r6, r7⟩ := hR.cur
      have hRV := RV_of r4 r3 hv.1 ht
      have hst7 : fX7_startOf M (nn (a + r)) = some (nn m) := startOf7 hRV (by omega) (lsF_cg hls (fun k _ hk => hsg k hk) (by omega))
      obtain ⟨M1, b1, b2⟩ := blanks7 (A := A) (B := B) (M := M) (K := fX7_indents_b87 A fu') (an := st.2.1) (n := n) (x1 := nn a) (x5 := nn (a + r)) (x6 := nn m) (x7 := nn (if goB (W s).1 m st.2.1 then 1 else 0)) r3.2.1 (by omega) hn8
      obtain ⟨g1, M2, g2, g3, g4, g5⟩ := R_ins hR hS b2 hmz hn (by omega) (by omega) (adds st.2.2 st.2.1 (fun _ => nn 32) n)
      obtain ⟨M3, d1, d2⟩ := k4 A M2 B N Sf fu' g5 (by omega)
      refine ⟨M3, ?_, d2⟩
      unfold fX7_indents_b87
      rw [if_neg hge, show pre (a + (r + 1)) = nn (a + r) from pre_s (a + r), hst7, ob1_some, g1, ob1_some, q0, b1]
      unfold fX7_indents_b145
      rw [b2.2.1, nn_sub (by omega), Nat.add_sub_cancel, g2, ob1_some, pre_d, zlt, d1, hszV]
      rw [show sz (W s).1 + (r + 1) * n = sz (W s).1 + n + r * n by omega]
theorem A_indents (x y w : Int32) : ∀ S, SA S → ∃ S1 r, SA S1 ∧ C6 S S1 r (fun G => fX6_indents G 0 x y w) ∧ R7 S S1 r (fun A M B => fX7_indents A M B x y w) ∧ tsOf S1 ≤ tsOf S := by
  rintro ⟨⟨T, St, kd⟩, ⟨tx, ts, tb⟩, ro, st, ⟨s, u, f⟩, ke, W⟩ hS
  obtain ⟨⟨hv, ht⟩, hs, huf, hst⟩ := hS.cur
  have hz := hv.2.1
  have han := hst.2.2
  have hcn := cntB_le (fun p => St (srcAt (W s).1 p)) 0 (sz (W s).1)
  by_cases ew : ∃ n, 1 ≤ n ∧ n ≤ 8 ∧ w = nn n
  · obtain ⟨n, n1, n2, rfl⟩ := ew
    have hin : fX7_in (nn n).toInt64 (1 : Int64) (8 : Int64) = some (nn 1) := by rw [in_lit (lo := 1) (hi := 8) (by omega) rfl rfl, if_pos ⟨n1, n2⟩]
    have c6 : ∀ (G : zH) (c : Nat → Nat) (N : Nat) (Q : Int32 × zH → Prop), CS G c N ((T, St, kd), (tx, ts, tb), ro, st, (s, u, f), ke, W) → (∀ G1 c1 bu lv pg qg sc, Cl G1 c1 bu N (tx, ts, 0, tb) ro st (s, u, f, lv) ke pg qg sc W → PgTo pg (W s).1 St (sz (W s).1) → Fo G c G1 c1 → PV G1 (sz (W s).1) (fun p => St (srcAt (W s).1 p)) (pcAt (W s).1) → ok (ob1 (fX3_lineStart G1 20 y) fun v9 => if x < 0 then (some ((-2 : Int32), G1)) else if y < x then (some ((-2 : Int32), G1)) else if v9 = (-1 : Int32) then (some ((-2 : Int32), G1)) else zlet ((((y - x) + (1 : Int32)) * nn n)) fun y13 => ob1 (fi G1 20 3 2) fun v14 => if (v14 + y13) ≤ (3000 : Int32) then (ob1 (frf G1 0 6 3) fun qv16 => ob1 (fi G1 qv16 4 2) fun v17 => if (v17 + y13) ≤ (6000 : Int32) then (ob1 (isO G1 0 6) fun u19 => ob2 (fX6_beginEdit G1 0) fun qv22 G21 => fX6_indents_b99 FU G21 0 x (nn n) 20 v9 qv22 y) else some ((-4 : Int32), G1)) else some ((-3 : Int32), G1)) Q) → ok (fX6_indents G 0 x y (nn n)) Q := by
      rintro G c N Q ⟨bu, old, lv, pg, qg, sc, h1, h2, h3⟩ H
      unfold fX6_indents
      refine ifn (by rw [q1, nn_lt (by omega) (by omega)]; omega) ?_
      refine ift (by rw [q8, nn_le (by omega) (by omega)]; omega) ?_
      refine sa1 h1.1.io0 ?_
      refine page_open h1 (hS.sm h2 h3) (Fo.refl _ _) ?_
      intro G2 c2 b2 lv2 pg2 z1 z2 z3 hPV
      refine sa1 hPV.1 ?_
      exact H G2 c2 b2 lv2 pg2 qg sc z1 z2 z3 hPV
    have back : ∀ (G1 : zH) (c c1 bu : Nat → Nat) (G : zH) (N : Nat) (lv : Nat → Option Nat) (pg qg : TP) (sc : Nat → Int32) (r : Int32), Cl G1 c1 bu N (tx, ts, 0, tb) ro st (s, u, f, lv) ke pg qg sc W → PgTo pg (W s).1 St (sz (W s).1) → Fo G c G1 c1 → ok (some (r, G1)) fun z => z.1 = r ∧ ∃ c1, CS z.2 c1 N ((T, St, kd), (tx, ts, tb), ro, st, (s, u, f), ke, W) ∧ Fo G c z.2 c1 := fun G1 c c1 bu G N lv pg qg sc r h1 h2 h3 => ok_some ⟨rfl, c1, ⟨bu, 0, lv, pg, qg, sc, h1, by omega, fun _ => h2⟩, h3⟩
    have hls6 : ∀ (G1 : zH), PV G1 (sz (W s).1) (fun p => St (srcAt (W s).1 p)) (pcAt (W s).1) → ∃ v9, fX3_lineStart G1 20 y = some v9 := by
      intro G1 hPV
      rcases nn_or y with hy | ⟨b, hb, rfl⟩
      · exact ⟨_, lineStart6_neg hPV hy⟩
      · exact ⟨_, lineStart6 hPV hb⟩
    have r7 : ∀ A M B, fX7_indents A M B x y (nn n) = if x < 0 then (some ((-2 : Int32), mI M 0 0, B)) else if y < x then (some ((-2 : Int32), mI M 0 0, B)) else ob1 (fX7_lines (mI M 0 0)) fun v6 => if y < v6 then (zlet ((((y - x) + (1 : Int32)) * nn n)) fun y8 => if (((mI M 0 0).1 11) + y8) ≤ (3000 : Int32) then (if (((mI M 0 0).1 9) + y8) ≤ (6000 : Int32) then (ob2 (fX7_edits A (mI M 0 0) B) fun M11 B12 => fX7_indents_b87 A FU M11 B12 x (nn n) y) else some ((-4 : Int32), mI M 0 0, B)) else some ((-3 : Int32), mI M 0 0, B)) else some ((-2 : Int32), mI M 0 0, B) := by
      intro A M B
      unfold fX7_indents
      rw [zlt, hin, ob1_some, if_neg (by decide)]
    rcases nn_or x with hx | ⟨a, ha, rfl⟩
    · refine ⟨_, -2, hS, ?_, R7.ret0 ?_, Nat.le_refl _⟩
      · intro G c N h
        refine c6 G c N _ h ?_
        intro G1 c1 bu lv pg qg sc z1 z2 z3 hPV
        obtain ⟨v9, e9⟩ := hls6 G1 hPV
        refine sa1 e9 ?_
        refine ift hx ?_
        exact back _ _ _ _ _ _ _ _ _ _ _ z1 z2 z3
      · intro A M B N Sf hR
        show fX7_indents A M B x y (nn n) = _
        rw [r7, if_pos hx]
    have hx0 : ¬ nn a < 0 := by rw [nn_neg ha]; exact id
    by_cases eyx : y < nn a
    · refine ⟨_, -2, hS, ?_, R7.ret0 ?_, Nat.le_refl _⟩
      · intro G c N h
        refine c6 G c N _ h ?_
        intro G1 c1 bu lv pg qg sc z1 z2 z3 hPV
        obtain ⟨v9, e9⟩ := hls6 G1 hPV
        refine sa1 e9 ?_
        refine ifn hx0 ?_
        refine ift eyx ?_
        exact back _ _ _ _ _ _ _ _ _ _ _ z1 z2 z3
      · intro A M B N Sf hR
        show fX7_indents A M B (nn a) y (nn n) = _
        rw [r7, if_neg hx0, if_pos eyx]
    obtain ⟨b, hb, rfl⟩ : ∃ b, b < 2147483648 ∧ y = nn b := by
      rcases nn_or y with hy | h
      · exact absurd (ng_lt hy ha) eyx
      · exact h
    have hab : a ≤ b := by
      rw [nn_lt hb ha] at eyx
      omega
    have hrv : ∀ A M B N Sf, RS A M B N Sf ((T, St, kd), (tx, ts, tb), ro, st, (s, u, f), ke, W) → RV M (sz (W s).1) (fun p => St (srcAt (W s).1 p)) := fun A M B N Sf hR => RV_of hR.cur.2.1 hR.cur.1 hv.1 ht
    by_cases el : b ≤ cntB (fun p => St (srcAt (W s).1 p)) 0 (sz (W s).1)
    · obtain ⟨m, hm, hmn⟩ := oN_some el
      obtain ⟨q, hq⟩ : ∃ q, q = b - a + 1 := ⟨_, rfl⟩
      have hqn : q * n ≤ 3001 * 8 := Nat.mul_le_mul (by omega) n2
      have hmore : ((nn b - nn a) + (1 : Int32)) * nn n = nn (q * n) := by
        rw [nn_sub hab, q1, nn_add, nn_mul, hq]
      have c6' : ∀ (G : zH) (c : Nat → Nat) (N : Nat) (Q : Int32 × zH → Prop), CS G c N ((T, St, kd), (tx, ts, tb), ro, st, (s, u, f), ke, W) → (∀ G1 c1 bu lv pg qg sc, Cl G1 c1 bu N (tx, ts, 0, tb) ro st (s, u, f, lv) ke pg qg sc W → PgTo pg (W s).1 St (sz (W s).1) → Fo G c G1 c1 → ok (if sz (W s).1 + q * n ≤ 3000 then (if st.2.1 + q * n ≤ 6000 then (ob1 (isO G1 0 6) fun u19 => ob2 (fX6_beginEdit G1 0) fun qv22 G21 => fX6_indents_b99 FU G21 0 (nn a) (nn n) 20 (nn m) qv22 (nn b)) else some ((-4 : Int32), G1)) else some ((-3 : Int32), G1)) Q) → ok (fX6_indents G 0 (nn a) (nn b) (nn n)) Q := by
        intro G c N Q h H
        refine c6 G c N _ h ?_
        intro G1 c1 bu lv pg qg sc z1 z2 z3 hPV
        refine sa1 (lineStart6 hPV hb) ?_
        rw [hm]
        refine ifn hx0 ?_
        refine ifn eyx ?_
        refine ifn (nn_ne_m1 (by omega)) ?_
        rw [hmore]
        refine zl ?_
        refine sa1 hPV.2.1 ?_
        have hh := H G1 c1 bu lv pg qg sc z1 z2 z3
        rw [nn_add, q3000, if_le (by omega) (by omega)]
        by_cases e1 : sz (W s).1 + q * n ≤ 3000
        · rw [if_pos e1] at hh ⊢
          refine sa1 z1.1.r0_3 ?_
          refine sa1 (fi_at (v := nn st.2.1) z1.1.g4 rfl) ?_
          rw [nn_add, q6000, if_le (by omega) (by omega)]
          exact hh
        · rw [if_neg e1] at hh ⊢
          exact hh
      have r7' : ∀ A M B N Sf, RS A (mI M 0 0) B N Sf ((T, St, kd), (tx, ts, tb), ro, st, (s, u, f), ke, W) → fX7_indents A M B (nn a) (nn b) (nn n) = if sz (W s).1 + q * n ≤ 3000 then (if st.2.1 + q * n ≤ 6000 then (ob2 (fX7_edits A (mI M 0 0) B) fun M11 B12 => fX7_indents_b87 A FU M11 B12 (nn a) (nn n) (nn b)) else some ((-4 : Int32), mI M 0 0, B)) else some ((-3 : Int32), mI M 0 0, B) := by
        intro A M B N Sf hR
        obtain ⟨r3, r4, -⟩ := hR.cur
        rw [r7, if_neg hx0, if_neg eyx, lines7 (hrv _ _ _ _ _ hR), ob1_some, if_lt hb (by omega), if_pos (by omega), hmore, zlt, r4.1, r3.2.1, nn_add, nn_add, q3000, q6000, if_le (by omega) (by omega), if_le (by omega) (by omega)]
      by_cases e1 : sz (W s).1 + q * n ≤ 3000
      · by_cases e2 : st.2.1 + q * n ≤ 6000
        · have hE := hS.edit
          have hWs : (va_up W ((s + 1) % 31) (W s)) ((s + 1) % 31) = W s := va_up_same _ _ _
          have hpre : pre (a + q) = nn b := by
            rw [show a + q = b + 1 by omega]
            exact pre_s b
          obtain ⟨S1, k1, k2, k3, k4⟩ := ind_loop (a := a) (n := n) (P0 := (W s).1) (St0 := St) n1 n2 hz ht rfl q St st (va_up W ((s + 1) % 31) (W s)) m (by omega) hE (by rw [hWs]; exact e1) e2 (fun _ => ⟨by rw [show a + q - 1 = b by omega]; exact hm, by rw [hWs]; exact hmn, fun p _ => by rw [hWs]⟩)
          rw [hWs, hpre] at k3 k4
          refine ⟨S1, nn (sz (W s).1 + q * n), k1, ?_, ?_, by rw [k2]; exact Nat.le_refl _⟩
          · intro G c N h
            refine c6' G c N _ h ?_
            intro G1 c1 bu lv pg qg sc z1 z2 z3
            refine ift e1 ?_
            refine ift e2 ?_
            refine sa1 z1.1.io0 ?_
            have hlen := len_le_sz (okP_wf hv.1)
            refine ca2 (beginEdit6_sp z1 hs (by omega) (by omega) (fun k hk => (hv.2.2 k hk).2.2)) ?_
            rintro r4 G4 ⟨c4, b4, lv4, t1, t2, t3⟩
            exact k3 G4 G c4 c b4 N lv4 pg qg sc r4 (nn m) FU t2 t1 z2 (fun _ => rfl) (by rw [FU_eq]; omega) (z3.trans t3)
          · intro A M B N Sf hR
            obtain ⟨M1, K, g1, g2, g3, hR1⟩ := hR.i0.edit hS
            obtain ⟨M2, d1, d2⟩ := k4 A M1 (B ++ K) N Sf FU hR1 (by rw [FU_eq]; omega)
            refine ⟨M2, K, ?_, d2⟩
            show fX7_indents A M B (nn a) (nn b) (nn n) = _
            rw [r7' A M B _ Sf hR.i0, if_pos e1, if_pos e2, g1, ob2_some, d1]
        · refine ⟨_, -4, hS, ?_, R7.ret0 ?_, Nat.le_refl _⟩
          · intro G c N h
            refine c6' G c N _ h ?_
            intro G1 c1 bu lv pg qg sc z1 z2 z3
            refine ift e1 ?_
            refine ifn e2 ?_
            exact back _ _ _ _ _ _ _ _ _ _ _ z1 z2 z3
          · intro A M B N Sf hR
            show fX7_indents A M B (nn a) (nn b) (nn n) = _
            rw [r7' A M B _ Sf hR, if_pos e1, if_neg e2]
      · refine ⟨_, -3, hS, ?_, R7.ret0 ?_, Nat.le_refl _⟩
        · intro G c N h
          refine c6' G c N _ h ?_
          intro G1 c1 bu lv pg qg sc z1 z2 z3
          refine ifn e1 ?_
          exact back _ _ _ _ _ _ _ _ _ _ _ z1 z2 z3
        · intro A M B N Sf hR
          show fX7_indents A M B (nn a) (nn b) (nn n) = _
          rw [r7' A M B _ Sf hR, if_neg e1]
    · refine ⟨_, -2, hS, ?_, R7.ret0 ?_, Nat.le_refl _⟩
      · intro G c N h
        refine c6 G c N _ h ?_
        intro G1 c1 bu lv pg qg sc z1 z2 z3 hPV
        refine sa1 (lineStart6 hPV hb) ?_
        rw [oN_none el]
        refine ifn hx0 ?_
        refine ifn eyx ?_
        refine ift rfl ?_
        exact back _ _ _ _ _ _ _ _ _ _ _ z1 z2 z3
      · intro A M B N Sf hR
        show fX7_indents A M B (nn a) (nn b) (nn n) = _
        rw [r7, if_neg hx0, if_neg eyx, lines7 (hrv _ _ _ _ _ hR), ob1_some, if_lt hb (by omega), if_neg (by omega)]
  · refine ⟨_, -1, hS, ?_, R7.ret0 ?_, Nat.le_refl _⟩
    · intro G c N h
      show ok (fX6_indents G 0 x y w) _
      unfold fX6_indents
      rcases nn_or w with hw | ⟨p, hp, rfl⟩
      · refine ift (by rw [Int32.lt_iff_toInt_lt] at *; have : (1 : Int32).toInt = 1 := rfl; have : (0 : Int32).toInt = 0 := rfl; omega) ?_
        exact C6.ret h
      · by_cases e1 : p < 1
        · refine ift (by rw [q1, nn_lt hp (by omega)]; exact e1) ?_
          exact C6.ret h
        · refine ifn (by rw [q1, nn_lt hp (by omega)]; exact e1) ?_
          refine ifn (by rw [q8, nn_le hp (by omega)]; exact fun h => ew ⟨p, by omega, h, rfl⟩) ?_
          exact C6.ret h
    · intro A M B N Sf hR
      show fX7_indents A M B x y w = _
      unfold fX7_indents
      have hin : fX7_in w.toInt64 (1 : Int64) (8 : Int64) = some (nn 0) := by
        rcases nn_or w with hx | ⟨p, hp, rfl⟩
        · exact in_litn (lo := 1) hx rfl
        · rw [in_lit (lo := 1) (hi := 8) hp rfl rfl, if_neg (fun h => ew ⟨p, h.1, h.2, rfl⟩)]
      rw [zlt, hin, ob1_some, if_pos z0]
theorem op_indents : Op_indents Inv := by
  intro k G x y w hI
  exact op_act (f6 := fun G => fX6_indents G 0 x y w) (f7 := fun A M B => fX7_indents A M B x y w) hI (A_indents x y w)
