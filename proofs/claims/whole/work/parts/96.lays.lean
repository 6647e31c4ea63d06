/-! lays, moves: signs, beginnings -/
theorem cod_lay {P C : PC} {q n i : Nat} (hw : wfP P) (hq : q ≤ sz P) (hn : sz C = n) (hi : i < sz P + n) : cod (cutL P q ++ (C ++ cutR P q)) i = if i < q then cod P i else if i < q + n then cod C (i - q) else if i = q + n then 2 * (cod P q / 2) + 1 else cod P (i - n) := by
  rw [cod_half]
  unfold cod
  rw [srcAt_app, bgAt_app, sz_cutL hq]
  by_cases e1 : i < q
  · rw [if_pos e1, if_pos e1, if_pos e1, srcAt_cutL hq e1, bgAt_cutL hq e1]
  · rw [if_neg e1, if_neg e1, if_neg e1, srcAt_app, bgAt_app, hn]
    by_cases e2 : i < q + n
    · rw [if_pos (by omega), if_pos (by omega), if_pos e2]
    · have a1 := srcAt_cutR (P := P) (p := q) (i := i - q - n) (by omega)
      have a2 := bgAt_cutR (P := P) (p := q) (i := i - q - n) hw (by omega)
      rw [show q + (i - q - n) = i - n by omega] at a1 a2
      rw [if_neg (by omega), if_neg (by omega), if_neg e2, a1, a2]
      by_cases e3 : i = q + n
      · rw [if_pos (by omega), if_pos e3, show i - n = q by omega]
      · rw [if_neg (by omega), if_neg e3]
theorem cod_clip {P : PC} {p n j : Nat} (hw : wfP P) (hp : p + n ≤ sz P) (hj : j < n) : cod (cutL (cutR P p) n) j = if j = 0 then 2 * (cod P p / 2) + 1 else cod P (p + j) := by
  have hs := sz_cutR (P := P) (p := p) (by omega)
  rw [cod_half]
  unfold cod
  rw [srcAt_cutL (by omega) hj, bgAt_cutL (by omega) hj, srcAt_cutR (by omega), bgAt_cutR hw (by omega)]
  by_cases e : j = 0
  · rw [if_pos e, if_pos e]
    subst e
    rfl
  · rw [if_neg e, if_neg e]
theorem sz_clip {P : PC} {p n : Nat} (hp : p + n ≤ sz P) : sz (cutL (cutR P p) n) = n := sz_cutL (by rw [sz_cutR (by omega)]; omega)
theorem sz_lay {P C : PC} {q n : Nat} (hq : q ≤ sz P) (hn : sz C = n) : sz (cutL P q ++ (C ++ cutR P q)) = sz P + n := by
  rw [sz_app, sz_app, sz_cutL hq, sz_cutR hq, hn]
  omega
theorem ok_lay {on an : Nat} {P C : PC} {q : Nat} (h : okP on an P) (hC : okP on an C) : okP on an (cutL P q ++ (C ++ cutR P q)) := okP_app.mpr ⟨ok_cutL h, okP_app.mpr ⟨hC, ok_cutR h⟩⟩
def Ff (M M1 : MS) : Prop := (∀ j, j ≠ 11 → M1.1 j = M.1 j) ∧ (∀ j, j ≠ 10 → j ≠ 12 → j ≠ 14 → j ≠ 24 → M1.2.1 j = M.2.1 j) ∧ M1.2.2 = M.2.2
theorem Ff.refl (M : MS) : Ff M M := ⟨fun _ _ => rfl, fun _ _ _ _ _ => rfl, rfl⟩
theorem Ff.trans {M M1 M2 : MS} (h : Ff M M1) (h2 : Ff M1 M2) : Ff M M2 := ⟨fun j hj => (h2.1 j hj).trans (h.1 j hj), fun j a b c d => (h2.2.1 j a b c d).trans (h.2.1 j a b c d), h2.2.2.trans h.2.2⟩
theorem Fb.ff {M M1 : MS} (h : Fb M M1) : Ff M M1 := ⟨h.1, fun j a _ _ _ => h.2.1 j a, h.2.2⟩
theorem Fm.ff {M M1 : MS} (h : Fm M M1) : Ff M M1 := ⟨fun j _ => by rw [h.1], fun j _ a _ _ => h.2.1 j a, h.2.2⟩
theorem Ff.fk {M M1 : MS} (h : Ff M M1) : Fk M M1 := ⟨h.1 29 (by decide), fun j a b => h.2.1 j (by omega) (by omega) (by omega) (by omega)⟩
theorem Ff.fe {M M1 : MS} (h : Ff M M1) : Fe M M1 := ⟨⟨h.1 1 (by decide), h.1 4 (by decide), h.1 17 (by decide), h.1 20 (by decide)⟩, h.2.1 3 (by decide) (by decide) (by decide) (by decide), h.2.2⟩
theorem Ff.rst {M M1 : MS} {St : Nat → Nat} {on an : Nat} (h : Ff M M1) (hS : RSt M St on an) : RSt M1 St on an := hS.cg (h.1 8 (by decide)) (h.1 9 (by decide)) (h.2.1 6 (by decide) (by decide) (by decide) (by decide)) (h.2.1 7 (by decide) (by decide) (by decide) (by decide))
theorem laysOut7 {M : MS} {p n : Nat} (hp : p + n ≤ 3000) : ∃ M1, fX7_laysOut M (nn p) (nn n) = some M1 ∧ (∀ j, j < n → M1.2.1 14 j = M.2.1 10 (p + j)) ∧ M1.1 = M.1 ∧ (∀ j, j ≠ 14 → M1.2.1 j = M.2.1 j) ∧ M1.2.2 = M.2.2 := by
  have key : ∀ fu k M', k ≤ n → n - k < fu → (∀ j, j < k → M'.2.1 14 j = M.2.1 10 (p + j)) → M'.1 = M.1 → (∀ j, j ≠ 14 → M'.2.1 j = M.2.1 j) → M'.2.2 = M.2.2 → ∃ M1, fX7_laysOut_b2 fu M' (nn p) (nn n) (nn k) = some M1 ∧ (∀ j, j < n → M1.2.1 14 j = M.2.1 10 (p + j)) ∧ M1.1 = M.1 ∧ (∀ j, j ≠ 14 → M1.2.1 j = M.2.1 j) ∧ M1.2.2 = M.2.2 := by
    intro fu
    induction fu with
    | zero => intro k M' _ h; omega
    | succ fu ih =>
      intro k M' hk hfu h1 h2 h3 h4
      unfold fX7_laysOut_b2
      rw [if_le (by omega) (by omega)]
      by_cases e : n ≤ k
      · rw [if_pos e]
        exact ⟨M', rfl, fun j hj => h1 j (by omega), h2, h3, h4⟩
      · rw [if_neg e, nn_add, rd_nn (show p + k < 3000 by omega) (by omega), ob1_some, wr_nn (show k < 3000 by omega) (by omega), ob1_some, nn_tn (by omega), q1, nn_add, zlt]
        refine ih (k + 1) _ (by omega) (by omega) (fun j hj => ?_) h2 (fun j hj => ?_) h4
        · show upd (M'.2.1 14) k _ j = _
          by_cases ej : j = k
          · rw [ej, upd_same, h3 10 (by decide)]
          · rw [upd_ne _ _ ej]
            exact h1 j (by omega)
        · exact (show va_up M'.2.1 14 _ j = M'.2.1 j from if_neg hj).trans (h3 j hj)
  unfold fX7_laysOut
  rw [q0]
  exact key FU 0 M (by omega) (by rw [FU_eq]; omega) (fun j hj => by omega) rfl (fun _ _ => rfl) rfl
theorem laysIn7 {M : MS} {P C : PC} {on an q n : Nat} {lc : Nat → Nat} (h : RBk M P) (hk : okP on an P) (hon : on ≤ 1600) (han : an ≤ 6000) (hq : q ≤ sz P) (hn : sz C = n) (hn1 : 1 ≤ n) (hz : sz P + n ≤ 3000) (hl : ∀ j, j < n → M.2.1 14 j = nn (lc j)) (hl0 : lc 0 < 100000 ∧ 2 * (lc 0 / 2) + 1 = cod C 0) (hl1 : ∀ j, j < n → 1 ≤ j → lc j = cod C j) : ∃ M1, fX7_laysIn M (nn n) (nn q) = some M1 ∧ RBk M1 (cutL P q ++ (C ++ cutR P q)) ∧ Fb M M1 := by
  obtain ⟨M0, a1, a2, a3, a4, a5⟩ := opensGap_sp7 (x := q) (n := n) h.1 hz hq
  have hw := okP_wf hk
  have fin : ∀ M', M'.1 11 = nn (sz P + n) → Fb M M' → (∀ j, j < n → M'.2.1 10 (q + j) = nn (lc j)) → (∀ j, j < q ∨ q + n ≤ j → M'.2.1 10 j = M0.2.1 10 j) → ∃ M1, fX7_laysIn_b33 M' (nn n) (nn q) = some M1 ∧ RBk M1 (cutL P q ++ (C ++ cutR P q)) ∧ Fb M M1 := by
    intro M' k1 k2 k3 k4
    have h00 := k3 0 (by omega)
    rw [Nat.add_zero] at h00
    obtain ⟨M2, b1, b2, b3, b4, b5⟩ := partsAt_sp (x := q) (cv := lc 0) k1 hz (by omega) (fun _ => ⟨h00, hl0.1⟩)
    obtain ⟨M3, c1, c2, c3, c4, c5⟩ := partsAt_sp (x := q + n) (cv := cod P q) b2 hz (by omega) (fun hh => ⟨by rw [b3 (q + n) (by omega), k4 (q + n) (Or.inr (Nat.le_refl _)), a4 q (Nat.le_refl _) (by omega)]; exact h.2.2 q (by omega), cod_small hk hon han (by omega)⟩)
    refine ⟨M3, ?_, ⟨?_, by rw [sz_lay hq hn]; exact hz, fun i hi => ?_⟩, (k2.trans b5).trans c5⟩
    · unfold fX7_laysIn_b33
      rw [b1, ob1_some, nn_add, c1, ob1_some]
    · rw [c2, sz_lay hq hn]
    · rw [sz_lay hq hn] at hi
      rw [cod_lay hw hq hn hi]
      by_cases e1 : i < q
      · rw [if_pos e1, c3 i (by omega), b3 i (by omega), k4 i (Or.inl e1), a3 i e1]
        exact h.2.2 i (by omega)
      · rw [if_neg e1]
        by_cases e2 : i < q + n
        · rw [if_pos e2, c3 i (by omega)]
          by_cases e3 : i = q
          · rw [e3, b4 (by omega), Nat.sub_self, hl0.2]
          · have := k3 (i - q) (by omega)
            rw [show q + (i - q) = i by omega] at this
            rw [b3 i e3, this, hl1 _ (by omega) (by omega)]
        · rw [if_neg e2]
          by_cases e3 : i = q + n
          · rw [if_pos e3, e3]
            exact c4 (by omega)
          · have := a4 (i - n) (by omega) (by omega)
            rw [show i - n + n = i by omega] at this
            rw [if_neg e3, c3 i e3, b3 i (by omega), k4 i (Or.inr (by omega)), this]
            exact h.2.2 _ (by omega)
  have key : ∀ fu k M', k ≤ n → n - k < fu → M'.1 11 = nn (sz P + n) → Fb M M' → (∀ j, j < k → M'.2.1 10 (q + j) = nn (lc j)) → (∀ j, j < q ∨ q + k ≤ j → M'.2.1 10 j = M0.2.1 10 j) → ∃ M1, fX7_laysIn_b8 fu M' (nn n) (nn q) (nn k) = some M1 ∧ RBk M1 (cutL P q ++ (C ++ cutR P q)) ∧ Fb M M1 := by
    intro fu
    induction fu with
    | zero => intro k M' _ h; omega
    | succ fu ih =>
      intro k M' hk1 hfu k1 k2 k3 k4
      unfold fX7_laysIn_b8
      rw [if_le (by omega) (by omega)]
      by_cases e : n ≤ k
      · rw [if_pos e]
        exact fin M' k1 k2 (fun j hj => k3 j (by omega)) (fun j hj => k4 j (by omega))
      · rw [if_neg e, rd_nn (show k < 3000 by omega) (by omega), ob1_some, nn_add, wr_nn (show q + k < 3000 by omega) (by omega), ob1_some, nn_tn (by omega), q1, nn_add, zlt]
        refine ih (k + 1) _ (by omega) (by omega) k1 (k2.trans (Fb.a10 _ _)) (fun j hj => ?_) (fun j hj => ?_)
        · show upd (M'.2.1 10) (q + k) (M'.2.1 14 k) (q + j) = _
          by_cases ej : j = k
          · rw [ej, upd_same, k2.2.1 14 (by decide)]
            exact hl k (by omega)
          · rw [upd_ne _ _ (by omega)]
            exact k3 j (by omega)
        · show upd (M'.2.1 10) (q + k) _ j = _
          rw [upd_ne _ _ (by omega)]
          exact k4 j (by omega)
  unfold fX7_laysIn
  rw [a1, ob1_some, q0]
  exact key FU 0 M0 (by omega) (by rw [FU_eq]; omega) a2 a5 (fun j hj => by omega) (fun _ _ => rfl)
/-! two leaves at once -/
theorem Cl.leaf2 {G G1 G' : zH} {c c1 c' bu : Nat → Nat} {n : Nat} {a : TA} {ro : TR} {st : TS} {hi : TH} {ke : TK} {pg qg : TP} {sc : Nat → Int32} {W : Nat → LVa} (h : Cl G c bu n a ro st hi ke pg qg sc W) {i j b1 b' : Nat} {w w' : LVa} (hi36 : i < 36) (hj36 : j < 36) (hij : i ≠ j) (u1 : Up (j + 1) G c (bu j) G1 c1 b1) (u2 : Up (i + 1) G1 c1 (bu i) G' c' b') (li : LO G' c' (i + 1) (hvf hi.2.2.2 ke.1 i) b' w) (lj : LO G' c' (j + 1) (hvf hi.2.2.2 ke.1 j) b1 w') : Cl G' c' (va_up (va_up bu j b1) i b') n a ro st hi ke pg qg sc (va_up (va_up W j w') i w) := by
  obtain ⟨h1, h2, h3, h4, h5, h6⟩ := h
  have l1 := u1.1.1
  have l2 := u2.1.1
  have hc1 : ∀ k, k < G.length → c1 k = c k := u1.1.2.1
  refine ⟨(h1.kept u1.1 (fun k hk => by rw [h3 k hk]; omega)).kept u2.1 (fun k hk => by rw [hc1 k (by omega), h3 k hk]; omega), ?_, ?_, ?_, by omega, ?_⟩
  · intro k hk
    by_cases e : k = i
    · subst e
      rw [va_up_same, va_up_same]
      exact li
    · rw [va_up_ne _ _ e, va_up_ne _ _ e]
      by_cases e2 : k = j
      · subst e2
        rw [va_up_same, va_up_same]
        exact lj
      · rw [va_up_ne _ _ e2, va_up_ne _ _ e2]
        exact ((h2 k hk).kept u1.1 (by omega)).kept u2.1 (by omega)
  · intro k hk
    rw [u2.1.2.1 k (by omega), hc1 k (by omega)]
    exact h3 k hk
  · intro k k1 k2
    rw [u2.1.2.1 k (by omega), hc1 k (by omega)]
    exact h4 k k1 k2
  · obtain ⟨d, d1, d2⟩ := bsum_up (b := bu) hj36
    obtain ⟨d', d3, d4⟩ := bsum_up (b := va_up bu j b1) hi36
    rw [va_up_ne _ _ hij, d2] at d3
    have := u1.2
    have := u2.2
    unfold Rm at *
    rw [d4]
    omega
theorem cmp_len' {M : MS} {p n z : Nat} (h11 : M.1 11 = nn z) (hz : z ≤ 3000) (hp : p < 2147483648) (hn : n < 2147483648) : (0 < lg_cmp ((nn p).toInt64 + (nn n).toInt64) (M.1 11).toInt64) = (¬ p + n ≤ z) := by
  rw [cmp_gt, add64 hp hn, h11, nn64 (by omega)]
  exact propext ⟨fun h => by omega, fun h => by omega⟩
theorem A_lays (x y w : Int32) : AF (fun G => fX6_lays G 0 x y w) (fun A M B => fX7_laysOne A M B x y w) := by
  rintro ⟨⟨T, St, kd⟩, ⟨tx, ts, tb⟩, ro, st, ⟨s, u, f⟩, ke, W⟩ hS
  obtain ⟨⟨hv, ht⟩, hs, huf, hst⟩ := hS.cur
  have hz := hv.2.1
  have hon := hst.2
  have hwf := okP_wf hv.1
  have hlen := len_le_sz hwf
  by_cases ey : y < 1
  · refine ⟨_, -1, hS, ?_, R7f.ret ?_, ⟨rfl, rfl, Nat.le_refl _⟩⟩
    · intro G c n h
      show ok (fX6_lays G 0 x y w) _
      unfold fX6_lays
      refine ift ey ?_
      exact C6.ret h
    · intro A M B n Sf hR
      show fX7_laysOne A M B x y w = _
      unfold fX7_laysOne
      rw [if_pos ey]
  obtain ⟨m, hm1, hm, rfl⟩ := lt1_nn ey
  rcases nn_or x with hx | ⟨p, hp, rfl⟩
  · refine ⟨_, -1, hS, ?_, R7f.ret ?_, ⟨rfl, rfl, Nat.le_refl _⟩⟩
    · intro G c n h
      show ok (fX6_lays G 0 x (nn m) w) _
      unfold fX6_lays
      refine ifn ey ?_
      refine ift hx ?_
      exact C6.ret h
    · intro A M B n Sf hR
      show fX7_laysOne A M B x (nn m) w = _
      unfold fX7_laysOne
      rw [if_neg ey, if_pos hx]
  have hx0 : ¬ nn p < 0 := by rw [nn_neg hp]; exact id
  rcases nn_or w with hw | ⟨q, hq, rfl⟩
  · refine ⟨_, -1, hS, ?_, R7f.ret ?_, ⟨rfl, rfl, Nat.le_refl _⟩⟩
    · intro G c n h
      show ok (fX6_lays G 0 (nn p) (nn m) w) _
      unfold fX6_lays
      refine ifn ey ?_
      refine ifn hx0 ?_
      refine ifn (neg_le hw) ?_
      exact C6.ret h
    · intro A M B n Sf hR
      show fX7_laysOne A M B (nn p) (nn m) w = _
      unfold fX7_laysOne
      rw [if_neg ey, if_neg hx0, if_neg (neg_le hw)]
  have hw0 : 0 ≤ nn q := by rw [q0, nn_le (by omega) hq]; omega
  by_cases e : p + m ≤ sz (W s).1
  · by_cases e1 : q ≤ sz (W s).1
    · have c6 : ∀ (G : zH) (c : Nat → Nat) (n : Nat) (Q : Int32 × zH → Prop), CS G c n ((T, St, kd), (tx, ts, tb), ro, st, (s, u, f), ke, W) → (∀ G1 c1 bu old lv pg qg sc, Cl G1 c1 bu n (tx, ts, old, tb) ro st (s, u, f, lv) ke pg qg sc W → old ≤ 1 → (old = 0 → PgTo pg (W s).1 St (sz (W s).1)) → Fo G c G1 c1 → ok (if nn (sz (W s).1 + m) ≤ (3000 : Int32) then (ob1 (isO G1 0 6) fun u21 => ob2 (fX6_beginEdit G1 0) fun qv24 G23 => ob1 (frf G23 0 6 7) fun qv25 => ob1 (isO G23 qv24 2) fun u26 => ob1 (fX2_lay G23 qv24 (nn p) (nn m) (nn q) qv25) fun G28 => ob1 (fi G28 qv24 2 3) fun v29 => some (v29, G28)) else some ((-3 : Int32), G1)) Q) → ok (fX6_lays G 0 (nn p) (nn m) (nn q)) Q := by
        rintro G c n Q ⟨bu, old, lv, pg, qg, sc, h1, h2, h3⟩ H
        unfold fX6_lays
        refine ifn ey ?_
        refine ifn hx0 ?_
        refine ift hw0 ?_
        refine sa1 h1.1.io0 ?_
        refine ca2 (hasSigns_sp h1 hs hz hp hm) ?_
        rintro v G2 ⟨z1, c1, b1, lv1, z2, z3, -⟩
        change v = _ at z1
        subst z1
        refine ifn (by rw [if_pos e]; decide) ?_
        refine sa1 z2.1.io0 ?_
        refine ca2 (isPlace6_sp z2 hs hz hq) ?_
        rintro v G3 ⟨z1, c3, b3, lv3, z4, z5, -⟩
        change v = _ at z1
        subst z1
        refine ifn (by rw [if_pos e1]; decide) ?_
        refine sa1 z4.1.r0_4 ?_
        refine sa1 z4.1.io6 ?_
        refine ca2 (current_sp z4 hs) ?_
        rintro r G4 ⟨c4, b4, lv4, x1, x2, x3, x4⟩
        refine sa1 (x2.lf hs x1).n3 ?_
        rw [nn_add]
        exact H G4 c4 b4 old lv4 pg qg sc x2 h2 h3 (z3.trans (z5.trans x3))
      have r7 : ∀ A M B n Sf, RS A M B n Sf ((T, St, kd), (tx, ts, tb), ro, st, (s, u, f), ke, W) → fX7_laysOne A M B (nn p) (nn m) (nn q) = if sz (W s).1 + m ≤ 3000 then (ob2 (fX7_edits A M B) fun M7 B8 => ob1 (fX7_laysOut M7 (nn p) (nn m)) fun M9 => ob1 (fX7_laysIn M9 (nn m) (nn q)) fun M10 => ob1 (fX7_marksCome M10 (nn q) (nn m)) fun M11 => some ((M11.1 11), M11, B8)) else some ((-3 : Int32), M, B) := by
        intro A M B n Sf hR
        obtain ⟨r3, r4, -⟩ := hR.cur
        unfold fX7_laysOne
        rw [if_neg ey, if_neg hx0, if_pos hw0, if_neg (by rw [cmp_len' r4.1 hz hp hm]; exact fun h => h e), r4.1, if_le hq (by omega), if_pos e1, nn_add, q3000, if_le (by omega) (by omega)]
      by_cases e2 : sz (W s).1 + m ≤ 3000
      · have hs' : (s + 1) % 31 < 31 := by omega
        have hok1 : okP 1600 6000 (W s).1 := okP_more hv.1 hon.1 hon.2
        have hcl : okP st.1 st.2.1 (cutL (cutR (W s).1 p) m) := ok_cutL (ok_cutR hv.1)
        have hW34 : ∀ V C, ∀ i, i < 34 → i ≠ (s + 1) % 31 → va_up (va_up (va_up W ((s + 1) % 31) (W s)) 34 C) ((s + 1) % 31) V i = va_up W ((s + 1) % 31) (W s) i := fun V C i h1 h2 => (if_neg h2).trans (if_neg (by omega))
        have h34 : va_up W ((s + 1) % 31) (W s) 34 = W 34 := if_neg (by omega)
        refine ⟨((T, St, kd), (tx, ts, -1), ro, st, ((s + 1) % 31, min (u + 1) 30, 0), ke, va_up (va_up (va_up W ((s + 1) % 31) (W s)) 34 (cutL (cutR (W s).1 p) m, fun _ => -1, (W 34).2.2)) ((s + 1) % 31) (layP (W s).1 p m q, comeM q m (W s).2.1 (W s).2.2, (W s).2.2)), nn (sz (W s).1 + m), ?_, ?_, ?_, ⟨rfl, rfl, Nat.le_refl _⟩⟩
        · refine hS.edit.upd ?_ (hW34 _ _) hst (Nat.le_refl _) (Nat.le_refl _)
          rw [va_up_same]
          refine ⟨ok_lay hv.1 hcl, ?_, ?_⟩
          · show sz (layP (W s).1 p m q) ≤ 3000
            unfold layP
            rw [sz_lay e1 (sz_clip e)]
            exact e2
          · show bdM (comeM q m (W s).2.1 (W s).2.2) (W s).2.2 (sz (layP (W s).1 p m q))
            unfold layP
            rw [sz_lay e1 (sz_clip e)]
            exact bdM_come hv.2.2
        · intro G c n h
          refine c6 G c n _ h ?_
          intro G1 c1 bu old lv pg qg sc x1 x2 x3 x5
          refine ift (by rw [q3000, nn_le (by omega) (by omega)]; exact e2) ?_
          refine sa1 x1.1.io0 ?_
          refine ca2 (beginEdit6_sp x1 hs (by omega) (by omega) (fun k hk => (hv.2.2 k hk).2.2)) ?_
          rintro r4 G4 ⟨c4, b4, lv4, t1, t2, t3⟩
          have hL := t2.lf hs' t1
          rw [va_up_same] at hL
          have hC := t2.clip
          rw [h34] at hC
          refine sa1 t2.1.r0_7 ?_
          refine sa1 hL.io ?_
          obtain ⟨d, hd⟩ := t2.rm2 (i := (s + 1) % 31) (j := 34) (by omega) (by omega) (by omega)
          refine ca1 (lay_sp (by omega) hwf e2 e e1 hok1 hv.2.2 hC hL hd) ?_
          rintro G5 ⟨c6, G6, b6, c5, b5, l5, u6, u5, l6⟩
          have hnew := t2.leaf2 (i := (s + 1) % 31) (j := 34) (w := (layP (W s).1 p m q, comeM q m (W s).2.1 (W s).2.2, (W s).2.2)) (w' := (cutL (cutR (W s).1 p) m, fun _ => -1, (W 34).2.2)) (by omega) (by omega) (by omega) u6 u5 (by rw [hvf_ring hs']; show LO G5 c5 _ (lv4 ((s + 1) % 31)) b5 _; rw [t1]; exact l5) l6
          have hL5 := hnew.lf hs' t1
          refine sa1 hL5.n3 ?_
          exact ok_some ⟨by refine (congrArg (fun v : LVa => nn (sz v.1)) (va_up_same _ _ _)).trans ?_; show nn (sz (layP (W s).1 p m q)) = _; unfold layP; rw [sz_lay e1 (sz_clip e)], c5, ⟨_, 1, lv4, pg, qg, sc, hnew, Nat.le_refl _, fun h => absurd h (by decide)⟩, x5.trans (t3.trans ((u6.1.fo (by omega)).trans (u5.1.fo (by omega))))⟩
        · intro A M B n Sf hR
          obtain ⟨M1, K, g1, g2, g3, hR1⟩ := hR.edit hS
          have hc := hR1.cur
          rw [va_up_same] at hc
          obtain ⟨r3, r4, r5, -⟩ := hc
          obtain ⟨M2, a1, a2, a3, a4, a5⟩ := laysOut7 (M := M1) (p := p) (n := m) (by omega)
          have hB2 : RBk M2 (W s).1 := r4.cg (by rw [a3]) (a4 10 (by decide))
          obtain ⟨M3, b1, b2, b3⟩ := laysIn7 (lc := fun j => cod (W s).1 (p + j)) (C := cutL (cutR (W s).1 p) m) hB2 hv.1 hon.1 hon.2 e1 (sz_clip e) hm1 e2 (fun j hj => by rw [a2 j hj]; exact r4.2.2 _ (by omega)) ⟨cod_small hv.1 hon.1 hon.2 (by omega), by rw [cod_clip hwf e (by omega), if_pos rfl]; rfl⟩ (fun j hj hj1 => by rw [cod_clip hwf e hj, if_neg (by omega)])
          have hm3 : ∀ k, k < 8 → M3.2.1 12 k = ii ((W s).2.1 k) ∧ M3.2.1 13 k = nn ((W s).2.2 k) := fun k hk => by rw [b3.2.1 12 (by decide), b3.2.1 13 (by decide), a4 12 (by decide), a4 13 (by decide)]; exact r5 k hk
          obtain ⟨M4, c1, c2, c3⟩ := marksCome7_sp (x := q) (n := m) hm3 (fun k hk => by have := hv.2.2 k hk; omega) (by omega)
          have hF : Ff M1 M4 := (Ff.trans ⟨fun j _ => by rw [a3], fun j _ _ h _ => a4 j h, a5⟩ b3.ff).trans c3.ff
          have hB4 : RBk M4 (layP (W s).1 p m q) := b2.cg (by rw [c3.1]) (c3.2.1 10 (by decide))
          refine ⟨M4, K, ?_, ?_, g2.fk.trans hF.fk⟩
          · show fX7_laysOne A M B (nn p) (nn m) (nn q) = _
            rw [r7 A M B _ Sf hR, if_pos e2, g1, ob2_some, a1, ob1_some, b1, ob1_some, c1, ob1_some, hB4.1]
            unfold layP
            rw [sz_lay e1 (sz_clip e)]
          · refine hR1.upd hs' (by omega) hF.fe (hF.rst r3) ?_ ?_ (Or.inl ⟨rfl, (hF.1 21 (by decide)).trans g3⟩) (hW34 _ _)
            · rw [va_up_same]
              exact hB4
            · rw [va_up_same]
              intro k hk
              refine ⟨c2 k hk, ?_⟩
              rw [c3.2.1 13 (by decide)]
              exact (hm3 k hk).2
      · refine ⟨_, -3, hS, ?_, R7f.ret ?_, ⟨rfl, rfl, Nat.le_refl _⟩⟩
        · intro G c n h
          refine c6 G c n _ h ?_
          intro G1 c1 bu old lv pg qg sc x1 x2 x3 x5
          refine ifn (by rw [q3000, nn_le (by omega) (by omega)]; exact e2) ?_
          exact ok_some ⟨rfl, c1, ⟨bu, old, lv, pg, qg, sc, x1, x2, x3⟩, x5⟩
        · intro A M B n Sf hR
          show fX7_laysOne A M B (nn p) (nn m) (nn q) = _
          rw [r7 A M B _ Sf hR, if_neg e2]
    · refine ⟨_, -2, hS, ?_, R7f.ret ?_, ⟨rfl, rfl, Nat.le_refl _⟩⟩
      · rintro G c n ⟨bu, old, lv, pg, qg, sc, h1, h2, h3⟩
        show ok (fX6_lays G 0 (nn p) (nn m) (nn q)) _
        unfold fX6_lays
        refine ifn ey ?_
        refine ifn hx0 ?_
        refine ift hw0 ?_
        refine sa1 h1.1.io0 ?_
        refine ca2 (hasSigns_sp h1 hs hz hp hm) ?_
        rintro v G2 ⟨z1, c1, b1, lv1, z2, z3, -⟩
        change v = _ at z1
        subst z1
        refine ifn (by rw [if_pos e]; decide) ?_
        refine sa1 z2.1.io0 ?_
        refine ca2 (isPlace6_sp z2 hs hz hq) ?_
        rintro v G3 ⟨z1, c3, b3, lv3, z4, z5, -⟩
        change v = _ at z1
        subst z1
        refine ift (by rw [if_neg e1]; rfl) ?_
        exact ok_some ⟨rfl, c3, ⟨b3, old, lv3, pg, qg, sc, z4, h2, h3⟩, z3.trans z5⟩
      · intro A M B n Sf hR
        obtain ⟨r3, r4, -⟩ := hR.cur
        show fX7_laysOne A M B (nn p) (nn m) (nn q) = _
        unfold fX7_laysOne
        rw [if_neg ey, if_neg hx0, if_pos hw0, if_neg (by rw [cmp_len' r4.1 hz hp hm]; exact fun h => h e), r4.1, if_le hq (by omega), if_neg e1]
  · refine ⟨_, -2, hS, ?_, R7f.ret ?_, ⟨rfl, rfl, Nat.le_refl _⟩⟩
    · rintro G c n ⟨bu, old, lv, pg, qg, sc, h1, h2, h3⟩
      show ok (fX6_lays G 0 (nn p) (nn m) (nn q)) _
      unfold fX6_lays
      refine ifn ey ?_
      refine ifn hx0 ?_
      refine ift hw0 ?_
      refine sa1 h1.1.io0 ?_
      refine ca2 (hasSigns_sp h1 hs hz hp hm) ?_
      rintro v G2 ⟨z1, c1, b1, lv1, z2, z3, -⟩
      change v = _ at z1
      subst z1
      refine ift (by rw [if_neg e]; rfl) ?_
      exact ok_some ⟨rfl, c1, ⟨b1, old, lv1, pg, qg, sc, z2, h2, h3⟩, z3⟩
    · intro A M B n Sf hR
      obtain ⟨r3, r4, -⟩ := hR.cur
      show fX7_laysOne A M B (nn p) (nn m) (nn q) = _
      unfold fX7_laysOne
      rw [if_neg ey, if_neg hx0, if_pos hw0, if_pos (by rw [cmp_len' r4.1 hz hp hm]; exact e)]
theorem op_lays : Op_lays Inv := by
  intro k G x y w hI
  refine op_act (f6 := fun G => fX6_lays G 0 x y w) (f7 := fun A M B => fX7_lays A M B x y w) hI (fun S hS => ?_)
  obtain ⟨S1, r, a1, a2, a3, a4⟩ := A_lays x y w S hS
  exact ⟨S1, r, a1, a2, a3.to.i0, a4.2.2⟩
