/-! moves -/
theorem movM_eq {p n g k : Nat} {mk : Nat → Int} {st : Nat → Nat} (hn : 1 ≤ n) : movM p n g mk st k = if (p : Int) < mk k ∧ mk k < (p : Int) + n then (g : Int) + mk k - p else comeM g n (goM p n mk) st k := by
  by_cases h : (p : Int) < mk k ∧ mk k < (p : Int) + n
  · unfold movM
    rw [if_pos h, if_pos h]
  · have hl : (if mk k < (p : Int) + n then mk k else mk k - n) = goM p n mk k := by
      unfold goM
      by_cases h2 : mk k < (p : Int) + n
      · rw [if_pos h2, if_neg (by omega), if_neg (by omega)]
      · rw [if_neg h2, if_pos (by omega)]
    rw [if_neg h]
    unfold movM comeM
    rw [if_neg h, hl]
theorem takB7 {M : MS} {P : PC} {on an x n : Nat} (hB : RBk M P) (hk : okP on an P) (hon : on ≤ 1600) (han : an ≤ 6000) (hx : x + n ≤ sz P) : ∃ M1 M2, fX7_closesGap M (nn x) (nn n) = some M1 ∧ fX7_partsAt M1 (nn x) = some M2 ∧ RBk M2 (takP P x n) ∧ Fb M M2 := by
  have hw := okP_wf hk
  have hz := hB.2.1
  have hsz := sz_takP hx
  obtain ⟨M1, a1, a2, a3, a4, a5⟩ := closesGap_sp hB.1 hz hx
  obtain ⟨M2, b1, b2, b3, b4, b5⟩ := partsAt_sp (x := x) (cv := cod P (x + n)) a2 (by omega) (by omega) (fun hh => ⟨by rw [a4 x (Nat.le_refl _) (by omega)]; exact hB.2.2 _ (by omega), cod_small hk hon han (by omega)⟩)
  refine ⟨M1, M2, a1, b1, ⟨by rw [b2, hsz], by omega, fun p hp => ?_⟩, a5.trans b5⟩
  rw [cod_takP hw hx (by omega)]
  by_cases e : p < x
  · rw [if_pos e, b3 p (by omega), a3 p e]
    exact hB.2.2 p (by omega)
  · rw [if_neg e]
    by_cases e3 : p = x
    · subst e3
      rw [if_pos rfl]
      exact b4 (by omega)
    · rw [if_neg e3, b3 p e3, a4 p (by omega) (by omega)]
      exact hB.2.2 _ (by omega)
theorem was7 {A B : zH} {M : MS} {x1 x2 x3 : Int32} : ∃ M1, fX7_movesOne_b59 A FU M B x1 x2 x3 (nn 0) = fX7_movesOne_b86 A M1 B x1 x2 x3 ∧ (∀ k, k < 8 → M1.2.1 24 k = M.2.1 12 k) ∧ M1.1 = M.1 ∧ (∀ j, j ≠ 24 → M1.2.1 j = M.2.1 j) ∧ M1.2.2 = M.2.2 := by
  have key : ∀ fu k M', k ≤ 8 → 8 - k < fu → (∀ j, j < k → M'.2.1 24 j = M.2.1 12 j) → M'.1 = M.1 → (∀ j, j ≠ 24 → M'.2.1 j = M.2.1 j) → M'.2.2 = M.2.2 → ∃ M1, fX7_movesOne_b59 A fu M' B x1 x2 x3 (nn k) = fX7_movesOne_b86 A M1 B x1 x2 x3 ∧ (∀ k, k < 8 → M1.2.1 24 k = M.2.1 12 k) ∧ M1.1 = M.1 ∧ (∀ j, j ≠ 24 → M1.2.1 j = M.2.1 j) ∧ M1.2.2 = M.2.2 := by
    intro fu
    induction fu with
    | zero => intro k M' _ h; omega
    | succ fu ih =>
      intro k M' hk hfu h1 h2 h3 h4
      unfold fX7_movesOne_b59
      rw [q8, if_le (by omega) (by omega)]
      by_cases e : 8 ≤ k
      · rw [if_pos e]
        exact ⟨M', rfl, fun j hj => h1 j (by omega), h2, h3, h4⟩
      · rw [if_neg e, rd_nn (show k < 8 by omega) (by omega), ob1_some, wr_nn (show k < 8 by omega) (by omega), ob1_some, nn_tn (by omega), q1, nn_add, zlt]
        refine ih (k + 1) _ (by omega) (by omega) (fun j hj => ?_) h2 (fun j hj => ?_) h4
        · show upd (M'.2.1 24) k _ j = _
          by_cases ej : j = k
          · rw [ej, upd_same, h3 12 (by decide)]
          · rw [upd_ne _ _ ej]
            exact h1 j (by omega)
        · exact (show va_up M'.2.1 24 _ j = M'.2.1 j from if_neg hj).trans (h3 j hj)
  exact key FU 0 M (by omega) (by rw [FU_eq]; omega) (fun j hj => by omega) rfl (fun _ _ => rfl) rfl
theorem mov140 {A B : zH} {M : MS} {p n g : Nat} {mk : Nat → Int} {st : Nat → Nat} (hn : 1 ≤ n) (hp : p + n ≤ 3000) (hm : ∀ k, k < 8 → -1 ≤ mk k ∧ mk k ≤ 3000) (h24 : ∀ k, k < 8 → M.2.1 24 k = ii (mk k)) (h12 : ∀ k, k < 8 → M.2.1 12 k = ii (comeM g n (goM p n mk) st k)) : ∃ M1, fX7_movesOne_b140 A FU M B (nn p) (nn n) (nn g) (nn 0) = some (nn g, M1, B) ∧ (∀ k, k < 8 → M1.2.1 12 k = ii (movM p n g mk st k)) ∧ Fm M M1 := by
  have key : ∀ fu k M', k ≤ 8 → 8 - k < fu → Fm M M' → (∀ j, j < 8 → M'.2.1 12 j = ii (if j < k then movM p n g mk st j else comeM g n (goM p n mk) st j)) → ∃ M1, fX7_movesOne_b140 A fu M' B (nn p) (nn n) (nn g) (nn k) = some (nn g, M1, B) ∧ (∀ k, k < 8 → M1.2.1 12 k = ii (movM p n g mk st k)) ∧ Fm M M1 := by
    intro fu
    induction fu with
    | zero => intro k M' _ h; omega
    | succ fu ih =>
      intro k M' hk hfu hF hj
      unfold fX7_movesOne_b140
      rw [q8, if_le (by omega) (by omega)]
      by_cases e : 8 ≤ k
      · rw [if_pos e]
        exact ⟨M', rfl, fun j h1 => by rw [hj j h1, if_pos (by omega)], hF⟩
      · have hmk := hm k (by omega)
        have h24' : M'.2.1 24 k = ii (mk k) := (congrFun (hF.2.1 24 (by decide)) k).trans (h24 k (by omega))
        have hk' := hj k (by omega)
        rw [if_neg (by omega)] at hk'
        have hmo := movM_eq (p := p) (n := n) (g := g) (k := k) (mk := mk) (st := st) hn
        have step : ∀ v, v = ii (movM p n g mk st k) → ∃ M1, fX7_movesOne_b199 A (fX7_movesOne_b140 A fu) M' B (nn p) (nn n) (nn g) (nn k) v (nn k) = some (nn g, M1, B) ∧ (∀ k, k < 8 → M1.2.1 12 k = ii (movM p n g mk st k)) ∧ Fm M M1 := by
          intro v hv
          unfold fX7_movesOne_b199
          rw [wr_nn (show k < 8 by omega) (by omega), ob1_some, nn_tn (by omega), q1, nn_add, zlt]
          refine ih (k + 1) _ (by omega) (by omega) ⟨hF.1, fun j h1 => ?_, hF.2.2⟩ (mix_step hj hv)
          show va_up M'.2.1 12 _ j = _
          rw [show ∀ y, va_up M'.2.1 12 y j = M'.2.1 j from fun y => if_neg h1]
          exact hF.2.1 j h1
        have stay : ¬ ((p : Int) < mk k ∧ mk k < (p : Int) + n) → ∃ M1, fX7_movesOne_b192 A (fX7_movesOne_b140 A fu) M' B (nn p) (nn n) (nn g) (nn k) (nn k) = some (nn g, M1, B) ∧ (∀ k, k < 8 → M1.2.1 12 k = ii (movM p n g mk st k)) ∧ Fm M M1 := by
          intro h
          unfold fX7_movesOne_b192
          rw [rd_nn (show k < 8 by omega) (by omega), ob1_some]
          refine step _ ?_
          rw [hk', hmo, if_neg h]
        rw [if_neg e, rd_nn (show k < 8 by omega) (by omega), ob1_some, ob1_some, ob1_some, h24', nn_add]
        by_cases e1 : (p : Int) < mk k
        · rw [if_neg (show ¬ ii (mk k) ≤ nn p by rw [ii_le_nn (by omega) (by omega)]; omega)]
          by_cases e2 : mk k < (p : Int) + n
          · rw [if_neg (show ¬ nn (p + n) ≤ ii (mk k) by rw [nn_le_ii (by omega) (by omega)]; omega)]
            refine step _ ?_
            rw [hmo, if_pos ⟨e1, e2⟩, nn_add_ii, ii_sub_nn]
          · rw [if_pos (show nn (p + n) ≤ ii (mk k) by rw [nn_le_ii (by omega) (by omega)]; omega)]
            exact stay (fun h => e2 h.2)
        · rw [if_pos (show ii (mk k) ≤ nn p by rw [ii_le_nn (by omega) (by omega)]; omega)]
          exact stay (fun h => e1 h.1)
  exact key FU 0 M (by omega) (by rw [FU_eq]; omega) ⟨rfl, fun _ _ => rfl, rfl⟩ (fun j h1 => by rw [if_neg (by omega)]; exact h12 j h1)
theorem A_moves (x y w : Int32) : AF (fun G => fX6_moves G 0 x y w) (fun A M B => fX7_movesOne A M B x y w) := by
  rintro ⟨⟨T, St, kd⟩, ⟨tx, ts, tb⟩, ro, st, ⟨s, u, f⟩, ke, W⟩ hS
  obtain ⟨⟨hv, ht⟩, hs, huf, hst⟩ := hS.cur
  have hz := hv.2.1
  have hon := hst.2
  have hwf := okP_wf hv.1
  have hlen := len_le_sz hwf
  by_cases ey : y < 1
  · refine ⟨_, -1, hS, ?_, R7f.ret ?_, ⟨rfl, rfl, Nat.le_refl _⟩⟩
    · intro G c n h
      show ok (fX6_moves G 0 x y w) _
      unfold fX6_moves
      refine ift ey ?_
      exact C6.ret h
    · intro A M B n Sf hR
      show fX7_movesOne A M B x y w = _
      unfold fX7_movesOne
      rw [if_pos ey]
  obtain ⟨m, hm1, hm, rfl⟩ := lt1_nn ey
  rcases nn_or x with hx | ⟨p, hp, rfl⟩
  · refine ⟨_, -1, hS, ?_, R7f.ret ?_, ⟨rfl, rfl, Nat.le_refl _⟩⟩
    · intro G c n h
      show ok (fX6_moves G 0 x (nn m) w) _
      unfold fX6_moves
      refine ifn ey ?_
      refine ift hx ?_
      exact C6.ret h
    · intro A M B n Sf hR
      show fX7_movesOne A M B x (nn m) w = _
      unfold fX7_movesOne
      rw [if_neg ey, if_pos hx]
  have hx0 : ¬ nn p < 0 := by rw [nn_neg hp]; exact id
  rcases nn_or w with hw | ⟨q, hq, rfl⟩
  · refine ⟨_, -1, hS, ?_, R7f.ret ?_, ⟨rfl, rfl, Nat.le_refl _⟩⟩
    · intro G c n h
      show ok (fX6_moves G 0 (nn p) (nn m) w) _
      unfold fX6_moves
      refine ifn ey ?_
      refine ifn hx0 ?_
      refine ifn (neg_le hw) ?_
      exact C6.ret h
    · intro A M B n Sf hR
      show fX7_movesOne A M B (nn p) (nn m) w = _
      unfold fX7_movesOne
      rw [if_neg ey, if_neg hx0, if_neg (neg_le hw)]
  have hw0 : 0 ≤ nn q := by rw [q0, nn_le (by omega) hq]; omega
  by_cases e : p + m ≤ sz (W s).1
  · by_cases e1 : q ≤ sz (W s).1
    · have c6 : ∀ (G : zH) (c : Nat → Nat) (n : Nat) (Q : Int32 × zH → Prop), CS G c n ((T, St, kd), (tx, ts, tb), ro, st, (s, u, f), ke, W) → (∀ G1 c1 bu old lv pg qg sc, Cl G1 c1 bu n (tx, ts, old, tb) ro st (s, u, f, lv) ke pg qg sc W → old ≤ 1 → (old = 0 → PgTo pg (W s).1 St (sz (W s).1)) → Fo G c G1 c1 → ok (if q ≤ p then (fX6_moves_b59 G1 0 (nn p) (nn m) (nn q)) else if p + m ≤ q then (fX6_moves_b59 G1 0 (nn p) (nn m) (nn (q - m))) else some ((-2 : Int32), G1)) Q) → ok (fX6_moves G 0 (nn p) (nn m) (nn q)) Q := by
        rintro G c n Q ⟨bu, old, lv, pg, qg, sc, h1, h2, h3⟩ H
        unfold fX6_moves
        refine ifn ey ?_
        refine ifn hx0 ?_
        refine ift hw0 ?_
        refine sa1 h1.1.io0 ?_
        refine ca2 (hasSigns_sp h1 hs hz hp hm) ?_
        rintro v G2 ⟨z1, c1, b1, lv1, z2, z3, -⟩
        change v = _ at z1
        subst z1
        refine ifn (by rw [if_pos e]; decide) ?_
        refine sa1 z2.1.io0 ?_
        refine ca2 (isPlace6_sp z2 hs hz hq) ?_
        rintro v G3 ⟨z1, c3, b3, lv3, z4, z5, -⟩
        change v = _ at z1
        subst z1
        refine ifn (by rw [if_pos e1]; decide) ?_
        have hh := H G3 c3 b3 old lv3 pg qg sc z4 h2 h3 (z3.trans z5)
        rw [if_le hq hp, nn_add, if_le (by omega) hq]
        unfold fX6_moves_b47
        rw [if_lt hp hq]
        by_cases k1 : q ≤ p
        · rw [if_pos k1] at hh
          rw [if_pos k1, if_neg (by omega)]
          exact hh
        · rw [if_neg k1] at hh
          rw [if_neg k1]
          by_cases k2 : p + m ≤ q
          · rw [if_pos k2] at hh
            rw [if_pos k2, if_pos (by omega), nn_sub (by omega)]
            exact hh
          · rw [if_neg k2] at hh
            rw [if_neg k2]
            exact hh
      have r7 : ∀ A M B n Sf, RS A M B n Sf ((T, St, kd), (tx, ts, tb), ro, st, (s, u, f), ke, W) → fX7_movesOne A M B (nn p) (nn m) (nn q) = if q ≤ p then fX7_movesOne_b52 A M B (nn p) (nn m) (nn q) else if p + m ≤ q then fX7_movesOne_b52 A M B (nn p) (nn m) (nn q) else some ((-2 : Int32), M, B) := by
        intro A M B n Sf hR
        obtain ⟨r3, r4, -⟩ := hR.cur
        unfold fX7_movesOne
        rw [if_neg ey, if_neg hx0, if_pos hw0, if_neg (by rw [cmp_len' r4.1 hz hp hm]; exact fun h => h e), r4.1, if_lt (by omega) hq, if_neg (by omega), if_le hq hp, nn_add, if_le (by omega) hq]
      have r86 : ∀ A M B, (q ≤ p ∨ p + m ≤ q) → fX7_movesOne_b86 A M B (nn p) (nn m) (nn q) = fX7_movesOne_b98 A M B (nn p) (nn m) (nn (if q ≤ p then q else q - m)) := by
        intro A M B h
        unfold fX7_movesOne_b86
        rw [if_lt hp hq]
        by_cases k1 : q ≤ p
        · rw [if_neg (by omega), if_pos k1]
        · rw [if_pos (by omega), if_neg k1, nn_sub (by omega)]
      by_cases e2 : q ≤ p ∨ p + m ≤ q
      · obtain ⟨g, hg⟩ : ∃ g, g = if q ≤ p then q else q - m := ⟨_, rfl⟩
        have hgm : g + m ≤ sz (W s).1 := by
          rw [hg]
          split <;> omega
        have hs' : (s + 1) % 31 < 31 := by omega
        have hok1 : okP 1600 6000 (W s).1 := okP_more hv.1 hon.1 hon.2
        have hcl : okP st.1 st.2.1 (cutL (cutR (W s).1 p) m) := ok_cutL (ok_cutR hv.1)
        have htk := sz_takP e
        have hmz : sz (movP (W s).1 p m g) = sz (W s).1 := by
          unfold movP
          rw [sz_lay (by omega) (sz_clip e)]
          omega
        have hW34 : ∀ V C, ∀ i, i < 34 → i ≠ (s + 1) % 31 → va_up (va_up (va_up W ((s + 1) % 31) (W s)) 34 C) ((s + 1) % 31) V i = va_up W ((s + 1) % 31) (W s) i := fun V C i h1 h2 => (if_neg h2).trans (if_neg (by omega))
        have h34 : va_up W ((s + 1) % 31) (W s) 34 = W 34 := if_neg (by omega)
        refine ⟨((T, St, kd), (tx, ts, -1), ro, st, ((s + 1) % 31, min (u + 1) 30, 0), ke, va_up (va_up (va_up W ((s + 1) % 31) (W s)) 34 (cutL (cutR (W s).1 p) m, fun _ => -1, (W 34).2.2)) ((s + 1) % 31) (movP (W s).1 p m g, movM p m g (W s).2.1 (W s).2.2, (W s).2.2)), nn g, ?_, ?_, ?_, ⟨rfl, rfl, Nat.le_refl _⟩⟩
        · refine hS.edit.upd ?_ (hW34 _ _) hst (Nat.le_refl _) (Nat.le_refl _)
          rw [va_up_same]
          refine ⟨ok_lay (ok_takP hv.1) hcl, ?_, ?_⟩
          · show sz (movP (W s).1 p m g) ≤ 3000
            rw [hmz]
            exact hz
          · show bdM (movM p m g (W s).2.1 (W s).2.2) (W s).2.2 (sz (movP (W s).1 p m g))
            rw [hmz]
            exact bdM_mov hv.2.2 e hgm
        · intro G c n h
          refine c6 G c n _ h ?_
          intro G1 c1 bu old lv pg qg sc x1 x2 x3 x5
          have b59 : ok (fX6_moves_b59 G1 0 (nn p) (nn m) (nn g)) fun z => z.1 = nn g ∧ ∃ c1, CS z.2 c1 n ((T, St, kd), (tx, ts, -1), ro, st, ((s + 1) % 31, min (u + 1) 30, 0), ke, va_up (va_up (va_up W ((s + 1) % 31) (W s)) 34 (cutL (cutR (W s).1 p) m, fun _ => -1, (W 34).2.2)) ((s + 1) % 31) (movP (W s).1 p m g, movM p m g (W s).2.1 (W s).2.2, (W s).2.2)) ∧ Fo G c z.2 c1 := by
            unfold fX6_moves_b59
            refine sa1 x1.1.io0 ?_
            refine ca2 (beginEdit6_sp x1 hs (by omega) (by omega) (fun k hk => (hv.2.2 k hk).2.2)) ?_
            rintro r4 G4 ⟨c4, b4, lv4, t1, t2, t3⟩
            have hL := t2.lf hs' t1
            rw [va_up_same] at hL
            have hC := t2.clip
            rw [h34] at hC
            refine sa1 t2.1.r0_7 ?_
            refine sa1 hL.io ?_
            obtain ⟨d, hd⟩ := t2.rm2 (i := (s + 1) % 31) (j := 34) (by omega) (by omega) (by omega)
            refine ca1 (move_sp (by omega) hwf hz e hgm hok1 hv.2.2 hC hL hd) ?_
            rintro G5 ⟨c6, G6, b6, c5, b5, l5, u6, u5, l6⟩
            have hnew := t2.leaf2 (i := (s + 1) % 31) (j := 34) (w := (movP (W s).1 p m g, movM p m g (W s).2.1 (W s).2.2, (W s).2.2)) (w' := (cutL (cutR (W s).1 p) m, fun _ => -1, (W 34).2.2)) (by omega) (by omega) (by omega) u6 u5 (by rw [hvf_ring hs']; show LO G5 c5 _ (lv4 ((s + 1) % 31)) b5 _; rw [t1]; exact l5) l6
            exact ok_some ⟨rfl, c5, ⟨_, 1, lv4, pg, qg, sc, hnew, Nat.le_refl _, fun h => absurd h (by decide)⟩, x5.trans (t3.trans ((u6.1.fo (by omega)).trans (u5.1.fo (by omega))))⟩
          by_cases k1 : q ≤ p
          · rw [if_pos k1] at hg
            refine ift k1 ?_
            rw [← hg]
            exact b59
          · rw [if_neg k1] at hg
            refine ifn k1 ?_
            refine ift (by omega) ?_
            rw [← hg]
            exact b59
        · intro A M B n Sf hR
          obtain ⟨M1, K, g1, g2, g3, hR1⟩ := hR.edit hS
          have hc := hR1.cur
          rw [va_up_same] at hc
          obtain ⟨r3, r4, r5, -⟩ := hc
          obtain ⟨M0, z1, z2, z3, z4, z5⟩ := was7 (A := A) (B := B ++ K) (M := M1) (x1 := nn p) (x2 := nn m) (x3 := nn q)
          have hB0 : RBk M0 (W s).1 := r4.cg (by rw [z3]) (z4 10 (by decide))
          obtain ⟨M2, a1, a2, a3, a4, a5⟩ := laysOut7 (M := M0) (p := p) (n := m) (by omega)
          have hB2 : RBk M2 (W s).1 := hB0.cg (by rw [a3]) (a4 10 (by decide))
          obtain ⟨M3, M4, b1, b2, b3, b4⟩ := takB7 hB2 hv.1 hon.1 hon.2 e
          have hF4 : Ff M1 M4 := (Ff.trans ⟨fun j _ => by rw [z3], fun j _ _ _ h => z4 j h, z5⟩ (Ff.trans ⟨fun j _ => by rw [a3], fun j _ _ h _ => a4 j h, a5⟩ b4.ff))
          have hm4 : ∀ k, k < 8 → M4.2.1 12 k = ii ((W s).2.1 k) ∧ M4.2.1 13 k = nn ((W s).2.2 k) := fun k hk => by rw [b4.2.1 12 (by decide), b4.2.1 13 (by decide), a4 12 (by decide), a4 13 (by decide), z4 12 (by decide), z4 13 (by decide)]; exact r5 k hk
          obtain ⟨M5, c1, c2, c3⟩ := marksGo7_sp (x := p) (n := m) (fun k hk => (hm4 k hk).1) (fun k hk => by have := hv.2.2 k hk; omega) (by omega)
          have hB5 : RBk M5 (takP (W s).1 p m) := b3.cg (by rw [c3.1]) (c3.2.1 10 (by decide))
          obtain ⟨M6, d1, d2, d3⟩ := laysIn7 (lc := fun j => cod (W s).1 (p + j)) (C := cutL (cutR (W s).1 p) m) (q := g) hB5 (ok_takP hv.1) hon.1 hon.2 (by omega) (sz_clip e) hm1 (by omega) (fun j hj => by rw [c3.2.1 14 (by decide), b4.2.1 14 (by decide), a2 j hj, z4 10 (by decide)]; exact r4.2.2 _ (by omega)) ⟨cod_small hv.1 hon.1 hon.2 (by omega), by rw [cod_clip hwf e (by omega), if_pos rfl]; rfl⟩ (fun j hj hj1 => by rw [cod_clip hwf e hj, if_neg (by omega)])
          have hbg := bd_go hv.2.2 e
          have hm6 : ∀ k, k < 8 → M6.2.1 12 k = ii (goM p m (W s).2.1 k) ∧ M6.2.1 13 k = nn ((W s).2.2 k) := fun k hk => by rw [d3.2.1 12 (by decide), d3.2.1 13 (by decide), c3.2.1 13 (by decide)]; exact ⟨c2 k hk, (hm4 k hk).2⟩
          obtain ⟨M7, f1, f2, f3⟩ := marksCome7_sp (x := g) (n := m) hm6 (fun k hk => by have := hbg k hk; omega) (by omega)
          have h24 : ∀ k, k < 8 → M7.2.1 24 k = ii ((W s).2.1 k) := fun k hk => by rw [f3.2.1 24 (by decide), d3.2.1 24 (by decide), c3.2.1 24 (by decide), b4.2.1 24 (by decide), a4 24 (by decide), z2 k hk]; exact (r5 k hk).1
          obtain ⟨M8, i1, i2, i3⟩ := mov140 (A := A) (B := B ++ K) (M := M7) (p := p) (n := m) (g := g) (mk := (W s).2.1) (st := (W s).2.2) hm1 (by omega) (fun k hk => by have := hv.2.2 k hk; omega) h24 f2
          have hF : Ff M1 M8 := (hF4.trans c3.ff).trans (d3.ff.trans (f3.ff.trans i3.ff))
          refine ⟨M8, K, ?_, ?_, g2.fk.trans hF.fk⟩
          · show fX7_movesOne A M B (nn p) (nn m) (nn q) = _
            have h52 : fX7_movesOne_b52 A M B (nn p) (nn m) (nn q) = some (nn g, M8, B ++ K) := by
              unfold fX7_movesOne_b52
              rw [g1, ob2_some, q0, z1, r86 A M0 (B ++ K) e2, ← hg]
              unfold fX7_movesOne_b98
              rw [a1, ob1_some, b1, ob1_some, b2, ob1_some, c1, ob1_some, d1, ob1_some, f1, ob1_some, q0]
              exact i1
            rw [r7 A M B _ Sf hR, h52]
            by_cases k1 : q ≤ p
            · rw [if_pos k1]
            · rw [if_neg k1, if_pos (by omega)]
          · refine hR1.upd hs' (by omega) hF.fe (hF.rst r3) ?_ ?_ (Or.inl ⟨rfl, (hF.1 21 (by decide)).trans g3⟩) (hW34 _ _)
            · rw [va_up_same]
              exact d2.cg (by rw [i3.1, f3.1]) (by rw [i3.2.1 10 (by decide), f3.2.1 10 (by decide)])
            · rw [va_up_same]
              intro k hk
              refine ⟨i2 k hk, ?_⟩
              rw [i3.2.1 13 (by decide), f3.2.1 13 (by decide)]
              exact (hm6 k hk).2
      · refine ⟨_, -2, hS, ?_, R7f.ret ?_, ⟨rfl, rfl, Nat.le_refl _⟩⟩
        · intro G c n h
          refine c6 G c n _ h ?_
          intro G1 c1 bu old lv pg qg sc x1 x2 x3 x5
          refine ifn (by omega) ?_
          refine ifn (by omega) ?_
          exact ok_some ⟨rfl, c1, ⟨bu, old, lv, pg, qg, sc, x1, x2, x3⟩, x5⟩
        · intro A M B n Sf hR
          show fX7_movesOne A M B (nn p) (nn m) (nn q) = _
          rw [r7 A M B _ Sf hR, if_neg (by omega), if_neg (by omega)]
    · refine ⟨_, -2, hS, ?_, R7f.ret ?_, ⟨rfl, rfl, Nat.le_refl _⟩⟩
      · rintro G c n ⟨bu, old, lv, pg, qg, sc, h1, h2, h3⟩
        show ok (fX6_moves G 0 (nn p) (nn m) (nn q)) _
        unfold fX6_moves
        refine ifn ey ?_
        refine ifn hx0 ?_
        refine ift hw0 ?_
        refine sa1 h1.1.io0 ?_
        refine ca2 (hasSigns_sp h1 hs hz hp hm) ?_
        rintro v G2 ⟨z1, c1, b1, lv1, z2, z3, -⟩
        change v = _ at z1
        subst z1
        refine ifn (by rw [if_pos e]; decide) ?_
        refine sa1 z2.1.io0 ?_
        refine ca2 (isPlace6_sp z2 hs hz hq) ?_
        rintro v G3 ⟨z1, c3, b3, lv3, z4, z5, -⟩
        change v = _ at z1
        subst z1
        refine ift (by rw [if_neg e1]; rfl) ?_
        exact ok_some ⟨rfl, c3, ⟨b3, old, lv3, pg, qg, sc, z4, h2, h3⟩, z3.trans z5⟩
      · intro A M B n Sf hR
        obtain ⟨r3, r4, -⟩ := hR.cur
        show fX7_movesOne A M B (nn p) (nn m) (nn q) = _
        unfold fX7_movesOne
        rw [if_neg ey, if_neg hx0, if_pos hw0, if_neg (by rw [cmp_len' r4.1 hz hp hm]; exact fun h => h e), r4.1, if_lt (by omega) hq, if_pos (by omega)]
  · refine ⟨_, -2, hS, ?_, R7f.ret ?_, ⟨rfl, rfl, Nat.le_refl _⟩⟩
    · rintro G c n ⟨bu, old, lv, pg, qg, sc, h1, h2, h3⟩
      show ok (fX6_moves G 0 (nn p) (nn m) (nn q)) _
      unfold fX6_moves
      refine ifn ey ?_
      refine ifn hx0 ?_
      refine ift hw0 ?_
      refine sa1 h1.1.io0 ?_
      refine ca2 (hasSigns_sp h1 hs hz hp hm) ?_
      rintro v G2 ⟨z1, c1, b1, lv1, z2, z3, -⟩
      change v = _ at z1
      subst z1
      refine ift (by rw [if_neg e]; rfl) ?_
      exact ok_some ⟨rfl, c1, ⟨b1, old, lv1, pg, qg, sc, z2, h2, h3⟩, z3⟩
    · intro A M B n Sf hR
      obtain ⟨r3, r4, -⟩ := hR.cur
      show fX7_movesOne A M B (nn p) (nn m) (nn q) = _
      unfold fX7_movesOne
      rw [if_neg ey, if_neg hx0, if_pos hw0, if_pos (by rw [cmp_len' r4.1 hz hp hm]; exact e)]
theorem op_moves : Op_moves Inv := by
  intro k G x y w hI
  refine op_act (f6 := fun G => fX6_moves G 0 x y w) (f7 := fun A M B => fX7_moves A M B x y w) hI (fun S hS => ?_)
  obtain ⟨S1, r, a1, a2, a3, a4⟩ := A_moves x y w S hS
  exact ⟨S1, r, a1, a2, a3.to.i0, a4.2.2⟩
