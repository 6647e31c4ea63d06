/-! heals: what is joined -/
theorem healA_some {R t : PC} {q l : Nat × Nat} (h : R.getLast? = some l) : healA R (q :: t) = if gon l q then healA (R.dropLast ++ [(l.1, l.2 + q.2)]) t else healA (R ++ [q]) t := by simp only [healA, h]
theorem healA_none {R t : PC} {q : Nat × Nat} (h : R.getLast? = none) : healA R (q :: t) = healA (R ++ [q]) t := by simp only [healA, h]
theorem at_mid {R t : PC} {q : Nat × Nat} (h : 1 ≤ q.2) : srcAt (R ++ q :: t) (sz R) = q.1 ∧ bgAt (R ++ q :: t) (sz R) = 1 := by
  rw [srcAt_app, bgAt_app, if_neg (by omega), if_neg (by omega), Nat.sub_self]
  simp only [srcAt, bgAt]
  rw [if_pos (by omega), if_pos (by omega), Nat.add_zero]
  exact ⟨rfl, rfl⟩
theorem hl_at {R t : PC} {l q : Nat × Nat} {on an : Nat} (hR : R.getLast? = some l) (hok : okQ on an l) (hq : okQ on an q) (hon : on ≤ 1600) : hl (R ++ q :: t) (sz R) = if gon l q then 1 else 0 := by
  have hs := last_split hR
  have hsz : sz R = sz R.dropLast + l.2 := by
    have := congrArg sz hs
    rw [sz_app, sz_cons, sz_nil] at this
    omega
  obtain ⟨e1, e2⟩ := at_mid (R := R) (t := t) hq.1
  unfold okQ at hok
  have e3 : srcAt (R ++ q :: t) (sz R - 1) = l.1 + (l.2 - 1) := by
    have : srcAt R (sz R - 1) = srcAt (R.dropLast ++ [l]) (sz R - 1) := by rw [← hs]
    rw [srcAt_app, if_pos (by omega), this, srcAt_app, if_neg (by omega)]
    simp only [srcAt]
    rw [if_pos (by omega)]
    omega
  unfold hl
  rw [e1, e2, e3]
  have hiff : (1 ≤ sz R ∧ 1 = 1 ∧ (q.1 < 1600 ↔ l.1 + (l.2 - 1) < 1600) ∧ q.1 = l.1 + (l.2 - 1) + 1) ↔ gon l q := by
    unfold gon
    rw [st_eq']
    omega
  by_cases e : gon l q
  · rw [if_pos e, if_pos (hiff.mpr e)]
  · rw [if_neg e, if_neg (fun x => e (hiff.mp x))]
theorem healA_at {on an : Nat} (hon : on ≤ 1600) (t : PC) : ∀ R, okP on an R → okP on an t → ∀ p, p < sz R + sz t → srcAt (healA R t) p = srcAt (R ++ t) p ∧ bgAt (healA R t) p = bgAt (R ++ t) p - (if sz R ≤ p then hl (R ++ t) p else 0) := by
  induction t with
  | nil =>
    intro R hR _ p hp
    rw [sz_nil] at hp
    rw [healA, List.append_nil, if_neg (by omega)]
    exact ⟨rfl, rfl⟩
  | cons q t ih =>
    intro R hR ht p hp
    obtain ⟨hq, ht'⟩ := okP_cons.mp ht
    have hq1 := hq.1
    rw [sz_cons] at hp
    have skip : hl (R ++ q :: t) (sz R) = 0 → srcAt (healA (R ++ [q]) t) p = srcAt (R ++ q :: t) p ∧ bgAt (healA (R ++ [q]) t) p = bgAt (R ++ q :: t) p - (if sz R ≤ p then hl (R ++ q :: t) p else 0) := by
      intro h0
      have hsz : sz (R ++ [q]) = sz R + q.2 := by
        rw [sz_app, sz_cons, sz_nil]
        omega
      have := ih (R ++ [q]) (okP_app.mpr ⟨hR, okP_cons.mpr ⟨hq, okP_nil⟩⟩) ht' p (by omega)
      rw [List.append_assoc, List.singleton_append, hsz] at this
      refine ⟨this.1, this.2.trans ?_⟩
      by_cases e1 : sz R ≤ p
      · rw [if_pos e1]
        by_cases e2 : sz R + q.2 ≤ p
        · rw [if_pos e2]
        · rw [if_neg e2]
          by_cases e3 : p = sz R
          · rw [e3, h0]
          · have hb : bgAt (R ++ q :: t) p = 0 := by
              rw [bgAt_app, if_neg (by omega)]
              simp only [bgAt]
              rw [if_pos (by omega), if_neg (by omega)]
            rw [hb, Nat.zero_sub, Nat.zero_sub]
      · rw [if_neg e1, if_neg (by omega)]
    cases hlast : R.getLast? with
    | none =>
      rw [healA_none hlast]
      refine skip ?_
      have : R = [] := List.getLast?_eq_none_iff.mp hlast
      subst this
      unfold hl
      rw [if_neg (by rintro ⟨x, -⟩; rw [sz_nil] at x; omega)]
    | some l =>
      have hs := last_split hlast
      have hlq : okQ on an l := hR l (by rw [hs]; simp)
      have hl1 := hlq.1
      have hat := hl_at (t := t) hlast hlq hq hon
      rw [healA_some hlast]
      by_cases e : gon l q
      · rw [if_pos e] at hat ⊢
        have hj := okQ_join hon hlq hq e
        have hX : okP on an R.dropLast := fun x hx => hR x (List.dropLast_subset R hx)
        have hsz : sz R = sz R.dropLast + l.2 := by
          have := congrArg sz hs
          rw [sz_app, sz_cons, sz_nil] at this
          omega
        have hsz' : sz (R.dropLast ++ [(l.1, l.2 + q.2)]) = sz R + q.2 := by
          rw [sz_app, sz_cons, sz_nil]
          show sz R.dropLast + (l.2 + q.2 + 0) = _
          omega
        have hL : R ++ q :: t = R.dropLast ++ l :: q :: t := by
          have : R ++ q :: t = (R.dropLast ++ [l]) ++ q :: t := by rw [← hs]
          rw [this, List.append_assoc, List.singleton_append]
        have e2 : l.1 + l.2 = q.1 := e.2
        have hsr : ∀ p, srcAt ((R.dropLast ++ [(l.1, l.2 + q.2)]) ++ t) p = srcAt (R ++ q :: t) p := by
          intro p
          rw [hL, List.append_assoc, List.singleton_append, srcAt_app, srcAt_app]
          by_cases k1 : p < sz R.dropLast
          · rw [if_pos k1, if_pos k1]
          · rw [if_neg k1, if_neg k1]
            simp only [srcAt]
            by_cases k2 : p - sz R.dropLast < l.2
            · rw [if_pos (by omega), if_pos k2]
            · rw [if_neg k2]
              by_cases k3 : p - sz R.dropLast - l.2 < q.2
              · rw [if_pos (by omega), if_pos k3]
                omega
              · rw [if_neg (by omega), if_neg k3, Nat.sub_sub (p - sz R.dropLast)]
        have hbg : ∀ p, bgAt ((R.dropLast ++ [(l.1, l.2 + q.2)]) ++ t) p = if p = sz R then 0 else bgAt (R ++ q :: t) p := by
          intro p
          rw [hL, List.append_assoc, List.singleton_append, bgAt_app, bgAt_app]
          by_cases k1 : p < sz R.dropLast
          · rw [if_pos k1, if_pos k1, if_neg (by omega)]
          · rw [if_neg k1, if_neg k1]
            simp only [bgAt]
            by_cases k2 : p - sz R.dropLast < l.2
            · rw [if_pos (show p - sz R.dropLast < l.2 + q.2 by omega), if_pos k2, if_neg (show ¬ p = sz R by omega)]
            · rw [if_neg k2]
              by_cases k3 : p - sz R.dropLast - l.2 < q.2
              · rw [if_pos (show p - sz R.dropLast < l.2 + q.2 by omega), if_pos k3, if_neg (show ¬ p - sz R.dropLast = 0 by omega)]
                by_cases k4 : p = sz R
                · rw [if_pos k4]
                · rw [if_neg k4, if_neg (by omega)]
              · rw [if_neg (show ¬ p - sz R.dropLast < l.2 + q.2 by omega), if_neg k3, if_neg (show ¬ p = sz R by omega), Nat.sub_sub (p - sz R.dropLast)]
        have := ih (R.dropLast ++ [(l.1, l.2 + q.2)]) (okP_app.mpr ⟨hX, okP_cons.mpr ⟨hj, okP_nil⟩⟩) ht' p (by omega)
        rw [hsr, hbg, hsz'] at this
        refine ⟨this.1, this.2.trans ?_⟩
        have hle := bgAt_le (R ++ q :: t) p
        by_cases k1 : p = sz R
        · rw [if_pos k1, Nat.zero_sub, if_pos (show sz R ≤ p by omega), k1, hat]
          rw [k1] at hle
          omega
        · rw [if_neg k1]
          by_cases k2 : sz R ≤ p
          · rw [if_pos k2]
            by_cases k3 : sz R + q.2 ≤ p
            · rw [if_pos k3]
              unfold hl
              rw [hsr, hsr, hbg, if_neg k1]
            · have hb : bgAt (R ++ q :: t) p = 0 := by
                rw [bgAt_app, if_neg (by omega)]
                simp only [bgAt]
                rw [if_pos (by omega), if_neg (by omega)]
              rw [hb, Nat.zero_sub, Nat.zero_sub]
          · rw [if_neg k2, if_neg (by omega)]
      · rw [if_neg e] at hat ⊢
        exact skip hat
theorem sz_healP (P : PC) : sz (healP P) = sz P := by
  have := healA_sz [] P
  rw [sz_nil, Nat.zero_add] at this
  exact this
theorem healP_at {on an : Nat} {P : PC} (hon : on ≤ 1600) (h : okP on an P) {p : Nat} (hp : p < sz P) : srcAt (healP P) p = srcAt P p ∧ bgAt (healP P) p = bgAt P p - hl P p := by
  have := healA_at hon P [] okP_nil h p (by rw [sz_nil]; omega)
  rw [sz_nil, if_pos (Nat.zero_le _)] at this
  exact this
theorem hl_bg (P : PC) (p : Nat) : hl P p ≤ bgAt P p := by
  unfold hl
  split
  · rename_i h
    omega
  · omega
theorem healP_len {on an : Nat} {P : PC} (hon : on ≤ 1600) (h : okP on an P) : P.length - (healP P).length = brdK P P.length := by
  have hw := okP_wf h
  have hk : okP on an (healP P) := healA_ok hon [] P okP_nil h
  have h1 := bgC_take hw P.length (Nat.le_refl _)
  have h2 := bgC_take (okP_wf hk) (healP P).length (Nat.le_refl _)
  have h3 := hlC_brd h hon P.length (Nat.le_refl _)
  rw [List.take_length] at h1 h2 h3
  rw [sz_healP] at h2
  have key : ∀ k, k ≤ sz P → bgC (healP P) k + hlC P k = bgC P k := by
    intro k
    induction k with
    | zero => intro _; rfl
    | succ k ih =>
      intro hk
      have a1 := ih (by omega)
      have a2 := (healP_at hon h (p := k) (by omega)).2
      have a3 := hl_bg P k
      show bgC (healP P) k + bgAt (healP P) k + (hlC P k + hl P k) = bgC P k + bgAt P k
      omega
  have := key (sz P) (Nat.le_refl _)
  omega
theorem cod_healP {on an : Nat} {P : PC} (hon : on ≤ 1600) (h : okP on an P) {p : Nat} (hp : p < sz P) : cod (healP P) p = cod P p - hl P p := by
  obtain ⟨a1, a2⟩ := healP_at hon h hp
  have := hl_bg P p
  unfold cod
  rw [a1, a2]
  omega
theorem hl_zero {P : PC} {p k : Nat} (h : hlC P k = 0) (hp : p < k) : hl P p = 0 := by
  induction k with
  | zero => omega
  | succ k ih =>
    have h1 : hlC P k + hl P k = 0 := h
    by_cases e : p = k
    · subst e
      omega
    · exact ih (by omega) (by omega)
theorem hl_cg {P : PC} {M M' : MS} {on an : Nat} {p : Nat} (h : RBk M P) (hk : okP on an P) (hon : on ≤ 1600) (han : an ≤ 6000) (hp : p < sz P) (e0 : M'.2.1 10 p = M.2.1 10 p) (e1 : 1 ≤ p → M'.2.1 10 (p - 1) = nn (cod P (p - 1) - hl P (p - 1))) : fX7_isHealable M' (nn p) = some (nn (hl P p)) := by
  rw [← isHealable7 h hk hon han hp]
  have hz := h.2.1
  unfold fX7_isHealable
  rw [q0, if_le (by omega) (by omega), if_le (by omega) (by omega)]
  by_cases e : p ≤ 0
  · rw [if_pos e, if_pos e]
  · have c1 := cod_div hk hon han (show p - 1 < sz P by omega)
    have hb := hl_bg P (p - 1)
    have hdv : (cod P (p - 1) - hl P (p - 1)) / 2 = cod P (p - 1) / 2 := by omega
    have e1' := e1 (by omega)
    have b1 : fX7_begins M' (nn p) = fX7_begins M (nn p) := by
      unfold fX7_begins
      rw [rd_nn (show p < 3000 by omega) (by omega), rd_nn (show p < 3000 by omega) (by omega), e0]
    have b2 : fX7_storeAt M' (nn p) = fX7_storeAt M (nn p) := by
      unfold fX7_storeAt
      rw [rd_nn (show p < 3000 by omega) (by omega), rd_nn (show p < 3000 by omega) (by omega), e0]
    have b3 : fX7_placeAt M' (nn p) = fX7_placeAt M (nn p) := by
      unfold fX7_placeAt
      rw [rd_nn (show p < 3000 by omega) (by omega), rd_nn (show p < 3000 by omega) (by omega), e0]
    have b4 : fX7_storeAt M' (nn (p - 1)) = fX7_storeAt M (nn (p - 1)) := by
      unfold fX7_storeAt
      rw [rd_nn (show p - 1 < 3000 by omega) (by omega), rd_nn (show p - 1 < 3000 by omega) (by omega), ob1_some, ob1_some, e1', h.2.2 (p - 1) (by omega), q2, nn_div (by omega) (by omega), nn_div (by omega) (by omega), hdv]
    have b5 : fX7_placeAt M' (nn (p - 1)) = fX7_placeAt M (nn (p - 1)) := by
      unfold fX7_placeAt
      rw [rd_nn (show p - 1 < 3000 by omega) (by omega), rd_nn (show p - 1 < 3000 by omega) (by omega), ob1_some, ob1_some, e1', h.2.2 (p - 1) (by omega), q2, nn_div (by omega) (by omega), nn_div (by omega) (by omega), hdv]
    rw [if_neg e, if_neg e, q1, nn_sub (by omega), b1, b2, b3, b4, b5]
theorem heals7 {A B : zH} {M : MS} {P : PC} {on an : Nat} {x : Int32} (h : RBk M P) (hk : okP on an P) (hon : on ≤ 1600) (han : an ≤ 6000) : ∃ M1, fX7_healsAll_b13 A M B x = some (x, M1, B) ∧ RBk M1 (healP P) ∧ Fb M M1 := by
  have hz := h.2.1
  have key : ∀ fu k M', k ≤ sz P → sz P - k < fu → Fb M M' → M'.1 11 = M.1 11 → (∀ p, p < k → M'.2.1 10 p = nn (cod P p - hl P p)) → (∀ p, k ≤ p → M'.2.1 10 p = M.2.1 10 p) → ∃ M1, fX7_healsAll_b15 A fu M' B x (nn k) = some (x, M1, B) ∧ RBk M1 (healP P) ∧ Fb M M1 := by
    intro fu
    induction fu with
    | zero => intro k M' _ h; omega
    | succ fu ih =>
      intro k M' hk1 hfu hF h11 h1 h2
      unfold fX7_healsAll_b15
      rw [h11, h.1, if_le (by omega) (by omega)]
      by_cases e : sz P ≤ k
      · rw [if_pos e]
        refine ⟨M', rfl, ⟨by rw [h11, h.1, sz_healP], by rw [sz_healP]; exact hz, fun p hp => ?_⟩, hF⟩
        rw [sz_healP] at hp
        rw [cod_healP hon hk hp]
        exact h1 p (by omega)
      · have hb := hl_bg P k
        have hc : hl P k ≤ cod P k := by
          unfold cod
          omega
        rw [if_neg e, rd_nn (show k < 3000 by omega) (by omega), ob1_some, hl_cg h hk hon han (by omega) (h2 k (Nat.le_refl _)) (fun hh => h1 (k - 1) (by omega)), ob1_some, flag_nn (hl_le P k), ob1_some, h2 k (Nat.le_refl _), h.2.2 k (by omega), nn_sub hc, wr_nn (show k < 3000 by omega) (by omega), ob1_some, nn_tn (by omega), q1, nn_add, zlt]
        refine ih (k + 1) _ (by omega) (by omega) (hF.trans (Fb.a10 _ _)) h11 (fun p hp => ?_) (fun p hp => ?_)
        · show upd (M'.2.1 10) k _ p = _
          by_cases ep : p = k
          · subst ep
            exact upd_same _ _ _
          · rw [upd_ne _ _ ep]
            exact h1 p (by omega)
        · show upd (M'.2.1 10) k _ p = _
          rw [upd_ne _ _ (by omega)]
          exact h2 p (by omega)
  unfold fX7_healsAll_b13
  rw [q0]
  exact key FU 0 M (by omega) (by rw [FU_eq]; omega) (Fb.refl _) rfl (fun p hp => by omega) (fun _ _ => rfl)
theorem A_heals : AF (fun G => fX6_heals G 0) (fun A M B => fX7_healsAll A M B) := by
  rintro ⟨⟨T, St, kd⟩, ⟨tx, ts, tb⟩, ro, st, ⟨s, u, f⟩, ke, W⟩ hS
  obtain ⟨⟨hv, ht⟩, hs, huf, hst⟩ := hS.cur
  have hz := hv.2.1
  have hwf := okP_wf hv.1
  have hlen := len_le_sz hwf
  have hon := hst.2
  have hok1 : okP 1600 6000 (W s).1 := okP_more hv.1 hon.1 hon.2
  have hbr := hlC_brd hv.1 hon.1 (W s).1.length (Nat.le_refl _)
  rw [List.take_length] at hbr
  have hbl := brdK_le (W s).1 (W s).1.length
  by_cases e : brdK (W s).1 (W s).1.length = 0
  · refine ⟨((T, St, kd), (tx, ts, tb), ro, st, (s, u, f), ke, W), 0, hS, ?_, ?_, ⟨rfl, rfl, Nat.le_refl _⟩⟩
    · rintro G c n ⟨bu, old, lv, pg, qg, sc, h1, h2, h3⟩
      show ok (fX6_heals G 0) _
      unfold fX6_heals
      refine sa1 h1.1.r0_4 ?_
      refine sa1 h1.1.io6 ?_
      refine ca2 (current_sp h1 hs) ?_
      rintro r G1 ⟨c1, b1, lv1, x1, x2, x3, x4⟩
      have hL := x2.lf hs x1
      refine sa1 hL.io ?_
      refine sa1 (bordersToHeal_sp hok1 hL) ?_
      refine ift (by rw [e]; rfl) ?_
      exact ok_some ⟨rfl, c1, ⟨b1, old, lv1, pg, qg, sc, x2, h2, h3⟩, x3⟩
    · intro A M B n Sf hR
      obtain ⟨r3, r4, r5, r11, -⟩ := hR.cur
      obtain ⟨M1, d1, d2, d3⟩ := heals7 (A := A) (B := B) (x := nn 0) r4 hv.1 hon.1 hon.2
      refine ⟨M1, [], ?_, ?_, d3.fk⟩
      · show fX7_healsAll A M B = _
        unfold fX7_healsAll
        rw [healables7 r4 hv.1 hon.1 hon.2, ob1_some, hbr, e, if_pos (by decide), d1, List.append_nil]
        rfl
      · rw [List.append_nil]
        refine (hR.upd hs huf d3.fe (d3.rst r3) ⟨?_, hz, fun p hp => ?_⟩ (fun k hk => ?_) ?_ (fun _ _ _ => rfl)).less (by omega)
        · rw [d2.1, sz_healP]
        · rw [d2.2.2 p (by rw [sz_healP]; exact hp), cod_healP hon.1 hv.1 hp, hl_zero (hbr.trans e) hp, Nat.sub_zero]
        · rw [d3.2.1 12 (by decide), d3.2.1 13 (by decide)]
          exact r5 k hk
        · unfold RTy at *
          rw [d3.1 21 (by decide)]
          exact r11
  · have hs' : (s + 1) % 31 < 31 := by omega
    refine ⟨((T, St, kd), (tx, ts, -1), ro, st, ((s + 1) % 31, min (u + 1) 30, 0), ke, va_up W ((s + 1) % 31) (healP (W s).1, (W s).2.1, (W s).2.2)), nn (brdK (W s).1 (W s).1.length), ?_, ?_, ?_, ⟨rfl, rfl, Nat.le_refl _⟩⟩
    · refine hS.edit.upd ?_ (va_va_at _ _ _) hst (Nat.le_refl _) (Nat.le_refl _)
      rw [va_up_same]
      refine ⟨healA_ok hon.1 [] _ okP_nil hv.1, ?_, ?_⟩
      · show sz (healP (W s).1) ≤ 3000
        rw [sz_healP]
        exact hz
      · show bdM (W s).2.1 (W s).2.2 (sz (healP (W s).1))
        rw [sz_healP]
        exact hv.2.2
    · rintro G c n ⟨bu, old, lv, pg, qg, sc, h1, h2, h3⟩
      show ok (fX6_heals G 0) _
      unfold fX6_heals
      refine sa1 h1.1.r0_4 ?_
      refine sa1 h1.1.io6 ?_
      refine ca2 (current_sp h1 hs) ?_
      rintro r G1 ⟨c1, b1, lv1, x1, x2, x3, x4⟩
      have hL := x2.lf hs x1
      refine sa1 hL.io ?_
      refine sa1 (bordersToHeal_sp hok1 hL) ?_
      refine ifn (by rw [q0, nn_eq (by omega) (by omega)]; exact e) ?_
      refine sa1 x2.1.io0 ?_
      refine ca2 (beginEdit6_sp x2 hs (by omega) (by omega) (fun k hk => (hv.2.2 k hk).2.2)) ?_
      rintro r4 G4 ⟨c4, b4, lv4, t1, t2, t3⟩
      have hL4 := t2.lf hs' t1
      rw [va_up_same] at hL4
      refine sa1 hL4.io ?_
      refine ca2 (joinPieces_sp hon.1 hon.2 hv.1 hz hL4) ?_
      rintro v5 G5 ⟨v1, l5, u5⟩
      refine ok_some ⟨v1.trans (congrArg nn (healP_len hon.1 hv.1)), c4, ⟨_, 1, lv4, pg, qg, sc, t2.ed (w := (healP (W s).1, (W s).2.1, (W s).2.2)) hs' t1 u5 l5, Nat.le_refl _, fun h => absurd h (by decide)⟩, x3.trans (t3.trans (u5.1.fo (by omega)))⟩
    · intro A M B n Sf hR
      obtain ⟨-, r4, -⟩ := hR.cur
      obtain ⟨M1, K, e1, g1, g2, hR1⟩ := hR.edit hS
      have hc := hR1.cur
      rw [va_up_same] at hc
      obtain ⟨r3', r4', r5', -⟩ := hc
      obtain ⟨M2, d1, d2, d3⟩ := heals7 (A := A) (B := B ++ K) (x := nn (brdK (W s).1 (W s).1.length)) r4' hv.1 hon.1 hon.2
      refine ⟨M2, K, ?_, ?_, g1.fk.trans d3.fk⟩
      · show fX7_healsAll A M B = _
        unfold fX7_healsAll
        rw [healables7 r4 hv.1 hon.1 hon.2, ob1_some, hbr, if_neg (by rw [q0, nn_le (by omega) (by omega)]; omega), e1, ob2_some, d1]
      · refine hR1.upd hs' (by omega) d3.fe (d3.rst r3') ?_ ?_ (Or.inl ⟨rfl, (d3.1 21 (by decide)).trans g2⟩) (va_va_at _ _ _)
        · rw [va_up_same]
          exact d2
        · rw [va_up_same]
          intro k hk
          rw [d3.2.1 12 (by decide), d3.2.1 13 (by decide)]
          exact r5' k hk
theorem op_heals : Op_heals Inv := by
  intro k G hI
  refine op_act (f6 := fun G => fX6_heals G 0) (f7 := fun A M B => fX7_heals A M B) hI (fun S hS => ?_)
  obtain ⟨S1, r, a1, a2, a3, a4⟩ := A_heals S hS
  exact ⟨S1, r, a1, a2, a3.to.i0, a4.2.2⟩
