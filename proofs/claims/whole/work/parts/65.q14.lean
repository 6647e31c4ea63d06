/-! piece, shows -/
theorem placeInStore6 {v : Nat} (h : v < 2147483648) : fX6_placeInStore (nn v) = some (nn (if v < 1600 then v else v - 1600)) := by
  unfold fX6_placeInStore
  rw [storeOf_nn h, ob1_some, baseOf6 (by split <;> omega), ob1_some]
  unfold bas
  by_cases e : 1600 ≤ v
  · rw [if_pos e, if_neg (show ¬ (1 : Nat) = 0 by omega), nn_sub e, if_neg (show ¬ v < 1600 by omega)]
  · rw [if_neg e, if_pos (show (0 : Nat) = 0 from rfl), nn_sub (by omega), if_pos (show v < 1600 by omega), Nat.sub_zero]
theorem cntB_split (t : Nat → Nat) (b l : Nat) : cntB t 0 (b + l) = cntB t 0 b + cntB t b l := by
  induction l with
  | zero => rfl
  | succ l ih =>
    show cntB t 0 (b + l) + (if t (0 + (b + l)) = 10 then 1 else 0) = cntB t 0 b + (cntB t b l + if t (b + l) = 10 then 1 else 0)
    rw [ih, Nat.zero_add]
    omega
theorem cntB_congr {t t' : Nat → Nat} {b b' : Nat} : ∀ l, (∀ j, j < l → t (b + j) = t' (b' + j)) → cntB t b l = cntB t' b' l := by
  intro l
  induction l with
  | zero => intro _; rfl
  | succ l ih =>
    intro h
    show cntB t b l + (if t (b + l) = 10 then 1 else 0) = cntB t' b' l + (if t' (b' + l) = 10 then 1 else 0)
    rw [ih (fun j hj => h j (by omega)), h l (by omega)]
theorem op_piece : Op_piece Inv := by
  intro k G x y hI
  obtain ⟨c, bu, a, ro, st, ⟨s, u, f, lv⟩, ke, pg, qg, sc, W, M, A, B, T, St, kd, h1, h2, h3, h4, h5, h6⟩ := hI
  obtain ⟨hv, ht⟩ := h5.cur
  have hs : s < 31 := h5.2.2.2.1.1
  have hz := hv.2.1
  have hwf := okP_wf hv.1
  have hlen := len_le_sz hwf
  have hon := h5.2.2.1.2
  have hRB : RBk (mI M 0 0) (W s).1 := h6.2.2.2.1.cg rfl rfl
  have hRV := RV_of hRB (h6.2.2.1.cg rfl rfl rfl rfl : RSt (mI M 0 0) St st.1 st.2.1) hv.1 ht
  have hRG := RG_of hRB hv.1 hon.1 hon.2
  have m0 : (0 : Int64).toInt = (0 : Nat) := rfl
  have m4 : (4 : Int64).toInt = (4 : Nat) := rfl
  by_cases hc : ∃ p w, p < (W s).1.length ∧ w ≤ 4 ∧ x = nn p ∧ y = nn w
  · obtain ⟨p, w, hp, hw, rfl, rfl⟩ := hc
    left
    obtain ⟨q, hq⟩ : ∃ q, (W s).1[p]? = some q := ⟨(W s).1[p], List.getElem?_eq_getElem hp⟩
    have hok := hv.1 q (List.mem_of_getElem? hq)
    unfold okQ at hok
    have hst := sz_take_in hq
    have hsl := sz_take_le (W s).1 (p + 1)
    have hsrc : srcAt (W s).1 (sz ((W s).1.take p)) = q.1 := by
      have := srcAt_in hq (j := 0) (by omega)
      rw [Nat.add_zero, Nat.add_zero] at this
      exact this
    have hbr : cntB (fun p => St (srcAt (W s).1 p)) (sz ((W s).1.take p)) q.2 = cntB St q.1 q.2 := cntB_congr q.2 (fun j hj => by show St (srcAt (W s).1 (sz ((W s).1.take p) + j)) = _; rw [srcAt_in hq hj])
    have hcm := cntB_split (fun p => St (srcAt (W s).1 p)) (sz ((W s).1.take p)) q.2
    refine op_fin3 (f6 := fX6_piece G 0 (nn p) (nn w)) (f7 := fun M => fX7_piece M (nn p) (nn w)) (r := nn (if w = 0 then (if q.1 < 1600 then 0 else 1) else if w = 1 then (if q.1 < 1600 then q.1 else q.1 - 1600) else if w = 2 then q.2 else if w = 3 then cntB St q.1 q.2 else sz ((W s).1.take p))) h2 h3 h1.2.2.2.1 h4 h5 h6 ?_ ?_
    · unfold fX6_piece
      refine sa1 h1.1.r0_4 ?_
      refine sa1 h1.1.io6 ?_
      refine ca2 (current_sp h1 hs) ?_
      rintro r' G1 ⟨c1, b1, lv1, x1, x2, x3, x4⟩
      change Cl G1 c1 b1 _ a ro st (s, u, f, lv1) ke pg qg sc W at x2
      have hL := x2.lf hs x1
      obtain ⟨hs', hl, hm, ht', cap, fs, fl, fm, ft, a1, a2, a3, a4, a5, a6, a7⟩ := id hL
      have hqv := a2 p q hq
      refine ifn (by rw [nn_neg (by omega)]; exact id) ?_
      refine sa1 hL.n2 ?_
      refine ifn (by rw [nn_le (by omega) (by omega)]; omega) ?_
      refine ifn (by rw [nn_neg (by omega)]; exact id) ?_
      refine ift (by rw [q4, nn_le (by omega) (by omega)]; omega) ?_
      have hret : ∀ {r : Int32}, ok (some (r, G1)) (CQ G c (3016 * (4 * (k + 1) + a.2.1)) a a.2.1 ro st s u f ke W St r) := CQ_ret (old := a.2.2.1) x2 x3 h5.2.1.2.1 h5.2.2.2.2.2.2
      have h01234 : w = 0 ∨ w = 1 ∨ w = 2 ∨ w = 3 ∨ w = 4 := by omega
      rcases h01234 with rfl | rfl | rfl | rfl | rfl
      · refine ift rfl ?_
        refine sa1 a1.f0 ?_
        refine sa1 (a1.rS (k := p) (by omega) a6) ?_
        rw [hqv.1]
        refine sa1 (storeOf_nn (by omega)) ?_
        rw [if_pos (show (0 : Nat) = 0 from rfl), show (if 1600 ≤ q.1 then 1 else 0) = (if q.1 < 1600 then 0 else 1) by split <;> split <;> omega]
        exact hret
      · refine ifn (by decide) ?_
        refine ift rfl ?_
        refine sa1 a1.f0 ?_
        refine sa1 (a1.rS (k := p) (by omega) a6) ?_
        rw [hqv.1]
        refine sa1 (placeInStore6 (by omega)) ?_
        exact hret
      · refine ifn (by decide) ?_
        refine ifn (by decide) ?_
        refine ift rfl ?_
        refine sa1 a1.f1 ?_
        refine sa1 (a1.rL (k := p) (by omega) a6) ?_
        rw [hqv.2]
        exact hret
      · refine ifn (by decide) ?_
        refine ifn (by decide) ?_
        refine ifn (by decide) ?_
        refine ift rfl ?_
        refine sa1 x2.1.r0_3 ?_
        refine sa1 a1.f0 ?_
        refine sa1 (a1.rS (k := p) (by omega) a6) ?_
        refine sa1 a1.f1 ?_
        refine sa1 (a1.rL (k := p) (by omega) a6) ?_
        rw [hqv.1, hqv.2]
        refine sa1 x2.1.io4 ?_
        refine sa1 (breaksIn4_sp (St := St) x2.1 (by omega) (fun j hj => by have := h5.2.2.1.1 (q.1 + j) (by unfold vs; omega); exact ⟨this.1, this.2.2⟩)) ?_
        exact hret
      · refine ifn (by decide) ?_
        refine ifn (by decide) ?_
        refine ifn (by decide) ?_
        refine ifn (by decide) ?_
        refine ift (by decide) ?_
        refine sa1 hL.io ?_
        refine sa1 (beginOf_sp hz (by omega) hL) ?_
        exact hret
    · show fX7_piece M (nn p) (nn w) = _
      unfold fX7_piece
      rw [zlt, pieces7 hRG hwf, ob1_some, q1, nn_sub (by omega), in_nn (by omega) (by omega), ob1_some, if_neg (by rw [if_pos (by omega)]; decide), in_c (by omega) m0 m4, ob1_some, if_neg (by rw [if_pos (by omega)]; decide), beginOf7 hRG hwf hp, ob1_some]
      have h01234 : w = 0 ∨ w = 1 ∨ w = 2 ∨ w = 3 ∨ w = 4 := by omega
      rcases h01234 with rfl | rfl | rfl | rfl | rfl
      · rw [if_pos n00, storeAt_sp hRB hv.1 hon.1 hon.2 (by omega), ob1_some, hsrc, if_pos (show (0 : Nat) = 0 from rfl)]
      · rw [if_neg (by decide), if_pos (by decide), placeAt_sp hRB hv.1 hon.1 hon.2 (by omega), ob1_some, hsrc, if_neg (show ¬ (1 : Nat) = 0 by omega), if_pos (show (1 : Nat) = 1 from rfl)]
      · rw [if_neg (by decide), if_neg (by decide), if_pos (by decide), endOf7 hRG hwf hq, ob1_some, nn_sub (by omega), Nat.add_sub_cancel_left]
        rfl
      · rw [if_neg (by decide), if_neg (by decide), if_neg (by decide), if_pos (by decide), endOf7 hRG hwf hq, ob1_some, breaksAhead7 hRV (by omega), ob1_some, breaksAhead7 hRV (by omega), ob1_some, nn_sub (by omega), hcm, Nat.add_sub_cancel_left, hbr]
        rfl
      · rw [if_neg (by decide), if_neg (by decide), if_neg (by decide), if_neg (by decide), if_pos (by decide)]
        rfl
  · right
    have e7 : fX7_piece M x y = some (0, mI (mI M 0 0) 0 1) := by
      unfold fX7_piece
      rw [zlt, pieces7 hRG hwf, ob1_some]
      rcases nn_or x with hx | ⟨p, hp, rfl⟩
      · rw [in_neg hx]
        rfl
      · by_cases e1 : p < (W s).1.length
        · rw [q1, nn_sub (by omega), in_nn hp (by omega), ob1_some, if_neg (by rw [if_pos (by omega)]; decide)]
          rcases nn_or y with hy | ⟨w, hw, rfl⟩
          · rw [in_neg hy]
            rfl
          · rw [in_c hw m0 m4, ob1_some, if_pos (by rw [if_neg (fun x => hc ⟨p, w, e1, x.2, rfl, rfl⟩)]; rfl)]
            rfl
        · by_cases e0 : (W s).1.length = 0
          · rw [e0, in_sp, if_neg (by rw [z64, nn64 hp]; have : (nn 0 - 1).toInt64.toInt = -1 := rfl; rw [this]; omega), ob1_some]
            rfl
          · rw [q1, nn_sub (by omega), in_nn hp (by omega), ob1_some, if_pos (by rw [if_neg (by omega)]; rfl)]
            rfl
    have e6 : ok (tX6_piece G 0 x y) (fun G1 => ∃ c1 b1 lv1, Cl G1 c1 b1 (3016 * (4 * (k + 1) + a.2.1)) a ro st (s, u, f, lv1) ke pg qg sc W ∧ Fo G c G1 c1) := by
      unfold tX6_piece tX6_piece_b29
      refine sa1 h1.1.r0_4 ?_
      refine sa1 h1.1.io6 ?_
      refine ca2 (current_sp h1 hs) ?_
      rintro r' G1 ⟨c1, b1, lv1, x1, x2, x3, x4⟩
      change Cl G1 c1 b1 _ a ro st (s, u, f, lv1) ke pg qg sc W at x2
      have hL := x2.lf hs x1
      rcases nn_or x with hx | ⟨p, hp, rfl⟩
      · refine ift hx ?_
        exact ok_some ⟨c1, b1, lv1, x2, x3⟩
      · refine ifn (by rw [nn_neg hp]; exact id) ?_
        refine sa1 hL.n2 ?_
        by_cases e1 : (W s).1.length ≤ p
        · refine ift (by rw [nn_le (by omega) hp]; exact e1) ?_
          exact ok_some ⟨c1, b1, lv1, x2, x3⟩
        · refine ifn (by rw [nn_le (by omega) hp]; exact e1) ?_
          rcases nn_or y with hy | ⟨w, hw, rfl⟩
          · refine ift hy ?_
            exact ok_some ⟨c1, b1, lv1, x2, x3⟩
          · refine ifn (by rw [nn_neg hw]; exact id) ?_
            refine ifn (by rw [q4, nn_le hw (by omega)]; exact fun e2 => hc ⟨p, w, by omega, e2, rfl, rfl⟩) ?_
            exact ok_some ⟨c1, b1, lv1, x2, x3⟩
    obtain ⟨G1, e6, c1, b1, lv1, x2, x3⟩ := e6
    refine ⟨G1, e6, x2.thrRoom.1, x2.thrRoom.2, fun O hO1 hO2 _ => ?_⟩
    obtain ⟨A1, B1, e1, e2, hI1⟩ := op_thr (O := O) (M1 := mI (mI M 0 0) 0 1) h2 h3 h1.2.2.2.1 h4 h5 h6 x2 x3 (Mq_i0 M 0) h6.1.2 h6.2.1 hO1 hO2
    exact ⟨0, A1, M, B1, _, e1, e2, e7, rfl, hI1⟩
theorem op_shows : Op_shows Inv := by
  intro k G x hI
  refine op_fin (f6 := fX6_shows G 0 x) (f7 := fun M => fX7_shows M x) hI ?_
  intro c bu a ro st s u f lv ke pg qg sc W M T St kd h1 h5 h6
  obtain ⟨hv, ht⟩ := h5.cur
  have hRB : RBk (mI M 0 0) (W s).1 := h6.2.2.2.1.cg rfl rfl
  have hRV := RV_of hRB (h6.2.2.1.cg rfl rfl rfl rfl : RSt (mI M 0 0) St st.1 st.2.1) hv.1 ht
  have hRV2 : RV (mI (mI M 0 0) 1 0) (sz (W s).1) (fun p => St (srcAt (W s).1 p)) := hRV
  have hs : s < 31 := h5.2.2.2.1.1
  have hz := hv.2.1
  have hmk : RMk M (W s) := h6.2.2.2.2.1
  have hwf := okP_wf hv.1
  have hlen := len_le_sz hwf
  have hon := h5.2.2.1.2
  rcases nn_or x with hx | ⟨p, hp, rfl⟩
  · refine fin0 (-1) h5 h6 ?_ ?_
    · unfold fX6_shows
      refine sa1 h1.1.io0 ?_
      refine page_open h1 h5 (Fo.refl _ _) ?_
      intro G2 c2 b2 lv2 pg2 z1 z2 z3 hPV
      refine sa1 hPV.1 ?_
      refine sa1 (PV.hasn hx) ?_
      refine ift rfl ?_
      exact CQ_ret z1 z3 (by omega) (fun _ => z2)
    · unfold fX7_shows
      rw [zlt, isSign7_neg hx]
      rfl
  · by_cases e : p < sz (W s).1
    · obtain ⟨i, q, j, hq, hj, hpe⟩ := in_piece e
      have hil := (List.getElem?_eq_some_iff.mp hq).1
      have hpc : pcAt (W s).1 p = i := by rw [hpe]; exact pcAt_in hq hj
      have hsr : srcAt (W s).1 p = q.1 + j := by rw [hpe]; exact srcAt_in hq hj
      have hok := hv.1 q (List.mem_of_getElem? hq)
      unfold okQ at hok
      refine fin3 (nn i) (nn j).toInt64 (nn (if q.1 < 1600 then 0 else 1)).toInt64 (nn ((if q.1 < 1600 then q.1 else q.1 - 1600) + j)).toInt64 h6 ?_ ?_
      · unfold fX6_shows
        refine sa1 h1.1.io0 ?_
        refine ca2 (shownPage_sp h1 h5) ?_
        rintro r2 G2 ⟨hr2, c2, b2, lv2, pg2, z1, z2, z3, z4⟩
        change r2 = 20 at hr2
        subst hr2
        change Cl G2 c2 b2 _ (a.1, a.2.1, 0, a.2.2.2) ro st (s, u, f, lv2) ke pg2 qg sc W at z1
        have hPV := PV_of z1.1 z2 hz ht
        refine sa1 hPV.1 ?_
        refine sa1 (hPV.has hp) ?_
        refine ifn (by rw [if_pos e]; decide) ?_
        refine sa1 z1.1.r0_4 ?_
        refine sa1 z1.1.io6 ?_
        refine ca2 (current_sp z1 hs) ?_
        rintro r' G3 ⟨c3, b3, lv3, x1, x2, x3, x4⟩
        change Cl G3 c3 b3 _ (a.1, a.2.1, 0, a.2.2.2) ro st (s, u, f, lv3) ke pg2 qg sc W at x2
        have hPV3 := PV_of x2.1 z2 hz ht
        have hL := x2.lf hs x1
        obtain ⟨hs', hl, hm, ht', cap, fs, fl, fm, ft, a1, a2, a3, a4, a5, a6, a7⟩ := id hL
        refine sa1 hPV3.1 ?_
        refine sa1 (hPV3.2.2.2.2.1 p e) ?_
        rw [hpc]
        refine sa1 hL.io ?_
        refine sa1 (beginOf_sp hz (by omega) hL) ?_
        rw [nn_sub (by omega), show p - sz ((W s).1.take i) = j by omega]
        refine zl ?_
        refine sa1 a1.f0 ?_
        refine sa1 (a1.rS (k := i) (by omega) a6) ?_
        rw [(a2 i q hq).1]
        refine sa1 x2.1.r0_2 ?_
        refine sa1 (storeOf_nn (by omega)) ?_
        refine sa1 (placeInStore6 (by omega)) ?_
        refine sa1 x2.1.io2 ?_
        rw [nn_add, show (if 1600 ≤ q.1 then 1 else 0) = (if q.1 < 1600 then 0 else 1) by split <;> split <;> omega]
        exact CQ_t3 x2 (z3.trans x3) (by omega) (fun _ => z2) _ _ _
      · show fX7_shows M (nn p) = _
        have hRG := RG_of hRB hv.1 hon.1 hon.2
        have hRG2 : RG (mI (mI M 0 0) 1 0) (W s).1 := hRG
        have hRB8 : RBk (tl1 (mI M 0 0) (nn j).toInt64) (W s).1 := hRB.cg rfl rfl
        have hRB10 : RBk (tl2 (mI M 0 0) (nn j).toInt64 (nn (if q.1 < 1600 then 0 else 1)).toInt64) (W s).1 := hRB.cg rfl rfl
        unfold fX7_shows
        rw [zlt, isSign7_sp hRB hp, ob1_some, if_neg (by rw [if_pos e]; decide), beginningsTo7 hRG hwf e, ob1_some, hpc, q1, nn_sub (by omega), Nat.add_sub_cancel, zlt, zlt, beginOf7 hRG2 hwf hil, ob1_some, nn_sub (by omega), show p - sz ((W s).1.take i) = j by omega, tl1_sp, ob1_some, storeAt_sp hRB8 hv.1 hon.1 hon.2 e, ob1_some, hsr, show (if q.1 + j < 1600 then 0 else 1) = (if q.1 < 1600 then 0 else 1) by split <;> split <;> omega, tl2_sp, ob1_some, placeAt_sp hRB10 hv.1 hon.1 hon.2 e, ob1_some, hsr, show (if q.1 + j < 1600 then q.1 + j else q.1 + j - 1600) = (if q.1 < 1600 then q.1 else q.1 - 1600) + j by split <;> split <;> omega, tl3_sp, ob1_some]
    · refine fin0 (-1) h5 h6 ?_ ?_
      · unfold fX6_shows
        refine sa1 h1.1.io0 ?_
        refine page_open h1 h5 (Fo.refl _ _) ?_
        intro G2 c2 b2 lv2 pg2 z1 z2 z3 hPV
        refine sa1 hPV.1 ?_
        refine sa1 (hPV.has hp) ?_
        refine ift (by rw [if_neg e]; rfl) ?_
        exact CQ_ret z1 z3 (by omega) (fun _ => z2)
      · unfold fX7_shows
        rw [zlt, isSign7_sp hRB hp, ob1_some, if_pos (by rw [if_neg e]; rfl)]
