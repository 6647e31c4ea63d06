/-! from -/
def frC (P : PC) (v : Nat) : Nat → Nat
  | 0 => 0
  | k + 1 => frC P v k + if srcAt P k = v then 1 else 0
def frR (f : Nat → Int64) (P : PC) (v : Nat) : Nat → Nat → Int64
  | 0 => f
  | k + 1 => if srcAt P k = v ∧ frC P v k < 12 then vp_updL (frR f P v k) (frC P v k) (nn k).toInt64 else frR f P v k
theorem frC_le (P : PC) (v k : Nat) : frC P v k ≤ k := by
  induction k with
  | zero => simp [frC]
  | succ k ih =>
    simp only [frC]
    split <;> omega
theorem frC_in {P : PC} {i v : Nat} {q : Nat × Nat} (hq : P[i]? = some q) : ∀ j, j ≤ q.2 → frC P v (sz (P.take i) + j) = frC P v (sz (P.take i)) + if q.1 ≤ v ∧ v < q.1 + j then 1 else 0 := by
  intro j
  induction j with
  | zero => intro _; rw [if_neg (by omega)]; rfl
  | succ j ih =>
    intro hj
    show frC P v (sz (P.take i) + j) + (if srcAt P (sz (P.take i) + j) = v then 1 else 0) = _
    rw [ih (by omega), srcAt_in hq (by omega)]
    by_cases e : q.1 + j = v
    · rw [if_pos e, if_neg (by omega), if_pos (by omega)]
    · rw [if_neg e]
      by_cases e2 : q.1 ≤ v ∧ v < q.1 + j
      · rw [if_pos e2, if_pos (by omega)]
      · rw [if_neg e2, if_neg (by omega)]
theorem frR_in {f : Nat → Int64} {P : PC} {i v : Nat} {q : Nat × Nat} (hq : P[i]? = some q) : ∀ j, j ≤ q.2 → frR f P v (sz (P.take i) + j) = if q.1 ≤ v ∧ v < q.1 + j ∧ frC P v (sz (P.take i)) < 12 then vp_updL (frR f P v (sz (P.take i))) (frC P v (sz (P.take i))) (nn (sz (P.take i) + (v - q.1))).toInt64 else frR f P v (sz (P.take i)) := by
  intro j
  induction j with
  | zero => intro _; rw [if_neg (by omega)]; rfl
  | succ j ih =>
    intro hj
    show (if srcAt P (sz (P.take i) + j) = v ∧ frC P v (sz (P.take i) + j) < 12 then vp_updL (frR f P v (sz (P.take i) + j)) (frC P v (sz (P.take i) + j)) (nn (sz (P.take i) + j)).toInt64 else frR f P v (sz (P.take i) + j)) = _
    rw [ih (by omega), srcAt_in hq (by omega), frC_in hq j (by omega)]
    by_cases e : q.1 + j = v
    · rw [if_neg (show ¬ (q.1 ≤ v ∧ v < q.1 + j) by omega), if_neg (show ¬ (q.1 ≤ v ∧ v < q.1 + j ∧ frC P v (sz (P.take i)) < 12) by omega), Nat.add_zero]
      by_cases e2 : frC P v (sz (P.take i)) < 12
      · rw [if_pos ⟨e, e2⟩, if_pos (by omega), show v - q.1 = j by omega]
      · rw [if_neg (by omega), if_neg (by omega)]
    · rw [if_neg (show ¬ (q.1 + j = v ∧ _) from fun x => e x.1)]
      by_cases e2 : q.1 ≤ v ∧ v < q.1 + j ∧ frC P v (sz (P.take i)) < 12
      · rw [if_pos e2, if_pos (by omega)]
      · rw [if_neg e2, if_neg (by omega)]
theorem from6 {G0 : zH} {c0 c1 b1 : Nat → Nat} {N r v : Nat} {a : TA} {f0 : Nat → Int64} {st : TS} {s u f : Nat} {lv : Nat → Option Nat} {ke : TK} {pg qg : TP} {sc : Nat → Int32} {W : Nat → LVa} (hs : s < 31) (hr : lv s = some r) (hv : okV st.1 st.2.1 (W s)) (hon : st.1 ≤ 1600 ∧ st.2.1 ≤ 6000) (hv7 : v < 7600) : ∀ fu i G, i ≤ (W s).1.length → (W s).1.length - i < fu → Cl G c1 b1 N a (min (frC (W s).1 v (sz ((W s).1.take i))) 12, frR f0 (W s).1 v (sz ((W s).1.take i))) st (s, u, f, lv) ke pg qg sc W → Fo G0 c0 G c1 → ok (fX6_from_b59 fu G 0 r (nn v) (nn (frC (W s).1 v (sz ((W s).1.take i)))) (nn (sz ((W s).1.take i))) (nn i)) fun z => z.1 = nn (frC (W s).1 v (sz (W s).1)) ∧ Cl z.2 c1 b1 N a (min (frC (W s).1 v (sz (W s).1)) 12, frR f0 (W s).1 v (sz (W s).1)) st (s, u, f, lv) ke pg qg sc W ∧ Fo G0 c0 z.2 c1 := by
  have hwf := okP_wf hv.1
  have hlen := len_le_sz hwf
  have hz := hv.2.1
  intro fu
  induction fu with
  | zero => intro i G _ h; omega
  | succ fu ih =>
    intro i G hi hfu h1 hf
    have hL := h1.lf hs hr
    obtain ⟨hs', hl, hm, ht', cap, fs, fl, fm, ft, a1, a2, a3, a4, a5, a6, a7⟩ := id hL
    unfold fX6_from_b59
    refine sa1 hL.n2 ?_
    by_cases e : (W s).1.length ≤ i
    · refine ift (by rw [nn_le (by omega) (by omega)]; exact e) ?_
      have hil : i = (W s).1.length := by omega
      subst hil
      rw [List.take_length] at h1 ⊢
      exact ok_some ⟨rfl, h1, hf⟩
    · refine ifn (by rw [nn_le (by omega) (by omega)]; exact e) ?_
      obtain ⟨q, hq⟩ : ∃ q, (W s).1[i]? = some q := ⟨(W s).1[i], List.getElem?_eq_getElem (by omega)⟩
      have hok := hv.1 q (List.mem_of_getElem? hq)
      unfold okQ at hok
      have hqv := a2 i q hq
      have hst := sz_take_in hq
      have hsl := sz_take_le (W s).1 (i + 1)
      have hfl := frC_le (W s).1 v (sz ((W s).1.take i))
      have hfc := frC_in (v := v) hq q.2 (Nat.le_refl _)
      have hfr := frR_in (f := f0) (v := v) hq q.2 (Nat.le_refl _)
      rw [← hst] at hfc hfr
      refine sa1 a1.f0 ?_
      refine sa1 (a1.rS (k := i) (by omega) a6) ?_
      rw [hqv.1, nn_ii v, nn_ii q.1, ii_sub]
      refine zl ?_
      have b120 : ∀ G' n', n' = frC (W s).1 v (sz ((W s).1.take (i + 1))) → Cl G' c1 b1 N a (min (frC (W s).1 v (sz ((W s).1.take (i + 1)))) 12, frR f0 (W s).1 v (sz ((W s).1.take (i + 1)))) st (s, u, f, lv) ke pg qg sc W → Fo G0 c0 G' c1 → ok (fX6_from_b120 (fX6_from_b59 fu) G' 0 r (ii v) (nn n') (nn (sz ((W s).1.take i))) (nn i)) fun z => z.1 = nn (frC (W s).1 v (sz (W s).1)) ∧ Cl z.2 c1 b1 N a (min (frC (W s).1 v (sz (W s).1)) 12, frR f0 (W s).1 v (sz (W s).1)) st (s, u, f, lv) ke pg qg sc W ∧ Fo G0 c0 z.2 c1 := by
        intro G' n' hn' h' hf'
        have hL' := h'.lf hs hr
        obtain ⟨hs'', hl', hm', ht'', cap', fs', fl', fm', ft', a1', a2', a3', a4', a5', a6', a7'⟩ := id hL'
        unfold fX6_from_b120
        refine sa1 a1'.f1 ?_
        refine sa1 (a1'.rL (k := i) (by omega) a6') ?_
        rw [(a2' i q hq).2, nn_add, ← hst, q1, nn_add, hn', ii_nn]
        refine zl ?_
        refine zl ?_
        exact ih (i + 1) G' (by omega) (by omega) h' hf'
      by_cases e1 : v < q.1
      · refine ift (by rw [q0, ii_lt_nn (by omega) (by omega)]; omega) ?_
        rw [if_neg (by omega), Nat.add_zero] at hfc
        rw [if_neg (by omega)] at hfr
        refine b120 G _ hfc.symm ?_ hf
        rw [hfc, hfr]
        exact h1
      · refine ifn (by rw [q0, ii_lt_nn (by omega) (by omega)]; omega) ?_
        rw [show ((v : Nat) : Int) - (q.1 : Int) = ((v - q.1 : Nat) : Int) by omega, ii_nn (v - q.1)]
        refine sa1 a1.f1 ?_
        refine sa1 (a1.rL (k := i) (by omega) a6) ?_
        rw [hqv.2]
        by_cases e2 : q.2 ≤ v - q.1
        · refine ift (by rw [nn_le (by omega) (by omega)]; exact e2) ?_
          rw [if_neg (by omega), Nat.add_zero] at hfc
          rw [if_neg (by omega)] at hfr
          refine b120 G _ hfc.symm ?_ hf
          rw [hfc, hfr]
          exact h1
        · refine ifn (by rw [nn_le (by omega) (by omega)]; exact e2) ?_
          rw [if_pos (by omega)] at hfc
          by_cases e3 : 12 ≤ frC (W s).1 v (sz ((W s).1.take i))
          · refine ift (by rw [q12, nn_le (by omega) (by omega)]; exact e3) ?_
            unfold fX6_from_b117
            rw [q1, nn_add]
            refine zl ?_
            rw [if_neg (by omega)] at hfr
            refine b120 G _ hfc.symm ?_ hf
            rw [hfc, hfr, show min (frC (W s).1 v (sz ((W s).1.take i)) + 1) 12 = min (frC (W s).1 v (sz ((W s).1.take i))) 12 by omega]
            exact h1
          · refine ifn (by rw [q12, nn_le (by omega) (by omega)]; exact e3) ?_
            refine sa1 h1.1.r0_2 ?_
            refine sa1 h1.1.io2 ?_
            rw [nn_add]
            refine ca1 (add5_sp h1.1 h1.2.2.1 0 _ (by show min _ 12 < 16; omega)) ?_
            rintro G2 ⟨g1, g2⟩
            have h2 := h1.fx g1 g2 rfl rfl
            unfold fX6_from_b117
            rw [q1, nn_add]
            refine zl ?_
            rw [if_pos (by omega)] at hfr
            refine b120 G2 _ hfc.symm ?_ (hf.trans (g2.1.fo (by omega)))
            rw [hfc, hfr]
            have e5 : min (frC (W s).1 v (sz ((W s).1.take i))) 12 = frC (W s).1 v (sz ((W s).1.take i)) := by omega
            rw [e5] at h2
            rw [show min (frC (W s).1 v (sz ((W s).1.take i)) + 1) 12 = frC (W s).1 v (sz ((W s).1.take i)) + 1 by omega]
            exact h2
theorem from7 {M0 : MS} {P : PC} {St : Nat → Nat} {on an sI kk ts : Nat} {f0 : Nat → Int64} (hk : okP on an P) (hon : on ≤ 1600) (han : an ≤ 6000) (hsI : sI ≤ 1) (hkk : kk < if sI = 0 then on else an) : ∀ fu k M, k ≤ sz P → sz P - k < fu → RBk M P → RRo M (min (frC P (bas sI + kk) k) 12, frR f0 P (bas sI + kk) k) → Mq M0 M → M.1 4 = nn ts → ∃ M1, fX7_from_b44 fu M (nn sI) (nn kk) (nn (frC P (bas sI + kk) k)) (nn k) = some (nn (frC P (bas sI + kk) (sz P)), M1) ∧ RRo M1 (min (frC P (bas sI + kk) (sz P)) 12, frR f0 P (bas sI + kk) (sz P)) ∧ Mq M0 M1 ∧ M1.1 4 = nn ts := by
  intro fu
  induction fu with
  | zero => intro k M _ h; omega
  | succ fu ih =>
    intro k M hk' hfu hB hro hq h4
    have hz := hB.2.1
    have hfl := frC_le P (bas sI + kk) k
    unfold fX7_from_b44
    rw [hB.1, if_le (by omega) (by omega)]
    by_cases e : sz P ≤ k
    · rw [if_pos e]
      have : k = sz P := by omega
      subst this
      exact ⟨M, rfl, hro, hq, h4⟩
    · rw [if_neg e, storeAt_sp hB hk hon han (by omega), ob1_some]
      have hsl := src_lt hk hon han (show k < sz P by omega)
      have hc1 : frC P (bas sI + kk) (k + 1) = frC P (bas sI + kk) k + if srcAt P k = bas sI + kk then 1 else 0 := rfl
      have hr1 : frR f0 P (bas sI + kk) (k + 1) = if srcAt P k = bas sI + kk ∧ frC P (bas sI + kk) k < 12 then vp_updL (frR f0 P (bas sI + kk) k) (frC P (bas sI + kk) k) (nn k).toInt64 else frR f0 P (bas sI + kk) k := rfl
      have b98 : ∀ M' j, j ≤ 1 → frC P (bas sI + kk) (k + 1) = frC P (bas sI + kk) k + j → RBk M' P → RRo M' (min (frC P (bas sI + kk) (k + 1)) 12, frR f0 P (bas sI + kk) (k + 1)) → Mq M0 M' → M'.1 4 = nn ts → ∃ M1, fX7_from_b98 (fX7_from_b44 fu) M' (nn sI) (nn kk) (nn (frC P (bas sI + kk) k)) (nn k) (nn j) = some (nn (frC P (bas sI + kk) (sz P)), M1) ∧ RRo M1 (min (frC P (bas sI + kk) (sz P)) 12, frR f0 P (bas sI + kk) (sz P)) ∧ Mq M0 M1 ∧ M1.1 4 = nn ts := by
        intro M' j hj hcj hB' hro' hq' h4'
        unfold fX7_from_b98
        rw [flag_nn hj, ob1_some, nn_add, zlt, zlt, q1, nn_add, ← hcj]
        exact ih (k + 1) M' (by omega) (by omega) hB' hro' hq' h4'
      have miss : ¬ srcAt P k = bas sI + kk → ∃ M1, fX7_from_b77 (fX7_from_b44 fu) M (nn sI) (nn kk) (nn (frC P (bas sI + kk) k)) (nn k) = some (nn (frC P (bas sI + kk) (sz P)), M1) ∧ RRo M1 (min (frC P (bas sI + kk) (sz P)) 12, frR f0 P (bas sI + kk) (sz P)) ∧ Mq M0 M1 ∧ M1.1 4 = nn ts := by
        intro hne
        rw [if_neg hne, Nat.add_zero] at hc1
        rw [if_neg (fun x => hne x.1)] at hr1
        unfold fX7_from_b77 fX7_from_b78
        rw [if_pos rfl]
        refine b98 M 0 (by omega) hc1 hB ?_ hq h4
        rw [hc1, hr1]
        exact hro
      have hsrc : srcAt P k = bas sI + kk ↔ (if srcAt P k < 1600 then 0 else 1) = sI ∧ (if srcAt P k < 1600 then srcAt P k else srcAt P k - 1600) = kk := by
        have h01 : sI = 0 ∨ sI = 1 := by omega
        rcases h01 with rfl | rfl
        · have hk1 : kk < on := hkk
          show srcAt P k = 0 + kk ↔ _
          split <;> omega
        · have hk1 : kk < an := hkk
          show srcAt P k = 1600 + kk ↔ _
          split <;> omega
      by_cases e1 : (if srcAt P k < 1600 then 0 else 1) = sI
      · rw [if_pos (by rw [e1]), placeAt_sp hB hk hon han (by omega), ob1_some]
        by_cases e2 : (if srcAt P k < 1600 then srcAt P k else srcAt P k - 1600) = kk
        · have hit := hsrc.mpr ⟨e1, e2⟩
          rw [if_pos (by rw [e2])]
          rw [if_pos hit] at hc1
          unfold fX7_from_b78
          rw [if_neg (by decide), q12, if_le (by omega) (by omega)]
          by_cases e3 : 12 ≤ frC P (bas sI + kk) k
          · rw [if_pos e3]
            rw [if_neg (by omega)] at hr1
            refine b98 M 1 (by omega) hc1 hB ?_ hq h4
            rw [hc1, hr1, show min (frC P (bas sI + kk) k + 1) 12 = min (frC P (bas sI + kk) k) 12 by omega]
            exact hro
          · rw [if_neg e3]
            rw [if_pos ⟨hit, by omega⟩] at hr1
            have e5 : min (frC P (bas sI + kk) k) 12 = frC P (bas sI + kk) k := by omega
            rw [e5] at hro
            rw [enters_sp hro.1 (by show frC P (bas sI + kk) k < 24; omega), ob1_some]
            refine b98 (en M (frC P (bas sI + kk) k) (nn k).toInt64) 1 (by omega) hc1 (hB.cg rfl rfl) ?_ (hq.en _ _) h4
            rw [hc1, hr1, show min (frC P (bas sI + kk) k + 1) 12 = frC P (bas sI + kk) k + 1 by omega]
            exact hro.en _
        · have hkb : kk < 2147483648 := by split at hkk <;> omega
          rw [if_neg (by rw [nn_eq (by split <;> omega) hkb]; exact e2)]
          exact miss (fun h => e2 (hsrc.mp h).2)
      · rw [if_neg (by rw [nn_eq (by split <;> omega) (by omega)]; exact e1)]
        exact miss (fun h => e1 (hsrc.mp h).1)
theorem op_from : Op_from Inv := by
  intro k G x y hI
  refine op_fin (f6 := fX6_from G 0 x y) (f7 := fun M => fX7_from M x y) hI ?_
  intro c bu a ro st s u f lv ke pg qg sc W M T St kd h1 h5 h6
  obtain ⟨hv, ht⟩ := h5.cur
  have hRB : RBk (mI M 0 0) (W s).1 := h6.2.2.2.1.cg rfl rfl
  have hRV := RV_of hRB (h6.2.2.1.cg rfl rfl rfl rfl : RSt (mI M 0 0) St st.1 st.2.1) hv.1 ht
  have hRV2 : RV (mI (mI M 0 0) 1 0) (sz (W s).1) (fun p => St (srcAt (W s).1 p)) := hRV
  have hs : s < 31 := h5.2.2.2.1.1
  have hz := hv.2.1
  have hmk : RMk M (W s) := h6.2.2.2.2.1
  have hon := h5.2.2.1.2
  have hRS : RSt (mI M 0 0) St st.1 st.2.1 := h6.2.2.1.cg rfl rfl rfl rfl
  have m0 : (0 : Int64).toInt = (0 : Nat) := rfl
  have m1 : (1 : Int64).toInt = (1 : Nat) := rfl
  by_cases hc : ∃ p w, p ≤ 1 ∧ w < (if p = 0 then st.1 else st.2.1) ∧ x = nn p ∧ y = nn w
  · obtain ⟨p, w, hp, hw, rfl, rfl⟩ := hc
    have hN : (if p = 0 then st.1 else st.2.1) ≤ 6000 := by split <;> omega
    have hv7 : bas p + w < 7600 := by
      have h01 : p = 0 ∨ p = 1 := by omega
      rcases h01 with rfl | rfl
      · have hw' : w < st.1 := hw
        show 0 + w < 7600
        omega
      · have hw' : w < st.2.1 := hw
        show 1600 + w < 7600
        omega
    obtain ⟨M1, r1, r2, r3, r4⟩ := from7 (M0 := M) (St := St) (f0 := ro.2) (ts := a.2.1) hv.1 hon.1 hon.2 hp hw FU 0 (mI (mI M 0 0) 1 0) (by omega) (by rw [FU_eq]; omega) (hRB.cg rfl rfl) (RRo.zero _ _) (Mq_i0 M 0) h6.1.2
    refine ⟨nn (frC (W s).1 (bas p + w) (sz (W s).1)), (min (frC (W s).1 (bas p + w) (sz (W s).1)) 12, frR ro.2 (W s).1 (bas p + w) (sz (W s).1)), a.2.1, M1, Nat.le_refl _, by show min _ 12 ≤ 16; omega, ?_, ?_, r3, r4, r2⟩
    · unfold fX6_from
      refine ifn (by rw [nn_neg (by omega)]; exact id) ?_
      refine ifn (by rw [q1, nn_lt (by omega) (by omega)]; omega) ?_
      refine ifn (by rw [nn_neg (by omega)]; exact id) ?_
      refine sa1 h1.1.r0_3 ?_
      refine sa1 h1.1.io4 ?_
      refine sa1 (sizeOf_sp h1.1 hp) ?_
      refine ift (by rw [nn_lt (by omega) (by omega)]; exact hw) ?_
      refine sa1 h1.1.r0_4 ?_
      refine sa1 h1.1.io6 ?_
      refine ca2 (current_sp h1 hs) ?_
      rintro r' G1 ⟨c1, b1, lv1, x1, x2, x3, x4⟩
      change Cl G1 c1 b1 _ a ro st (s, u, f, lv1) ke pg qg sc W at x2
      refine sa1 (baseOf6 hp) ?_
      rw [nn_add]
      refine zl ?_
      refine sa1 x2.1.r0_2 ?_
      refine sa1 x2.1.io2 ?_
      refine ca1 (clear5_sp x2.1 x2.2.2.1 0) ?_
      rintro G3 ⟨g1, g2⟩
      rw [q0]
      refine ok_imp (from6 (f0 := ro.2) hs x1 hv hon hv7 FU 0 G3 (by omega) (by have := len_le_sz (okP_wf hv.1); rw [FU_eq]; omega) (x2.fx g1 g2 rfl rfl) (x3.trans (g2.1.fo (by omega)))) ?_
      rintro z ⟨w1, w2, w3⟩
      exact ⟨w1, c1, b1, lv1, a.2.2.1, pg, qg, sc, w2, w3, h5.2.1.2.1, h5.2.2.2.2.2.2⟩
    · show fX7_from M (nn p) (nn w) = _
      unfold fX7_from
      rw [zlt, in_c (by omega) m0 m1, ob1_some, if_neg (by rw [if_pos (by omega)]; decide), storeMany7 hRS hp, ob1_some, q1, nn_sub (by omega), in_nn (by omega) (by omega), ob1_some, if_neg (by rw [if_pos (by omega)]; decide), zlt]
      exact r1
  · refine fin0 (-1) h5 h6 ?_ ?_
    · unfold fX6_from
      rcases nn_or x with hx | ⟨p, hp, rfl⟩
      · refine ift hx ?_
        exact ret0 h1 h5
      · refine ifn (by rw [nn_neg hp]; exact id) ?_
        by_cases e1 : 1 < p
        · refine ift (by rw [q1, nn_lt (by omega) hp]; exact e1) ?_
          exact ret0 h1 h5
        · refine ifn (by rw [q1, nn_lt (by omega) hp]; exact e1) ?_
          rcases nn_or y with hy | ⟨w, hw, rfl⟩
          · refine ift hy ?_
            exact ret0 h1 h5
          · have hN : (if p = 0 then st.1 else st.2.1) ≤ 6000 := by split <;> omega
            refine ifn (by rw [nn_neg hw]; exact id) ?_
            refine sa1 h1.1.r0_3 ?_
            refine sa1 h1.1.io4 ?_
            refine sa1 (sizeOf_sp h1.1 (by omega)) ?_
            refine ifn (by rw [nn_lt hw (by omega)]; exact fun e2 => hc ⟨p, w, by omega, e2, rfl, rfl⟩) ?_
            exact ret0 h1 h5
    · show fX7_from M x y = _
      unfold fX7_from
      rw [zlt]
      rcases nn_or x with hx | ⟨p, hp, rfl⟩
      · rw [in_neg hx]
        rfl
      · rw [in_c hp m0 m1, ob1_some]
        by_cases e1 : 0 ≤ p ∧ p ≤ 1
        · have hN : (if p = 0 then st.1 else st.2.1) ≤ 6000 := by split <;> omega
          rw [if_neg (by rw [if_pos e1]; decide), storeMany7 hRS e1.2, ob1_some]
          rcases nn_or y with hy | ⟨w, hw, rfl⟩
          · rw [in_neg hy]
            rfl
          · have hnw : ¬ w < (if p = 0 then st.1 else st.2.1) := fun e2 => hc ⟨p, w, e1.2, e2, rfl, rfl⟩
            generalize (if p = 0 then st.1 else st.2.1) = NN at *
            by_cases e0 : NN = 0
            · rw [e0, in_sp, if_neg (by rw [z64, nn64 hw]; have : (nn 0 - 1).toInt64.toInt = -1 := rfl; rw [this]; omega), ob1_some]
              rfl
            · rw [q1, nn_sub (by omega), in_nn hw (by omega), ob1_some, if_pos (by rw [if_neg (by omega)]; rfl)]
        · rw [if_pos (by rw [if_neg e1]; rfl)]
