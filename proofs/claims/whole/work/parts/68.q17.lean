/-! healable -/
theorem nn_ne_neg {a : Nat} (h : a < 2147483648) : ¬ nn a = (-1 : Int32) := by
  intro e
  have := nn_neg h
  rw [e] at this
  exact absurd (show (-1 : Int32) < 0 by decide) (by rw [this]; exact id)
def hbF (P : PC) : Nat → Nat × Nat
  | 0 => (0, 0)
  | i + 1 => match P[i]? with
    | some q => if (hbF P i).2 < q.2 then (i, q.2) else hbF P i
    | none => hbF P i
theorem hbF_succ {P : PC} {i : Nat} {q : Nat × Nat} (hq : P[i]? = some q) : hbF P (i + 1) = if (hbF P i).2 < q.2 then (i, q.2) else hbF P i := by
  simp only [hbF, hq]
theorem hbF_at {P : PC} (hw : wfP P) (i : Nat) (h1 : 1 ≤ i) (hi : i ≤ P.length) : (hbF P i).1 < i ∧ ∃ q, P[(hbF P i).1]? = some q ∧ q.2 = (hbF P i).2 := by
  induction i with
  | zero => omega
  | succ i ih =>
    obtain ⟨q, hq⟩ : ∃ q, P[i]? = some q := ⟨P[i], List.getElem?_eq_getElem (by omega)⟩
    have hq2 : 1 ≤ q.2 := hw q (List.mem_of_getElem? hq)
    rw [hbF_succ hq]
    by_cases e : (hbF P i).2 < q.2
    · rw [if_pos e]
      exact ⟨by show i < i + 1; omega, q, hq, rfl⟩
    · rw [if_neg e]
      by_cases e0 : i = 0
      · subst e0
        exact absurd (show (hbF P 0).2 < q.2 by show 0 < q.2; omega) e
      · obtain ⟨w1, w2⟩ := ih (by omega) (by omega)
        exact ⟨by omega, w2⟩
theorem hbF_le {P : PC} (i : Nat) : (hbF P i).2 ≤ sz P := by
  induction i with
  | zero => exact Nat.zero_le _
  | succ i ih =>
    by_cases e : i < P.length
    · obtain ⟨q, hq⟩ : ∃ q, P[i]? = some q := ⟨P[i], List.getElem?_eq_getElem e⟩
      rw [hbF_succ hq]
      have := sz_take_in hq
      have := sz_take_le P (i + 1)
      split
      · show q.2 ≤ sz P
        omega
      · exact ih
    · have hq : P[i]? = none := List.getElem?_eq_none (by omega)
      simp only [hbF, hq]
      exact ih
theorem healable6 {G : zH} {c : Nat → Nat} {j r b sgn : Nat} {P : PC} {mk : Nat → Int} {st : Nat → Nat} (h : LfS G c j r b P sgn mk st) (hw : wfP P) (hz : sz P ≤ 3000) : ∀ fu i, i ≤ P.length → P.length - i < fu → fX6_healable_b12 fu G 0 r (bI i (hbF P i).1) (nn i) = fX6_healable_b48 G 0 r (bI P.length (hbF P P.length).1) := by
  obtain ⟨hs', hl, hm', ht', cap, fs, fl, fm, ft, a1, a2, a3, a4, a5, a6, a7⟩ := id h
  have hlen := len_le_sz hw
  intro fu
  induction fu with
  | zero => intro i _ h; omega
  | succ fu ih =>
    intro i hi hfu
    unfold fX6_healable_b12
    rw [h.n2, ob1_some, if_le (by omega) (by omega)]
    by_cases e : P.length ≤ i
    · rw [if_pos e, show i = P.length by omega]
    · rw [if_neg e]
      obtain ⟨q, hq⟩ : ∃ q, P[i]? = some q := ⟨P[i], List.getElem?_eq_getElem (by omega)⟩
      have hq2 : 1 ≤ q.2 := hw q (List.mem_of_getElem? hq)
      have hst := sz_take_in hq
      have hsl := sz_take_le P (i + 1)
      have hih := ih (i + 1) (by omega) (by omega)
      rw [hbF_succ hq] at hih
      have hb1 : ∀ v, bI (i + 1) v = nn v := fun v => if_neg (by omega)
      unfold fX6_healable_b40 fX6_healable_b42
      by_cases e0 : i = 0
      · subst e0
        rw [if_pos (show (hbF P 0).2 < q.2 by show 0 < q.2; omega), hb1] at hih
        rw [if_pos (show bI 0 (hbF P 0).1 = -1 from rfl), zlt, q1, nn_add]
        exact hih
      · have hb : bI i (hbF P i).1 = nn (hbF P i).1 := if_neg e0
        obtain ⟨w1, q', w2, w3⟩ := hbF_at hw i (by omega) (by omega)
        have hm1 : ¬ nn (hbF P i).1 = -1 := nn_ne_neg (by omega)
        have hle := hbF_le (P := P) i
        rw [hb, if_neg hm1, a1.f1, ob1_some, a1.rL (k := i) (by omega) a6, ob1_some, ob1_some, a1.rL (k := (hbF P i).1) (by omega) a6, ob1_some, (a2 i q hq).2, (a2 _ q' w2).2, w3, if_le (by omega) (by omega)]
        by_cases e2 : q.2 ≤ (hbF P i).2
        · rw [if_neg (by omega), hb1] at hih
          rw [if_pos e2, zlt, q1, nn_add]
          exact hih
        · rw [if_pos (by omega), hb1] at hih
          rw [if_neg e2, zlt, q1, nn_add]
          exact hih
theorem healable7 {M : MS} {P : PC} (h : RG M P) (hw : wfP P) : ∀ fu i, i ≤ P.length → P.length - i < fu → fX7_healable_b14 fu M (bI i (hbF P i).1) (nn (hbF P i).2) (nn i) (nn (sz (P.take i))) = fX7_healable_b70 M (bI P.length (hbF P P.length).1) := by
  have hlen := len_le_sz hw
  intro fu
  induction fu with
  | zero => intro i _ h; omega
  | succ fu ih =>
    intro i hi hfu
    have hz := h.2.1
    unfold fX7_healable_b14
    rw [h.1, if_le (by omega) (by have := sz_take_le P i; omega)]
    by_cases e : P.length ≤ i
    · have : i = P.length := by omega
      subst this
      rw [List.take_length, if_pos (Nat.le_refl _)]
    · obtain ⟨q, hq⟩ : ∃ q, P[i]? = some q := ⟨P[i], List.getElem?_eq_getElem (by omega)⟩
      have hq2 : 1 ≤ q.2 := hw q (List.mem_of_getElem? hq)
      have hst := sz_take_in hq
      have hsl := sz_take_le P (i + 1)
      have hih := ih (i + 1) (by omega) (by omega)
      have hle := hbF_le (P := P) i
      have hb1 : ∀ v, bI (i + 1) v = nn v := fun v => if_neg (by omega)
      rw [hbF_succ hq, hb1, hst] at hih
      rw [if_neg (show ¬ sz P ≤ sz (P.take i) by omega), endOf7 h hw hq, ob1_some, nn_sub (by omega), Nat.add_sub_cancel_left, if_le (by omega) (by omega)]
      unfold fX7_healable_b41
      rw [endOf7 h hw hq, ob1_some, ob1_some, nn_sub (by omega), Nat.add_sub_cancel_left, if_lt (by omega) (by omega), q1, nn_add, zlt, zlt]
      by_cases e2 : q.2 ≤ (hbF P i).2
      · rw [if_neg (show ¬ (hbF P i).2 < q.2 by omega)] at hih
        rw [if_pos e2, if_neg (show ¬ (hbF P i).2 < q.2 by omega)]
        by_cases e0 : i = 0
        · subst e0
          exact absurd e2 (by show ¬ q.2 ≤ 0; omega)
        · rw [show bI i (hbF P i).1 = nn (hbF P i).1 from if_neg e0]
          exact hih
      · rw [if_pos (show (hbF P i).2 < q.2 by omega)] at hih
        rw [if_neg e2, if_pos (show (hbF P i).2 < q.2 by omega)]
        exact hih
theorem st_eq (a b : Nat) : ((if a < 1600 then 0 else 1) = (if b < 1600 then (0 : Nat) else 1)) ↔ (a < 1600 ↔ b < 1600) := by
  split <;> split <;> omega
theorem st_eq' (a b : Nat) : ((if 1600 ≤ a then 1 else 0) = (if 1600 ≤ b then (1 : Nat) else 0)) ↔ (a < 1600 ↔ b < 1600) := by
  split <;> split <;> omega
theorem pl_eq {a b : Nat} (h : a < 1600 ↔ b < 1600) : ((if a < 1600 then a else a - 1600) = (if b < 1600 then b else b - 1600) + 1) ↔ a = b + 1 := by
  by_cases ha : a < 1600 <;> by_cases hb : b < 1600 <;> simp only [ha, hb, ↓reduceIte] <;> omega
def hl (P : PC) (p : Nat) : Nat := if 1 ≤ p ∧ bgAt P p = 1 ∧ (srcAt P p < 1600 ↔ srcAt P (p - 1) < 1600) ∧ srcAt P p = srcAt P (p - 1) + 1 then 1 else 0
def hlC (P : PC) : Nat → Nat
  | 0 => 0
  | k + 1 => hlC P k + hl P k
theorem hl_le (P : PC) (p : Nat) : hl P p ≤ 1 := by
  unfold hl
  split
  · exact Nat.le_refl _
  · exact Nat.zero_le _
theorem hlC_le (P : PC) (k : Nat) : hlC P k ≤ k := by
  induction k with
  | zero => exact Nat.le_refl _
  | succ k ih =>
    have := hl_le P k
    show hlC P k + hl P k ≤ k + 1
    omega
theorem isHealable7 {M : MS} {P : PC} {on an p : Nat} (h : RBk M P) (hk : okP on an P) (hon : on ≤ 1600) (han : an ≤ 6000) (hp : p < sz P) : fX7_isHealable M (nn p) = some (nn (hl P p)) := by
  have hz := h.2.1
  unfold fX7_isHealable hl
  rw [q0, if_le (by omega) (by omega)]
  by_cases e0 : p ≤ 0
  · rw [if_pos e0, if_neg (show ¬ (1 ≤ p ∧ _) by rintro ⟨x, -⟩; omega)]
  · rw [if_neg e0, begins_sp h hk hon han hp, ob1_some]
    have hb := bgAt_le P p
    rw [if_eq (by omega) (by omega)]
    by_cases e1 : bgAt P p = 0
    · rw [if_pos e1, if_neg (show ¬ (1 ≤ p ∧ _) by rintro ⟨-, x, -⟩; omega)]
    · have s1 := src_lt hk hon han hp
      have s2 := src_lt hk hon han (show p - 1 < sz P by omega)
      rw [if_neg e1, storeAt_sp h hk hon han hp, ob1_some, q1, nn_sub (by omega), storeAt_sp h hk hon han (by omega), ob1_some, if_eq (by split <;> omega) (by split <;> omega)]
      by_cases e2 : srcAt P p < 1600 ↔ srcAt P (p - 1) < 1600
      · rw [if_pos ((st_eq _ _).mpr e2), placeAt_sp h hk hon han hp, ob1_some, placeAt_sp h hk hon han (by omega), ob1_some, nn_add, if_eq (by split <;> omega) (by split <;> omega)]
        by_cases e3 : srcAt P p = srcAt P (p - 1) + 1
        · rw [if_pos (show 1 ≤ p ∧ _ from ⟨by omega, by omega, e2, e3⟩), if_pos ((pl_eq e2).mpr e3)]
        · rw [if_neg (show ¬ (1 ≤ p ∧ _) by rintro ⟨-, -, -, x⟩; exact e3 x), if_neg (fun x => e3 ((pl_eq e2).mp x))]
      · rw [if_neg (fun x => e2 ((st_eq _ _).mp x)), if_neg (show ¬ (1 ≤ p ∧ _) by rintro ⟨-, -, x, -⟩; exact e2 x)]
theorem healables7 {M : MS} {P : PC} {on an : Nat} (h : RBk M P) (hk : okP on an P) (hon : on ≤ 1600) (han : an ≤ 6000) : fX7_healables M = some (nn (hlC P (sz P))) := by
  have hz := h.2.1
  have key : ∀ fu p, p ≤ sz P → sz P - p < fu → fX7_healables_b4 M fu (nn (hlC P p)) (nn p) = some (nn (hlC P (sz P))) := by
    intro fu
    induction fu with
    | zero => intro p _ h; omega
    | succ fu ih =>
      intro p hp hfu
      unfold fX7_healables_b4
      rw [h.1, if_le (by omega) (by omega)]
      by_cases e : sz P ≤ p
      · rw [if_pos e, show p = sz P by omega]
      · rw [if_neg e, isHealable7 h hk hon han (by omega), ob1_some, flag_nn (hl_le P p), ob1_some, nn_add, zlt, q1, nn_add, zlt]
        exact ih (p + 1) (by omega) (by omega)
  unfold fX7_healables
  rw [q0]
  exact key FU 0 (by omega) (by rw [FU_eq]; omega)
theorem hlC_in {P : PC} {i : Nat} {q : Nat × Nat} (hq : P[i]? = some q) (j : Nat) (h1 : 1 ≤ j) (h2 : j ≤ q.2) : hlC P (sz (P.take i) + j) = hlC P (sz (P.take i)) + hl P (sz (P.take i)) := by
  induction j with
  | zero => omega
  | succ j ih =>
    by_cases e : j = 0
    · subst e; rfl
    · show hlC P (sz (P.take i) + j) + hl P (sz (P.take i) + j) = _
      rw [ih (by omega) (by omega)]
      have hb := bgAt_in hq (j := j) (by omega)
      rw [if_neg e] at hb
      have : hl P (sz (P.take i) + j) = 0 := by
        unfold hl
        rw [if_neg (by rintro ⟨-, x, -⟩; omega)]
      omega
theorem hlC_brd {P : PC} {on an : Nat} (hk : okP on an P) (hon : on ≤ 1600) (i : Nat) (hi : i ≤ P.length) : hlC P (sz (P.take i)) = brdK P i := by
  have hw := okP_wf hk
  induction i with
  | zero => rfl
  | succ i ih =>
    obtain ⟨q, hq⟩ : ∃ q, P[i]? = some q := ⟨P[i], List.getElem?_eq_getElem (by omega)⟩
    have hq2 : 1 ≤ q.2 := hw q (List.mem_of_getElem? hq)
    rw [sz_take_in hq, hlC_in hq q.2 hq2 (Nat.le_refl _), ih (by omega)]
    simp only [brdK, hq]
    congr 1
    by_cases e0 : i = 0
    · subst e0
      rw [hq]
      show hl P 0 = if 1 ≤ 0 ∧ _ then 1 else 0
      rw [if_neg (by rintro ⟨x, -⟩; omega)]
      rfl
    · obtain ⟨q', hq'⟩ : ∃ q, P[i - 1]? = some q := ⟨P[i - 1], List.getElem?_eq_getElem (by omega)⟩
      have hq3 : 1 ≤ q'.2 := hw q' (List.mem_of_getElem? hq')
      have hok' := hk q' (List.mem_of_getElem? hq')
      unfold okQ at hok'
      have ht := sz_take_in hq'
      rw [show i - 1 + 1 = i by omega] at ht
      have hs1 := srcAt_in hq (j := 0) (by omega)
      rw [Nat.add_zero, Nat.add_zero] at hs1
      have hb1 := bgAt_in hq (j := 0) (by omega)
      rw [Nat.add_zero, if_pos rfl] at hb1
      have hs2 := srcAt_in hq' (j := q'.2 - 1) (by omega)
      rw [show sz (P.take (i - 1)) + (q'.2 - 1) = sz (P.take i) - 1 by omega] at hs2
      rw [hq']
      show hl P _ = if 1 ≤ i ∧ gon q' q then 1 else 0
      unfold hl
      rw [hs1, hs2, hb1]
      have hiff : (1 ≤ sz (P.take i) ∧ 1 = 1 ∧ (q.1 < 1600 ↔ q'.1 + (q'.2 - 1) < 1600) ∧ q.1 = q'.1 + (q'.2 - 1) + 1) ↔ (1 ≤ i ∧ gon q' q) := by
        unfold gon
        rw [st_eq']
        omega
      by_cases e1 : 1 ≤ i ∧ gon q' q
      · rw [if_pos e1, if_pos (hiff.mpr e1)]
      · rw [if_neg e1, if_neg (fun x => e1 (hiff.mp x))]
theorem op_healable : Op_healable Inv := by
  intro k G  hI
  refine op_fin (f6 := fX6_healable G 0 ) (f7 := fun M => fX7_healable M ) hI ?_
  intro c bu a ro st s u f lv ke pg qg sc W M T St kd h1 h5 h6
  obtain ⟨hv, ht⟩ := h5.cur
  have hRB : RBk (mI M 0 0) (W s).1 := h6.2.2.2.1.cg rfl rfl
  have hRV := RV_of hRB (h6.2.2.1.cg rfl rfl rfl rfl : RSt (mI M 0 0) St st.1 st.2.1) hv.1 ht
  have hRV2 : RV (mI (mI M 0 0) 1 0) (sz (W s).1) (fun p => St (srcAt (W s).1 p)) := hRV
  have hs : s < 31 := h5.2.2.2.1.1
  have hz := hv.2.1
  have hmk : RMk M (W s) := h6.2.2.2.2.1
  have hon := h5.2.2.1.2
  have hwf := okP_wf hv.1
  have hlen := len_le_sz hwf
  have hRG := RG_of hRB hv.1 hon.1 hon.2
  have hbr := hlC_brd hv.1 hon.1 (W s).1.length (Nat.le_refl _)
  rw [List.take_length] at hbr
  have hok1 : okP 1600 6000 (W s).1 := fun q hq => by
    have := hv.1 q hq
    unfold okQ at this ⊢
    omega
  have hr7 : fX7_healable_b14 FU (mI M 0 0) (-1) (nn 0) (nn 0) (nn 0) = fX7_healable_b70 (mI M 0 0) (bI (W s).1.length (hbF (W s).1 (W s).1.length).1) := healable7 hRG hwf FU 0 (by omega) (by rw [FU_eq]; omega)
  refine ⟨nn (brdK (W s).1 (W s).1.length), if (W s).1.length = 0 then (0, ro.2) else (1, vp_updL ro.2 0 (nn (hbF (W s).1 (W s).1.length).1).toInt64), a.2.1, if (W s).1.length = 0 then mI (mI M 0 0) 1 0 else en (mI (mI M 0 0) 1 0) 0 (nn (hbF (W s).1 (W s).1.length).1).toInt64, Nat.le_refl _, (by split; (show 0 ≤ 16; omega); (show 1 ≤ 16; omega)), ?_, ?_, ?_, ?_, ?_⟩
  · unfold fX6_healable
    refine sa1 h1.1.r0_4 ?_
    refine sa1 h1.1.io6 ?_
    refine ca2 (current_sp h1 hs) ?_
    rintro r' G1 ⟨c1, b1, lv1, x1, x2, x3, x4⟩
    change Cl G1 c1 b1 _ a ro st (s, u, f, lv1) ke pg qg sc W at x2
    have hL := x2.lf hs x1
    have hh := healable6 hL hwf hz FU 0 (by omega) (by rw [FU_eq]; omega)
    rw [q0]
    change fX6_healable_b12 FU G1 0 r' (-1) (nn 0) = _ at hh
    rw [hh]
    unfold fX6_healable_b48 fX6_healable_b69
    refine sa1 x2.1.r0_2 ?_
    refine sa1 x2.1.io2 ?_
    refine ca1 (clear5_sp x2.1 x2.2.2.1 0) ?_
    rintro G3 ⟨g1, g2⟩
    have x2' := x2.fx g1 g2 rfl rfl
    by_cases e0 : (W s).1.length = 0
    · rw [if_pos e0]
      refine ift (by rw [e0]; rfl) ?_
      have hL3 := x2'.lf hs x1
      refine sa1 hL3.io ?_
      refine sa1 (bordersToHeal_sp hok1 hL3) ?_
      exact ok_some ⟨rfl, c1, b1, lv1, a.2.2.1, pg, qg, sc, x2', x3.trans (g2.1.fo (by omega)), h5.2.1.2.1, h5.2.2.2.2.2.2⟩
    · rw [if_neg e0, show bI (W s).1.length (hbF (W s).1 (W s).1.length).1 = nn (hbF (W s).1 (W s).1.length).1 from if_neg e0]
      have hb1 := (hbF_at hwf (W s).1.length (by omega) (Nat.le_refl _)).1
      refine ifn (nn_ne_neg (by omega)) ?_
      refine sa1 x2'.1.r0_2 ?_
      refine sa1 x2'.1.io2 ?_
      refine ca1 (add5_sp x2'.1 x2'.2.2.1 0 _ (by show 0 < 16; omega)) ?_
      rintro G4 ⟨g3, g4⟩
      have x4' := x2'.fx g3 g4 rfl rfl
      have hL3 := x4'.lf hs x1
      refine sa1 hL3.io ?_
      refine sa1 (bordersToHeal_sp hok1 hL3) ?_
      exact ok_some ⟨rfl, c1, b1, lv1, a.2.2.1, pg, qg, sc, x4', x3.trans ((g2.1.fo (by omega)).trans (g4.1.fo (by omega))), h5.2.1.2.1, h5.2.2.2.2.2.2⟩
  · show fX7_healable M = _
    unfold fX7_healable
    rw [zlt]
    refine Eq.trans hr7 ?_
    unfold fX7_healable_b70 fX7_healable_b85
    rw [zlt]
    by_cases e0 : (W s).1.length = 0
    · rw [if_pos e0, if_pos (show bI (W s).1.length (hbF (W s).1 (W s).1.length).1 < 0 by rw [e0]; exact (show (-1 : Int32) < 0 by decide)), healables7 (hRB.cg (M' := mI (mI M 0 0) 1 0) rfl rfl) hv.1 hon.1 hon.2, ob1_some, hbr]
    · have hb1 := (hbF_at hwf (W s).1.length (by omega) (Nat.le_refl _)).1
      rw [if_neg e0, show bI (W s).1.length (hbF (W s).1 (W s).1.length).1 = nn (hbF (W s).1 (W s).1.length).1 from if_neg e0, if_neg (by rw [nn_neg (by omega)]; exact id), enters_sp (n := 0) rfl (by omega), ob1_some, healables7 (hRB.cg (M' := en (mI (mI M 0 0) 1 0) 0 (nn (hbF (W s).1 (W s).1.length).1).toInt64) rfl rfl) hv.1 hon.1 hon.2, ob1_some, hbr]
  · split
    · exact (Mq_i0 M 0).i1 0
    · exact ((Mq_i0 M 0).i1 0).en 0 _
  · split
    · exact h6.1.2
    · exact h6.1.2
  · split
    · exact RRo.zero _ _
    · exact (RRo.zero _ _).en _
