/-! before -/
def lcF (t : Nat → Nat) (p n q : Nat) : Nat := fstF (fun i => !decide (t (p + i) = t (q + i))) 0 (n - p)
section Lc
variable {t : Nat → Nat} {p n q l e : Nat}
theorem lc_le : lcF t p n q ≤ n - p := by
  have := (fstF_le (fun i => !decide (t (p + i) = t (q + i))) 0 (n - p)).2
  unfold lcF
  omega
theorem lc_eq {i : Nat} (h : i < lcF t p n q) : t (p + i) = t (q + i) := by
  have := fstF_no (b := fun i => !decide (t (p + i) = t (q + i))) (p := 0) (d := n - p) (k := i) (Nat.zero_le _) h
  simpa using this
theorem lc_ne (h : lcF t p n q < n - p) : ¬ t (p + lcF t p n q) = t (q + lcF t p n q) := by
  have := fstF_at (b := fun i => !decide (t (p + i) = t (q + i))) (p := 0) (d := n - p) (by rw [Nat.zero_add]; exact h)
  have h2 : (!decide (t (p + lcF t p n q) = t (q + lcF t p n q))) = true := this
  simpa using h2
theorem lc_ge (h : ∀ i, i < l → t (q + i) = t (p + i)) (hl : l ≤ n - p) : l ≤ lcF t p n q := by
  by_cases e : l ≤ lcF t p n q
  · exact e
  · have := lc_ne (t := t) (p := p) (n := n) (q := q) (by omega)
    exact absurd (h _ (by omega)).symm this
theorem mt_lc (h : l ≤ lcF t p n q) (he : q + l = e) : mt (fun i => t (p + i)) t e l := by
  refine ⟨by omega, fun i hi => ?_⟩
  rw [show e - l + i = q + i by omega]
  exact (lc_eq (n := n) (by omega)).symm
theorem lc_mt (h : mt (fun i => t (p + i)) t e l) (hl : l ≤ n - p) : l ≤ lcF t p n (e - l) := lc_ge h.2 hl
end Lc
def Pk (t : Nat → Nat) (p n B Q : Nat) : Prop := B = 0 ∨ (Q < p ∧ B ≤ lcF t p n Q ∧ ∀ q, q < Q → lcF t p n q < B)
theorem srch6 {G : zH} {n p : Nat} {t w : Nat → Nat} {sc : Nat → Int32} (hPV : PV G n t w) (hr : frf G 0 6 12 = some 26) (hsc : G[26]? = some (.inl (0, (6000, .inl sc)))) (hFA : ∀ i, 1 ≤ i → p + i ≤ n → ∃ l, sc (i - 1) = nn l ∧ bord (fun i => t (p + i)) i l) (hpn : p < n) : ∀ fu k m B Q, k ≤ n → n - k < fu → p + m ≤ n → mt (fun i => t (p + i)) t k m → (∀ l, p + l ≤ n → mt (fun i => t (p + i)) t k l → l ≤ m) → (k - m < p ∨ k = 0) → B ≤ n → Q ≤ n → Pk t p n B Q → (∀ q, q < p → ∀ l, l ≤ lcF t p n q → q + l ≤ k → l ≤ B) → ∃ B' Q', fX6_before_b35 fu G 0 (nn p) 20 (nn B) (nn Q) (nn m) (nn k) = fX6_before_b111 G 0 (nn B') (nn Q') ∧ B' ≤ n ∧ Q' ≤ n ∧ Pk t p n B' Q' ∧ ∀ q, q < p → lcF t p n q ≤ B' := by
  have hn := hPV.2.2.2.2.2.1
  intro fu
  induction fu with
  | zero => intro k m B Q _ h; omega
  | succ fu ih =>
    intro k m B Q hk hfu hm hmt hmx hst hB hQ hPk hse
    have hlc := fun q => lc_le (t := t) (p := p) (n := n) (q := q)
    unfold fX6_before_b35
    rw [hPV.2.1, ob1_some, if_le (by omega) (by omega)]
    by_cases e : n ≤ k
    · rw [if_pos e]
      exact ⟨B, Q, rfl, hB, hQ, hPk, fun q hq => hse q hq _ (Nat.le_refl _) (by have := hlc q; omega)⟩
    · rw [if_neg e, ob1_some, nn_add, if_le (by omega) (by omega)]
      by_cases e1 : n ≤ p + m
      · rw [if_pos e1]
        have := hmt.1
        have hmB : m ≤ B := hse (k - m) (by omega) m (lc_mt hmt (by omega)) (by omega)
        exact ⟨B, Q, rfl, hB, hQ, hPk, fun q hq => by have := hlc q; omega⟩
      · have h7 := hPV.2.2.2.2.2.2 k (by omega)
        obtain ⟨R, r1, r2, r3, r4⟩ := holdOn6 (e := k) (Y := t) hPV hsc (X := fun i => t (p + i)) (fun i _ => rfl) (mm := m) (fun i h1 h2 => hFA i h1 (by omega)) (by omega) (by omega) hmt
        have hRk := r3.1
        have hRx : ∀ l, p + l ≤ n → mt (fun i => t (p + i)) t (k + 1) l → l ≤ R := by
          intro l h1 h2
          cases l with
          | zero => omega
          | succ l => exact r4 l (hmx l (by omega) (mt_s.mp h2).1) h2
        rw [if_neg e1, hPV.1, ob1_some, hPV.2.2.1 k (by omega), ob1_some, hr, ob1_some, ob1_some, r1, ob1_some, q1, nn_add, nn_sub hRk, zlt, if_lt (by omega) (by omega)]
        unfold fX6_before_b105
        have hnew : ∀ q, q < p → ∀ l, l ≤ lcF t p n q → q + l ≤ k + 1 → l ≤ B ∨ l ≤ R := by
          intro q hq l h1 h2
          by_cases e5 : q + l ≤ k
          · exact Or.inl (hse q hq l h1 e5)
          · exact Or.inr (hRx l (by have := hlc q; omega) (mt_lc h1 (by omega)))
        by_cases e2 : k + 1 - R < p
        · rw [if_pos e2, if_le (by omega) (by omega)]
          by_cases e3 : R ≤ B
          · rw [if_pos e3, q1, nn_add, zlt]
            exact ih (k + 1) R B Q (by omega) (by omega) (by omega) r3 hRx (Or.inl e2) hB hQ hPk (fun q hq l h1 h2 => by have := hnew q hq l h1 h2; omega)
          · rw [if_neg e3, q1, nn_add, zlt]
            refine ih (k + 1) R R (k + 1 - R) (by omega) (by omega) (by omega) r3 hRx (Or.inl e2) (by omega) (by omega) (Or.inr ⟨e2, lc_mt r3 (by omega), fun q hq => ?_⟩) (fun q hq l h1 h2 => by have := hnew q hq l h1 h2; omega)
            by_cases e4 : lcF t p n q < R
            · exact e4
            · have := hse q (by omega) R (by omega) (by omega)
              omega
        · rw [if_neg e2]
          refine ⟨B, Q, rfl, hB, hQ, hPk, fun q hq => ?_⟩
          by_cases e4 : lcF t p n q ≤ B
          · exact e4
          · have h8 : ¬ q + lcF t p n q ≤ k := fun h => e4 (hse q hq _ (Nat.le_refl _) h)
            have := hRx (k + 1 - q) (by have := hlc q; omega) (mt_lc (n := n) (q := q) (by omega) (by omega))
            omega
/-! the reference -/
theorem alike7 {M : MS} {P : PC} {n p q : Nat} {t : Nat → Nat} (h : RV M n t) (hB : RBk M P) (hn : n = sz P) (hp : p < n) (hq : q < p) : fX7_alikeFrom M (nn p) (nn q) = some (nn (lcF t p n q)) := by
  obtain ⟨v1, v3, v6, v7⟩ := h
  unfold fX7_alikeFrom
  rw [q0]
  have key : ∀ fu j, j ≤ n - p → n - p - j < fu → fX7_alikeFrom_b2 M fu (nn p) (nn q) (nn j) = some (nn (fstF (fun i => !decide (t (p + i) = t (q + i))) j (n - p - j))) := by
    intro fu
    induction fu with
    | zero => intro j _ h; omega
    | succ fu ih =>
      intro j hj hfu
      unfold fX7_alikeFrom_b2
      rw [nn_add, isSign7_sp hB (by omega), ob1_some, ← hn]
      by_cases e : p + j < n
      · have h71 := v7 (p + j) (by omega)
        have h72 := v7 (q + j) (by omega)
        rw [if_neg (by rw [if_pos e]; decide), nn_add, isSign7_sp hB (by omega), ob1_some, ← hn, if_neg (by rw [if_pos (by omega)]; decide), v3 _ (by omega), ob1_some, v3 _ (by omega), ob1_some, if_eq (by omega) (by omega), show n - p - j = (n - p - (j + 1)) + 1 by omega]
        simp only [fstF]
        by_cases e1 : t (p + j) = t (q + j)
        · rw [if_pos e1, if_neg (by simp [e1]), q1, nn_add, zlt]
          exact ih (j + 1) (by omega) (by omega)
        · rw [if_neg e1, if_pos (by simp [e1])]
      · rw [if_pos (by rw [if_neg e]; rfl), show n - p - j = 0 by omega]
        rfl
  have := key FU 0 (by omega) (by rw [FU_eq]; omega)
  rw [Nat.sub_zero] at this
  exact this
def bsF (t : Nat → Nat) (p n : Nat) : Nat → Nat × Nat
  | 0 => (0, 0)
  | q + 1 => if lcF t p n q ≤ (bsF t p n q).1 then bsF t p n q else (lcF t p n q, q)
theorem bsF_sp (t : Nat → Nat) (p n k : Nat) : (∀ q, q < k → lcF t p n q ≤ (bsF t p n k).1) ∧ ((bsF t p n k).1 = 0 ∨ ((bsF t p n k).2 < k ∧ lcF t p n (bsF t p n k).2 = (bsF t p n k).1 ∧ ∀ q, q < (bsF t p n k).2 → lcF t p n q < (bsF t p n k).1)) ∧ (bsF t p n k).1 ≤ n - p := by
  induction k with
  | zero => exact ⟨fun q hq => by omega, Or.inl rfl, Nat.zero_le _⟩
  | succ k ih =>
    obtain ⟨h1, h2, h3⟩ := ih
    simp only [bsF]
    by_cases e : lcF t p n k ≤ (bsF t p n k).1
    · rw [if_pos e]
      refine ⟨fun q hq => ?_, ?_, h3⟩
      · by_cases eq : q = k
        · subst eq; exact e
        · exact h1 q (by omega)
      · rcases h2 with h2 | ⟨h2, h4, h5⟩
        · exact Or.inl h2
        · exact Or.inr ⟨by omega, h4, h5⟩
    · rw [if_neg e]
      refine ⟨fun q hq => ?_, Or.inr ⟨?_, rfl, fun q hq => ?_⟩, lc_le⟩
      · show lcF t p n q ≤ lcF t p n k
        by_cases eq : q = k
        · subst eq; exact Nat.le_refl _
        · have := h1 q (by omega)
          omega
      · show k < k + 1
        omega
      · have hq' : q < k := hq
        have := h1 q hq'
        show lcF t p n q < lcF t p n k
        omega
theorem Pk_bs {t : Nat → Nat} {p n B Q : Nat} (h : Pk t p n B Q) (hm : ∀ q, q < p → lcF t p n q ≤ B) : B = (bsF t p n p).1 ∧ (B ≠ 0 → Q = (bsF t p n p).2) := by
  obtain ⟨h1, h2, h3⟩ := bsF_sp t p n p
  have hB : B = (bsF t p n p).1 := by
    rcases h with h | ⟨h4, h5, h6⟩
    · rcases h2 with h2 | ⟨h7, h8, h9⟩
      · omega
      · have := hm _ h7
        omega
    · have := h1 Q h4
      rcases h2 with h2 | ⟨h7, h8, h9⟩
      · omega
      · have := hm _ h7
        omega
  refine ⟨hB, fun h0 => ?_⟩
  rcases h with h | ⟨h4, h5, h6⟩
  · exact absurd h h0
  · rcases h2 with h2 | ⟨h7, h8, h9⟩
    · omega
    · by_cases e1 : Q < (bsF t p n p).2
      · have := h9 Q e1
        omega
      · by_cases e2 : (bsF t p n p).2 < Q
        · have := h6 _ e2
          omega
        · omega
theorem before7 {M0 : MS} {P : PC} {St : Nat → Nat} {on an n p ts : Nat} {t : Nat → Nat} {f0 : Nat → Int64} (hn : n = sz P) (ht : t = fun p => St (srcAt P p)) (hk : okP on an P) (h7 : ∀ p, p < sz P → 1 ≤ St (srcAt P p) ∧ St (srcAt P p) ≤ 127) (hp : p < n) : ∀ fu q M, q ≤ p → p - q < fu → RBk M P → RSt M St on an → RRo M (if (bsF t p n q).1 = 0 then (0, f0) else (1, vp_updL f0 0 (nn (bsF t p n q).2).toInt64)) → Mq M0 M → M.1 4 = nn ts → ∃ M1, fX7_before_b24 fu M (nn p) (nn (bsF t p n q).1) (nn q) = some (nn (bsF t p n p).1, M1) ∧ RRo M1 (if (bsF t p n p).1 = 0 then (0, f0) else (1, vp_updL f0 0 (nn (bsF t p n p).2).toInt64)) ∧ Mq M0 M1 ∧ M1.1 4 = nn ts := by
  intro fu
  induction fu with
  | zero => intro q M _ h; omega
  | succ fu ih =>
    intro q M hq hfu hB hS hro hm h4
    have hz := hB.2.1
    have hRV := RV_of hB hS hk h7
    rw [← hn, ← ht] at hRV
    have hbl := (bsF_sp t p n q).2.2
    have hll := lc_le (t := t) (p := p) (n := n) (q := q)
    unfold fX7_before_b24
    rw [if_le (by omega) (by omega)]
    by_cases e : p ≤ q
    · have : q = p := by omega
      subst this
      rw [if_pos e]
      exact ⟨M, rfl, hro, hm, h4⟩
    · rw [if_neg e, alike7 hRV hB hn hp (by omega), ob1_some, if_le (by omega) (by omega)]
      unfold fX7_before_b57
      have hd : bsF t p n (q + 1) = if lcF t p n q ≤ (bsF t p n q).1 then bsF t p n q else (lcF t p n q, q) := rfl
      by_cases e1 : lcF t p n q ≤ (bsF t p n q).1
      · rw [if_pos e1] at hd
        rw [if_pos e1, q1, nn_add, zlt, ← hd]
        exact ih (q + 1) M (by omega) (by omega) hB hS (by rw [hd]; exact hro) hm h4
      · rw [if_neg e1] at hd
        rw [if_neg e1, zlt, tl1_sp, ob1_some, q1, nn_add, zlt]
        have := ih (q + 1) (tl1 M (nn q).toInt64) (by omega) (by omega) (hB.cg rfl rfl) (hS.cg rfl rfl rfl rfl) (by rw [hd, if_neg (by show ¬ lcF t p n q = 0; omega)]; exact RRo.tl1 _ _ _) hm h4
        rw [hd] at this
        exact this
theorem op_before : Op_before Inv := by
  intro k G x hI
  refine op_fin (f6 := fX6_before G 0 x) (f7 := fun M => fX7_before M x) hI ?_
  intro c bu a ro st s u f lv ke pg qg sc W M T St kd h1 h5 h6
  obtain ⟨hv, ht⟩ := h5.cur
  have hRB : RBk (mI M 0 0) (W s).1 := h6.2.2.2.1.cg rfl rfl
  have hRV := RV_of hRB (h6.2.2.1.cg rfl rfl rfl rfl : RSt (mI M 0 0) St st.1 st.2.1) hv.1 ht
  have hRV2 : RV (mI (mI M 0 0) 1 0) (sz (W s).1) (fun p => St (srcAt (W s).1 p)) := hRV
  have hs : s < 31 := h5.2.2.2.1.1
  have hz := hv.2.1
  have hmk : RMk M (W s) := h6.2.2.2.2.1
  have hon := h5.2.2.1.2
  have hRS : RSt (mI M 0 0) St st.1 st.2.1 := h6.2.2.1.cg rfl rfl rfl rfl
  rcases nn_or x with hx | ⟨p, hp, rfl⟩
  · refine fin0 (-1) h5 h6 ?_ ?_
    · unfold fX6_before
      refine sa1 h1.1.io0 ?_
      refine page_open h1 h5 (Fo.refl _ _) ?_
      intro G2 c2 b2 lv2 pg2 z1 z2 z3 hPV
      refine sa1 hPV.1 ?_
      refine sa1 (PV.hasn hx) ?_
      refine ift rfl ?_
      exact CQ_ret z1 z3 (by omega) (fun _ => z2)
    · unfold fX7_before
      rw [zlt, isSign7_neg hx, ob1_some, if_pos n00]
  · by_cases e : p < sz (W s).1
    · obtain ⟨M1, r1, r2, r3, r4⟩ := before7 (M0 := M) (f0 := ro.2) (ts := a.2.1) (n := sz (W s).1) (t := fun p => St (srcAt (W s).1 p)) (p := p) rfl rfl hv.1 ht e FU 0 (mI (mI M 0 0) 1 0) (Nat.zero_le _) (by rw [FU_eq]; omega) (hRB.cg rfl rfl) (hRS.cg rfl rfl rfl rfl) (RRo.zero _ _) (Mq_i0 M 0) h6.1.2
      have hbl := (bsF_sp (fun p => St (srcAt (W s).1 p)) p (sz (W s).1) p).2.2
      refine ⟨nn (bsF (fun p => St (srcAt (W s).1 p)) p (sz (W s).1) p).1, if (bsF (fun p => St (srcAt (W s).1 p)) p (sz (W s).1) p).1 = 0 then (0, ro.2) else (1, vp_updL ro.2 0 (nn (bsF (fun p => St (srcAt (W s).1 p)) p (sz (W s).1) p).2).toInt64), a.2.1, M1, Nat.le_refl _, (by split; (show 0 ≤ 16; omega); (show 1 ≤ 16; omega)), ?_, ?_, r3, r4, r2⟩
      · unfold fX6_before
        refine sa1 h1.1.io0 ?_
        refine page_open h1 h5 (Fo.refl _ _) ?_
        intro G2 c2 b2 lv2 pg2 z1 z2 z3 hPV
        refine sa1 hPV.1 ?_
        refine sa1 (hPV.has hp) ?_
        refine ifn (by rw [if_pos e]; decide) ?_
        refine sa1 z1.1.r0_12 ?_
        refine sa1 hPV.1 ?_
        have hfill : ok (fX3_fillFallbacks G2 20 (nn p) 26) (fun G' => ∃ sc', (∀ i, 1 ≤ i → p + i ≤ sz (W s).1 → ∃ l, sc' (i - 1) = nn l ∧ bord (fun i => St (srcAt (W s).1 (p + i))) i l) ∧ Cl G' c2 b2 (3016 * (4 * (k + 1) + a.2.1)) (a.1, a.2.1, 0, a.2.2.2) ro st (s, u, f, lv2) ke pg2 qg sc' W ∧ Fo G c G' c2) := by
          unfold fX3_fillFallbacks
          rw [q0]
          exact fill6 (G0 := G) (c0 := c) (t := fun p => St (srcAt (W s).1 p)) (w := pcAt (W s).1) (fun G sc h => PV_of h.1 z2 hz ht) hz FU 0 0 G2 sc (by omega) (by rw [FU_eq]; omega) (fun _ => rfl) (fun h => by omega) (fun i h1 h2 => by omega) z1 z3
        refine ca1 hfill ?_
        rintro G3 ⟨sc', w1, w2, w3⟩
        obtain ⟨B, Q, s1, s2, s3, s4, s5⟩ := srch6 (PV_of w2.1 z2 hz ht) w2.1.r0_12 w2.1.g26 w1 e FU 0 0 0 0 (Nat.zero_le _) (by rw [FU_eq]; omega) (by omega) (mt_0 _ _ _) (fun l _ h => h.1) (Or.inr rfl) (Nat.zero_le _) (Nat.zero_le _) (Or.inl rfl) (fun q hq l _ h => by omega)
        obtain ⟨s6, s7⟩ := Pk_bs s4 s5
        rw [q0]
        rw [s1, ← s6]
        unfold fX6_before_b111
        refine sa1 w2.1.r0_2 ?_
        refine sa1 w2.1.io2 ?_
        refine ca1 (clear5_sp w2.1 w2.2.2.1 0) ?_
        rintro G4 ⟨g1, g2⟩
        have w4 := w2.fx g1 g2 rfl rfl
        by_cases e0 : B = 0
        · rw [if_pos e0]
          refine ift (by rw [e0]; decide) ?_
          exact CQ_ret w4 (w3.trans (g2.1.fo (by omega))) (by omega) (fun _ => z2)
        · rw [if_neg e0, ← s7 e0]
          refine ifn (by rw [q0, nn_le (by omega) (by omega)]; omega) ?_
          refine sa1 w4.1.r0_2 ?_
          refine sa1 w4.1.io2 ?_
          refine ca1 (add5_sp w4.1 w4.2.2.1 0 _ (by show 0 < 16; omega)) ?_
          rintro G5 ⟨g3, g4⟩
          exact CQ_ret (w4.fx g3 g4 rfl rfl) (w3.trans ((g2.1.fo (by omega)).trans (g4.1.fo (by omega)))) (by omega) (fun _ => z2)
      · show fX7_before M (nn p) = _
        unfold fX7_before
        rw [zlt, isSign7_sp hRB hp, ob1_some, if_neg (by rw [if_pos e]; decide), zlt]
        exact r1
    · refine fin0 (-1) h5 h6 ?_ ?_
      · unfold fX6_before
        refine sa1 h1.1.io0 ?_
        refine page_open h1 h5 (Fo.refl _ _) ?_
        intro G2 c2 b2 lv2 pg2 z1 z2 z3 hPV
        refine sa1 hPV.1 ?_
        refine sa1 (hPV.has hp) ?_
        refine ift (by rw [if_neg e]; rfl) ?_
        exact CQ_ret z1 z3 (by omega) (fun _ => z2)
      · show fX7_before M (nn p) = _
        unfold fX7_before
        rw [zlt, isSign7_sp hRB hp, ob1_some, if_pos (by rw [if_neg e]; rfl)]
