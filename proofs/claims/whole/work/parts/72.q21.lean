/-! last -/
def dnF (b : Nat → Bool) : Nat → Nat
  | 0 => 0
  | k + 1 => if b k = true then k + 1 else dnF b k
theorem dnF_le (b : Nat → Bool) (k : Nat) : dnF b k ≤ k := by
  induction k with
  | zero => exact Nat.le_refl _
  | succ k ih =>
    simp only [dnF]
    split <;> omega
theorem dnF_skip {b : Nat → Bool} {k k' : Nat} (h : k ≤ k') (hb : ∀ j, k ≤ j → j < k' → b j = false) : dnF b k' = dnF b k := by
  induction k' with
  | zero =>
    have : k = 0 := by omega
    subst this
    rfl
  | succ k' ih =>
    by_cases e : k = k' + 1
    · subst e; rfl
    · simp only [dnF]
      rw [if_neg (by rw [hb k' (by omega) (by omega)]; decide)]
      exact ih (by omega) (fun j h1 h2 => hb j h1 (by omega))
def pre (k : Nat) : Int32 := ii ((k : Int) - 1)
theorem pre_s (k : Nat) : pre (k + 1) = nn k := by
  unfold pre
  rw [← ii_nn]
  congr 1
  omega
theorem pre_d (k : Nat) : nn k + -1 = pre k := by
  unfold pre
  rw [im1, ← ii_nn, ii_add]
  rfl
section Find
variable {G : zH} {a : TA} {ro : TR} {st : TS} {hi : TH} {ke : TK} {pg qg : TP} {sc : Nat → Int32} {T t : Nat → Nat} {m w : Nat} {M : MS} {P : PC}
theorem last6 (h : FX G a ro st hi ke pg qg sc) (hT : ∀ i, i < 80 → a.1 i = nn (T i) ∧ T i ≤ 255) (hPV : PV G (sz P) t (pcAt P)) (hwf : wfP P) (hm1 : 1 ≤ m) (hm : m ≤ 80) (F : Nat) : ∀ fu k, k + m ≤ sz P + 1 → k < fu → dnF (sdB 0 T t (sz P) m) k = F → fX6_last_b36 fu G 0 (nn m) (pre k) = if F = 0 then some (-2, G) else (ob1 (fX5_tell G 2 (nn (pcs P (F - 1) m)).toInt64) fun G14 => some (nn (F - 1), G14)) := by
  have hn := hPV.2.2.2.2.2.1
  intro fu
  induction fu with
  | zero => intro k _ h; omega
  | succ fu ih =>
    intro k hk hfu hF
    unfold fX6_last_b36
    cases k with
    | zero =>
      have hF0 : F = 0 := hF.symm
      rw [if_pos (show pre 0 < 0 by decide), if_pos hF0]
    | succ k =>
      rw [pre_s, if_neg (by rw [nn_neg (by omega)]; exact id), h.io0, ob1_some, q0, stands6 h hT hPV (by omega) hm (by omega), ob1_some]
      have hsl := sdF_le 0 T t k m
      simp only [dnF] at hF
      by_cases e1 : sdF 0 T t k m = 0
      · rw [if_neg (by unfold sdB; rw [decide_eq_false (by rintro ⟨-, x⟩; omega)]; decide)] at hF
        rw [if_pos (by rw [e1]), pre_d, zlt]
        exact ih k (by omega) (by omega) hF
      · rw [if_pos (by unfold sdB; exact decide_eq_true ⟨by omega, by omega⟩)] at hF
        rw [if_neg (by rw [nn_eq (by omega) (by omega)]; exact e1), h.r0_2, ob1_some, h.r0_9, ob1_some, hPV.1, ob1_some, piecesIn6 hPV hwf hm1 (by omega), ob1_some, h.io2, ob1_some, ← hF, if_neg (by omega), Nat.add_sub_cancel]
theorem last7 (h : RV M (sz P) t) (hB : RG (mI M 1 0) P) (h5 : M.1 5 = nn m) (hT7 : ∀ i, i < 80 → M.2.1 3 i = nn (T i)) (hT : ∀ i, i < 80 → T i ≤ 255) (hwf : wfP P) (hm1 : 1 ≤ m) (hm : m ≤ 80) (F : Nat) : ∀ fu k, k ≤ sz P + 1 → k < fu → dnF (sdB 0 T t (sz P) m) k = F → fX7_last_b27 fu M (pre k) = if F = 0 then some (-2, M) else some (nn (F - 1), tl1 M (nn (pcs P (F - 1) m)).toInt64) := by
  have hn := h.2.2.1
  intro fu
  induction fu with
  | zero => intro k _ h; omega
  | succ fu ih =>
    intro k hk hfu hF
    unfold fX7_last_b27
    cases k with
    | zero =>
      have hF0 : F = 0 := hF.symm
      rw [if_pos (show pre 0 < 0 by decide), if_pos hF0]
    | succ k =>
      rw [pre_s, if_neg (by rw [nn_neg (by omega)]; exact id), q0, stands7 h h5 hT7 hT (by omega) hm1 hm (by omega), ob1_some]
      have hsl := sdF_le 0 T t k m
      simp only [dnF] at hF
      by_cases e1 : k + m ≤ sz P ∧ sdF 0 T t k m = 1
      · rw [if_pos (by unfold sdB; exact decide_eq_true e1)] at hF
        rw [if_neg (by rw [if_pos e1.1, e1.2]; decide), found7 hB h5 hwf hm1 e1.1, ob2_some, ← hF, if_neg (by omega), Nat.add_sub_cancel]
      · rw [if_neg (by unfold sdB; rw [decide_eq_false e1]; decide)] at hF
        rw [if_pos (show nn (if k + m ≤ sz P then sdF 0 T t k m else 0) = nn 0 by
          by_cases e2 : k + m ≤ sz P
          · rw [if_pos e2, show sdF 0 T t k m = 0 by omega]
          · rw [if_neg e2]), pre_d, zlt]
        exact ih k (by omega) (by omega) hF
end Find
theorem op_last : Op_last Inv := by
  intro k G x hI
  refine op_fin (f6 := fX6_last G 0 x) (f7 := fun M => fX7_last M x) hI ?_
  intro c bu a ro st s u f lv ke pg qg sc W M T St kd h1 h5 h6
  obtain ⟨hv, ht⟩ := h5.cur
  have hRB : RBk (mI M 0 0) (W s).1 := h6.2.2.2.1.cg rfl rfl
  have hRV := RV_of hRB (h6.2.2.1.cg rfl rfl rfl rfl : RSt (mI M 0 0) St st.1 st.2.1) hv.1 ht
  have hRV2 : RV (mI (mI M 0 0) 1 0) (sz (W s).1) (fun p => St (srcAt (W s).1 p)) := hRV
  have hs : s < 31 := h5.2.2.2.1.1
  have hz := hv.2.1
  have hmk : RMk M (W s) := h6.2.2.2.2.1
  have hon := h5.2.2.1.2
  have hwf := okP_wf hv.1
  have hts : a.2.1 ≤ 80 := h5.2.1.1
  have hRBe : RBk (emp M) (W s).1 := h6.2.2.2.1.cg rfl rfl
  have hRVe := RV_of hRBe (h6.2.2.1.cg rfl rfl rfl rfl : RSt (emp M) St st.1 st.2.1) hv.1 ht
  have hRG : RG (mI (emp M) 1 0) (W s).1 := RG_of (h6.2.2.2.1.cg rfl rfl) hv.1 hon.1 hon.2
  have hE := emp_sp h6.1.2
  have hq : Mq M (emp M) := Mq_i0 M 0
  have hm5 : (emp M).1 5 = nn a.2.1 := h6.1.2
  have hT7 : ∀ i, i < 80 → (emp M).2.1 3 i = nn (T i) := h6.1.1
  have hT8 : ∀ i, i < 80 → T i ≤ 255 := fun i hi => (h5.1 i hi).2
  have back : ∀ r, ok (fX6_last G 0 x) (CQ G c (3016 * (4 * (k + 1) + a.2.1)) a 0 ro st s u f ke W St r) → fX7_last M x = some (r, emp M) → FinG (fX6_last G 0 x) (fX7_last M x) G c (3016 * (4 * (k + 1) + a.2.1)) a st s u f ke W M St := fun r e6 e7 => ⟨r, ro, 0, emp M, Nat.zero_le _, h5.2.1.2.2, e6, e7, hq, rfl, h6.2.1⟩
  have cls : ∀ {r : Int32} {ro1 : TR}, (∀ G1, Cl G1 c bu (3016 * (4 * (k + 1) + a.2.1)) (a.1, 0, a.2.2) ro st (s, u, f, lv) ke pg qg sc W → Fo G c G1 c → ok (if nn a.2.1 = 0 then (some ((-100 : Int32), G1)) else ob1 (isO G1 0 6) fun u6 => ob2 (fX6_isPlace G1 0 x) fun v9 G8 => if v9 = 0 then (some ((-1 : Int32), G8)) else ob1 (isO G8 0 6) fun u11 => ob2 (fX6_shownPage G8 0) fun qv14 G13 => ob1 (fi G13 qv14 3 2) fun v15 => zlet ((if (v15 - nn a.2.1) < x then (v15 - nn a.2.1) else x)) fun y16 => fX6_last_b36 FU G13 0 (nn a.2.1) y16) (CQ G c (3016 * (4 * (k + 1) + a.2.1)) a 0 ro1 st s u f ke W St r)) → ok (fX6_last G 0 x) (CQ G c (3016 * (4 * (k + 1) + a.2.1)) a 0 ro1 st s u f ke W St r) := by
    intro r ro1 H
    unfold fX6_last
    refine sa1 h1.1.io0 ?_
    refine ca2 (readText6 h1) ?_
    rintro v G1 ⟨y1, y2, y3⟩
    change v = _ at y1
    subst y1
    exact H G1 y2 y3
  by_cases e0 : a.2.1 = 0
  · refine back (-100) (cls fun G1 y2 y3 => ?_) ?_
    · refine ift (by rw [e0]; rfl) ?_
      exact CQ_ret (old := a.2.2.1) y2 y3 h5.2.1.2.1 h5.2.2.2.2.2.2
    · unfold fX7_last
      rw [zlt, hE, ob2_some, if_pos (by rw [e0]; rfl)]
  · have e0' : ¬ nn a.2.1 = 0 := by rw [q0, nn_eq (by omega) (by omega)]; exact e0
    rcases nn_or x with hx | ⟨p, hp, rfl⟩
    · refine back (-1) (cls fun G1 y2 y3 => ?_) ?_
      · refine ifn e0' ?_
        refine sa1 y2.1.io0 ?_
        refine sa2 (isPlace6_neg hx) ?_
        refine ift rfl ?_
        exact CQ_ret (old := a.2.2.1) y2 y3 h5.2.1.2.1 h5.2.2.2.2.2.2
      · unfold fX7_last
        rw [zlt, hE, ob2_some, if_neg e0', isPlace7_neg hx, ob1_some, if_pos n00]
    · have place : ∀ {r : Int32} {ro1 : TR}, (∀ G1 c1 b1 lv1, Cl G1 c1 b1 (3016 * (4 * (k + 1) + a.2.1)) (a.1, 0, a.2.2) ro st (s, u, f, lv1) ke pg qg sc W → Fo G c G1 c1 → ok (if nn (if p ≤ sz (W s).1 then 1 else 0) = 0 then (some ((-1 : Int32), G1)) else ob1 (isO G1 0 6) fun u11 => ob2 (fX6_shownPage G1 0) fun qv14 G13 => ob1 (fi G13 qv14 3 2) fun v15 => zlet ((if (v15 - nn a.2.1) < nn p then (v15 - nn a.2.1) else nn p)) fun y16 => fX6_last_b36 FU G13 0 (nn a.2.1) y16) (CQ G c (3016 * (4 * (k + 1) + a.2.1)) a 0 ro1 st s u f ke W St r)) → ok (fX6_last G 0 (nn p)) (CQ G c (3016 * (4 * (k + 1) + a.2.1)) a 0 ro1 st s u f ke W St r) := by
        intro r ro1 H
        refine cls fun G1 y2 y3 => ?_
        refine ifn e0' ?_
        refine sa1 y2.1.io0 ?_
        refine ca2 (isPlace6_sp y2 hs hz hp) ?_
        rintro v G2 ⟨z1, c1, b1, lv1, z2, z3, -⟩
        change v = _ at z1
        subst z1
        exact H G2 c1 b1 lv1 z2 (y3.trans z3)
      by_cases e : p ≤ sz (W s).1
      · have hr7 := last7 hRVe hRG hm5 hT7 hT8 hwf (by omega) hts _ FU (p + 1) (by omega) (by rw [FU_eq]; omega) rfl
        have hf7 : fX7_last M (nn p) = fX7_last_b27 FU (emp M) (pre (p + 1)) := by
          unfold fX7_last
          rw [zlt, hE, ob2_some, if_neg e0', isPlace7_sp hRBe hp, ob1_some, if_neg (by rw [if_pos e]; decide), pre_s]
        rw [hr7] at hf7
        have page : ∀ {r : Int32} {ro1 : TR}, (∀ G1 c1 b1 lv1 pg1, Cl G1 c1 b1 (3016 * (4 * (k + 1) + a.2.1)) (a.1, 0, 0, a.2.2.2) ro st (s, u, f, lv1) ke pg1 qg sc W → PgTo pg1 (W s).1 St (sz (W s).1) → Fo G c G1 c1 → ok (if dnF (sdB 0 T (fun p => St (srcAt (W s).1 p)) (sz (W s).1) a.2.1) (p + 1) = 0 then some (-2, G1) else (ob1 (fX5_tell G1 2 (nn (pcs (W s).1 (dnF (sdB 0 T (fun p => St (srcAt (W s).1 p)) (sz (W s).1) a.2.1) (p + 1) - 1) a.2.1)).toInt64) fun G14 => some (nn (dnF (sdB 0 T (fun p => St (srcAt (W s).1 p)) (sz (W s).1) a.2.1) (p + 1) - 1), G14))) (CQ G c (3016 * (4 * (k + 1) + a.2.1)) a 0 ro1 st s u f ke W St r)) → ok (fX6_last G 0 (nn p)) (CQ G c (3016 * (4 * (k + 1) + a.2.1)) a 0 ro1 st s u f ke W St r) := by
          intro r ro1 H
          refine place fun G1 c1 b1 lv1 y2 y3 => ?_
          refine ifn (by rw [if_pos e]; decide) ?_
          refine sa1 y2.1.io0 ?_
          refine page_open y2 h5.ts0.lv' y3 ?_
          intro G2 c2 b2 lv2 pg2 z1 z2 z3 hPV
          refine sa1 hPV.2.1 ?_
          refine zl ?_
          rw [nn_subi]
          by_cases e3 : sz (W s).1 < p + a.2.1
          · rw [if_pos (show ii (((sz (W s).1 : Nat) : Int) - ((a.2.1 : Nat) : Int)) < nn p by rw [ii_lt_nn (by omega) (by omega)]; omega)]
            by_cases e4 : a.2.1 ≤ sz (W s).1
            · rw [show ii (((sz (W s).1 : Nat) : Int) - ((a.2.1 : Nat) : Int)) = pre (sz (W s).1 - a.2.1 + 1) by unfold pre; congr 1; omega]
              rw [last6 z1.1 h5.1 hPV hwf (by omega) hts _ FU (sz (W s).1 - a.2.1 + 1) (by omega) (by rw [FU_eq]; omega) rfl]
              rw [← dnF_skip (k' := p + 1) (by omega) (fun j j1 j2 => by unfold sdB; exact decide_eq_false (by rintro ⟨x, -⟩; omega))]
              exact H G2 c2 b2 lv2 pg2 z1 z2 z3
            · have := H G2 c2 b2 lv2 pg2 z1 z2 z3
              rw [dnF_skip (k := 0) (k' := p + 1) (by omega) (fun j j1 j2 => by unfold sdB; exact decide_eq_false (by rintro ⟨x, -⟩; omega))] at this
              rw [FU_eq]
              unfold fX6_last_b36
              refine ift (by rw [q0, ii_lt_nn (by omega) (by omega)]; omega) ?_
              exact this
          · rw [if_neg (show ¬ ii (((sz (W s).1 : Nat) : Int) - ((a.2.1 : Nat) : Int)) < nn p by rw [ii_lt_nn (by omega) (by omega)]; omega), ← pre_s p]
            rw [last6 z1.1 h5.1 hPV hwf (by omega) hts _ FU (p + 1) (by omega) (by rw [FU_eq]; omega) rfl]
            exact H G2 c2 b2 lv2 pg2 z1 z2 z3
        generalize dnF (sdB 0 T (fun p => St (srcAt (W s).1 p)) (sz (W s).1) a.2.1) (p + 1) = F at *
        by_cases e2 : F = 0
        · rw [if_pos e2] at hf7
          refine back (-2) (page fun G1 c1 b1 lv1 pg1 y1 y2 y3 => ?_) hf7
          rw [if_pos e2]
          exact CQ_ret y1 y3 (by omega) (fun _ => y2)
        · rw [if_neg e2] at hf7
          refine ⟨nn (F - 1), (1, vp_updL ro.2 0 (nn (pcs (W s).1 (F - 1) a.2.1)).toInt64), 0, tl1 (emp M) (nn (pcs (W s).1 (F - 1) a.2.1)).toInt64, Nat.zero_le _, by show 1 ≤ 16; omega, page fun G1 c1 b1 lv1 pg1 y1 y2 y3 => ?_, hf7, hq, rfl, RRo.tl1 _ _ _⟩
          rw [if_neg e2]
          exact CQ_t1 y1 y3 (by omega) (fun _ => y2) _
      · refine back (-1) (place fun G1 c1 b1 lv1 y2 y3 => ?_) ?_
        · refine ift (by rw [if_neg e]; rfl) ?_
          exact CQ_ret (old := a.2.2.1) y2 y3 h5.2.1.2.1 h5.2.2.2.2.2.2
        · unfold fX7_last
          rw [zlt, hE, ob2_some, if_neg e0', isPlace7_sp hRBe hp, ob1_some, if_pos (by rw [if_neg e]; rfl)]
