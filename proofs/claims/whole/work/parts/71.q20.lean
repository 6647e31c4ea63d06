/-! finds, fits, folds -/
def emp (M : MS) : MS := mI (mI (mI M 0 0) 5 ((mI M 0 0).1 4)) 4 0
theorem emp_sp {M : MS} {m : Nat} (h : M.1 4 = nn m) : fX7_empties (mI M 0 0) = some (nn m, emp M) := by
  unfold fX7_empties
  rw [zlt, zlt]
  show some ((mI M 0 0).1 4, emp M) = _
  rw [show (mI M 0 0).1 4 = nn m from h]
theorem readText6 {G : zH} {c bu : Nat → Nat} {N : Nat} {a : TA} {ro : TR} {st : TS} {hi : TH} {ke : TK} {pg qg : TP} {sc : Nat → Int32} {W : Nat → LVa} (h : Cl G c bu N a ro st hi ke pg qg sc W) : ok (fX6_readText G 0) fun z => z.1 = nn a.2.1 ∧ Cl z.2 c bu N (a.1, 0, a.2.2) ro st hi ke pg qg sc W ∧ Fo G c z.2 c := by
  unfold fX6_readText
  refine sa1 (fi_at h.1.g0 rfl) ?_
  obtain ⟨G2, g1, g2, g3⟩ := h.1.s0_1 h.2.2.1 0 0
  rw [q0]
  refine sa1 g1 ?_
  exact ok_some ⟨rfl, h.fx g2 g3 rfl rfl, g3.1.fo (by omega)⟩
theorem Sm.ts0 {T St kd : Nat → Nat} {a : TA} {ro : TR} {st : TS} {hi : TH} {ke : TK} {pg : TP} {W : Nat → LVa} (h : Sm T St kd a ro st hi ke pg W) : Sm T St kd (a.1, 0, a.2.2) ro st hi ke pg W := ⟨h.1, ⟨Nat.zero_le _, h.2.1.2⟩, h.2.2⟩
theorem nn_subi (a b : Nat) : nn a - nn b = ii ((a : Int) - (b : Int)) := by rw [← ii_nn, ← ii_nn, ii_sub]
def sdB (w : Nat) (T t : Nat → Nat) (n m : Nat) : Nat → Bool := fun k => decide (k + m ≤ n ∧ sdF w T t k m = 1)
section Find
variable {G : zH} {a : TA} {ro : TR} {st : TS} {hi : TH} {ke : TK} {pg qg : TP} {sc : Nat → Int32} {T t : Nat → Nat} {m w : Nat} {M : MS} {P : PC}
theorem first6 (h : FX G a ro st hi ke pg qg sc) (hT : ∀ i, i < 80 → a.1 i = nn (T i) ∧ T i ≤ 255) (hPV : PV G (sz P) t (pcAt P)) (hwf : wfP P) (hw : w ≤ 2) (hm1 : 1 ≤ m) (hm : m ≤ 80) (F : Nat) : ∀ fu k, k ≤ sz P → sz P - k < fu → fstF (sdB w T t (sz P) m) k (sz P - k) = F → fX6_firstFrom_b31 fu G 0 (nn w) (nn m) 20 (nn k) = if F < sz P then (ob1 (fX5_tell G 2 (nn (pcs P F m)).toInt64) fun G14 => some (nn F, G14)) else some (-2, G) := by
  have hn := hPV.2.2.2.2.2.1
  intro fu
  induction fu with
  | zero => intro k _ h; omega
  | succ fu ih =>
    intro k hk hfu hF
    unfold fX6_firstFrom_b31
    rw [hPV.2.1, ob1_some, nn_subi]
    by_cases e : sz P < k + m
    · have hFn : F = sz P := by
        rw [← hF]
        refine fstF_eq (by omega) (by omega) (fun j h1 h2 => ?_) (fun h => by omega)
        unfold sdB
        exact decide_eq_false (by rintro ⟨x, -⟩; omega)
      rw [if_pos (by rw [ii_lt_nn (by omega) (by omega)]; omega), if_neg (by omega)]
    · rw [if_neg (by rw [ii_lt_nn (by omega) (by omega)]; omega), h.io0, ob1_some, stands6 h hT hPV hw hm (by omega), ob1_some]
      have hsl := sdF_le w T t k m
      by_cases e1 : sdF w T t k m = 0
      · rw [if_pos (by rw [e1]; rfl), q1, nn_add, zlt]
        refine ih (k + 1) (by omega) (by omega) ?_
        rw [← hF, show sz P - k = (sz P - (k + 1)) + 1 by omega]
        simp only [fstF]
        rw [if_neg (by unfold sdB; rw [decide_eq_false (by rintro ⟨-, x⟩; omega)]; decide)]
      · have hFk : F = k := by
          rw [← hF]
          refine fstF_eq (Nat.le_refl _) (by omega) (fun j h1 h2 => by omega) (fun h => ?_)
          unfold sdB
          exact decide_eq_true ⟨by omega, by omega⟩
        rw [if_neg (by rw [q0, nn_eq (by omega) (by omega)]; exact e1), h.r0_2, ob1_some, hPV.1, ob1_some, piecesIn6 hPV hwf hm1 (by omega), ob1_some, h.io2, ob1_some, hFk, if_pos (by omega)]
theorem finds7 (h : RV M (sz P) t) (hB : RG (mI M 1 0) P) (h5 : M.1 5 = nn m) (hT7 : ∀ i, i < 80 → M.2.1 3 i = nn (T i)) (hT : ∀ i, i < 80 → T i ≤ 255) (hwf : wfP P) (hw : w ≤ 2) (hm1 : 1 ≤ m) (hm : m ≤ 80) (F : Nat) : ∀ fu k, k ≤ sz P → sz P - k < fu → fstF (sdB w T t (sz P) m) k (sz P - k) = F → fX7_findsBy_b27 fu M (nn w) (nn k) = if F < sz P then some (nn F, tl1 M (nn (pcs P F m)).toInt64) else some (-2, M) := by
  have hn := h.2.2.1
  intro fu
  induction fu with
  | zero => intro k _ h; omega
  | succ fu ih =>
    intro k hk hfu hF
    unfold fX7_findsBy_b27
    rw [h.1, if_le (by omega) (by omega)]
    by_cases e : sz P ≤ k
    · have hFn := fstF_le (sdB w T t (sz P) m) k (sz P - k)
      rw [if_pos e, if_neg (by omega)]
    · have hsl := sdF_le w T t k m
      rw [if_neg e, stands7 h h5 hT7 hT hw hm1 hm hk, ob1_some]
      by_cases e1 : k + m ≤ sz P ∧ sdF w T t k m = 1
      · have hFk : F = k := by
          rw [← hF]
          refine fstF_eq (Nat.le_refl _) (by omega) (fun j h1 h2 => by omega) (fun h => ?_)
          unfold sdB
          exact decide_eq_true e1
        rw [if_neg (by rw [if_pos e1.1, e1.2]; decide), found7 hB h5 hwf hm1 e1.1, ob2_some, hFk, if_pos (by omega)]
      · rw [if_pos (show nn (if k + m ≤ sz P then sdF w T t k m else 0) = 0 by
          by_cases e2 : k + m ≤ sz P
          · rw [if_pos e2, show sdF w T t k m = 0 by omega]; rfl
          · rw [if_neg e2]; rfl), q1, nn_add, zlt]
        refine ih (k + 1) (by omega) (by omega) ?_
        rw [← hF, show sz P - k = (sz P - (k + 1)) + 1 by omega]
        simp only [fstF]
        rw [if_neg (by unfold sdB; rw [decide_eq_false e1]; decide)]
end Find
section FindOp
variable {G : zH} {c bu : Nat → Nat} {k : Nat} {a : TA} {ro : TR} {st : TS} {s u f : Nat} {lv : Nat → Option Nat} {ke : TK} {pg qg : TP} {sc : Nat → Int32} {W : Nat → LVa} {M : MS} {T St kd : Nat → Nat} {n w : Nat}
theorem by_fin (h1 : Cl G c bu n a ro st (s, u, f, lv) ke pg qg sc W) (h5 : Sm T St kd a ro st (s, u, f, lv) ke pg W) (h6 : Rf M G c T St kd a ro st (s, u, f, lv) W) (hw : w ≤ 2) (x : Int32) : FinG (fX6_firstFrom G 0 x (nn w)) (fX7_findsBy M x (nn w)) G c n a st s u f ke W M St := by
  obtain ⟨hv, ht⟩ := h5.cur
  have hs : s < 31 := h5.2.2.2.1.1
  have hz := hv.2.1
  have hon := h5.2.2.1.2
  have hwf := okP_wf hv.1
  have hts : a.2.1 ≤ 80 := h5.2.1.1
  have hRB : RBk (emp M) (W s).1 := h6.2.2.2.1.cg rfl rfl
  have hRV := RV_of hRB (h6.2.2.1.cg rfl rfl rfl rfl : RSt (emp M) St st.1 st.2.1) hv.1 ht
  have hRG : RG (mI (emp M) 1 0) (W s).1 := RG_of (h6.2.2.2.1.cg rfl rfl) hv.1 hon.1 hon.2
  have hE := emp_sp h6.1.2
  have hq : Mq M (emp M) := Mq_i0 M 0
  have hm5 : (emp M).1 5 = nn a.2.1 := h6.1.2
  have hT7 : ∀ i, i < 80 → (emp M).2.1 3 i = nn (T i) := h6.1.1
  have hT8 : ∀ i, i < 80 → T i ≤ 255 := fun i hi => (h5.1 i hi).2
  have back : ∀ r, ok (fX6_firstFrom G 0 x (nn w)) (CQ G c n a 0 ro st s u f ke W St r) → fX7_findsBy M x (nn w) = some (r, emp M) → FinG (fX6_firstFrom G 0 x (nn w)) (fX7_findsBy M x (nn w)) G c n a st s u f ke W M St := fun r e6 e7 => ⟨r, ro, 0, emp M, Nat.zero_le _, h5.2.1.2.2, e6, e7, hq, rfl, h6.2.1⟩
  have cls : ∀ {r : Int32} {ro1 : TR}, (∀ G1, Cl G1 c bu n (a.1, 0, a.2.2) ro st (s, u, f, lv) ke pg qg sc W → Fo G c G1 c → ok (if nn a.2.1 = 0 then (some ((-100 : Int32), G1)) else ob1 (isO G1 0 6) fun u6 => ob2 (fX6_isPlace G1 0 x) fun v9 G8 => if v9 = 0 then (some ((-1 : Int32), G8)) else ob1 (isO G8 0 6) fun u11 => ob2 (fX6_shownPage G8 0) fun qv14 G13 => fX6_firstFrom_b31 FU G13 0 (nn w) (nn a.2.1) qv14 x) (CQ G c n a 0 ro1 st s u f ke W St r)) → ok (fX6_firstFrom G 0 x (nn w)) (CQ G c n a 0 ro1 st s u f ke W St r) := by
    intro r ro1 H
    unfold fX6_firstFrom
    refine sa1 h1.1.io0 ?_
    refine ca2 (readText6 h1) ?_
    rintro v G1 ⟨y1, y2, y3⟩
    change v = _ at y1
    subst y1
    exact H G1 y2 y3
  by_cases e0 : a.2.1 = 0
  · refine back (-100) (cls fun G1 y2 y3 => ?_) ?_
    · refine ift (by rw [e0]; rfl) ?_
      exact CQ_ret (old := a.2.2.1) y2 y3 h5.2.1.2.1 h5.2.2.2.2.2.2
    · unfold fX7_findsBy
      rw [zlt, hE, ob2_some, if_pos (by rw [e0]; rfl)]
  · have e0' : ¬ nn a.2.1 = 0 := by rw [q0, nn_eq (by omega) (by omega)]; exact e0
    rcases nn_or x with hx | ⟨p, hp, rfl⟩
    · refine back (-1) (cls fun G1 y2 y3 => ?_) ?_
      · refine ifn e0' ?_
        refine sa1 y2.1.io0 ?_
        refine sa2 (isPlace6_neg hx) ?_
        refine ift rfl ?_
        exact CQ_ret (old := a.2.2.1) y2 y3 h5.2.1.2.1 h5.2.2.2.2.2.2
      · unfold fX7_findsBy
        rw [zlt, hE, ob2_some, if_neg e0', isPlace7_neg hx, ob1_some, if_pos n00]
    · have place : ∀ {r : Int32} {ro1 : TR}, (∀ G1 c1 b1 lv1, Cl G1 c1 b1 n (a.1, 0, a.2.2) ro st (s, u, f, lv1) ke pg qg sc W → Fo G c G1 c1 → ok (if nn (if p ≤ sz (W s).1 then 1 else 0) = 0 then (some ((-1 : Int32), G1)) else ob1 (isO G1 0 6) fun u11 => ob2 (fX6_shownPage G1 0) fun qv14 G13 => fX6_firstFrom_b31 FU G13 0 (nn w) (nn a.2.1) qv14 (nn p)) (CQ G c n a 0 ro1 st s u f ke W St r)) → ok (fX6_firstFrom G 0 (nn p) (nn w)) (CQ G c n a 0 ro1 st s u f ke W St r) := by
        intro r ro1 H
        refine cls fun G1 y2 y3 => ?_
        refine ifn e0' ?_
        refine sa1 y2.1.io0 ?_
        refine ca2 (isPlace6_sp y2 hs hz hp) ?_
        rintro v G2 ⟨z1, c1, b1, lv1, z2, z3, -⟩
        change v = _ at z1
        subst z1
        exact H G2 c1 b1 lv1 z2 (y3.trans z3)
      by_cases e : p ≤ sz (W s).1
      · have hr7 := finds7 (w := w) hRV hRG hm5 hT7 hT8 hwf hw (by omega) hts _ FU p e (by rw [FU_eq]; omega) rfl
        have hf7 : fX7_findsBy M (nn p) (nn w) = fX7_findsBy_b27 FU (emp M) (nn w) (nn p) := by
          unfold fX7_findsBy
          rw [zlt, hE, ob2_some, if_neg e0', isPlace7_sp hRB hp, ob1_some, if_neg (by rw [if_pos e]; decide)]
        rw [hr7] at hf7
        have page : ∀ {r : Int32} {ro1 : TR}, (∀ G1 c1 b1 lv1 pg1, Cl G1 c1 b1 n (a.1, 0, 0, a.2.2.2) ro st (s, u, f, lv1) ke pg1 qg sc W → PgTo pg1 (W s).1 St (sz (W s).1) → Fo G c G1 c1 → ok (if fstF (sdB w T (fun p => St (srcAt (W s).1 p)) (sz (W s).1) a.2.1) p (sz (W s).1 - p) < sz (W s).1 then (ob1 (fX5_tell G1 2 (nn (pcs (W s).1 (fstF (sdB w T (fun p => St (srcAt (W s).1 p)) (sz (W s).1) a.2.1) p (sz (W s).1 - p)) a.2.1)).toInt64) fun G14 => some (nn (fstF (sdB w T (fun p => St (srcAt (W s).1 p)) (sz (W s).1) a.2.1) p (sz (W s).1 - p)), G14)) else some (-2, G1)) (CQ G c n a 0 ro1 st s u f ke W St r)) → ok (fX6_firstFrom G 0 (nn p) (nn w)) (CQ G c n a 0 ro1 st s u f ke W St r) := by
          intro r ro1 H
          refine place fun G1 c1 b1 lv1 y2 y3 => ?_
          refine ifn (by rw [if_pos e]; decide) ?_
          refine sa1 y2.1.io0 ?_
          refine page_open y2 h5.ts0.lv' y3 ?_
          intro G2 c2 b2 lv2 pg2 z1 z2 z3 hPV
          rw [first6 z1.1 h5.1 hPV hwf hw (by omega) hts _ FU p e (by rw [FU_eq]; omega) rfl]
          exact H G2 c2 b2 lv2 pg2 z1 z2 z3
        generalize fstF (sdB w T (fun p => St (srcAt (W s).1 p)) (sz (W s).1) a.2.1) p (sz (W s).1 - p) = F at *
        by_cases e2 : F < sz (W s).1
        · rw [if_pos e2] at hf7
          refine ⟨nn F, (1, vp_updL ro.2 0 (nn (pcs (W s).1 F a.2.1)).toInt64), 0, tl1 (emp M) (nn (pcs (W s).1 F a.2.1)).toInt64, Nat.zero_le _, by show 1 ≤ 16; omega, page fun G1 c1 b1 lv1 pg1 y1 y2 y3 => ?_, hf7, hq, rfl, RRo.tl1 _ _ _⟩
          rw [if_pos e2]
          exact CQ_t1 y1 y3 (by omega) (fun _ => y2) _
        · rw [if_neg e2] at hf7
          refine back (-2) (page fun G1 c1 b1 lv1 pg1 y1 y2 y3 => ?_) hf7
          rw [if_neg e2]
          exact CQ_ret y1 y3 (by omega) (fun _ => y2)
      · refine back (-1) (place fun G1 c1 b1 lv1 y2 y3 => ?_) ?_
        · refine ift (by rw [if_neg e]; rfl) ?_
          exact CQ_ret (old := a.2.2.1) y2 y3 h5.2.1.2.1 h5.2.2.2.2.2.2
        · unfold fX7_findsBy
          rw [zlt, hE, ob2_some, if_neg e0', isPlace7_sp hRB hp, ob1_some, if_pos (by rw [if_neg e]; rfl)]
end FindOp
theorem op_finds : Op_finds Inv := by
  intro k G x hI
  refine op_fin (f6 := fX6_finds G 0 x) (f7 := fun M => fX7_finds M x) hI ?_
  intro c bu a ro st s u f lv ke pg qg sc W M T St kd h1 h5 h6
  obtain ⟨r, ro1, ts, M1, g1, g2, g3, g4, g5⟩ := by_fin (w := 0) h1 h5 h6 (by omega) x
  refine ⟨r, ro1, ts, M1, g1, g2, ?_, ?_, g5⟩
  · unfold fX6_finds
    refine sa1 h1.1.io0 ?_
    refine ca2 g3 ?_
    intro v G3 hh
    exact ok_some hh
  · show fX7_finds M x = _
    unfold fX7_finds
    rw [q0, g4, ob2_some]
theorem op_fits : Op_fits Inv := by
  intro k G x hI
  refine op_fin (f6 := fX6_fits G 0 x) (f7 := fun M => fX7_fits M x) hI ?_
  intro c bu a ro st s u f lv ke pg qg sc W M T St kd h1 h5 h6
  obtain ⟨r, ro1, ts, M1, g1, g2, g3, g4, g5⟩ := by_fin (w := 1) h1 h5 h6 (by omega) x
  refine ⟨r, ro1, ts, M1, g1, g2, ?_, ?_, g5⟩
  · unfold fX6_fits
    refine sa1 h1.1.io0 ?_
    refine ca2 g3 ?_
    intro v G3 hh
    exact ok_some hh
  · show fX7_fits M x = _
    unfold fX7_fits
    rw [q1, g4, ob2_some]
theorem op_folds : Op_folds Inv := by
  intro k G x hI
  refine op_fin (f6 := fX6_folds G 0 x) (f7 := fun M => fX7_folds M x) hI ?_
  intro c bu a ro st s u f lv ke pg qg sc W M T St kd h1 h5 h6
  obtain ⟨r, ro1, ts, M1, g1, g2, g3, g4, g5⟩ := by_fin (w := 2) h1 h5 h6 (by omega) x
  refine ⟨r, ro1, ts, M1, g1, g2, ?_, ?_, g5⟩
  · unfold fX6_folds
    refine sa1 h1.1.io0 ?_
    refine ca2 g3 ?_
    intro v G3 hh
    exact ok_some hh
  · show fX7_folds M x = _
    unfold fX7_folds
    rw [q2, g4, ob2_some]
