/-! many -/
def mnF (b : Nat → Bool) (P : PC) (m : Nat) : Nat → Nat × Nat × Nat × Nat
  | 0 => (0, 0, 0, 0)
  | k + 1 => if b k = true then ((mnF b P m k).1 + 1, (mnF b P m k).2.1 + (if pcs P k m ≤ 1 then 0 else 1), (mnF b P m k).2.2.1 + (if k < (mnF b P m k).2.2.2 then 0 else 1), if k < (mnF b P m k).2.2.2 then (mnF b P m k).2.2.2 else k + m) else mnF b P m k
theorem mnF_le (b : Nat → Bool) (P : PC) (m k : Nat) : (mnF b P m k).1 ≤ k ∧ (mnF b P m k).2.1 ≤ k ∧ (mnF b P m k).2.2.1 ≤ k ∧ (mnF b P m k).2.2.2 ≤ k + m := by
  induction k with
  | zero => exact ⟨Nat.le_refl _, Nat.le_refl _, Nat.le_refl _, Nat.zero_le _⟩
  | succ k ih =>
    simp only [mnF]
    by_cases e : b k = true
    · rw [if_pos e]
      refine ⟨?_, ?_, ?_, ?_⟩
      · show (mnF b P m k).1 + 1 ≤ k + 1
        omega
      · show (mnF b P m k).2.1 + (if pcs P k m ≤ 1 then 0 else 1) ≤ k + 1
        split <;> omega
      · show (mnF b P m k).2.2.1 + (if k < (mnF b P m k).2.2.2 then 0 else 1) ≤ k + 1
        split <;> omega
      · show (if k < (mnF b P m k).2.2.2 then (mnF b P m k).2.2.2 else k + m) ≤ k + 1 + m
        split <;> omega
    · rw [if_neg e]
      omega
theorem mnF_skip {b : Nat → Bool} {P : PC} {m k k' : Nat} (h : k ≤ k') (hb : ∀ j, k ≤ j → j < k' → b j = false) : mnF b P m k' = mnF b P m k := by
  induction k' with
  | zero =>
    have : k = 0 := by omega
    subst this
    rfl
  | succ k' ih =>
    by_cases e : k = k' + 1
    · subst e; rfl
    · simp only [mnF]
      rw [if_neg (by rw [hb k' (by omega) (by omega)]; decide)]
      exact ih (by omega) (fun j h1 h2 => hb j h1 (by omega))
section Find
variable {G : zH} {a : TA} {ro : TR} {st : TS} {hi : TH} {ke : TK} {pg qg : TP} {sc : Nat → Int32} {T t : Nat → Nat} {m w : Nat} {M : MS} {P : PC}
theorem many6 (h : FX G a ro st hi ke pg qg sc) (hT : ∀ i, i < 80 → a.1 i = nn (T i) ∧ T i ≤ 255) (hPV : PV G (sz P) t (pcAt P)) (hwf : wfP P) (hm1 : 1 ≤ m) (hm : m ≤ 80) : ∀ fu k, k ≤ sz P → sz P - k < fu → fX6_many_b31 fu G 0 (nn m) 20 (nn (mnF (sdB 0 T t (sz P) m) P m k).1) (nn (mnF (sdB 0 T t (sz P) m) P m k).2.1) (nn (mnF (sdB 0 T t (sz P) m) P m k).2.2.1) (nn (mnF (sdB 0 T t (sz P) m) P m k).2.2.2) (nn k) = fX6_many_b92 G 0 (nn (mnF (sdB 0 T t (sz P) m) P m (sz P)).1) (nn (mnF (sdB 0 T t (sz P) m) P m (sz P)).2.1) (nn (mnF (sdB 0 T t (sz P) m) P m (sz P)).2.2.1) := by
  have hn := hPV.2.2.2.2.2.1
  have hlen := len_le_sz hwf
  intro fu
  induction fu with
  | zero => intro k _ h; omega
  | succ fu ih =>
    intro k hk hfu
    have hl := mnF_le (sdB 0 T t (sz P) m) P m k
    unfold fX6_many_b31
    rw [hPV.2.1, ob1_some, nn_subi]
    by_cases e : sz P < k + m
    · rw [if_pos (by rw [ii_lt_nn (by omega) (by omega)]; omega), mnF_skip hk (fun j h1 h2 => by unfold sdB; exact decide_eq_false (by rintro ⟨x, -⟩; omega))]
    · have hsl := sdF_le 0 T t k m
      have hih := ih (k + 1) (by omega) (by omega)
      rw [if_neg (by rw [ii_lt_nn (by omega) (by omega)]; omega), h.io0, ob1_some, q0, stands6 h hT hPV (by omega) hm (by omega), ob1_some]
      unfold fX6_many_b70 fX6_many_b86
      by_cases e1 : sdF 0 T t k m = 0
      · have hd : mnF (sdB 0 T t (sz P) m) P m (k + 1) = mnF (sdB 0 T t (sz P) m) P m k := by
          show (if _ then _ else _) = _
          rw [if_neg (by unfold sdB; rw [decide_eq_false (by rintro ⟨-, x⟩; omega)]; decide)]
        rw [hd] at hih
        rw [if_pos (by rw [e1]), q1, nn_add, zlt]
        exact hih
      · have hpl := pcAt_lt (P := P) (p := k + m - 1) (by omega)
        have hpc : pcs P k m ≤ 3001 := by unfold pcs; omega
        have hd : mnF (sdB 0 T t (sz P) m) P m (k + 1) = ((mnF (sdB 0 T t (sz P) m) P m k).1 + 1, (mnF (sdB 0 T t (sz P) m) P m k).2.1 + (if pcs P k m ≤ 1 then 0 else 1), (mnF (sdB 0 T t (sz P) m) P m k).2.2.1 + (if k < (mnF (sdB 0 T t (sz P) m) P m k).2.2.2 then 0 else 1), if k < (mnF (sdB 0 T t (sz P) m) P m k).2.2.2 then (mnF (sdB 0 T t (sz P) m) P m k).2.2.2 else k + m) := by
          show (if _ then _ else _) = _
          rw [if_pos (by unfold sdB; exact decide_eq_true ⟨by omega, by omega⟩)]
        rw [hd] at hih
        rw [if_neg (by rw [nn_eq (by omega) (by omega)]; exact e1), q1, nn_add, zlt, hPV.1, ob1_some, piecesIn6 hPV hwf hm1 (by omega), ob1_some, if_le (by omega) (by omega)]
        by_cases e2 : pcs P k m ≤ 1
        · rw [if_pos e2] at hih
          rw [if_pos e2, if_lt (by omega) (by omega)]
          by_cases e3 : k < (mnF (sdB 0 T t (sz P) m) P m k).2.2.2
          · rw [if_pos e3, if_pos e3] at hih
            rw [if_pos e3, nn_add, zlt]
            exact hih
          · rw [if_neg e3, if_neg e3] at hih
            rw [if_neg e3, nn_add, nn_add, nn_add, zlt, zlt, zlt]
            exact hih
        · rw [if_neg e2] at hih
          rw [if_neg e2, nn_add, zlt, if_lt (by omega) (by omega)]
          by_cases e3 : k < (mnF (sdB 0 T t (sz P) m) P m k).2.2.2
          · rw [if_pos e3, if_pos e3] at hih
            rw [if_pos e3, nn_add, zlt]
            exact hih
          · rw [if_neg e3, if_neg e3] at hih
            rw [if_neg e3, nn_add, nn_add, nn_add, zlt, zlt, zlt]
            exact hih
theorem many7 (h : RV M (sz P) t) (hB : RG M P) (h5 : M.1 5 = nn m) (hT7 : ∀ i, i < 80 → M.2.1 3 i = nn (T i)) (hT : ∀ i, i < 80 → T i ≤ 255) (hwf : wfP P) (hm1 : 1 ≤ m) (hm : m ≤ 80) : ∀ fu k, k ≤ sz P → sz P - k < fu → fX7_many_b27 fu M (nn (mnF (sdB 0 T t (sz P) m) P m k).1) (nn (mnF (sdB 0 T t (sz P) m) P m k).2.1) (nn (mnF (sdB 0 T t (sz P) m) P m k).2.2.1) (nn (mnF (sdB 0 T t (sz P) m) P m k).2.2.2) (nn k) = fX7_many_b127 M (nn (mnF (sdB 0 T t (sz P) m) P m (sz P)).1) (nn (mnF (sdB 0 T t (sz P) m) P m (sz P)).2.1) (nn (mnF (sdB 0 T t (sz P) m) P m (sz P)).2.2.1) := by
  have hn := h.2.2.1
  have hlen := len_le_sz hwf
  intro fu
  induction fu with
  | zero => intro k _ h; omega
  | succ fu ih =>
    intro k hk hfu
    have hl := mnF_le (sdB 0 T t (sz P) m) P m k
    unfold fX7_many_b27
    rw [h.1, if_le (by omega) (by omega)]
    by_cases e : sz P ≤ k
    · rw [if_pos e, show k = sz P by omega]
    · have hsl := sdF_le 0 T t k m
      have hih := ih (k + 1) (by omega) (by omega)
      rw [if_neg e, q0, stands7 h h5 hT7 hT (by omega) hm1 hm hk, ob1_some]
      unfold fX7_many_b77 fX7_many_b95 fX7_many_b119 fX7_many_b121
      by_cases e1 : k + m ≤ sz P ∧ sdF 0 T t k m = 1
      · have hpl := pcAt_lt (P := P) (p := k + m - 1) (by omega)
        have hpl2 := pcAt_lt (P := P) (p := k) (by omega)
        have hd : mnF (sdB 0 T t (sz P) m) P m (k + 1) = ((mnF (sdB 0 T t (sz P) m) P m k).1 + 1, (mnF (sdB 0 T t (sz P) m) P m k).2.1 + (if pcs P k m ≤ 1 then 0 else 1), (mnF (sdB 0 T t (sz P) m) P m k).2.2.1 + (if k < (mnF (sdB 0 T t (sz P) m) P m k).2.2.2 then 0 else 1), if k < (mnF (sdB 0 T t (sz P) m) P m k).2.2.2 then (mnF (sdB 0 T t (sz P) m) P m k).2.2.2 else k + m) := by
          show (if _ then _ else _) = _
          rw [if_pos (by unfold sdB; exact decide_eq_true e1)]
        rw [hd] at hih
        have hpc : (pcAt P (k + m - 1) + 1 ≤ pcAt P k + 1) ↔ pcs P k m ≤ 1 := by unfold pcs; omega
        rw [if_neg (by rw [if_pos e1.1, e1.2]; decide), h5, q1, nn_add, zlt, nn_add, nn_sub (by omega), beginningsTo7 hB hwf (by omega), ob1_some, beginningsTo7 hB hwf (by omega), ob1_some, if_le (by omega) (by omega), flag_nn (by omega), flag_nn (by omega)]
        simp only [ob1_some, zlt, nn_add]
        by_cases e3 : k < (mnF (sdB 0 T t (sz P) m) P m k).2.2.2
        · have e3' : nn k < nn (mnF (sdB 0 T t (sz P) m) P m k).2.2.2 := by rw [nn_lt (by omega) (by omega)]; exact e3
          rw [if_pos e3, if_pos e3] at hih
          simp only [if_pos e3']
          by_cases e2 : pcs P k m ≤ 1
          · rw [if_pos e2] at hih
            rw [if_pos (hpc.mpr e2), show fX7_flag 0 = some (nn 0) from rfl, ob1_some, nn_add]
            exact hih
          · rw [if_neg e2] at hih
            rw [if_neg (fun x => e2 (hpc.mp x)), show fX7_flag 0 = some (nn 0) from rfl, ob1_some, nn_add]
            exact hih
        · have e3' : ¬ nn k < nn (mnF (sdB 0 T t (sz P) m) P m k).2.2.2 := by rw [nn_lt (by omega) (by omega)]; exact e3
          rw [if_neg e3, if_neg e3] at hih
          simp only [if_neg e3']
          by_cases e2 : pcs P k m ≤ 1
          · rw [if_pos e2] at hih
            rw [if_pos (hpc.mpr e2)]
            exact hih
          · rw [if_neg e2] at hih
            rw [if_neg (fun x => e2 (hpc.mp x))]
            exact hih
      · have hd : mnF (sdB 0 T t (sz P) m) P m (k + 1) = mnF (sdB 0 T t (sz P) m) P m k := by
          show (if _ then _ else _) = _
          rw [if_neg (by unfold sdB; rw [decide_eq_false e1]; decide)]
        rw [hd] at hih
        rw [if_pos (show nn (if k + m ≤ sz P then sdF 0 T t k m else 0) = nn 0 by
          by_cases e2 : k + m ≤ sz P
          · rw [if_pos e2, show sdF 0 T t k m = 0 by omega]
          · rw [if_neg e2]), q1, nn_add, zlt]
        exact hih
end Find
theorem op_many : Op_many Inv := by
  intro k G  hI
  refine op_fin (f6 := fX6_many G 0 ) (f7 := fun M => fX7_many M ) hI ?_
  intro c bu a ro st s u f lv ke pg qg sc W M T St kd h1 h5 h6
  obtain ⟨hv, ht⟩ := h5.cur
  have hRB : RBk (mI M 0 0) (W s).1 := h6.2.2.2.1.cg rfl rfl
  have hRV := RV_of hRB (h6.2.2.1.cg rfl rfl rfl rfl : RSt (mI M 0 0) St st.1 st.2.1) hv.1 ht
  have hRV2 : RV (mI (mI M 0 0) 1 0) (sz (W s).1) (fun p => St (srcAt (W s).1 p)) := hRV
  have hs : s < 31 := h5.2.2.2.1.1
  have hz := hv.2.1
  have hmk : RMk M (W s) := h6.2.2.2.2.1
  have hon := h5.2.2.1.2
  have hwf := okP_wf hv.1
  have hts : a.2.1 ≤ 80 := h5.2.1.1
  have hRBe : RBk (emp M) (W s).1 := h6.2.2.2.1.cg rfl rfl
  have hRVe := RV_of hRBe (h6.2.2.1.cg rfl rfl rfl rfl : RSt (emp M) St st.1 st.2.1) hv.1 ht
  have hRG : RG (emp M) (W s).1 := RG_of (h6.2.2.2.1.cg rfl rfl) hv.1 hon.1 hon.2
  have hE := emp_sp h6.1.2
  have hq : Mq M (emp M) := Mq_i0 M 0
  have hm5 : (emp M).1 5 = nn a.2.1 := h6.1.2
  have hT7 : ∀ i, i < 80 → (emp M).2.1 3 i = nn (T i) := h6.1.1
  have hT8 : ∀ i, i < 80 → T i ≤ 255 := fun i hi => (h5.1 i hi).2
  have cls : ∀ {r : Int32} {ro1 : TR}, (∀ G1, Cl G1 c bu (3016 * (4 * (k + 1) + a.2.1)) (a.1, 0, a.2.2) ro st (s, u, f, lv) ke pg qg sc W → Fo G c G1 c → ok (if nn a.2.1 = 0 then (some ((-100 : Int32), G1)) else ob1 (isO G1 0 6) fun u6 => ob2 (fX6_shownPage G1 0) fun qv9 G8 => fX6_many_b31 FU G8 0 (nn a.2.1) qv9 (0 : Int32) (0 : Int32) (0 : Int32) (0 : Int32) (0 : Int32)) (CQ G c (3016 * (4 * (k + 1) + a.2.1)) a 0 ro1 st s u f ke W St r)) → ok (fX6_many G 0) (CQ G c (3016 * (4 * (k + 1) + a.2.1)) a 0 ro1 st s u f ke W St r) := by
    intro r ro1 H
    unfold fX6_many
    refine sa1 h1.1.io0 ?_
    refine ca2 (readText6 h1) ?_
    rintro v G1 ⟨y1, y2, y3⟩
    change v = _ at y1
    subst y1
    exact H G1 y2 y3
  by_cases e0 : a.2.1 = 0
  · refine ⟨-100, ro, 0, emp M, Nat.zero_le _, h5.2.1.2.2, cls fun G1 y2 y3 => ?_, ?_, hq, rfl, h6.2.1⟩
    · refine ift (by rw [e0]; rfl) ?_
      exact CQ_ret (old := a.2.2.1) y2 y3 h5.2.1.2.1 h5.2.2.2.2.2.2
    · show fX7_many M = _
      unfold fX7_many
      rw [zlt, hE, ob2_some, if_pos (by rw [e0]; rfl)]
  · have e0' : ¬ nn a.2.1 = 0 := by rw [q0, nn_eq (by omega) (by omega)]; exact e0
    have hr7 : fX7_many_b27 FU (emp M) (nn 0) (nn 0) (nn 0) (nn 0) (nn 0) = _ := many7 hRVe hRG hm5 hT7 hT8 hwf (by omega) hts FU 0 (Nat.zero_le _) (by rw [FU_eq]; omega)
    refine ⟨nn (mnF (sdB 0 T (fun p => St (srcAt (W s).1 p)) (sz (W s).1) a.2.1) (W s).1 a.2.1 (sz (W s).1)).1, (2, vp_updL (vp_updL ro.2 0 (nn (mnF (sdB 0 T (fun p => St (srcAt (W s).1 p)) (sz (W s).1) a.2.1) (W s).1 a.2.1 (sz (W s).1)).2.1).toInt64) 1 (nn (mnF (sdB 0 T (fun p => St (srcAt (W s).1 p)) (sz (W s).1) a.2.1) (W s).1 a.2.1 (sz (W s).1)).2.2.1).toInt64), 0, tl2 (emp M) (nn (mnF (sdB 0 T (fun p => St (srcAt (W s).1 p)) (sz (W s).1) a.2.1) (W s).1 a.2.1 (sz (W s).1)).2.1).toInt64 (nn (mnF (sdB 0 T (fun p => St (srcAt (W s).1 p)) (sz (W s).1) a.2.1) (W s).1 a.2.1 (sz (W s).1)).2.2.1).toInt64, Nat.zero_le _, by show 2 ≤ 16; omega, cls fun G1 y2 y3 => ?_, ?_, hq, rfl, RRo.tl2 _ _ _ _⟩
    · refine ifn e0' ?_
      refine sa1 y2.1.io0 ?_
      refine page_open y2 h5.ts0.lv' y3 ?_
      intro G2 c2 b2 lv2 pg2 z1 z2 z3 hPV
      have hr6 : fX6_many_b31 FU G2 0 (nn a.2.1) 20 (nn 0) (nn 0) (nn 0) (nn 0) (nn 0) = _ := many6 z1.1 h5.1 hPV hwf (by omega) hts FU 0 (Nat.zero_le _) (by rw [FU_eq]; omega)
      rw [q0, hr6]
      unfold fX6_many_b92
      refine sa1 z1.1.r0_2 ?_
      refine sa1 z1.1.io2 ?_
      exact CQ_t2 z1 z3 (by omega) (fun _ => z2) _ _
    · show fX7_many M = _
      unfold fX7_many
      rw [zlt, hE, ob2_some, if_neg e0']
      refine Eq.trans hr7 ?_
      unfold fX7_many_b127
      rw [zlt, tl1_sp, ob1_some, tl2_sp, ob1_some]
