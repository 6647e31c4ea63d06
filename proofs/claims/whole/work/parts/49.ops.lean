/-! operations: how one ends -/
def Mq (M M1 : MS) : Prop := (M1.1 8 = M.1 8 ∧ M1.1 9 = M.1 9 ∧ M1.1 11 = M.1 11 ∧ M1.1 17 = M.1 17 ∧ M1.1 20 = M.1 20 ∧ M1.1 21 = M.1 21) ∧ (M1.2.1 3 = M.2.1 3 ∧ M1.2.1 6 = M.2.1 6 ∧ M1.2.1 7 = M.2.1 7 ∧ M1.2.1 10 = M.2.1 10 ∧ M1.2.1 12 = M.2.1 12 ∧ M1.2.1 13 = M.2.1 13) ∧ M1.2.2.2 = M.2.2.2
section Ops1
variable {G G1 A B : zH} {M M1 : MS} {c c1 bu bu1 : Nat → Nat} {k n ts old : Nat} {a : TA} {ro ro1 : TR} {st : TS} {s u f : Nat} {lv lv1 : Nat → Option Nat} {ke : TK} {pg pg1 qg qg1 : TP} {sc sc1 : Nat → Int32} {W : Nat → LVa} {T St kd : Nat → Nat}
theorem op_q (hGe : G = hG A M B) (hA : A.length = 27) (hcr : CR c) (hout : ∃ x, G[49]? = some (.inl (1, (1, .inr (.inl x))))) (hS : Sm T St kd a ro st (s, u, f, lv) ke pg W) (hR : Rf M G c T St kd a ro st (s, u, f, lv) W) (h1 : Cl G1 c1 bu1 (3016 * (4 * (k + 1) + a.2.1)) (a.1, ts, old, a.2.2.2) ro1 st (s, u, f, lv1) ke pg1 qg1 sc1 W) (hf : Fo G c G1 c1) (hq : Mq M M1) (hts : ts ≤ a.2.1) (hts2 : M1.1 4 = nn ts) (hro : RRo M1 ro1) (hro2 : ro1.1 ≤ 16) (hold : old ≤ 1) (hpg : old = 0 → PgTo pg1 (W s).1 St (sz (W s).1)) : ∃ A1 B1, G1 = hG A1 M B1 ∧ A1.length = 27 ∧ Inv k (hG A1 M1 B1) := by
  have hfo := hf
  rw [hGe] at hf
  obtain ⟨A1, B1, e1, e2⟩ := fo_hG hA hf hcr
  refine ⟨A1, B1, e1, e2, ?_⟩
  obtain ⟨⟨q1, q2, q3, q4, q5, q6⟩, ⟨q7, q8, q9, q10, q11, q12⟩, q13⟩ := hq
  obtain ⟨r1, r2, r3, r4, r5, r6, r7, r8⟩ := hR
  obtain ⟨s1, s2, s3, s4, s5, s6, s7⟩ := hS
  rw [e1] at h1 hfo
  have hc := h1.ref (M' := M1) (K := []) (n' := 3016 * (4 * k + ts)) e2 (by simp [zs]; omega) (by simp; omega)
  rw [List.append_nil] at hc
  have hcp : ∀ {q q' : Option Nat} {v : LVa}, CpA G c q q' v → CpA (hG A1 M1 B1) (cR c1 (hG A1 M B1).length) q q' v := by
    intro q q' v h
    have := (h.fo hfo).ref (M' := M1) (K := []) e2
    rw [List.append_nil] at this
    exact this
  obtain ⟨x, hx⟩ := hout
  have hx1 : (hG A1 M B1)[49]? = some (.inl (1, (1, .inr (.inl x)))) := by
    rw [hfo.2.2 49 (G_lt hx) (hcr 49 (by omega) (by omega))]
    exact hx
  have hx2 := out_ref (M' := M1) (K := []) hx1 e2
  rw [List.append_nil] at hx2
  refine ⟨_, bu1, _, ro1, st, _, ke, pg1, qg1, sc1, W, M1, A1, B1, T, St, kd, hc, rfl, e2, ⟨x, hx2⟩, ⟨s1, ⟨by have := s2.1; show ts ≤ 80; omega, hold, hro2⟩, s3, s4, s5, s6, hpg⟩, ⟨?_, hro, r3.cg q1 q2 q8 q9, r4.cg q3 q10, ?_, ?_, ?_, ?_⟩⟩
  · exact ⟨fun i hi => by rw [q7]; exact r1.1 i hi, hts2⟩
  · intro j hj
    rw [q11, q12]
    exact r5 j hj
  · refine ⟨by rw [q4]; exact r6.1, by rw [q5]; exact r6.2.1, fun j hj => ?_, fun j hj => ?_⟩
    · rw [q13]
      exact hcp (r6.2.2.1 j hj)
    · rw [q13]
      exact hcp (r6.2.2.2 j hj)
  · intro j hj
    rw [q13]
    exact ⟨(r7 j hj).1, fun e => hcp ((r7 j hj).2 e)⟩
  · unfold RTy at *
    rw [q6]
    exact r8
/-- the page as it shows the book -/
theorem shownPage_sp (h : Cl G c bu n a ro st (s, u, f, lv) ke pg qg sc W) (hS : Sm T St kd a ro st (s, u, f, lv) ke pg W) : ok (fX6_shownPage G 0) fun z => z.1 = 20 ∧ ∃ c' bu' lv' pg', Cl z.2 c' bu' n (a.1, a.2.1, 0, a.2.2.2) ro st (s, u, f, lv') ke pg' qg sc W ∧ PgTo pg' (W s).1 St (sz (W s).1) ∧ Fo G c z.2 c' ∧ ∀ j r, lv j = some r → lv' j = some r := by
  obtain ⟨s1, s2, s3, s4, s5, s6, s7⟩ := hS
  unfold fX6_shownPage
  refine sa1 h.1.i0_10 ?_
  by_cases e : a.2.2.1 = 0
  · refine ift (by rw [e]; rfl) ?_
    unfold fX6_shownPage_b30
    refine sa1 h.1.r0_9 ?_
    have ha : a = (a.1, a.2.1, 0, a.2.2.2) := by rw [← e]
    refine ok_some ⟨rfl, c, bu, lv, pg, ?_, s7 e, Fo.refl _ _, fun j r hj => hj⟩
    rw [← ha]
    exact h
  · refine ifn (by rw [q0, nn_eq (by have := s2.2.1; omega) (by omega)]; exact e) ?_
    refine sa1 h.1.r0_9 ?_
    refine sa1 h.1.r0_4 ?_
    refine sa1 h.1.io6 ?_
    refine ca2 (current_sp h s4.1) ?_
    rintro r G1 ⟨c1, b1, lv1, x1, x2, x3, x4⟩
    change Cl G1 c1 b1 n a ro st (s, u, f, lv1) ke pg qg sc W at x2
    refine sa1 x2.1.r0_3 ?_
    refine sa1 x2.1.io20 ?_
    have hv := s5 s s4.1 (by left; show (s + 31 - s) % 31 ≤ _; omega)
    have hwf := okP_wf hv.1
    refine ca1 (lay_20 (St := St) x2.1 x2.2.2.1 hwf hv.2.1 (fun q hq => by have := hv.1 q hq; unfold okQ at *; omega) ?_ (Nat.succ_ne_zero s) (x2.lf s4.1 x1)) ?_
    · intro p hp
      have h1 := src_lt hv.1 s3.2.1 s3.2.2 hp
      have h2 := s3.1 (srcAt (W s).1 p) (okP_src hv.1 hp)
      exact ⟨h2.1, h2.2.2, h1.1⟩
    · rintro G2 ⟨pg2, y1, y2, y3⟩
      refine sa1 (rfl : bz 0 = some 0) ?_
      rw [q0]
      have h2 := x2.fx y1 y3 rfl rfl
      obtain ⟨G3, e3, h3, u3⟩ := h2.1.s0_10 h2.2.2.1 0 0
      refine sa1 e3 ?_
      have h4 := h2.fx h3 u3 rfl rfl
      unfold fX6_shownPage_b30
      refine sa1 h4.1.r0_9 ?_
      exact ok_some ⟨rfl, c1, b1, lv1, pg2, h4, y2, (x3.trans (y3.1.fo (by omega))).trans (u3.1.fo (by omega)), x4⟩
end Ops1
/-! the page's face -/
def PV (G : zH) (n : Nat) (t w : Nat → Nat) : Prop := isO G 20 3 = some () ∧ fi G 20 3 2 = some (nn n) ∧ (∀ p, p < n → fX3_signAt G 20 (nn p) = some (nn (t p))) ∧ (∀ p, n ≤ p → p < 2147483648 → fX3_signAt G 20 (nn p) = some (nn 0)) ∧ (∀ p, p < n → fX3_pieceAt G 20 (nn p) = some (nn (w p))) ∧ n ≤ 3000 ∧ ∀ p, p < n → 1 ≤ t p ∧ t p ≤ 127
def RV (M : MS) (n : Nat) (t : Nat → Nat) : Prop := M.1 11 = nn n ∧ (∀ p, p < n → fX7_signAt M (nn p) = some (nn (t p))) ∧ n ≤ 3000 ∧ ∀ p, p < n → 1 ≤ t p ∧ t p ≤ 127
theorem PV_of {G : zH} {a : TA} {ro : TR} {st : TS} {hi : TH} {ke : TK} {pg qg : TP} {sc : Nat → Int32} {P : PC} {St : Nat → Nat} (h : FX G a ro st hi ke pg qg sc) (hp : PgTo pg P St (sz P)) (hz : sz P ≤ 3000) (ht : ∀ p, p < sz P → 1 ≤ St (srcAt P p) ∧ St (srcAt P p) ≤ 127) : PV G (sz P) (fun p => St (srcAt P p)) (pcAt P) := by
  have hn : fi G 20 3 2 = some (nn (sz P)) := by rw [← hp.1]; exact fi_at h.g20 rfl
  refine ⟨h.io20, hn, fun p hpl => ?_, fun p hp1 hp2 => ?_, fun p hpl => ?_, hz, ht⟩
  · unfold fX3_signAt
    rw [if_neg (by rw [nn_neg (by omega)]; exact id), hn, ob1_some, if_neg (by rw [nn_le (by omega) (by omega)]; omega), frf_at (v := 21) h.g20 rfl, ob1_some, aR_at h.g21 (by omega) (by omega), ob1_some, (hp.2 p hpl).1]
  · unfold fX3_signAt
    rw [if_neg (by rw [nn_neg (by omega)]; exact id), hn, ob1_some, if_pos (by rw [nn_le (by omega) (by omega)]; omega)]
    rfl
  · unfold fX3_pieceAt
    rw [if_neg (by rw [nn_neg (by omega)]; exact id), hn, ob1_some, if_neg (by rw [nn_le (by omega) (by omega)]; omega), frf_at (v := 22) h.g20 rfl, ob1_some, aR_at h.g22 (by omega) (by omega), ob1_some, (hp.2 p hpl).2]
theorem RV_of {M : MS} {P : PC} {St : Nat → Nat} {on an : Nat} (h : RBk M P) (hs : RSt M St on an) (hk : okP on an P) (ht : ∀ p, p < sz P → 1 ≤ St (srcAt P p) ∧ St (srcAt P p) ≤ 127) : RV M (sz P) (fun p => St (srcAt P p)) := ⟨h.1, fun _ hp => signAt7_sp h hs hk hp, h.2.1, ht⟩
theorem PV.neg {G : zH} {x : Int32} (h : x < 0) : fX3_signAt G 20 x = some (nn 0) := by
  unfold fX3_signAt
  rw [if_pos h]
  rfl
theorem PV.has {G : zH} {n : Nat} {t w : Nat → Nat} (h : PV G n t w) {p : Nat} (hp : p < 2147483648) : fX3_has G 20 (nn p) = some (nn (if p < n then 1 else 0)) := by
  have := h.2.2.2.2.2.1
  unfold fX3_has
  rw [if_neg (by rw [nn_neg hp]; exact id), h.2.1, ob1_some, if_le (by omega) hp]
  by_cases e : n ≤ p
  · rw [if_pos e, if_neg (by omega)]
    rfl
  · rw [if_neg e, if_pos (by omega)]
    rfl
theorem PV.hasn {G : zH} {x : Int32} (h : x < 0) : fX3_has G 20 x = some (nn 0) := by
  unfold fX3_has
  rw [if_pos h]
  rfl
theorem Sm.cur {T St kd : Nat → Nat} {a : TA} {ro : TR} {st : TS} {s u f : Nat} {lv : Nat → Option Nat} {ke : TK} {pg : TP} {W : Nat → LVa} (h : Sm T St kd a ro st (s, u, f, lv) ke pg W) : okV st.1 st.2.1 (W s) ∧ ∀ p, p < sz (W s).1 → 1 ≤ St (srcAt (W s).1 p) ∧ St (srcAt (W s).1 p) ≤ 127 := by
  obtain ⟨s1, s2, s3, s4, s5, s6, s7⟩ := h
  have hv := s5 s s4.1 (by left; show (s + 31 - s) % 31 ≤ _; omega)
  exact ⟨hv, fun p hp => (s3.1 (srcAt (W s).1 p) (okP_src hv.1 hp)).2⟩
theorem Mq.refl (M : MS) : Mq M M := ⟨⟨rfl, rfl, rfl, rfl, rfl, rfl⟩, ⟨rfl, rfl, rfl, rfl, rfl, rfl⟩, rfl⟩
theorem Mq_i0 (M : MS) (v : Int32) : Mq M (mI M 0 v) := ⟨⟨rfl, rfl, rfl, rfl, rfl, rfl⟩, ⟨rfl, rfl, rfl, rfl, rfl, rfl⟩, rfl⟩
/-! at -/
theorem op_at : Op_at Inv := by
  intro k G x hI
  obtain ⟨c, bu, a, ro, st, ⟨s, u, f, lv⟩, ke, pg, qg, sc, W, M, A, B, T, St, kd, h1, h2, h3, h4, h5, h6⟩ := hI
  obtain ⟨hv, ht⟩ := h5.cur
  have hB := h6.2.2.2.1
  have hSt := h6.2.2.1
  have key : ∃ r, ok (fX6_at G 0 x) (fun z => z.1 = r ∧ ∃ c' bu' lv' pg', Cl z.2 c' bu' (3016 * (4 * (k + 1) + a.2.1)) (a.1, a.2.1, 0, a.2.2.2) ro st (s, u, f, lv') ke pg' qg sc W ∧ PgTo pg' (W s).1 St (sz (W s).1) ∧ Fo G c z.2 c') ∧ fX7_at M x = some (r, mI M 0 0) := by
    have hRB : RBk (mI M 0 0) (W s).1 := hB.cg rfl rfl
    have hRV := RV_of hRB (hSt.cg rfl rfl rfl rfl) hv.1 ht
    rcases nn_or x with hx | ⟨p, hp, rfl⟩
    · refine ⟨-1, ?_, ?_⟩
      · unfold fX6_at
        refine sa1 h1.1.io0 ?_
        refine ca2 (shownPage_sp h1 h5) ?_
        rintro r G1 ⟨hr, c1, b1, lv1, pg1, x1, x2, x3, -⟩
        change r = 20 at hr
        subst hr
        refine sa1 x1.1.io20 ?_
        refine sa1 (PV.hasn hx) ?_
        refine ift rfl ?_
        exact ok_some ⟨rfl, c1, b1, lv1, pg1, x1, x2, x3⟩
      · unfold fX7_at
        show ob1 (fX7_isSign (mI M 0 0) x) _ = _
        rw [isSign7_neg hx]
        rfl
    · by_cases e : p < sz (W s).1
      · refine ⟨nn (St (srcAt (W s).1 p)), ?_, ?_⟩
        · unfold fX6_at
          refine sa1 h1.1.io0 ?_
          refine ca2 (shownPage_sp h1 h5) ?_
          rintro r G1 ⟨hr, c1, b1, lv1, pg1, x1, x2, x3, -⟩
          change r = 20 at hr
          subst hr
          have hPV := PV_of x1.1 x2 hv.2.1 ht
          refine sa1 x1.1.io20 ?_
          refine sa1 (hPV.has hp) ?_
          refine ifn (by rw [if_pos e]; decide) ?_
          refine sa1 x1.1.io20 ?_
          refine sa1 (hPV.2.2.1 p e) ?_
          exact ok_some ⟨rfl, c1, b1, lv1, pg1, x1, x2, x3⟩
        · unfold fX7_at
          show ob1 (fX7_isSign (mI M 0 0) (nn p)) _ = _
          rw [isSign7_sp hRB hp, ob1_some, if_neg (by rw [if_pos e]; decide), hRV.2.1 p e]
          rfl
      · refine ⟨-1, ?_, ?_⟩
        · unfold fX6_at
          refine sa1 h1.1.io0 ?_
          refine ca2 (shownPage_sp h1 h5) ?_
          rintro r G1 ⟨hr, c1, b1, lv1, pg1, x1, x2, x3, -⟩
          change r = 20 at hr
          subst hr
          have hPV := PV_of x1.1 x2 hv.2.1 ht
          refine sa1 x1.1.io20 ?_
          refine sa1 (hPV.has hp) ?_
          refine ift (by rw [if_neg e]; rfl) ?_
          exact ok_some ⟨rfl, c1, b1, lv1, pg1, x1, x2, x3⟩
        · unfold fX7_at
          show ob1 (fX7_isSign (mI M 0 0) (nn p)) _ = _
          rw [isSign7_sp hRB hp, ob1_some, if_pos (by rw [if_neg e]; rfl)]
  obtain ⟨r, ⟨⟨r', G1⟩, e6, hr, c1, b1, lv1, pg1, x1, x2, x3⟩, e7⟩ := key
  change r' = r at hr
  subst hr
  obtain ⟨A1, B1, e1, e2, hI⟩ := op_q (M1 := mI M 0 0) h2 h3 h1.2.2.2.1 h4 h5 h6 x1 x3 (Mq_i0 M 0) (Nat.le_refl _) h6.1.2 h6.2.1 h5.2.1.2.2 (by omega) (fun _ => x2)
  exact ⟨r', G1, A1, M, B1, mI M 0 0, B1, e6, e1, e2, e7, rfl, hI⟩
