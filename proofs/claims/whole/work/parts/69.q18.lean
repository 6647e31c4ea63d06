/-! the end of a call that changes more than what is told -/
theorem op_st {G G1 A B : zH} {M : MS} {c c1 bu1 : Nat → Nat} {k n1 : Nat} {a1 : TA} {ro1 : TR} {st1 : TS} {hi1 : TH} {ke1 : TK} {pg1 qg1 : TP} {sc1 : Nat → Int32} {W1 : Nat → LVa} (hGe : G = hG A M B) (hA : A.length = 27) (hcr : CR c) (hout : ∃ x, G[49]? = some (.inl (1, (1, .inr (.inl x))))) (h1 : Cl G1 c1 bu1 n1 a1 ro1 st1 hi1 ke1 pg1 qg1 sc1 W1) (hf : Fo G c G1 c1) : ∃ A1 B1, G1 = hG A1 M B1 ∧ A1.length = 27 ∧ (∀ (K : zH) (M1 : MS) (q q' : Option Nat) (v : LVa), CpA G c q q' v → CpA (hG A1 M1 (B1 ++ K)) (cR c1 (hG A1 M B1).length) q q' v) ∧ ∀ (K : zH) (M1 : MS) (T1 St1 kd1 : Nat → Nat), 3016 * (4 * k + a1.2.1) + zs K ≤ n1 → 3016 * (4 * k + a1.2.1) + 12 * K.length ≤ n1 → Sm T1 St1 kd1 a1 ro1 st1 hi1 ke1 pg1 W1 → Rf M1 (hG A1 M1 (B1 ++ K)) (cR c1 (hG A1 M B1).length) T1 St1 kd1 a1 ro1 st1 hi1 W1 → Inv k (hG A1 M1 (B1 ++ K)) := by
  have hfo := hf
  rw [hGe] at hf
  obtain ⟨A1, B1, e1, e2⟩ := fo_hG hA hf hcr
  refine ⟨A1, B1, e1, e2, ?_, ?_⟩
  · intro K M1 q q' v h
    rw [e1] at hfo
    exact (h.fo hfo).ref (M' := M1) (K := K) e2
  · intro K M1 T1 St1 kd1 n2 n3 hS hR
    rw [e1] at h1 hfo
    have hc := h1.ref (M' := M1) (K := K) (n' := 3016 * (4 * k + a1.2.1)) e2 n2 n3
    obtain ⟨x, hx⟩ := hout
    have hx1 : (hG A1 M B1)[49]? = some (.inl (1, (1, .inr (.inl x)))) := by
      rw [hfo.2.2 49 (G_lt hx) (hcr 49 (by omega) (by omega))]
      exact hx
    exact ⟨_, bu1, a1, ro1, st1, hi1, ke1, pg1, qg1, sc1, W1, M1, A1, B1 ++ K, T1, St1, kd1, hc, rfl, e2, ⟨x, out_ref (M' := M1) (K := K) hx1 e2⟩, hS, hR⟩
/-! end -/
theorem op_end : Op_end Inv := by
  intro k G x hI
  refine op_fin (f6 := fX6_end G 0 x) (f7 := fun M => fX7_end M x) hI ?_
  intro c bu a ro st s u f lv ke pg qg sc W M T St kd h1 h5 h6
  obtain ⟨hv, ht⟩ := h5.cur
  have hRB : RBk (mI M 0 0) (W s).1 := h6.2.2.2.1.cg rfl rfl
  have hRV := RV_of hRB (h6.2.2.1.cg rfl rfl rfl rfl : RSt (mI M 0 0) St st.1 st.2.1) hv.1 ht
  have hRV2 : RV (mI (mI M 0 0) 1 0) (sz (W s).1) (fun p => St (srcAt (W s).1 p)) := hRV
  have hs : s < 31 := h5.2.2.2.1.1
  have hz := hv.2.1
  have hmk : RMk M (W s) := h6.2.2.2.2.1
  have hts : a.2.1 ≤ 80 := h5.2.1.1
  have h4 : (mI M 0 0).1 4 = nn a.2.1 := h6.1.2
  rcases nn_or x with hx | ⟨p, hp, rfl⟩
  · refine fin0 0 h5 h6 ?_ ?_
    · unfold fX6_end
      refine ift hx ?_
      exact ret0 h1 h5
    · unfold fX7_end
      rw [zlt, in_neg hx]
      rfl
  · by_cases e : p ≤ a.2.1
    · refine ⟨1, ro, p, mI (mI M 0 0) 4 (nn p), e, h5.2.1.2.2, ?_, ?_, Mq_i0 M 0, rfl, h6.2.1⟩
      · unfold fX6_end
        refine ifn (by rw [nn_neg hp]; exact id) ?_
        refine sa1 (fi_at h1.1.g0 rfl) ?_
        refine ift (by rw [nn_le hp (by omega)]; exact e) ?_
        obtain ⟨G4, g1, g2, g3⟩ := h1.1.s0_1 h1.2.2.1 0 p
        refine sa1 g1 ?_
        exact ok_some ⟨rfl, c, bu, lv, a.2.2.1, pg, qg, sc, h1.fx g2 g3 rfl rfl, g3.1.fo (by omega), h5.2.1.2.1, h5.2.2.2.2.2.2⟩
      · show fX7_end M (nn p) = _
        unfold fX7_end
        rw [zlt, h4, in_nn hp (by omega), ob1_some, if_neg (by rw [if_pos e]; decide), zlt]
    · refine fin0 0 h5 h6 ?_ ?_
      · unfold fX6_end
        refine ifn (by rw [nn_neg hp]; exact id) ?_
        refine sa1 (fi_at h1.1.g0 rfl) ?_
        refine ifn (by rw [nn_le hp (by omega)]; exact e) ?_
        exact ret0 h1 h5
      · show fX7_end M (nn p) = _
        unfold fX7_end
        rw [zlt, h4, in_nn hp (by omega), ob1_some, if_pos (by rw [if_neg e]; rfl)]
/-! sign -/
def sb (x : Int32) (j : Nat) : Int32 := (x >>> ((24 - 8 * nn j) &&& 31)) &&& 255
theorem and255 (y : Int32) : ∃ v, v ≤ 255 ∧ y &&& 255 = nn v := by
  refine ⟨(y.toBitVec &&& 255#32).toNat, ?_, ?_⟩
  · rw [BitVec.toNat_and]
    exact Nat.and_le_right
  · apply Int32.toBitVec_inj.mp
    show y.toBitVec &&& 255#32 = BitVec.ofNat 32 _
    rw [BitVec.ofNat_toNat, BitVec.setWidth_eq]
theorem shr255 (X : BitVec 32) (n : Nat) (hn : n ≤ 24) : (X >>> n) &&& 255#32 = (X.sshiftRight n) &&& 255#32 := by
  apply BitVec.eq_of_getLsbD_eq
  intro i hi
  rw [BitVec.getLsbD_and, BitVec.getLsbD_and]
  by_cases e : i < 8
  · rw [BitVec.getLsbD_ushiftRight, BitVec.getLsbD_sshiftRight, if_pos (by omega)]
    simp [show ¬ 32 ≤ i by omega]
  · have : ∀ i, i < 32 → ¬ i < 8 → (255#32).getLsbD i = false := by decide
    rw [this i hi e, Bool.and_false, Bool.and_false]
theorem sbU (x : Int32) (j : Nat) (hj : j < 4) : (x.toUInt32 >>> ((ii (24 - 8 * j)).toUInt32 &&& Int32.toUInt32 31)).toInt32 &&& 255 = sb x j := by
  apply Int32.toBitVec_inj.mp
  have : j = 0 ∨ j = 1 ∨ j = 2 ∨ j = 3 := by omega
  rcases this with rfl | rfl | rfl | rfl
  · exact shr255 x.toBitVec 24 (by omega)
  · exact shr255 x.toBitVec 16 (by omega)
  · exact shr255 x.toBitVec 8 (by omega)
  · exact shr255 x.toBitVec 0 (by omega)
theorem q76 : (76 : Int32) = nn 76 := rfl
def txt (t0 : Nat → Int32) (ts : Nat) (x : Int32) (j : Nat) : Nat → Int32 := fun i => if ts ≤ i ∧ i < ts + j then sb x (i - ts) else t0 i
theorem txt_up (t0 : Nat → Int32) (ts : Nat) (x : Int32) (j : Nat) : upd (txt t0 ts x j) (ts + j) (sb x j) = txt t0 ts x (j + 1) := by
  funext i
  by_cases e : i = ts + j
  · subst e
    rw [upd_same]
    show _ = if _ then _ else _
    rw [if_pos (by omega), Nat.add_sub_cancel_left]
  · rw [upd_ne _ _ e]
    show (if _ then _ else _) = if _ then _ else _
    by_cases e2 : ts ≤ i ∧ i < ts + j
    · rw [if_pos e2, if_pos (by omega)]
    · rw [if_neg e2, if_neg (by omega)]
theorem txt_0 (t0 : Nat → Int32) (ts : Nat) (x : Int32) : txt t0 ts x 0 = t0 := by
  funext i
  exact if_neg (by omega)
theorem sign6 {G0 : zH} {c0 c bu : Nat → Nat} {N : Nat} {a : TA} {ro : TR} {st : TS} {hi : TH} {ke : TK} {pg qg : TP} {sc : Nat → Int32} {W : Nat → LVa} {x : Int32} (hts : a.2.1 + 4 ≤ 80) : ∀ fu j G, j ≤ 4 → 4 - j < fu → Cl G c bu N (txt a.1 a.2.1 x j, a.2.1 + j, a.2.2) ro st hi ke pg qg sc W → Fo G0 c0 G c → ok (fX6_sign_b16 fu G 0 x (ii (24 - 8 * j))) fun z => z.1 = nn (a.2.1 + 4) ∧ Cl z.2 c bu N (txt a.1 a.2.1 x 4, a.2.1 + 4, a.2.2) ro st hi ke pg qg sc W ∧ Fo G0 c0 z.2 c := by
  intro fu
  induction fu with
  | zero => intro j G _ h; omega
  | succ fu ih =>
    intro j G hj hfu h hf
    unfold fX6_sign_b16
    by_cases e : j = 4
    · subst e
      refine ift (by decide) ?_
      unfold fX6_sign_b52
      refine sa1 (fi_at h.1.g0 rfl) ?_
      exact ok_some ⟨rfl, h, hf⟩
    · refine ifn (by rw [q0, ii_lt_nn (by omega) (by omega)]; omega) ?_
      refine sa1 h.1.r0_0 ?_
      refine sa1 (fi_at h.1.g0 rfl) ?_
      rw [sbU x j (by omega)]
      refine sa1 (aW_at h.1.g1 (show a.2.1 + j < 80 by omega) (by omega)) ?_
      have x1 := h.1.u1 (upd (txt a.1 a.2.1 x j) (a.2.1 + j) (sb x j))
      have u1 : Up 0 G c 0 (G.set 1 (.inl (0, (80, .inl (upd (txt a.1 a.2.1 x j) (a.2.1 + j) (sb x j)))))) c 0 := Up.set h.1.g1 rfl (h.2.2.1 1 (by decide))
      rw [txt_up] at x1 u1 ⊢
      have h2 := h.fx x1 u1 rfl rfl
      refine sa1 (fi_at h2.1.g0 rfl) ?_
      rw [show nn (a.2.1 + j, a.2.2).1 + 1 = nn (a.2.1 + (j + 1)) by rw [q1, nn_add]; rfl]
      obtain ⟨G4, g1, g2, g3⟩ := h2.1.s0_1 h2.2.2.1 0 (a.2.1 + (j + 1))
      refine sa1 g1 ?_
      rw [show ii (24 - 8 * (j : Int)) + (-8 : Int32) = ii (24 - 8 * ((j + 1 : Nat) : Int)) by rw [show (-8 : Int32) = ii (-8) from rfl, ii_add]; congr 1; omega]
      refine zl ?_
      exact ih (j + 1) G4 (by omega) (by omega) (h2.fx g2 g3 rfl rfl) (hf.trans ((u1.1.fo (by omega)).trans (g3.1.fo (by omega))))
def Mt (M M1 : MS) : Prop := (M1.1 1 = M.1 1 ∧ M1.1 8 = M.1 8 ∧ M1.1 9 = M.1 9 ∧ M1.1 11 = M.1 11 ∧ M1.1 17 = M.1 17 ∧ M1.1 20 = M.1 20 ∧ M1.1 21 = M.1 21) ∧ (M1.2.1 6 = M.2.1 6 ∧ M1.2.1 7 = M.2.1 7 ∧ M1.2.1 10 = M.2.1 10 ∧ M1.2.1 12 = M.2.1 12 ∧ M1.2.1 13 = M.2.1 13) ∧ M1.2.2 = M.2.2
theorem sign7 {M0 : MS} {t0 : Nat → Int32} {ts : Nat} {x : Int32} (hts : ts + 4 ≤ 80) : ∀ fu j M, j ≤ 4 → 4 - j < fu → M.1 4 = nn ts → (∀ i, i < 80 → M.2.1 3 i = txt t0 ts x j i) → Mt M0 M → ∃ M1, fX7_sign_b18 fu M x (nn j) = some (nn (ts + 4), M1) ∧ M1.1 4 = nn (ts + 4) ∧ (∀ i, i < 80 → M1.2.1 3 i = txt t0 ts x 4 i) ∧ Mt M0 M1 := by
  intro fu
  induction fu with
  | zero => intro j M _ h; omega
  | succ fu ih =>
    intro j M hj hfu h4 h3 hm
    unfold fX7_sign_b18
    rw [q4, if_le (by omega) (by omega)]
    by_cases e : 4 ≤ j
    · have : j = 4 := by omega
      subst this
      rw [if_pos e]
      unfold fX7_sign_b53
      rw [h4, q4, nn_add, zlt]
      exact ⟨_, rfl, rfl, h3, hm⟩
    · rw [if_neg e, h4, nn_add, wr_nn (show ts + j < 80 by omega) (by omega), ob1_some, nn_tn (by omega), zlt, q1, nn_add]
      refine ih (j + 1) _ (by omega) (by omega) h4 (fun i hi => ?_) hm
      show upd (M.2.1 3) (ts + j) (sb x j) i = _
      rw [← txt_up]
      by_cases ei : i = ts + j
      · subst ei
        rw [upd_same, upd_same]
      · rw [upd_ne _ _ ei, upd_ne _ _ ei]
        exact h3 i hi
theorem op_sign : Op_sign Inv := by
  intro k G x hI
  obtain ⟨c, bu, a, ro, st, ⟨s, u, f, lv⟩, ke, pg, qg, sc, W, M, A, B, T, St, kd, h1, h2, h3, h4, h5, h6⟩ := hI
  have hts : a.2.1 ≤ 80 := h5.2.1.1
  have hM4 : M.1 4 = nn a.2.1 := h6.1.2
  have hM4' : (mI M 0 0).1 4 = nn a.2.1 := h6.1.2
  by_cases e : a.2.1 + 4 ≤ 80
  · have hc6 : ok (fX6_sign G 0 x) (fun z => z.1 = nn (a.2.1 + 4) ∧ Cl z.2 c bu (3016 * (4 * (k + 1) + a.2.1)) (txt a.1 a.2.1 x 4, a.2.1 + 4, a.2.2) ro st (s, u, f, lv) ke pg qg sc W ∧ Fo G c z.2 c) := by
      unfold fX6_sign
      refine sa1 (fi_at h1.1.g0 rfl) ?_
      refine ift (by rw [q4, nn_add, q80, nn_le (by omega) (by omega)]; exact e) ?_
      exact sign6 e FU 0 G (by omega) (by rw [FU_eq]; omega) (by rw [txt_0]; exact h1) (Fo.refl _ _)
    obtain ⟨⟨r', G1⟩, e6, hr, x1, x2⟩ := hc6
    change r' = nn (a.2.1 + 4) at hr
    subst hr
    obtain ⟨A1, B1, y1, y2, hcp, hfin⟩ := op_st (k := k) h2 h3 h1.2.2.2.1 h4 x1 x2
    obtain ⟨M1, r1, r2, r3, ⟨r4, r5, r6⟩⟩ := sign7 (M0 := M) (t0 := a.1) (x := x) e FU 0 (mI M 0 0) (by omega) (by rw [FU_eq]; omega) hM4' (fun i hi => by rw [txt_0, (h5.1 i hi).1]; exact h6.1.1 i hi) ⟨⟨rfl, rfl, rfl, rfl, rfl, rfl, rfl⟩, ⟨rfl, rfl, rfl, rfl, rfl⟩, rfl⟩
    have hT : ∀ i, i < 80 → txt a.1 a.2.1 x 4 i = nn (txt a.1 a.2.1 x 4 i).toNatClampNeg ∧ (txt a.1 a.2.1 x 4 i).toNatClampNeg ≤ 255 := by
      intro i hi
      have : ∃ v, v ≤ 255 ∧ txt a.1 a.2.1 x 4 i = nn v := by
        unfold txt
        by_cases e2 : a.2.1 ≤ i ∧ i < a.2.1 + 4
        · rw [if_pos e2]
          exact and255 _
        · rw [if_neg e2]
          exact ⟨T i, (h5.1 i hi).2, (h5.1 i hi).1⟩
      obtain ⟨v, w1, w2⟩ := this
      rw [w2, nn_tn (by omega)]
      exact ⟨rfl, w1⟩
    have hI := hfin [] M1 (fun i => (txt a.1 a.2.1 x 4 i).toNatClampNeg) St kd (by show 3016 * (4 * k + (a.2.1 + 4)) + 0 ≤ _; omega) (by show 3016 * (4 * k + (a.2.1 + 4)) + 12 * 0 ≤ _; omega) ⟨hT, ⟨e, h5.2.1.2⟩, h5.2.2.1, h5.2.2.2.1, h5.2.2.2.2.1, h5.2.2.2.2.2.1, h5.2.2.2.2.2.2⟩ ⟨⟨fun i hi => by rw [r3 i hi]; exact (hT i hi).1, r2⟩, ⟨by rw [r4.1]; exact h6.2.1.1, fun j hj => by rw [r6]; exact h6.2.1.2 j hj⟩, h6.2.2.1.cg r4.2.1 r4.2.2.1 r5.1 r5.2.1, h6.2.2.2.1.cg r4.2.2.2.1 r5.2.2.1, fun j hj => by rw [r5.2.2.2.1, r5.2.2.2.2]; exact h6.2.2.2.2.1 j hj, ⟨by rw [r4.2.2.2.2.1]; exact h6.2.2.2.2.2.1.1, by rw [r4.2.2.2.2.2.1]; exact h6.2.2.2.2.2.1.2.1, fun j hj => by rw [r6]; exact hcp [] M1 _ _ _ (h6.2.2.2.2.2.1.2.2.1 j hj), fun j hj => by rw [r6]; exact hcp [] M1 _ _ _ (h6.2.2.2.2.2.1.2.2.2 j hj)⟩, fun j hj => by rw [r6]; exact ⟨(h6.2.2.2.2.2.2.1 j hj).1, fun hk => hcp [] M1 _ _ _ ((h6.2.2.2.2.2.2.1 j hj).2 hk)⟩, by unfold RTy; rw [r4.2.2.2.2.2.2]; exact h6.2.2.2.2.2.2.2⟩
    rw [List.append_nil] at hI
    refine ⟨nn (a.2.1 + 4), G1, A1, M, B1, M1, B1, e6, y1, y2, ?_, rfl, hI⟩
    unfold fX7_sign
    rw [zlt, hM4', q76, if_le (by omega) (by omega), if_pos (by omega)]
    exact r1
  · obtain ⟨A1, B1, e1, e2, hI⟩ := op_q (M1 := mI M 0 0) h2 h3 h1.2.2.2.1 h4 h5 h6 h1 (Fo.refl _ _) (Mq_i0 M 0) (Nat.le_refl _) hM4 h6.2.1 h5.2.1.2.2 h5.2.1.2.1 h5.2.2.2.2.2.2
    refine ⟨-1, G, A1, M, B1, mI M 0 0, B1, ?_, e1, e2, ?_, rfl, hI⟩
    · unfold fX6_sign
      rw [show fi G 0 6 1 = some (nn a.2.1) from fi_at h1.1.g0 rfl, ob1_some, q4, nn_add, q80, if_le (by omega) (by omega), if_neg e]
    · unfold fX7_sign
      rw [zlt, hM4', q76, if_le (by omega) (by omega), if_neg (by omega)]
