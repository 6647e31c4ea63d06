/-! years: draws -/
def nx (v : Int32) : Int32 := v * 1103515245 + 12345
def dw (v : Int32) : Nat := ((nx v).toUInt32 >>> 16).toNat
theorem u32_nn (y : UInt32) : y.toInt32 = nn y.toNat := by
  have h : y = UInt32.ofNat y.toNat := UInt32.ofNat_toNat.symm
  have h2 : (UInt32.ofNat y.toNat).toInt32 = Int32.ofNat y.toNat := rfl
  rw [← h] at h2
  exact h2
theorem dr_eq (v : Int32) : ((nx v).toUInt32 >>> ((16 : Int32).toUInt32 &&& Int32.toUInt32 31)).toInt32 = nn (dw v) ∧ dw v < 65536 := by
  have h16 : ((16 : Int32).toUInt32 &&& Int32.toUInt32 31) = 16 := by decide
  rw [h16]
  refine ⟨u32_nn _, ?_⟩
  unfold dw
  rw [UInt32.toNat_shiftRight]
  have h1 := (nx v).toUInt32.toNat_lt
  have h2 : (16 : UInt32).toNat % 32 = 16 := by decide
  rw [h2, Nat.shiftRight_eq_div_pow]
  omega
theorem draw6 {G : zH} {L m : Nat} {v : Int32} (h : G[L]? = some (.inr (0, [.int v]))) (hm : 1 ≤ m) (hm2 : m < 2147483648) : fX0_draw G L (nn m) = some (nn (dw v % m), G.set L (.inr (0, [.int (nx v)]))) := by
  obtain ⟨d1, d2⟩ := dr_eq v
  unfold fX0_draw
  have e1 : fset G L 0 0 (.int (v * 1103515245 + 12345)) = some (G.set L (.inr (0, [.int (nx v)]))) := fset_at h (by simp)
  rw [fi_at h rfl, ob1_some, e1, ob1_some, if_pos (by rw [q1, nn_le (by omega) hm2]; exact hm), fi_at (v := nx v) (G_same h) rfl, ob1_some, nz_nn hm hm2, ob1_some, d1, mod_nn (by omega) hm2]
theorem draw7 {M : MS} {m : Nat} {v : Int32} (h : M.1 33 = v) (hm : 1 ≤ m) (hm2 : m < 2147483648) : fX7_draws M (nn m) = some (nn (dw v % m), mI M 33 (nx v)) := by
  obtain ⟨d1, d2⟩ := dr_eq v
  unfold fX7_draws
  rw [h, zlt, nz_nn hm hm2, ob1_some]
  have : (mI M 33 (v * 1103515245 + 12345)).1 33 = nx v := rfl
  rw [this, d1, mod_nn (by omega) hm2]
  rfl
/-- a cell that is neither the class's nor the reference's -/
theorem Cl.cell {G G' : zH} {c c' bu : Nat → Nat} {n b b' : Nat} {a : TA} {ro : TR} {st : TS} {hi : TH} {ke : TK} {pg qg : TP} {sc : Nat → Int32} {W : Nat → LVa} (h : Cl G c bu (n + b) a ro st hi ke pg qg sc W) (u : Up 112 G c b G' c' b') : Cl G' c' bu (n + b') a ro st hi ke pg qg sc W ∧ Fo G c G' c' := by
  obtain ⟨h1, h2, h3, h4, h5, h6⟩ := h
  have hl := u.1.1
  refine ⟨⟨h1.kept u.1 (fun k hk => by rw [h3 k hk]; omega), fun i hi => (h2 i hi).kept u.1 (by omega), fun k hk => ?_, fun k k1 k2 => ?_, by omega, ?_⟩, u.1.1, u.1.2.1, fun k hk hc => u.1.2.2 k hk (by rw [hc]; decide)⟩
  · rw [u.1.2.1 k (by omega)]
    exact h3 k hk
  · rw [u.1.2.1 k (by omega)]
    exact h4 k k1 k2
  · have := u.2
    unfold Rm at *
    omega
theorem dcell {i b b' L : Nat} {G G' : zH} {c c' : Nat → Nat} {v : Int32} (u : Up i G c b G' c' b') (hi : i ≠ 112) (h : G[L]? = some (.inr (0, [.int v])) ∧ c L = 900) : G'[L]? = some (.inr (0, [.int v])) ∧ c' L = 900 := ⟨(u.1.2.2 L (G_lt h.1) (by rw [h.2]; omega)).trans h.1, (u.1.2.1 L (G_lt h.1)).trans h.2⟩
def YC (G : zH) (c : Nat → Nat) (N L : Nat) (a : TA) (ro : TR) (s u f : Nat) (lv : Nat → Option Nat) (ke : TK) (pg qg : TP) (sc : Nat → Int32) (W0 : Nat → LVa) (on : Nat) (P : PC) (an : Nat) (sg : Nat → Int32) (v : Int32) : Prop := ∃ bu W, Cl G c bu N a ro (on, an, sg) (s, u, f, lv) ke pg qg sc W ∧ (∀ i, i < 34 → W i = W0 i) ∧ (W 35).1 = P ∧ bdM (W 35).2.1 (W 35).2.2 (sz P) ∧ G[L]? = some (.inr (0, [.int v])) ∧ c L = 900
theorem YC.draw {G : zH} {c : Nat → Nat} {N L : Nat} {a : TA} {ro : TR} {s u f : Nat} {lv : Nat → Option Nat} {ke : TK} {pg qg : TP} {sc : Nat → Int32} {W0 : Nat → LVa} {on : Nat} {P : PC} {an : Nat} {sg : Nat → Int32} {v : Int32} (h : YC G c N L a ro s u f lv ke pg qg sc W0 on P an sg v) (v' : Int32) : YC (G.set L (.inr (0, [.int v']))) c N L a ro s u f lv ke pg qg sc W0 on P an sg v' ∧ Fo G c (G.set L (.inr (0, [.int v']))) c := by
  obtain ⟨bu, W, h1, h2, h3, h4, h5, h6⟩ := h
  have u1 : Up 112 G c 0 (G.set L (.inr (0, [.int v']))) c 0 := Up.set h5 rfl (by rw [h6])
  obtain ⟨k1, k2⟩ := Cl.cell (n := N) h1 u1
  exact ⟨⟨bu, W, k1, h2, h3, h4, G_same h5, h6⟩, k2⟩
def Fy (M0 M : MS) : Prop := (∀ j, j ≠ 9 → j ≠ 11 → j ≠ 33 → M.1 j = M0.1 j) ∧ (∀ j, j ≠ 7 → j ≠ 10 → j ≠ 12 → j ≠ 14 → M.2.1 j = M0.2.1 j) ∧ M.2.2 = M0.2.2
theorem Fy.trans {M M1 M2 : MS} (h : Fy M M1) (h2 : Fy M1 M2) : Fy M M2 := ⟨fun j a b c => (h2.1 j a b c).trans (h.1 j a b c), fun j a b c d => (h2.2.1 j a b c d).trans (h.2.1 j a b c d), h2.2.2.trans h.2.2⟩
theorem Ft.fy {M M1 : MS} (h : Ft M M1) : Fy M M1 := ⟨fun j _ a _ => h.1 j a, fun j _ a b _ => h.2.1 j a b, h.2.2⟩
theorem Fb.fy {M M1 : MS} (h : Fb M M1) : Fy M M1 := ⟨fun j _ a _ => h.1 j a, fun j _ a _ _ => h.2.1 j a, h.2.2⟩
theorem Fa.fy {M M1 : MS} (h : Fa M M1) : Fy M M1 := ⟨fun j a _ _ => h.1 j a, fun j a _ _ _ => h.2.1 j a, h.2.2⟩
def YR (M0 M : MS) (on : Nat) (P : PC) (an : Nat) (St : Nat → Nat) (v : Int32) (stk : Nat → Nat) : Prop := RBk M P ∧ RSt M St on an ∧ (∃ mk : Nat → Int, RMk M (P, mk, stk) ∧ bdM mk stk (sz P)) ∧ M.1 33 = v ∧ Fy M0 M
theorem YR.draw {M0 M : MS} {on : Nat} {P : PC} {an : Nat} {St : Nat → Nat} {v : Int32} {stk : Nat → Nat} (h : YR M0 M on P an St v stk) (v' : Int32) : YR M0 (mI M 33 v') on P an St v' stk := by
  obtain ⟨h1, h2, ⟨mk, h3, h4⟩, h5, h6⟩ := h
  exact ⟨h1.cg rfl rfl, h2.cg rfl rfl rfl rfl, ⟨mk, h3, h4⟩, rfl, h6.trans ⟨fun j _ _ hj => upd_ne _ _ hj, fun _ _ _ _ _ => rfl, rfl⟩⟩
theorem yr_step {on : Nat} (hon : on ≤ 1600) (P : PC) (an : Nat) (St : Nat → Nat) (sg : Nat → Int32) (v : Int32) (hk : okP on an P) (hz : sz P ≤ 3000) (han : an ≤ 6000) (hSG : SG sg St on an) : ∃ P' an' St' sg' v', okP on an' P' ∧ sz P' ≤ 3000 ∧ an' ≤ 6000 ∧ an ≤ an' ∧ SG sg' St' on an' ∧ (∀ k, k < 1600 + an → sg' k = sg k ∧ St' k = St k) ∧ (∀ G c N L a ro s u f lv ke pg qg sc W0, YC G c N L a ro s u f lv ke pg qg sc W0 on P an sg v → ok (fX6_doDrawnEdit G 0 L) fun G' => ∃ c', YC G' c' N L a ro s u f lv ke pg qg sc W0 on P' an' sg' v' ∧ Fo G c G' c') ∧ ∀ M0 M stk, YR M0 M on P an St v stk → ∃ M', fX7_drawnEdit M = some M' ∧ YR M0 M' on P' an' St' v' stk := by
  have ht : ∀ p, p < sz P → 1 ≤ St (srcAt P p) ∧ St (srcAt P p) ≤ 127 := fun p hp => (hSG (srcAt P p) (okP_src hk hp)).2
  have hwf := okP_wf hk
  have hok1 : okP 1600 6000 P := okP_more hk hon han
  have hm4 := Nat.mod_lt (dw v) (show 0 < 4 by omega)
  have same : (∀ k, k < 1600 + an → sg k = sg k ∧ St k = St k) := fun _ _ => ⟨rfl, rfl⟩
  by_cases e2 : 2 ≤ dw v % 4
  · by_cases e0 : sz P = 0
    · refine ⟨P, an, St, sg, nx v, hk, hz, han, Nat.le_refl _, hSG, same, ?_, ?_⟩
      · intro G c N L a ro s u f lv ke pg qg sc W0 hY
        obtain ⟨k1, k2⟩ := hY.draw (nx v)
        obtain ⟨bu, W, h1, h2, h3, h4, h5, h6⟩ := hY
        unfold fX6_doDrawnEdit
        refine sa1 (isO_at h5) ?_
        rw [q4]
        refine sa2 (draw6 h5 (by omega) (by omega)) ?_
        refine ift (by rw [q2, nn_le (by omega) (by omega)]; exact e2) ?_
        have hk1 := k1
        obtain ⟨bu1, W1, g1, g2, g3, g4, g5, g6⟩ := hk1
        refine sa1 g1.1.r0_8 ?_
        refine sa1 g1.trial.n3 ?_
        refine ift (by rw [g3, e0]; decide) ?_
        exact ok_some ⟨c, k1, k2⟩
      · intro M0 M stk hY
        refine ⟨_, ?_, hY.draw (nx v)⟩
        have hY1 := hY.draw (nx v)
        unfold fX7_drawnEdit
        rw [q4, draw7 hY.2.2.2.1 (by omega) (by omega), ob2_some, if_pos (by rw [q2, nn_le (by omega) (by omega)]; exact e2), hY1.1.1, if_pos (by rw [e0]; decide)]
    · obtain ⟨p, hpd⟩ : ∃ p, p = dw (nx v) % sz P := ⟨_, rfl⟩
      have hp : p < sz P := by rw [hpd]; exact Nat.mod_lt _ (by omega)
      have c6 : ∀ (G : zH) (c : Nat → Nat) (N L : Nat) (a : TA) (ro : TR) (s u f : Nat) (lv : Nat → Option Nat) (ke : TK) (pg qg : TP) (sc : Nat → Int32) (W0 : Nat → LVa) (Q : zH → Prop), YC G c N L a ro s u f lv ke pg qg sc W0 on P an sg v → (∀ G1, YC G1 c N L a ro s u f lv ke pg qg sc W0 on P an sg (nx (nx v)) → Fo G c G1 c → ok (if nn (dw v % 4) = (2 : Int32) then (ob1 (frf G1 0 6 8) fun qv24 => ob1 (isO G1 qv24 2) fun u25 => ob1 (fX2_take G1 qv24 (nn p) (1 : Int32)) fun G27 => some G27) else ob1 (frf G1 0 6 8) fun qv16 => ob1 (fi G1 qv16 2 3) fun v17 => if (3000 : Int32) ≤ v17 then (some G1) else ob1 (frf G1 0 6 8) fun qv19 => ob1 (frf G1 0 6 7) fun qv20 => ob1 (isO G1 qv19 2) fun u21 => ob1 (fX2_lay G1 qv19 (nn p) (1 : Int32) (0 : Int32) qv20) fun G23 => some G23) Q) → ok (fX6_doDrawnEdit G 0 L) Q := by
        intro G c N L a ro s u f lv ke pg qg sc W0 Q hY H
        obtain ⟨k1, k2⟩ := hY.draw (nx v)
        obtain ⟨k3, k4⟩ := k1.draw (nx (nx v))
        obtain ⟨bu, W, h1, h2, h3, h4, h5, h6⟩ := hY
        unfold fX6_doDrawnEdit
        refine sa1 (isO_at h5) ?_
        rw [q4]
        refine sa2 (draw6 h5 (by omega) (by omega)) ?_
        refine ift (by rw [q2, nn_le (by omega) (by omega)]; exact e2) ?_
        obtain ⟨bu1, W1, g1, g2, g3, g4, g5, g6⟩ := k1
        refine sa1 g1.1.r0_8 ?_
        refine sa1 g1.trial.n3 ?_
        refine ifn (by rw [g3, q0, nn_le (by omega) (by omega)]; omega) ?_
        refine sa1 g1.1.r0_8 ?_
        refine sa1 g1.trial.n3 ?_
        refine sa1 (isO_at g5) ?_
        rw [g3]
        refine sa2 (draw6 g5 (by omega) (by omega)) ?_
        rw [← hpd]
        exact H _ k3 (k2.trans k4)
      have r7 : ∀ M0 M stk, YR M0 M on P an St v stk → ∃ M1, YR M0 M1 on P an St (nx (nx v)) stk ∧ fX7_drawnEdit M = if nn (dw v % 4) = (2 : Int32) then (ob2 (fX7_takesOut M1 (nn p) (1 : Int32)) fun v12 M11 => some M11) else if (3000 : Int32) ≤ (M1.1 11) then (some M1) else ob1 (fX7_laysOut M1 (nn p) (1 : Int32)) fun M9 => ob1 (fX7_laysIn M9 (1 : Int32) (0 : Int32)) fun M10 => some M10 := by
        intro M0 M stk hY
        have hY1 := hY.draw (nx v)
        have hY2 := hY1.draw (nx (nx v))
        refine ⟨_, hY2, ?_⟩
        unfold fX7_drawnEdit
        rw [q4, draw7 hY.2.2.2.1 (by omega) (by omega), ob2_some, if_pos (by rw [q2, nn_le (by omega) (by omega)]; exact e2), hY1.1.1, if_neg (by rw [q0, nn_le (by omega) (by omega)]; omega), draw7 hY1.2.2.2.1 (by omega) (by omega), ob2_some, ← hpd]
      by_cases e3 : dw v % 4 = 2
      · have e1 : p + 1 ≤ sz P := by omega
        refine ⟨takP P p 1, an, St, sg, nx (nx v), ok_takP hk, by rw [sz_takP e1]; omega, han, Nat.le_refl _, hSG, same, ?_, ?_⟩
        · intro G c N L a ro s u f lv ke pg qg sc W0 hY
          refine c6 G c N L a ro s u f lv ke pg qg sc W0 _ hY ?_
          rintro G1 ⟨bu, W, h1, h2, h3, h4, h5, h6⟩ hf
          refine ift (by rw [e3]; rfl) ?_
          refine sa1 h1.1.r0_8 ?_
          have hL := h1.trial
          rw [h3] at hL
          refine sa1 hL.io ?_
          obtain ⟨d, hd⟩ := h1.rm (i := 35) (by omega)
          rw [q1]
          refine ca1 (take_sp hL hwf e1 hz h4 hd) ?_
          rintro G2 ⟨c2, b2, l2, u2⟩
          obtain ⟨d1, d2⟩ := dcell u2 (by omega) ⟨h5, h6⟩
          refine ok_some ⟨c2, ⟨_, _, h1.leaf (i := 35) (w := (takP P p 1, goM p 1 (W 35).2.1, (W 35).2.2)) (by omega) u2 l2, fun i hi => ?_, ?_, ?_, d1, d2⟩, hf.trans (u2.1.fo (by omega))⟩
          · rw [va_up_ne _ _ (by omega)]
            exact h2 i hi
          · rw [va_up_same]
          · rw [va_up_same]
            show bdM (goM p 1 (W 35).2.1) (W 35).2.2 (sz (takP P p 1))
            rw [sz_takP e1]
            exact bd_go h4 e1
        · intro M0 M stk hY
          obtain ⟨M1, ⟨y1, y2, ⟨mk, y3, y4⟩, y5, y6⟩, d1⟩ := r7 M0 M stk hY
          obtain ⟨M2, f1, f2, f3, f4⟩ := takesOut7 (x := p) (n := 1) (mk := mk) (st := stk) y1 y2 hk ht y3 y4 e1
          refine ⟨M2, ?_, f2, f4.rst y2, ⟨goM p 1 mk, f3, ?_⟩, (f4.1 33 (by decide)).trans y5, y6.trans f4.fy⟩
          · rw [d1, if_pos (by rw [e3]; rfl), q1, f1, ob2_some]
          · rw [sz_takP e1]
            exact bd_go y4 e1
      · have e3' : ¬ nn (dw v % 4) = (2 : Int32) := by rw [q2, nn_eq (by omega) (by omega)]; exact e3
        by_cases e4 : sz P = 3000
        · refine ⟨P, an, St, sg, nx (nx v), hk, hz, han, Nat.le_refl _, hSG, same, ?_, ?_⟩
          · intro G c N L a ro s u f lv ke pg qg sc W0 hY
            refine c6 G c N L a ro s u f lv ke pg qg sc W0 _ hY ?_
            intro G1 hY1 hf
            have hY1' := hY1
            obtain ⟨bu, W, h1, h2, h3, h4, h5, h6⟩ := hY1'
            refine ifn e3' ?_
            refine sa1 h1.1.r0_8 ?_
            refine sa1 h1.trial.n3 ?_
            refine ift (by rw [h3, q3000, nn_le (by omega) (by omega)]; omega) ?_
            exact ok_some ⟨c, hY1, hf⟩
          · intro M0 M stk hY
            obtain ⟨M1, hY1, d1⟩ := r7 M0 M stk hY
            refine ⟨M1, ?_, hY1⟩
            rw [d1, if_neg e3', hY1.1.1, if_pos (by rw [q3000, nn_le (by omega) (by omega)]; omega)]
        · have e1 : p + 1 ≤ sz P := by omega
          have e5 : sz P + 1 ≤ 3000 := by omega
          have hszl : sz (layP P p 1 0) = sz P + 1 := by
            unfold layP
            exact sz_lay (Nat.zero_le _) (sz_clip e1)
          refine ⟨layP P p 1 0, an, St, sg, nx (nx v), ok_lay hk (ok_cutL (ok_cutR hk)), by rw [hszl]; exact e5, han, Nat.le_refl _, hSG, same, ?_, ?_⟩
          · intro G c N L a ro s u f lv ke pg qg sc W0 hY
            refine c6 G c N L a ro s u f lv ke pg qg sc W0 _ hY ?_
            rintro G1 ⟨bu, W, h1, h2, h3, h4, h5, h6⟩ hf
            refine ifn e3' ?_
            have hL := h1.trial
            rw [h3] at hL
            have hC := h1.clip
            refine sa1 h1.1.r0_8 ?_
            refine sa1 hL.n3 ?_
            refine ifn (by rw [q3000, nn_le (by omega) (by omega)]; omega) ?_
            refine sa1 h1.1.r0_8 ?_
            refine sa1 h1.1.r0_7 ?_
            refine sa1 hL.io ?_
            obtain ⟨d, hd⟩ := h1.rm2 (i := 35) (j := 34) (by omega) (by omega) (by omega)
            rw [q1, q0]
            refine ca1 (lay_sp (by omega) hwf e5 e1 (Nat.zero_le _) hok1 h4 hC hL hd) ?_
            rintro G5 ⟨c6, G6, b6, c5, b5, l5, u6, u5, l6⟩
            have hnew := h1.leaf2 (i := 35) (j := 34) (w := (layP P p 1 0, comeM 0 1 (W 35).2.1 (W 35).2.2, (W 35).2.2)) (w' := (cutL (cutR P p) 1, fun _ => -1, (W 34).2.2)) (by omega) (by omega) (by omega) u6 u5 l5 l6
            obtain ⟨d1, d2⟩ := dcell u5 (by omega) (dcell u6 (by omega) ⟨h5, h6⟩)
            refine ok_some ⟨c5, ⟨_, _, hnew, fun i hi => ?_, ?_, ?_, d1, d2⟩, hf.trans ((u6.1.fo (by omega)).trans (u5.1.fo (by omega)))⟩
            · rw [va_up_ne _ _ (by omega), va_up_ne _ _ (by omega)]
              exact h2 i hi
            · rw [va_up_same]
            · rw [va_up_same]
              show bdM (comeM 0 1 (W 35).2.1 (W 35).2.2) (W 35).2.2 (sz (layP P p 1 0))
              rw [hszl]
              exact bdM_come h4
          · intro M0 M stk hY
            obtain ⟨M1, hY1, d1⟩ := r7 M0 M stk hY
            obtain ⟨y1, y2, ⟨mk, y3, y4⟩, y5, y6⟩ := hY1
            obtain ⟨M2, a1, a2, a3, a4, a5⟩ := laysOut7 (M := M1) (p := p) (n := 1) (by omega)
            have hB2 : RBk M2 P := y1.cg (by rw [a3]) (a4 10 (by decide))
            obtain ⟨M3, b1, b2, b3⟩ := laysIn7 (lc := fun j => cod P (p + j)) (C := cutL (cutR P p) 1) (q := 0) hB2 hk hon han (Nat.zero_le _) (sz_clip e1) (by omega) e5 (fun j hj => by rw [a2 j hj]; exact y1.2.2 _ (by omega)) ⟨cod_small hk hon han (by omega), by rw [cod_clip hwf e1 (by omega), if_pos rfl]; rfl⟩ (fun j hj hj1 => by omega)
            refine ⟨M3, ?_, b2, b3.rst (y2.cg (by rw [a3]) (by rw [a3]) (a4 6 (by decide)) (a4 7 (by decide))), ⟨mk, fun k hk => ?_, ?_⟩, ?_, y6.trans (Fy.trans ⟨fun j _ _ _ => by rw [a3], fun j _ _ _ h => a4 j h, a5⟩ b3.fy)⟩
            · rw [d1, if_neg e3', y1.1, if_neg (by rw [q3000, nn_le (by omega) (by omega)]; omega), q1, a1, ob1_some, q0, b1, ob1_some]
            · rw [b3.2.1 12 (by decide), b3.2.1 13 (by decide), a4 12 (by decide), a4 13 (by decide)]
              exact y3 k hk
            · show bdM mk stk (sz (layP P p 1 0))
              rw [hszl]
              exact bdM_mono y4 (by omega)
            · rw [b3.1 33 (by decide), a3]
              exact y5
  · obtain ⟨w, hwd⟩ : ∃ w, w = dw (nx v) % 26 + 97 := ⟨_, rfl⟩
    have hw : 97 ≤ w ∧ w ≤ 122 := by have := Nat.mod_lt (dw (nx v)) (show 0 < 26 by omega); omega
    obtain ⟨p, hpd⟩ : ∃ p, p = dw (nx (nx v)) % (sz P + 1) := ⟨_, rfl⟩
    have hp : p ≤ sz P := by have := Nat.mod_lt (dw (nx (nx v))) (show 0 < sz P + 1 by omega); omega
    have c6 : ∀ (G : zH) (c : Nat → Nat) (N L : Nat) (a : TA) (ro : TR) (s u f : Nat) (lv : Nat → Option Nat) (ke : TK) (pg qg : TP) (sc : Nat → Int32) (W0 : Nat → LVa) (Q : zH → Prop), YC G c N L a ro s u f lv ke pg qg sc W0 on P an sg v → (∀ G1, YC G1 c N L a ro s u f lv ke pg qg sc W0 on P an sg (nx (nx (nx v))) → Fo G c G1 c → ok (if 3000 ≤ sz P then (fX6_doDrawnEdit_b87 G1) else if 6000 ≤ an then (fX6_doDrawnEdit_b87 G1) else ob1 (frf G1 0 6 8) fun qv45 => ob1 (frf G1 0 6 3) fun qv46 => ob1 (isO G1 qv46 4) fun u47 => ob1 (fX4_addedEnd G1 qv46) fun v49 => ob1 (isO G1 qv45 2) fun u50 => ob1 (fX2_insert G1 qv45 (nn p) v49 (1 : Int32)) fun G52 => ob1 (frf G52 0 6 3) fun qv53 => ob1 (isO G52 qv53 4) fun u54 => ob1 (fX4_add G52 qv53 (nn w)) fun G56 => fX6_doDrawnEdit_b87 G56) Q) → ok (fX6_doDrawnEdit G 0 L) Q := by
      intro G c N L a ro s u f lv ke pg qg sc W0 Q hY H
      obtain ⟨k1, k2⟩ := hY.draw (nx v)
      obtain ⟨k3, k4⟩ := k1.draw (nx (nx v))
      obtain ⟨k5, k6⟩ := k3.draw (nx (nx (nx v)))
      have hh := H _ k5 (k2.trans (k4.trans k6))
      obtain ⟨bu, W, h1, h2, h3, h4, h5, h6⟩ := hY
      unfold fX6_doDrawnEdit
      refine sa1 (isO_at h5) ?_
      rw [q4]
      refine sa2 (draw6 h5 (by omega) (by omega)) ?_
      refine ifn (by rw [q2, nn_le (by omega) (by omega)]; exact e2) ?_
      obtain ⟨bu1, W1, g1, g2, g3, g4, g5, g6⟩ := k1
      refine sa1 (isO_at g5) ?_
      rw [q26]
      refine sa2 (draw6 g5 (by omega) (by omega)) ?_
      rw [q97, nn_add, ← hwd]
      refine zl ?_
      obtain ⟨bu3, W3, i1, i2, i3, i4, i5, i6⟩ := k3
      refine sa1 i1.1.r0_8 ?_
      refine sa1 i1.trial.n3 ?_
      refine sa1 (isO_at i5) ?_
      rw [i3, q1, nn_add]
      refine sa2 (draw6 i5 (by omega) (by omega)) ?_
      rw [← hpd]
      obtain ⟨bu5, W5, j1, j2, j3, j4, j5, j6⟩ := k5
      refine sa1 j1.1.r0_8 ?_
      refine sa1 j1.trial.n3 ?_
      rw [j3, q3000, if_le (by omega) (by omega)]
      by_cases t1 : 3000 ≤ sz P
      · rw [if_pos t1] at hh ⊢
        exact hh
      · rw [if_neg t1] at hh ⊢
        refine sa1 j1.1.r0_3 ?_
        refine sa1 (fi_at (v := nn an) j1.1.g4 rfl) ?_
        rw [q6000, if_le (by omega) (by omega)]
        exact hh
    have r7 : ∀ M0 M stk, YR M0 M on P an St v stk → ∃ M1, YR M0 M1 on P an St (nx (nx (nx v))) stk ∧ fX7_drawnEdit M = ob2 (fX7_typesIn M1 (nn p) (nn w)) fun v19 M18 => some M18 := by
      intro M0 M stk hY
      have hY1 := hY.draw (nx v)
      have hY2 := hY1.draw (nx (nx v))
      have hY3 := hY2.draw (nx (nx (nx v)))
      refine ⟨_, hY3, ?_⟩
      unfold fX7_drawnEdit
      rw [q4, draw7 hY.2.2.2.1 (by omega) (by omega), ob2_some, if_neg (by rw [q2, nn_le (by omega) (by omega)]; exact e2), q26, draw7 hY1.2.2.2.1 (by omega) (by omega), ob2_some, q97, nn_add, zlt, hY2.1.1, q1, nn_add, draw7 hY2.2.2.2.1 (by omega) (by omega), ob2_some, ← hpd, show 97 + dw (nx v) % 26 = w by omega]
    by_cases e3 : sz P = 3000
    · refine ⟨P, an, St, sg, nx (nx (nx v)), hk, hz, han, Nat.le_refl _, hSG, same, ?_, ?_⟩
      · intro G c N L a ro s u f lv ke pg qg sc W0 hY
        refine c6 G c N L a ro s u f lv ke pg qg sc W0 _ hY ?_
        intro G1 hY1 hf
        refine ift (by omega) ?_
        exact ok_some ⟨c, hY1, hf⟩
      · intro M0 M stk hY
        obtain ⟨M1, hY1, d1⟩ := r7 M0 M stk hY
        refine ⟨M1, ?_, hY1⟩
        rw [d1]
        unfold fX7_typesIn
        rw [isPlace7_sp hY1.1 (by omega), ob1_some, if_neg (by rw [if_pos hp]; decide), hY1.1.1, q3000, if_eq (by omega) (by omega), if_pos e3, ob2_some]
    · by_cases e4 : an = 6000
      · refine ⟨P, an, St, sg, nx (nx (nx v)), hk, hz, han, Nat.le_refl _, hSG, same, ?_, ?_⟩
        · intro G c N L a ro s u f lv ke pg qg sc W0 hY
          refine c6 G c N L a ro s u f lv ke pg qg sc W0 _ hY ?_
          intro G1 hY1 hf
          refine ifn (by omega) ?_
          refine ift (by omega) ?_
          exact ok_some ⟨c, hY1, hf⟩
        · intro M0 M stk hY
          obtain ⟨M1, hY1, d1⟩ := r7 M0 M stk hY
          refine ⟨M1, ?_, hY1⟩
          rw [d1]
          unfold fX7_typesIn
          rw [isPlace7_sp hY1.1 (by omega), ob1_some, if_neg (by rw [if_pos hp]; decide), hY1.1.1, q3000, if_eq (by omega) (by omega), if_neg e3, hY1.2.1.2.1, q6000, if_eq (by omega) (by omega), if_pos e4, ob2_some]
      · have hsz := sz_insP (first := 1600 + an) (n := 1) hp
        refine ⟨insP P p (1600 + an) 1, an + 1, stA St an (fun _ => w) 1, adds sg an (fun _ => nn w) 1, nx (nx (nx v)), ok_insP hk (Nat.le_refl _), by rw [hsz]; omega, by omega, by omega, SG_adds hSG hon (fun _ _ => ⟨rfl, by omega, by omega⟩), fun k hk => ?_, ?_, ?_⟩
        · unfold adds stA
          rw [if_neg (by omega), if_neg (by omega)]
          exact ⟨rfl, rfl⟩
        · intro G c N L a ro s u f lv ke pg qg sc W0 hY
          refine c6 G c N L a ro s u f lv ke pg qg sc W0 _ hY ?_
          rintro G1 ⟨bu, W, h1, h2, h3, h4, h5, h6⟩ hf
          refine ifn (by omega) ?_
          refine ifn (by omega) ?_
          have hL := h1.trial
          rw [h3] at hL
          refine sa1 h1.1.r0_8 ?_
          refine sa1 h1.1.r0_3 ?_
          refine sa1 h1.1.io4 ?_
          refine sa1 (addedEnd_sp h1.1) ?_
          refine sa1 hL.io ?_
          obtain ⟨d, hd⟩ := h1.rm (i := 35) (by omega)
          rw [q1]
          refine ca1 (insert_sp hL hk hp (by omega) (Nat.le_refl _) hon han h4 hd) ?_
          rintro G2 ⟨c2, b2, l2, u2⟩
          obtain ⟨d1, d2⟩ := dcell u2 (by omega) ⟨h5, h6⟩
          have x2 := h1.leaf (i := 35) (w := (insP P p (1600 + an) 1, comeM p 1 (W 35).2.1 (W 35).2.2, (W 35).2.2)) (by omega) u2 l2
          refine sa1 x2.1.r0_3 ?_
          refine sa1 x2.1.io4 ?_
          refine ca1 (add4_sp x2.1 x2.2.2.1 0 (v := w) (by omega) (by show an < 6000; omega)) ?_
          rintro G3 ⟨y1, y2⟩
          obtain ⟨d3, d4⟩ := dcell y2 (by omega) ⟨d1, d2⟩
          have had : upd sg (1600 + an) (nn w) = adds sg an (fun _ => nn w) 1 := by
            have := adds_succ sg an (fun _ => nn w) 0
            rw [adds_zero] at this
            exact this
          have x3 := x2.fx y1 y2 rfl rfl
          refine ok_some ⟨c2, ⟨va_up bu 35 b2, va_up W 35 (insP P p (1600 + an) 1, comeM p 1 (W 35).2.1 (W 35).2.2, (W 35).2.2), ?_, fun i hi => ?_, ?_, ?_, d3, d4⟩, hf.trans ((u2.1.fo (by omega)).trans (y2.1.fo (by omega)))⟩
          · rw [← had]
            exact x3
          · rw [va_up_ne _ _ (by omega)]
            exact h2 i hi
          · rw [va_up_same]
          · rw [va_up_same]
            show bdM (comeM p 1 (W 35).2.1 (W 35).2.2) (W 35).2.2 (sz (insP P p (1600 + an) 1))
            rw [hsz]
            exact bdM_come h4
        · intro M0 M stk hY
          obtain ⟨M1, ⟨y1, y2, ⟨mk, y3, y4⟩, y5, y6⟩, d1⟩ := r7 M0 M stk hY
          have hA := (Ad.zero (M := M1) (an := an) (t := fun _ => w) y2.2.1).succ (x := nn w) rfl
          obtain ⟨a1, a2, a3⟩ := hA.1
          have hB1 : RBk (mI (mA M1 7 (upd (M1.2.1 7) (an + 0) (nn w))) 9 (nn (an + 0) + nn 1)) P := y1.cg (a1 11 (by decide)) (a2 10 (by decide))
          obtain ⟨M2, b1, b2, b3, b4⟩ := comesIn7 (M := mI (mA M1 7 (upd (M1.2.1 7) (an + 0) (nn w))) 9 (nn (an + 0) + nn 1)) (mk := mk) (st := stk) (n := 1) hB1 (fun k hk => y3 k hk) y4 hk hon (by omega) hp (Nat.le_refl _) (by omega)
          refine ⟨M2, ?_, b2, b4.rst (hA.st y2 (by omega)), ⟨comeM p 1 mk stk, b3, ?_⟩, ?_, y6.trans (hA.1.fy.trans b4.fy)⟩
          · rw [d1]
            unfold fX7_typesIn
            rw [isPlace7_sp y1 (by omega), ob1_some, if_neg (by rw [if_pos hp]; decide), y1.1, q3000, if_eq (by omega) (by omega), if_neg e3, y2.2.1, q6000, if_eq (by omega) (by omega), if_neg e4, goesOn7 y1 hk hon han y2.2.1 hp, ob1_some, wr_nn (show an < 6000 by omega) (by omega), ob1_some, nn_tn (by omega)]
            change ob2 (zlet (mI (mA M1 7 (upd (M1.2.1 7) an (nn w))) 9 (M1.1 9 + 1)) _) _ = _
            rw [y2.2.1, q1, zlt]
            change ob2 (ob1 (fX7_comesIn (mI (mA M1 7 (upd (M1.2.1 7) (an + 0) (nn w))) 9 (nn (an + 0) + nn 1)) (nn p) (nn an + nn 1 - nn 1) (nn 1) _) _) _ = _
            rw [nn_add an 1, nn_sub (by omega), Nat.add_sub_cancel, b1, ob1_some, ob2_some]
          · rw [hsz]
            exact bdM_come y4
          · rw [b4.1 33 (by decide), a1 33 (by decide)]
            exact y5
