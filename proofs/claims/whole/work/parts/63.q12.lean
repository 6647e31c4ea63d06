/-! calls that may throw: row, store, piece -/
theorem set49 {A B : zH} {M : MS} {e e0 : zE} (hA : A.length = 27) (h : (hG A M B)[49]? = some e0) : (hG A M B).set 49 e = hG A M (B.set 0 e) := by
  rw [hG, List.set_append_right _ _ (by omega), hA, List.set_append_right _ _ (by rw [hM_len]; omega), hM_len, hG, hA]
theorem Cl.out {G : zH} {c bu : Nat → Nat} {n : Nat} {a : TA} {ro : TR} {st : TS} {hi : TH} {ke : TK} {pg qg : TP} {sc : Nat → Int32} {W : Nat → LVa} {x y : Nat → Int64} (h : Cl G c bu n a ro st hi ke pg qg sc W) (hx : G[49]? = some (.inl (1, (1, .inr (.inl x))))) : Cl (G.set 49 (.inl (1, (1, .inr (.inl y))))) c bu n a ro st hi ke pg qg sc W := by
  obtain ⟨k1, k2, k3, k4, k5, k6⟩ := h
  have hF : Up 100 G c 0 (G.set 49 (.inl (1, (1, .inr (.inl y))))) c 0 := Up.set hx rfl (by rw [k4 49 (by omega) (by omega)])
  refine ⟨k1.kept hF.1 (fun j hj => by rw [k3 j hj]; omega), ?_, k3, k4, by rw [List.length_set]; exact k5, ?_⟩
  · intro i hi
    exact (k2 i hi).kept hF.1 (by omega)
  · have := hF.2
    unfold Rm at *
    omega
theorem CpA.out {G : zH} {c : Nat → Nat} {q q' : Option Nat} {v : LVa} {e : zE} (h : CpA G c q q' v) : CpA (G.set 49 e) c q q' v := by
  obtain ⟨a, a', g, g', e1, e2, e3, e4, ⟨e5, e6, e7, e8⟩, e9⟩ := h
  exact ⟨a, a', g, g', e1, e2, G_ne e3 (by omega), G_ne e4 (by omega), ⟨e5, e6, e7, e8⟩, e9⟩
/-- an answer that goes by the out array -/
theorem op_ans {k : Nat} {A B : zH} {M M1 : MS} (hA : A.length = 27) (hI : Inv k (hG A M1 B)) (v : Int64) : ∃ B2, jW (hG A M B) 49 0 v = some (hG A M B2) ∧ Inv k (hG A M1 B2) ∧ jR (hG A M1 B2) 49 0 = some v := by
  obtain ⟨c, bu, a, ro, st, hi, ke, pg, qg, sc, W, M', A', B', T, St, kd, h1, h2, h3, ⟨x, hx⟩, h5, h6⟩ := hI
  have hxM : (hG A M B)[49]? = some (.inl (1, (1, .inr (.inl x)))) := by
    have := hG_other (M := M1) (M' := M) (K := []) (j := 49) hA (by omega) (G_lt hx)
    rw [List.append_nil] at this
    rw [this]
    exact hx
  refine ⟨B.set 0 (.inl (1, (1, .inr (.inl (vp_updL x 0 v))))), ?_, ?_, ?_⟩
  · rw [← set49 hA hxM]
    exact jW_at hxM (show 0 < 1 by omega) (by omega)
  · rw [← set49 hA hx]
    refine ⟨c, bu, a, ro, st, hi, ke, pg, qg, sc, W, M', A', B'.set 0 (.inl (1, (1, .inr (.inl (vp_updL x 0 v))))), T, St, kd, h1.out hx, ?_, h3, ⟨_, G_same hx⟩, h5, ?_⟩
    · rw [h2]
      rw [h2] at hx
      exact set49 h3 hx
    · obtain ⟨r1, r2, r3, r4, r5, r6, r7, r8⟩ := h6
      exact ⟨r1, r2, r3, r4, r5, ⟨r6.1, r6.2.1, fun j hj => (r6.2.2.1 j hj).out, fun j hj => (r6.2.2.2 j hj).out⟩, fun j hj => ⟨(r7 j hj).1, fun e => ((r7 j hj).2 e).out⟩, r8⟩
  · rw [← set49 hA hx]
    have := jR_at (G_same (e := .inl (1, (1, .inr (.inl (vp_updL x 0 v))))) hx) (show 0 < 1 by omega) (by omega)
    rw [show vp_updL x 0 v 0 = v from if_pos rfl] at this
    exact this
/-- the throw: what it made lies behind -/
theorem op_thr {k : Nat} {G G1 A B O : zH} {M M1 : MS} {c c1 bu1 : Nat → Nat} {a : TA} {ro : TR} {st : TS} {s u f : Nat} {lv lv1 : Nat → Option Nat} {ke : TK} {pg qg : TP} {sc : Nat → Int32} {W : Nat → LVa} {T St kd : Nat → Nat} (hGe : G = hG A M B) (hA : A.length = 27) (hcr : CR c) (hout : ∃ x, G[49]? = some (.inl (1, (1, .inr (.inl x))))) (hS : Sm T St kd a ro st (s, u, f, lv) ke pg W) (hR : Rf M G c T St kd a ro st (s, u, f, lv) W) (h1 : Cl G1 c1 bu1 (3016 * (4 * (k + 1) + a.2.1)) a ro st (s, u, f, lv1) ke pg qg sc W) (hf : Fo G c G1 c1) (hq : Mq M M1) (hts2 : M1.1 4 = nn a.2.1) (hro : RRo M1 ro) (hO1 : O.length ≤ 1) (hO2 : zs O ≤ 6) : ∃ A1 B1, G1 ++ O = hG A1 M B1 ∧ A1.length = 27 ∧ Inv k (hG A1 M1 B1) := by
  have hfo := hf
  rw [hGe] at hf
  obtain ⟨A1, B1, e1, e2⟩ := fo_hG hA hf hcr
  refine ⟨A1, B1 ++ O, by rw [e1, hG, hG, List.append_assoc, List.append_assoc], e2, ?_⟩
  obtain ⟨⟨q1, q2, q3, q4, q5, q6⟩, ⟨q7, q8, q9, q10, q11, q12⟩, q13⟩ := hq
  obtain ⟨r1, r2, r3, r4, r5, r6, r7, r8⟩ := hR
  rw [e1] at h1 hfo
  have hc := h1.ref (M' := M1) (K := O) (n' := 3016 * (4 * k + a.2.1)) e2 (by omega) (by omega)
  have hcp : ∀ {q q' : Option Nat} {v : LVa}, CpA G c q q' v → CpA (hG A1 M1 (B1 ++ O)) (cR c1 (hG A1 M B1).length) q q' v := fun h => (h.fo hfo).ref e2
  obtain ⟨x, hx⟩ := hout
  have hx1 : (hG A1 M B1)[49]? = some (.inl (1, (1, .inr (.inl x)))) := by
    rw [hfo.2.2 49 (G_lt hx) (hcr 49 (by omega) (by omega))]
    exact hx
  refine ⟨_, bu1, a, ro, st, _, ke, pg, qg, sc, W, M1, A1, B1 ++ O, T, St, kd, hc, rfl, e2, ⟨x, out_ref hx1 e2⟩, hS, ⟨?_, hro, r3.cg q1 q2 q8 q9, r4.cg q3 q10, ?_, ?_, ?_, ?_⟩⟩
  · exact ⟨fun i hi => by rw [q7]; exact r1.1 i hi, hts2⟩
  · intro j hj
    rw [q11, q12]
    exact r5 j hj
  · refine ⟨by rw [q4]; exact r6.1, by rw [q5]; exact r6.2.1, fun j hj => ?_, fun j hj => ?_⟩
    · rw [q13]
      exact hcp (r6.2.2.1 j hj)
    · rw [q13]
      exact hcp (r6.2.2.2 j hj)
  · intro j hj
    rw [q13]
    exact ⟨(r7 j hj).1, fun e => hcp ((r7 j hj).2 e)⟩
  · unfold RTy at *
    rw [q6]
    exact r8
theorem Cl.thrRoom {G : zH} {c bu : Nat → Nat} {k : Nat} {a : TA} {ro : TR} {st : TS} {hi : TH} {ke : TK} {pg qg : TP} {sc : Nat → Int32} {W : Nat → LVa} (h : Cl G c bu (3016 * (4 * (k + 1) + a.2.1)) a ro st hi ke pg qg sc W) : G.length + 1 ≤ zGL ∧ zs G + 6 ≤ zKL := by
  have := h.2.2.2.2.2
  unfold Rm at this
  omega
theorem op_row : Op_row Inv := by
  intro k G x hI
  have hI0 := hI
  obtain ⟨c, bu, a, ro, st, ⟨s, u, f, lv⟩, ke, pg, qg, sc, W, M, A, B, T, St, kd, h1, h2, h3, h4, h5, h6⟩ := hI
  have hro1 : M.1 1 = nn ro.1 := h6.2.1.1
  have hro2 := h5.2.1.2.2
  by_cases hc : ∃ p, p < ro.1 ∧ x = nn p
  · obtain ⟨p, hp, rfl⟩ := hc
    left
    -- the reference first, with the same heap
    have e7 : fX7_row M (nn p) = some (ro.2 p, mI M 0 0) := by
      unfold fX7_row
      rw [zlt]
      show ob1 (fX7_in (nn p).toInt64 0 (M.1 1 - 1).toInt64) _ = _
      rw [hro1, q1, nn_sub (by omega), in_nn (by omega) (by omega), ob1_some, if_neg (by rw [if_pos (by omega)]; decide)]
      show ob1 (rd 24 M.2.2.1 (nn p)) _ = _
      rw [rd_nn (by omega) (by omega), ob1_some, h6.2.1.2 p hp]
    have e6 : fX6_row G 0 (nn p) = some (ro.2 p) := by
      unfold fX6_row
      rw [if_neg (by rw [nn_neg (by omega)]; exact id), h1.1.r0_2, ob1_some, fi_at (v := nn ro.1) h1.1.g2 rfl, ob1_some, if_pos (by rw [nn_lt (by omega) (by omega)]; exact hp), ob1_some, frf_at (v := 3) h1.1.g2 rfl, ob1_some, jR_at h1.1.g3 (by omega) (by omega), ob1_some]
    obtain ⟨A1, B1, e1, e2, hI1⟩ := op_q (ts := a.2.1) (old := a.2.2.1) (M1 := mI M 0 0) h2 h3 h1.2.2.2.1 h4 h5 h6 h1 (Fo.refl _ _) (Mq_i0 M 0) (Nat.le_refl _) h6.1.2 h6.2.1 hro2 h5.2.1.2.1 h5.2.2.2.2.2.2
    obtain ⟨B2, g1, g2, g3⟩ := op_ans (M := M) e2 hI1 (ro.2 p)
    rw [← e1] at g1
    exact ⟨ro.2 p, G, hG A1 M B2, A1, M, B2, mI M 0 0, e6, rfl, g1, rfl, e2, e7, rfl, g3, g2⟩
  · right
    have hno : x < 0 ∨ ∃ p, p < 2147483648 ∧ x = nn p ∧ ro.1 ≤ p := by
      rcases nn_or x with hx | ⟨p, hp, rfl⟩
      · exact Or.inl hx
      · right
        refine ⟨p, hp, rfl, ?_⟩
        by_cases e : p < ro.1
        · exact absurd ⟨p, e, rfl⟩ hc
        · omega
    have e7 : fX7_row M x = some (0, mI (mI M 0 0) 0 1) := by
      unfold fX7_row
      rw [zlt]
      show ob1 (fX7_in x.toInt64 0 (M.1 1 - 1).toInt64) _ = _
      rcases hno with hx | ⟨p, hp, rfl, hge⟩
      · rw [in_neg hx]
        rfl
      · rw [hro1]
        by_cases e0 : ro.1 = 0
        · rw [e0, in_sp, if_neg (by rw [z64, nn64 hp]; have : (nn 0 - 1).toInt64.toInt = -1 := rfl; rw [this]; omega), ob1_some]
          rfl
        · rw [q1, nn_sub (by omega), in_nn hp (by omega), ob1_some, if_neg (show ¬ p ≤ ro.1 - 1 by omega)]
          rfl
    have e6 : tX6_row G 0 x = some G := by
      unfold tX6_row tX6_row_b15
      rcases hno with hx | ⟨p, hp, rfl, hge⟩
      · rw [if_pos hx]
      · rw [if_neg (by rw [nn_neg hp]; exact id), h1.1.r0_2, ob1_some, fi_at (v := nn ro.1) h1.1.g2 rfl, ob1_some, if_neg (by rw [nn_lt hp (by omega)]; omega)]
    refine ⟨G, e6, h1.thrRoom.1, h1.thrRoom.2, fun O hO1 hO2 _ => ?_⟩
    obtain ⟨A1, B1, e1, e2, hI1⟩ := op_thr (O := O) (M1 := mI (mI M 0 0) 0 1) h2 h3 h1.2.2.2.1 h4 h5 h6 h1 (Fo.refl _ _) (Mq_i0 M 0) h6.1.2 h6.2.1 hO1 hO2
    exact ⟨0, A1, M, B1, _, e1, e2, e7, rfl, hI1⟩
