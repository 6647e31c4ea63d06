/-! keep, again -/
theorem keep37 {G : zH} {c bu : Nat → Nat} {n s u f j r : Nat} {a : TA} {ro : TR} {st : TS} {lv : Nat → Option Nat} {ke : TK} {pg qg : TP} {sc : Nat → Int32} {W : Nat → LVa} (h : Cl G c bu n a ro st (s, u, f, lv) ke pg qg sc W) (hs : s < 31) (hj : j < 3) (hr : ke.1 j = some r) (hl : (W s).1.length ≤ 3000) (hst : ∀ k, k < 8 → (W s).2.2 k ≤ 1) : ok (fX6_keep_b37 G 0 (nn j) r) fun z => z.1 = 1 ∧ ∃ c' bu' lv', Cl z.2 c' bu' n a ro st (s, u, f, lv') (ke.1, upd ke.2 j (nn 1)) pg qg sc (va_up W (31 + j) (W s)) ∧ Fo G c z.2 c' := by
  unfold fX6_keep_b37
  refine sa1 h.1.r0_4 ?_
  refine sa1 h.1.io6 ?_
  refine ca2 (current_sp h hs) ?_
  rintro r5 G1 ⟨c1, b1, lv1, x1, x2, x3, x4⟩
  have lK : Lf G1 c1 (31 + j + 1) r (b1 (31 + j)) (W (31 + j)).1 (W (31 + j)).2.1 (W (31 + j)).2.2 := by
    have := x2.2.1 (31 + j) (by omega)
    rw [hvf_kept hj, hr] at this
    exact this
  have lS := x2.lf hs x1
  refine sa1 lK.io ?_
  obtain ⟨d, hd⟩ := x2.rm (i := 31 + j) (by omega)
  refine ca1 (become_sp lK lS (by omega) hst hl hd) ?_
  rintro G2 ⟨c2, b2, l2, u2⟩
  have h2 := x2.leaf (i := 31 + j) (w := W s) (by omega) u2 (by rw [hvf_kept hj, hr]; exact l2)
  refine sa1 h2.1.r0_6 ?_
  refine sa1 (aW_at h2.1.g9 hj (by omega)) ?_
  have u3 : Up 0 G2 c2 0 (G2.set 9 (.inl (3, (3, .inl (upd ke.2 j (nn 1)))))) c2 0 := Up.set h2.1.g9 rfl (h2.2.2.1 9 (by decide))
  exact ok_some ⟨rfl, c2, _, lv1, h2.fx (h2.1.u9 (upd ke.2 j (nn 1))) u3 rfl rfl, x3.trans ((u2.1.fo (by omega)).trans (u3.1.fo (by omega)))⟩
theorem keep6 {G : zH} {c bu : Nat → Nat} {n s u f j : Nat} {a : TA} {ro : TR} {st : TS} {lv : Nat → Option Nat} {ke : TK} {pg qg : TP} {sc : Nat → Int32} {W : Nat → LVa} (h : Cl G c bu n a ro st (s, u, f, lv) ke pg qg sc W) (hs : s < 31) (hj : j < 3) (hl : (W s).1.length ≤ 3000) (hst : ∀ k, k < 8 → (W s).2.2 k ≤ 1) : ok (fX6_keep G 0 (nn j)) fun z => z.1 = 1 ∧ ∃ c' bu' lv' kv', kv' j ≠ none ∧ (∀ i, ke.1 i ≠ none → kv' i ≠ none) ∧ Cl z.2 c' bu' n a ro st (s, u, f, lv') (kv', upd ke.2 j (nn 1)) pg qg sc (va_up W (31 + j) (W s)) ∧ Fo G c z.2 c' := by
  have hx := h.1
  unfold fX6_keep
  refine ifn (by rw [nn_neg (by omega)]; exact id) ?_
  refine ift (by rw [q3, nn_lt (by omega) (by omega)]; exact hj) ?_
  refine sa1 hx.r0_5 ?_
  refine sa1 (qR_at hx.g8 hj (by omega)) ?_
  cases e : ke.1 j with
  | some r =>
    show ok (oq (some r) _ _) _
    show ok (fX6_keep_b37 G 0 (nn j) r) _
    refine ok_imp (keep37 h hs hj e hl hst) ?_
    rintro z ⟨z1, c', b', lv', z2, z3⟩
    exact ⟨z1, c', b', lv', ke.1, by rw [e]; simp, fun i hi => hi, z2, z3⟩
  | none =>
    have hlo := h.2.1 (31 + j) (by omega)
    rw [hvf_kept hj, e] at hlo
    obtain ⟨hw, hb⟩ := hlo
    obtain ⟨d, hr⟩ := h.rm (i := 31 + j) (by omega)
    have hr' := hr
    unfold Rm zKL zGL at hr'
    show ok (ob1 (gP G 6) _) _
    refine sa1 (gP_at (by unfold zGL; omega) (by unfold zKL; omega)) ?_
    refine zl ?_
    refine zl ?_
    refine ca1 (init2_sp (c := c) (i := 31 + j + 1) hb hr) ?_
    rintro G1 ⟨c1, l1, u1⟩
    have hx1 := hx.kept u1.1 (fun i hi => by rw [h.2.2.1 i hi]; omega)
    obtain ⟨hs', hl', hm', ht', cap', fs', fl', fm', ft', z1, z2⟩ := id l1
    refine sa1 hx1.r0_5 ?_
    refine sa1 (qW_at hx1.g8 z1.2.1 hj (by omega)) ?_
    have hx2 := hx1.u8 (va_up ke.1 j (some G.length))
    have hc1 : c1 8 / 8 = 0 := by rw [u1.1.2.1 8 (G_lt hx.g8)]; exact h.2.2.1 8 (by omega)
    have u2 : Up 0 G1 c1 0 (G1.set 8 (.inl (4, (3, .inr (.inr (.inr (.inr (va_up ke.1 j (some G.length))))))))) c1 0 := Up.set hx1.g8 rfl hc1
    have hnew := h.newl (i := 31 + j) (hi' := (s, u, f, lv)) (ke' := (va_up ke.1 j (some G.length), ke.2)) (by omega) u1 (by rw [hw]; exact l1) u2 hx2 (hvf_kv hj)
    refine ok_imp (keep37 hnew hs hj (show va_up ke.1 j (some G.length) j = some G.length from va_up_same _ _ _) hl hst) ?_
    rintro z ⟨z1, c', b', lv', z2, z3⟩
    refine ⟨z1, c', b', lv', va_up ke.1 j (some G.length), by rw [va_up_same]; simp, fun i hi => ?_, z2, ((u1.1.fo (by omega)).trans (u2.1.fo (by omega))).trans z3⟩
    by_cases ei : i = j
    · rw [ei, va_up_same]
      simp
    · rw [va_up_ne _ _ ei]
      exact hi
theorem keep7 {A B : zH} {M : MS} {v : LVa} {j : Nat} (h : RBk M v.1) (hm : RMk M v) (hj : j < 3) (h1 : (hG A M B).length + 2 ≤ zGL) (h2 : zs (hG A M B) + sz v.1 + 16 ≤ zKL) : ∃ M1 g g', fX7_keep A M B (nn j) = some (1, M1, B ++ [KB v.1 g, KM g']) ∧ (∀ p, p < sz v.1 → g p = nn (cod v.1 p)) ∧ (∀ k, k < 8 → g' k = ii (v.2.1 k) ∧ g' (8 + k) = nn (v.2.2 k)) ∧ M1.1 = (mI M 0 0).1 ∧ M1.2.1 = M.2.1 ∧ M1.2.2.1 = M.2.2.1 ∧ M1.2.2.2 22 = va_up (M.2.2.2 22) j (some (hG A M B).length) ∧ M1.2.2.2 23 = va_up (M.2.2.2 23) j (some ((hG A M B).length + 1)) ∧ ∀ i, i ≠ 22 → i ≠ 23 → M1.2.2.2 i = M.2.2.2 i := by
  have hz := h.2.1
  have hl : (hG A (mI M 0 0) B).length = (hG A M B).length := by rw [hG_len, hG_len]
  have hll := hG_len A M B
  have hzs0 := hG_zs A B [] M (mI M 0 0)
  rw [List.append_nil] at hzs0
  have hz0 : zs ([] : zH) = 0 := rfl
  obtain ⟨g, e1, e2⟩ := bookCopy_sp (A := A) (B := B) (M := mI M 0 0) (h.cg rfl rfl) (by omega) (by omega)
  rw [hl] at e1
  have hl2 : (hG A (mQ (mI M 0 0) 22 (va_up (M.2.2.2 22) j (some (hG A M B).length))) (B ++ [KB v.1 g])).length = (hG A M B).length + 1 := by
    rw [hG_len, hll, List.length_append]
    show A.length + 22 + (B.length + 1) = _
    omega
  have hzs := hG_zs A B [KB v.1 g] M (mQ (mI M 0 0) 22 (va_up (M.2.2.2 22) j (some (hG A M B).length)))
  have hz1 : zs [KB v.1 g] = sz v.1 := by
    show sz v.1 + 0 = _
    omega
  obtain ⟨g', e3, e4⟩ := marksCopy_sp (A := A) (B := B ++ [KB v.1 g]) (M := mQ (mI M 0 0) 22 (va_up (M.2.2.2 22) j (some (hG A M B).length))) (v := v) hm (by omega) (by omega)
  refine ⟨mQ (mQ (mI M 0 0) 22 (va_up (M.2.2.2 22) j (some (hG A M B).length))) 23 (va_up (M.2.2.2 23) j (some ((hG A M B).length + 1))), g, g', ?_, e2, e4, rfl, rfl, rfl, rfl, rfl, fun i a b => ?_⟩
  · unfold fX7_keep
    have g1 : gget (hG A (mI M 0 0) (B ++ [KB v.1 g])) (hG A M B).length = some (sz v.1, g) := gget_at (hG_at0 hll)
    have g2 : gget (hG A (mQ (mI M 0 0) 22 (va_up (M.2.2.2 22) j (some (hG A M B).length))) ((B ++ [KB v.1 g]) ++ [KM g'])) ((hG A M B).length + 1) = some (16, g') := gget_at (hG_at0 (by rw [hll]; simp only [List.length_append, List.length_cons, List.length_nil]; omega))
    rw [zlt, in_lit (lo := 0) (hi := 2) (by omega) rfl rfl, ob1_some, if_neg (by rw [if_pos (by omega)]; decide), e1, ob3_some]
    change ob1 (gget (hG A (mI M 0 0) (B ++ [KB v.1 g])) (hG A M B).length) _ = _
    rw [g1, ob1_some, wr_nn hj (by omega), ob1_some, nn_tn (by omega)]
    change ob3 (fX7_marksCopy A (mQ (mI M 0 0) 22 (va_up (M.2.2.2 22) j (some (hG A M B).length))) (B ++ [KB v.1 g])) _ = _
    rw [e3, ob3_some, hl2]
    change ob1 (gget (hG A (mQ (mI M 0 0) 22 (va_up (M.2.2.2 22) j (some (hG A M B).length))) ((B ++ [KB v.1 g]) ++ [KM g'])) ((hG A M B).length + 1)) _ = _
    rw [g2, ob1_some, wr_nn hj (by omega), ob1_some, List.append_assoc]
    rfl
  · exact (if_neg b).trans (if_neg a)
theorem op_keep : Op_keep Inv := by
  intro k G x hI
  obtain ⟨c, bu, a, ro, st, ⟨s, u, f, lv⟩, ke, pg, qg, sc, W, M, A, B, T, St, kd, h1, h2, h3, h4, h5, h6⟩ := hI
  obtain ⟨hv, ht⟩ := h5.cur
  have hs : s < 31 := h5.2.2.2.1.1
  have hz := hv.2.1
  have hlen := len_le_sz (okP_wf hv.1)
  have hcr := h1.2.2.2.1
  by_cases e : ∃ j, j < 3 ∧ x = nn j
  · obtain ⟨j, hj, rfl⟩ := e
    obtain ⟨⟨r', G1⟩, e6, hr, c1, b1, lv1, kv1, k1, k2, x1, x2⟩ := keep6 h1 hs hj (by omega) (fun k hk => (hv.2.2 k hk).2.2)
    change r' = _ at hr
    subst hr
    obtain ⟨A1, B1, y1, y2, hcp, hfin⟩ := op_st (k := k) h2 h3 hcr h4 x1 x2
    change G1 = hG A1 M B1 at y1
    have hrm := x1.2.2.2.2.2
    have h50 := x1.2.2.2.2.1
    change Rm G1 _ at hrm
    change 50 ≤ G1.length at h50
    rw [y1] at hrm h50
    have hr1 : zs (hG A1 M B1) + (bsum b1 36 + 3016 * (4 * (k + 1) + a.2.1)) ≤ zKL := hrm.1
    have hr2 : 12 * (hG A1 M B1).length + (bsum b1 36 + 3016 * (4 * (k + 1) + a.2.1)) ≤ 12 * zGL := hrm.2
    have hll := hG_len A1 M B1
    obtain ⟨M1, g, g', d1, d2, d3, d4, d5, d6, d7, d8, d9⟩ := keep7 (A := A1) (B := B1) (v := W s) h6.2.2.2.1 h6.2.2.2.2.1 hj (by omega) (by omega)
    have hzK : zs [KB (W s).1 g, KM g'] = sz (W s).1 + 16 := by
      show sz (W s).1 + (16 + 0) = _
      omega
    have hWn : ∀ i, i ≠ 31 + j → va_up W (31 + j) (W s) i = W i := fun i hi => if_neg hi
    have i1 : ∀ i, i ≠ 0 → M1.1 i = M.1 i := fun i hi => by rw [d4]; exact upd_ne _ _ hi
    refine ⟨1, G1, A1, M, B1, M1, _, e6, y1, y2, d1, hfin [KB (W s).1 g, KM g'] M1 T St (va_up kd j 1) (by rw [hzK]; show 3016 * (4 * k + a.2.1) + _ ≤ _; omega) (by show 3016 * (4 * k + a.2.1) + 12 * 2 ≤ _; omega) ⟨h5.1, h5.2.1, h5.2.2.1, h5.2.2.2.1, fun i hi hw => ?_, fun i hi => ?_, fun hh => ?_⟩ ⟨⟨fun i hi => ?_, ?_⟩, ⟨?_, fun i hi => ?_⟩, ?_, ?_, ?_, ⟨?_, ?_, fun i hi => ?_, fun i hi => ?_⟩, fun i hi => ?_, ?_⟩⟩
    · rw [hWn i (by omega)]
      exact h5.2.2.2.2.1 i hi hw
    · obtain ⟨t1, t2, t3⟩ := h5.2.2.2.2.2.1 i hi
      show upd ke.2 j (nn 1) i = nn (va_up kd j 1 i) ∧ va_up kd j 1 i ≤ 1 ∧ (va_up kd j 1 i = 1 → okV st.1 st.2.1 (va_up W (31 + j) (W s) (31 + i)) ∧ kv1 i ≠ none)
      by_cases ei : i = j
      · subst ei
        rw [upd_same, va_up_same, va_up_same]
        exact ⟨rfl, Nat.le_refl _, fun _ => ⟨hv, k1⟩⟩
      · rw [upd_ne _ _ ei, va_up_ne _ _ ei, hWn _ (by omega)]
        exact ⟨t1, t2, fun h => ⟨(t3 h).1, k2 i (t3 h).2⟩⟩
    · show PgTo pg (va_up W (31 + j) (W s) s).1 St (sz (va_up W (31 + j) (W s) s).1)
      rw [hWn s (by omega)]
      exact h5.2.2.2.2.2.2 hh
    · rw [d5]
      exact h6.1.1 i hi
    · rw [i1 4 (by decide)]
      exact h6.1.2
    · rw [i1 1 (by decide)]
      exact h6.2.1.1
    · rw [d6]
      exact h6.2.1.2 i hi
    · exact (h6.2.2.1 : RSt M St st.1 st.2.1).cg (i1 8 (by decide)) (i1 9 (by decide)) (by rw [d5]) (by rw [d5])
    · show RBk M1 (va_up W (31 + j) (W s) s).1
      rw [hWn s (by omega)]
      exact h6.2.2.2.1.cg (i1 11 (by decide)) (by rw [d5])
    · show RMk M1 (va_up W (31 + j) (W s) s)
      rw [hWn s (by omega)]
      intro q hq
      rw [d5]
      exact h6.2.2.2.2.1 q hq
    · rw [i1 17 (by decide)]
      exact h6.2.2.2.2.2.1.1
    · rw [i1 20 (by decide)]
      exact h6.2.2.2.2.2.1.2.1
    · show CpA _ _ _ _ (va_up W (31 + j) (W s) ((s + 31 - u + i) % 31))
      rw [d9 15 (by decide) (by decide), d9 16 (by decide) (by decide), hWn _ (by omega)]
      exact hcp _ _ _ _ _ (h6.2.2.2.2.2.1.2.2.1 i hi)
    · show CpA _ _ _ _ (va_up W (31 + j) (W s) ((s + f - i) % 31))
      rw [d9 18 (by decide) (by decide), d9 19 (by decide) (by decide), hWn _ (by omega)]
      exact hcp _ _ _ _ _ (h6.2.2.2.2.2.1.2.2.2 i hi)
    · rw [d7, d8]
      by_cases ei : i = j
      · subst ei
        rw [va_up_same, va_up_same, va_up_same, va_up_same]
        refine ⟨fun h => absurd h (by decide), fun _ => ?_⟩
        refine ⟨(hG A1 M B1).length, (hG A1 M B1).length + 1, g, g', rfl, rfl, hG_at0 hll, ?_, ⟨if_neg (by omega), if_neg (by omega), by omega, by omega⟩, d2, d3⟩
        have := hG_at0 (A := A1) (B := B1 ++ [KB (W s).1 g]) (K := []) (M := M1) (x := KM g') (r := (hG A1 M B1).length + 1) (by rw [hll]; simp only [List.length_append, List.length_cons, List.length_nil]; omega)
        rw [List.append_assoc] at this
        exact this
      · rw [show ∀ y, va_up (M.2.2.2 22) j y i = M.2.2.2 22 i from fun y => if_neg ei, show ∀ y, va_up (M.2.2.2 23) j y i = M.2.2.2 23 i from fun y => if_neg ei, va_up_ne _ _ ei, hWn _ (by omega)]
        exact ⟨(h6.2.2.2.2.2.2.1 i hi).1, fun hk => hcp _ _ _ _ _ ((h6.2.2.2.2.2.2.1 i hi).2 hk)⟩
    · unfold RTy
      rw [i1 21 (by decide)]
      exact h6.2.2.2.2.2.2.2
  · refine op_fin5 (k := k) (f7 := fun A M B => fX7_keep A M B x) 0 h2 h3 hcr h4 h5 h6 ?_ (fun A B => ?_)
    · unfold fX6_keep
      rcases nn_or x with hx | ⟨p, hp, rfl⟩
      · refine ift hx ?_
        exact ret0 h1 h5
      · refine ifn (by rw [nn_neg hp]; exact id) ?_
        refine ifn (by rw [q3, nn_lt hp (by omega)]; exact fun h => e ⟨p, h, rfl⟩) ?_
        exact ret0 h1 h5
    · show fX7_keep A M B x = _
      unfold fX7_keep
      have hin : fX7_in x.toInt64 (0 : Int64) (2 : Int64) = some (nn 0) := by
        rcases nn_or x with hx | ⟨p, hp, rfl⟩
        · exact in_litn (lo := 0) hx rfl
        · rw [in_lit (lo := 0) (hi := 2) hp rfl rfl, if_neg (fun h => e ⟨p, by omega, rfl⟩)]
      rw [zlt, hin, ob1_some, if_pos z0]
