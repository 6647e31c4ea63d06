/-! store, piece, shows -/
theorem op_fin3 {f6 : Option (Int32 × zH)} {f7 : MS → Option (Int32 × MS)} {k : Nat} {G A B : zH} {c : Nat → Nat} {a : TA} {ro : TR} {st : TS} {s u f : Nat} {lv : Nat → Option Nat} {ke : TK} {pg : TP} {W : Nat → LVa} {M : MS} {T St kd : Nat → Nat} (h2 : G = hG A M B) (h3 : A.length = 27) (hcr : CR c) (h4 : ∃ x, G[49]? = some (.inl (1, (1, .inr (.inl x))))) (h5 : Sm T St kd a ro st (s, u, f, lv) ke pg W) (h6 : Rf M G c T St kd a ro st (s, u, f, lv) W) {r : Int32} (e6 : ok f6 (CQ G c (3016 * (4 * (k + 1) + a.2.1)) a a.2.1 ro st s u f ke W St r)) (e7 : f7 M = some (r, mI M 0 0)) : ∃ (r : Int32) (G1 G2 A : zH) (M : MS) (B : zH) (M1 : MS), f6 = some (r, G1) ∧ jW G1 49 0 r.toInt64 = some G2 ∧ G2 = hG A M B ∧ A.length = 27 ∧ f7 M = some (r, M1) ∧ fX7_thrown M1 = some 0 ∧ jR (hG A M1 B) 49 0 = some r.toInt64 ∧ Inv k (hG A M1 B) := by
  obtain ⟨⟨r', G1⟩, e6, hr, c1, b1, lv1, old, pg1, qg1, sc1, x1, x2, x3, x4⟩ := e6
  change r' = r at hr
  subst hr
  obtain ⟨A1, B1, e1, e2, hI⟩ := op_q (M1 := mI M 0 0) h2 h3 hcr h4 h5 h6 x1 x2 (Mq_i0 M 0) (Nat.le_refl _) h6.1.2 h6.2.1 h5.2.1.2.2 x3 x4
  obtain ⟨B2, g1, g2, g3⟩ := op_ans (M := M) e2 hI r'.toInt64
  rw [← e1] at g1
  exact ⟨r', G1, hG A1 M B2, A1, M, B2, mI M 0 0, e6, g1, rfl, e2, e7, rfl, g3, g2⟩
def stC (P : PC) (s : Nat) : Nat → Nat
  | 0 => 0
  | k + 1 => stC P s k + if bgAt P k = 1 ∧ (if srcAt P k < 1600 then 0 else 1) = s then 1 else 0
theorem stC_le (P : PC) (s k : Nat) : stC P s k ≤ k := by
  induction k with
  | zero => simp [stC]
  | succ k ih =>
    simp only [stC]
    by_cases e : bgAt P k = 1 ∧ (if srcAt P k < 1600 then 0 else 1) = s
    · rw [if_pos e]; omega
    · rw [if_neg e]; omega
theorem stC_take {P : PC} (hw : wfP P) (s : Nat) : ∀ i, i ≤ P.length → stC P s (sz (P.take i)) = stK P s i := by
  intro i
  induction i with
  | zero => intro _; simp [sz, stC, stK]
  | succ i ih =>
    intro hi
    obtain ⟨q, hq⟩ : ∃ q, P[i]? = some q := ⟨P[i], List.getElem?_eq_getElem (by omega)⟩
    have hq2 : 1 ≤ q.2 := hw q (List.mem_of_getElem? hq)
    have h0 := ih (by omega)
    have hk : stK P s (i + 1) = stK P s i + if (if 1600 ≤ q.1 then 1 else 0) = s then 1 else 0 := by
      simp only [stK]
      rw [hq]
    have key : ∀ j, 1 ≤ j → j ≤ q.2 → stC P s (sz (P.take i) + j) = stK P s (i + 1) := by
      intro j
      induction j with
      | zero => omega
      | succ j ihj =>
        intro _ hj
        show stC P s (sz (P.take i) + j) + (if bgAt P (sz (P.take i) + j) = 1 ∧ (if srcAt P (sz (P.take i) + j) < 1600 then 0 else 1) = s then 1 else 0) = _
        rw [bgAt_in hq (by omega), srcAt_in hq (by omega)]
        by_cases e : j = 0
        · subst e
          rw [if_pos (show (0 : Nat) = 0 from rfl), Nat.add_zero, Nat.add_zero, h0, hk]
          congr 1
          by_cases e2 : 1600 ≤ q.1
          · rw [if_pos e2, if_neg (show ¬ q.1 < 1600 by omega)]
            by_cases e3 : 1 = s
            · rw [if_pos ⟨rfl, e3⟩, if_pos e3]
            · rw [if_neg (fun x => e3 x.2), if_neg e3]
          · rw [if_neg e2, if_pos (show q.1 < 1600 by omega)]
            by_cases e3 : 0 = s
            · rw [if_pos ⟨rfl, e3⟩, if_pos e3]
            · rw [if_neg (fun x => e3 x.2), if_neg e3]
        · rw [if_neg e, if_neg (show ¬ ((0 : Nat) = 1 ∧ _) from fun x => absurd x.1 (by omega)), ihj (by omega) (by omega)]
          rfl
    rw [sz_take_in hq]
    exact key q.2 hq2 (Nat.le_refl _)
def bas (s : Nat) : Nat := if s = 0 then 0 else 1600
theorem baseOf6 {s : Nat} (hs : s ≤ 1) : fX6_baseOf (nn s) = some (nn (bas s)) := by
  have : s = 0 ∨ s = 1 := by omega
  rcases this with rfl | rfl <;> rfl
theorem storeMany7 {M : MS} {St : Nat → Nat} {on an s : Nat} (h : RSt M St on an) (hs : s ≤ 1) : fX7_storeMany M (nn s) = some (nn (if s = 0 then on else an)) := by
  unfold fX7_storeMany
  rw [h.1, h.2.1]
  have : s = 0 ∨ s = 1 := by omega
  rcases this with rfl | rfl <;> rfl
theorem ofStore7 {M : MS} {St : Nat → Nat} {on an s k : Nat} (h : RSt M St on an) (hs : s ≤ 1) (hk : k < if s = 0 then on else an) : fX7_ofStore M (nn s) (nn k) = some (nn (St (bas s + k))) := by
  obtain ⟨-, -, h3, h4, h5, h6⟩ := h
  unfold fX7_ofStore
  have : s = 0 ∨ s = 1 := by omega
  rcases this with rfl | rfl
  · have hk' : k < on := hk
    rw [if_pos n00, rd_nn (by omega) (by omega), ob1_some, h5 k hk', show bas 0 + k = k from Nat.zero_add k]
  · have hk' : k < an := hk
    rw [if_neg (by decide), rd_nn (by omega) (by omega), ob1_some, h6 k hk']
    rfl
theorem SG_at {sg : Nat → Int32} {St : Nat → Nat} {on an s k : Nat} (h : SG sg St on an) (hs : s ≤ 1) (hk : k < if s = 0 then on else an) : sg (bas s + k) = nn (St (bas s + k)) ∧ 1 ≤ St (bas s + k) ∧ St (bas s + k) ≤ 127 := by
  refine h _ ?_
  have : s = 0 ∨ s = 1 := by omega
  rcases this with rfl | rfl
  · have hk' : k < on := hk
    left
    show 0 + k < on
    omega
  · have hk' : k < an := hk
    right
    show 1600 ≤ 1600 + k ∧ 1600 + k < 1600 + an
    omega
theorem store7 {M : MS} {P : PC} {St : Nat → Nat} {sg : Nat → Int32} {on an s w : Nat} (hB : RBk M P) (h : RSt M St on an) (hG : SG sg St on an) (hk : okP on an P) (hs : s ≤ 1) (hw : w ≤ 2) : fX7_store_b37 FU M (nn s) (nn w) (nn 0) (nn 0) = some (nn (if w = 0 then (if s = 0 then on else an) else if w = 1 then cntB St (bas s) (if s = 0 then on else an) else stK P s P.length), M) := by
  have hwf := okP_wf hk
  have hRG := RG_of hB hk h.2.2.1 h.2.2.2.1
  have hN : (if s = 0 then on else an) ≤ 6000 := by have := h.2.2.1; have := h.2.2.2.1; split <;> omega
  have hSM := storeMany7 h hs
  have hstl := stC_take hwf s P.length (Nat.le_refl _)
  rw [List.take_length] at hstl
  have b129 : fX7_store_b129 M (nn s) (nn w) (nn (cntB St (bas s) (if s = 0 then on else an))) (nn (stK P s P.length)) = some (nn (if w = 0 then (if s = 0 then on else an) else if w = 1 then cntB St (bas s) (if s = 0 then on else an) else stK P s P.length), M) := by
    unfold fX7_store_b129
    have : w = 0 ∨ w = 1 ∨ w = 2 := by omega
    rcases this with rfl | rfl | rfl
    · rw [if_pos n00, hSM, ob1_some, if_pos (show (0 : Nat) = 0 from rfl)]
    · rw [if_neg (by decide), if_pos (by decide), if_neg (show ¬ (1 : Nat) = 0 by omega), if_pos (show (1 : Nat) = 1 from rfl)]
    · rw [if_neg (by decide), if_neg (by decide), if_neg (show ¬ (2 : Nat) = 0 by omega), if_neg (show ¬ (2 : Nat) = 1 by omega)]
  have l82 : ∀ fu k, k ≤ sz P → sz P - k < fu → fX7_store_b82 fu M (nn s) (nn w) (nn (cntB St (bas s) (if s = 0 then on else an))) (nn (stC P s k)) (nn k) = fX7_store_b129 M (nn s) (nn w) (nn (cntB St (bas s) (if s = 0 then on else an))) (nn (stK P s P.length)) := by
    have hz := hB.2.1
    intro fu
    induction fu with
    | zero => intro k _ h; omega
    | succ fu ih =>
      intro k hk' hfu
      unfold fX7_store_b82
      rw [hB.1, if_le (by omega) (by omega)]
      by_cases e : sz P ≤ k
      · rw [if_pos e, show k = sz P by omega, hstl]
      · have hbk := bgAt_le P k
        have hcs : stC P s (k + 1) = stC P s k + if bgAt P k = 1 ∧ (if srcAt P k < 1600 then 0 else 1) = s then 1 else 0 := rfl
        have hih := ih (k + 1) (by omega) (by omega)
        have b117 : ∀ j, j ≤ 1 → stC P s (k + 1) = stC P s k + j → fX7_store_b117 (fX7_store_b82 fu) M (nn s) (nn w) (nn (cntB St (bas s) (if s = 0 then on else an))) (nn k) (nn j) (nn (stC P s k)) = fX7_store_b129 M (nn s) (nn w) (nn (cntB St (bas s) (if s = 0 then on else an))) (nn (stK P s P.length)) := by
          intro j hj hst
          unfold fX7_store_b117
          rw [flag_nn hj, ob1_some, nn_add, zlt, zlt, q1, nn_add, ← hst]
          exact hih
        rw [if_neg e, hRG.2.2 k (by omega), ob1_some]
        by_cases e1 : bgAt P k = 0
        · rw [if_pos (by rw [e1]; rfl)]
          unfold fX7_store_b116
          exact b117 0 (by omega) (by rw [hcs, if_neg (fun x => by omega)])
        · rw [if_neg (by rw [q0, nn_eq (by omega) (by omega)]; exact e1), storeAt_sp hB hk h.2.2.1 h.2.2.2.1 (by omega), ob1_some]
          by_cases e2 : (if srcAt P k < 1600 then 0 else 1) = s
          · rw [if_pos (by rw [e2])]
            exact b117 1 (by omega) (by rw [hcs, if_pos ⟨by omega, e2⟩])
          · rw [if_neg (by rw [nn_eq (by split <;> omega) (by omega)]; exact e2)]
            unfold fX7_store_b116
            exact b117 0 (by omega) (by rw [hcs, if_neg (fun x => e2 x.2)])
  have l37 : ∀ fu k, k ≤ (if s = 0 then on else an) → (if s = 0 then on else an) - k < fu → fX7_store_b37 fu M (nn s) (nn w) (nn (cntB St (bas s) k)) (nn k) = fX7_store_b129 M (nn s) (nn w) (nn (cntB St (bas s) (if s = 0 then on else an))) (nn (stK P s P.length)) := by
    intro fu
    induction fu with
    | zero => intro k _ h; omega
    | succ fu ih =>
      intro k hk' hfu
      unfold fX7_store_b37
      rw [hSM, ob1_some, if_le (by omega) (by omega)]
      by_cases e : (if s = 0 then on else an) ≤ k
      · rw [if_pos e, show k = (if s = 0 then on else an) by omega]
        unfold fX7_store_b76
        exact l82 FU 0 (by omega) (by have := hB.2.1; rw [FU_eq]; omega)
      · have hsg := SG_at hG hs (show k < if s = 0 then on else an by omega)
        have hih := ih (k + 1) (by omega) (by omega)
        have hcs : cntB St (bas s) (k + 1) = cntB St (bas s) k + if St (bas s + k) = 10 then 1 else 0 := rfl
        rw [if_neg e, ofStore7 h hs (by omega), ob1_some, q10, if_eq (by omega) (by omega)]
        unfold fX7_store_b65
        by_cases e2 : St (bas s + k) = 10
        · rw [if_pos e2] at hcs ⊢
          rw [q1, flag_nn (by omega), ob1_some, nn_add, zlt, zlt, nn_add, ← hcs]
          exact hih
        · rw [if_neg e2] at hcs ⊢
          rw [q0, flag_nn (by omega), ob1_some, nn_add, zlt, zlt, q1, nn_add, ← hcs]
          exact hih
  refine (l37 FU 0 (by omega) (by rw [FU_eq]; omega)).trans b129
theorem op_store : Op_store Inv := by
  intro k G x y hI
  obtain ⟨c, bu, a, ro, st, ⟨s, u, f, lv⟩, ke, pg, qg, sc, W, M, A, B, T, St, kd, h1, h2, h3, h4, h5, h6⟩ := hI
  obtain ⟨hv, ht⟩ := h5.cur
  have hs : s < 31 := h5.2.2.2.1.1
  have hz := hv.2.1
  have hRB : RBk (mI M 0 0) (W s).1 := h6.2.2.2.1.cg rfl rfl
  have hRS : RSt (mI M 0 0) St st.1 st.2.1 := h6.2.2.1.cg rfl rfl rfl rfl
  have hSG := h5.2.2.1.1
  have m0 : (0 : Int64).toInt = (0 : Nat) := rfl
  have m1 : (1 : Int64).toInt = (1 : Nat) := rfl
  have m2 : (2 : Int64).toInt = (2 : Nat) := rfl
  by_cases hc : ∃ p w, p ≤ 1 ∧ w ≤ 2 ∧ x = nn p ∧ y = nn w
  · obtain ⟨p, w, hp, hw, rfl, rfl⟩ := hc
    left
    have hN : (if p = 0 then st.1 else st.2.1) ≤ 6000 := by have := h5.2.2.1.2; split <;> omega
    have hb7 : bas p + (if p = 0 then st.1 else st.2.1) ≤ 7600 := by
      have := h5.2.2.1.2
      have h01 : p = 0 ∨ p = 1 := by omega
      rcases h01 with rfl | rfl
      · show 0 + st.1 ≤ 7600
        omega
      · show 1600 + st.2.1 ≤ 7600
        omega
    refine op_fin3 (f6 := fX6_store G 0 (nn p) (nn w)) (f7 := fun M => fX7_store M (nn p) (nn w)) (r := nn (if w = 0 then (if p = 0 then st.1 else st.2.1) else if w = 1 then cntB St (bas p) (if p = 0 then st.1 else st.2.1) else stK (W s).1 p (W s).1.length)) h2 h3 h1.2.2.2.1 h4 h5 h6 ?_ ?_
    · unfold fX6_store
      refine ifn (by rw [nn_neg (by omega)]; exact id) ?_
      refine ifn (by rw [q1, nn_lt (by omega) (by omega)]; omega) ?_
      refine ifn (by rw [nn_neg (by omega)]; exact id) ?_
      refine ift (by rw [q2, nn_le (by omega) (by omega)]; omega) ?_
      have h012 : w = 0 ∨ w = 1 ∨ w = 2 := by omega
      rcases h012 with rfl | rfl | rfl
      · refine ift rfl ?_
        refine sa1 h1.1.r0_3 ?_
        refine sa1 h1.1.io4 ?_
        refine sa1 (sizeOf_sp h1.1 hp) ?_
        exact ret0 h1 h5
      · refine ifn (by decide) ?_
        refine ift rfl ?_
        refine sa1 h1.1.r0_3 ?_
        refine sa1 (baseOf6 hp) ?_
        refine sa1 h1.1.r0_3 ?_
        refine sa1 h1.1.io4 ?_
        refine sa1 (sizeOf_sp h1.1 hp) ?_
        refine sa1 h1.1.io4 ?_
        refine sa1 (breaksIn4_sp h1.1 hb7 (fun j hj => by have := SG_at hSG hp hj; exact ⟨this.1, this.2.2⟩)) ?_
        exact ret0 h1 h5
      · refine ifn (by decide) ?_
        refine ifn (by decide) ?_
        refine sa1 h1.1.r0_4 ?_
        refine sa1 h1.1.io6 ?_
        refine ca2 (current_sp h1 hs) ?_
        rintro r' G1 ⟨c1, b1, lv1, x1, x2, x3, x4⟩
        change Cl G1 c1 b1 _ a ro st (s, u, f, lv1) ke pg qg sc W at x2
        have hL := x2.lf hs x1
        refine sa1 hL.io ?_
        refine sa1 (piecesOf_sp hp (fun q hq => by have := hv.1 q hq; have := h5.2.2.1.2; unfold okQ at *; omega) hL) ?_
        exact CQ_ret (old := a.2.2.1) x2 x3 h5.2.1.2.1 h5.2.2.2.2.2.2
    · show fX7_store M (nn p) (nn w) = _
      unfold fX7_store
      rw [zlt, in_c (by omega) m0 m1, ob1_some, if_neg (by rw [if_pos (by omega)]; decide), in_c (by omega) m0 m2, ob1_some, if_neg (by rw [if_pos (by omega)]; decide)]
      exact store7 hRB hRS hSG hv.1 hp hw
  · right
    have e6 : tX6_store G 0 x y = some G := by
      unfold tX6_store tX6_store_b18
      rcases nn_or x with hx | ⟨p, hp, rfl⟩
      · rw [if_pos hx]
      · rw [if_neg (by rw [nn_neg hp]; exact id), q1, if_lt (by omega) hp]
        by_cases e1 : 1 < p
        · rw [if_pos e1]
        · rw [if_neg e1]
          rcases nn_or y with hy | ⟨w, hw, rfl⟩
          · rw [if_pos hy]
          · rw [if_neg (by rw [nn_neg hw]; exact id), q2, if_le hw (by omega), if_neg (fun e2 => hc ⟨p, w, by omega, e2, rfl, rfl⟩)]
    have e7 : fX7_store M x y = some (0, mI (mI M 0 0) 0 1) := by
      unfold fX7_store
      rw [zlt]
      rcases nn_or x with hx | ⟨p, hp, rfl⟩
      · rw [in_neg hx]
        rfl
      · rw [in_c hp m0 m1, ob1_some]
        by_cases e1 : 0 ≤ p ∧ p ≤ 1
        · rw [if_neg (by rw [if_pos e1]; decide)]
          rcases nn_or y with hy | ⟨w, hw, rfl⟩
          · rw [in_neg hy]
            rfl
          · rw [in_c hw m0 m2, ob1_some, if_pos (by rw [if_neg (fun x => hc ⟨p, w, e1.2, x.2, rfl, rfl⟩)]; rfl)]
            rfl
        · rw [if_pos (by rw [if_neg e1]; rfl)]
          rfl
    refine ⟨G, e6, h1.thrRoom.1, h1.thrRoom.2, fun O hO1 hO2 _ => ?_⟩
    obtain ⟨A1, B1, e1, e2, hI1⟩ := op_thr (O := O) (M1 := mI (mI M 0 0) 0 1) h2 h3 h1.2.2.2.1 h4 h5 h6 h1 (Fo.refl _ _) (Mq_i0 M 0) h6.1.2 h6.2.1 hO1 hO2
    exact ⟨0, A1, M, B1, _, e1, e2, e7, rfl, hI1⟩
