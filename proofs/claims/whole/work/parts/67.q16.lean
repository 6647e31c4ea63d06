/-! lost -/
def lsC (z : Nat → Nat) : Nat → Nat
  | 0 => 0
  | k + 1 => lsC z k + if z k = 0 then 1 else 0
def lsR (f : Nat → Int64) (z : Nat → Nat) : Nat → Nat → Int64
  | 0 => f
  | k + 1 => if z k = 0 ∧ lsC z k = 0 then vp_updL (lsR f z k) 0 (nn k).toInt64 else lsR f z k
theorem lsC_le (z : Nat → Nat) (k : Nat) : lsC z k ≤ k := by
  induction k with
  | zero => simp [lsC]
  | succ k ih =>
    simp only [lsC]
    split <;> omega
theorem lost6 {G0 : zH} {c0 c1 b1 : Nat → Nat} {N m : Nat} {a : TA} {f0 : Nat → Int64} {st : TS} {hi : TH} {ke : TK} {pg qg : TP} {sc : Nat → Int32} {W : Nat → LVa} {z : Nat → Nat} (hm : m ≤ 6000) (hsc : ∀ k, k < m → sc k = nn (z k) ∧ z k ≤ 3000) : ∀ fu k G, k ≤ m → m - k < fu → Cl G c1 b1 N a (min (lsC z k) 1, lsR f0 z k) st hi ke pg qg sc W → Fo G0 c0 G c1 → ok (fX6_lost_b38 fu G 0 (nn m) (nn (lsC z k)) (nn k)) fun y => y.1 = nn (lsC z m) ∧ Cl y.2 c1 b1 N a (min (lsC z m) 1, lsR f0 z m) st hi ke pg qg sc W ∧ Fo G0 c0 y.2 c1 := by
  intro fu
  induction fu with
  | zero => intro k G _ h; omega
  | succ fu ih =>
    intro k G hk hfu h hf
    have hl := lsC_le z k
    unfold fX6_lost_b38
    by_cases e : m ≤ k
    · refine ift (by rw [nn_le (by omega) (by omega)]; exact e) ?_
      have : k = m := by omega
      subst this
      exact ok_some ⟨rfl, h, hf⟩
    · refine ifn (by rw [nn_le (by omega) (by omega)]; exact e) ?_
      have hs := hsc k (by omega)
      have hc1 : lsC z (k + 1) = lsC z k + if z k = 0 then 1 else 0 := rfl
      have hr1 : lsR f0 z (k + 1) = if z k = 0 ∧ lsC z k = 0 then vp_updL (lsR f0 z k) 0 (nn k).toInt64 else lsR f0 z k := rfl
      refine sa1 h.1.r0_12 ?_
      refine sa1 (aR_at h.1.g26 (by omega) (by omega)) ?_
      rw [hs.1]
      by_cases e1 : z k = 0
      · refine ift (by rw [e1]; rfl) ?_
        rw [if_pos e1] at hc1
        unfold fX6_lost_b68 fX6_lost_b71
        by_cases e2 : lsC z k = 0
        · refine ift (by rw [e2]; rfl) ?_
          rw [if_pos ⟨e1, e2⟩] at hr1
          refine sa1 h.1.r0_2 ?_
          refine sa1 h.1.io2 ?_
          rw [e2] at h
          refine ca1 (add5_sp h.1 h.2.2.1 0 _ (by show min 0 1 < 16; omega)) ?_
          rintro G1 ⟨h1, u1⟩
          rw [q1, nn_add, nn_add]
          refine zl ?_
          refine zl ?_
          rw [← hc1]
          refine ih (k + 1) G1 (by omega) (by omega) ?_ (hf.trans (u1.1.fo (by omega)))
          rw [hc1, hr1, e2]
          exact h.fx h1 u1 rfl rfl
        · refine ifn (by rw [q0, nn_eq (by omega) (by omega)]; exact e2) ?_
          rw [if_neg (fun x => e2 x.2)] at hr1
          rw [q1, nn_add, nn_add]
          refine zl ?_
          refine zl ?_
          rw [← hc1]
          refine ih (k + 1) G (by omega) (by omega) ?_ hf
          rw [hc1, hr1, show min (lsC z k + 1) 1 = min (lsC z k) 1 by omega]
          exact h
      · refine ifn (by rw [q0, nn_eq (by omega) (by omega)]; exact e1) ?_
        replace hc1 : lsC z (k + 1) = lsC z k := by rw [hc1, if_neg e1]; rfl
        rw [if_neg (fun x => e1 x.1)] at hr1
        unfold fX6_lost_b71
        rw [q1, nn_add]
        refine zl ?_
        rw [← hc1]
        refine ih (k + 1) G (by omega) (by omega) ?_ hf
        rw [hc1, hr1]
        exact h
/-- the counts of what is shown: piece by piece -/
theorem countShown_b58 {G0 : zH} {c0 c1 b1 : Nat → Nat} {N m r i sI : Nat} {a : TA} {ro : TR} {st : TS} {s u f : Nat} {lv : Nat → Option Nat} {ke : TK} {pg qg : TP} {W : Nat → LVa} {q : Nat × Nat} {f1 : Nat} {sc0 : Nat → Int32} {Q : zH → Prop} (k19 : zH → Nat → Int32 → Int32 → Nat → Int32 → Option zH) (hs : s < 31) (hr : lv s = some r) (hq : (W s).1[i]? = some q) (hm : f1 + q.2 ≤ m) (hm6 : m ≤ 6000) (hi3 : i ≤ 3000) (hk : ∀ G1 sc1, (∀ k, k < m → sc1 k = sc0 k + nn (if f1 ≤ k ∧ k < f1 + q.2 then 1 else 0)) → Cl G1 c1 b1 N a ro st (s, u, f, lv) ke pg qg sc1 W → Fo G0 c0 G1 c1 → ok (k19 G1 0 (nn sI) (nn m) r (nn (i + 1))) Q) : ∀ fu j G sc, j ≤ q.2 → q.2 - j < fu → (∀ k, k < m → sc k = sc0 k + nn (if f1 ≤ k ∧ k < f1 + j then 1 else 0)) → Cl G c1 b1 N a ro st (s, u, f, lv) ke pg qg sc W → Fo G0 c0 G c1 → ok (fX6_countShown_b58 k19 fu G 0 (nn sI) (nn m) r (nn i) (nn f1) (nn (f1 + j))) Q := by
  intro fu
  induction fu with
  | zero => intro j G sc _ h; omega
  | succ fu ih =>
    intro j G sc hj hfu hsc h hf
    have hL := h.lf hs hr
    have hil := (List.getElem?_eq_some_iff.mp hq).1
    obtain ⟨hs', hl, hm', ht', cap, fs, fl, fm, ft, a1, a2, a3, a4, a5, a6, a7⟩ := id hL
    unfold fX6_countShown_b58
    refine sa1 a1.f1 ?_
    refine sa1 (a1.rL (k := i) (by omega) a6) ?_
    rw [(a2 i q hq).2, nn_add]
    by_cases e : f1 + q.2 ≤ f1 + j
    · refine ift (by rw [nn_le (by omega) (by omega)]; exact e) ?_
      have : j = q.2 := by omega
      subst this
      unfold fX6_countShown_b96
      rw [q1, nn_add]
      refine zl ?_
      exact hk G sc hsc h hf
    · refine ifn (by rw [nn_le (by omega) (by omega)]; exact e) ?_
      refine ifn (by rw [nn_le (by omega) (by omega)]; omega) ?_
      refine sa1 h.1.r0_12 ?_
      refine sa1 (aR_at h.1.g26 (by omega) (by omega)) ?_
      refine sa1 (aW_at h.1.g26 (by omega) (by omega)) ?_
      have x1 := h.1.u26 (upd sc (f1 + j) (sc (f1 + j) + 1))
      have u1 : Up 0 G c1 0 (G.set 26 (.inl (0, (6000, .inl (upd sc (f1 + j) (sc (f1 + j) + 1)))))) c1 0 := Up.set h.1.g26 rfl (h.2.2.1 26 (by decide))
      rw [show nn (f1 + j) + 1 = nn (f1 + (j + 1)) by rw [q1, nn_add]; rfl]
      refine zl ?_
      refine ih (j + 1) _ _ (by omega) (by omega) ?_ (h.fx x1 u1 rfl rfl) (hf.trans (u1.1.fo (by omega)))
      intro k hk'
      by_cases ek : k = f1 + j
      · subst ek
        rw [upd_same, hsc _ hk', if_neg (by omega), if_pos (by omega), Int32.add_assoc]
        rfl
      · rw [upd_ne _ _ ek, hsc k hk']
        by_cases e2 : f1 ≤ k ∧ k < f1 + j
        · rw [if_pos e2, if_pos (by omega)]
        · rw [if_neg e2, if_neg (by omega)]
theorem countShown_b19 {G0 : zH} {c0 c1 b1 : Nat → Nat} {N r sI : Nat} {a : TA} {ro : TR} {st : TS} {s u f : Nat} {lv : Nat → Option Nat} {ke : TK} {pg qg : TP} {W : Nat → LVa} (hs : s < 31) (hr : lv s = some r) (hv : okV st.1 st.2.1 (W s)) (hon : st.1 ≤ 1600 ∧ st.2.1 ≤ 6000) (hsI : sI ≤ 1) : ∀ fu i G sc, i ≤ (W s).1.length → (W s).1.length - i < fu → (∀ k, k < (if sI = 0 then st.1 else st.2.1) → sc k = nn (frC (W s).1 (bas sI + k) (sz ((W s).1.take i)))) → Cl G c1 b1 N a ro st (s, u, f, lv) ke pg qg sc W → Fo G0 c0 G c1 → ok (fX6_countShown_b19 fu G 0 (nn sI) (nn (if sI = 0 then st.1 else st.2.1)) r (nn i)) fun G' => ∃ sc', (∀ k, k < (if sI = 0 then st.1 else st.2.1) → sc' k = nn (frC (W s).1 (bas sI + k) (sz (W s).1))) ∧ Cl G' c1 b1 N a ro st (s, u, f, lv) ke pg qg sc' W ∧ Fo G0 c0 G' c1 := by
  have hwf := okP_wf hv.1
  have hlen := len_le_sz hwf
  have hz := hv.2.1
  have hN : (if sI = 0 then st.1 else st.2.1) ≤ 6000 := by split <;> omega
  intro fu
  induction fu with
  | zero => intro i G sc _ h; omega
  | succ fu ih =>
    intro i G sc hi hfu hsc h hf
    have hL := h.lf hs hr
    obtain ⟨hs', hl, hm', ht', cap, fs, fl, fm, ft, a1, a2, a3, a4, a5, a6, a7⟩ := id hL
    unfold fX6_countShown_b19
    refine sa1 hL.n2 ?_
    by_cases e : (W s).1.length ≤ i
    · refine ift (by rw [nn_le (by omega) (by omega)]; exact e) ?_
      have hil : i = (W s).1.length := by omega
      subst hil
      rw [List.take_length] at hsc
      exact ok_some ⟨sc, hsc, h, hf⟩
    · refine ifn (by rw [nn_le (by omega) (by omega)]; exact e) ?_
      obtain ⟨q, hq⟩ : ∃ q, (W s).1[i]? = some q := ⟨(W s).1[i], List.getElem?_eq_getElem (by omega)⟩
      have hok := hv.1 q (List.mem_of_getElem? hq)
      unfold okQ at hok
      have hst := sz_take_in hq
      have hfc := fun v => frC_in (v := v) hq q.2 (Nat.le_refl _)
      rw [← hst] at hfc
      refine sa1 a1.f0 ?_
      refine sa1 (a1.rS (k := i) (by omega) a6) ?_
      rw [(a2 i q hq).1]
      refine sa1 (storeOf_nn (by omega)) ?_
      by_cases e1 : (if 1600 ≤ q.1 then 1 else 0) = sI
      · refine ift (by rw [e1]) ?_
        refine sa1 a1.f0 ?_
        refine sa1 (a1.rS (k := i) (by omega) a6) ?_
        rw [(a2 i q hq).1]
        refine sa1 (placeInStore6 (by omega)) ?_
        have h01 : sI = 0 ∨ sI = 1 := by omega
        have hb : bas sI + (if q.1 < 1600 then q.1 else q.1 - 1600) = q.1 ∧ (if q.1 < 1600 then q.1 else q.1 - 1600) + q.2 ≤ (if sI = 0 then st.1 else st.2.1) := by
          rcases h01 with rfl | rfl
          · rw [if_pos (show (0 : Nat) = 0 from rfl)]
            show 0 + _ = _ ∧ _
            split at e1 <;> split <;> omega
          · rw [if_neg (show ¬ (1 : Nat) = 0 by omega)]
            show 1600 + _ = _ ∧ _
            split at e1 <;> split <;> omega
        generalize (if q.1 < 1600 then q.1 else q.1 - 1600) = f1 at *
        have := countShown_b58 (G0 := G0) (c0 := c0) (sc0 := sc) (Q := fun G' => ∃ sc', (∀ k, k < (if sI = 0 then st.1 else st.2.1) → sc' k = nn (frC (W s).1 (bas sI + k) (sz (W s).1))) ∧ Cl G' c1 b1 N a ro st (s, u, f, lv) ke pg qg sc' W ∧ Fo G0 c0 G' c1) (sI := sI) (f1 := f1) (fX6_countShown_b19 fu) hs hr hq hb.2 hN (by omega) (fun G1 sc1 hs1 h1 hf1 => ih (i + 1) G1 sc1 (by omega) (by omega) (fun k hk => by
          rw [hs1 k hk, hsc k hk, nn_add, hfc]
          congr 2
          by_cases e2 : f1 ≤ k ∧ k < f1 + q.2
          · rw [if_pos e2, if_pos (by omega)]
          · rw [if_neg e2, if_neg (by omega)]) h1 hf1) FU 0 G sc (by omega) (by rw [FU_eq]; omega) (fun k hk => by rw [if_neg (by omega)]; exact (Int32.add_zero _).symm) h hf
        exact this
      · refine ifn (by rw [nn_eq (by split <;> omega) (by omega)]; exact e1) ?_
        unfold fX6_countShown_b96
        rw [q1, nn_add]
        refine zl ?_
        refine ih (i + 1) G sc (by omega) (by omega) (fun k hk => ?_) h hf
        rw [hsc k hk, hfc]
        have h01 : sI = 0 ∨ sI = 1 := by omega
        rw [if_neg (by
          rcases h01 with rfl | rfl
          · rw [if_pos (show (0 : Nat) = 0 from rfl)] at hk
            show ¬ (q.1 ≤ 0 + k ∧ 0 + k < q.1 + q.2)
            split at e1 <;> omega
          · rw [if_neg (show ¬ (1 : Nat) = 0 by omega)] at hk
            show ¬ (q.1 ≤ 1600 + k ∧ 1600 + k < q.1 + q.2)
            split at e1 <;> omega)]
        rfl
theorem lost7c {M0 : MS} {m sI ts : Nat} {St : Nat → Nat} {on an : Nat} {f0 : Nat → Int64} {z : Nat → Nat} (hm : m = if sI = 0 then on else an) (hsI : sI ≤ 1) : ∀ fu k M, k ≤ m → m - k < fu → RSt M St on an → (∀ k, k < m → M.2.1 31 k = nn (if z k = 0 then 0 else 1)) → RRo M (min (lsC z k) 1, lsR f0 z k) → Mq M0 M → M.1 4 = nn ts → ∃ M1, fX7_lost_b86 fu M (nn sI) (nn (lsC z k)) (nn k) = some (nn (lsC z m), M1) ∧ RRo M1 (min (lsC z m) 1, lsR f0 z m) ∧ Mq M0 M1 ∧ M1.1 4 = nn ts := by
  intro fu
  induction fu with
  | zero => intro k M _ h; omega
  | succ fu ih =>
    intro k M hk hfu hS hsh hro hq h4
    have hl := lsC_le z k
    have hm6 : m ≤ 6000 := by have := hS.2.2.1; have := hS.2.2.2.1; rw [hm]; split <;> omega
    unfold fX7_lost_b86
    rw [storeMany7 hS hsI, ob1_some, ← hm, if_le (by omega) (by omega)]
    by_cases e : m ≤ k
    · rw [if_pos e]
      have : k = m := by omega
      subst this
      exact ⟨M, rfl, hro, hq, h4⟩
    · have hc1 : lsC z (k + 1) = lsC z k + if z k = 0 then 1 else 0 := rfl
      have hr1 : lsR f0 z (k + 1) = if z k = 0 ∧ lsC z k = 0 then vp_updL (lsR f0 z k) 0 (nn k).toInt64 else lsR f0 z k := rfl
      have b114 : ∀ M', RSt M' St on an → (∀ k, k < m → M'.2.1 31 k = nn (if z k = 0 then 0 else 1)) → RRo M' (min (lsC z (k + 1)) 1, lsR f0 z (k + 1)) → Mq M0 M' → M'.1 4 = nn ts → ∃ M1, fX7_lost_b114 (fX7_lost_b86 fu) M' (nn sI) (nn (lsC z k)) (nn k) = some (nn (lsC z m), M1) ∧ RRo M1 (min (lsC z m) 1, lsR f0 z m) ∧ Mq M0 M1 ∧ M1.1 4 = nn ts := by
        intro M' hS' hsh' hro' hq' h4'
        unfold fX7_lost_b114 fX7_lost_b129
        rw [rd_nn (by omega) (by omega), ob1_some, hsh' k (by omega)]
        by_cases e1 : z k = 0
        · rw [if_pos (show nn (if z k = 0 then 0 else 1) = 0 by rw [if_pos e1]; rfl), q1, flag_nn (by omega), ob1_some, nn_add, zlt, zlt, nn_add]
          rw [if_pos e1] at hc1
          rw [← hc1]
          exact ih (k + 1) M' (by omega) (by omega) hS' hsh' hro' hq' h4'
        · rw [if_neg (show ¬ nn (if z k = 0 then 0 else 1) = 0 by rw [if_neg e1]; decide), q0, flag_nn (by omega), ob1_some, nn_add, zlt, zlt, q1, nn_add]
          rw [if_neg e1] at hc1
          rw [← hc1]
          exact ih (k + 1) M' (by omega) (by omega) hS' hsh' hro' hq' h4'
      rw [if_neg e, rd_nn (by omega) (by omega), ob1_some, hsh k (by omega)]
      by_cases e1 : z k = 0
      · rw [if_pos (show nn (if z k = 0 then 0 else 1) = 0 by rw [if_pos e1]; rfl)]
        rw [if_pos e1] at hc1
        by_cases e2 : lsC z k = 0
        · rw [if_pos (by rw [e2]; rfl)]
          rw [if_pos ⟨e1, e2⟩] at hr1
          rw [e2] at hro
          rw [enters_sp hro.1 (by show min 0 1 < 24; omega), ob1_some]
          refine b114 (en M (min 0 1) (nn k).toInt64) (hS.cg rfl rfl rfl rfl) hsh ?_ (hq.en _ _) h4
          rw [hc1, hr1, e2]
          exact hro.en _
        · rw [if_neg (by rw [q0, nn_eq (by omega) (by omega)]; exact e2)]
          rw [if_neg (fun x => e2 x.2)] at hr1
          refine b114 M hS hsh ?_ hq h4
          rw [hc1, hr1, show min (lsC z k + 1) 1 = min (lsC z k) 1 by omega]
          exact hro
      · rw [if_neg (show ¬ nn (if z k = 0 then 0 else 1) = 0 by rw [if_neg e1]; decide)]
        replace hc1 : lsC z (k + 1) = lsC z k := by rw [hc1, if_neg e1]; rfl
        rw [if_neg (fun x => e1 x.1)] at hr1
        refine b114 M hS hsh ?_ hq h4
        rw [hc1, hr1]
        exact hro
theorem lost7b {M0 : MS} {P : PC} {St : Nat → Nat} {on an m sI ts : Nat} {Q : Option (Int32 × MS) → Prop} (hk : okP on an P) (hsI : sI ≤ 1) (hm : m = if sI = 0 then on else an) (H : ∀ M, RBk M P → RSt M St on an → (∀ k, k < m → M.2.1 31 k = nn (if frC P (bas sI + k) (sz P) = 0 then 0 else 1)) → Mq M0 M → M.1 4 = nn ts → Q (fX7_lost_b77 M (nn sI))) : ∀ fu p M, p ≤ sz P → sz P - p < fu → RBk M P → RSt M St on an → (∀ k, k < m → M.2.1 31 k = nn (if frC P (bas sI + k) p = 0 then 0 else 1)) → Mq M0 M → M.1 4 = nn ts → Q (fX7_lost_b43 fu M (nn sI) (nn p)) := by
  intro fu
  induction fu with
  | zero => intro p M _ h; omega
  | succ fu ih =>
    intro p M hp hfu hB hS hsh hq h4
    have hz := hB.2.1
    have hon := hS.2.2.1
    have han := hS.2.2.2.1
    unfold fX7_lost_b43
    rw [hB.1, if_le (by omega) (by omega)]
    by_cases e : sz P ≤ p
    · rw [if_pos e]
      have : p = sz P := by omega
      subst this
      exact H M hB hS hsh hq h4
    · rw [if_neg e, storeAt_sp hB hk hon han (by omega), ob1_some]
      have hsl := src_lt hk hon han (show p < sz P by omega)
      have hfc : ∀ v, frC P v (p + 1) = frC P v p + if srcAt P p = v then 1 else 0 := fun _ => rfl
      have hfn : ∀ v, ¬ srcAt P p = v → frC P v (p + 1) = frC P v p := fun v hv => by rw [hfc, if_neg hv]; rfl
      have hfp : ∀ v, srcAt P p = v → frC P v (p + 1) = frC P v p + 1 := fun v hv => by rw [hfc, if_pos hv]
      have h01 : sI = 0 ∨ sI = 1 := by omega
      unfold fX7_lost_b71
      by_cases e1 : (if srcAt P p < 1600 then 0 else 1) = sI
      · rw [if_pos (by rw [e1]), placeAt_sp hB hk hon han (by omega), ob1_some]
        have hpl : bas sI + (if srcAt P p < 1600 then srcAt P p else srcAt P p - 1600) = srcAt P p ∧ (if srcAt P p < 1600 then srcAt P p else srcAt P p - 1600) < m := by
          rcases h01 with rfl | rfl
          · rw [hm, if_pos (show (0 : Nat) = 0 from rfl)]
            show 0 + _ = _ ∧ _
            split at e1 <;> split <;> omega
          · rw [hm, if_neg (show ¬ (1 : Nat) = 0 by omega)]
            show 1600 + _ = _ ∧ _
            split at e1 <;> split <;> omega
        generalize (if srcAt P p < 1600 then srcAt P p else srcAt P p - 1600) = pl1 at *
        have hm6 : m ≤ 6000 := by rw [hm]; split <;> omega
        rw [wr_nn (show pl1 < 6000 by omega) (by omega), ob1_some, nn_tn (by omega), zlt, q1, nn_add]
        refine ih (p + 1) _ (by omega) (by omega) (hB.cg rfl rfl) (hS.cg rfl rfl rfl rfl) (fun k hk' => ?_) hq h4
        show upd (M.2.1 31) pl1 (vp_nar .boolean (nn 1)) k = _
        by_cases ek : k = pl1
        · subst ek
          rw [upd_same, hfp _ hpl.1.symm, if_neg (show ¬ frC P (bas sI + k) p + 1 = 0 by omega)]
          rfl
        · rw [upd_ne _ _ ek, hsh k hk', hfn _ (by omega)]
      · rw [if_neg (by rw [nn_eq (by split <;> omega) (by omega)]; exact e1), zlt, q1, nn_add]
        refine ih (p + 1) M (by omega) (by omega) hB hS (fun k hk' => ?_) hq h4
        rw [hsh k hk', hfn _ (by
          rcases h01 with rfl | rfl
          · rw [hm, if_pos (show (0 : Nat) = 0 from rfl)] at hk'
            show ¬ srcAt P p = 0 + k
            split at e1 <;> omega
          · rw [hm, if_neg (show ¬ (1 : Nat) = 0 by omega)] at hk'
            show ¬ srcAt P p = 1600 + k
            split at e1 <;> omega)]
theorem lost7a {M0 : MS} {P : PC} {St : Nat → Nat} {on an m sI ts : Nat} {Q : Option (Int32 × MS) → Prop} (hsI : sI ≤ 1) (hm : m = if sI = 0 then on else an) (H : ∀ M, RBk M P → RSt M St on an → (∀ k, k < m → M.2.1 31 k = nn 0) → Mq M0 M → M.1 4 = nn ts → Q (fX7_lost_b41 M (nn sI))) : ∀ fu k M, k ≤ m → m - k < fu → RBk M P → RSt M St on an → (∀ j, j < k → M.2.1 31 j = nn 0) → Mq M0 M → M.1 4 = nn ts → Q (fX7_lost_b19 fu M (nn sI) (nn k)) := by
  intro fu
  induction fu with
  | zero => intro k M _ h; omega
  | succ fu ih =>
    intro k M hk hfu hB hS hsh hq h4
    have hm6 : m ≤ 6000 := by have := hS.2.2.1; have := hS.2.2.2.1; rw [hm]; split <;> omega
    unfold fX7_lost_b19
    rw [storeMany7 hS hsI, ob1_some, ← hm, if_le (by omega) (by omega)]
    by_cases e : m ≤ k
    · rw [if_pos e]
      exact H M hB hS (fun j hj => hsh j (by omega)) hq h4
    · rw [if_neg e, wr_nn (show k < 6000 by omega) (by omega), ob1_some, nn_tn (by omega), zlt, q1, nn_add]
      refine ih (k + 1) _ (by omega) (by omega) (hB.cg rfl rfl) (hS.cg rfl rfl rfl rfl) (fun j hj => ?_) hq h4
      show upd (M.2.1 31) k _ j = _
      by_cases ej : j = k
      · subst ej
        rw [upd_same]
        rfl
      · rw [upd_ne _ _ ej]
        exact hsh j (by omega)
theorem op_lost : Op_lost Inv := by
  intro k G x hI
  refine op_fin (f6 := fX6_lost G 0 x) (f7 := fun M => fX7_lost M x) hI ?_
  intro c bu a ro st s u f lv ke pg qg sc W M T St kd h1 h5 h6
  obtain ⟨hv, ht⟩ := h5.cur
  have hRB : RBk (mI M 0 0) (W s).1 := h6.2.2.2.1.cg rfl rfl
  have hRV := RV_of hRB (h6.2.2.1.cg rfl rfl rfl rfl : RSt (mI M 0 0) St st.1 st.2.1) hv.1 ht
  have hRV2 : RV (mI (mI M 0 0) 1 0) (sz (W s).1) (fun p => St (srcAt (W s).1 p)) := hRV
  have hs : s < 31 := h5.2.2.2.1.1
  have hz := hv.2.1
  have hmk : RMk M (W s) := h6.2.2.2.2.1
  have hon := h5.2.2.1.2
  have hRS : RSt (mI M 0 0) St st.1 st.2.1 := h6.2.2.1.cg rfl rfl rfl rfl
  have m0 : (0 : Int64).toInt = (0 : Nat) := rfl
  have m1 : (1 : Int64).toInt = (1 : Nat) := rfl
  rcases nn_or x with hx | ⟨p, hp, rfl⟩
  · refine fin0 (-1) h5 h6 ?_ ?_
    · unfold fX6_lost
      refine ift hx ?_
      exact ret0 h1 h5
    · unfold fX7_lost
      rw [zlt, in_neg hx]
      rfl
  · by_cases e : p ≤ 1
    · have hN : (if p = 0 then st.1 else st.2.1) ≤ 6000 := by split <;> omega
      have hfl := fun v => frC_le (W s).1 v (sz (W s).1)
      have href : ∃ M1, fX7_lost_b19 FU (mI M 0 0) (nn p) (nn 0) = some (nn (lsC (fun k => frC (W s).1 (bas p + k) (sz (W s).1)) (if p = 0 then st.1 else st.2.1)), M1) ∧ RRo M1 (min (lsC (fun k => frC (W s).1 (bas p + k) (sz (W s).1)) (if p = 0 then st.1 else st.2.1)) 1, lsR ro.2 (fun k => frC (W s).1 (bas p + k) (sz (W s).1)) (if p = 0 then st.1 else st.2.1)) ∧ Mq M M1 ∧ M1.1 4 = nn a.2.1 := by
        refine lost7a (M0 := M) (P := (W s).1) (St := St) (m := if p = 0 then st.1 else st.2.1) (ts := a.2.1) (Q := fun z => ∃ M1, z = some (nn (lsC (fun k => frC (W s).1 (bas p + k) (sz (W s).1)) (if p = 0 then st.1 else st.2.1)), M1) ∧ RRo M1 (min (lsC (fun k => frC (W s).1 (bas p + k) (sz (W s).1)) (if p = 0 then st.1 else st.2.1)) 1, lsR ro.2 (fun k => frC (W s).1 (bas p + k) (sz (W s).1)) (if p = 0 then st.1 else st.2.1)) ∧ Mq M M1 ∧ M1.1 4 = nn a.2.1) e rfl ?_ FU 0 (mI M 0 0) (by omega) (by rw [FU_eq]; omega) hRB hRS (fun j hj => by omega) (Mq_i0 M 0) h6.1.2
        intro M2 hB2 hS2 hz2 hq2 h42
        unfold fX7_lost_b41
        refine lost7b (M0 := M) (P := (W s).1) (St := St) (ts := a.2.1) (Q := fun z => ∃ M1, z = some (nn (lsC (fun k => frC (W s).1 (bas p + k) (sz (W s).1)) (if p = 0 then st.1 else st.2.1)), M1) ∧ RRo M1 (min (lsC (fun k => frC (W s).1 (bas p + k) (sz (W s).1)) (if p = 0 then st.1 else st.2.1)) 1, lsR ro.2 (fun k => frC (W s).1 (bas p + k) (sz (W s).1)) (if p = 0 then st.1 else st.2.1)) ∧ Mq M M1 ∧ M1.1 4 = nn a.2.1) hv.1 e rfl ?_ FU 0 M2 (by omega) (by rw [FU_eq]; omega) hB2 hS2 (fun k hk => by rw [hz2 k hk]; rfl) hq2 h42
        intro M3 hB3 hS3 hz3 hq3 h43
        unfold fX7_lost_b77
        rw [zlt]
        exact lost7c (M0 := M) (f0 := ro.2) (ts := a.2.1) rfl e FU 0 (mI M3 1 0) (by omega) (by rw [FU_eq]; omega) (hS3.cg rfl rfl rfl rfl) hz3 (RRo.zero _ _) hq3 h43
      obtain ⟨M1, r1, r2, r3, r4⟩ := href
      refine ⟨nn (lsC (fun k => frC (W s).1 (bas p + k) (sz (W s).1)) (if p = 0 then st.1 else st.2.1)), (min (lsC (fun k => frC (W s).1 (bas p + k) (sz (W s).1)) (if p = 0 then st.1 else st.2.1)) 1, lsR ro.2 (fun k => frC (W s).1 (bas p + k) (sz (W s).1)) (if p = 0 then st.1 else st.2.1)), a.2.1, M1, Nat.le_refl _, by show min _ 1 ≤ 16; omega, ?_, ?_, r3, r4, r2⟩
      · unfold fX6_lost
        refine ifn (by rw [nn_neg hp]; exact id) ?_
        refine ift (by rw [q1, nn_le hp (by omega)]; exact e) ?_
        refine sa1 h1.1.r0_3 ?_
        refine sa1 h1.1.io4 ?_
        refine sa1 (sizeOf_sp h1.1 e) ?_
        refine sa1 h1.1.io0 ?_
        have hcs : ok (fX6_countShown G 0 (nn p) (nn (if p = 0 then st.1 else st.2.1))) (fun G' => ∃ c1 b1 lv1 sc', (∀ k, k < (if p = 0 then st.1 else st.2.1) → sc' k = nn (frC (W s).1 (bas p + k) (sz (W s).1))) ∧ Cl G' c1 b1 (3016 * (4 * (k + 1) + a.2.1)) a ro st (s, u, f, lv1) ke pg qg sc' W ∧ Fo G c G' c1) := by
          unfold fX6_countShown
          refine sa1 h1.1.r0_4 ?_
          refine sa1 h1.1.io6 ?_
          refine ca2 (current_sp h1 hs) ?_
          rintro r' G1 ⟨c1, b1, lv1, x1, x2, x3, x4⟩
          change Cl G1 c1 b1 _ a ro st (s, u, f, lv1) ke pg qg sc W at x2
          refine sa1 x2.1.r0_12 ?_
          refine sa1 (fill_sp (n := 6000) (by omega) x2.1.g26) ?_
          have y1 := x2.1.u26 (fun j => if j < 6000 then (0 : Int32) else sc j)
          have u1 : Up 0 G1 c1 0 (G1.set 26 (.inl (0, (6000, .inl (fun j => if j < 6000 then (0 : Int32) else sc j))))) c1 0 := Up.set x2.1.g26 rfl (x2.2.2.1 26 (by decide))
          rw [q0]
          refine ok_imp (countShown_b19 (G0 := G) (c0 := c) hs x1 hv hon e FU 0 _ _ (by omega) (by have := len_le_sz (okP_wf hv.1); rw [FU_eq]; omega) (fun k hk => ?_) (x2.fx y1 u1 rfl rfl) (x3.trans (u1.1.fo (by omega)))) ?_
          · show (if k < 6000 then (0 : Int32) else sc k) = _
            rw [if_pos (by omega)]
            rfl
          · rintro G' ⟨sc', w1, w2, w3⟩
            exact ⟨c1, b1, lv1, sc', w1, w2, w3⟩
        refine ca1 hcs ?_
        rintro G1 ⟨c1, b1, lv1, sc', w1, w2, w3⟩
        refine sa1 w2.1.r0_2 ?_
        refine sa1 w2.1.io2 ?_
        refine ca1 (clear5_sp w2.1 w2.2.2.1 0) ?_
        rintro G3 ⟨g1, g2⟩
        rw [q0]
        refine ok_imp (lost6 (f0 := ro.2) (z := fun k => frC (W s).1 (bas p + k) (sz (W s).1)) hN (fun k hk => ⟨w1 k hk, by have := hfl (bas p + k); show frC (W s).1 (bas p + k) (sz (W s).1) ≤ 3000; omega⟩) FU 0 G3 (by omega) (by rw [FU_eq]; omega) (w2.fx g1 g2 rfl rfl) (w3.trans (g2.1.fo (by omega)))) ?_
        rintro z ⟨v1, v2, v3⟩
        exact ⟨v1, c1, b1, lv1, a.2.2.1, pg, qg, sc', v2, v3, h5.2.1.2.1, h5.2.2.2.2.2.2⟩
      · show fX7_lost M (nn p) = _
        unfold fX7_lost
        rw [zlt, in_c hp m0 m1, ob1_some, if_neg (by rw [if_pos (by omega)]; decide)]
        exact r1
    · refine fin0 (-1) h5 h6 ?_ ?_
      · unfold fX6_lost
        refine ifn (by rw [nn_neg hp]; exact id) ?_
        refine ifn (by rw [q1, nn_le hp (by omega)]; exact e) ?_
        exact ret0 h1 h5
      · show fX7_lost M (nn p) = _
        unfold fX7_lost
        rw [zlt, in_c hp m0 m1, ob1_some, if_pos (by rw [if_neg (by omega)]; rfl)]
